/-! FIRST CALLS: school, set, dairy, bid, won, bottles, month -/
theorem nIl (n : Nat) : (OfNat.ofNat n : Int32) = nI n := rfl
/-- an index: a number and a place in a row -/
theorem ixp {x : Int32} {n k b : Nat} {B : Int32} (h : rg x n) (hB : B = nI b) (hk : b + n ≤ k) (hk2 : k < 2 ^ 31) : vp_in (B + x) k ∧ (B + x).toNatClampNeg = b + ix x := by
  have e := rg_nI h (by omega)
  have hl := rg_lt h
  have e2 : B + x = nI (b + ix x) := by rw [hB, ← nI_add, ← e]
  rw [e2]
  exact ⟨vp_in_nI (by omega) (by omega), nI_clamp (by omega)⟩
/-- world 0 of the class and a call that writes there -/
theorem RCX.now {M M' : Mem} {S : Sg} {A : Abs} (h : RCX M S) (h1 : RC 0 M' A) (e : ∀ c, pK c → M'.1 c 1 = M.1 c 1) (e1 : M'.1 1 1 0 = M.1 1 1 0) (e0 : M'.1 0 0 3 = M.1 0 0 3) (e7 : ∀ d, M'.1 7 d = M.1 7 d) (e9 : ∀ d, M'.1 39 d = M.1 39 d) (ea : ∀ c, c = 1000 ∨ c = 1001 → M'.1 c = M.1 c) (eo : M'.2.2 = M.2.2) : RCX M' (A, S.2) :=
  ⟨h1, h.2.1.fr e0 (fun B _ hB => hB.fr e e1 ea eo), h.2.2.fr e7 e9⟩
/-- the same of one number written in world 0 -/
theorem RCX.now1 {M : Mem} {S : Sg} {A : Abs} {c j : Nat} {v : Int32} (h : RCX M S) (h1 : RC 0 (wI M c 0 j v) A) (hc : pK c ∨ c = 1) : RCX (wI M c 0 j v) (A, S.2) := by
  have hc2 : c ≠ 0 ∧ c ≠ 7 ∧ c ≠ 39 ∧ c < 1000 := by unfold pK at hc; omega
  exact h.now h1 (fun c' _ => wI_ni (by omega)) (by rw [wI_ni (by omega)]) (by rw [wI_nc (by omega)]) (fun d => wI_nc (by omega)) (fun d => wI_nc (by omega)) (fun c' hc' => by funext i; exact wI_nc (by omega)) rfl
/-- the reference: a call that writes into its row st -/
theorem RMX.now {M M' : Mem} {S : Sg} {A : Abs} (h : RMX M S) (h1 : RM 44 M' A) (hf : RMf M' A) (hb : ∀ B, S.2.1 = some B → RM 45 M B → RM 45 M' B) (e0 : M'.1 10 0 4 = M.1 10 0 4) (e1 : M'.1 10 0 22 = M.1 10 0 22) (e7 : ∀ c, 72 ≤ c → c ≤ 77 → M'.1 c 0 = M.1 c 0) (ej : M'.2.1 = M.2.1) : RMX M' (A, S.2) := by
  refine ⟨h1, h.2.1.fr e0 hb, fun d hd => ?_, hf, e1.trans h.2.2.2.2⟩
  have h3 := h.2.2.1 d hd
  rw [e7 72 (by omega) (by omega), e7 73 (by omega) (by omega), e7 74 (by omega) (by omega), e7 75 (by omega) (by omega), e7 76 (by omega) (by omega), e7 77 (by omega) (by omega), ej]
  exact h3
/-- every call of the reference begins so -/
theorem RMX.thrown {M : Mem} {S : Sg} {v : Int32} (h : RMX M S) : RMX (wI M 10 0 0 v) S := by
  have e : ∀ c, c ≠ 10 → (wI M 10 0 0 v).1 c 0 = M.1 c 0 := fun c hc => wI_nc hc
  refine h.now (A := S.1) (h.1.fr (fun c hc => e c (by omega))) ?_ (fun B _ hB => hB.fr (fun c hc => e c (by omega))) (by rw [wI_at]; simp) (by rw [wI_at]; simp) (fun c h1 h2 => e c (by omega)) rfl
  obtain ⟨fd, h1, h2, h3⟩ := h.2.2.2.1
  refine ⟨fd, by rw [wI_at]; simpa using h1, h2, fun h4 => ?_⟩
  rw [e 66 (by omega)]
  exact h3 h4
theorem sC10 {M : Mem} {j : Nat} {v : Int32} : sameC M (wI M 10 0 j v) := sameC.wI (by unfold cK; omega)
theorem sC44 {M : Mem} {j : Nat} {v : Int32} : sameC M (wI M 44 0 j v) := sameC.wI (by unfold cK; omega)
/-- the reference: one number written into st -/
theorem RMX.now44 {M : Mem} {S : Sg} {A : Abs} {j : Nat} {v : Int32} (h : RMX M S) (h1 : RM 44 (wI M 44 0 j v) A) (ha : A.1 2 = S.1.1 2) (ha2 : ∀ c, 17 ≤ c → c ≤ 20 → A.2.1 c = S.1.2.1 c) : RMX (wI M 44 0 j v) (A, S.2) := by
  have e : ∀ c, c ≠ 44 → (wI M 44 0 j v).1 c 0 = M.1 c 0 := fun c hc => wI_nc hc
  refine h.now h1 ?_ (fun B _ hB => hB.fr (fun c hc => e c (by omega))) (by rw [e 10 (by omega)]) (by rw [e 10 (by omega)]) (fun c h1 h2 => e c (by omega)) rfl
  obtain ⟨fd, g1, g2, g3⟩ := h.2.2.2.1
  refine ⟨fd, by rw [e 10 (by omega)]; exact g1, g2, fun h4 p sh hp hsh => ?_⟩
  rw [e 66 (by omega), ha, g3 h4 p sh hp hsh]
  have key : ∀ n, frN A p sh (fd - 1) n = frN S.1 p sh (fd - 1) n := by
    intro n
    induction n with
    | zero => rfl
    | succ n ih => unfold frN; rw [ih, ha2 17 (by omega) (by omega), ha2 18 (by omega) (by omega), ha2 19 (by omega) (by omega), ha2 20 (by omega) (by omega)]
  rw [key]
/-! bottles -/
def sp_bottles (S : Sg) (x : Int32) : Int32 := if rg x (S.1.1 1) then nI (S.1.2.1 9 (ix x)) else -1
theorem tC_bottles {M : Mem} {S : Sg} {x : Int32} {P : Int32 → Mem → Prop} (h : RCX M S) (hw : WfX S) (hp : P (sp_bottles S x) M) : s_X11_bottles M x P := by
  unfold s_X11_bottles
  have hn : S.1.1 1 ≤ 5 := hw.1.2.1
  unfold sp_bottles at hp
  refine t_has4 h.1.2.1.1 (by omega) (fun hx => b1 ⟨rg_in ⟨hx.1, by have := hx.2; omega⟩, ?_⟩) (fun hx => b0 ?_)
  · rw [if_pos hx] at hp
    rw [(h.1.2.1.2 _ (rg_lt hx)).2.2.1]
    exact hp
  · rw [if_neg hx] at hp
    exact hp
theorem tM_bottles {M : Mem} {S : Sg} {x : Int32} {P : Int32 → Mem → Prop} (h : RMX M S) (hw : WfX S) (hp : ∀ M', sameC M M' → RMX M' S → P (sp_bottles S x) M') : s_X12_bottles M x P := by
  unfold s_X12_bottles
  intro M1 e1
  have hn : S.1.1 1 ≤ 5 := hw.1.2.1
  have h1 : RMX M1 S := by rw [e1]; exact h.thrown
  replace hp := hp M1 (by rw [e1]; exact sC10) h1
  unfold sp_bottles at hp
  refine t_isDairy h1.1.2.1.1 (by omega) (fun hx => b1 ?_) (fun hx => b0 ?_)
  · rw [if_pos hx] at hp
    obtain ⟨i1, i2⟩ := ixp (b := 70) (B := 70) (k := 320) hx rfl (by omega) (by omega)
    refine ⟨i1, ?_⟩
    rw [i2, (h1.1.2.1.2 _ (rg_lt hx)).2.2.1]
    exact hp
  · rw [if_neg hx] at hp
    exact hp
/-! set -/
def sp_set (S : Sg) (x1 x2 x3 : Int32) : Int32 × Sg := if rg x1 (S.1.1 0) ∧ rg x2 3 ∧ rg x3 (if x2 = 2 then 1000 else 101) then (nI (S.1.2.1 (3 + ix x2) (ix x1)), (aU S.1 (3 + ix x2) (ix x1) (ix x3), S.2)) else (-1, S)
theorem hr_up {A B : Abs} (h13 : B.2.1 13 = A.2.1 13) (h16 : B.2.1 16 = A.2.1 16) (a s k : Nat) : hr B a s k = hr A a s k := by
  induction k with
  | zero => rfl
  | succ k ih => unfold hr; rw [ih, h13, h16]
theorem aU_ne {A : Abs} {c j v c' : Nat} (h : c' ≠ c) : (aU A c j v).2.1 c' = A.2.1 c' := by
  funext j'
  show (if c' = c ∧ j' = j then v else A.2.1 c' j') = _
  rw [if_neg (fun q => h q.1)]
theorem aU_at {A : Abs} {c j v c' j' : Nat} : (aU A c j v).2.1 c' j' = if c' = c ∧ j' = j then v else A.2.1 c' j' := rfl
/-- the pictures depend on these numbers alone -/
theorem RCs.of {w : Nat} {M : Mem} {A B : Abs} (h : RCs w M A) (e : ∀ c, c < 7 → B.2.1 c = A.2.1 c) (e0 : B.1 0 = A.1 0) : RCs w M B := by
  unfold RCs at h ⊢
  rw [e0, e 0 (by omega), e 1 (by omega), e 2 (by omega), e 3 (by omega), e 4 (by omega), e 5 (by omega), e 6 (by omega)]
  exact h
theorem RCd.of {w : Nat} {M : Mem} {A B : Abs} (h : RCd w M A) (e : ∀ c, 7 ≤ c → c ≤ 11 → B.2.1 c = A.2.1 c) (e0 : B.1 1 = A.1 1) : RCd w M B := by
  unfold RCd at h ⊢
  rw [e0, e 7 (by omega) (by omega), e 8 (by omega) (by omega), e 9 (by omega) (by omega), e 10 (by omega) (by omega), e 11 (by omega) (by omega)]
  exact h
theorem RCm.of {w : Nat} {M : Mem} {A B : Abs} (h : RCm w M A) (e : B.2.1 26 = A.2.1 26) (e0 : B.2.1 12 = A.2.1 12) : RCm w M B := by
  unfold RCm at h ⊢
  rw [e0, e]
  exact h
theorem RCh.of {w : Nat} {M : Mem} {A B : Abs} (h : RCh w M A) (e : ∀ c, 13 ≤ c → c ≤ 16 → B.2.1 c = A.2.1 c) (e0 : B.1 4 = A.1 4) : RCh w M B := by
  unfold RCh at h ⊢
  rw [e0, e 13 (by omega) (by omega), e 14 (by omega) (by omega), e 15 (by omega) (by omega)]
  refine ⟨h.1, fun r hr' => ?_⟩
  obtain ⟨a, b, c, d⟩ := h.2 r hr'
  exact ⟨a, b, c, fun s hs => by rw [hr_up (e 13 (by omega) (by omega)) (e 16 (by omega) (by omega))]; exact d s hs⟩
theorem RCl.of {w : Nat} {M : Mem} {A B : Abs} (h : RCl w M A) (e : ∀ c, 23 ≤ c → c ≤ 25 → B.2.1 c = A.2.1 c) (e0 : B.1 3 = A.1 3) : RCl w M B := by
  unfold RCl at h ⊢
  rw [e0, e 23 (by omega) (by omega), e 24 (by omega) (by omega), e 25 (by omega) (by omega)]
  exact h
theorem RCa.of {w : Nat} {M : Mem} {A B : Abs} (h : RCa w M A) (e : ∀ c, 17 ≤ c → c ≤ 22 → B.2.1 c = A.2.1 c) (e0 : B.1 2 = A.1 2) (e2 : B.2.2 = A.2.2) : RCa w M B := by
  unfold RCa at h ⊢
  rw [e0, e2, e 17 (by omega) (by omega), e 18 (by omega) (by omega), e 19 (by omega) (by omega), e 20 (by omega) (by omega)]
  exact h
theorem RC.set {M : Mem} {A : Abs} (h : RC 0 M A) {k s v : Nat} (hk : k < 3) (hs : s < A.1 0) : RC 0 (wI M (18 + k) 0 s (nI v)) (aU A (3 + k) s v) := by
  have e : ∀ c, c ≠ 18 + k → (wI M (18 + k) 0 s (nI v)).1 c 0 = M.1 c 0 := fun c hc => wI_nc hc
  have u : ∀ c, c ≠ 3 + k → (aU A (3 + k) s v).2.1 c = A.2.1 c := fun c hc => aU_ne hc
  refine ⟨?_, (h.2.1.fr (fun c hc => e c (by omega))).of (fun c h1 h2 => u c (by omega)) rfl, (h.2.2.1.fr (by rw [e 1 (by omega)]) (e 12 (by omega))).of (u 26 (by omega)) (u 12 (by omega)), (h.2.2.2.1.fr (fun c hc => e c (by omega))).of (fun c h1 h2 => u c (by omega)) rfl, (h.2.2.2.2.1.fr (fun c hc => e c (by omega))).of (fun c h1 h2 => u c (by omega)) rfl, (h.2.2.2.2.2.fr (fun c hc => e c (by omega)) (fun c hc => by funext i; exact wI_nc (by omega)) rfl).of (fun c h1 h2 => u c (by omega)) rfl rfl⟩
  refine ⟨by rw [e 2 (by omega)]; exact h.1.1, fun s' hs' => ?_, fun s' h1 h2 => ?_⟩
  · obtain ⟨a1, a2, a3, a4, a5, a6, a7⟩ := h.1.2.1 s' hs'
    rw [e 15 (by omega), e 16 (by omega), e 17 (by omega), e 21 (by omega), u 0 (by omega), u 1 (by omega), u 2 (by omega), u 6 (by omega)]
    refine ⟨a1, a2, a3, ?_, ?_, ?_, a7⟩
    all_goals rw [wI_at, aU_at]
    all_goals by_cases hq : s' = s
    all_goals (rcases (show k = 0 ∨ k = 1 ∨ k = 2 by omega) with rfl | rfl | rfl) <;> simp [hq, a4, a5, a6]
    all_goals (subst hq; assumption)
  · obtain ⟨a4, a5, a7⟩ := h.1.2.2 s' h1 h2
    have hq : s' ≠ s := by have : s < A.1 0 := hs; have : A.1 0 ≤ s' := h1; omega
    rw [e 21 (by omega)]
    refine ⟨?_, ?_, a7⟩
    all_goals rw [wI_at, if_neg (fun q => hq q.2.2)]
    all_goals assumption
theorem RMs.wr {M : Mem} {A : Abs} {p : Nat} {v : Int32} (h : RMs 44 M A) (hn : A.1 0 ≤ 12) (hp : p ≠ 0 ∧ ¬ (10 ≤ p ∧ p < 22) ∧ ¬ (30 ≤ p ∧ p < 42) ∧ ¬ (50 ≤ p ∧ p < 62) ∧ ¬ (180 ≤ p ∧ p < 312)) : RMs 44 (wI M 44 0 p v) A := by
  have e : ∀ j, j ≠ p → (wI M 44 0 p v).1 44 0 j = M.1 44 0 j := fun j hj => by rw [wI_at, if_neg (fun q => hj q.2.2)]
  have u : ∀ c, c ≠ 44 → (wI M 44 0 p v).1 c 0 = M.1 c 0 := fun c hc => wI_nc hc
  refine ⟨by rw [e 0 (by omega)]; exact h.1, fun s hs => ?_⟩
  obtain ⟨a1, a2, a3, a4, a5, a6, a7⟩ := h.2 s hs
  rw [u 47 (by omega), u 48 (by omega), u 49 (by omega), e _ (by omega), e _ (by omega), e _ (by omega)]
  exact ⟨a1, a2, a3, a4, a5, a6, fun k hk => by rw [e _ (by omega)]; exact a7 k hk⟩
theorem RMd.wr {M : Mem} {A : Abs} {p : Nat} {v : Int32} (h : RMd 44 M A) (hn : A.1 1 ≤ 5) (hp : p ≠ 1 ∧ ¬ (70 ≤ p ∧ p < 75) ∧ ¬ (80 ≤ p ∧ p < 100)) : RMd 44 (wI M 44 0 p v) A := by
  have e : ∀ j, j ≠ p → (wI M 44 0 p v).1 44 0 j = M.1 44 0 j := fun j hj => by rw [wI_at, if_neg (fun q => hj q.2.2)]
  have u : ∀ c, c ≠ 44 → (wI M 44 0 p v).1 c 0 = M.1 c 0 := fun c hc => wI_nc hc
  refine ⟨by rw [e 1 (by omega)]; exact h.1, fun s hs => ?_⟩
  obtain ⟨a1, a2, a3, a4, a5⟩ := h.2 s hs
  rw [u 50 (by omega), u 51 (by omega), u 52 (by omega), e _ (by omega)]
  exact ⟨a1, a2, a3, a4, fun k hk => by rw [e _ (by omega)]; exact a5 k hk⟩
theorem RMm.wr {M : Mem} {A : Abs} {p : Nat} {v : Int32} (h : RMm 44 M A) (hp : p ≠ 3 ∧ ¬ (100 ≤ p ∧ p < 112) ∧ ¬ (120 ≤ p ∧ p < 132) ∧ ¬ (140 ≤ p ∧ p < 152)) : RMm 44 (wI M 44 0 p v) A := by
  have e : ∀ j, j ≠ p → (wI M 44 0 p v).1 44 0 j = M.1 44 0 j := fun j hj => by rw [wI_at, if_neg (fun q => hj q.2.2)]
  exact ⟨by rw [e 3 (by omega)]; exact h.1, fun m k hm hk => by rw [e _ (by omega)]; exact h.2 m k hm hk⟩
theorem RMh.wr {M : Mem} {A : Abs} {p : Nat} {v : Int32} (h : RMh 44 M A) (hp : p ≠ 5) : RMh 44 (wI M 44 0 p v) A := by
  have u : ∀ c, c ≠ 44 → (wI M 44 0 p v).1 c 0 = M.1 c 0 := fun c hc => wI_nc hc
  unfold RMh at h ⊢
  rw [u 53 (by omega), u 54 (by omega), u 55 (by omega), u 56 (by omega), wI_at, if_neg (fun q => hp q.2.2.symm)]
  exact h
theorem RMl.wr {M : Mem} {A : Abs} {p : Nat} {v : Int32} (h : RMl 44 M A) (hp : p ≠ 4) : RMl 44 (wI M 44 0 p v) A := by
  have u : ∀ c, c ≠ 44 → (wI M 44 0 p v).1 c 0 = M.1 c 0 := fun c hc => wI_nc hc
  unfold RMl at h ⊢
  rw [u 61 (by omega), u 62 (by omega), u 63 (by omega), wI_at, if_neg (fun q => hp q.2.2.symm)]
  exact h
theorem RMa.wr {M : Mem} {A : Abs} {p : Nat} {v : Int32} (h : RMa 44 M A) (hn : A.1 2 ≤ 16) (hp : p ≠ 2 ∧ ¬ (160 ≤ p ∧ p < 176)) : RMa 44 (wI M 44 0 p v) A := by
  have e : ∀ j, j ≠ p → (wI M 44 0 p v).1 44 0 j = M.1 44 0 j := fun j hj => by rw [wI_at, if_neg (fun q => hj q.2.2)]
  have u : ∀ c, c ≠ 44 → (wI M 44 0 p v).1 c 0 = M.1 c 0 := fun c hc => wI_nc hc
  refine ⟨by rw [e 2 (by omega)]; exact h.1, fun s hs => ?_⟩
  rw [u 57 (by omega), u 58 (by omega), u 59 (by omega), u 60 (by omega), e _ (by omega)]
  exact h.2 s hs
theorem RMs.of {q : Nat} {M : Mem} {A B : Abs} (h : RMs q M A) (e : ∀ c, c < 7 → B.2.1 c = A.2.1 c) (e0 : B.1 0 = A.1 0) : RMs q M B := by
  unfold RMs at h ⊢
  rw [e0, e 0 (by omega), e 1 (by omega), e 2 (by omega), e 3 (by omega), e 4 (by omega), e 5 (by omega), e 6 (by omega)]
  exact h
theorem RMd.of {q : Nat} {M : Mem} {A B : Abs} (h : RMd q M A) (e : ∀ c, 7 ≤ c → c ≤ 11 → B.2.1 c = A.2.1 c) (e0 : B.1 1 = A.1 1) : RMd q M B := by
  unfold RMd at h ⊢
  rw [e0, e 7 (by omega) (by omega), e 8 (by omega) (by omega), e 9 (by omega) (by omega), e 10 (by omega) (by omega), e 11 (by omega) (by omega)]
  exact h
theorem RMm.of {q : Nat} {M : Mem} {A B : Abs} (h : RMm q M A) (e : B.2.1 26 = A.2.1 26) (e0 : B.2.1 12 = A.2.1 12) : RMm q M B := by
  unfold RMm at h ⊢
  rw [e0, e]
  exact h
theorem RMh.of {q : Nat} {M : Mem} {A B : Abs} (h : RMh q M A) (e : ∀ c, 13 ≤ c → c ≤ 16 → B.2.1 c = A.2.1 c) (e0 : B.1 4 = A.1 4) : RMh q M B := by
  unfold RMh at h ⊢
  rw [e0, e 13 (by omega) (by omega), e 14 (by omega) (by omega), e 15 (by omega) (by omega), e 16 (by omega) (by omega)]
  exact h
theorem RMl.of {q : Nat} {M : Mem} {A B : Abs} (h : RMl q M A) (e : ∀ c, 23 ≤ c → c ≤ 25 → B.2.1 c = A.2.1 c) (e0 : B.1 3 = A.1 3) : RMl q M B := by
  unfold RMl at h ⊢
  rw [e0, e 23 (by omega) (by omega), e 24 (by omega) (by omega), e 25 (by omega) (by omega)]
  exact h
theorem RMa.of {q : Nat} {M : Mem} {A B : Abs} (h : RMa q M A) (e : ∀ c, 17 ≤ c → c ≤ 22 → B.2.1 c = A.2.1 c) (e0 : B.1 2 = A.1 2) : RMa q M B := by
  unfold RMa at h ⊢
  rw [e0, e 17 (by omega) (by omega), e 18 (by omega) (by omega), e 19 (by omega) (by omega), e 21 (by omega) (by omega), e 22 (by omega) (by omega)]
  exact h
theorem RM.set {M : Mem} {A : Abs} (h : RM 44 M A) (hw : Wf A) {k s v : Nat} (hk : k < 3) (hs : s < A.1 0) : RM 44 (wI M 44 0 (10 + 20 * k + s) (nI v)) (aU A (3 + k) s v) := by
  have hn := hw.1
  have u : ∀ c, c ≠ 3 + k → (aU A (3 + k) s v).2.1 c = A.2.1 c := fun c hc => aU_ne hc
  refine ⟨?_, (h.2.1.wr hw.2.1 (by omega)).of (fun c h1 h2 => u c (by omega)) rfl, (h.2.2.1.wr (by omega)).of (u 26 (by omega)) (u 12 (by omega)), (h.2.2.2.1.wr (by omega)).of (fun c h1 h2 => u c (by omega)) rfl, (h.2.2.2.2.1.wr (by omega)).of (fun c h1 h2 => u c (by omega)) rfl, (h.2.2.2.2.2.wr hw.2.2.1 (by omega)).of (fun c h1 h2 => u c (by omega)) rfl⟩
  have e : ∀ j, j ≠ 10 + 20 * k + s → (wI M 44 0 (10 + 20 * k + s) (nI v)).1 44 0 j = M.1 44 0 j := fun j hj => by rw [wI_at, if_neg (fun q => hj q.2.2)]
  have g : ∀ c, c ≠ 44 → (wI M 44 0 (10 + 20 * k + s) (nI v)).1 c 0 = M.1 c 0 := fun c hc => wI_nc hc
  refine ⟨by rw [e 0 (by omega)]; exact h.1.1, fun s' hs' => ?_⟩
  obtain ⟨a1, a2, a3, a4, a5, a6, a7⟩ := h.1.2 s' hs'
  have hs2 : s' < 12 := Nat.lt_of_lt_of_le hs' hn
  have hs3 : s < 12 := Nat.lt_of_lt_of_le hs hn
  rw [g 47 (by omega), g 48 (by omega), g 49 (by omega), u 0 (by omega), u 1 (by omega), u 2 (by omega), u 6 (by omega)]
  refine ⟨a1, a2, a3, ?_, ?_, ?_, fun k' hk' => by rw [e _ (by omega)]; exact a7 k' hk'⟩
  · rw [wI_at, aU_at]
    by_cases hq : k = 0 ∧ s' = s
    · rw [if_pos (by omega), if_pos (by omega)]
    · rw [if_neg (by omega), if_neg (by omega)]; exact a4
  · rw [wI_at, aU_at]
    by_cases hq : k = 1 ∧ s' = s
    · rw [if_pos (by omega), if_pos (by omega)]
    · rw [if_neg (by omega), if_neg (by omega)]; exact a5
  · rw [wI_at, aU_at]
    by_cases hq : k = 2 ∧ s' = s
    · rw [if_pos (by omega), if_pos (by omega)]
    · rw [if_neg (by omega), if_neg (by omega)]; exact a6
theorem tC_set {M : Mem} {S : Sg} {x1 x2 x3 : Int32} {P : Int32 → Mem → Prop} (h : RCX M S) (hw : WfX S) (hp : ∀ M', sameM M M' → RCX M' (sp_set S x1 x2 x3).2 → P (sp_set S x1 x2 x3).1 M') : s_X11_set M x1 x2 x3 P := by
  have hn : S.1.1 0 ≤ 12 := hw.1.1
  have bad : ¬ (rg x1 (S.1.1 0) ∧ rg x2 3 ∧ rg x3 (if x2 = 2 then 1000 else 101)) → P (-1) M := fun hb => by
    have := hp M sameM.rf
    unfold sp_set at this
    rw [if_neg hb] at this
    exact this h
  have core : ∀ (y : Int32) (n : Nat), y.toInt + 1 = n → (if x2 = 2 then 1000 else 101) = n → n ≤ 1000 → s_X11_set_13 x1 x2 x3 P M y := by
    intro y n hy hn2 hn3
    unfold s_X11_set_13
    refine t_has8 h.1.1.1 (by omega) (fun g1 => b1 ?_) (fun g1 => b0 (bad (fun q => g1 q.1)))
    refine t_within (by decide) (n := 3) (by decide) (fun g2 => b1 ?_) (fun g2 => b0 (bad (fun q => g2 q.2.1)))
    refine t_within (by decide) hy (fun g3 => c1 ?_) (fun g3 => c0 (bad (fun q => g3 (hn2 ▸ q.2.2))))
    have hv : rg x1 (S.1.1 0) ∧ rg x2 3 ∧ rg x3 (if x2 = 2 then 1000 else 101) := ⟨g1, g2, by rw [hn2]; exact g3⟩
    unfold sp_set at hp
    rw [if_pos hv] at hp
    have hs := rg_lt g1
    have leaf : ∀ k, k < 3 → ix x2 = k → P (M.1 (18 + k) 0 (ix x1)) (wI M (18 + k) 0 (ix x1) x3) := by
      intro k hk hk2
      have e3 : x3 = nI (ix x3) := rg_nI g3 (by omega)
      have hR := h.now1 (c := 18 + k) (j := ix x1) (v := x3) (A := aU S.1 (3 + k) (ix x1) (ix x3)) (by
        have := h.1.set hk hs (v := ix x3)
        rw [← e3] at this
        exact this) (by unfold pK; omega)
      have hv2 : M.1 (18 + k) 0 (ix x1) = nI (S.1.2.1 (3 + k) (ix x1)) := by
        obtain ⟨-, -, -, a4, a5, a6, -⟩ := h.1.1.2.1 _ hs
        rcases (show k = 0 ∨ k = 1 ∨ k = 2 by omega) with rfl | rfl | rfl <;> assumption
      rw [hk2] at hp
      rw [hv2]
      exact hp _ (sameM.wI (by unfold cK; omega)) hR
    have hin : vp_in x1 12 := rg_in ⟨g1.1, by have := g1.2; omega⟩
    refine ⟨fun z0 => ⟨fun z1 => ?_, fun z1 => ?_⟩, fun z0 => ?_⟩
    · refine ⟨hin, fun x6 e6 => ⟨hin, fun Mm eM => ?_⟩⟩
      rw [e6, eM]
      refine leaf 2 (by omega) ?_
      have e := rg_nI g2 (by omega)
      have l := rg_lt g2
      rcases (show ix x2 = 0 ∨ ix x2 = 1 ∨ ix x2 = 2 by omega) with q | q | q
      · rw [q] at e; exact absurd e z0
      · rw [q] at e; exact absurd e z1
      · exact q
    · refine ⟨hin, fun x6 e6 => ⟨hin, fun Mm eM => ?_⟩⟩
      rw [e6, eM]
      exact leaf 1 (by omega) (by rw [z1]; decide)
    · refine ⟨hin, fun x6 e6 => ⟨hin, fun Mm eM => ?_⟩⟩
      rw [e6, eM]
      exact leaf 0 (by omega) (by rw [z0]; decide)
  unfold s_X11_set
  exact ⟨fun q => core 100 101 (by decide) (if_neg q) (by omega), fun q => core 999 1000 (by decide) (if_pos q) (by omega)⟩
theorem tM_set {M : Mem} {S : Sg} {x1 x2 x3 : Int32} {P : Int32 → Mem → Prop} (h : RMX M S) (hw : WfX S) (hp : ∀ M', sameC M M' → RMX M' (sp_set S x1 x2 x3).2 → P (sp_set S x1 x2 x3).1 M') : s_X12_set M x1 x2 x3 P := by
  unfold s_X12_set
  intro M1 e1
  have hn : S.1.1 0 ≤ 12 := hw.1.1
  have h1 : RMX M1 S := by rw [e1]; exact h.thrown
  replace hp : ∀ M', sameC M1 M' → RMX M' (sp_set S x1 x2 x3).2 → P (sp_set S x1 x2 x3).1 M' := fun M' a b => hp M' (sameC.tr (by rw [e1]; exact sC10) a) b
  have bad : ¬ (rg x1 (S.1.1 0) ∧ rg x2 3 ∧ rg x3 (if x2 = 2 then 1000 else 101)) → P (-1) M1 := fun hb => by
    have := hp M1 sameC.rf
    unfold sp_set at this
    rw [if_neg hb] at this
    exact this h1
  refine t_isSchool h1.1.1.1 (by omega) (fun g1 => b1 ?_) (fun g1 => b0 (bad (fun q => g1 q.1)))
  refine t_in (by decide) (n := 3) (by decide) (fun g2 => b1 ?_) (fun g2 => b0 (bad (fun q => g2 q.2.1)))
  have core : ∀ (y : Int32) (n : Nat), y.toInt + 1 = n → (if x2 = 2 then 1000 else 101) = n → n ≤ 1000 → s_X12_set_37 x1 x2 x3 P M1 y 0 x3 := by
    intro y n hy hn2 hn3
    unfold s_X12_set_37
    refine t_in (by decide) hy (fun g3 => c1 ?_) (fun g3 => c0 (bad (fun q => g3 (hn2 ▸ q.2.2))))
    have hv : rg x1 (S.1.1 0) ∧ rg x2 3 ∧ rg x3 (if x2 = 2 then 1000 else 101) := ⟨g1, g2, by rw [hn2]; exact g3⟩
    unfold sp_set at hp
    rw [if_pos hv] at hp
    have hs := rg_lt g1
    have leaf : ∀ (k : Nat) (B : Int32), k < 3 → ix x2 = k → B = nI (10 + 20 * k) → s_X12_set_66 x1 x3 P M1 B := by
      intro k B hk hk2 hB
      have e3 : x3 = nI (ix x3) := rg_nI g3 (by omega)
      obtain ⟨i1, i2⟩ := ixp (b := 10 + 20 * k) (B := B) (k := 320) g1 hB (by omega) (by omega)
      unfold s_X12_set_66
      intro x4 e4
      rw [e4]
      refine ⟨i1, fun x5 e5 => ⟨i1, fun Mm eM => ?_⟩⟩
      rw [e5, eM, i2]
      have hR := h1.now44 (j := 10 + 20 * k + ix x1) (v := x3) (A := aU S.1 (3 + k) (ix x1) (ix x3)) (by
        have := h1.1.set hw.1 hk hs (v := ix x3)
        rw [← e3] at this
        exact this) rfl (fun c a b => aU_ne (by omega))
      have hv2 : M1.1 44 0 (10 + 20 * k + ix x1) = nI (S.1.2.1 (3 + k) (ix x1)) := by
        obtain ⟨-, -, -, a4, a5, a6, -⟩ := h1.1.1.2 _ hs
        rcases (show k = 0 ∨ k = 1 ∨ k = 2 by omega) with rfl | rfl | rfl <;> assumption
      rw [hk2] at hp
      rw [hv2]
      exact hp _ sC44 hR
    refine ⟨fun z0 => ⟨fun z1 => ?_, fun z1 => ?_⟩, fun z0 => ?_⟩
    · refine leaf 2 50 (by omega) ?_ rfl
      have e := rg_nI g2 (by omega)
      have l := rg_lt g2
      rcases (show ix x2 = 0 ∨ ix x2 = 1 ∨ ix x2 = 2 by omega) with q | q | q
      · rw [q] at e; exact absurd e z0
      · rw [q] at e; exact absurd e z1
      · exact q
    · exact leaf 1 30 (by omega) (by rw [z1]; decide) rfl
    · exact leaf 0 10 (by omega) (by rw [z0]; decide) rfl
  exact ⟨fun q => core 100 101 (by decide) (if_neg q) (by omega), fun q => core 999 1000 (by decide) (if_pos q) (by omega)⟩
