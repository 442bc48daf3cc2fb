/-! FIRST CALLS: school, set, dairy, bid, won, bottles, month -/
theorem nIl (n : Nat) : (OfNat.ofNat n : Int32) = nI n := rfl
/-- an index: a number and a place in a row -/
theorem ixp {x : Int32} {n k b : Nat} {B : Int32} (h : rg x n) (hB : B = nI b) (hk : b + n ≤ k) (hk2 : k < 2 ^ 31) : vp_in (B + x) k ∧ (B + x).toNatClampNeg = b + ix x := by
  have e := rg_nI h (by omega)
  have hl := rg_lt h
  have e2 : B + x = nI (b + ix x) := by rw [hB, ← nI_add, ← e]
  rw [e2]
  exact ⟨vp_in_nI (by omega) (by omega), nI_clamp (by omega)⟩
/-- world 0 of the class and a call that writes there -/
theorem RCX.now {M M' : Mem} {S : Sg} {A : Abs} (h : RCX M S) (h1 : RC 0 M' A) (e : ∀ c, pK c → M'.1 c 1 = M.1 c 1) (e1 : M'.1 1 1 0 = M.1 1 1 0) (e0 : M'.1 0 0 3 = M.1 0 0 3) (e7 : ∀ d, M'.1 7 d = M.1 7 d) (e9 : ∀ d, M'.1 39 d = M.1 39 d) (ea : ∀ c, c = 1000 ∨ c = 1001 → M'.1 c = M.1 c) (eo : M'.2.2 = M.2.2) : RCX M' (A, S.2) :=
  ⟨h1, h.2.1.fr e0 (fun B _ hB => hB.fr e e1 ea eo), h.2.2.fr e7 e9⟩
/-- the same of one number written in world 0 -/
theorem RCX.now1 {M : Mem} {S : Sg} {A : Abs} {c j : Nat} {v : Int32} (h : RCX M S) (h1 : RC 0 (wI M c 0 j v) A) (hc : pK c ∨ c = 1) : RCX (wI M c 0 j v) (A, S.2) := by
  have hc2 : c ≠ 0 ∧ c ≠ 7 ∧ c ≠ 39 ∧ c < 1000 := by unfold pK at hc; omega
  exact h.now h1 (fun c' _ => wI_ni (by omega)) (by rw [wI_ni (by omega)]) (by rw [wI_nc (by omega)]) (fun d => wI_nc (by omega)) (fun d => wI_nc (by omega)) (fun c' hc' => by funext i; exact wI_nc (by omega)) rfl
/-- the reference: a call that writes into its row st -/
theorem RMX.now {M M' : Mem} {S : Sg} {A : Abs} (h : RMX M S) (h1 : RM 44 M' A) (hf : RMf M' A) (hb : ∀ B, S.2.1 = some B → RM 45 M B → RM 45 M' B) (e0 : M'.1 10 0 4 = M.1 10 0 4) (e1 : M'.1 10 0 22 = M.1 10 0 22) (e7 : ∀ c, 72 ≤ c → c ≤ 77 → M'.1 c 0 = M.1 c 0) (ej : M'.2.1 = M.2.1) : RMX M' (A, S.2) := by
  refine ⟨h1, h.2.1.fr e0 hb, fun d hd => ?_, hf, e1.trans h.2.2.2.2⟩
  have h3 := h.2.2.1 d hd
  rw [e7 72 (by omega) (by omega), e7 73 (by omega) (by omega), e7 74 (by omega) (by omega), e7 75 (by omega) (by omega), e7 76 (by omega) (by omega), e7 77 (by omega) (by omega), ej]
  exact h3
/-- every call of the reference begins so -/
theorem RMX.thrown {M : Mem} {S : Sg} {v : Int32} (h : RMX M S) : RMX (wI M 10 0 0 v) S := by
  have e : ∀ c, c ≠ 10 → (wI M 10 0 0 v).1 c 0 = M.1 c 0 := fun c hc => wI_nc hc
  refine h.now (A := S.1) (h.1.fr (fun c hc => e c (by omega))) ?_ (fun B _ hB => hB.fr (fun c hc => e c (by omega))) (by rw [wI_at]; simp) (by rw [wI_at]; simp) (fun c h1 h2 => e c (by omega)) rfl
  obtain ⟨fd, h1, h2, h3⟩ := h.2.2.2.1
  refine ⟨fd, by rw [wI_at]; simpa using h1, h2, fun h4 => ?_⟩
  rw [e 66 (by omega)]
  exact h3 h4
theorem sC10 {M : Mem} {j : Nat} {v : Int32} : sameC M (wI M 10 0 j v) := sameC.wI (by unfold cK; omega)
theorem sC44 {M : Mem} {j : Nat} {v : Int32} : sameC M (wI M 44 0 j v) := sameC.wI (by unfold cK; omega)
/-- the reference: one number written into st -/
theorem RMX.now44 {M : Mem} {S : Sg} {A : Abs} {j : Nat} {v : Int32} (h : RMX M S) (h1 : RM 44 (wI M 44 0 j v) A) (ha : A.1 2 = S.1.1 2) (ha2 : ∀ c, 17 ≤ c → c ≤ 20 → A.2.1 c = S.1.2.1 c) : RMX (wI M 44 0 j v) (A, S.2) := by
  have e : ∀ c, c ≠ 44 → (wI M 44 0 j v).1 c 0 = M.1 c 0 := fun c hc => wI_nc hc
  refine h.now h1 ?_ (fun B _ hB => hB.fr (fun c hc => e c (by omega))) (by rw [e 10 (by omega)]) (by rw [e 10 (by omega)]) (fun c h1 h2 => e c (by omega)) rfl
  obtain ⟨fd, g1, g2, g3⟩ := h.2.2.2.1
  refine ⟨fd, by rw [e 10 (by omega)]; exact g1, g2, fun h4 p sh hp hsh => ?_⟩
  rw [e 66 (by omega), ha, g3 h4 p sh hp hsh]
  have key : ∀ n, frN A p sh (fd - 1) n = frN S.1 p sh (fd - 1) n := by
    intro n
    induction n with
    | zero => rfl
    | succ n ih => unfold frN; rw [ih, ha2 17 (by omega) (by omega), ha2 18 (by omega) (by omega), ha2 19 (by omega) (by omega), ha2 20 (by omega) (by omega)]
  rw [key]
/-! bottles -/
def sp_bottles (S : Sg) (x : Int32) : Int32 := if rg x (S.1.1 1) then nI (S.1.2.1 9 (ix x)) else -1
theorem tC_bottles {M : Mem} {S : Sg} {x : Int32} {P : Int32 → Mem → Prop} (h : RCX M S) (hw : WfX S) (hp : P (sp_bottles S x) M) : s_X11_bottles M x P := by
  unfold s_X11_bottles
  have hn : S.1.1 1 ≤ 5 := hw.1.2.1
  unfold sp_bottles at hp
  refine t_has4 h.1.2.1.1 (by omega) (fun hx => b1 ⟨rg_in ⟨hx.1, by have := hx.2; omega⟩, ?_⟩) (fun hx => b0 ?_)
  · rw [if_pos hx] at hp
    rw [(h.1.2.1.2 _ (rg_lt hx)).2.2.1]
    exact hp
  · rw [if_neg hx] at hp
    exact hp
theorem tM_bottles {M : Mem} {S : Sg} {x : Int32} {P : Int32 → Mem → Prop} (h : RMX M S) (hw : WfX S) (hp : ∀ M', sameC M M' → RMX M' S → P (sp_bottles S x) M') : s_X12_bottles M x P := by
  unfold s_X12_bottles
  intro M1 e1
  have hn : S.1.1 1 ≤ 5 := hw.1.2.1
  have h1 : RMX M1 S := by rw [e1]; exact h.thrown
  replace hp := hp M1 (by rw [e1]; exact sC10) h1
  unfold sp_bottles at hp
  refine t_isDairy h1.1.2.1.1 (by omega) (fun hx => b1 ?_) (fun hx => b0 ?_)
  · rw [if_pos hx] at hp
    obtain ⟨i1, i2⟩ := ixp (b := 70) (B := 70) (k := 320) hx rfl (by omega) (by omega)
    refine ⟨i1, ?_⟩
    rw [i2, (h1.1.2.1.2 _ (rg_lt hx)).2.2.1]
    exact hp
  · rw [if_neg hx] at hp
    exact hp
/-! set -/
def sp_set (S : Sg) (x1 x2 x3 : Int32) : Int32 × Sg := if rg x1 (S.1.1 0) ∧ rg x2 3 ∧ rg x3 (if x2 = 2 then 1000 else 101) then (nI (S.1.2.1 (3 + ix x2) (ix x1)), (aU S.1 (3 + ix x2) (ix x1) (ix x3), S.2)) else (-1, S)
theorem hr_up {A B : Abs} (h13 : B.2.1 13 = A.2.1 13) (h16 : B.2.1 16 = A.2.1 16) (a s k : Nat) : hr B a s k = hr A a s k := by
  induction k with
  | zero => rfl
  | succ k ih => unfold hr; rw [ih, h13, h16]
theorem aU_ne {A : Abs} {c j v c' : Nat} (h : c' ≠ c) : (aU A c j v).2.1 c' = A.2.1 c' := by
  funext j'
  show (if c' = c ∧ j' = j then v else A.2.1 c' j') = _
  rw [if_neg (fun q => h q.1)]
theorem aU_at {A : Abs} {c j v c' j' : Nat} : (aU A c j v).2.1 c' j' = if c' = c ∧ j' = j then v else A.2.1 c' j' := rfl
/-- the pictures depend on these numbers alone -/
theorem RCs.of {w : Nat} {M : Mem} {A B : Abs} (h : RCs w M A) (e : ∀ c, c < 7 → B.2.1 c = A.2.1 c) (e0 : B.1 0 = A.1 0) : RCs w M B := by
  unfold RCs at h ⊢
  rw [e0, e 0 (by omega), e 1 (by omega), e 2 (by omega), e 3 (by omega), e 4 (by omega), e 5 (by omega), e 6 (by omega)]
  exact h
theorem RCd.of {w : Nat} {M : Mem} {A B : Abs} (h : RCd w M A) (e : ∀ c, 7 ≤ c → c ≤ 11 → B.2.1 c = A.2.1 c) (e0 : B.1 1 = A.1 1) : RCd w M B := by
  unfold RCd at h ⊢
  rw [e0, e 7 (by omega) (by omega), e 8 (by omega) (by omega), e 9 (by omega) (by omega), e 10 (by omega) (by omega), e 11 (by omega) (by omega)]
  exact h
theorem RCm.of {w : Nat} {M : Mem} {A B : Abs} (h : RCm w M A) (e : B.2.1 26 = A.2.1 26) (e0 : B.2.1 12 = A.2.1 12) : RCm w M B := by
  unfold RCm at h ⊢
  rw [e0, e]
  exact h
theorem RCh.of {w : Nat} {M : Mem} {A B : Abs} (h : RCh w M A) (e : ∀ c, 13 ≤ c → c ≤ 16 → B.2.1 c = A.2.1 c) (e0 : B.1 4 = A.1 4) : RCh w M B := by
  unfold RCh at h ⊢
  rw [e0, e 13 (by omega) (by omega), e 14 (by omega) (by omega), e 15 (by omega) (by omega)]
  refine ⟨h.1, fun r hr' => ?_⟩
  obtain ⟨a, b, c, d⟩ := h.2 r hr'
  exact ⟨a, b, c, fun s hs => by rw [hr_up (e 13 (by omega) (by omega)) (e 16 (by omega) (by omega))]; exact d s hs⟩
theorem RCl.of {w : Nat} {M : Mem} {A B : Abs} (h : RCl w M A) (e : ∀ c, 23 ≤ c → c ≤ 25 → B.2.1 c = A.2.1 c) (e0 : B.1 3 = A.1 3) : RCl w M B := by
  unfold RCl at h ⊢
  rw [e0, e 23 (by omega) (by omega), e 24 (by omega) (by omega), e 25 (by omega) (by omega)]
  exact h
theorem RCa.of {w : Nat} {M : Mem} {A B : Abs} (h : RCa w M A) (e : ∀ c, 17 ≤ c → c ≤ 22 → B.2.1 c = A.2.1 c) (e0 : B.1 2 = A.1 2) (e2 : B.2.2 = A.2.2) : RCa w M B := by
  unfold RCa at h ⊢
  rw [e0, e2, e 17 (by omega) (by omega), e 18 (by omega) (by omega), e 19 (by omega) (by omega), e 20 (by omega) (by omega)]
  exact h
theorem RC.set {M : Mem} {A : Abs} (h : RC 0 M A) {k s v : Nat} (hk : k < 3) (hs : s < A.1 0) : RC 0 (wI M (18 + k) 0 s (nI v)) (aU A (3 + k) s v) := by
  have e : ∀ c, c ≠ 18 + k → (wI M (18 + k) 0 s (nI v)).1 c 0 = M.1 c 0 := fun c hc => wI_nc hc
  have u : ∀ c, c ≠ 3 + k → (aU A (3 + k) s v).2.1 c = A.2.1 c := fun c hc => aU_ne hc
  refine ⟨?_, (h.2.1.fr (fun c hc => e c (by omega))).of (fun c h1 h2 => u c (by omega)) rfl, (h.2.2.1.fr (by rw [e 1 (by omega)]) (e 12 (by omega))).of (u 26 (by omega)) (u 12 (by omega)), (h.2.2.2.1.fr (fun c hc => e c (by omega))).of (fun c h1 h2 => u c (by omega)) rfl, (h.2.2.2.2.1.fr (fun c hc => e c (by omega))).of (fun c h1 h2 => u c (by omega)) rfl, (h.2.2.2.2.2.fr (fun c hc => e c (by omega)) (fun c hc => by funext i; exact wI_nc (by omega)) rfl).of (fun c h1 h2 => u c (by omega)) rfl rfl⟩
  refine ⟨by rw [e 2 (by omega)]; exact h.1.1, fun s' hs' => ?_, fun s' h1 h2 => ?_⟩
  · obtain ⟨a1, a2, a3, a4, a5, a6, a7⟩ := h.1.2.1 s' hs'
    rw [e 15 (by omega), e 16 (by omega), e 17 (by omega), e 21 (by omega), u 0 (by omega), u 1 (by omega), u 2 (by omega), u 6 (by omega)]
    refine ⟨a1, a2, a3, ?_, ?_, ?_, a7⟩
    all_goals rw [wI_at, aU_at]
    all_goals by_cases hq : s' = s
    all_goals (rcases (show k = 0 ∨ k = 1 ∨ k = 2 by omega) with rfl | rfl | rfl) <;> simp [hq, a4, a5, a6]
    all_goals (subst hq; assumption)
  · obtain ⟨a4, a5, a7⟩ := h.1.2.2 s' h1 h2
    have hq : s' ≠ s := by have : s < A.1 0 := hs; have : A.1 0 ≤ s' := h1; omega
    rw [e 21 (by omega)]
    refine ⟨?_, ?_, a7⟩
    all_goals rw [wI_at, if_neg (fun q => hq q.2.2)]
    all_goals assumption
