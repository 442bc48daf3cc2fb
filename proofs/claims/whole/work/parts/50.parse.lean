/-! TEXTS: a parser, and what its steps answer -/
abbrev Rt : Type := Nat × Option (List Int32)
def bd (r : Rt) (f : Nat → List Int32 → Rt) : Rt := match r.2 with
  | none => (r.1, none)
  | some A => f r.1 A
theorem bd_n {r : Rt} {f : Nat → List Int32 → Rt} (h : r.2 = none) : bd r f = (r.1, none) := by unfold bd; rw [h]
theorem bd_s {r : Rt} {A : List Int32} {f : Nat → List Int32 → Rt} (h : r.2 = some A) : bd r f = f r.1 A := by unfold bd; rw [h]
abbrev isD (x : Nat) : Prop := 48 ≤ x ∧ x ≤ 57
def fldN (x : Nat) : Nat := if x = 97 then 1 else if x = 115 then 2 else if x = 109 then 3 else if x = 100 then 4 else if x = 119 then 5 else if x = 104 then 6 else if x = 110 then 7 else if x = 120 then 8 else if x = 121 then 9 else if x = 99 then 10 else 0
theorem fldN_le {x : Nat} : fldN x ≤ 10 := by
  unfold fldN
  repeat' split
  all_goals omega
def pNm (c : Nat → Nat) : Nat → Nat → Nat → Nat × Nat
  | 0, p, n => (p, n)
  | k + 1, p, n => if isD (c p) then pNm c k (p + 1) (10 * n + (c p - 48)) else (p, n)
def pAt (c : Nat → Nat) (p : Nat) : Rt :=
  if isD (c p) then ((pNm c (if c p = 48 then 1 else 4) p 0).1, some [nI (pNm c (if c p = 48 then 1 else 4) p 0).2])
  else if fldN (c p) = 0 then (p, none) else (p + 1, some [nI (9999 + fldN (c p))])
def sg (x : Nat) : Int32 := - nI x
def pSl (c : Nat → Nat) : Nat → Nat → List Int32 → Rt
  | 0, p, L => (p, some L)
  | k + 1, p, L => if c p = 43 ∨ c p = 45 then bd (pAt c (p + 1)) (fun q A => pSl c k q (L ++ A ++ [sg (c p)])) else (p, some L)
def pSm (c : Nat → Nat) (N p : Nat) : Rt := bd (pAt c p) (fun q A => pSl c N q A)
abbrev isC (x : Nat) : Prop := x = 60 ∨ x = 62 ∨ x = 61
def pCm (c : Nat → Nat) (N p : Nat) : Rt := bd (pSm c N p) (fun q A => if isC (c q) then bd (pSm c N (q + 1)) (fun q2 B => (q2, some (A ++ B ++ [sg (c q)]))) else (q, none))
def pNt (c : Nat → Nat) : Nat → Nat → Bool → Nat × Bool
  | 0, p, b => (p, b)
  | k + 1, p, b => if c p = 33 then pNt c k (p + 1) (!b) else (p, b)
def pTs (RO : Nat → Rt) (c : Nat → Nat) (N p : Nat) : Rt :=
  bd (if c (pNt c N p false).1 = 40 then RO (pNt c N p false).1 else pCm c N (pNt c N p false).1) (fun q A => (q, some (if (pNt c N p false).2 = true then A ++ [-33] else A)))
def pAl (RO : Nat → Rt) (c : Nat → Nat) (N : Nat) : Nat → Nat → List Int32 → Rt
  | 0, p, L => (p, some L)
  | k + 1, p, L => if c p = 38 then bd (pTs RO c N (p + 1)) (fun q A => pAl RO c N k q (L ++ A ++ [-38])) else (p, some L)
def pAn (RO : Nat → Rt) (c : Nat → Nat) (N p : Nat) : Rt := bd (pTs RO c N p) (fun q A => pAl RO c N N q A)
def pOl (RO : Nat → Rt) (c : Nat → Nat) (N : Nat) : Nat → Nat → List Int32 → Rt
  | 0, p, L => (p, some L)
  | k + 1, p, L => if c p = 124 then bd (pAn RO c N (p + 1)) (fun q A => pOl RO c N k q (L ++ A ++ [-124])) else (p, some L)
def pOo (RO : Nat → Rt) (c : Nat → Nat) (N p : Nat) : Rt := bd (pAn RO c N p) (fun q A => pOl RO c N N q A)
def pBr (c : Nat → Nat) (N : Nat) : Nat → Nat → Rt
  | 0, q => (q, none)
  | k + 1, q => bd (pOo (pBr c N k) c N (q + 1)) (fun q2 A => if c q2 = 41 then (q2 + 1, some A) else (q2, none))
def pAct (c : Nat → Nat) (N : Nat) : Rt :=
  if c 0 = 101 ∨ c 0 = 114 ∨ c 0 = 111 then
    if c 1 = 58 then
      bd (pOo (pBr c N 8) c N 2) (fun q A => if c q = 117 then bd (pOo (pBr c N 8) c N (q + 1)) (fun q2 B => if q2 < N then (q2, none) else (q2, some (A ++ B ++ [-33] ++ [-38]))) else if q < N then (q, none) else (q, some A))
    else (1, none)
  else (0, none)
/-! bounds -/
def cE (c : Nat → Nat) (N : Nat) : Prop := ∀ p, N ≤ p → c p = 999
theorem cE.lt {c : Nat → Nat} {N p : Nat} (h : cE c N) (hp : c p ≠ 999) : p < N := Nat.not_le.mp (fun q => hp (h p q))
def okR (N p : Nat) (r : Rt) : Prop := p ≤ r.1 ∧ r.1 ≤ N ∧ ∀ A, r.2 = some A → 1 ≤ A.length ∧ A.length + p ≤ r.1
theorem okR.bad {N p q : Nat} (h1 : p ≤ q) (h2 : q ≤ N) : okR N p (q, none) := ⟨h1, h2, fun A h => by cases h⟩
theorem okR.some {N p q : Nat} {A : List Int32} (h2 : q ≤ N) (h3 : 1 ≤ A.length) (h4 : A.length + p ≤ q) : okR N p (q, some A) := ⟨by show p ≤ q; omega, h2, fun B h => by cases h; exact ⟨h3, h4⟩⟩
theorem ok_bd {N p0 p1 : Nat} {r : Rt} {f : Nat → List Int32 → Rt} (h : okR N p1 r) (h0 : p0 ≤ p1) (hf : ∀ q A, r = (q, Option.some A) → p1 ≤ q → q ≤ N → 1 ≤ A.length → A.length + p1 ≤ q → okR N p0 (f q A)) : okR N p0 (bd r f) := by
  obtain ⟨q, o⟩ := r
  cases o with
  | none => exact okR.bad (Nat.le_trans h0 h.1) h.2.1
  | some A => exact hf q A rfl h.1 h.2.1 (h.2.2 A rfl).1 (h.2.2 A rfl).2
theorem pNm_le {c : Nat → Nat} {N : Nat} (h : cE c N) : ∀ k p n, p ≤ N → p ≤ (pNm c k p n).1 ∧ (pNm c k p n).1 ≤ N := by
  intro k
  induction k with
  | zero => intro p n hp; exact ⟨Nat.le_refl _, hp⟩
  | succ k ih =>
    intro p n hp
    unfold pNm
    by_cases hd : isD (c p)
    · rw [if_pos hd]
      have := h.lt (p := p) (by omega)
      have := ih (p + 1) (10 * n + (c p - 48)) (by omega)
      exact ⟨by omega, this.2⟩
    · rw [if_neg hd]
      exact ⟨Nat.le_refl _, hp⟩
theorem pNm_lt {c : Nat → Nat} : ∀ k p n, (pNm c k p n).2 + 1 ≤ (n + 1) * 10 ^ k := by
  intro k
  induction k with
  | zero => intro p n; show n + 1 ≤ (n + 1) * 1; omega
  | succ k ih =>
    intro p n
    unfold pNm
    by_cases hd : isD (c p)
    · rw [if_pos hd]
      refine Nat.le_trans (ih _ _) ?_
      rw [Nat.pow_succ]
      have h1 : 10 * n + (c p - 48) + 1 ≤ (n + 1) * 10 := by omega
      have h2 := Nat.mul_le_mul_right (10 ^ k) h1
      have h3 : (n + 1) * 10 * 10 ^ k = (n + 1) * (10 ^ k * 10) := by rw [Nat.mul_assoc, Nat.mul_comm 10]
      omega
    · rw [if_neg hd]
      have h1 : 1 ≤ 10 ^ (k + 1) := Nat.pos_of_ne_zero (by simp)
      have h2 := Nat.mul_le_mul_left (n + 1) h1
      show n + 1 ≤ _
      omega
theorem ok_At {c : Nat → Nat} {N p : Nat} (h : cE c N) (hp : p ≤ N) : okR N p (pAt c p) := by
  unfold pAt
  by_cases hd : isD (c p)
  · rw [if_pos hd]
    have hlt := h.lt (p := p) (by omega)
    have key : ∀ k, okR N p ((pNm c (k + 1) p 0).1, some [nI (pNm c (k + 1) p 0).2]) := by
      intro k
      have e : pNm c (k + 1) p 0 = pNm c k (p + 1) (10 * 0 + (c p - 48)) := by
        conv => lhs; unfold pNm
        rw [if_pos hd]
      have b := pNm_le h k (p + 1) (10 * 0 + (c p - 48)) hlt
      rw [e]
      exact okR.some b.2 (Nat.le_refl _) (by show 1 + p ≤ _; omega)
    by_cases h48 : c p = 48
    · rw [if_pos h48]; exact key 0
    · rw [if_neg h48]; exact key 3
  · rw [if_neg hd]
    by_cases hz : fldN (c p) = 0
    · rw [if_pos hz]; exact okR.bad (Nat.le_refl _) hp
    · rw [if_neg hz]
      have hlt := h.lt (p := p) (fun q => hz (by rw [q]; decide))
      exact okR.some hlt (Nat.le_refl _) (by show 1 + p ≤ _; omega)
theorem len3 {L A : List Int32} {x : Int32} : (L ++ A ++ [x]).length = L.length + A.length + 1 := by simp; omega
theorem ok_Sl {c : Nat → Nat} {N : Nat} (h : cE c N) : ∀ k p L p0, p ≤ N → 1 ≤ L.length → L.length + p0 ≤ p → okR N p0 (pSl c k p L) := by
  intro k
  induction k with
  | zero => intro p L p0 hp h1 h2; exact okR.some hp h1 h2
  | succ k ih =>
    intro p L p0 hp h1 h2
    unfold pSl
    by_cases hc : c p = 43 ∨ c p = 45
    · rw [if_pos hc]
      have hlt := h.lt (p := p) (by omega)
      exact ok_bd (ok_At h hlt) (by omega) (fun q A _ a b d e => ih q _ p0 b (by rw [len3]; omega) (by rw [len3]; omega))
    · rw [if_neg hc]; exact okR.some hp h1 h2
theorem ok_Sm {c : Nat → Nat} {N p : Nat} (h : cE c N) (hp : p ≤ N) : okR N p (pSm c N p) :=
  ok_bd (ok_At h hp) (Nat.le_refl _) (fun q A _ a b d e => ok_Sl h N q A p b d e)
theorem ok_Cm {c : Nat → Nat} {N p : Nat} (h : cE c N) (hp : p ≤ N) : okR N p (pCm c N p) := by
  refine ok_bd (ok_Sm h hp) (Nat.le_refl _) (fun q A _ a b d e => ?_)
  by_cases hc : isC (c q)
  · rw [if_pos hc]
    have hlt := h.lt (p := q) (by omega)
    exact ok_bd (ok_Sm h hlt) (by omega) (fun q2 B _ a2 b2 d2 e2 => okR.some b2 (by rw [len3]; omega) (by rw [len3]; omega))
  · rw [if_neg hc]; exact okR.bad a b
theorem pNt_le {c : Nat → Nat} {N : Nat} (h : cE c N) : ∀ k p b, p ≤ N → p ≤ (pNt c k p b).1 ∧ (pNt c k p b).1 ≤ N ∧ ((pNt c k p b).2 ≠ b → p < (pNt c k p b).1) := by
  intro k
  induction k with
  | zero => intro p b hp; exact ⟨Nat.le_refl _, hp, fun q => absurd rfl q⟩
  | succ k ih =>
    intro p b hp
    unfold pNt
    by_cases hd : c p = 33
    · rw [if_pos hd]
      have := h.lt (p := p) (by omega)
      have := ih (p + 1) (!b) (by omega)
      exact ⟨by omega, this.2.1, fun _ => by omega⟩
    · rw [if_neg hd]
      exact ⟨Nat.le_refl _, hp, fun q => absurd rfl q⟩
theorem pNt_end {c : Nat → Nat} {N : Nat} (h : cE c N) : ∀ k p b, N ≤ p + k → c (pNt c k p b).1 ≠ 33 := by
  intro k
  induction k with
  | zero => intro p b hp; show c p ≠ 33; rw [h p hp]; omega
  | succ k ih =>
    intro p b hp
    unfold pNt
    by_cases hd : c p = 33
    · rw [if_pos hd]; exact ih _ _ (by omega)
    · rw [if_neg hd]; exact hd
def okO (N : Nat) (RO : Nat → Rt) : Prop := ∀ q, q < N → okR N q (RO q)
theorem ok_Ts {RO : Nat → Rt} {c : Nat → Nat} {N p : Nat} (h : cE c N) (hR : okO N RO) (hp : p ≤ N) : okR N p (pTs RO c N p) := by
  obtain ⟨a, b, d⟩ := pNt_le h N p false hp
  have hin : okR N (pNt c N p false).1 (if c (pNt c N p false).1 = 40 then RO (pNt c N p false).1 else pCm c N (pNt c N p false).1) := by
    by_cases hc : c (pNt c N p false).1 = 40
    · rw [if_pos hc]; exact hR _ (h.lt (by omega))
    · rw [if_neg hc]; exact ok_Cm h b
  refine ok_bd hin a (fun q A _ a2 b2 d2 e2 => ?_)
  by_cases hb : (pNt c N p false).2 = true
  · rw [if_pos hb]
    have := d (by rw [hb]; simp)
    exact okR.some b2 (by simp) (by simp; omega)
  · rw [if_neg hb]
    exact okR.some b2 d2 (by omega)
theorem ok_Al {RO : Nat → Rt} {c : Nat → Nat} {N : Nat} (h : cE c N) (hR : okO N RO) : ∀ k p L p0, p ≤ N → 1 ≤ L.length → L.length + p0 ≤ p → okR N p0 (pAl RO c N k p L) := by
  intro k
  induction k with
  | zero => intro p L p0 hp h1 h2; exact okR.some hp h1 h2
  | succ k ih =>
    intro p L p0 hp h1 h2
    unfold pAl
    by_cases hc : c p = 38
    · rw [if_pos hc]
      have hlt := h.lt (p := p) (by omega)
      exact ok_bd (ok_Ts h hR hlt) (by omega) (fun q A _ a b d e => ih q _ p0 b (by rw [len3]; omega) (by rw [len3]; omega))
    · rw [if_neg hc]; exact okR.some hp h1 h2
theorem ok_An {RO : Nat → Rt} {c : Nat → Nat} {N p : Nat} (h : cE c N) (hR : okO N RO) (hp : p ≤ N) : okR N p (pAn RO c N p) :=
  ok_bd (ok_Ts h hR hp) (Nat.le_refl _) (fun q A _ a b d e => ok_Al h hR N q A p b d e)
theorem ok_Ol {RO : Nat → Rt} {c : Nat → Nat} {N : Nat} (h : cE c N) (hR : okO N RO) : ∀ k p L p0, p ≤ N → 1 ≤ L.length → L.length + p0 ≤ p → okR N p0 (pOl RO c N k p L) := by
  intro k
  induction k with
  | zero => intro p L p0 hp h1 h2; exact okR.some hp h1 h2
  | succ k ih =>
    intro p L p0 hp h1 h2
    unfold pOl
    by_cases hc : c p = 124
    · rw [if_pos hc]
      have hlt := h.lt (p := p) (by omega)
      exact ok_bd (ok_An h hR hlt) (by omega) (fun q A _ a b d e => ih q _ p0 b (by rw [len3]; omega) (by rw [len3]; omega))
    · rw [if_neg hc]; exact okR.some hp h1 h2
theorem ok_Oo {RO : Nat → Rt} {c : Nat → Nat} {N p : Nat} (h : cE c N) (hR : okO N RO) (hp : p ≤ N) : okR N p (pOo RO c N p) :=
  ok_bd (ok_An h hR hp) (Nat.le_refl _) (fun q A _ a b d e => ok_Ol h hR N q A p b d e)
theorem ok_Br {c : Nat → Nat} {N : Nat} (h : cE c N) : ∀ k, okO N (pBr c N k) := by
  intro k
  induction k with
  | zero => intro q hq; exact okR.bad (Nat.le_refl _) (by omega)
  | succ k ih =>
    intro q hq
    refine ok_bd (p1 := q + 1) (ok_Oo h ih hq) (by omega) (fun q2 A _ a b d e => ?_)
    by_cases hc : c q2 = 41
    · rw [if_pos hc]
      have hlt := h.lt (p := q2) (by omega)
      exact okR.some hlt d (by omega)
    · rw [if_neg hc]; exact okR.bad (by omega) b
/-! what stands behind an AND, an OR -/
theorem end_Al {RO : Nat → Rt} {c : Nat → Nat} {N : Nat} (h : cE c N) (hR : okO N RO) : ∀ k p L, p ≤ N → N ≤ p + k → ∀ A, (pAl RO c N k p L).2 = some A → c (pAl RO c N k p L).1 ≠ 38 := by
  intro k
  induction k with
  | zero => intro p L hp hk A e; show c p ≠ 38; rw [h p (by omega)]; omega
  | succ k ih =>
    intro p L hp hk A e
    unfold pAl at e ⊢
    by_cases hc : c p = 38
    · rw [if_pos hc] at e ⊢
      have hlt := h.lt (p := p) (by omega)
      have ok := ok_Ts h hR (p := p + 1) hlt
      cases hr : (pTs RO c N (p + 1)).2 with
      | none => rw [bd_n hr] at e; cases e
      | some B =>
        rw [bd_s hr] at e ⊢
        exact ih _ _ ok.2.1 (by have := ok.1; omega) A e
    · rw [if_neg hc]; exact hc
theorem end_An {RO : Nat → Rt} {c : Nat → Nat} {N : Nat} (h : cE c N) (hR : okO N RO) {p : Nat} (hp : p ≤ N) {A : List Int32} (e : (pAn RO c N p).2 = some A) : c (pAn RO c N p).1 ≠ 38 := by
  unfold pAn at e ⊢
  cases hr : (pTs RO c N p).2 with
  | none => rw [bd_n hr] at e; cases e
  | some B =>
    rw [bd_s hr] at e ⊢
    exact end_Al h hR N _ _ (ok_Ts h hR hp).2.1 (by omega) A e
theorem end_Ol {RO : Nat → Rt} {c : Nat → Nat} {N : Nat} (h : cE c N) (hR : okO N RO) : ∀ k p L, p ≤ N → N ≤ p + k → c p ≠ 38 → ∀ A, (pOl RO c N k p L).2 = some A → c (pOl RO c N k p L).1 ≠ 38 ∧ c (pOl RO c N k p L).1 ≠ 124 := by
  intro k
  induction k with
  | zero => intro p L hp hk h38 A e; refine ⟨h38, ?_⟩; show c p ≠ 124; rw [h p (by omega)]; omega
  | succ k ih =>
    intro p L hp hk h38 A e
    unfold pOl at e ⊢
    by_cases hc : c p = 124
    · rw [if_pos hc] at e ⊢
      have hlt := h.lt (p := p) (by omega)
      have ok := ok_An h hR (p := p + 1) hlt
      cases hr : (pAn RO c N (p + 1)).2 with
      | none => rw [bd_n hr] at e; cases e
      | some B =>
        rw [bd_s hr] at e ⊢
        exact ih _ _ ok.2.1 (by have := ok.1; omega) (end_An h hR hlt hr) A e
    · rw [if_neg hc]; exact ⟨h38, hc⟩
theorem end_Oo {RO : Nat → Rt} {c : Nat → Nat} {N : Nat} (h : cE c N) (hR : okO N RO) {p : Nat} (hp : p ≤ N) {A : List Int32} (e : (pOo RO c N p).2 = some A) : c (pOo RO c N p).1 ≠ 38 ∧ c (pOo RO c N p).1 ≠ 124 := by
  unfold pOo at e ⊢
  cases hr : (pAn RO c N p).2 with
  | none => rw [bd_n hr] at e; cases e
  | some B =>
    rw [bd_s hr] at e ⊢
    exact end_Ol h hR N _ _ (ok_An h hR hp).2.1 (by omega) (end_An h hR hp hr) A e
/-! what steps answer -/
def bI (b : Bool) : Int32 := if b = true then 1 else 0
def Ev (f : Nat → Int32) (A : List Int32) (v : Int32) : Prop := ∀ st, A.foldl (stp f) st = v :: st
theorem Ev.val {f : Nat → Int32} {A : List Int32} {b : Bool} (h : Ev f A (bI b)) : evS f A = b := by
  have := h []
  unfold evS
  rw [this]
  cases b <;> rfl
theorem stp_op {f : Nat → Int32} {b a x : Int32} {r : List Int32} (h0 : ¬ 0 ≤ x) (h33 : ¬ x = -33) : stp f (b :: a :: r) x = (if x = -43 then a + b else if x = -45 then a - b else if x = -60 then (if a < b then 1 else 0) else if x = -62 then (if b < a then 1 else 0) else if x = -61 then (if a = b then 1 else 0) else if x = -38 then a &&& b else a ||| b) :: r := by
  unfold stp
  rw [if_neg h0]
  show (if x = -33 then _ else _) = _
  rw [if_neg h33]
theorem stp_not {f : Nat → Int32} {a : Int32} {r : List Int32} : stp f (a :: r) (-33) = (1 - a) :: r := by
  unfold stp
  rw [if_neg (by decide)]
  cases r with
  | nil => show (if (-33 : Int32) = -33 then _ else _) = _; rw [if_pos rfl]
  | cons b r => show (if (-33 : Int32) = -33 then _ else _) = _; rw [if_pos rfl]
theorem Ev.op {f : Nat → Int32} {A B : List Int32} {a b x v : Int32} (hA : Ev f A a) (hB : Ev f B b) (h0 : ¬ 0 ≤ x) (h33 : ¬ x = -33) (hv : (if x = -43 then a + b else if x = -45 then a - b else if x = -60 then (if a < b then 1 else 0) else if x = -62 then (if b < a then 1 else 0) else if x = -61 then (if a = b then 1 else 0) else if x = -38 then a &&& b else a ||| b) = v) : Ev f (A ++ B ++ [x]) v := by
  intro st
  rw [List.foldl_append, List.foldl_append, hA, hB]
  show stp f (b :: a :: st) x = _
  rw [stp_op h0 h33, hv]
theorem Ev.not {f : Nat → Int32} {A : List Int32} {b : Bool} (hA : Ev f A (bI b)) : Ev f (A ++ [-33]) (bI (!b)) := by
  intro st
  rw [List.foldl_append, hA]
  show stp f (bI b :: st) (-33) = _
  rw [stp_not]
  cases b <;> rfl
theorem Ev.and {f : Nat → Int32} {A B : List Int32} {a b : Bool} (hA : Ev f A (bI a)) (hB : Ev f B (bI b)) : Ev f (A ++ B ++ [-38]) (bI (a && b)) :=
  hA.op hB (by decide) (by decide) (by cases a <;> cases b <;> rfl)
theorem Ev.or {f : Nat → Int32} {A B : List Int32} {a b : Bool} (hA : Ev f A (bI a)) (hB : Ev f B (bI b)) : Ev f (A ++ B ++ [-124]) (bI (a || b)) :=
  hA.op hB (by decide) (by decide) (by cases a <;> cases b <;> rfl)
theorem sg43 : sg 43 = -43 := by decide
theorem sg45 : sg 45 = -45 := by decide
theorem sg60 : sg 60 = -60 := by decide
theorem sg62 : sg 62 = -62 := by decide
theorem sg61 : sg 61 = -61 := by decide
theorem Ev.num {f : Nat → Int32} {n : Nat} (h : n < 10000) : Ev f [nI n] (nI n) := by
  intro st
  show stp f st (nI n) = _
  unfold stp
  rw [if_pos (nI_pos' (by omega))]
  have t := pk_sub_toInt (a := n) (b := 10000) (by omega) (by omega)
  have t2 : (nI n - 10000).toInt = (n : Int) - 10000 := t
  rw [t2, if_neg (by omega)]
theorem Ev.fld {f : Nat → Int32} {k : Nat} (h : 1 ≤ k) (h2 : k ≤ 10) : Ev f [nI (9999 + k)] (f (k - 1)) := by
  intro st
  show stp f st (nI (9999 + k)) = _
  unfold stp
  rw [if_pos (nI_pos' (by omega))]
  have t : nI (9999 + k) - 10000 = nI (k - 1) := by
    have := pk_sub (a := 9999 + k) (b := 10000) (by omega)
    rw [show 9999 + k - 10000 = k - 1 by omega] at this
    exact this
  rw [t, nI_toInt (by omega), if_pos (by omega), ix_nI (by omega)]
/-- the value of a text of one atom -/
theorem ev_At {f : Nat → Int32} {c : Nat → Nat} {p : Nat} {A : List Int32} (h : (pAt c p).2 = some A) : ∃ v, Ev f A v := by
  unfold pAt at h
  by_cases hd : isD (c p)
  · rw [if_pos hd] at h
    cases h
    refine ⟨_, Ev.num ?_⟩
    by_cases h48 : c p = 48
    · rw [if_pos h48]
      have := pNm_lt (c := c) 1 p 0
      omega
    · rw [if_neg h48]
      have := pNm_lt (c := c) 4 p 0
      omega
  · rw [if_neg hd] at h
    by_cases hz : fldN (c p) = 0
    · rw [if_pos hz] at h; cases h
    · rw [if_neg hz] at h
      cases h
      exact ⟨_, Ev.fld (by omega) fldN_le⟩
theorem ev_Sl {f : Nat → Int32} {c : Nat → Nat} : ∀ k p L A, (∃ v, Ev f L v) → (pSl c k p L).2 = some A → ∃ v, Ev f A v := by
  intro k
  induction k with
  | zero => intro p L A hL h; cases h; exact hL
  | succ k ih =>
    intro p L A hL h
    unfold pSl at h
    by_cases hc : c p = 43 ∨ c p = 45
    · rw [if_pos hc] at h
      cases hr : (pAt c (p + 1)).2 with
      | none => rw [bd_n hr] at h; cases h
      | some B =>
        rw [bd_s hr] at h
        obtain ⟨v, hv⟩ := hL
        obtain ⟨u, hu⟩ := ev_At (f := f) hr
        refine ih _ _ A ?_ h
        rcases hc with e | e <;> rw [e]
        · rw [sg43]; exact ⟨_, hv.op hu (by decide) (by decide) rfl⟩
        · rw [sg45]; exact ⟨_, hv.op hu (by decide) (by decide) rfl⟩
    · rw [if_neg hc] at h; cases h; exact hL
theorem ev_Sm {f : Nat → Int32} {c : Nat → Nat} {N p : Nat} {A : List Int32} (h : (pSm c N p).2 = some A) : ∃ v, Ev f A v := by
  unfold pSm at h
  cases hr : (pAt c p).2 with
  | none => rw [bd_n hr] at h; cases h
  | some B =>
    rw [bd_s hr] at h
    exact ev_Sl N _ B A (ev_At hr) h
def cmpB (x : Nat) (a b : Int32) : Bool := if x = 60 then decide (a < b) else if x = 62 then decide (b < a) else decide (a = b)
theorem Ev.cmp {f : Nat → Int32} {A B : List Int32} {a b : Int32} {x : Nat} (hA : Ev f A a) (hB : Ev f B b) (hx : isC x) : Ev f (A ++ B ++ [sg x]) (bI (cmpB x a b)) := by
  rcases hx with rfl | rfl | rfl
  · rw [sg60]; exact hA.op hB (by decide) (by decide) (by show (if a < b then _ else _) = bI (decide (a < b)); by_cases q : a < b <;> simp [q, bI])
  · rw [sg62]; exact hA.op hB (by decide) (by decide) (by show (if b < a then _ else _) = bI (decide (b < a)); by_cases q : b < a <;> simp [q, bI])
  · rw [sg61]; exact hA.op hB (by decide) (by decide) (by show (if a = b then _ else _) = bI (decide (a = b)); by_cases q : a = b <;> simp [q, bI])
theorem ev_Cm {f : Nat → Int32} {c : Nat → Nat} {N p : Nat} {A : List Int32} (h : (pCm c N p).2 = some A) : Ev f A (bI (evS f A)) := by
  unfold pCm at h
  cases hr : (pSm c N p).2 with
  | none => rw [bd_n hr] at h; cases h
  | some B =>
    rw [bd_s hr] at h
    by_cases hc : isC (c (pSm c N p).1)
    · rw [if_pos hc] at h
      cases hr2 : (pSm c N ((pSm c N p).1 + 1)).2 with
      | none => rw [bd_n hr2] at h; cases h
      | some D =>
        rw [bd_s hr2] at h
        cases h
        obtain ⟨v, hv⟩ := ev_Sm (f := f) hr
        obtain ⟨u, hu⟩ := ev_Sm (f := f) hr2
        have := hv.cmp hu hc
        rw [this.val]
        exact this
    · rw [if_neg hc] at h; cases h
