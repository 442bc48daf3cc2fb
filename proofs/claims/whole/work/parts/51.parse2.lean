/-! THE REFERENCE'S READING as a machine over signs and values (tops first) -/
def jn (g : Nat) : List Nat → List Bool → List Nat × List Bool
  | [], V => ([], V)
  | x :: S, V => if x = g then (match V with
      | a :: b :: r => jn g S ((if g = 38 then (b && a) else (b || a)) :: r)
      | r => jn g S r) else (x :: S, V)
def tp (S : List Nat) : Nat := S.headD 0
theorem jn_ne {g : Nat} {S : List Nat} {V : List Bool} (h : tp S ≠ g) : jn g S V = (S, V) := by
  cases S with
  | nil => rfl
  | cons x S => unfold jn; rw [if_neg (show ¬ x = g from h)]
theorem jn_eq {g : Nat} {S : List Nat} {a b : Bool} {V : List Bool} : jn g (g :: S) (a :: b :: V) = jn g S ((if g = 38 then (b && a) else (b || a)) :: V) := by
  conv => lhs; unfold jn
  rw [if_pos rfl]
def te : List Nat → List Bool → List Nat × List Bool
  | [], V => ([], V)
  | x :: S, V => if x = 33 then (match V with
      | a :: r => te S ((!a) :: r)
      | [] => te S []) else (x :: S, V)
theorem te_ne {S : List Nat} {V : List Bool} (h : tp S ≠ 33) : te S V = (S, V) := by
  cases S with
  | nil => rfl
  | cons x S => unfold te; rw [if_neg (show ¬ x = 33 from h)]
theorem te_eq {S : List Nat} {a : Bool} {V : List Bool} : te (33 :: S) (a :: V) = te S ((!a) :: V) := by
  conv => lhs; unfold te
  rw [if_pos rfl]
def n40 : List Nat → Nat
  | [] => 0
  | x :: S => (if x = 40 then 1 else 0) + n40 S
theorem n40_ne {x : Nat} {S : List Nat} (h : x ≠ 40) : n40 (x :: S) = n40 S := by
  show (if x = 40 then 1 else 0) + n40 S = n40 S
  rw [if_neg h, Nat.zero_add]
theorem n40_40 {S : List Nat} : n40 (40 :: S) = 1 + n40 S := rfl
abbrev jn2 (S : List Nat) (V : List Bool) : List Nat × List Bool := jn 124 (jn 38 S V).1 (jn 38 S V).2
def mr (c : Nat → Nat) (N : Nat) (f : Nat → Int32) (u : Bool) : Nat → Bool → Nat → List Nat → List Bool → Option (Nat × Option Bool)
  | 0, _, _, _, _ => none
  | n + 1, true, p, S, V => if c p = 33 ∨ c p = 40 then (if c p = 40 ∧ n40 S = 8 then some (p, none) else mr c N f u n true (p + 1) (c p :: S) V)
      else match (pCm c N p).2 with
        | none => some ((pCm c N p).1, none)
        | some A => mr c N f u n false (pCm c N p).1 (te S (evS f A :: V)).1 (te S (evS f A :: V)).2
  | n + 1, false, p, S, V => if N ≤ p then some (p, if (jn2 S V).1 = [] then some ((jn2 S V).2.headD false) else none)
      else if c p = 38 then mr c N f u n true (p + 1) (38 :: (jn 38 S V).1) (jn 38 S V).2
      else if c p = 124 then mr c N f u n true (p + 1) (124 :: (jn2 S V).1) (jn2 S V).2
      else if c p = 117 ∧ u = true ∧ (jn2 S V).1 = [] then some (p, some ((jn2 S V).2.headD false))
      else if c p = 41 ∧ tp (jn2 S V).1 = 40 then mr c N f u n false (p + 1) (te (jn2 S V).1.tail (jn2 S V).2).1 (te (jn2 S V).1.tail (jn2 S V).2).2
      else some (p, none)
section MRS
variable {c : Nat → Nat} {N : Nat} {f : Nat → Int32} {u : Bool}
theorem mr_t {n p : Nat} {S : List Nat} {V : List Bool} : mr c N f u (n + 1) true p S V = if c p = 33 ∨ c p = 40 then (if c p = 40 ∧ n40 S = 8 then some (p, none) else mr c N f u n true (p + 1) (c p :: S) V)
      else match (pCm c N p).2 with
        | none => some ((pCm c N p).1, none)
        | some A => mr c N f u n false (pCm c N p).1 (te S (evS f A :: V)).1 (te S (evS f A :: V)).2 := rfl
theorem mr_f {n p : Nat} {S : List Nat} {V : List Bool} : mr c N f u (n + 1) false p S V = if N ≤ p then some (p, if (jn2 S V).1 = [] then some ((jn2 S V).2.headD false) else none)
      else if c p = 38 then mr c N f u n true (p + 1) (38 :: (jn 38 S V).1) (jn 38 S V).2
      else if c p = 124 then mr c N f u n true (p + 1) (124 :: (jn2 S V).1) (jn2 S V).2
      else if c p = 117 ∧ u = true ∧ (jn2 S V).1 = [] then some (p, some ((jn2 S V).2.headD false))
      else if c p = 41 ∧ tp (jn2 S V).1 = 40 then mr c N f u n false (p + 1) (te (jn2 S V).1.tail (jn2 S V).2).1 (te (jn2 S V).1.tail (jn2 S V).2).2
      else some (p, none) := rfl
def Go (c : Nat → Nat) (N : Nat) (f : Nat → Int32) (u : Bool) (w : Bool) (p : Nat) (S : List Nat) (V : List Bool) (ρ : Nat × Option Bool) : Prop := ∃ n, mr c N f u n w p S V = some ρ
theorem go_push {p : Nat} {S : List Nat} {V : List Bool} {ρ : Nat × Option Bool} (h : c p = 33 ∨ c p = 40) (h2 : ¬ (c p = 40 ∧ n40 S = 8)) (g : Go c N f u true (p + 1) (c p :: S) V ρ) : Go c N f u true p S V ρ := by
  obtain ⟨n, g⟩ := g
  exact ⟨n + 1, by rw [mr_t, if_pos h, if_neg h2]; exact g⟩
theorem go_deep {p : Nat} {S : List Nat} {V : List Bool} (h : c p = 40) (h2 : n40 S = 8) : Go c N f u true p S V (p, none) :=
  ⟨1, by rw [mr_t, if_pos (Or.inr h), if_pos ⟨h, h2⟩]⟩
theorem go_cmpbad {p : Nat} {S : List Nat} {V : List Bool} (h : ¬ (c p = 33 ∨ c p = 40)) (h2 : (pCm c N p).2 = none) : Go c N f u true p S V ((pCm c N p).1, none) :=
  ⟨1, by rw [mr_t, if_neg h, h2]⟩
theorem go_cmp {p : Nat} {S : List Nat} {V : List Bool} {A : List Int32} {ρ : Nat × Option Bool} (h : ¬ (c p = 33 ∨ c p = 40)) (h2 : (pCm c N p).2 = some A) (g : Go c N f u false (pCm c N p).1 (te S (evS f A :: V)).1 (te S (evS f A :: V)).2 ρ) : Go c N f u true p S V ρ := by
  obtain ⟨n, g⟩ := g
  exact ⟨n + 1, by rw [mr_t, if_neg h, h2]; exact g⟩
theorem go_and {p : Nat} {S S' : List Nat} {V V' : List Bool} {ρ : Nat × Option Bool} (hp : p < N) (h : c p = 38) (e : jn 38 S V = (S', V')) (g : Go c N f u true (p + 1) (38 :: S') V' ρ) : Go c N f u false p S V ρ := by
  obtain ⟨n, g⟩ := g
  exact ⟨n + 1, by rw [mr_f, if_neg (by omega), if_pos h, e]; exact g⟩
theorem go_or {p : Nat} {S S' : List Nat} {V V' : List Bool} {ρ : Nat × Option Bool} (hp : p < N) (h : c p = 124) (e : jn2 S V = (S', V')) (g : Go c N f u true (p + 1) (124 :: S') V' ρ) : Go c N f u false p S V ρ := by
  obtain ⟨n, g⟩ := g
  exact ⟨n + 1, by rw [mr_f, if_neg (by omega), if_neg (by omega), if_pos h, e]; exact g⟩
theorem go_close {p : Nat} {S S' : List Nat} {V V' : List Bool} {ρ : Nat × Option Bool} (hp : p < N) (h : c p = 41) (e : jn2 S V = (40 :: S', V')) (g : Go c N f u false (p + 1) (te S' V').1 (te S' V').2 ρ) : Go c N f u false p S V ρ := by
  obtain ⟨n, g⟩ := g
  refine ⟨n + 1, ?_⟩
  rw [mr_f, if_neg (by omega), if_neg (by omega), if_neg (by omega), if_neg (by omega), e, if_pos ⟨h, rfl⟩]
  exact g
theorem go_stop {p : Nat} {S S' : List Nat} {V V' : List Bool} (hp : p < N) (h1 : c p ≠ 38) (h2 : c p ≠ 124) (e : jn2 S V = (S', V')) (h3 : ¬ (c p = 117 ∧ u = true ∧ S' = [])) (h4 : ¬ (c p = 41 ∧ tp S' = 40)) : Go c N f u false p S V (p, none) := by
  refine ⟨1, ?_⟩
  rw [mr_f, if_neg (by omega), if_neg h1, if_neg h2, e, if_neg h3, if_neg h4]
theorem go_ends {p : Nat} {S : List Nat} {V V' : List Bool} {v : Bool} (hp : p < N) (h : c p = 117) (hu : u = true) (e : jn2 S V = ([], v :: V')) : Go c N f u false p S V (p, some v) := by
  refine ⟨1, ?_⟩
  rw [mr_f, if_neg (by omega), if_neg (by omega), if_neg (by omega), e, if_pos ⟨h, hu, rfl⟩]
  rfl
theorem go_fin {p : Nat} {S : List Nat} {V V' : List Bool} {v : Bool} (hp : N ≤ p) (e : jn2 S V = ([], v :: V')) : Go c N f u false p S V (p, some v) := by
  refine ⟨1, ?_⟩
  rw [mr_f, if_pos hp, e]
  rfl
theorem go_finbad {p x : Nat} {S S' : List Nat} {V V' : List Bool} (hp : N ≤ p) (e : jn2 S V = (x :: S', V')) : Go c N f u false p S V (p, none) := by
  refine ⟨1, ?_⟩
  rw [mr_f, if_pos hp, e]
  rfl
/-! the machine reads what the parser reads -/
def TTr (c : Nat → Nat) (N : Nat) (f : Nat → Int32) (u : Bool) (r : Rt) (p : Nat) (S : List Nat) (V : List Bool) : Prop := (r.2 = none → Go c N f u true p S V (r.1, none)) ∧ ∀ A, r.2 = some A → Ev f A (bI (evS f A)) ∧ ∀ ρ, Go c N f u false r.1 S (evS f A :: V) ρ → Go c N f u true p S V ρ
def TTa (c : Nat → Nat) (N : Nat) (f : Nat → Int32) (u : Bool) (r : Rt) (p : Nat) (S : List Nat) (V : List Bool) : Prop := (r.2 = none → Go c N f u true p S V (r.1, none)) ∧ ∀ A, r.2 = some A → Ev f A (bI (evS f A)) ∧ ∀ ρ, (∀ S' V', jn 38 S' V' = (S, evS f A :: V) → Go c N f u false r.1 S' V' ρ) → Go c N f u true p S V ρ
def TTo (c : Nat → Nat) (N : Nat) (f : Nat → Int32) (u : Bool) (r : Rt) (p : Nat) (S : List Nat) (V : List Bool) : Prop := (r.2 = none → Go c N f u true p S V (r.1, none)) ∧ ∀ A, r.2 = some A → Ev f A (bI (evS f A)) ∧ ∀ ρ, (∀ S' V', jn2 S' V' = (S, evS f A :: V) → Go c N f u false r.1 S' V' ρ) → Go c N f u true p S V ρ
def TTb (c : Nat → Nat) (N : Nat) (f : Nat → Int32) (u : Bool) (RO : Nat → Rt) (k : Nat) : Prop := ∀ q S V, q < N → c q = 40 → n40 S + k = 8 → ((RO q).2 = none → Go c N f u true q S V ((RO q).1, none)) ∧ ∀ A, (RO q).2 = some A → Ev f A (bI (evS f A)) ∧ ∀ ρ, Go c N f u false (RO q).1 (te S (evS f A :: V)).1 (te S (evS f A :: V)).2 ρ → Go c N f u true q S V ρ
theorem tt_nots (h : cE c N) {S : List Nat} {V : List Bool} {ρ : Nat × Option Bool} : ∀ k p b S1, N ≤ p + k → n40 S1 = n40 S → (∀ x, te S1 (x :: V) = (S, (b != x) :: V)) → (∀ S2, n40 S2 = n40 S → (∀ x, te S2 (x :: V) = (S, ((pNt c k p b).2 != x) :: V)) → Go c N f u true (pNt c k p b).1 S2 V ρ) → Go c N f u true p S1 V ρ := by
  intro k
  induction k with
  | zero => intro p b S1 hk hn ht hg; exact hg S1 hn ht
  | succ k ih =>
    intro p b S1 hk hn ht hg
    unfold pNt at hg
    by_cases hc : c p = 33
    · rw [if_pos hc] at hg
      refine go_push (Or.inl hc) (by omega) ?_
      rw [hc]
      refine ih (p + 1) (!b) (33 :: S1) (by omega) (by rw [n40_ne (by omega), hn]) (fun x => ?_) hg
      rw [te_eq, ht]
      cases b <;> cases x <;> rfl
    · rw [if_neg hc] at hg
      exact hg S1 hn ht
theorem tt_Ts (h : cE c N) {RO : Nat → Rt} {k : Nat} (hR : okO N RO) (hRO : TTb c N f u RO k) {p : Nat} (hp : p ≤ N) {S : List Nat} {V : List Bool} (hk : n40 S + k = 8) (h33 : tp S ≠ 33) : TTr c N f u (pTs RO c N p) p S V := by
  obtain ⟨a1, a2, a3⟩ := pNt_le h N p false hp
  have e33 := pNt_end h N p false (by omega)
  have start : ∀ ρ, (∀ S2, n40 S2 = n40 S → (∀ x, te S2 (x :: V) = (S, ((pNt c N p false).2 != x) :: V)) → Go c N f u true (pNt c N p false).1 S2 V ρ) → Go c N f u true p S V ρ := fun ρ hg => tt_nots h N p false S (by omega) rfl (fun x => by rw [te_ne h33]; cases x <;> rfl) hg
  have val : ∀ B, Ev f B (bI (evS f B)) → Ev f (if (pNt c N p false).2 = true then B ++ [-33] else B) (bI (evS f (if (pNt c N p false).2 = true then B ++ [-33] else B))) ∧ evS f (if (pNt c N p false).2 = true then B ++ [-33] else B) = ((pNt c N p false).2 != evS f B) := by
    intro B hB
    by_cases hb : (pNt c N p false).2 = true
    · rw [if_pos hb, hb]
      have := hB.not
      rw [this.val]
      exact ⟨this, by cases evS f B <;> rfl⟩
    · rw [if_neg hb]
      have hb2 : (pNt c N p false).2 = false := by simpa using hb
      rw [hb2]
      exact ⟨hB, by cases evS f B <;> rfl⟩
  unfold TTr pTs
  by_cases hc : c (pNt c N p false).1 = 40
  · rw [if_pos hc]
    have hq := h.lt (p := (pNt c N p false).1) (by omega)
    refine ⟨fun hn => ?_, fun A hA => ?_⟩
    · cases hr : (RO (pNt c N p false).1).2 with
      | none =>
        rw [bd_n hr]
        exact start _ (fun S2 n2 t2 => (hRO _ S2 V hq hc (by omega)).1 hr)
      | some B => rw [bd_s hr] at hn; cases hn
    · cases hr : (RO (pNt c N p false).1).2 with
      | none => rw [bd_n hr] at hA; cases hA
      | some B =>
        rw [bd_s hr] at hA ⊢
        cases hA
        have hEv := ((hRO _ S V hq hc hk).2 B hr).1
        refine ⟨(val B hEv).1, fun ρ hg => start ρ (fun S2 n2 t2 => ((hRO _ S2 V hq hc (by omega)).2 B hr).2 ρ ?_)⟩
        rw [t2, ← (val B hEv).2]
        exact hg
  · rw [if_neg hc]
    have hno : ¬ (c (pNt c N p false).1 = 33 ∨ c (pNt c N p false).1 = 40) := by omega
    refine ⟨fun hn => ?_, fun A hA => ?_⟩
    · cases hr : (pCm c N (pNt c N p false).1).2 with
      | none =>
        rw [bd_n hr]
        exact start _ (fun S2 n2 t2 => go_cmpbad hno hr)
      | some B => rw [bd_s hr] at hn; cases hn
    · cases hr : (pCm c N (pNt c N p false).1).2 with
      | none => rw [bd_n hr] at hA; cases hA
      | some B =>
        rw [bd_s hr] at hA ⊢
        cases hA
        have hEv := ev_Cm (f := f) hr
        refine ⟨(val B hEv).1, fun ρ hg => start ρ (fun S2 n2 t2 => go_cmp hno hr ?_)⟩
        rw [t2, ← (val B hEv).2]
        exact hg
theorem tt_Al (h : cE c N) {RO : Nat → Rt} {kk : Nat} (hR : okO N RO) (hRO : TTb c N f u RO kk) {S : List Nat} {V : List Bool} (hk : n40 S + kk = 8) (h38 : tp S ≠ 38) : ∀ k p L b, p ≤ N → N ≤ p + k → Ev f L (bI b) →
    ((pAl RO c N k p L).2 = none → ∀ S' V', jn 38 S' V' = (S, b :: V) → Go c N f u false p S' V' ((pAl RO c N k p L).1, none)) ∧
    ∀ A, (pAl RO c N k p L).2 = some A → Ev f A (bI (evS f A)) ∧ ∀ ρ, (∀ S' V', jn 38 S' V' = (S, evS f A :: V) → Go c N f u false (pAl RO c N k p L).1 S' V' ρ) → ∀ S' V', jn 38 S' V' = (S, b :: V) → Go c N f u false p S' V' ρ := by
  intro k
  induction k with
  | zero =>
    intro p L b hp hkp hL
    refine ⟨fun hn => (by cases hn), fun A hA => ?_⟩
    cases hA
    have e := hL.val
    rw [e]
    exact ⟨hL, fun ρ hg => hg⟩
  | succ k ih =>
    intro p L b hp hkp hL
    unfold pAl
    by_cases hc : c p = 38
    · rw [if_pos hc]
      have hlt := h.lt (p := p) (by omega)
      have T := tt_Ts h hR hRO (p := p + 1) hlt (S := 38 :: S) (V := b :: V) (by rw [n40_ne (by omega)]; exact hk) (by show (38 : Nat) ≠ 33; omega)
      have ok := ok_Ts h hR (p := p + 1) hlt
      cases hr : (pTs RO c N (p + 1)).2 with
      | none =>
        rw [bd_n hr]
        exact ⟨fun _ S' V' e => go_and hlt hc e (T.1 hr), fun A hA => by cases hA⟩
      | some B =>
        rw [bd_s hr]
        obtain ⟨hB, hT⟩ := T.2 B hr
        have ih2 := ih (pTs RO c N (p + 1)).1 (L ++ B ++ [-38]) (b && evS f B) ok.2.1 (by have := ok.1; omega) (hL.and hB)
        have ej : jn 38 (38 :: S) (evS f B :: b :: V) = (S, (b && evS f B) :: V) := by
          rw [jn_eq, if_pos rfl, jn_ne h38]
        refine ⟨fun hn S' V' e => go_and hlt hc e (hT _ (ih2.1 hn _ _ ej)), fun A hA => ⟨(ih2.2 A hA).1, fun ρ hg S' V' e => go_and hlt hc e (hT _ ((ih2.2 A hA).2 ρ hg _ _ ej))⟩⟩
    · rw [if_neg hc]
      refine ⟨fun hn => (by cases hn), fun A hA => ?_⟩
      cases hA
      have e := hL.val
      rw [e]
      exact ⟨hL, fun ρ hg => hg⟩
theorem tt_An (h : cE c N) {RO : Nat → Rt} {k : Nat} (hR : okO N RO) (hRO : TTb c N f u RO k) {p : Nat} (hp : p ≤ N) {S : List Nat} {V : List Bool} (hk : n40 S + k = 8) (h33 : tp S ≠ 33) (h38 : tp S ≠ 38) : TTa c N f u (pAn RO c N p) p S V := by
  have T := tt_Ts h hR hRO (p := p) hp (S := S) (V := V) hk h33
  have ok := ok_Ts h hR (p := p) hp
  unfold TTa pAn
  cases hr : (pTs RO c N p).2 with
  | none =>
    rw [bd_n hr]
    exact ⟨fun _ => T.1 hr, fun A hA => by cases hA⟩
  | some B =>
    rw [bd_s hr]
    obtain ⟨hB, hT⟩ := T.2 B hr
    have L := tt_Al h hR hRO hk h38 (V := V) N (pTs RO c N p).1 B (evS f B) ok.2.1 (by omega) hB
    have ej : jn 38 S (evS f B :: V) = (S, evS f B :: V) := jn_ne h38
    exact ⟨fun hn => hT _ (L.1 hn _ _ ej), fun A hA => ⟨(L.2 A hA).1, fun ρ hg => hT _ ((L.2 A hA).2 ρ hg _ _ ej)⟩⟩
theorem tt_Ol (h : cE c N) {RO : Nat → Rt} {kk : Nat} (hR : okO N RO) (hRO : TTb c N f u RO kk) {S : List Nat} {V : List Bool} (hk : n40 S + kk = 8) (h124 : tp S ≠ 124) : ∀ k p L b, p ≤ N → N ≤ p + k → Ev f L (bI b) →
    ((pOl RO c N k p L).2 = none → ∀ S' V', jn2 S' V' = (S, b :: V) → Go c N f u false p S' V' ((pOl RO c N k p L).1, none)) ∧
    ∀ A, (pOl RO c N k p L).2 = some A → Ev f A (bI (evS f A)) ∧ ∀ ρ, (∀ S' V', jn2 S' V' = (S, evS f A :: V) → Go c N f u false (pOl RO c N k p L).1 S' V' ρ) → ∀ S' V', jn2 S' V' = (S, b :: V) → Go c N f u false p S' V' ρ := by
  intro k
  induction k with
  | zero =>
    intro p L b hp hkp hL
    refine ⟨fun hn => (by cases hn), fun A hA => ?_⟩
    cases hA
    have e := hL.val
    rw [e]
    exact ⟨hL, fun ρ hg => hg⟩
  | succ k ih =>
    intro p L b hp hkp hL
    unfold pOl
    by_cases hc : c p = 124
    · rw [if_pos hc]
      have hlt := h.lt (p := p) (by omega)
      have T := tt_An h hR hRO (p := p + 1) hlt (S := 124 :: S) (V := b :: V) (by rw [n40_ne (by omega)]; exact hk) (by show (124 : Nat) ≠ 33; omega) (by show (124 : Nat) ≠ 38; omega)
      have ok := ok_An h hR (p := p + 1) hlt
      cases hr : (pAn RO c N (p + 1)).2 with
      | none =>
        rw [bd_n hr]
        exact ⟨fun _ S' V' e => go_or hlt hc e (T.1 hr), fun A hA => by cases hA⟩
      | some B =>
        rw [bd_s hr]
        obtain ⟨hB, hT⟩ := T.2 B hr
        have ih2 := ih (pAn RO c N (p + 1)).1 (L ++ B ++ [-124]) (b || evS f B) ok.2.1 (by have := ok.1; omega) (hL.or hB)
        have ej : ∀ S' V', jn 38 S' V' = (124 :: S, evS f B :: b :: V) → jn2 S' V' = (S, (b || evS f B) :: V) := by
          intro S' V' e
          show jn 124 (jn 38 S' V').1 (jn 38 S' V').2 = _
          rw [e]
          show jn 124 (124 :: S) (evS f B :: b :: V) = _
          rw [jn_eq, if_neg (by omega), jn_ne h124]
        refine ⟨fun hn S' V' e => go_or hlt hc e (hT _ (fun S2 V2 e2 => ih2.1 hn _ _ (ej S2 V2 e2))), fun A hA => ⟨(ih2.2 A hA).1, fun ρ hg S' V' e => go_or hlt hc e (hT _ (fun S2 V2 e2 => (ih2.2 A hA).2 ρ hg _ _ (ej S2 V2 e2)))⟩⟩
    · rw [if_neg hc]
      refine ⟨fun hn => (by cases hn), fun A hA => ?_⟩
      cases hA
      have e := hL.val
      rw [e]
      exact ⟨hL, fun ρ hg => hg⟩
theorem tt_Oo (h : cE c N) {RO : Nat → Rt} {k : Nat} (hR : okO N RO) (hRO : TTb c N f u RO k) {p : Nat} (hp : p ≤ N) {S : List Nat} {V : List Bool} (hk : n40 S + k = 8) (h33 : tp S ≠ 33) (h38 : tp S ≠ 38) (h124 : tp S ≠ 124) : TTo c N f u (pOo RO c N p) p S V := by
  have T := tt_An h hR hRO (p := p) hp (S := S) (V := V) hk h33 h38
  have ok := ok_An h hR (p := p) hp
  unfold TTo pOo
  cases hr : (pAn RO c N p).2 with
  | none =>
    rw [bd_n hr]
    exact ⟨fun _ => T.1 hr, fun A hA => by cases hA⟩
  | some B =>
    rw [bd_s hr]
    obtain ⟨hB, hT⟩ := T.2 B hr
    have L := tt_Ol h hR hRO hk h124 (V := V) N (pAn RO c N p).1 B (evS f B) ok.2.1 (by omega) hB
    have ej : ∀ S' V', jn 38 S' V' = (S, evS f B :: V) → jn2 S' V' = (S, evS f B :: V) := by
      intro S' V' e
      show jn 124 (jn 38 S' V').1 (jn 38 S' V').2 = _
      rw [e]
      exact jn_ne h124
    exact ⟨fun hn => hT _ (fun S2 V2 e2 => L.1 hn _ _ (ej S2 V2 e2)), fun A hA => ⟨(L.2 A hA).1, fun ρ hg => hT _ (fun S2 V2 e2 => (L.2 A hA).2 ρ hg _ _ (ej S2 V2 e2))⟩⟩
theorem tt_Br (h : cE c N) : ∀ k, TTb c N f u (pBr c N k) k := by
  intro k
  induction k with
  | zero =>
    intro q S V hq hc hn
    exact ⟨fun _ => go_deep hc hn, fun A hA => by cases hA⟩
  | succ k ih =>
    intro q S V hq hc hn
    have T := tt_Oo h (ok_Br h k) ih (p := q + 1) hq (S := 40 :: S) (V := V) (by rw [n40_40]; omega) (by show (40 : Nat) ≠ 33; omega) (by show (40 : Nat) ≠ 38; omega) (by show (40 : Nat) ≠ 124; omega)
    have ok := ok_Oo h (ok_Br h k) (p := q + 1) hq
    have start : ∀ ρ, Go c N f u true (q + 1) (40 :: S) V ρ → Go c N f u true q S V ρ := fun ρ g => go_push (Or.inr hc) (fun x => by omega) (by rw [hc]; exact g)
    unfold pBr
    cases hr : (pOo (pBr c N k) c N (q + 1)).2 with
    | none =>
      rw [bd_n hr]
      exact ⟨fun _ => start _ (T.1 hr), fun A hA => by cases hA⟩
    | some B =>
      rw [bd_s hr]
      obtain ⟨hB, hT⟩ := T.2 B hr
      obtain ⟨n38, n124⟩ := end_Oo h (ok_Br h k) hq hr
      by_cases h41 : c (pOo (pBr c N k) c N (q + 1)).1 = 41
      · rw [if_pos h41]
        have hlt := h.lt (p := (pOo (pBr c N k) c N (q + 1)).1) (by omega)
        refine ⟨fun hn => (by cases hn), fun A hA => ?_⟩
        cases hA
        exact ⟨hB, fun ρ hg => start ρ (hT ρ (fun S' V' e => go_close hlt h41 e hg))⟩
      · rw [if_neg h41]
        refine ⟨fun _ => start _ (hT _ (fun S' V' e => ?_)), fun A hA => by cases hA⟩
        by_cases hlt : (pOo (pBr c N k) c N (q + 1)).1 < N
        · exact go_stop hlt n38 n124 e (fun x => by cases x.2.2) (fun x => h41 x.1)
        · exact go_finbad (by omega) e
/-- an OR at the outside -/
theorem go_Or (h : cE c N) {p : Nat} (hp : p ≤ N) : ((pOo (pBr c N 8) c N p).2 = none → Go c N f u true p [] [] ((pOo (pBr c N 8) c N p).1, none)) ∧
    ∀ A, (pOo (pBr c N 8) c N p).2 = some A → Ev f A (bI (evS f A)) ∧ (N ≤ (pOo (pBr c N 8) c N p).1 ∨ (c (pOo (pBr c N 8) c N p).1 = 117 ∧ u = true) → Go c N f u true p [] [] ((pOo (pBr c N 8) c N p).1, some (evS f A))) ∧
      (¬ (N ≤ (pOo (pBr c N 8) c N p).1 ∨ (c (pOo (pBr c N 8) c N p).1 = 117 ∧ u = true)) → Go c N f u true p [] [] ((pOo (pBr c N 8) c N p).1, none)) := by
  have T := tt_Oo h (ok_Br h 8) (tt_Br (f := f) (u := u) h 8) hp (S := []) (V := []) rfl (by show (0 : Nat) ≠ 33; omega) (by show (0 : Nat) ≠ 38; omega) (by show (0 : Nat) ≠ 124; omega)
  refine ⟨T.1, fun A hA => ?_⟩
  obtain ⟨hB, hT⟩ := T.2 A hA
  obtain ⟨n38, n124⟩ := end_Oo h (ok_Br h 8) hp hA
  refine ⟨hB, fun hq => hT _ (fun S' V' e => ?_), fun hq => hT _ (fun S' V' e => ?_)⟩
  · by_cases hlt : N ≤ (pOo (pBr c N 8) c N p).1
    · exact go_fin hlt e
    · have := hq.resolve_left hlt
      exact go_ends (by omega) this.1 this.2 e
  · have hlt : (pOo (pBr c N 8) c N p).1 < N := by omega
    exact go_stop hlt n38 n124 e (fun x => hq (Or.inr ⟨x.1, x.2.1⟩)) (fun x => by have := x.2; exact absurd this (by show ¬ (0 : Nat) = 40; omega))
end MRS
