/-! THE ROUND: a search over digits -/
def inR (g : Nat → Int32) : Nat → Nat → Bool
  | 0, _ => false
  | n + 1, s => inR g n s || decide (g n = nI s)
/-- the first s schools that are in a row, by their numbers -/
def stL (g : Nat → Int32) (n : Nat) : Nat → List Nat
  | 0 => []
  | s + 1 => if inR g n s = true then stL g n s ++ [s] else stL g n s
/-- the first k elements are schools, unlike ones -/
def vr (A : Abs) (g : Nat → Int32) : Nat → Bool
  | 0 => true
  | k + 1 => vr A g k && decide (rg (g k) (A.1 0)) && !(inR g k (ix (g k)))
theorem vr_s {A : Abs} {g : Nat → Int32} {k : Nat} : vr A g (k + 1) = true ↔ vr A g k = true ∧ rg (g k) (A.1 0) ∧ inR g k (ix (g k)) = false := by
  show (vr A g k && decide (rg (g k) (A.1 0)) && !(inR g k (ix (g k)))) = true ↔ _
  rw [Bool.and_eq_true, Bool.and_eq_true, decide_eq_true_iff, Bool.not_eq_true']
  exact ⟨fun h => ⟨h.1.1, h.1.2, h.2⟩, fun h => ⟨⟨h.1, h.2.1⟩, h.2.2⟩⟩
theorem vr_mono {A : Abs} {g : Nat → Int32} {k n : Nat} (h : k ≤ n) (hv : vr A g n = true) : vr A g k = true := by
  induction n with
  | zero => rw [Nat.le_zero.mp h]; exact hv
  | succ n ih =>
    rcases Nat.lt_or_eq_of_le h with q | q
    · exact ih (by omega) (vr_s.mp hv).1
    · rw [q]; exact hv
theorem inR_s {g : Nat → Int32} {n s : Nat} : inR g (n + 1) s = true ↔ inR g n s = true ∨ g n = nI s := by
  show (inR g n s || decide (g n = nI s)) = true ↔ _
  rw [Bool.or_eq_true, decide_eq_true_iff]
theorem stL_in {g : Nat → Int32} {n : Nat} : ∀ s x, x ∈ stL g n s ↔ x < s ∧ inR g n x = true := by
  intro s
  induction s with
  | zero => intro x; exact ⟨fun h => (by cases h), fun h => absurd h.1 (Nat.not_lt_zero x)⟩
  | succ s ih =>
    intro x
    show x ∈ (if inR g n s = true then stL g n s ++ [s] else stL g n s) ↔ _
    by_cases q : inR g n s = true
    · rw [if_pos q, List.mem_append, ih, List.mem_singleton]
      constructor
      · rintro (h | h)
        · exact ⟨by omega, h.2⟩
        · rw [h]; exact ⟨by omega, q⟩
      · intro h
        rcases Nat.lt_or_eq_of_le (show x ≤ s by omega) with y | y
        · exact Or.inl ⟨y, h.2⟩
        · exact Or.inr y
    · rw [if_neg q, ih]
      constructor
      · intro h; exact ⟨by omega, h.2⟩
      · intro h
        rcases Nat.lt_or_eq_of_le (show x ≤ s by omega) with y | y
        · exact ⟨y, h.2⟩
        · rw [y] at h; exact absurd h.2 q
theorem stL_up {g : Nat → Int32} {n : Nat} : ∀ s, (stL g n s).Pairwise (· < ·) := by
  intro s
  induction s with
  | zero => exact List.Pairwise.nil
  | succ s ih =>
    show (if inR g n s = true then stL g n s ++ [s] else stL g n s).Pairwise (· < ·)
    by_cases q : inR g n s = true
    · rw [if_pos q]
      refine List.pairwise_append.mpr ⟨ih, List.pairwise_singleton _ _, fun x hx y hy => ?_⟩
      rw [List.mem_singleton] at hy
      rw [hy]
      exact ((stL_in s x).mp hx).1
    · rw [if_neg q]; exact ih
/-- one more element of a row -/
theorem stL_len1 {g : Nat → Int32} {k s0 : Nat} (h : g k = nI s0) (hs0 : s0 < 2 ^ 31) (hn : inR g k s0 = false) : ∀ c, c < 2 ^ 31 → (stL g (k + 1) c).length = (stL g k c).length + (if s0 < c then 1 else 0) := by
  intro c
  induction c with
  | zero => intro _; rfl
  | succ c ih =>
    intro hc
    have i := ih (by omega)
    show (if inR g (k + 1) c = true then stL g (k + 1) c ++ [c] else stL g (k + 1) c).length = (if inR g k c = true then stL g k c ++ [c] else stL g k c).length + _
    by_cases q : c = s0
    · subst q
      have a1 : inR g (k + 1) c = true := inR_s.mpr (Or.inr h)
      rw [if_pos a1, if_neg (by rw [hn]; decide), if_pos (by omega), List.length_append, i, if_neg (by omega)]
      rfl
    · have a1 : (inR g (k + 1) c = true) ↔ (inR g k c = true) := by
        rw [inR_s, h, nI_eq hs0 (by omega)]
        exact ⟨fun y => y.elim (fun z => z) (fun z => absurd z.symm q), Or.inl⟩
      by_cases r : inR g k c = true
      · rw [if_pos (a1.mpr r), if_pos r, List.length_append, List.length_append, i]
        by_cases t : s0 < c
        · rw [if_pos t, if_pos (by omega)]; show _ + 1 + 1 = _ + 1 + 1; rfl
        · rw [if_neg t, if_neg (by omega)]; rfl
      · rw [if_neg (fun y => r (a1.mp y)), if_neg r, i]
        by_cases t : s0 < c
        · rw [if_pos t, if_pos (by omega)]
        · rw [if_neg t, if_neg (by omega)]
theorem stL_0 {g : Nat → Int32} : ∀ c, stL g 0 c = [] := by
  intro c
  induction c with
  | zero => rfl
  | succ c ih =>
    show (if inR g 0 c = true then stL g 0 c ++ [c] else stL g 0 c) = []
    have z : ¬ inR g 0 c = true := fun y => by cases y
    rw [if_neg z, ih]
theorem stL_len {A : Abs} {g : Nat → Int32} (h12 : A.1 0 ≤ 12) : ∀ k, vr A g k = true → (stL g k (A.1 0)).length = k := by
  intro k
  induction k with
  | zero => intro _; rw [stL_0]; rfl
  | succ k ih =>
    intro hv
    obtain ⟨h1, h2, h3⟩ := vr_s.mp hv
    have hl := rg_lt h2
    rw [stL_len1 (rg_nI h2 (by omega)) (by omega) h3 _ (by omega), ih h1, if_pos hl]
theorem stL_pre {g : Nat → Int32} {n : Nat} : ∀ s t, s ≤ t → (stL g n s).length ≤ (stL g n t).length ∧ ((stL g n s).length = (stL g n t).length → stL g n s = stL g n t) := by
  intro s t
  induction t with
  | zero => intro h; rw [Nat.le_zero.mp h]; exact ⟨Nat.le_refl _, fun _ => rfl⟩
  | succ t ih =>
    intro h
    rcases Nat.lt_or_eq_of_le h with q | q
    · obtain ⟨i1, i2⟩ := ih (by omega)
      show _ ≤ (if inR g n t = true then stL g n t ++ [t] else stL g n t).length ∧ (_ = (if inR g n t = true then stL g n t ++ [t] else stL g n t).length → _ = (if inR g n t = true then stL g n t ++ [t] else stL g n t))
      by_cases r : inR g n t = true
      · rw [if_pos r, List.length_append]
        have : [t].length = 1 := rfl
        exact ⟨by omega, fun y => by omega⟩
      · rw [if_neg r]; exact ⟨i1, i2⟩
    · rw [q]; exact ⟨Nat.le_refl _, fun _ => rfl⟩
theorem sorted_eq : ∀ {a b : List Nat}, a.Pairwise (· < ·) → b.Pairwise (· < ·) → (∀ x, x ∈ a ↔ x ∈ b) → a = b
  | [], [], _, _, _ => rfl
  | [], y :: b, _, _, h => (by have := (h y).mpr (List.mem_cons_self); cases this)
  | x :: a, [], _, _, h => (by have := (h x).mp (List.mem_cons_self); cases this)
  | x :: a, y :: b, ha, hb, h => by
    obtain ⟨a1, a2⟩ := List.pairwise_cons.mp ha
    obtain ⟨b1, b2⟩ := List.pairwise_cons.mp hb
    have exy : x = y := by
      have hx := List.mem_cons.mp ((h x).mp List.mem_cons_self)
      have hy := List.mem_cons.mp ((h y).mpr List.mem_cons_self)
      rcases hx with hx | hx
      · exact hx
      · rcases hy with hy | hy
        · exact hy.symm
        · have := b1 x hx
          have := a1 y hy
          omega
    subst exy
    have : a = b := sorted_eq a2 b2 (fun z => by
      constructor
      · intro hz
        have := List.mem_cons.mp ((h z).mp (List.mem_cons_of_mem _ hz))
        rcases this with q | q
        · have := a1 z hz; omega
        · exact q
      · intro hz
        have := List.mem_cons.mp ((h z).mpr (List.mem_cons_of_mem _ hz))
        rcases this with q | q
        · have := b1 z hz; omega
        · exact q)
    rw [this]
/-! the search -/
theorem dist_tri (a b c : Nat) : dist a c ≤ dist a b + dist b c := by
  unfold dist
  split <;> split <;> split <;> omega
theorem farN_tri {A : Abs} {dy a b c : Nat} : farN A dy a c ≤ farN A dy a b + farN A dy b c := by
  have h1 := dist_tri (px A dy a) (px A dy b) (px A dy c)
  have h2 := dist_tri (py A dy a) (py A dy b) (py A dy c)
  unfold farN
  omega
def lstP (sf : Nat → Nat) (p : List Nat) : Nat := match p with
  | [] => 0
  | k :: _ => sf k + 1
/-- the way of a path (its last digit first), if it may be gone -/
def evP (A : Abs) (dy mi : Nat) (sf : Nat → Nat) : List Nat → Option Nat
  | [] => some 0
  | k :: p => match evP A dy mi sf p with
    | none => none
    | some W => if k ∈ p then none else if A.2.1 5 (sf k) < mi + (W + farN A dy (lstP sf p) (sf k + 1)) then none else some (W + farN A dy (lstP sf p) (sf k + 1))
abbrev Sr : Type := Nat × List Nat
def chk (A : Abs) (dy mi : Nat) (sf : Nat → Nat) (p : List Nat) (st : Sr) : Sr := match evP A dy mi sf p with
  | none => st
  | some W => if W + farN A dy (lstP sf p) 0 < st.1 then (W + farN A dy (lstP sf p) 0, p) else st
def foldN (f : Nat → Sr → Sr) : Nat → Sr → Sr
  | 0, st => st
  | n + 1, st => f n (foldN f n st)
def srS (A : Abs) (dy mi : Nat) (sf : Nat → Nat) (c : Nat) : Nat → List Nat → Sr → Sr
  | 0, p, st => chk A dy mi sf p st
  | r + 1, p, st => foldN (fun k st => srS A dy mi sf c r (k :: p) st) c st
section SRS
variable {A : Abs} {dy mi c : Nat} {sf : Nat → Nat}
theorem evP_c {k : Nat} {p : List Nat} {W : Nat} (h : evP A dy mi sf p = some W) : evP A dy mi sf (k :: p) = if k ∈ p then none else if A.2.1 5 (sf k) < mi + (W + farN A dy (lstP sf p) (sf k + 1)) then none else some (W + farN A dy (lstP sf p) (sf k + 1)) := by
  conv => lhs; unfold evP
  rw [h]
theorem evP_n {k : Nat} {p : List Nat} (h : evP A dy mi sf p = none) : evP A dy mi sf (k :: p) = none := by
  conv => lhs; unfold evP
  rw [h]
theorem evP_app {p : List Nat} (h : evP A dy mi sf p = none) : ∀ q : List Nat, evP A dy mi sf (q ++ p) = none := by
  intro q
  induction q with
  | nil => exact h
  | cons k q ih => exact evP_n ih
theorem chk_n {p : List Nat} {st : Sr} (h : evP A dy mi sf p = none) : chk A dy mi sf p st = st := by
  unfold chk
  rw [h]
theorem chk_s {p : List Nat} {st : Sr} {W : Nat} (h : evP A dy mi sf p = some W) : chk A dy mi sf p st = if W + farN A dy (lstP sf p) 0 < st.1 then (W + farN A dy (lstP sf p) 0, p) else st := by
  unfold chk
  rw [h]
theorem foldN_id {f : Nat → Sr → Sr} {n : Nat} {st : Sr} (h : ∀ i, i < n → f i st = st) : foldN f n st = st := by
  induction n with
  | zero => rfl
  | succ n ih =>
    show f n (foldN f n st) = st
    rw [ih (fun i hi => h i (by omega)), h n (by omega)]
theorem srS_none : ∀ r (p : List Nat) (st : Sr), evP A dy mi sf p = none → srS A dy mi sf c r p st = st := by
  intro r
  induction r with
  | zero => intro p st h; exact chk_n h
  | succ r ih => intro p st h; exact foldN_id (fun i _ => ih _ _ (evP_n h))
theorem srS_prune : ∀ r (p : List Nat) (st : Sr) W, evP A dy mi sf p = some W → st.1 ≤ W + farN A dy (lstP sf p) 0 → srS A dy mi sf c r p st = st := by
  intro r
  induction r with
  | zero =>
    intro p st W h hl
    show chk A dy mi sf p st = st
    rw [chk_s h, if_neg (by omega)]
  | succ r ih =>
    intro p st W h hl
    refine foldN_id (fun k _ => ?_)
    have e := evP_c (k := k) h
    by_cases q : k ∈ p
    · rw [if_pos q] at e; exact srS_none r _ _ e
    · rw [if_neg q] at e
      by_cases t : A.2.1 5 (sf k) < mi + (W + farN A dy (lstP sf p) (sf k + 1))
      · rw [if_pos t] at e; exact srS_none r _ _ e
      · rw [if_neg t] at e
        refine ih _ _ _ e ?_
        have tri := farN_tri (A := A) (dy := dy) (a := lstP sf p) (b := sf k + 1) (c := 0)
        show _ ≤ W + farN A dy (lstP sf p) (sf k + 1) + farN A dy (sf k + 1) 0
        omega
/-! the same in numbers -/
def rl (c : Nat) : Nat → Nat → List Nat
  | 0, _ => []
  | r + 1, w => (w % c) :: rl c r (w / c)
theorem rl_len : ∀ r w, (rl c r w).length = r := by
  intro r
  induction r with
  | zero => intro w; rfl
  | succ r ih => intro w; show (rl c r (w / c)).length + 1 = r + 1; rw [ih]
theorem rl_split (hc : 0 < c) : ∀ r k w, k < c → w < c ^ r → rl c (r + 1) (k * c ^ r + w) = rl c r w ++ [k] := by
  intro r
  induction r with
  | zero =>
    intro k w hk hw
    have : w = 0 := by have : w < 1 := hw; omega
    subst this
    show [(k * 1 + 0) % c] = [k]
    rw [Nat.mul_one, Nat.add_zero, Nat.mod_eq_of_lt hk]
  | succ r ih =>
    intro k w hk hw
    have e : k * c ^ (r + 1) + w = w + c * (k * c ^ r) := by
      rw [Nat.pow_succ, Nat.add_comm, ← Nat.mul_assoc, Nat.mul_comm c]
    have e1 : (k * c ^ (r + 1) + w) % c = w % c := by rw [e, Nat.add_mul_mod_self_left]
    have e2 : (k * c ^ (r + 1) + w) / c = k * c ^ r + w / c := by rw [e, Nat.add_mul_div_left _ _ hc, Nat.add_comm]
    have hw2 : w / c < c ^ r := by
      rw [Nat.div_lt_iff_lt_mul hc]
      rw [Nat.pow_succ] at hw
      exact hw
    show ((k * c ^ (r + 1) + w) % c) :: rl c (r + 1) ((k * c ^ (r + 1) + w) / c) = (w % c) :: rl c r (w / c) ++ [k]
    rw [e1, e2, ih k (w / c) hk hw2]
    rfl
theorem rl_snoc (hc : 0 < c) : ∀ t w, rl c (t + 1) w = rl c t w ++ [w / c ^ t % c] := by
  intro t
  induction t with
  | zero =>
    intro w
    show [w % c] = [w / 1 % c]
    rw [Nat.div_one]
  | succ t ih =>
    intro w
    show (w % c) :: rl c (t + 1) (w / c) = (w % c) :: rl c t (w / c) ++ [w / c ^ (t + 1) % c]
    rw [ih, Nat.div_div_eq_div_mul, Nat.pow_succ, Nat.mul_comm c]
    rfl
theorem foldN_congr {f g : Nat → Sr → Sr} {n : Nat} (h : ∀ i, i < n → ∀ st, f i st = g i st) : ∀ st, foldN f n st = foldN g n st := by
  induction n with
  | zero => intro st; rfl
  | succ n ih =>
    intro st
    show f n (foldN f n st) = g n (foldN g n st)
    rw [ih (fun i hi => h i (by omega)), h n (by omega)]
theorem foldN_add {f : Nat → Sr → Sr} {a : Nat} {st : Sr} : ∀ b, foldN f (a + b) st = foldN (fun i st => f (a + i) st) b (foldN f a st) := by
  intro b
  induction b with
  | zero => rfl
  | succ b ih =>
    show f (a + b) (foldN f (a + b) st) = f (a + b) (foldN (fun i st => f (a + i) st) b (foldN f a st))
    rw [ih]
theorem foldN_mul {f : Nat → Sr → Sr} {b : Nat} {st : Sr} : ∀ a, foldN f (a * b) st = foldN (fun k st => foldN (fun w st => f (k * b + w) st) b st) a st := by
  intro a
  induction a with
  | zero => rw [Nat.zero_mul]; rfl
  | succ a ih =>
    rw [Nat.succ_mul, foldN_add, ih]
    rfl
theorem srS_enum (hc : 0 < c) : ∀ r (p : List Nat) (st : Sr), srS A dy mi sf c r p st = foldN (fun w st => chk A dy mi sf (rl c r w ++ p) st) (c ^ r) st := by
  intro r
  induction r with
  | zero => intro p st; rfl
  | succ r ih =>
    intro p st
    rw [Nat.pow_succ, Nat.mul_comm, foldN_mul]
    refine foldN_congr (fun k hk st => ?_) st
    rw [ih]
    refine foldN_congr (fun w hw st => ?_) st
    rw [rl_split hc r k w hk hw, List.append_assoc]
    rfl
theorem evP_le (hf : ∀ k, farN A dy (lstP sf k) 0 ≤ 198 ∧ ∀ j, farN A dy (lstP sf k) (sf j + 1) ≤ 198) : ∀ (p : List Nat) W, evP A dy mi sf p = some W → W ≤ 198 * p.length := by
  intro p
  induction p with
  | nil => intro W h; cases h; exact Nat.le_refl _
  | cons k p ih =>
    intro W h
    cases hp : evP A dy mi sf p with
    | none => rw [evP_n hp] at h; cases h
    | some V =>
      rw [evP_c hp] at h
      have i := ih V hp
      have f := (hf p).2 k
      by_cases q : k ∈ p
      · rw [if_pos q] at h; cases h
      · rw [if_neg q] at h
        by_cases t : A.2.1 5 (sf k) < mi + (V + farN A dy (lstP sf p) (sf k + 1))
        · rw [if_pos t] at h; cases h
        · rw [if_neg t] at h
          cases h
          show _ ≤ 198 * (p.length + 1)
          omega
/-- what a state of the search may be -/
def srOK (c : Nat) (st : Sr) : Prop := st.1 ≤ 1000000 ∧ (st.1 ≠ 1000000 → st.2.length = c ∧ ∀ k, k ∈ st.2 → k < c)
theorem chk_OK {p : List Nat} {st : Sr} (h : srOK c st) (hp : p.length = c) (hk : ∀ k, k ∈ p → k < c) : srOK c (chk A dy mi sf p st) := by
  cases e : evP A dy mi sf p with
  | none => rw [chk_n e]; exact h
  | some W =>
    rw [chk_s e]
    split
    · rename_i q
      exact ⟨by have := h.1; show W + _ ≤ 1000000; omega, fun _ => ⟨hp, hk⟩⟩
    · exact h
theorem foldN_OK {f : Nat → Sr → Sr} {n : Nat} {st : Sr} (h : srOK c st) (hf : ∀ i, i < n → ∀ st, srOK c st → srOK c (f i st)) : srOK c (foldN f n st) := by
  induction n with
  | zero => exact h
  | succ n ih => exact hf n (by omega) _ (ih (fun i hi => hf i (by omega)))
theorem srS_OK : ∀ r (p : List Nat) (st : Sr), srOK c st → p.length + r = c → (∀ k, k ∈ p → k < c) → srOK c (srS A dy mi sf c r p st) := by
  intro r
  induction r with
  | zero => intro p st h hl hk; exact chk_OK h hl hk
  | succ r ih =>
    intro p st h hl hk
    refine foldN_OK h (fun k hkc st hst => ih _ _ hst (by show p.length + 1 + r = c; omega) (fun j hj => ?_))
    rcases List.mem_cons.mp hj with q | q
    · rw [q]; exact hkc
    · exact hk j q
end SRS
/-! bits -/
theorem bit7 : ∀ u, u < 128 → ∀ k, k < 7 → ((nI u >>> (nI k &&& 31)) &&& 1 = nI (u / 2 ^ k % 2)) ∧ (nI u ||| (1 <<< (nI k &&& 31)) = nI (if u / 2 ^ k % 2 = 1 then u else u + 2 ^ k)) ∧ (u / 2 ^ k % 2 = 0 → u + 2 ^ k < 128 ∧ nI (u + 2 ^ k) &&& ((1 <<< (nI k &&& 31)) ^^^ (-1)) = nI u) := by decide +kernel
theorem bit7b : ∀ u, u < 128 → ∀ k, k < 7 → u / 2 ^ k % 2 = 0 → ∀ j, j < 7 → (u + 2 ^ k) / 2 ^ j % 2 = if j = k then 1 else u / 2 ^ j % 2 := by decide +kernel
theorem bit12' : ∀ a, a < 64 → ∀ b, b < 64 → ∀ k, k < 12 → ((nI (64 * a + b) >>> (nI k &&& 31)) &&& 1 = nI ((64 * a + b) / 2 ^ k % 2)) ∧ ((64 * a + b) / 2 ^ k % 2 = 0 → 64 * a + b + 2 ^ k < 4096 ∧ nI (64 * a + b) ||| (1 <<< (nI k &&& 31)) = nI (64 * a + b + 2 ^ k)) := by decide +kernel
theorem bit12 {u k : Nat} (hu : u < 4096) (hk : k < 12) : ((nI u >>> (nI k &&& 31)) &&& 1 = nI (u / 2 ^ k % 2)) ∧ (u / 2 ^ k % 2 = 0 → u + 2 ^ k < 4096 ∧ nI u ||| (1 <<< (nI k &&& 31)) = nI (u + 2 ^ k)) := by
  have := bit12' (u / 64) (by omega) (u % 64) (by omega) k hk
  rw [show 64 * (u / 64) + u % 64 = u by omega] at this
  exact this
theorem bit12b {u k : Nat} (h : u / 2 ^ k % 2 = 0) (j : Nat) : (u + 2 ^ k) / 2 ^ j % 2 = if j = k then 1 else u / 2 ^ j % 2 := by
  have pp : ∀ i : Nat, 0 < 2 ^ i := fun i => Nat.pow_pos (by omega)
  rcases Nat.lt_trichotomy j k with q | q | q
  · rw [if_neg (by omega)]
    obtain ⟨t, rfl⟩ : ∃ t, k = j + (t + 1) := ⟨k - j - 1, by omega⟩
    have e : 2 ^ (j + (t + 1)) = 2 ^ j * (2 * 2 ^ t) := by rw [Nat.pow_add, Nat.pow_succ, Nat.mul_comm (2 ^ t)]
    rw [e, Nat.add_mul_div_left _ _ (pp j)]
    omega
  · subst q
    rw [if_pos rfl, Nat.add_div_right _ (pp j)]
    omega
  · rw [if_neg (by omega)]
    obtain ⟨t, rfl⟩ : ∃ t, j = k + (t + 1) := ⟨j - k - 1, by omega⟩
    have e : 2 ^ (k + (t + 1)) = 2 ^ k * 2 * 2 ^ t := by rw [Nat.pow_add, Nat.pow_succ, Nat.mul_comm (2 ^ t), Nat.mul_assoc]
    rw [e, ← Nat.div_div_eq_div_mul, ← Nat.div_div_eq_div_mul, ← Nat.div_div_eq_div_mul, ← Nat.div_div_eq_div_mul, Nat.add_div_right _ (pp k)]
    have : (u / 2 ^ k).succ / 2 = u / 2 ^ k / 2 := by omega
    rw [this]
