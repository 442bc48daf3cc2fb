/-! THE ROUND, the class's -/
def eqN (M M' : Mem) : Prop := (∀ c, c ≠ 9 → c ≠ 41 → c ≠ 42 → M'.1 c = M.1 c) ∧ (∀ i j, ¬ (i = 0 ∧ (j = 0 ∨ j = 8)) → M'.1 9 i j = M.1 9 i j) ∧ M'.2 = M.2
theorem eqN.rf {M : Mem} : eqN M M := ⟨fun _ _ _ _ => rfl, fun _ _ _ => rfl, rfl⟩
theorem eqN.tr {M M1 M2 : Mem} (h : eqN M M1) (g : eqN M1 M2) : eqN M M2 := ⟨fun c a b d => (g.1 c a b d).trans (h.1 c a b d), fun i j a => (g.2.1 i j a).trans (h.2.1 i j a), g.2.2.trans h.2.2⟩
theorem eqN.w {M : Mem} {j : Nat} {v : Int32} (h : j = 0 ∨ j = 8) : eqN M (wI M 9 0 j v) := ⟨fun c a _ _ => wI_cc a, fun i' j' a => by rw [wI_at, if_neg]; intro q; exact a ⟨q.2.1, by omega⟩, rfl⟩
theorem eqN.w42 {M : Mem} {j : Nat} {v : Int32} : eqN M (wI M 42 0 j v) := ⟨fun c _ _ a => wI_cc a, fun i' j' a => by rw [wI_cc (by omega)], rfl⟩
theorem wR_cc {M : Mem} {c i c' : Nat} {g : Nat → Int32} (h : c' ≠ c) : (wR M c i g).1 c' = M.1 c' := by
  funext i'
  show uR M.1 c i g c' i' = _
  unfold uR
  rw [if_neg (fun q => h q.1)]
theorem wR_at {M : Mem} {c i : Nat} {g : Nat → Int32} : (wR M c i g).1 c i = g := by
  show uR M.1 c i g c i = _
  unfold uR
  rw [if_pos ⟨rfl, rfl⟩]
theorem eqN.w41 {M : Mem} {g : Nat → Int32} : eqN M (wR M 41 0 g) := ⟨fun c _ a _ => wR_cc a, fun i j _ => by rw [wR_cc (by omega)], rfl⟩
theorem eqN.RC {w : Nat} {M M' : Mem} {A : Abs} (h : eqN M M') (g : RC w M A) : RC w M' A :=
  g.fr (fun c hc => by rw [h.1 c (by unfold pK at hc; omega) (by unfold pK at hc; omega) (by unfold pK at hc; omega)]) (by rw [h.1 1 (by omega) (by omega) (by omega)]) (fun c hc => h.1 c (by omega) (by omega) (by omega)) (by rw [h.2.2])
/-- place j of the search's own rows holds the school s: its number, its place, its latest minute -/
def S4 (A : Abs) (M : Mem) (j s : Nat) : Prop := M.1 43 0 j = nI s ∧ M.1 82 0 j = nI (A.2.1 1 s) ∧ M.1 83 0 j = nI (A.2.1 2 s) ∧ M.1 84 0 j = nI (A.2.1 5 s)
theorem S4.fr {A : Abs} {M M' : Mem} {j s : Nat} (h : S4 A M j s) (e : ∀ c, c = 43 ∨ (82 ≤ c ∧ c < 85) → M'.1 c 0 j = M.1 c 0 j) : S4 A M' j s := ⟨by rw [e 43 (by omega)]; exact h.1, by rw [e 82 (by omega)]; exact h.2.1, by rw [e 83 (by omega)]; exact h.2.2.1, by rw [e 84 (by omega)]; exact h.2.2.2⟩
theorem eqN.S4 {A : Abs} {M M' : Mem} {j s : Nat} (e : eqN M M') (h : S4 A M j s) : S4 A M' j s := h.fr (fun c hc => by rw [e.1 c (by omega) (by omega) (by omega)])
def GI (A : Abs) (M : Mem) (mi c : Nat) (sf : Nat → Nat) (hx hy u : Nat) (p : List Nat) (st : Sr) : Prop := M.1 9 0 7 = nI c ∧ M.1 9 0 8 = nI u ∧ M.1 9 0 9 = nI mi ∧ M.1 9 0 10 = nI hx ∧ M.1 9 0 11 = nI hy ∧ M.1 9 0 0 = nI st.1 ∧ (∀ j, j < p.length → M.1 42 0 j = nI (sf (p.reverse.getD j 0))) ∧ (st.1 ≠ 1000000 → ∀ j, j < c → M.1 41 0 j = nI (sf (st.2.reverse.getD j 0))) ∧ ∀ j, j < c → S4 A M j (sf j)
def mset (p : List Nat) (u : Nat) : Prop := u < 128 ∧ ∀ k, k < 7 → (u / 2 ^ k % 2 = 1 ↔ k ∈ p)
theorem rev_old {p : List Nat} {k j : Nat} (h : j < p.length) : (k :: p).reverse.getD j 0 = p.reverse.getD j 0 := by
  rw [List.reverse_cons, List.getD_eq_getElem?_getD, List.getD_eq_getElem?_getD, List.getElem?_append_left (by rw [List.length_reverse]; exact h)]
theorem rev_new {p : List Nat} {k : Nat} : (k :: p).reverse.getD p.length 0 = k := by
  rw [List.reverse_cons, List.getD_eq_getElem?_getD, List.getElem?_append_right (by rw [List.length_reverse]; exact Nat.le_refl _), List.length_reverse, Nat.sub_self]
  rfl
theorem mset_c {p : List Nat} {u k : Nat} (h : mset p u) (hk : k < 7) (hn : k ∉ p) : mset (k :: p) (u + 2 ^ k) ∧ u / 2 ^ k % 2 = 0 := by
  have z : u / 2 ^ k % 2 = 0 := by
    have := h.2 k hk
    have : ¬ u / 2 ^ k % 2 = 1 := fun q => hn (this.mp q)
    omega
  refine ⟨⟨((bit7 u h.1 k hk).2.2 z).1, fun j hj => ?_⟩, z⟩
  rw [bit7b u h.1 k hk z j hj, List.mem_cons]
  by_cases q : j = k
  · rw [if_pos q]; exact ⟨fun _ => Or.inl q, fun _ => rfl⟩
  · rw [if_neg q, h.2 j hj]; exact ⟨Or.inr, fun y => y.resolve_left q⟩
section GOC
variable {A : Abs} {dy mi c : Nat} {sf : Nat → Nat}
theorem lst_le (hsf : ∀ j, j < c → sf j < A.1 0) {p : List Nat} (hk : ∀ k, k ∈ p → k < c) : lstP sf p ≤ A.1 0 := by
  cases p with
  | nil => exact Nat.zero_le _
  | cons k p => exact hsf k (hk k List.mem_cons_self)
theorem far198 (hw : Wf A) (hdy : dy < A.1 1) {l m : Nat} (hl : l ≤ A.1 0) (hm : m ≤ A.1 0) : farN A dy l m ≤ 198 := by
  obtain ⟨a1, a2⟩ := Wf_px hw hdy hl
  obtain ⟨b1, b2⟩ := Wf_px hw hdy hm
  unfold farN dist
  split <;> split <;> omega
theorem gC (hw : Wf A) (hdy : dy < A.1 1) (hc : c ≤ 7) (hsf : ∀ j, j < c → sf j < A.1 0) (hmi : mi ≤ 600) : ∀ (r n : Nat) (p : List Nat) (W u : Nat) (st : Sr) (M : Mem) (P : Mem → Prop), r < n → p.length + r = c → evP A dy mi sf p = some W → (∀ k, k ∈ p → k < c) → W ≤ 198 * p.length → srOK c st → mset p u → RC 0 M A → GI A M mi c sf (A.2.1 7 dy) (A.2.1 8 dy) u p st →
    (r = 0 → W + farN A dy (lstP sf p) 0 < st.1) → (∀ M', eqN M M' → GI A M' mi c sf (A.2.1 7 dy) (A.2.1 8 dy) u p (srS A dy mi sf c r p st) → P M') →
    sr_X7_goOn n M (nI p.length) (nI (px A dy (lstP sf p))) (nI (py A dy (lstP sf p))) (nI W) P := by
  have h12 := hw.1
  intro r
  induction r with
  | zero =>
    intro n p W u st M P hrn hlen hev hk hW hst hm hRC hGI hleaf hp
    obtain ⟨n, rfl⟩ : ∃ j, n = j + 1 := ⟨n - 1, by omega⟩
    show s_X7_goOn (sr_X7_goOn n) M _ _ _ _ P
    unfold s_X7_goOn
    obtain ⟨q4, q5, q6, q7, q8, q0, q42, q41, q43⟩ := hGI
    have hl := lst_le hsf hk
    obtain ⟨b1, b2⟩ := Wf_px hw hdy hl
    obtain ⟨d1', d2'⟩ := Wf_px hw hdy (Nat.zero_le (A.1 0))
    have hst1 := hst.1
    rw [q4, q7, q8, nI_ltI (by omega) (by omega)]
    refine ⟨fun z => by omega, fun _ => tC_far b1 b2 d1' d2' (fun M1 m1 M2 m2 => ?_)⟩
    have ef : dist (px A dy (lstP sf p)) (A.2.1 7 dy) + dist (py A dy (lstP sf p)) (A.2.1 8 dy) = farN A dy (lstP sf p) 0 := rfl
    rw [nI_add, ef] at m1
    have r1 : eqN M M1 := by rw [m1]; exact eqN.w (Or.inl rfl)
    have r2 : eqN M1 M2 := by rw [m2]; exact eqN.w41
    have es : srS A dy mi sf c 0 p st = (W + farN A dy (lstP sf p) 0, p) := by
      show chk A dy mi sf p st = _
      rw [chk_s hev, if_pos (hleaf rfl)]
    have j9 : ∀ j, j ≠ 0 → M2.1 9 0 j = M.1 9 0 j := fun j hj => by
      rw [m2, wR_cc (by omega), m1, wI_at, if_neg (fun q => hj q.2.2)]
    have c42 : M2.1 42 = M.1 42 := by
      rw [m2, wR_cc (by omega), m1, wI_cc (by omega)]
    refine hp M2 (r1.tr r2) ⟨by rw [j9 7 (by omega)]; exact q4, by rw [j9 8 (by omega)]; exact q5, by rw [j9 9 (by omega)]; exact q6, by rw [j9 10 (by omega)]; exact q7, by rw [j9 11 (by omega)]; exact q8, ?_, fun j hj => by rw [c42]; exact q42 j hj, fun _ j hj => ?_, fun j hj => (r1.tr r2).S4 (q43 j hj)⟩
    · rw [es, m2, wR_cc (by omega), m1, wI_at, if_pos ⟨rfl, rfl, rfl⟩]
    · rw [es, m2, wR_at, sb_cpy0 (by omega), m1, wI_cc (by omega)]
      exact q42 j (by omega)
  | succ r ih =>
    intro n p W u st M P hrn hlen hev hk hW hst hm hRC hGI hleaf hp
    obtain ⟨n, rfl⟩ : ∃ j, n = j + 1 := ⟨n - 1, by omega⟩
    show s_X7_goOn (sr_X7_goOn n) M _ _ _ _ P
    unfold s_X7_goOn
    have q4 := hGI.1
    have hl := lst_le hsf hk
    obtain ⟨b1, b2⟩ := Wf_px hw hdy hl
    obtain ⟨d1', d2'⟩ := Wf_px hw hdy (Nat.zero_le (A.1 0))
    rw [q4, nI_ltI (by omega) (by omega)]
    refine ⟨fun _ => ?_, fun z => by omega⟩
    have OK : ∀ k, k ≤ c → srOK c (foldN (fun k st => srS A dy mi sf c r (k :: p) st) k st) := fun k hkc => foldN_OK hst (fun i hi st' h' => srS_OK r _ _ h' (by show p.length + 1 + r = c; omega) (fun j hj => by
      rcases List.mem_cons.mp hj with q | q
      · rw [q]; omega
      · exact hk j q))
    refine Lz_rule (fun a => ∃ k, k ≤ c ∧ a.2 = nI k ∧ eqN M a.1 ∧ GI A a.1 mi c sf (A.2.1 7 dy) (A.2.1 8 dy) u p (foldN (fun k st => srS A dy mi sf c r (k :: p) st) k st)) (fun a => c - a.2.toNatClampNeg) ?_ ⟨0, Nat.zero_le _, rfl, eqN.rf, hGI⟩
    rintro K ⟨M1, x⟩ ⟨k, hkc, e, r1, g1⟩ hK
    dsimp only at e r1 g1
    show s_X7_goOn_43 (sr_X7_goOn n) (nI p.length) (nI (px A dy (lstP sf p))) (nI (py A dy (lstP sf p))) (nI W) P K M1 x
    unfold s_X7_goOn_43
    obtain ⟨q4, q5, q6, q7, q8, q0, q42, q41, q43⟩ := id g1
    rw [q4, e, nI_leI (by omega) (by omega)]
    refine ⟨fun z => ?_, fun z => ?_⟩
    · have : c = k := by omega
      have g1' : GI A M1 mi c sf (A.2.1 7 dy) (A.2.1 8 dy) u p (srS A dy mi sf c (r + 1) p st) := by
        show GI A M1 mi c sf (A.2.1 7 dy) (A.2.1 8 dy) u p (foldN (fun k st => srS A dy mi sf c r (k :: p) st) c st)
        rw [this]
        rw [this] at g1
        exact g1
      exact hp M1 r1 g1'
    have hk2 : k < c := by omega
    have next : ∀ M2, eqN M1 M2 → GI A M2 mi c sf (A.2.1 7 dy) (A.2.1 8 dy) u p (srS A dy mi sf c r (k :: p) (foldN (fun k st => srS A dy mi sf c r (k :: p) st) k st)) → ∀ v : Int32, v = nI k + 1 → K (M2, v) := by
      intro M2 r2 g2 v ev
      rw [ev, nI_1]
      refine hK _ ⟨k + 1, by omega, rfl, r1.tr r2, g2⟩ ?_
      show c - (nI (k + 1)).toNatClampNeg < c - x.toNatClampNeg
      rw [e, nI_clamp (by omega), nI_clamp (by omega)]; omega
    have ok := OK k (by omega)
    generalize hS : foldN (fun k st => srS A dy mi sf c r (k :: p) st) k st = s0 at *
    have skip : srS A dy mi sf c r (k :: p) s0 = s0 → ∀ v : Int32, v = nI k + 1 → K (M1, v) := fun es => next M1 eqN.rf (by rw [es]; exact g1)
    have bk := (bit7 u hm.1 k (by omega)).1
    rw [q5, bk]
    have hb2 : u / 2 ^ k % 2 < 2 := Nat.mod_lt _ (by omega)
    have e0 : nI (u / 2 ^ k % 2) = 0 ↔ u / 2 ^ k % 2 = 0 := eqk (by omega) rfl (by omega)
    rw [e0]
    have mk := hm.2 k (by omega)
    have evc := evP_c (k := k) hev
    refine ⟨fun y => skip (srS_none r _ _ ?_), fun y => ?_⟩
    · rw [evc, if_pos (mk.mp (by omega))]
    have hno : k ∉ p := fun t => by have := mk.mpr t; omega
    rw [if_neg hno] at evc
    unfold s_X7_visit
    have hs := hsf k hk2
    have vk7 : vp_in (nI k) 7 := vp_in_nI (by omega) (by omega)
    have g1RC := r1.RC hRC
    obtain ⟨a43, a82, a83, a84⟩ := q43 k hk2
    obtain ⟨e1', e2'⟩ := Wf_px hw hdy (show sf k + 1 ≤ A.1 0 by omega)
    have pxs : px A dy (sf k + 1) = A.2.1 1 (sf k) := by unfold px; rw [if_neg (by omega)]; rfl
    have pys : py A dy (sf k + 1) = A.2.1 2 (sf k) := by unfold py; rw [if_neg (by omega)]; rfl
    rw [pxs] at e1'
    rw [pys] at e2'
    have clk : (nI k).toNatClampNeg = k := nI_clamp (by omega)
    rw [clk, a82, a83]
    refine ⟨vk7, vk7, tC_far b1 b2 e1' e2' (fun x7 e7 => ⟨vk7, vk7, ?_⟩)⟩
    rw [a82, a83, q7, q8]
    refine tC_far e1' e2' d1' d2' (fun x8 e8 => ⟨vk7, ?_⟩)
    have f1 : dist (px A dy (lstP sf p)) (A.2.1 1 (sf k)) + dist (py A dy (lstP sf p)) (A.2.1 2 (sf k)) = farN A dy (lstP sf p) (sf k + 1) := by unfold farN; rw [pxs, pys]
    have f2 : dist (A.2.1 1 (sf k)) (A.2.1 7 dy) + dist (A.2.1 2 (sf k)) (A.2.1 8 dy) = farN A dy (sf k + 1) 0 := by unfold farN; rw [pxs, pys]; rfl
    rw [f1, nI_add] at e7
    rw [f2, e7, nI_add] at e8
    have hf1 := far198 hw hdy hl (show sf k + 1 ≤ A.1 0 by omega)
    have hf2 := far198 hw hdy (show sf k + 1 ≤ A.1 0 by omega) (Nat.zero_le _)
    have hlat : A.2.1 5 (sf k) ≤ 999 := (hw.2.2.2.2.2.2.1 (sf k) hs).2.2.2.2.2
    rw [a84, q6, e7, nI_add, nI_ltI (by omega) (by omega)]
    refine ⟨fun z2 => skip (srS_none r _ _ (by rw [evc, if_pos z2])), fun z2 => ?_⟩
    rw [if_neg z2] at evc
    have ok1 := ok.1
    rw [q0, e8, nI_ltI (by omega) (by omega)]
    refine ⟨fun z3 => ?_, fun z3 => skip (srS_prune r _ _ _ evc (by show _ ≤ W + farN A dy (lstP sf p) (sf k + 1) + farN A dy (sf k + 1) 0; omega))⟩
    have vp7 : vp_in (nI p.length) 7 := vp_in_nI (by omega) (by omega)
    rw [nI_clamp (by omega)]
    refine ⟨vk7, vp7, fun M2 m2 M3 m3 => ⟨vk7, vk7, ?_⟩⟩
    rw [a43] at m2
    obtain ⟨mc, mz⟩ := mset_c hm (show k < 7 by omega) hno
    have c52 : M2.1 9 = M1.1 9 := by rw [m2, wI_cc (by omega)]
    rw [c52, q5] at m3
    have hor := (bit7 u hm.1 k (by omega)).2.1
    rw [if_neg (by omega)] at hor
    rw [hor] at m3
    have r2 : eqN M1 M2 := by rw [m2]; exact eqN.w42
    have r3 : eqN M2 M3 := by rw [m3]; exact eqN.w (Or.inr rfl)
    have k9 : ∀ j, j ≠ 8 → M3.1 9 0 j = M1.1 9 0 j := fun j hj => by rw [m3, wI_at, if_neg (fun q => hj q.2.2), c52]
    have k42 : ∀ j, M3.1 42 0 j = if j = p.length then nI (sf k) else M1.1 42 0 j := by
      intro j
      rw [m3, wI_cc (by omega), m2, wI_at]
      by_cases t : j = p.length
      · rw [if_pos ⟨rfl, rfl, t⟩, if_pos t]
      · rw [if_neg (fun y => t y.2.2), if_neg t]
    have g3 : GI A M3 mi c sf (A.2.1 7 dy) (A.2.1 8 dy) (u + 2 ^ k) (k :: p) s0 := by
      refine ⟨by rw [k9 7 (by omega)]; exact q4, by rw [m3, wI_at, if_pos ⟨rfl, rfl, rfl⟩], by rw [k9 9 (by omega)]; exact q6, by rw [k9 10 (by omega)]; exact q7, by rw [k9 11 (by omega)]; exact q8, by rw [k9 0 (by omega)]; exact q0, fun j hj => ?_, fun t j hj => ?_, fun j hj => (r2.tr r3).S4 (q43 j hj)⟩
      · rw [k42]
        have hj : j < p.length + 1 := hj
        by_cases t : j = p.length
        · rw [if_pos t, t, rev_new]
        · rw [if_neg t, rev_old (by omega)]; exact q42 j (by omega)
      · rw [m3, wI_cc (by omega), m2, wI_cc (by omega)]; exact q41 t j hj
    have RC3 := (r2.tr r3).RC g1RC
    obtain ⟨-, w82, w83, -⟩ := (r2.tr r3).S4 (q43 k hk2)
    rw [w82, w83, nI_1]
    have go := ih n (k :: p) (W + farN A dy (lstP sf p) (sf k + 1)) (u + 2 ^ k) s0 M3
    have elx : px A dy (lstP sf (k :: p)) = A.2.1 1 (sf k) := pxs
    have ely : py A dy (lstP sf (k :: p)) = A.2.1 2 (sf k) := pys
    rw [elx, ely] at go
    refine go _ (by omega) (by show p.length + 1 + r = c; omega) evc (fun j hj => ?_) (by show _ ≤ 198 * (p.length + 1); omega) ok mc RC3 g3 (fun _ => z3) (fun M4 r4 g4 M5 m5 => ?_)
    · rcases List.mem_cons.mp hj with q | q
      · rw [q]; exact hk2
      · exact hk j q
    obtain ⟨t4, t5, t6, t7, t8, t0, t42, t41, t43⟩ := g4
    rw [t5, ((bit7 u hm.1 k (by omega)).2.2 mz).2] at m5
    have r5 : eqN M4 M5 := by rw [m5]; exact eqN.w (Or.inr rfl)
    have l9 : ∀ j, j ≠ 8 → M5.1 9 0 j = M4.1 9 0 j := fun j hj => by rw [m5, wI_at, if_neg (fun q => hj q.2.2)]
    refine next M5 (r2.tr (r3.tr (r4.tr r5))) ⟨by rw [l9 7 (by omega)]; exact t4, by rw [m5, wI_at, if_pos ⟨rfl, rfl, rfl⟩], by rw [l9 9 (by omega)]; exact t6, by rw [l9 10 (by omega)]; exact t7, by rw [l9 11 (by omega)]; exact t8, by rw [l9 0 (by omega)]; exact t0, fun j hj => ?_, fun t j hj => by rw [m5, wI_cc (by omega)]; exact t41 t j hj, fun j hj => r5.S4 (t43 j hj)⟩
    rw [m5, wI_cc (by omega), t42 j (by show j < p.length + 1; omega), rev_old hj]
end GOC
/-! what the search finds -/
def sfR (A : Abs) (g : Nat → Int32) (n j : Nat) : Nat := (stL g n (A.1 0)).getD j 0
def fnd (A : Abs) (g : Nat → Int32) (n dy mi : Nat) : Sr := srS A dy mi (sfR A g n) n n [] (1000000, [])
def rdA (A : Abs) (g : Nat → Int32) (n dy mi : Nat) (x : Int32) : Int32 := if (fnd A g n dy mi).1 = 1000000 then -4 else if x = -1 then nI (fnd A g n dy mi).1 else if x.toInt < n then nI (sfR A g n ((fnd A g n dy mi).2.reverse.getD (ix x) 0)) else -4
abbrev ri (x : Int32) : Prop := -1 ≤ x.toInt ∧ x.toInt < 7
def rdR (S : Sg) (dy mi d : Nat) (x : Int32) : Int32 := if (1 ≤ S.2.2.1 5 d ∧ S.2.2.1 5 d ≤ 7) ∧ vr S.1 (S.2.2.2 d) (S.2.2.1 5 d) = true then rdA S.1 (S.2.2.2 d) (S.2.2.1 5 d) dy mi x else -13
def sp_round (S : Sg) (x1 x2 x3 x4 : Int32) : Int32 := if rg x3 8 ∧ rg x1 (S.1.1 1) ∧ rg x2 601 ∧ ri x4 then (if hd0 S (ix x3) = 0 then -11 else if hd0 S (ix x3) = 2 ∧ S.2.2.1 4 (ix x3) = 0 then rdR S (ix x1) (ix x2) (ix x3) x4 else -12) else -1
theorem sfR_lt {A : Abs} {g : Nat → Int32} {n j : Nat} (h12 : A.1 0 ≤ 12) (hv : vr A g n = true) (hj : j < n) : sfR A g n j < A.1 0 := by
  have hl := stL_len h12 n hv
  unfold sfR
  rw [List.getD_eq_getElem?_getD, List.getElem?_eq_getElem (by omega)]
  exact ((stL_in _ _).mp (List.getElem_mem _)).1
theorem t_within_i {x : Int32} {M : Mem} {P : Int32 → Mem → Prop} (h1 : ri x → P 1 M) (h0 : ¬ ri x → P 0 M) : s_X11_within M x (-1) 6 P := by
  have e : (6 : Int32).toInt = 6 := by decide
  exact ⟨fun c => h0 (fun q => by rw [lt_i, m1_t] at c; have := q.1; omega), fun c => ⟨fun d => h0 (fun q => by rw [lt_i, e] at d; have := q.2; omega), fun d => h1 (by rw [lt_i, m1_t] at c; rw [lt_i, e] at d; exact ⟨by omega, by omega⟩)⟩⟩
theorem t_in_i {x : Int32} {M : Mem} {P : Int32 → Mem → Prop} (h1 : ri x → P 1 M) (h0 : ¬ ri x → P 0 M) : s_X12_in M x (-1) 6 P := t_within_i h1 h0
/-- the class's cells for its search -/
def eqK (M M' : Mem) : Prop := (∀ c, ¬ (c = 9 ∨ (41 ≤ c ∧ c ≤ 43) ∨ (82 ≤ c ∧ c < 85)) → M'.1 c = M.1 c) ∧ M'.2 = M.2
theorem eqK.rf {M : Mem} : eqK M M := ⟨fun _ _ => rfl, rfl⟩
theorem eqK.tr {M M1 M2 : Mem} (h : eqK M M1) (g : eqK M1 M2) : eqK M M2 := ⟨fun c a => (g.1 c a).trans (h.1 c a), g.2.trans h.2⟩
theorem eqN.K {M M' : Mem} (h : eqN M M') : eqK M M' := ⟨fun c a => h.1 c (by omega) (by omega) (by omega), h.2.2⟩
theorem eqK.w {M : Mem} {c j : Nat} {v : Int32} (h : c = 9 ∨ c = 43 ∨ c = 82 ∨ c = 83 ∨ c = 84) : eqK M (wI M c 0 j v) := ⟨fun c' a => wI_cc (by omega), rfl⟩
theorem eqK.RCX {M M' : Mem} {S : Sg} (e : eqK M M') (h : RCX M S) : RCX M' S := by
  have key : ∀ w A, RC w M A → RC w M' A := fun w A hA => hA.fr (fun c hc => by rw [e.1 c (by unfold pK at hc; omega)]) (by rw [e.1 1 (by omega)]) (fun c hc => e.1 c (by omega)) (by rw [e.2])
  exact ⟨key 0 _ h.1, h.2.1.fr (by rw [e.1 0 (by omega)]) (fun B _ hB => key 1 B hB), h.2.2.fr (fun d => by rw [e.1 7 (by omega)]) (fun d => by rw [e.1 39 (by omega)])⟩
theorem eqK.sameM {M M' : Mem} (h : eqK M M') : sameM M M' := ⟨fun c hc => h.1 c (by unfold cK at hc; omega), by rw [h.2]⟩
theorem tC_takeStops {M : Mem} {S : Sg} {d : Nat} {P : Int32 → Mem → Prop} (h : RCX M S) (hw : WfX S) (hd : d < 8) (h2 : hd0 S d = 2)
    (k1 : (1 ≤ S.2.2.1 5 d ∧ S.2.2.1 5 d ≤ 7) ∧ vr S.1 (S.2.2.2 d) (S.2.2.1 5 d) = true → ∀ M', eqK M M' → M'.1 9 0 7 = nI (S.2.2.1 5 d) → (∀ j, j < S.2.2.1 5 d → S4 S.1 M' j (sfR S.1 (S.2.2.2 d) (S.2.2.1 5 d) j)) → P 1 M')
    (k0 : ¬ ((1 ≤ S.2.2.1 5 d ∧ S.2.2.1 5 d ≤ 7) ∧ vr S.1 (S.2.2.2 d) (S.2.2.1 5 d) = true) → ∀ M', eqK M M' → P 0 M') : s_X7_takeStops d 0 M P := by
  have h12 := hw.1.1
  obtain ⟨w0, w1, w2, w3, w4, w5, w6⟩ := hw.2.2 _ hd
  generalize hN : S.2.2.1 5 d = n at *
  generalize hg : S.2.2.2 d = g at *
  unfold s_X7_takeStops
  intro M1 m1
  have r1 : eqK M M1 := by rw [m1]; exact eqK.w (Or.inl rfl)
  have h1 := r1.RCX h
  have e94 : M1.1 9 0 7 = nI 0 := by rw [m1, wI_at, if_pos ⟨rfl, rfl, rfl⟩]; rfl
  obtain ⟨-, -, t2⟩ := h1.2.2 d hd
  obtain ⟨-, s5, s39⟩ := t2 h2
  rw [hN] at s5
  rw [hg] at s39
  have i1 : nI n < 1 ↔ n < 1 := nI_ltI (b := 1) (by omega) (by omega)
  have i7 : nI n ≤ 7 ↔ n ≤ 7 := nI_leI (b := 7) (by omega) (by omega)
  rw [s5, i1, i7]
  refine ⟨fun z => k0 (fun q => by omega) M1 r1, fun z1 => ⟨fun z7 => ?_, fun z => k0 (fun q => by omega) M1 r1⟩⟩
  have fits : ∀ (x : Int32), rg x (S.1.1 0) → x = nI (ix x) ∧ ix x < 12 := fun x hx => ⟨rg_nI hx (by omega), by have := rg_lt hx; omega⟩
  refine Lz_rule (fun a => ∃ k u, k ≤ n ∧ a = (M1, nI u, nI k) ∧ u < 4096 ∧ vr S.1 g k = true ∧ ∀ s, s < 12 → (u / 2 ^ s % 2 = 1 ↔ inR g k s = true)) (fun a => n - a.2.2.toNatClampNeg) ?_ ⟨0, 0, Nat.zero_le _, rfl, by omega, rfl, fun s _ => ⟨fun q => by rw [Nat.zero_div] at q; omega, fun q => by cases q⟩⟩
  rintro K a ⟨k, u, hk, rfl, hu, hv, hb⟩ hK
  show s_X7_takeStops_29 d 0 P K M1 (nI u) (nI k)
  unfold s_X7_takeStops_29
  rw [s5, nI_leI (by omega) (by omega)]
  refine ⟨fun z => ?_, fun z => ?_⟩
  · have : n = k := by omega
    subst this
    have good := k1 ⟨by omega, hv⟩
    have hlen := stL_len h12 n hv
    refine Lz_rule (fun a => ∃ s, s ≤ S.1.1 0 ∧ a.2 = nI s ∧ eqK M1 a.1 ∧ a.1.1 9 0 7 = nI (stL g n s).length ∧ ∀ j, j < (stL g n s).length → S4 S.1 a.1 j ((stL g n s).getD j 0)) (fun a => 12 - a.2.toNatClampNeg) ?_ ⟨0, Nat.zero_le _, rfl, eqK.rf, e94, fun j hj => absurd hj (Nat.not_lt_zero j)⟩
    rintro K2 ⟨M2, x⟩ ⟨s, hs, e, r2, f4, f43⟩ hK2
    dsimp only at e r2 f4 f43
    show s_X7_takeStops_84 d 0 (nI u) P K2 M2 x
    unfold s_X7_takeStops_84
    have g2 := r2.RCX h1
    obtain ⟨pl, pe⟩ := stL_pre (g := g) (n := n) s (S.1.1 0) hs
    have i7' : (7 : Int32) ≤ nI (stL g n s).length ↔ 7 ≤ (stL g n s).length := nI_leI (a := 7) (by omega) (by omega)
    have done : stL g n s = stL g n (S.1.1 0) → P 1 M2 := by
      intro es
      refine good M2 (r1.tr r2) (by rw [f4, es, hlen]) (fun j hj => ?_)
      have := f43 j (by rw [es, hlen]; exact hj)
      rw [es] at this
      exact this
    rw [g2.1.1.1, e, nI_leI (by omega) (by omega), f4, i7']
    refine ⟨fun y => done (by rw [show S.1.1 0 = s by omega]), fun y => ⟨fun y2 => done (pe (by omega)), fun y2 => ?_⟩⟩
    have hs12 : s < 12 := by omega
    obtain ⟨b1', -⟩ := bit12 hu hs12
    have hb2 : u / 2 ^ s % 2 < 2 := Nat.mod_lt _ (by omega)
    have e1 : nI (u / 2 ^ s % 2) = 1 ↔ u / 2 ^ s % 2 = 1 := eqk (by omega) rfl (by omega)
    rw [b1', e1, hb s hs12]
    have dec : ∀ M3 : Mem, 12 - (nI (s + 1)).toNatClampNeg < 12 - x.toNatClampNeg := fun _ => by
      rw [e, nI_clamp (by omega), nI_clamp (by omega)]; omega
    refine ⟨fun y3 v ev => ?_, fun y3 => ?_⟩
    · have es : stL g n (s + 1) = stL g n s := by show (if _ then _ else _) = _; rw [if_neg y3]
      rw [ev, nI_1]
      exact hK2 _ ⟨s + 1, by omega, rfl, r2, by rw [es]; exact f4, by rw [es]; exact f43⟩ (dec M2)
    · have es : stL g n (s + 1) = stL g n s ++ [s] := by show (if _ then _ else _) = _; rw [if_pos y3]
      have ll : (stL g n s ++ [s]).length = (stL g n s).length + 1 := by rw [List.length_append]; rfl
      obtain ⟨L, hL⟩ : ∃ L, L = (stL g n s).length := ⟨_, rfl⟩
      rw [← hL] at f4 f43 y2 ll
      have cl : (nI L).toNatClampNeg = L := nI_clamp (by omega)
      have cs : (nI s).toNatClampNeg = s := nI_clamp (by omega)
      have vl : vp_in (nI L) 7 := vp_in_nI (by omega) (by omega)
      have vs : vp_in (nI s) 12 := vp_in_nI (by omega) (by omega)
      obtain ⟨-, b16, b17, -, -, b20, -⟩ := g2.1.1.2.1 s (by omega)
      rw [← hL, cl, cs]
      refine ⟨vl, fun M3 m3 => ?_⟩
      have k3 : ∀ c, c ≠ 43 → M3.1 c = M2.1 c := fun c h1 => by rw [m3]; exact wI_cc h1
      rw [k3 9 (by omega), f4, cl, k3 16 (by omega), b16]
      refine ⟨vs, vl, fun M4 m4 => ?_⟩
      have k4 : ∀ c, c ≠ 43 → c ≠ 82 → M4.1 c = M2.1 c := fun c h1 h2 => by rw [m4, wI_cc h2]; exact k3 c h1
      rw [k4 9 (by omega) (by omega), f4, cl, k4 17 (by omega) (by omega), b17]
      refine ⟨vs, vl, fun M5 m5 => ?_⟩
      have k5 : ∀ c, c ≠ 43 → c ≠ 82 → c ≠ 83 → M5.1 c = M2.1 c := fun c h1 h2 h3 => by rw [m5, wI_cc h3]; exact k4 c h1 h2
      rw [k5 9 (by omega) (by omega) (by omega), f4, cl, k5 20 (by omega) (by omega) (by omega), b20]
      refine ⟨vs, vl, fun M6 m6 M7 m7 v ev => ?_⟩
      have k6 : ∀ c, c ≠ 43 → c ≠ 82 → c ≠ 83 → c ≠ 84 → M6.1 c = M2.1 c := fun c h1 h2 h3 h4 => by rw [m6, wI_cc h4]; exact k5 c h1 h2 h3
      rw [k6 9 (by omega) (by omega) (by omega) (by omega), f4, nI_1] at m7
      rw [ev, nI_1]
      have q3 : eqK M2 M3 := by rw [m3]; exact eqK.w (by omega)
      have q4 : eqK M3 M4 := by rw [m4]; exact eqK.w (by omega)
      have q5 : eqK M4 M5 := by rw [m5]; exact eqK.w (by omega)
      have q6 : eqK M5 M6 := by rw [m6]; exact eqK.w (by omega)
      have q7 : eqK M6 M7 := by rw [m7]; exact eqK.w (by omega)
      have j43 : ∀ j, M7.1 43 0 j = if j = L then nI s else M2.1 43 0 j := fun j => by
        rw [m7, wI_cc (by omega), m6, wI_cc (by omega), m5, wI_cc (by omega), m4, wI_cc (by omega), m3, wI_at]
        simp
      have j82 : ∀ j, M7.1 82 0 j = if j = L then nI (S.1.2.1 1 s) else M2.1 82 0 j := fun j => by
        rw [m7, wI_cc (by omega), m6, wI_cc (by omega), m5, wI_cc (by omega), m4, wI_at, k3 82 (by omega)]
        simp
      have j83 : ∀ j, M7.1 83 0 j = if j = L then nI (S.1.2.1 2 s) else M2.1 83 0 j := fun j => by
        rw [m7, wI_cc (by omega), m6, wI_cc (by omega), m5, wI_at, k4 83 (by omega) (by omega)]
        simp
      have j84 : ∀ j, M7.1 84 0 j = if j = L then nI (S.1.2.1 5 s) else M2.1 84 0 j := fun j => by
        rw [m7, wI_cc (by omega), m6, wI_at, k5 84 (by omega) (by omega) (by omega)]
        simp
      refine hK2 _ ⟨s + 1, by omega, rfl, r2.tr (q3.tr (q4.tr (q5.tr (q6.tr q7)))), ?_, fun j hj => ?_⟩ (dec M7)
      · show M7.1 9 0 7 = _
        rw [m7, es, ll, wI_at, if_pos ⟨rfl, rfl, rfl⟩]
      · show S4 S.1 M7 j _
        rw [es] at hj ⊢
        rw [ll] at hj
        by_cases t : j = L
        · have eg : (stL g n s ++ [s]).getD j 0 = s := by
            rw [List.getD_eq_getElem?_getD, t, hL, List.getElem?_append_right (Nat.le_refl _), Nat.sub_self]
            rfl
          rw [eg]
          exact ⟨by rw [j43, if_pos t], by rw [j82, if_pos t], by rw [j83, if_pos t], by rw [j84, if_pos t]⟩
        · have eg : (stL g n s ++ [s]).getD j 0 = (stL g n s).getD j 0 := by
            rw [List.getD_eq_getElem?_getD, List.getElem?_append_left (by omega), ← List.getD_eq_getElem?_getD]
          rw [eg]
          obtain ⟨z1, z2, z3, z4⟩ := f43 j (by omega)
          exact ⟨by rw [j43, if_neg t]; exact z1, by rw [j82, if_neg t]; exact z2, by rw [j83, if_neg t]; exact z3, by rw [j84, if_neg t]; exact z4⟩
  · have hk2 : k < n := by omega
    have bad : ¬ vr S.1 g (k + 1) = true → P 0 M1 := fun hb2 => k0 (fun q => hb2 (vr_mono (by omega) q.2)) M1 r1
    rw [nI_clamp (by omega)]
    refine ⟨vp_in_nI (by omega) (by omega), fun x4 e4 => ?_⟩
    rw [s39 k (by omega)] at e4
    rw [e4]
    refine t_has8 h1.1.1.1 (by omega) (fun hx => b1 ?_) (fun hx => b0 (bad (fun q => hx (vr_s.mp q).2.1)))
    obtain ⟨ex, l12⟩ := fits (g k) hx
    have ix1 : g k &&& 31 = nI (ix (g k)) &&& 31 := by rw [← ex]
    obtain ⟨b1', b2'⟩ := bit12 hu l12
    have hb2 : u / 2 ^ (ix (g k)) % 2 < 2 := Nat.mod_lt _ (by omega)
    have e1 : nI (u / 2 ^ (ix (g k)) % 2) = 1 ↔ u / 2 ^ (ix (g k)) % 2 = 1 := eqk (by omega) rfl (by omega)
    rw [ix1, b1', e1, hb _ l12]
    refine ⟨fun y u' eu' v ev => ?_, fun y => bad (fun q => by have := (vr_s.mp q).2.2; rw [y] at this; cases this)⟩
    have z0 : u / 2 ^ (ix (g k)) % 2 = 0 := by
      have : ¬ u / 2 ^ (ix (g k)) % 2 = 1 := fun q => y ((hb _ l12).mp q)
      omega
    obtain ⟨c1', c2'⟩ := b2' z0
    rw [eu', c2', ev, nI_1]
    have yf : inR g k (ix (g k)) = false := by simpa using y
    refine hK _ ⟨k + 1, u + 2 ^ ix (g k), by omega, rfl, c1', vr_s.mpr ⟨hv, hx, yf⟩, fun s hs => ?_⟩ ?_
    · rw [bit12b z0, inR_s]
      have es : g k = nI s ↔ s = ix (g k) := by
        constructor
        · intro q; rw [q, ix_nI (by omega)]
        · intro q; rw [q]; exact ex
      rw [es]
      by_cases t : s = ix (g k)
      · rw [if_pos t]; exact ⟨fun _ => Or.inr t, fun _ => rfl⟩
      · rw [if_neg t, hb s hs]; exact ⟨Or.inl, fun q => q.resolve_right t⟩
    · show n - (nI (k + 1)).toNatClampNeg < n - (nI k).toNatClampNeg
      rw [nI_clamp (by omega), nI_clamp (by omega)]; omega
theorem tC_round {M : Mem} {S : Sg} {x1 x2 x3 x4 : Int32} {P : Int32 → Mem → Prop} (h : RCX M S) (hw : WfX S) (hp : ∀ M', sameM M M' → RCX M' S → P (sp_round S x1 x2 x3 x4) M') : s_X11_round M x1 x2 x3 x4 P := by
  unfold s_X11_round
  have n5 : S.1.1 1 ≤ 5 := hw.1.2.1
  have h12 : S.1.1 0 ≤ 12 := hw.1.1
  have bad : ∀ v, sp_round S x1 x2 x3 x4 = v → P v M := fun v hb => by
    have := hp M sameM.rf h
    rw [hb] at this
    exact this
  refine t_shelfAt (fun g3 => d1 (rg_lt g3) ?_) (fun g3 => d0 (bad _ (by unfold sp_round; rw [if_neg (fun q => g3 q.1)])))
  refine t_has4 h.1.2.1.1 (by omega) (fun g1 => b1 ?_) (fun g1 => b0 (bad _ (by unfold sp_round; rw [if_neg (fun q => g1 q.2.1)])))
  refine t_within (by decide) (n := 601) (by decide) (fun g2 => b1 ?_) (fun g2 => b0 (bad _ (by unfold sp_round; rw [if_neg (fun q => g2 q.2.2.1)])))
  refine t_within_i (fun g4 => c1 ?_) (fun g4 => c0 (bad _ (by unfold sp_round; rw [if_neg (fun q => g4 q.2.2.2)])))
  have g := (⟨g3, g1, g2, g4⟩ : rg x3 8 ∧ rg x1 (S.1.1 1) ∧ rg x2 601 ∧ ri x4)
  have hd := rg_lt g3
  obtain ⟨w0, w1, w2, w3, w4, w5, w6⟩ := hw.2.2 _ hd
  refine t_byteRowRefusal h.2.2 hd w0 w4 (fun q => bn (by decide) (bad _ (by unfold sp_round; rw [if_pos g, if_pos q]))) (fun q q4 => b0 ?_) (fun q q4 => bn (by decide) (bad _ (by unfold sp_round; rw [if_pos g, if_neg q, if_neg q4])))
  have es : sp_round S x1 x2 x3 x4 = rdR S (ix x1) (ix x2) (ix x3) x4 := by unfold sp_round; rw [if_pos g, if_neg (by omega), if_pos ⟨q, q4⟩]
  rw [es] at hp
  have l1 := rg_lt g1
  have l2 := rg_lt g2
  have ex1 := rg_nI g1 (by omega)
  have ex2 := rg_nI g2 (by omega)
  unfold rdR at hp
  refine tC_takeStops h hw hd q (fun hv M1 r1 e4 e43 => c1 ?_) (fun hv M1 r1 => c0 ?_)
  · rw [if_pos hv] at hp
    have hlt := fun j hj => sfR_lt (j := j) h12 hv.2 hj
    generalize S.2.2.1 5 (ix x3) = n at *
    generalize S.2.2.2 (ix x3) = gg at *
    generalize ix x1 = dy at *
    generalize ix x2 = mi at *
    have h1 := r1.RCX h
    obtain ⟨a22, a23, -⟩ := h1.1.2.1.2 dy l1
    rw [ex1, ex2, nI_clamp (by omega), a22, a23]
    have vd : vp_in (nI dy) 5 := vp_in_nI (by omega) (by omega)
    refine ⟨vd, vd, ?_⟩
    unfold s_X7_find
    intro Ma ma Mb mb Mc mc Md md Me me
    have re : eqK M1 Me := by
      have s1 : eqK M1 Ma := by rw [ma]; exact eqK.w (Or.inl rfl)
      have s2 : eqK Ma Mb := by rw [mb]; exact eqK.w (Or.inl rfl)
      have s3 : eqK Mb Mc := by rw [mc]; exact eqK.w (Or.inl rfl)
      have s4 : eqK Mc Md := by rw [md]; exact eqK.w (Or.inl rfl)
      have s5 : eqK Md Me := by rw [me]; exact eqK.w (Or.inl rfl)
      exact s1.tr (s2.tr (s3.tr (s4.tr s5)))
    have j9 : ∀ j, Me.1 9 0 j = if j = 0 then 1000000 else if j = 8 then 0 else if j = 9 then nI mi else if j = 11 then nI (S.1.2.1 8 dy) else if j = 10 then nI (S.1.2.1 7 dy) else M1.1 9 0 j := by
      intro j
      rw [me, md, mc, mb, ma]
      simp only [wI_at]
      simp
    have c43 : ∀ c, c ≠ 9 → Me.1 c = M1.1 c := fun c hc => by rw [me, wI_cc hc, md, wI_cc hc, mc, wI_cc hc, mb, wI_cc hc, ma, wI_cc hc]
    have GIe : GI S.1 Me mi n (sfR S.1 gg n) (S.1.2.1 7 dy) (S.1.2.1 8 dy) 0 [] (1000000, []) := ⟨by rw [j9]; exact e4, by rw [j9]; rfl, by rw [j9]; rfl, by rw [j9]; rfl, by rw [j9]; rfl, by rw [j9]; rfl, fun j hj => absurd hj (Nat.not_lt_zero j), fun t => absurd rfl t, fun j hj => (e43 j hj).fr (fun c hc => by rw [c43 c (by omega)])⟩
    have e7 : Me.1 9 0 10 = nI (S.1.2.1 7 dy) := GIe.2.2.2.1
    have e8 : Me.1 9 0 11 = nI (S.1.2.1 8 dy) := GIe.2.2.2.2.1
    rw [e7, e8]
    have he := re.RCX h1
    refine gC hw.1 l1 (by omega) hlt (by omega) n 9 [] 0 0 (1000000, []) Me _ (by omega) (by show 0 + n = n; omega) rfl (fun k hk => by cases hk) (Nat.le_refl _) ⟨Nat.le_refl _, fun t => absurd rfl t⟩ ⟨by omega, fun k hk => ⟨fun t => by rw [Nat.zero_div] at t; omega, fun t => by cases t⟩⟩ he.1 GIe (fun t => by omega) (fun Mf rf gf => ?_)
    have rK : eqK M Mf := r1.tr (re.tr rf.K)
    have hf := rK.RCX h
    have kk := hp Mf rK.sameM hf
    unfold rdA at kk
    obtain ⟨t4, t5, t6, t7, t8, t0, t42, t41, t43⟩ := gf
    have ok := srS_OK (A := S.1) (dy := dy) (mi := mi) (c := n) (sf := sfR S.1 gg n) n [] (1000000, []) ⟨Nat.le_refl _, fun t => absurd rfl t⟩ (by show 0 + n = n; omega) (fun k hk => by cases hk)
    have ef : srS S.1 dy mi (sfR S.1 gg n) n n [] (1000000, []) = fnd S.1 gg n dy mi := rfl
    rw [ef] at t0 t41 ok
    have ok1 := ok.1
    have em : (1000000 : Int32) ≤ nI (fnd S.1 gg n dy mi).1 ↔ 1000000 ≤ (fnd S.1 gg n dy mi).1 := nI_leI (a := 1000000) (by omega) (by omega)
    rw [t0, em]
    refine ⟨fun z => c0 ?_, fun z => c1 ?_⟩
    · rw [if_pos (by omega)] at kk; exact kk
    · rw [if_neg (by omega)] at kk
      have xm : x4 = -1 ↔ x4.toInt = -1 := by rw [eq_i, m1_t]
      rw [le_i, t0_i]
      refine ⟨fun y => ?_, fun y => ?_⟩
      · rw [if_neg (by rw [xm]; omega)] at kk
        unfold s_X7_bestStop
        have hr : rg x4 7 := ⟨y, g4.2⟩
        have l4 := rg_lt hr
        have it := ix_t hr
        have ex4 := rg_nI hr (by omega)
        rw [t4, lt_i, t0_i, le_i, nI_toInt (by omega)]
        refine ⟨fun t => by omega, fun _ => ⟨fun t => ?_, fun t => ⟨rg_in hr, ?_⟩⟩⟩
        · rw [if_neg (by omega)] at kk; exact kk
        · rw [if_pos (by omega)] at kk
          rw [t41 (by omega) _ (show ix x4 < n by omega)]
          exact kk
      · rw [if_pos (by rw [xm]; have := g4.1; omega)] at kk
        rw [t0]
        exact kk
  · rw [if_neg hv] at hp
    exact hp M1 r1.sameM (r1.RCX h)
