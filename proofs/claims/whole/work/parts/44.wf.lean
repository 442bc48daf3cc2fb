/-! THE NUMBERS STAY AS THE DOCUMENT HAS THEM -/
theorem Wf.set {A : Abs} (h : Wf A) {k s v : Nat} (hk : k < 3) (hv : v ≤ if k = 2 then 999 else 100) : Wf (aU A (3 + k) s v) := by
  obtain ⟨a0, a1, a2, a3, a4, a5, b0, b1, b2, b3, b4, b5⟩ := h
  have u : ∀ c, c ≠ 3 + k → (aU A (3 + k) s v).2.1 c = A.2.1 c := fun c hc => aU_ne hc
  have w : ∀ c s', (aU A (3 + k) s v).2.1 c s' = v ∧ c = 3 + k ∨ (aU A (3 + k) s v).2.1 c s' = A.2.1 c s' := fun c s' => by
    rw [aU_at]
    split
    · rename_i q; exact Or.inl ⟨rfl, q.1⟩
    · exact Or.inr rfl
  unfold Wf
  rw [u 26 (by omega), u 7 (by omega), u 8 (by omega), u 9 (by omega), u 10 (by omega), u 11 (by omega), u 12 (by omega), u 13 (by omega), u 14 (by omega), u 15 (by omega), u 16 (by omega), u 17 (by omega), u 18 (by omega), u 19 (by omega), u 20 (by omega), u 21 (by omega), u 22 (by omega), u 23 (by omega), u 24 (by omega), u 25 (by omega), u 0 (by omega), u 1 (by omega), u 2 (by omega)]
  refine ⟨a0, a1, a2, a3, a4, a5, fun s' hs' => ?_, b1, b2, b3, b4, b5⟩
  obtain ⟨c1, c2, c3, c4, c5, c6⟩ := b0 s' hs'
  refine ⟨c1, c2, c3, ?_, ?_, ?_⟩
  · rcases w 3 s' with ⟨e, q⟩ | e
    · rw [e]; rw [if_neg (by omega)] at hv; exact hv
    · rw [e]; exact c4
  · rcases w 4 s' with ⟨e, q⟩ | e
    · rw [e]; rw [if_neg (by omega)] at hv; exact hv
    · rw [e]; exact c5
  · rcases w 5 s' with ⟨e, q⟩ | e
    · rw [e]; rw [if_pos (by omega)] at hv; exact hv
    · rw [e]; exact c6
theorem Wf.bid {A : Abs} (h : Wf A) {j v : Nat} (hv : v ≤ 1000) : Wf (aU A 11 j v) := by
  obtain ⟨a0, a1, a2, a3, a4, a5, b0, b1, b2, b3, b4, b5⟩ := h
  have u : ∀ c, c ≠ 11 → (aU A 11 j v).2.1 c = A.2.1 c := fun c hc => aU_ne hc
  unfold Wf
  rw [u 26 (by omega), u 0 (by omega), u 1 (by omega), u 2 (by omega), u 3 (by omega), u 4 (by omega), u 5 (by omega), u 7 (by omega), u 8 (by omega), u 9 (by omega), u 10 (by omega), u 12 (by omega), u 13 (by omega), u 14 (by omega), u 15 (by omega), u 16 (by omega), u 17 (by omega), u 18 (by omega), u 19 (by omega), u 20 (by omega), u 21 (by omega), u 22 (by omega), u 23 (by omega), u 24 (by omega), u 25 (by omega)]
  refine ⟨a0, a1, a2, a3, a4, a5, b0, fun d hd => ?_, b2, b3, b4, b5⟩
  obtain ⟨c1, c2, c3, c4, c5, c6⟩ := b1 d hd
  refine ⟨c1, c2, c3, c4, c5, fun k hk => ?_⟩
  rw [aU_at]
  split
  · exact hv
  · exact c6 k hk
/-- the whole state, its numbers now made new -/
theorem WfX.now {S : Sg} {A : Abs} (h : WfX S) (hA : Wf A) (hc : ∀ i, i < 5 → S.1.1 i ≤ A.1 i) : WfX (A, S.2) :=
  ⟨hA, fun B hB => ⟨(h.2.1 B hB).1, fun i hi => Nat.le_trans ((h.2.1 B hB).2 i hi) (hc i hi)⟩, h.2.2⟩
theorem wf_set {S : Sg} {x1 x2 x3 : Int32} (h : WfX S) : WfX (sp_set S x1 x2 x3).2 := by
  unfold sp_set
  by_cases q : rg x1 (S.1.1 0) ∧ rg x2 3 ∧ rg x3 (if x2 = 2 then 1000 else 101)
  · rw [if_pos q]
    have l2 := rg_lt q.2.1
    refine h.now (h.1.set l2 ?_) (fun _ _ => Nat.le_refl _)
    obtain ⟨-, q2, q3⟩ := q
    rcases rg3 q2 with ⟨e, e2⟩ | ⟨e, e2⟩ | ⟨e, e1, e2⟩
    · rw [if_neg (by rw [e]; decide)] at q3
      have := rg_lt q3
      rw [if_neg (by omega)]; omega
    · rw [if_neg (by rw [e]; decide)] at q3
      have := rg_lt q3
      rw [if_neg (by omega)]; omega
    · rw [if_pos e2]
      by_cases z : x2 = 2
      · rw [if_pos z] at q3
        have := rg_lt q3
        omega
      · rw [if_neg z] at q3
        have := rg_lt q3
        omega
  · rw [if_neg q]; exact h
theorem wf_bid {S : Sg} {x1 x2 x3 : Int32} (h : WfX S) : WfX (sp_bid S x1 x2 x3).2 := by
  unfold sp_bid
  split
  · rename_i q
    exact h.now (h.1.bid (rb_mI q.2.2).2) (fun _ _ => Nat.le_refl _)
  · exact h
theorem wf_image {S : Sg} (h : WfX S) : WfX (sp_image S).2 :=
  ⟨h.1, fun B hB => by
    cases hB
    exact ⟨h.1, fun _ _ => Nat.le_refl _⟩, h.2.2⟩
