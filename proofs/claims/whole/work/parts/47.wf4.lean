theorem Wf.struck {A : Abs} (h : Wf A) {j v : Nat} (hv : v ≤ 401) : Wf (aU A 19 j v) := by
  obtain ⟨a0, a1, a2, a3, a4, a5, b0, b1, b2, b3, b4, b5⟩ := h
  have u : ∀ c, c ≠ 19 → (aU A 19 j v).2.1 c = A.2.1 c := fun c hc => aU_ne hc
  unfold Wf
  rw [u 26 (by omega), u 0 (by omega), u 1 (by omega), u 2 (by omega), u 3 (by omega), u 4 (by omega), u 5 (by omega), u 7 (by omega), u 8 (by omega), u 9 (by omega), u 10 (by omega), u 11 (by omega), u 12 (by omega), u 13 (by omega), u 14 (by omega), u 15 (by omega), u 16 (by omega), u 17 (by omega), u 18 (by omega), u 20 (by omega), u 21 (by omega), u 22 (by omega), u 23 (by omega), u 24 (by omega), u 25 (by omega)]
  refine ⟨a0, a1, a2, a3, a4, a5, b0, b1, b2, b3, fun a ha => ?_, b5⟩
  obtain ⟨c1, c2, c3, c4⟩ := b4 a ha
  refine ⟨c1, c2, ?_, c4⟩
  rw [aU_at]
  split
  · exact hv
  · exact c3
theorem wf_strike {S : Sg} {x1 x2 : Int32} (h : WfX S) : WfX (sp_strike S x1 x2).2 := by
  unfold sp_strike
  by_cases q : rg x1 (S.1.1 2) ∧ rd x2 (S.1.2.1 26 0)
  · rw [if_pos q]
    by_cases q2 : S.1.2.1 19 (ix x1) = 0
    · rw [if_pos q2]
      have l2 := rg_lt (rd_rg q.2)
      exact h.now (h.1.struck (by omega)) (fun _ _ => Nat.le_refl _)
    · rw [if_neg q2]; exact h
  · rw [if_neg q]; exact h
