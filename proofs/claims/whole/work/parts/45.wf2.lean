/-! the shelves stay as the document has them -/
theorem wf_shU {S : Sg} {d : Nat} {f : Nat → Nat} {g : Nat → Int32} (h : WfX S) (hf : f 0 ≤ 2 ∧ f 1 ≤ 6 ∧ f 2 ≤ 9999 ∧ f 3 ≤ 11 ∧ f 4 ≤ 2 ∧ f 5 ≤ 80 ∧ ∀ j, j < 80 → fitS (f 4) (g j)) : WfX (shU S d f g) := by
  refine ⟨h.1, h.2.1, fun d' hd' => ?_⟩
  unfold shU
  by_cases q : d' = d
  · subst q
    simp only [if_true]
    exact hf
  · simp only [if_neg q]
    exact h.2.2 d' hd'
theorem fit0 (s : Nat) : fitS s 0 := ⟨fun _ => by decide, fun _ => by decide⟩
theorem fit_nrw (s : Nat) (x : Int32) : fitS s (nrw s x) := by
  unfold fitS nrw
  refine ⟨fun h => ?_, fun h => ?_⟩
  · rw [if_pos h]; simp
  · rw [if_neg (by omega), if_pos h]; simp
theorem wf_keep {S : Sg} {x1 x2 x3 x4 x5 : Int32} (h : WfX S) : WfX (sp_keep S x1 x2 x3 x4 x5).2 := by
  unfold sp_keep
  by_cases q : rg x1 8 ∧ rg x2 2
  · rw [if_pos q]
    obtain ⟨w0, w1, w2, w3, w4, w5, w6⟩ := h.2.2 _ (rg_lt q.1)
    by_cases q2 : x2 = 0
    · rw [if_pos q2]
      exact wf_shU h ⟨by simp [fClear], w1, w2, w3, w4, w5, w6⟩
    · rw [if_neg q2]
      by_cases q3 : rg x3 7 ∧ rg x4 10000 ∧ rg x5 12
      · rw [if_pos q3]
        have l3 := rg_lt q3.1
        have l4 := rg_lt q3.2.1
        have l5 := rg_lt q3.2.2
        exact wf_shU h ⟨by simp [fCrate], by show ix x3 ≤ 6; omega, by show ix x4 ≤ 9999; omega, by show ix x5 ≤ 11; omega, w4, w5, w6⟩
      · rw [if_neg q3]; exact h
  · rw [if_neg q]; exact h
theorem wf_row {S : Sg} {x1 x2 x3 : Int32} (h : WfX S) : WfX (sp_row S x1 x2 x3).2 := by
  unfold sp_row
  by_cases q : rg x1 8 ∧ rg x2 3 ∧ x3.toInt ≤ 80
  · rw [if_pos q]
    obtain ⟨w0, w1, w2, w3, w4, w5, w6⟩ := h.2.2 _ (rg_lt q.1)
    by_cases q2 : x3.toInt < 0
    · rw [if_pos q2]; exact h
    · rw [if_neg q2]
      have l2 := rg_lt q.2.1
      have l3 := rg_lt (rg81 q2 q.2.2)
      exact wf_shU h ⟨by show 2 ≤ 2; omega, w1, w2, w3, by show ix x2 ≤ 2; omega, by show ix x3 ≤ 80; omega, fun j _ => fit0 _⟩
  · rw [if_neg q]; exact h
theorem wf_put {S : Sg} {x1 x2 x3 : Int32} (h : WfX S) : WfX (sp_put S x1 x2 x3).2 := by
  unfold sp_put
  by_cases q : rg x1 8
  · rw [if_pos q]
    obtain ⟨w0, w1, w2, w3, w4, w5, w6⟩ := h.2.2 _ (rg_lt q)
    by_cases q1 : hd0 S (ix x1) = 0
    · rw [if_pos q1]; exact h
    · rw [if_neg q1]
      by_cases q2 : hd0 S (ix x1) = 2
      · rw [if_pos q2]
        by_cases q3 : rg x2 (S.2.2.1 5 (ix x1))
        · rw [if_pos q3]
          refine wf_shU h ⟨w0, w1, w2, w3, w4, w5, fun j hj => ?_⟩
          by_cases z : j = ix x2
          · rw [if_pos z]; exact fit_nrw _ _
          · rw [if_neg z]; exact w6 j hj
        · rw [if_neg q3]; exact h
      · rw [if_neg q2]; exact h
  · rw [if_neg q]; exact h
