theorem wf_restore {S : Sg} (h : WfX S) : WfX (sp_restore S).2 := by
  obtain ⟨A, o, sh⟩ := S
  cases o with
  | none => exact h
  | some B => exact ⟨(h.2.1 B rfl).1, fun C hC => by cases hC; exact ⟨(h.2.1 B rfl).1, fun _ _ => Nat.le_refl _⟩, h.2.2⟩
theorem wf_copy {S : Sg} {x1 x2 x3 x4 x5 : Int32} (h : WfX S) : WfX (sp_copy S x1 x2 x3 x4 x5).2 := by
  unfold sp_copy
  by_cases q : rg x1 8 ∧ rg x3 8
  · rw [if_pos q]
    obtain ⟨w0, w1, w2, w3, w4, w5, w6⟩ := h.2.2 _ (rg_lt q.2)
    by_cases q1 : hd0 S (ix x1) = 0 ∨ hd0 S (ix x3) = 0
    · rw [if_pos q1]; exact h
    · rw [if_neg q1]
      by_cases q2 : hd0 S (ix x1) = 2 ∧ hd0 S (ix x3) = 2 ∧ S.2.2.1 4 (ix x1) = S.2.2.1 4 (ix x3)
      · rw [if_pos q2]
        by_cases q3 : cpP S x1 x2 x3 x4 x5
        · rw [if_pos q3]
          refine wf_shU h ⟨w0, w1, w2, w3, w4, w5, fun j hj => ?_⟩
          by_cases z : ix x4 ≤ j ∧ j < ix x4 + ix x5
          · rw [if_pos z]
            have u := (h.2.2 _ (rg_lt q.1))
            obtain ⟨p1, p2, p3, p4, p5⟩ := q3
            have u5 := u.2.2.2.2.2.1
            have e2 : (ix x2 : Int) = x2.toInt := ix_t (n := 81) ⟨by omega, by omega⟩
            have e4 : (ix x4 : Int) = x4.toInt := ix_t (n := 81) ⟨by omega, by omega⟩
            have e5 : (ix x5 : Int) = x5.toInt := ix_t (n := 81) ⟨by omega, by omega⟩
            have u6 := u.2.2.2.2.2.2 (ix x2 + (j - ix x4)) (by omega)
            rw [q2.2.2] at u6
            exact u6
          · rw [if_neg z]; exact w6 j hj
        · rw [if_neg q3]; exact h
      · rw [if_neg q2]; exact h
  · rw [if_neg q]; exact h
