/-! EACH CALL KEEPS THE STATE IN ORDER -/
/-- the numbers are in their ranges, and the texts say what the acts say -/
def IV (S : Sg) : Prop := WfX S ∧ LK S.1 ∧ ∀ B, S.2.1 = some B → LK B
theorem LK.of {A B : Abs} (h : LK A) (e2 : B.1 2 = A.1 2) (e3 : B.2.2 = A.2.2) (e : ∀ c, 20 ≤ c → c ≤ 22 → B.2.1 c = A.2.1 c) : LK B := by
  unfold LK letOK tx at h ⊢
  rw [e2, e3, e 20 (by omega) (by omega), e 21 (by omega) (by omega), e 22 (by omega) (by omega)]
  exact h
theorem IV.now {S : Sg} {A : Abs} (h : IV S) (hw : WfX (A, S.2)) (hl : LK A) : IV (A, S.2) := ⟨hw, hl, h.2.2⟩
theorem IV.same {S T : Sg} (h : IV S) (hw : WfX T) (e1 : T.1 = S.1) (e2 : T.2.1 = S.2.1) : IV T := ⟨hw, by rw [e1]; exact h.2.1, by rw [e2]; exact h.2.2⟩
theorem LK_U {A : Abs} {c j v : Nat} (h : LK A) (hc : c < 20 ∨ 22 < c) : LK (aU A c j v) := h.of rfl rfl (fun c' a b => aU_ne (by omega))
theorem iv_set {S : Sg} {x1 x2 x3 : Int32} (h : IV S) : IV (sp_set S x1 x2 x3).2 := by
  have w := wf_set (x1 := x1) (x2 := x2) (x3 := x3) h.1
  unfold sp_set at w ⊢
  by_cases q : rg x1 (S.1.1 0) ∧ rg x2 3 ∧ rg x3 (if x2 = 2 then 1000 else 101)
  · rw [if_pos q] at w ⊢
    have := rg_lt q.2.1
    exact h.now w (LK_U h.2.1 (by omega))
  · rw [if_neg q]; exact h
theorem iv_bid {S : Sg} {x1 x2 x3 : Int32} (h : IV S) : IV (sp_bid S x1 x2 x3).2 := by
  have w := wf_bid (x1 := x1) (x2 := x2) (x3 := x3) h.1
  unfold sp_bid at w ⊢
  split
  · rename_i q
    rw [if_pos q] at w
    exact h.now w (LK_U h.2.1 (by omega))
  · exact h
theorem iv_image {S : Sg} (h : IV S) : IV (sp_image S).2 := ⟨wf_image h.1, h.2.1, fun B hB => by cases hB; exact h.2.1⟩
theorem iv_restore {S : Sg} (h : IV S) : IV (sp_restore S).2 := by
  have w := wf_restore h.1
  obtain ⟨A, o, sh⟩ := S
  cases o with
  | none => exact h
  | some B => exact ⟨w, h.2.2 B rfl, fun C hC => by cases hC; exact h.2.2 B rfl⟩
theorem iv_strike {S : Sg} {x1 x2 : Int32} (h : IV S) : IV (sp_strike S x1 x2).2 := by
  have w := wf_strike (x1 := x1) (x2 := x2) h.1
  unfold sp_strike at w ⊢
  by_cases q : rg x1 (S.1.1 2) ∧ rd x2 (S.1.2.1 26 0)
  · rw [if_pos q] at w ⊢
    by_cases q2 : S.1.2.1 19 (ix x1) = 0
    · rw [if_pos q2] at w ⊢
      exact h.now w (LK_U h.2.1 (by omega))
    · rw [if_neg q2]; exact h
  · rw [if_neg q]; exact h
theorem iv_keep {S : Sg} {x1 x2 x3 x4 x5 : Int32} (h : IV S) : IV (sp_keep S x1 x2 x3 x4 x5).2 := by
  refine h.same (wf_keep h.1) ?_ ?_ <;> unfold sp_keep <;> (repeat' split) <;> rfl
theorem iv_row {S : Sg} {x1 x2 x3 : Int32} (h : IV S) : IV (sp_row S x1 x2 x3).2 := by
  refine h.same (wf_row h.1) ?_ ?_ <;> unfold sp_row <;> (repeat' split) <;> rfl
theorem iv_put {S : Sg} {x1 x2 x3 : Int32} (h : IV S) : IV (sp_put S x1 x2 x3).2 := by
  refine h.same (wf_put h.1) ?_ ?_ <;> unfold sp_put <;> (repeat' split) <;> rfl
theorem iv_copy {S : Sg} {x1 x2 x3 x4 x5 : Int32} (h : IV S) : IV (sp_copy S x1 x2 x3 x4 x5).2 := by
  refine h.same (wf_copy h.1) ?_ ?_ <;> unfold sp_copy <;> (repeat' split) <;> rfl
theorem Wf.month {A : Abs} (h : Wf A) {d k v : Nat} (hd : d < 12) (hk : k < 3) (hv : v ≤ if k = 0 then 100 else if k = 1 then 99 else 99999) : Wf (aU A 12 (3 * d + k) v) := by
  obtain ⟨a0, a1, a2, a3, a4, a5, b0, b1, b2, b3, b4, b5⟩ := h
  have u : ∀ c, c ≠ 12 → (aU A 12 (3 * d + k) v).2.1 c = A.2.1 c := fun c hc => aU_ne hc
  unfold Wf
  rw [u 26 (by omega), u 0 (by omega), u 1 (by omega), u 2 (by omega), u 3 (by omega), u 4 (by omega), u 5 (by omega), u 7 (by omega), u 8 (by omega), u 9 (by omega), u 10 (by omega), u 11 (by omega), u 13 (by omega), u 14 (by omega), u 15 (by omega), u 16 (by omega), u 17 (by omega), u 18 (by omega), u 19 (by omega), u 20 (by omega), u 21 (by omega), u 22 (by omega), u 23 (by omega), u 24 (by omega), u 25 (by omega)]
  refine ⟨a0, a1, a2, a3, a4, a5, b0, b1, fun m hm => ?_, b3, b4, b5⟩
  obtain ⟨c1, c2, c3⟩ := b2 m hm
  rw [aU_at, aU_at, aU_at]
  refine ⟨?_, ?_, ?_⟩
  · split
    · rw [if_pos (by omega)] at hv; exact hv
    · exact c1
  · split
    · rw [if_neg (by omega), if_pos (by omega)] at hv; exact hv
    · exact c2
  · split
    · rw [if_neg (by omega), if_neg (by omega)] at hv; exact hv
    · exact c3
theorem iv_month {S : Sg} {x1 x2 x3 : Int32} (h : IV S) : IV (sp_month S x1 x2 x3).2 := by
  unfold sp_month
  by_cases q : rg x1 12 ∧ rg x2 3 ∧ rg x3 (if x2 = 0 then 101 else if x2 = 1 then 100 else 100000)
  · rw [if_pos q]
    obtain ⟨q1, q2, q3⟩ := q
    refine h.now (h.1.now (h.1.1.month (rg_lt q1) (rg_lt q2) ?_) (fun _ _ => Nat.le_refl _)) (LK_U h.2.1 (by omega))
    rcases rg3 q2 with ⟨e, e2⟩ | ⟨e, e2⟩ | ⟨e, e1, e2⟩
    · have hx : x2 = 0 := by simpa using e
      rw [if_pos hx] at q3
      have := rg_lt q3
      rw [if_pos (by omega)]; omega
    · have hx : x2 = 1 := by simpa using e
      rw [if_neg (by rw [hx]; decide), if_pos hx] at q3
      have := rg_lt q3
      rw [if_neg (by omega), if_pos (by omega)]; omega
    · have l : ix x3 < 100000 := by
        by_cases z0 : x2 = 0
        · rw [if_pos z0] at q3; have := rg_lt q3; omega
        · rw [if_neg z0] at q3
          by_cases z1 : x2 = 1
          · rw [if_pos z1] at q3; have := rg_lt q3; omega
          · rw [if_neg z1] at q3; exact rg_lt q3
      rw [if_neg (by omega), if_neg (by omega)]; omega
  · rw [if_neg q]; exact h
theorem Wf.school {A : Abs} (h : Wf A) {s x y : Nat} (hn : A.1 0 < 12) (hs : s < 4) (hx : x < 100) (hy : y < 100) : Wf (schoolA A s x y) := by
  obtain ⟨a0, a1, a2, a3, a4, a5, b0, b1, b2, b3, b4, b5⟩ := h
  have u : ∀ c, 7 ≤ c → (schoolA A s x y).2.1 c = A.2.1 c := fun c hc => schoolA_ne hc
  unfold Wf
  rw [u 26 (by omega), u 7 (by omega), u 8 (by omega), u 9 (by omega), u 10 (by omega), u 11 (by omega), u 12 (by omega), u 13 (by omega), u 14 (by omega), u 15 (by omega), u 16 (by omega), u 17 (by omega), u 18 (by omega), u 19 (by omega), u 20 (by omega), u 21 (by omega), u 22 (by omega), u 23 (by omega), u 24 (by omega), u 25 (by omega), schoolA_n (c := 1) (by omega), schoolA_n (c := 2) (by omega), schoolA_n (c := 3) (by omega), schoolA_n (c := 4) (by omega), show (schoolA A s x y).1 0 = A.1 0 + 1 from rfl]
  refine ⟨by omega, a1, a2, a3, a4, a5, fun k hk => ?_, b1, b2, b3, b4, fun k hk => ?_⟩
  · by_cases z : k = A.1 0
    · rw [z]
      obtain ⟨c0, c1, c2, c3, c4, c5⟩ := schoolA_new (A := A) (s := s) (x := x) (y := y)
      rw [c0, c1, c2, c3, c4, c5]
      exact ⟨hs, hx, hy, by omega, by omega, by omega⟩
    · rw [schoolA_old z (by omega), schoolA_old z (by omega), schoolA_old z (by omega), schoolA_old z (by omega), schoolA_old z (by omega), schoolA_old z (by omega)]
      exact b0 k (by omega)
  · obtain ⟨c1, c2, c3⟩ := b5 k hk
    exact ⟨by omega, c2, c3⟩
theorem iv_school {S : Sg} {x1 x2 : Int32} (h : IV S) : IV (sp_school S x1 x2).2 := by
  unfold sp_school
  by_cases q : rg x1 4 ∧ rg x2 10000
  · rw [if_pos q]
    by_cases q2 : S.1.1 0 < 12
    · rw [if_pos q2]
      have l1 := rg_lt q.1
      have l2 := rg_lt q.2
      refine h.now (h.1.now (h.1.1.school q2 l1 (by omega) (by omega)) (fun i _ => ?_)) (h.2.1.of (schoolA_n (by omega)) rfl (fun c a b => schoolA_ne (by omega)))
      by_cases z : i = 0
      · rw [z]; exact Nat.le_succ _
      · rw [schoolA_n z]; exact Nat.le_refl _
    · rw [if_neg q2]; exact h
  · rw [if_neg q]; exact h
theorem Wf.dairy {A : Abs} (h : Wf A) {x y b cp : Nat} (hn : A.1 1 < 5) (hx : x < 100) (hy : y < 100) (hb : b ≤ 9999) (hc1 : 1 ≤ cp) (hc : cp ≤ 9999) : Wf (dairyA A x y b cp) := by
  obtain ⟨a0, a1, a2, a3, a4, a5, b0, b1, b2, b3, b4, b5⟩ := h
  have u : ∀ c, ¬ (7 ≤ c ∧ c ≤ 11) → (dairyA A x y b cp).2.1 c = A.2.1 c := fun c hc => dairyA_ne hc
  unfold Wf
  rw [u 26 (by omega), u 0 (by omega), u 1 (by omega), u 2 (by omega), u 3 (by omega), u 4 (by omega), u 5 (by omega), u 12 (by omega), u 13 (by omega), u 14 (by omega), u 15 (by omega), u 16 (by omega), u 17 (by omega), u 18 (by omega), u 19 (by omega), u 20 (by omega), u 21 (by omega), u 22 (by omega), u 23 (by omega), u 24 (by omega), u 25 (by omega), dairyA_n (c := 0) (by omega), dairyA_n (c := 2) (by omega), dairyA_n (c := 3) (by omega), dairyA_n (c := 4) (by omega), show (dairyA A x y b cp).1 1 = A.1 1 + 1 from rfl]
  refine ⟨a0, by omega, a2, a3, a4, a5, b0, fun k hk => ?_, b2, b3, b4, b5⟩
  by_cases z : k = A.1 1
  · obtain ⟨c0, c1, c2, c3⟩ := dairyA_new (A := A) (x := x) (y := y) (b := b) (cp := cp)
    refine ⟨by rw [z, c0]; exact hx, by rw [z, c1]; exact hy, by rw [z, c2]; exact hb, by rw [z, c3]; exact hc1, by rw [z, c3]; exact hc, fun i hi => ?_⟩
    rw [dairyA_bid hi, if_pos z]; omega
  · rw [dairyA_old z (by omega), dairyA_old z (by omega), dairyA_old z (by omega), dairyA_old z (by omega)]
    obtain ⟨d1, d2, d3, d4, d5, d6⟩ := b1 k (by omega)
    exact ⟨d1, d2, d3, d4, d5, fun i hi => by rw [dairyA_bid hi, if_neg z]; exact d6 i hi⟩
theorem iv_dairy {S : Sg} {x1 x2 x3 : Int32} (h : IV S) : IV (sp_dairy S x1 x2 x3).2 := by
  unfold sp_dairy
  by_cases q : rg x1 10000 ∧ rg x2 10000 ∧ rc x3
  · rw [if_pos q]
    by_cases q2 : S.1.1 1 < 5
    · rw [if_pos q2]
      have l1 := rg_lt q.1
      have l2 := rg_lt q.2.1
      obtain ⟨q31, q32⟩ := q.2.2
      have t := ix_t (x := x3) (n := 10000) ⟨by omega, by omega⟩
      refine h.now (h.1.now (h.1.1.dairy q2 (by omega) (by omega) (by omega) (by omega) (by omega)) (fun i _ => ?_)) (h.2.1.of (dairyA_n (by omega)) rfl (fun c a b => dairyA_ne (by omega)))
      by_cases z : i = 1
      · rw [z]; exact Nat.le_succ _
      · rw [dairyA_n z]; exact Nat.le_refl _
    · rw [if_neg q2]; exact h
  · rw [if_neg q]; exact h
theorem Wf.look2 {A : Abs} (h : Wf A) {s d r : Nat} (hn : A.1 3 < 30) (hs : s < A.1 0) (hd : d ≤ 400) (hr : r ≤ 999) : Wf (lookA A s d r) := by
  obtain ⟨a0, a1, a2, a3, a4, a5, b0, b1, b2, b3, b4, b5⟩ := h
  have u : ∀ c, ¬ (23 ≤ c ∧ c ≤ 25) → (lookA A s d r).2.1 c = A.2.1 c := fun c hc => lookA_ne hc
  unfold Wf
  rw [u 26 (by omega), u 0 (by omega), u 1 (by omega), u 2 (by omega), u 3 (by omega), u 4 (by omega), u 5 (by omega), u 7 (by omega), u 8 (by omega), u 9 (by omega), u 10 (by omega), u 11 (by omega), u 12 (by omega), u 13 (by omega), u 14 (by omega), u 15 (by omega), u 16 (by omega), u 17 (by omega), u 18 (by omega), u 19 (by omega), u 20 (by omega), u 21 (by omega), u 22 (by omega), lookA_n (c := 0) (by omega), lookA_n (c := 1) (by omega), lookA_n (c := 2) (by omega), lookA_n (c := 4) (by omega), show (lookA A s d r).1 3 = A.1 3 + 1 from rfl]
  refine ⟨a0, a1, a2, by omega, a4, a5, b0, b1, b2, b3, b4, fun k hk => ?_⟩
  by_cases z : k = A.1 3
  · obtain ⟨c0, c1, c2⟩ := lookA_new (A := A) (s := s) (d := d) (r := r)
    rw [z, c0, c1, c2]
    exact ⟨hs, hd, hr⟩
  · rw [lookA_old z, lookA_old z, lookA_old z]
    exact b5 k (by omega)
theorem iv_look {S : Sg} {x1 x2 x3 : Int32} (h : IV S) : IV (sp_look S x1 x2 x3).2 := by
  unfold sp_look
  by_cases q : rg x1 (S.1.1 0) ∧ rg x2 (S.1.2.1 26 0) ∧ rg x3 1000
  · rw [if_pos q]
    by_cases q2 : S.1.1 3 < 30
    · rw [if_pos q2]
      have l1 := rg_lt q.1
      have l2 := rg_lt q.2.1
      have l3 := rg_lt q.2.2
      have hday : S.1.2.1 26 0 ≤ 400 := h.1.1.2.2.2.2.2.1
      refine h.now (h.1.now (h.1.1.look2 q2 l1 (by omega) (by omega)) (fun i _ => ?_)) (h.2.1.of (lookA_n (by omega)) rfl (fun c a b => lookA_ne (by omega)))
      by_cases z : i = 3
      · rw [z]; exact Nat.le_succ _
      · rw [lookA_n z]; exact Nat.le_refl _
    · rw [if_neg q2]; exact h
  · rw [if_neg q]; exact h
theorem Wf.head2 {A : Abs} (h : Wf A) {age : Nat} {b : Nat → Nat} (hn : A.1 4 < 16) (ha : age < 3) (hb : ∀ s, s < 12 → b s ≤ 201) : Wf (headA A age b) := by
  obtain ⟨a0, a1, a2, a3, a4, a5, b0, b1, b2, b3, b4, b5⟩ := h
  have u : ∀ c, ¬ (13 ≤ c ∧ c ≤ 16) → (headA A age b).2.1 c = A.2.1 c := fun c hc => headA_ne hc
  unfold Wf
  rw [u 26 (by omega), u 0 (by omega), u 1 (by omega), u 2 (by omega), u 3 (by omega), u 4 (by omega), u 5 (by omega), u 7 (by omega), u 8 (by omega), u 9 (by omega), u 10 (by omega), u 11 (by omega), u 12 (by omega), u 17 (by omega), u 18 (by omega), u 19 (by omega), u 20 (by omega), u 21 (by omega), u 22 (by omega), u 23 (by omega), u 24 (by omega), u 25 (by omega), headA_n (c := 0) (by omega), headA_n (c := 1) (by omega), headA_n (c := 2) (by omega), headA_n (c := 3) (by omega), show (headA A age b).1 4 = A.1 4 + 1 from rfl]
  refine ⟨a0, a1, a2, a3, by omega, a5, b0, b1, b2, fun k hk => ?_, b4, b5⟩
  by_cases z : k = A.1 4
  · obtain ⟨c0, c1, c2⟩ := headA_new (A := A) (age := age) (b := b)
    refine ⟨by rw [z, c0]; exact ha, by rw [z, c1]; exact a5, by rw [z, c2]; unfold frD; omega, fun s hs => ?_⟩
    rw [headA_row hs, if_pos z]; exact hb s hs
  · obtain ⟨d1, d2, d3, d4⟩ := b3 k (by omega)
    rw [headA_old z (by omega), headA_old z (by omega), headA_old z (by omega)]
    exact ⟨d1, d2, d3, fun s hs => by rw [headA_row hs, if_neg z]; exact d4 s hs⟩
theorem iv_heads {S : Sg} {x1 x2 : Int32} (h : IV S) : IV (sp_heads S x1 x2).2 := by
  unfold sp_heads
  by_cases q : rg x2 8 ∧ rg x1 3
  · rw [if_pos q]
    by_cases q2 : S.1.1 4 < 16
    · rw [if_pos q2]
      by_cases q3 : hd0 S (ix x2) = 0
      · rw [if_pos q3]; exact h
      · rw [if_neg q3]
        by_cases q4 : hd0 S (ix x2) = 2
        · rw [if_pos q4]
          refine h.now (h.1.now (h.1.1.head2 q2 (rg_lt q.2) (fun s _ => msg_le)) (fun i _ => ?_)) (h.2.1.of (headA_n (by omega)) rfl (fun c a b => headA_ne (by omega)))
          by_cases z : i = 4
          · rw [z]; exact Nat.le_succ _
          · rw [headA_n z]; exact Nat.le_refl _
        · rw [if_neg q4]; exact h
    · rw [if_neg q2]; exact h
  · rw [if_neg q]; exact h
theorem Wf.Y {A B : Abs} (h : Wf A) (y : smY A B) (hd : B.2.1 26 0 ≤ 400) : Wf B := by
  obtain ⟨a0, a1, a2, a3, a4, a5, b0, b1, b2, b3, b4, b5⟩ := h
  obtain ⟨y1, y2, y3, y4⟩ := y
  have u : ∀ c, c ≠ 6 → c ≠ 9 → c ≠ 26 → B.2.1 c = A.2.1 c := y3
  unfold Wf
  rw [y1, u 0 (by omega) (by omega) (by omega), u 1 (by omega) (by omega) (by omega), u 2 (by omega) (by omega) (by omega), u 3 (by omega) (by omega) (by omega), u 4 (by omega) (by omega) (by omega), u 5 (by omega) (by omega) (by omega), u 7 (by omega) (by omega) (by omega), u 8 (by omega) (by omega) (by omega), u 10 (by omega) (by omega) (by omega), u 11 (by omega) (by omega) (by omega), u 12 (by omega) (by omega) (by omega), u 13 (by omega) (by omega) (by omega), u 14 (by omega) (by omega) (by omega), u 15 (by omega) (by omega) (by omega), u 16 (by omega) (by omega) (by omega), u 17 (by omega) (by omega) (by omega), u 18 (by omega) (by omega) (by omega), u 19 (by omega) (by omega) (by omega), u 20 (by omega) (by omega) (by omega), u 21 (by omega) (by omega) (by omega), u 22 (by omega) (by omega) (by omega), u 23 (by omega) (by omega) (by omega), u 24 (by omega) (by omega) (by omega), u 25 (by omega) (by omega) (by omega)]
  refine ⟨a0, a1, a2, a3, a4, hd, b0, fun k hk => ?_, b2, b3, b4, b5⟩
  obtain ⟨d1, d2, d3, d4, d5, d6⟩ := b1 k hk
  exact ⟨d1, d2, Nat.le_trans (y4 k hk) d3, d4, d5, d6⟩
theorem iv_go {S : Sg} {x : Int32} (h : IV S) : IV (sp_go S x).2 := by
  unfold sp_go
  by_cases q : rn x 60
  · rw [if_pos q]
    by_cases q2 : S.1.2.1 26 0 + ix x ≤ 400
    · rw [if_pos q2]
      obtain ⟨y, e, -⟩ := days_Y (tk := 0) (p := (S.1, fun _ => 0)) h.1.1.pa (ix x) q2
      have e' : (goA S.1 (ix x) 0).2.1 26 0 = S.1.2.1 26 0 + ix x := e
      exact h.now (h.1.now (h.1.1.Y y (Nat.le_trans (Nat.le_of_eq e') q2)) (fun i _ => by rw [show (goA S.1 (ix x) 0).1 = S.1.1 from y.1]; exact Nat.le_refl _)) (smY_LK y h.2.1)
    · rw [if_neg q2]; exact h
  · rw [if_neg q]; exact h
theorem iv_act {S : Sg} {x1 x2 x3 : Int32} (h : IV S) : IV (sp_act S x1 x2 x3).2 := by
  unfold sp_act
  by_cases q : rg x1 8 ∧ rs x2 ∧ rd x3 (S.1.2.1 26 0)
  · rw [if_pos q]
    by_cases q16 : S.1.1 2 < 16
    · rw [if_pos q16]
      by_cases q3 : hd0 S (ix x1) = 0
      · rw [if_pos q3]; exact h
      · rw [if_neg q3]
        by_cases q4 : hd0 S (ix x1) = 2 ∧ S.2.2.1 4 (ix x1) = 0
        · rw [if_pos q4]
          unfold actR
          cases e : (fP S (ix x1)).2 with
          | none => exact h
          | some L =>
            have e2 : (pAct (txt (S.2.2.2 (ix x1)) (S.2.2.1 5 (ix x1))) (S.2.2.1 5 (ix x1))).2 = some L := e
            have hcE := txt_E (S.2.2.2 (ix x1)) (S.2.2.1 5 (ix x1))
            obtain ⟨w0, w1, w2, w3, w4, w5, w6⟩ := h.1.2.2 _ (rg_lt q.1)
            have hc : ∀ p, p < S.2.2.1 5 (ix x1) → txt (S.2.2.2 (ix x1)) (S.2.2.1 5 (ix x1)) p < 256 := fun p hp => (txt_sc (by have := w6 p (by omega); rw [q4.2] at this; exact this) hp).1
            obtain ⟨hN1, hc0⟩ := pAct_0 hcE e2
            obtain ⟨hp1, hp2, hp3⟩ := letter_pur hc0
            obtain ⟨ex2, l2⟩ := rs_mI q.2.1
            have l3 := rg_lt (rd_rg q.2.2)
            have ok : LK (actA S.1 (ix (x2 + 1)) (ix x3) (S.2.2.1 5 (ix x1)) (purN (txt (S.2.2.2 (ix x1)) (S.2.2.1 5 (ix x1)) 0) - 1) (txt (S.2.2.2 (ix x1)) (S.2.2.1 5 (ix x1))) L) := by
              generalize S.2.2.1 5 (ix x1) = N at *
              generalize txt (S.2.2.2 (ix x1)) N = c at *
              have ne22 : ∀ a, a < S.1.1 2 → ∀ p, p < 80 → (actA S.1 (ix (x2 + 1)) (ix x3) N (purN (c 0) - 1) c L).2.1 22 (80 * a + p) = S.1.2.1 22 (80 * a + p) := fun a ha p hp => by rw [actA_22, if_neg (by omega)]
              have nw22 : ∀ p, p < 80 → (actA S.1 (ix (x2 + 1)) (ix x3) N (purN (c 0) - 1) c L).2.1 22 (80 * S.1.1 2 + p) = c p := fun p hp => by rw [actA_22, if_pos (by omega), show 80 * S.1.1 2 + p - 80 * S.1.1 2 = p by omega]
              obtain ⟨n17, n18, n19, n20, n21⟩ := actA_new (A := S.1) (sh := ix (x2 + 1)) (fr := ix x3) (N := N) (p := purN (c 0) - 1) (c := c) (L := L)
              refine ⟨fun a ha => ?_, fun a ha => ?_⟩
              · have ha : a < S.1.1 2 + 1 := ha
                by_cases z : a = S.1.1 2
                · have := nw22 0 (by omega)
                  rw [Nat.add_zero] at this
                  rw [z, n21, n20, this]
                  exact ⟨hN1, hp1⟩
                · have := ne22 a (by omega) 0 (by omega)
                  rw [Nat.add_zero] at this
                  rw [actA_old z (by omega), actA_old z (by omega), this]
                  exact h.2.1.1 a (by omega)
              · have ha : a < S.1.1 2 + 1 := ha
                by_cases z : a = S.1.1 2
                · subst z
                  have et : tx (actA S.1 (ix (x2 + 1)) (ix x3) N (purN (c 0) - 1) c L) (S.1.1 2) = c := by
                    funext p
                    unfold tx
                    rw [n21]
                    by_cases y : p < N
                    · rw [if_pos y, nw22 p (by omega)]
                    · rw [if_neg y, hcE p (by omega)]
                  rw [et, n21]
                  refine ⟨fun j hj => by rw [nw22 j (by omega)]; exact hc j hj, L, e2, fun f => ?_⟩
                  rw [actA_say, if_pos rfl]
                · obtain ⟨g1, L', g2, g3⟩ := h.2.1.2 a (by omega)
                  have n80 : S.1.2.1 21 a ≤ 80 := (h.1.1.act (a := a) (by omega)).2.2.2.2.1
                  have et : tx (actA S.1 (ix (x2 + 1)) (ix x3) N (purN (c 0) - 1) c L) a = tx S.1 a := by
                    funext p
                    unfold tx
                    rw [actA_old z (by omega)]
                    by_cases y : p < S.1.2.1 21 a
                    · rw [if_pos y, if_pos y, ne22 a (by omega) p (by omega)]
                    · rw [if_neg y, if_neg y]
                  rw [et, actA_old z (by omega)]
                  refine ⟨fun j hj => by rw [ne22 a (by omega) j (by omega)]; exact g1 j hj, L', g2, fun f => ?_⟩
                  rw [actA_say, if_neg z]; exact g3 f
            refine h.now (h.1.now ?_ (fun i _ => ?_)) ok
            · have old := h.1.1
              obtain ⟨a0, a1, a2, a3, a4, a5, b0, b1, b2, b3, b4, b5⟩ := h.1.1
              have lk := ok.2
              generalize S.2.2.1 5 (ix x1) = N at *
              generalize txt (S.2.2.2 (ix x1)) N = c at *
              obtain ⟨n17, n18, n19, n20, n21⟩ := actA_new (A := S.1) (sh := ix (x2 + 1)) (fr := ix x3) (N := N) (p := purN (c 0) - 1) (c := c) (L := L)
              have u : ∀ k, ¬ (17 ≤ k ∧ k ≤ 22) → (actA S.1 (ix (x2 + 1)) (ix x3) N (purN (c 0) - 1) c L).2.1 k = S.1.2.1 k := fun k hk => actA_ne hk
              unfold Wf
              rw [u 26 (by omega), u 0 (by omega), u 1 (by omega), u 2 (by omega), u 3 (by omega), u 4 (by omega), u 5 (by omega), u 7 (by omega), u 8 (by omega), u 9 (by omega), u 10 (by omega), u 11 (by omega), u 12 (by omega), u 13 (by omega), u 14 (by omega), u 15 (by omega), u 16 (by omega), u 23 (by omega), u 24 (by omega), u 25 (by omega), actA_n (i := 0) (by omega), actA_n (i := 1) (by omega), actA_n (i := 3) (by omega), actA_n (i := 4) (by omega), actA_n2]
              rw [actA_n2] at lk
              refine ⟨a0, a1, by omega, a3, a4, a5, b0, b1, b2, b3, fun a ha => ?_, b5⟩
              have lka := (lk a ha).1
              by_cases z : a = S.1.1 2
              · subst z
                rw [n21] at lka
                rw [n17, n18, n19, n20, n21]
                exact ⟨l2, by omega, by omega, hp2, w5, lka⟩
              · rw [actA_old z (by omega)] at lka
                rw [actA_old z (by omega), actA_old z (by omega), actA_old z (by omega), actA_old z (by omega), actA_old z (by omega)]
                obtain ⟨c1, c2, c3, c4, c5, -⟩ := b4 a (by omega)
                exact ⟨c1, c2, c3, c4, c5, lka⟩
            · by_cases z : i = 2
              · rw [z]; exact Nat.le_succ _
              · rw [actA_n z]; exact Nat.le_refl _
        · rw [if_neg q4]; exact h
    · rw [if_neg q16]; exact h
  · rw [if_neg q]; exact h
