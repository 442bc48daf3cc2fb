/-! THE WORLD OUT OF THE BLOCKS -/
def offK (c i : Nat) : Nat := match c with
  | 0 => 0
  | 1 => 1 + 33 * i
  | 2 => 2 + 33 * i
  | 3 => 10 + 33 * i
  | 4 => 19 + 33 * i
  | 5 => 24 + 33 * i
  | 6 => 27 + 33 * i
  | 7 => 111 + 2 * i
  | 8 => 100
  | 9 => 103
  | 10 => 127
  | 11 => 110
  | 12 => 31 + 33 * i
  | 13 => 32 + 33 * i
  | 14 => 33 + 33 * i
  | 15 => 3 + 33 * i
  | 16 => 4 + 33 * i
  | 17 => 5 + 33 * i
  | 18 => 6 + 33 * i
  | 19 => 7 + 33 * i
  | 20 => 8 + 33 * i
  | 21 => 9 + 33 * i
  | 22 => 11 + 33 * i
  | 23 => 12 + 33 * i
  | 24 => 13 + 33 * i
  | 25 => 14 + 33 * i
  | 26 => 15 + 33 * i
  | 27 => 16 + 33 * i
  | 28 => 17 + 33 * i
  | 29 => 18 + 33 * i
  | 30 => 20 + 33 * i
  | 31 => 21 + 33 * i
  | 32 => 22 + 33 * i
  | 33 => 23 + 33 * i
  | 34 => 25 + 33 * i
  | 35 => 26 + 33 * i
  | 36 => 28 + 33 * i
  | 37 => 29 + 33 * i
  | 38 => 30 + 33 * i
  | 39 => 112 + 2 * i
  | 40 => 101
  | 41 => 104
  | 42 => 105
  | 43 => 106
  | 44 => 128
  | 45 => 129
  | 46 => 130
  | 47 => 131
  | 48 => 132
  | 49 => 133
  | 50 => 134
  | 51 => 135
  | 52 => 136
  | 53 => 137
  | 54 => 138
  | 55 => 139
  | 56 => 140
  | 57 => 141
  | 58 => 142
  | 59 => 143
  | 60 => 144
  | 61 => 145
  | 62 => 146
  | 63 => 147
  | 64 => 148
  | 65 => 149
  | 66 => 150
  | 67 => 151
  | 68 => 152
  | 69 => 153
  | 70 => 154
  | 71 => 155
  | 72 => 156
  | 73 => 157
  | 74 => 158
  | 75 => 159
  | 76 => 160
  | 77 => 161
  | 78 => 162
  | 79 => 163
  | 80 => 102
  | 81 => 164
  | 82 => 107
  | 83 => 108
  | 84 => 109
  | _ => 0
def invK : List (Nat × Nat) := [(0, 0), (1, 0), (2, 0), (15, 0), (16, 0), (17, 0), (18, 0), (19, 0), (20, 0), (21, 0), (3, 0), (22, 0), (23, 0), (24, 0), (25, 0), (26, 0), (27, 0), (28, 0), (29, 0), (4, 0), (30, 0), (31, 0), (32, 0), (33, 0), (5, 0), (34, 0), (35, 0), (6, 0), (36, 0), (37, 0), (38, 0), (12, 0), (13, 0), (14, 0), (1, 1), (2, 1), (15, 1), (16, 1), (17, 1), (18, 1), (19, 1), (20, 1), (21, 1), (3, 1), (22, 1), (23, 1), (24, 1), (25, 1), (26, 1), (27, 1), (28, 1), (29, 1), (4, 1), (30, 1), (31, 1), (32, 1), (33, 1), (5, 1), (34, 1), (35, 1), (6, 1), (36, 1), (37, 1), (38, 1), (12, 1), (13, 1), (14, 1), (1, 2), (2, 2), (15, 2), (16, 2), (17, 2), (18, 2), (19, 2), (20, 2), (21, 2), (3, 2), (22, 2), (23, 2), (24, 2), (25, 2), (26, 2), (27, 2), (28, 2), (29, 2), (4, 2), (30, 2), (31, 2), (32, 2), (33, 2), (5, 2), (34, 2), (35, 2), (6, 2), (36, 2), (37, 2), (38, 2), (12, 2), (13, 2), (14, 2), (8, 0), (40, 0), (80, 0), (9, 0), (41, 0), (42, 0), (43, 0), (82, 0), (83, 0), (84, 0), (11, 0), (7, 0), (39, 0), (7, 1), (39, 1), (7, 2), (39, 2), (7, 3), (39, 3), (7, 4), (39, 4), (7, 5), (39, 5), (7, 6), (39, 6), (7, 7), (39, 7), (10, 0), (44, 0), (45, 0), (46, 0), (47, 0), (48, 0), (49, 0), (50, 0), (51, 0), (52, 0), (53, 0), (54, 0), (55, 0), (56, 0), (57, 0), (58, 0), (59, 0), (60, 0), (61, 0), (62, 0), (63, 0), (64, 0), (65, 0), (66, 0), (67, 0), (68, 0), (69, 0), (70, 0), (71, 0), (72, 0), (73, 0), (74, 0), (75, 0), (76, 0), (77, 0), (78, 0), (79, 0), (81, 0)]
set_option maxRecDepth 100000 in
theorem inv_ok : ∀ c, c < 100 → ∀ i, i < 8 → i < cntK c → invK[offK c i]? = some (c, i) := by decide +kernel
theorem cnt_8 : ∀ c, c < 100 → cntK c ≤ 8 := by decide +kernel
theorem offK_inj {c i c' i' : Nat} (h : i < cntK c) (h' : i' < cntK c') (e : offK c i = offK c' i') : c = c' ∧ i = i' := by
  have a := m_sz h
  have b := m_sz h'
  have h8 := cnt_8 c a
  have h8' := cnt_8 c' b
  have e1 := inv_ok c a i (by omega) h
  have e2 := inv_ok c' b i' (by omega) h'
  rw [e, e2] at e1
  cases e1
  exact ⟨rfl, rfl⟩
def stF : Nat → Int32 := fil (fun k => 140 + k) (99999 : Int32) (fil (fun k => 80 + k) (-1 : Int32) (fil (fun k => 50 + k) (660 : Int32) (fun _ => 0) 12) 20) 12
def moF : Nat → Int32 := fil (fun k => 3 * k + 2) (99999 : Int32) (fun _ => 0) 12
def m0I (c : Nat) (_ : Nat) : Nat → Int32 := match c with
  | 10 => fun j => match j with
    | 22 => -1
    | 37 => -1
    | _ => 0
  | 12 => moF
  | 44 => stF
  | _ => fun _ => 0
/-- the first numbers -/
def M0 : Mem := (m0I, fun _ _ _ => 0, fun _ _ _ => 0)
def Cel (G : Gn) (a : Nat) (es : List va_E) (H : Heap) : Prop := ∀ (j : Nat) (e : va_E), es[j]? = some e → va_at (gD G) vwCl (a + j, e) H
theorem Cel.left {G : Gn} {a : Nat} {A B : List va_E} {H : Heap} (h : Cel G a (A ++ B) H) : Cel G a A H := fun j e hj => h j e (by rw [List.getElem?_append_left (List.getElem?_eq_some_iff.mp hj).1]; exact hj)
theorem Cel.right {G : Gn} {a n : Nat} {A B : List va_E} {H : Heap} (h : Cel G a (A ++ B) H) (hn : A.length = n) : Cel G (a + n) B H := fun j e hj => by
  have h1 := h (n + j) e (by rw [List.getElem?_append_right (by omega), hn, Nat.add_sub_cancel_left]; exact hj)
  rw [← Nat.add_assoc] at h1
  exact h1
theorem Cel.tail {G : Gn} {a : Nat} {e0 : va_E} {X : List va_E} {H : Heap} (h : Cel G a (e0 :: X) H) : Cel G (a + 1) X H := fun j e hj => by
  have h1 := h (j + 1) e hj
  rw [Nat.add_comm j 1, ← Nat.add_assoc] at h1
  exact h1
abbrev Gx (D : va_G) (I : ClassId × ClassId × ClassId × ClassId × ClassId) (b : Nat) (r : Heap × (Nat → Nat) × (Nat → Nat)) : Gn := (D, I, (fun c i => b + offK c i), b, r)
def CW (D : va_G) (I : ClassId × ClassId × ClassId × ClassId × ClassId) (b : Nat) (r : Heap × (Nat → Nat) × (Nat → Nat)) (H : Heap) (c i : Nat) : Prop := va_at D vwCl (b + offK c i, Esh (Gx D I b r) M0.2.2 c i (M0.1 c i) (M0.2.1 c i)) H
set_option maxRecDepth 100000 in
set_option maxHeartbeats 4000000 in
theorem cw_w0 {D : va_G} {I : ClassId × ClassId × ClassId × ClassId × ClassId} {b : Nat} {r : Heap × (Nat → Nat) × (Nat → Nat)} {H : Heap} (h : Cel (Gx D I b r) (b + 1) (bX10 (Gx D I b r) (b + 1)) H) : CW D I b r H 1 0 ∧ CW D I b r H 2 0 ∧ CW D I b r H 3 0 ∧ CW D I b r H 4 0 ∧ CW D I b r H 5 0 ∧ CW D I b r H 6 0 ∧ CW D I b r H 12 0 ∧ CW D I b r H 13 0 ∧ CW D I b r H 14 0 ∧ CW D I b r H 15 0 ∧ CW D I b r H 16 0 ∧ CW D I b r H 17 0 ∧ CW D I b r H 18 0 ∧ CW D I b r H 19 0 ∧ CW D I b r H 20 0 ∧ CW D I b r H 21 0 ∧ CW D I b r H 22 0 ∧ CW D I b r H 23 0 ∧ CW D I b r H 24 0 ∧ CW D I b r H 25 0 ∧ CW D I b r H 26 0 ∧ CW D I b r H 27 0 ∧ CW D I b r H 28 0 ∧ CW D I b r H 29 0 ∧ CW D I b r H 30 0 ∧ CW D I b r H 31 0 ∧ CW D I b r H 32 0 ∧ CW D I b r H 33 0 ∧ CW D I b r H 34 0 ∧ CW D I b r H 35 0 ∧ CW D I b r H 36 0 ∧ CW D I b r H 37 0 ∧ CW D I b r H 38 0 := by
  unfold bX10 at h
  have hw := h.left.left.left.left.left.left.left.left
  have h2 := (h.left.left.left.left.left.left.left).right (n := 1) rfl
  unfold bX8 at h2
  have h3 := (h.left.left.left.left.left.left).right (n := 9) rfl
  unfold bX4 at h3
  have h4 := (h.left.left.left.left.left).right (n := 18) rfl
  unfold bX5 at h4
  have h5 := (h.left.left.left.left).right (n := 23) rfl
  unfold bX1 at h5
  have h6 := (h.left.left.left).right (n := 26) rfl
  unfold bX6 at h6
  have hm := h.left.left.right (n := 30) rfl
  have hf := h.left.right (n := 31) rfl
  have hs := h.right (n := 32) rfl
  exact ⟨hw 0 _ rfl, h2 0 _ rfl, h3 0 _ rfl, h4 0 _ rfl, h5 0 _ rfl, h6 0 _ rfl, hm 0 _ rfl, hf 0 _ rfl, hs 0 _ rfl, h2 1 _ rfl, h2 2 _ rfl, h2 3 _ rfl, h2 4 _ rfl, h2 5 _ rfl, h2 6 _ rfl, h2 7 _ rfl, h3 1 _ rfl, h3 2 _ rfl, h3 3 _ rfl, h3 4 _ rfl, h3 5 _ rfl, h3 6 _ rfl, h3 7 _ rfl, h3 8 _ rfl, h4 1 _ rfl, h4 2 _ rfl, h4 3 _ rfl, h4 4 _ rfl, h5 1 _ rfl, h5 2 _ rfl, h6 1 _ rfl, h6 2 _ rfl, h6 3 _ rfl⟩
set_option maxRecDepth 100000 in
set_option maxHeartbeats 4000000 in
theorem cw_w1 {D : va_G} {I : ClassId × ClassId × ClassId × ClassId × ClassId} {b : Nat} {r : Heap × (Nat → Nat) × (Nat → Nat)} {H : Heap} (h : Cel (Gx D I b r) (b + 34) (bX10 (Gx D I b r) (b + 34)) H) : CW D I b r H 1 1 ∧ CW D I b r H 2 1 ∧ CW D I b r H 3 1 ∧ CW D I b r H 4 1 ∧ CW D I b r H 5 1 ∧ CW D I b r H 6 1 ∧ CW D I b r H 12 1 ∧ CW D I b r H 13 1 ∧ CW D I b r H 14 1 ∧ CW D I b r H 15 1 ∧ CW D I b r H 16 1 ∧ CW D I b r H 17 1 ∧ CW D I b r H 18 1 ∧ CW D I b r H 19 1 ∧ CW D I b r H 20 1 ∧ CW D I b r H 21 1 ∧ CW D I b r H 22 1 ∧ CW D I b r H 23 1 ∧ CW D I b r H 24 1 ∧ CW D I b r H 25 1 ∧ CW D I b r H 26 1 ∧ CW D I b r H 27 1 ∧ CW D I b r H 28 1 ∧ CW D I b r H 29 1 ∧ CW D I b r H 30 1 ∧ CW D I b r H 31 1 ∧ CW D I b r H 32 1 ∧ CW D I b r H 33 1 ∧ CW D I b r H 34 1 ∧ CW D I b r H 35 1 ∧ CW D I b r H 36 1 ∧ CW D I b r H 37 1 ∧ CW D I b r H 38 1 := by
  unfold bX10 at h
  have hw := h.left.left.left.left.left.left.left.left
  have h2 := (h.left.left.left.left.left.left.left).right (n := 1) rfl
  unfold bX8 at h2
  have h3 := (h.left.left.left.left.left.left).right (n := 9) rfl
  unfold bX4 at h3
  have h4 := (h.left.left.left.left.left).right (n := 18) rfl
  unfold bX5 at h4
  have h5 := (h.left.left.left.left).right (n := 23) rfl
  unfold bX1 at h5
  have h6 := (h.left.left.left).right (n := 26) rfl
  unfold bX6 at h6
  have hm := h.left.left.right (n := 30) rfl
  have hf := h.left.right (n := 31) rfl
  have hs := h.right (n := 32) rfl
  exact ⟨hw 0 _ rfl, h2 0 _ rfl, h3 0 _ rfl, h4 0 _ rfl, h5 0 _ rfl, h6 0 _ rfl, hm 0 _ rfl, hf 0 _ rfl, hs 0 _ rfl, h2 1 _ rfl, h2 2 _ rfl, h2 3 _ rfl, h2 4 _ rfl, h2 5 _ rfl, h2 6 _ rfl, h2 7 _ rfl, h3 1 _ rfl, h3 2 _ rfl, h3 3 _ rfl, h3 4 _ rfl, h3 5 _ rfl, h3 6 _ rfl, h3 7 _ rfl, h3 8 _ rfl, h4 1 _ rfl, h4 2 _ rfl, h4 3 _ rfl, h4 4 _ rfl, h5 1 _ rfl, h5 2 _ rfl, h6 1 _ rfl, h6 2 _ rfl, h6 3 _ rfl⟩
set_option maxRecDepth 100000 in
set_option maxHeartbeats 4000000 in
theorem cw_w2 {D : va_G} {I : ClassId × ClassId × ClassId × ClassId × ClassId} {b : Nat} {r : Heap × (Nat → Nat) × (Nat → Nat)} {H : Heap} (h : Cel (Gx D I b r) (b + 67) (bX10 (Gx D I b r) (b + 67)) H) : CW D I b r H 1 2 ∧ CW D I b r H 2 2 ∧ CW D I b r H 3 2 ∧ CW D I b r H 4 2 ∧ CW D I b r H 5 2 ∧ CW D I b r H 6 2 ∧ CW D I b r H 12 2 ∧ CW D I b r H 13 2 ∧ CW D I b r H 14 2 ∧ CW D I b r H 15 2 ∧ CW D I b r H 16 2 ∧ CW D I b r H 17 2 ∧ CW D I b r H 18 2 ∧ CW D I b r H 19 2 ∧ CW D I b r H 20 2 ∧ CW D I b r H 21 2 ∧ CW D I b r H 22 2 ∧ CW D I b r H 23 2 ∧ CW D I b r H 24 2 ∧ CW D I b r H 25 2 ∧ CW D I b r H 26 2 ∧ CW D I b r H 27 2 ∧ CW D I b r H 28 2 ∧ CW D I b r H 29 2 ∧ CW D I b r H 30 2 ∧ CW D I b r H 31 2 ∧ CW D I b r H 32 2 ∧ CW D I b r H 33 2 ∧ CW D I b r H 34 2 ∧ CW D I b r H 35 2 ∧ CW D I b r H 36 2 ∧ CW D I b r H 37 2 ∧ CW D I b r H 38 2 := by
  unfold bX10 at h
  have hw := h.left.left.left.left.left.left.left.left
  have h2 := (h.left.left.left.left.left.left.left).right (n := 1) rfl
  unfold bX8 at h2
  have h3 := (h.left.left.left.left.left.left).right (n := 9) rfl
  unfold bX4 at h3
  have h4 := (h.left.left.left.left.left).right (n := 18) rfl
  unfold bX5 at h4
  have h5 := (h.left.left.left.left).right (n := 23) rfl
  unfold bX1 at h5
  have h6 := (h.left.left.left).right (n := 26) rfl
  unfold bX6 at h6
  have hm := h.left.left.right (n := 30) rfl
  have hf := h.left.right (n := 31) rfl
  have hs := h.right (n := 32) rfl
  exact ⟨hw 0 _ rfl, h2 0 _ rfl, h3 0 _ rfl, h4 0 _ rfl, h5 0 _ rfl, h6 0 _ rfl, hm 0 _ rfl, hf 0 _ rfl, hs 0 _ rfl, h2 1 _ rfl, h2 2 _ rfl, h2 3 _ rfl, h2 4 _ rfl, h2 5 _ rfl, h2 6 _ rfl, h2 7 _ rfl, h3 1 _ rfl, h3 2 _ rfl, h3 3 _ rfl, h3 4 _ rfl, h3 5 _ rfl, h3 6 _ rfl, h3 7 _ rfl, h3 8 _ rfl, h4 1 _ rfl, h4 2 _ rfl, h4 3 _ rfl, h4 4 _ rfl, h5 1 _ rfl, h5 2 _ rfl, h6 1 _ rfl, h6 2 _ rfl, h6 3 _ rfl⟩
theorem cnt_z {c : Nat} : cntK (c + 85) = 0 := by
  rcases Nat.lt_or_ge (c + 85) 100 with z | z
  · rcases (show c = 0 ∨ c = 1 ∨ c = 2 ∨ c = 3 ∨ c = 4 ∨ c = 5 ∨ c = 6 ∨ c = 7 ∨ c = 8 ∨ c = 9 ∨ c = 10 ∨ c = 11 ∨ c = 12 ∨ c = 13 ∨ c = 14 by omega) with rfl | rfl | rfl | rfl | rfl | rfl | rfl | rfl | rfl | rfl | rfl | rfl | rfl | rfl | rfl <;> rfl
  · exact cntK_big z
theorem lX10 {G : Gn} {a : Nat} : (bX10 G a).length = 33 := rfl
theorem lX11s {G : Gn} {a : Nat} : (bX11s G a).length = 109 := by
  unfold bX11s
  rw [List.length_append, List.length_append, List.length_append, List.length_append, lX10, lX10, lX10]
  rfl
theorem lX11 {G : Gn} {a : Nat} : (bX11 G a).length = 127 := by
  unfold bX11
  rw [List.length_cons, List.length_append, lX11s]
  rfl
theorem lX12 {G : Gn} {a : Nat} : (bX12 G a).length = 37 := rfl
set_option maxRecDepth 100000 in
set_option maxHeartbeats 4000000 in
theorem cw_t {D : va_G} {I : ClassId × ClassId × ClassId × ClassId × ClassId} {b : Nat} {r : Heap × (Nat → Nat) × (Nat → Nat)} {H : Heap} (h : Cel (Gx D I b r) (b + 110) (bX11t (Gx D I b r) b) H) : CW D I b r H 11 0 ∧ CW D I b r H 7 0 ∧ CW D I b r H 39 0 ∧ CW D I b r H 7 1 ∧ CW D I b r H 39 1 ∧ CW D I b r H 7 2 ∧ CW D I b r H 39 2 ∧ CW D I b r H 7 3 ∧ CW D I b r H 39 3 ∧ CW D I b r H 7 4 ∧ CW D I b r H 39 4 ∧ CW D I b r H 7 5 ∧ CW D I b r H 39 5 ∧ CW D I b r H 7 6 ∧ CW D I b r H 39 6 ∧ CW D I b r H 7 7 ∧ CW D I b r H 39 7 := by
  unfold bX11t at h
  refine ⟨?_, h 1 _ rfl, h 2 _ rfl, h 3 _ rfl, h 4 _ rfl, h 5 _ rfl, h 6 _ rfl, h 7 _ rfl, h 8 _ rfl, h 9 _ rfl, h 10 _ rfl, h 11 _ rfl, h 12 _ rfl, h 13 _ rfl, h 14 _ rfl, h 15 _ rfl, h 16 _ rfl⟩
  have h0 := h 0 _ rfl
  show H[b + 110]? = some (vp_cell _ _)
  have h0 : H[b + 110]? = some (vp_cell _ _) := h0
  rw [h0, vp_cell_q, vp_cell_q]
  refine congrArg some (arrV_congr (fun j hj => ?_))
  rcases (show j = 0 ∨ j = 1 ∨ j = 2 ∨ j = 3 ∨ j = 4 ∨ j = 5 ∨ j = 6 ∨ j = 7 by omega) with rfl | rfl | rfl | rfl | rfl | rfl | rfl | rfl <;> rfl
set_option maxRecDepth 100000 in
set_option maxHeartbeats 4000000 in
theorem cw_m {D : va_G} {I : ClassId × ClassId × ClassId × ClassId × ClassId} {b : Nat} {r : Heap × (Nat → Nat) × (Nat → Nat)} {H : Heap} (h : Cel (Gx D I b r) (b + 127) (bX12 (Gx D I b r) (b + 127)) H) : CW D I b r H 10 0 ∧ CW D I b r H 44 0 ∧ CW D I b r H 45 0 ∧ CW D I b r H 46 0 ∧ CW D I b r H 47 0 ∧ CW D I b r H 48 0 ∧ CW D I b r H 49 0 ∧ CW D I b r H 50 0 ∧ CW D I b r H 51 0 ∧ CW D I b r H 52 0 ∧ CW D I b r H 53 0 ∧ CW D I b r H 54 0 ∧ CW D I b r H 55 0 ∧ CW D I b r H 56 0 ∧ CW D I b r H 57 0 ∧ CW D I b r H 58 0 ∧ CW D I b r H 59 0 ∧ CW D I b r H 60 0 ∧ CW D I b r H 61 0 ∧ CW D I b r H 62 0 ∧ CW D I b r H 63 0 ∧ CW D I b r H 64 0 ∧ CW D I b r H 65 0 ∧ CW D I b r H 66 0 ∧ CW D I b r H 67 0 ∧ CW D I b r H 68 0 ∧ CW D I b r H 69 0 ∧ CW D I b r H 70 0 ∧ CW D I b r H 71 0 ∧ CW D I b r H 72 0 ∧ CW D I b r H 73 0 ∧ CW D I b r H 74 0 ∧ CW D I b r H 75 0 ∧ CW D I b r H 76 0 ∧ CW D I b r H 77 0 ∧ CW D I b r H 78 0 ∧ CW D I b r H 79 0 := by
  unfold bX12 at h
  have h2 := h.tail.tail
  unfold rX12 at h2
  exact ⟨h 0 _ rfl, h 1 _ rfl, h2 0 _ rfl, h2 1 _ rfl, h2 2 _ rfl, h2 3 _ rfl, h2 4 _ rfl, h2 5 _ rfl, h2 6 _ rfl, h2 7 _ rfl, h2 8 _ rfl, h2 9 _ rfl, h2 10 _ rfl, h2 11 _ rfl, h2 12 _ rfl, h2 13 _ rfl, h2 14 _ rfl, h2 15 _ rfl, h2 16 _ rfl, h2 17 _ rfl, h2 18 _ rfl, h2 19 _ rfl, h2 20 _ rfl, h2 21 _ rfl, h2 22 _ rfl, h2 23 _ rfl, h2 24 _ rfl, h2 25 _ rfl, h2 26 _ rfl, h2 27 _ rfl, h2 28 _ rfl, h2 29 _ rfl, h2 30 _ rfl, h2 31 _ rfl, h2 32 _ rfl, h2 33 _ rfl, h2 34 _ rfl⟩
theorem cw_all {D : va_G} {I : ClassId × ClassId × ClassId × ClassId × ClassId} {b : Nat} {r : Heap × (Nat → Nat) × (Nat → Nat)} {H : Heap} (h : Blk (Gx D I b r) b ((bX11 (Gx D I b r) b ++ bX12 (Gx D I b r) (b + 127)) ++ [.inl (gJ (Gx D I b r), 1, .inr (.inl (fun _ => 0)))]) H) : ∀ c i, i < cntK c → CW D I b r H c i := by
  have hC : Cel (Gx D I b r) b _ H := h.2
  have h11 := hC.left.left
  have h12 := hC.left.right lX11
  have hout := hC.right (n := 164) (by rw [List.length_append, lX11, lX12])
  unfold bX11 at h11
  have h0 := h11 0 _ rfl
  have ht := h11.tail.right (n := 109) lX11s
  have hs := h11.tail.left
  unfold bX11s at hs
  have hQ := hs.right (n := 102) (by rw [List.length_append, List.length_append, List.length_append, lX10, lX10, lX10]; rfl)
  have hRd := hs.left.right (n := 99) (by rw [List.length_append, List.length_append, lX10, lX10, lX10])
  have hW2 := hs.left.left.right (n := 66) (by rw [List.length_append, lX10, lX10])
  have hW1 := hs.left.left.left.right (n := 33) lX10
  have hW0 := hs.left.left.left.left
  unfold bX7 at hQ
  unfold bX2 at hRd
  obtain ⟨w0_1, w0_2, w0_3, w0_4, w0_5, w0_6, w0_12, w0_13, w0_14, w0_15, w0_16, w0_17, w0_18, w0_19, w0_20, w0_21, w0_22, w0_23, w0_24, w0_25, w0_26, w0_27, w0_28, w0_29, w0_30, w0_31, w0_32, w0_33, w0_34, w0_35, w0_36, w0_37, w0_38⟩ := cw_w0 hW0
  obtain ⟨w1_1, w1_2, w1_3, w1_4, w1_5, w1_6, w1_12, w1_13, w1_14, w1_15, w1_16, w1_17, w1_18, w1_19, w1_20, w1_21, w1_22, w1_23, w1_24, w1_25, w1_26, w1_27, w1_28, w1_29, w1_30, w1_31, w1_32, w1_33, w1_34, w1_35, w1_36, w1_37, w1_38⟩ := cw_w1 hW1
  obtain ⟨w2_1, w2_2, w2_3, w2_4, w2_5, w2_6, w2_12, w2_13, w2_14, w2_15, w2_16, w2_17, w2_18, w2_19, w2_20, w2_21, w2_22, w2_23, w2_24, w2_25, w2_26, w2_27, w2_28, w2_29, w2_30, w2_31, w2_32, w2_33, w2_34, w2_35, w2_36, w2_37, w2_38⟩ := cw_w2 hW2
  obtain ⟨t11, t7_0, t39_0, t7_1, t39_1, t7_2, t39_2, t7_3, t39_3, t7_4, t39_4, t7_5, t39_5, t7_6, t39_6, t7_7, t39_7⟩ := cw_t ht
  obtain ⟨m10, m44, m45, m46, m47, m48, m49, m50, m51, m52, m53, m54, m55, m56, m57, m58, m59, m60, m61, m62, m63, m64, m65, m66, m67, m68, m69, m70, m71, m72, m73, m74, m75, m76, m77, m78, m79⟩ := cw_m h12
  intro c i hi
  match c, hi with
  | 0, hi =>
    obtain rfl : i = 0 := by have hi : i < 1 := hi; omega
    exact h0
  | 1, hi =>
    rcases (show i = 0 ∨ i = 1 ∨ i = 2 from by have hi : i < 3 := hi; omega) with rfl | rfl | rfl
    · exact w0_1
    · exact w1_1
    · exact w2_1
  | 2, hi =>
    rcases (show i = 0 ∨ i = 1 ∨ i = 2 from by have hi : i < 3 := hi; omega) with rfl | rfl | rfl
    · exact w0_2
    · exact w1_2
    · exact w2_2
  | 3, hi =>
    rcases (show i = 0 ∨ i = 1 ∨ i = 2 from by have hi : i < 3 := hi; omega) with rfl | rfl | rfl
    · exact w0_3
    · exact w1_3
    · exact w2_3
  | 4, hi =>
    rcases (show i = 0 ∨ i = 1 ∨ i = 2 from by have hi : i < 3 := hi; omega) with rfl | rfl | rfl
    · exact w0_4
    · exact w1_4
    · exact w2_4
  | 5, hi =>
    rcases (show i = 0 ∨ i = 1 ∨ i = 2 from by have hi : i < 3 := hi; omega) with rfl | rfl | rfl
    · exact w0_5
    · exact w1_5
    · exact w2_5
  | 6, hi =>
    rcases (show i = 0 ∨ i = 1 ∨ i = 2 from by have hi : i < 3 := hi; omega) with rfl | rfl | rfl
    · exact w0_6
    · exact w1_6
    · exact w2_6
  | 7, hi =>
    rcases (show i = 0 ∨ i = 1 ∨ i = 2 ∨ i = 3 ∨ i = 4 ∨ i = 5 ∨ i = 6 ∨ i = 7 from by have hi : i < 8 := hi; omega) with rfl | rfl | rfl | rfl | rfl | rfl | rfl | rfl
    · exact t7_0
    · exact t7_1
    · exact t7_2
    · exact t7_3
    · exact t7_4
    · exact t7_5
    · exact t7_6
    · exact t7_7
  | 8, hi =>
    obtain rfl : i = 0 := by have hi : i < 1 := hi; omega
    exact hRd 0 _ rfl
  | 9, hi =>
    obtain rfl : i = 0 := by have hi : i < 1 := hi; omega
    exact hQ 0 _ rfl
  | 10, hi =>
    obtain rfl : i = 0 := by have hi : i < 1 := hi; omega
    exact m10
  | 11, hi =>
    obtain rfl : i = 0 := by have hi : i < 1 := hi; omega
    exact t11
  | 12, hi =>
    rcases (show i = 0 ∨ i = 1 ∨ i = 2 from by have hi : i < 3 := hi; omega) with rfl | rfl | rfl
    · exact w0_12
    · exact w1_12
    · exact w2_12
  | 13, hi =>
    rcases (show i = 0 ∨ i = 1 ∨ i = 2 from by have hi : i < 3 := hi; omega) with rfl | rfl | rfl
    · exact w0_13
    · exact w1_13
    · exact w2_13
  | 14, hi =>
    rcases (show i = 0 ∨ i = 1 ∨ i = 2 from by have hi : i < 3 := hi; omega) with rfl | rfl | rfl
    · exact w0_14
    · exact w1_14
    · exact w2_14
  | 15, hi =>
    rcases (show i = 0 ∨ i = 1 ∨ i = 2 from by have hi : i < 3 := hi; omega) with rfl | rfl | rfl
    · exact w0_15
    · exact w1_15
    · exact w2_15
  | 16, hi =>
    rcases (show i = 0 ∨ i = 1 ∨ i = 2 from by have hi : i < 3 := hi; omega) with rfl | rfl | rfl
    · exact w0_16
    · exact w1_16
    · exact w2_16
  | 17, hi =>
    rcases (show i = 0 ∨ i = 1 ∨ i = 2 from by have hi : i < 3 := hi; omega) with rfl | rfl | rfl
    · exact w0_17
    · exact w1_17
    · exact w2_17
  | 18, hi =>
    rcases (show i = 0 ∨ i = 1 ∨ i = 2 from by have hi : i < 3 := hi; omega) with rfl | rfl | rfl
    · exact w0_18
    · exact w1_18
    · exact w2_18
  | 19, hi =>
    rcases (show i = 0 ∨ i = 1 ∨ i = 2 from by have hi : i < 3 := hi; omega) with rfl | rfl | rfl
    · exact w0_19
    · exact w1_19
    · exact w2_19
  | 20, hi =>
    rcases (show i = 0 ∨ i = 1 ∨ i = 2 from by have hi : i < 3 := hi; omega) with rfl | rfl | rfl
    · exact w0_20
    · exact w1_20
    · exact w2_20
  | 21, hi =>
    rcases (show i = 0 ∨ i = 1 ∨ i = 2 from by have hi : i < 3 := hi; omega) with rfl | rfl | rfl
    · exact w0_21
    · exact w1_21
    · exact w2_21
  | 22, hi =>
    rcases (show i = 0 ∨ i = 1 ∨ i = 2 from by have hi : i < 3 := hi; omega) with rfl | rfl | rfl
    · exact w0_22
    · exact w1_22
    · exact w2_22
  | 23, hi =>
    rcases (show i = 0 ∨ i = 1 ∨ i = 2 from by have hi : i < 3 := hi; omega) with rfl | rfl | rfl
    · exact w0_23
    · exact w1_23
    · exact w2_23
  | 24, hi =>
    rcases (show i = 0 ∨ i = 1 ∨ i = 2 from by have hi : i < 3 := hi; omega) with rfl | rfl | rfl
    · exact w0_24
    · exact w1_24
    · exact w2_24
  | 25, hi =>
    rcases (show i = 0 ∨ i = 1 ∨ i = 2 from by have hi : i < 3 := hi; omega) with rfl | rfl | rfl
    · exact w0_25
    · exact w1_25
    · exact w2_25
  | 26, hi =>
    rcases (show i = 0 ∨ i = 1 ∨ i = 2 from by have hi : i < 3 := hi; omega) with rfl | rfl | rfl
    · exact w0_26
    · exact w1_26
    · exact w2_26
  | 27, hi =>
    rcases (show i = 0 ∨ i = 1 ∨ i = 2 from by have hi : i < 3 := hi; omega) with rfl | rfl | rfl
    · exact w0_27
    · exact w1_27
    · exact w2_27
  | 28, hi =>
    rcases (show i = 0 ∨ i = 1 ∨ i = 2 from by have hi : i < 3 := hi; omega) with rfl | rfl | rfl
    · exact w0_28
    · exact w1_28
    · exact w2_28
  | 29, hi =>
    rcases (show i = 0 ∨ i = 1 ∨ i = 2 from by have hi : i < 3 := hi; omega) with rfl | rfl | rfl
    · exact w0_29
    · exact w1_29
    · exact w2_29
  | 30, hi =>
    rcases (show i = 0 ∨ i = 1 ∨ i = 2 from by have hi : i < 3 := hi; omega) with rfl | rfl | rfl
    · exact w0_30
    · exact w1_30
    · exact w2_30
  | 31, hi =>
    rcases (show i = 0 ∨ i = 1 ∨ i = 2 from by have hi : i < 3 := hi; omega) with rfl | rfl | rfl
    · exact w0_31
    · exact w1_31
    · exact w2_31
  | 32, hi =>
    rcases (show i = 0 ∨ i = 1 ∨ i = 2 from by have hi : i < 3 := hi; omega) with rfl | rfl | rfl
    · exact w0_32
    · exact w1_32
    · exact w2_32
  | 33, hi =>
    rcases (show i = 0 ∨ i = 1 ∨ i = 2 from by have hi : i < 3 := hi; omega) with rfl | rfl | rfl
    · exact w0_33
    · exact w1_33
    · exact w2_33
  | 34, hi =>
    rcases (show i = 0 ∨ i = 1 ∨ i = 2 from by have hi : i < 3 := hi; omega) with rfl | rfl | rfl
    · exact w0_34
    · exact w1_34
    · exact w2_34
  | 35, hi =>
    rcases (show i = 0 ∨ i = 1 ∨ i = 2 from by have hi : i < 3 := hi; omega) with rfl | rfl | rfl
    · exact w0_35
    · exact w1_35
    · exact w2_35
  | 36, hi =>
    rcases (show i = 0 ∨ i = 1 ∨ i = 2 from by have hi : i < 3 := hi; omega) with rfl | rfl | rfl
    · exact w0_36
    · exact w1_36
    · exact w2_36
  | 37, hi =>
    rcases (show i = 0 ∨ i = 1 ∨ i = 2 from by have hi : i < 3 := hi; omega) with rfl | rfl | rfl
    · exact w0_37
    · exact w1_37
    · exact w2_37
  | 38, hi =>
    rcases (show i = 0 ∨ i = 1 ∨ i = 2 from by have hi : i < 3 := hi; omega) with rfl | rfl | rfl
    · exact w0_38
    · exact w1_38
    · exact w2_38
  | 39, hi =>
    rcases (show i = 0 ∨ i = 1 ∨ i = 2 ∨ i = 3 ∨ i = 4 ∨ i = 5 ∨ i = 6 ∨ i = 7 from by have hi : i < 8 := hi; omega) with rfl | rfl | rfl | rfl | rfl | rfl | rfl | rfl
    · exact t39_0
    · exact t39_1
    · exact t39_2
    · exact t39_3
    · exact t39_4
    · exact t39_5
    · exact t39_6
    · exact t39_7
  | 40, hi =>
    obtain rfl : i = 0 := by have hi : i < 1 := hi; omega
    exact hRd 1 _ rfl
  | 41, hi =>
    obtain rfl : i = 0 := by have hi : i < 1 := hi; omega
    exact hQ 1 _ rfl
  | 42, hi =>
    obtain rfl : i = 0 := by have hi : i < 1 := hi; omega
    exact hQ 2 _ rfl
  | 43, hi =>
    obtain rfl : i = 0 := by have hi : i < 1 := hi; omega
    exact hQ 3 _ rfl
  | 44, hi =>
    obtain rfl : i = 0 := by have hi : i < 1 := hi; omega
    exact m44
  | 45, hi =>
    obtain rfl : i = 0 := by have hi : i < 1 := hi; omega
    exact m45
  | 46, hi =>
    obtain rfl : i = 0 := by have hi : i < 1 := hi; omega
    exact m46
  | 47, hi =>
    obtain rfl : i = 0 := by have hi : i < 1 := hi; omega
    exact m47
  | 48, hi =>
    obtain rfl : i = 0 := by have hi : i < 1 := hi; omega
    exact m48
  | 49, hi =>
    obtain rfl : i = 0 := by have hi : i < 1 := hi; omega
    exact m49
  | 50, hi =>
    obtain rfl : i = 0 := by have hi : i < 1 := hi; omega
    exact m50
  | 51, hi =>
    obtain rfl : i = 0 := by have hi : i < 1 := hi; omega
    exact m51
  | 52, hi =>
    obtain rfl : i = 0 := by have hi : i < 1 := hi; omega
    exact m52
  | 53, hi =>
    obtain rfl : i = 0 := by have hi : i < 1 := hi; omega
    exact m53
  | 54, hi =>
    obtain rfl : i = 0 := by have hi : i < 1 := hi; omega
    exact m54
  | 55, hi =>
    obtain rfl : i = 0 := by have hi : i < 1 := hi; omega
    exact m55
  | 56, hi =>
    obtain rfl : i = 0 := by have hi : i < 1 := hi; omega
    exact m56
  | 57, hi =>
    obtain rfl : i = 0 := by have hi : i < 1 := hi; omega
    exact m57
  | 58, hi =>
    obtain rfl : i = 0 := by have hi : i < 1 := hi; omega
    exact m58
  | 59, hi =>
    obtain rfl : i = 0 := by have hi : i < 1 := hi; omega
    exact m59
  | 60, hi =>
    obtain rfl : i = 0 := by have hi : i < 1 := hi; omega
    exact m60
  | 61, hi =>
    obtain rfl : i = 0 := by have hi : i < 1 := hi; omega
    exact m61
  | 62, hi =>
    obtain rfl : i = 0 := by have hi : i < 1 := hi; omega
    exact m62
  | 63, hi =>
    obtain rfl : i = 0 := by have hi : i < 1 := hi; omega
    exact m63
  | 64, hi =>
    obtain rfl : i = 0 := by have hi : i < 1 := hi; omega
    exact m64
  | 65, hi =>
    obtain rfl : i = 0 := by have hi : i < 1 := hi; omega
    exact m65
  | 66, hi =>
    obtain rfl : i = 0 := by have hi : i < 1 := hi; omega
    exact m66
  | 67, hi =>
    obtain rfl : i = 0 := by have hi : i < 1 := hi; omega
    exact m67
  | 68, hi =>
    obtain rfl : i = 0 := by have hi : i < 1 := hi; omega
    exact m68
  | 69, hi =>
    obtain rfl : i = 0 := by have hi : i < 1 := hi; omega
    exact m69
  | 70, hi =>
    obtain rfl : i = 0 := by have hi : i < 1 := hi; omega
    exact m70
  | 71, hi =>
    obtain rfl : i = 0 := by have hi : i < 1 := hi; omega
    exact m71
  | 72, hi =>
    obtain rfl : i = 0 := by have hi : i < 1 := hi; omega
    exact m72
  | 73, hi =>
    obtain rfl : i = 0 := by have hi : i < 1 := hi; omega
    exact m73
  | 74, hi =>
    obtain rfl : i = 0 := by have hi : i < 1 := hi; omega
    exact m74
  | 75, hi =>
    obtain rfl : i = 0 := by have hi : i < 1 := hi; omega
    exact m75
  | 76, hi =>
    obtain rfl : i = 0 := by have hi : i < 1 := hi; omega
    exact m76
  | 77, hi =>
    obtain rfl : i = 0 := by have hi : i < 1 := hi; omega
    exact m77
  | 78, hi =>
    obtain rfl : i = 0 := by have hi : i < 1 := hi; omega
    exact m78
  | 79, hi =>
    obtain rfl : i = 0 := by have hi : i < 1 := hi; omega
    exact m79
  | 80, hi =>
    obtain rfl : i = 0 := by have hi : i < 1 := hi; omega
    exact hRd 2 _ rfl
  | 81, hi =>
    obtain rfl : i = 0 := by have hi : i < 1 := hi; omega
    exact hout 0 _ rfl
  | 82, hi =>
    obtain rfl : i = 0 := by have hi : i < 1 := hi; omega
    exact hQ 4 _ rfl
  | 83, hi =>
    obtain rfl : i = 0 := by have hi : i < 1 := hi; omega
    exact hQ 5 _ rfl
  | 84, hi =>
    obtain rfl : i = 0 := by have hi : i < 1 := hi; omega
    exact hQ 6 _ rfl
  | c + 85, hi => exact absurd hi (by rw [cnt_z]; exact Nat.not_lt_zero _)
theorem wp_all {G : Gn} {H : Heap} (had : ∀ c i, ad G c i = bs G + offK c i) (hO : Old G H) (h : Blk G (bs G) ((bX11 G (bs G) ++ bX12 G (bs G + 127)) ++ [.inl (gJ G, 1, .inr (.inl (fun _ => 0)))]) H) : WPm G M0 H := by
  obtain ⟨D, I, ad0, b, r⟩ := G
  have e : ad0 = fun c i => b + offK c i := by
    funext c i
    exact had c i
  subst e
  refine ⟨fun c i hi => ⟨Nat.le_add_right b _, cw_all h c i hi⟩, fun c i c' i' hi hi' hq => offK_inj hi hi' (by have hq : b + offK c i = b + offK c' i' := hq; omega), fun a ha => absurd ha (Nat.not_lt_zero a), hO, fun _ _ _ _ => Nat.le_refl 0⟩
/-! THE FIRST STATE -/
def A0 : Abs := (fun _ => 0, fun c j => if c = 12 ∧ j % 3 = 2 then 99999 else 0, fun _ _ => false)
def S0 : Sg := (A0, none, fun _ _ => 0, fun _ _ => 0)
theorem no0 {n : Nat} {P : Prop} (h : n < 0) : P := absurd h (Nat.not_lt_zero n)
theorem mo_ok : ∀ m, m < 12 → ∀ k, k < 3 → moF (3 * m + k) = nI (if (3 * m + k) % 3 = 2 then 99999 else 0) := by decide +kernel
theorem st_ok : ∀ m, m < 12 → ∀ k, k < 3 → stF (100 + 20 * k + m) = nI (if (3 * m + k) % 3 = 2 then 99999 else 0) := by decide +kernel
theorem st_0 : stF 0 = 0 ∧ stF 1 = 0 ∧ stF 2 = 0 ∧ stF 3 = 0 ∧ stF 4 = 0 ∧ stF 5 = 0 := by decide +kernel
theorem a12 {m : Nat} : A0.2.1 12 m = if m % 3 = 2 then 99999 else 0 := by
  show (if (12 : Nat) = 12 ∧ m % 3 = 2 then 99999 else 0) = _
  by_cases h : m % 3 = 2
  · rw [if_pos ⟨rfl, h⟩, if_pos h]
  · rw [if_neg (fun q => h q.2), if_neg h]
theorem a26 : A0.2.1 26 0 = 0 := rfl
theorem rcx0 : RCX M0 S0 := by
  refine ⟨⟨⟨rfl, fun s h => no0 h, fun s _ hs => ⟨rfl, rfl, fun k _ => rfl⟩⟩, ⟨rfl, fun d h => no0 h⟩, ⟨rfl, fun m k hm hk => ?_⟩, ⟨rfl, fun r h => no0 h⟩, ⟨rfl, fun k h => no0 h⟩, ⟨rfl, fun a h => no0 h, fun _ _ => Nat.le_refl 0⟩⟩, rfl, fun d hd => ⟨rfl, fun h => absurd h (show ¬ (0 : Nat) = 1 by decide), fun h => absurd h (show ¬ (0 : Nat) = 2 by decide)⟩⟩
  show moF (3 * m + k) = nI (A0.2.1 12 (3 * m + k))
  rw [a12]
  exact mo_ok m hm k hk
theorem rmx0 : RMX M0 S0 := by
  obtain ⟨e0, e1, e2, e3, e4, e5⟩ := st_0
  refine ⟨⟨⟨e0, fun s h => no0 h⟩, ⟨e1, fun d h => no0 h⟩, ⟨e3, fun m k hm hk => ?_⟩, ⟨e5, fun r h => no0 h⟩, ⟨e4, fun k h => no0 h⟩, ⟨e2, fun a h => no0 h⟩⟩, rfl, fun d hd => ⟨rfl, fun h => absurd h (show ¬ (0 : Nat) = 1 by decide), fun h => absurd h (show ¬ (0 : Nat) = 2 by decide)⟩, ⟨0, by decide +kernel, by decide, fun h => absurd rfl h⟩, rfl⟩
  show stF (100 + 20 * k + m) = nI (A0.2.1 12 (3 * m + k))
  rw [a12]
  exact st_ok m hm k hk
theorem iv0 : IV S0 := by
  refine ⟨⟨⟨Nat.zero_le _, Nat.zero_le _, Nat.zero_le _, Nat.zero_le _, Nat.zero_le _, Nat.zero_le _, fun s h => no0 h, fun d h => no0 h, fun m hm => ?_, fun r h => no0 h, fun a h => no0 h, fun k h => no0 h⟩, fun B hB => (by cases hB), fun d hd => ⟨Nat.zero_le _, Nat.zero_le _, Nat.zero_le _, Nat.zero_le _, Nat.zero_le _, Nat.zero_le _, fun j hj => ⟨fun _ => (show (0 : Int32).toInt8.toInt32 = 0 by decide), fun _ => (show (0 : Int32).toInt16.toInt32 = 0 by decide)⟩⟩⟩, ⟨fun a h => no0 h, fun a h => no0 h⟩, fun B hB => (by cases hB)⟩
  show A0.2.1 12 (3 * m) ≤ 100 ∧ A0.2.1 12 (3 * m + 1) ≤ 99 ∧ A0.2.1 12 (3 * m + 2) ≤ 99999
  rw [a12, a12, a12]
  refine ⟨?_, ?_, ?_⟩ <;> split <;> omega
