/-! the memory of the whole system as numbers: ints and longs of a cell by kind, instance, place; and what else moves (the acts, the reader's text) -/
abbrev Mem : Type := (Nat → Nat → Nat → Int32) × (Nat → Nat → Nat → Int64) × (Nat → Nat → Nat → Nat)
def uR {α : Type} (f : Nat → Nat → α) (c i : Nat) (g : α) : Nat → Nat → α := fun c' i' => if c' = c ∧ i' = i then g else f c' i'
def wI (M : Mem) (c i j : Nat) (v : Int32) : Mem := (uR M.1 c i (upd (M.1 c i) j v), M.2)
def wR (M : Mem) (c i : Nat) (g : Nat → Int32) : Mem := (uR M.1 c i g, M.2)
def wJ (M : Mem) (c i j : Nat) (v : Int64) : Mem := (M.1, uR M.2.1 c i (vp_updL (M.2.1 c i) j v), M.2.2)
def wO (M : Mem) (c i j : Nat) (v : Nat) : Mem := (M.1, M.2.1, uR M.2.2 c i (va_up (M.2.2 c i) j v))
abbrev Gn : Type := va_G × (ClassId × ClassId × ClassId × ClassId × ClassId) × (Nat → Nat → Nat) × Nat × Heap × (Nat → Nat) × (Nat → Nat)
abbrev gD (G : Gn) : va_G := G.1
abbrev gI (G : Gn) : ClassId := G.2.1.1
abbrev gJ (G : Gn) : ClassId := G.2.1.2.1
abbrev gZ (G : Gn) : ClassId := G.2.1.2.2.1
abbrev gS (G : Gn) : ClassId := G.2.1.2.2.2.1
abbrev gA (G : Gn) : ClassId := G.2.1.2.2.2.2
abbrev ad (G : Gn) (c i : Nat) : Nat := G.2.2.1 c i
abbrev bs (G : Gn) : Nat := G.2.2.2.1
abbrev gH (G : Gn) : Heap := G.2.2.2.2.1
abbrev gK (G : Gn) : Nat → Nat := G.2.2.2.2.2.1
abbrev gV (G : Gn) : Nat → Nat := G.2.2.2.2.2.2
abbrev tysG (G : Gn) : List (ClassId × FieldType) := [(gI G, .int), (gJ G, .long), (gZ G, .boolean), (gS G, .object "MilkDesk$Shelf"), (gA G, .object "MilkDesk$Act")]
/-- how many cells of a kind there are -/
def cntK (c : Nat) : Nat := match c with
  | 0 => 1
  | 1 => 3
  | 2 => 3
  | 3 => 3
  | 4 => 3
  | 5 => 3
  | 6 => 3
  | 7 => 8
  | 8 => 1
  | 9 => 1
  | 10 => 1
  | 11 => 1
  | 12 => 3
  | 13 => 3
  | 14 => 3
  | 15 => 3
  | 16 => 3
  | 17 => 3
  | 18 => 3
  | 19 => 3
  | 20 => 3
  | 21 => 3
  | 22 => 3
  | 23 => 3
  | 24 => 3
  | 25 => 3
  | 26 => 3
  | 27 => 3
  | 28 => 3
  | 29 => 3
  | 30 => 3
  | 31 => 3
  | 32 => 3
  | 33 => 3
  | 34 => 3
  | 35 => 3
  | 36 => 3
  | 37 => 3
  | 38 => 3
  | 39 => 8
  | 40 => 1
  | 41 => 1
  | 42 => 1
  | 43 => 1
  | 44 => 1
  | 45 => 1
  | 46 => 1
  | 47 => 1
  | 48 => 1
  | 49 => 1
  | 50 => 1
  | 51 => 1
  | 52 => 1
  | 53 => 1
  | 54 => 1
  | 55 => 1
  | 56 => 1
  | 57 => 1
  | 58 => 1
  | 59 => 1
  | 60 => 1
  | 61 => 1
  | 62 => 1
  | 63 => 1
  | 64 => 1
  | 65 => 1
  | 66 => 1
  | 67 => 1
  | 68 => 1
  | 69 => 1
  | 70 => 1
  | 71 => 1
  | 72 => 1
  | 73 => 1
  | 74 => 1
  | 75 => 1
  | 76 => 1
  | 77 => 1
  | 78 => 1
  | 79 => 1
  | 80 => 1
  | 81 => 1
  | 82 => 1
  | 83 => 1
  | 84 => 1
  | _ => 0
def txK (G : Gn) (t : Nat) : Nat := match t with
  | 0 => ad G 80 0
  | d + 1 => ad G 39 d
def tlK (w : Nat → Nat → Nat → Nat) (i j : Nat) : Option Nat := match w 1 i j with
  | 0 => none
  | a + 1 => some (w 0 0 a)
/-- the shape of a cell: its kind, its instance, its row of numbers -/
def Esh (G : Gn) (w : Nat → Nat → Nat → Nat) (c i : Nat) (r : Nat → Int32) (q : Nat → Int64) : va_E := match c with
  | 0 => .inr (10, [.ref (ad G 1 0), .ref (ad G 1 1), .ref (ad G 1 2), .int (r 3), .ref (ad G 11 i), .ref (ad G 8 0), .ref (ad G 9 0)])
  | 1 => .inr (9, [.int (r 0), .ref (ad G 2 i), .ref (ad G 3 i), .ref (ad G 4 i), .ref (ad G 5 i), .ref (ad G 6 i), .ref (ad G 12 i), .ref (ad G 13 i), .ref (ad G 14 i), .int (r 9)])
  | 2 => .inr (7, [.int (r 0), .ref (ad G 15 i), .ref (ad G 16 i), .ref (ad G 17 i), .ref (ad G 18 i), .ref (ad G 19 i), .ref (ad G 20 i), .ref (ad G 21 i)])
  | 3 => .inr (3, [.int (r 0), .ref (ad G 22 i), .ref (ad G 23 i), .ref (ad G 24 i), .ref (ad G 25 i), .ref (ad G 26 i), .ref (ad G 27 i), .ref (ad G 28 i), .ref (ad G 29 i)])
  | 4 => .inr (4, [.int (r 0), .ref (ad G 30 i), .ref (ad G 31 i), .ref (ad G 32 i), .ref (ad G 33 i)])
  | 5 => .inr (1, [.int (r 0), .ref (ad G 34 i), .ref (ad G 35 i)])
  | 6 => .inr (5, [.int (r 0), .ref (ad G 36 i), .ref (ad G 37 i), .ref (ad G 38 i)])
  | 7 => .inr (8, [.int (r 0), .int (r 1), .int (r 2), .int (r 3), .int (r 4), .int (r 5), .ref (ad G 39 i)])
  | 8 => .inr (2, [.ref (ad G 40 i), .int (r 1), .int (r 2), .ref (txK G (w 4 0 0)), .int (r 4), .int (r 5), .int (r 6)])
  | 9 => .inr (6, [.int (r 0), .ref (ad G 41 i), .ref (ad G 42 i), .ref (ad G 43 i), .ref (ad G 82 i), .ref (ad G 83 i), .ref (ad G 84 i), .int (r 7), .int (r 8), .int (r 9), .int (r 10), .int (r 11)])
  | 10 => .inr (11, [.int (r 0), .ref (ad G 44 i), .ref (ad G 45 i), .ref (ad G 46 i), .int (r 4), .ref (ad G 47 i), .ref (ad G 48 i), .ref (ad G 49 i), .ref (ad G 50 i), .ref (ad G 51 i), .ref (ad G 52 i), .ref (ad G 53 i), .ref (ad G 54 i), .ref (ad G 55 i), .ref (ad G 56 i), .ref (ad G 57 i), .ref (ad G 58 i), .ref (ad G 59 i), .ref (ad G 60 i), .ref (ad G 61 i), .ref (ad G 62 i), .ref (ad G 63 i), .int (r 22), .int (r 23), .int (r 24), .int (r 25), .int (r 26), .int (r 27), .int (r 28), .int (r 29), .int (r 30), .int (r 31), .ref (ad G 64 i), .int (r 33), .ref (ad G 65 i), .int (r 35), .ref (ad G 66 i), .int (r 37), .ref (ad G 67 i), .ref (ad G 68 i), .int (r 40), .ref (ad G 69 i), .ref (ad G 70 i), .ref (ad G 71 i), .int (r 44), .ref (ad G 72 i), .ref (ad G 73 i), .ref (ad G 74 i), .ref (ad G 75 i), .ref (ad G 76 i), .ref (ad G 77 i), .ref (ad G 78 i), .ref (ad G 79 i)])
  | 11 => .inl (gS G, 8, .inr (.inr (.inr (.inr (fun j => some (ad G 7 j))))))
  | 12 => .inl (gI G, 36, .inl r)
  | 13 => .inl (gI G, 10, .inl r)
  | 14 => .inl (gI G, 80, .inl r)
  | 15 => .inl (gI G, 12, .inl r)
  | 16 => .inl (gI G, 12, .inl r)
  | 17 => .inl (gI G, 12, .inl r)
  | 18 => .inl (gI G, 12, .inl r)
  | 19 => .inl (gI G, 12, .inl r)
  | 20 => .inl (gI G, 12, .inl r)
  | 21 => .inl (gI G, 132, .inl r)
  | 22 => .inl (gI G, 5, .inl r)
  | 23 => .inl (gI G, 5, .inl r)
  | 24 => .inl (gI G, 5, .inl r)
  | 25 => .inl (gI G, 5, .inl r)
  | 26 => .inl (gI G, 20, .inl r)
  | 27 => .inl (gI G, 5, .inl r)
  | 28 => .inl (gI G, 5, .inl r)
  | 29 => .inl (gI G, 5, .inl r)
  | 30 => .inl (gI G, 16, .inl r)
  | 31 => .inl (gI G, 16, .inl r)
  | 32 => .inl (gI G, 16, .inl r)
  | 33 => .inl (gI G, 192, .inl r)
  | 34 => .inl (gA G, 16, .inr (.inr (.inr (.inr (tlK w i)))))
  | 35 => .inl (gI G, 16, .inl r)
  | 36 => .inl (gI G, 30, .inl r)
  | 37 => .inl (gI G, 30, .inl r)
  | 38 => .inl (gI G, 30, .inl r)
  | 39 => .inl (gI G, 80, .inl r)
  | 40 => .inl (gI G, 80, .inl r)
  | 41 => .inl (gI G, 7, .inl r)
  | 42 => .inl (gI G, 7, .inl r)
  | 43 => .inl (gI G, 7, .inl r)
  | 44 => .inl (gI G, 320, .inl r)
  | 45 => .inl (gI G, 320, .inl r)
  | 46 => .inl (gI G, 320, .inl r)
  | 47 => .inl (gI G, 12, .inl r)
  | 48 => .inl (gI G, 12, .inl r)
  | 49 => .inl (gI G, 12, .inl r)
  | 50 => .inl (gI G, 5, .inl r)
  | 51 => .inl (gI G, 5, .inl r)
  | 52 => .inl (gI G, 5, .inl r)
  | 53 => .inl (gI G, 16, .inl r)
  | 54 => .inl (gI G, 16, .inl r)
  | 55 => .inl (gI G, 16, .inl r)
  | 56 => .inl (gI G, 192, .inl r)
  | 57 => .inl (gI G, 1280, .inl r)
  | 58 => .inl (gI G, 16, .inl r)
  | 59 => .inl (gI G, 16, .inl r)
  | 60 => .inl (gI G, 16, .inl r)
  | 61 => .inl (gI G, 30, .inl r)
  | 62 => .inl (gI G, 30, .inl r)
  | 63 => .inl (gI G, 30, .inl r)
  | 64 => .inl (gZ G, 100, .inl r)
  | 65 => .inl (gI G, 200, .inl r)
  | 66 => .inl (gI G, 12, .inl r)
  | 67 => .inl (gI G, 5, .inl r)
  | 68 => .inl (gI G, 5, .inl r)
  | 69 => .inl (gI G, 7, .inl r)
  | 70 => .inl (gI G, 7, .inl r)
  | 71 => .inl (gI G, 7, .inl r)
  | 72 => .inl (gI G, 8, .inl r)
  | 73 => .inl (gI G, 8, .inl r)
  | 74 => .inl (gI G, 8, .inl r)
  | 75 => .inl (gI G, 8, .inl r)
  | 76 => .inl (gI G, 8, .inl r)
  | 77 => .inl (gI G, 8, .inl r)
  | 78 => .inl (gJ G, 640, .inr (.inl q))
  | 79 => .inl (gJ G, 80, .inr (.inl q))
  | 80 => .inl (gI G, 0, .inl r)
  | 81 => .inl (gJ G, 1, .inr (.inl q))
  | 82 => .inl (gI G, 7, .inl r)
  | 83 => .inl (gI G, 7, .inl r)
  | 84 => .inl (gI G, 7, .inl r)
  | _ => .inl (gI G, 0, .inl r)
/-! the world of the whole system in a heap, and rows that walk over it -/
def kACT : Nat := 1000
def kAST : Nat := 1001
def actE (M : Mem) (a : Nat) : va_E := .inr (0, [.int (M.1 1000 a 0), .int (M.1 1000 a 1), .int (M.1 1000 a 2), .ref (M.2.2 0 1 a)])
def astE (G : Gn) (M : Mem) (a : Nat) : va_E := .inl (gI G, M.2.2 3 0 a, .inl (M.1 1001 a))
def WPm (G : Gn) (M : Mem) (H : Heap) : Prop :=
  (∀ c i, i < cntK c → bs G ≤ ad G c i ∧ va_at (gD G) vwCl (ad G c i, Esh G M.2.2 c i (M.1 c i) (M.2.1 c i)) H) ∧
  (∀ c i c' i', i < cntK c → i' < cntK c' → ad G c i = ad G c' i' → c = c' ∧ i = i') ∧
  (∀ a, a < M.2.2 2 0 0 → (bs G ≤ M.2.2 0 0 a ∧ bs G ≤ M.2.2 0 1 a) ∧ va_at (gD G) vwCl (M.2.2 0 0 a, actE M a) H ∧ va_at (gD G) vwCl (M.2.2 0 1 a, astE G M a) H ∧ ∀ c i, i < cntK c → ad G c i ≠ M.2.2 0 0 a ∧ ad G c i ≠ M.2.2 0 1 a) ∧
  (∀ q, q < bs G → H[q]? = (gH G)[q]?) ∧ ∀ w j, w < 3 → j < 16 → M.2.2 1 w j ≤ M.2.2 2 0 0
/-- what is known of the machine's own cells: the texts, the statics; they lie below the base -/
def txB (i : Nat) : List Int32 := match i with
  | 0 => [97, 115, 109, 100, 119, 104, 110, 120, 121, 99]
  | 1 => [101, 114, 111]
  | 2 => [43, 45]
  | _ => [60, 62, 61]
def XF (G : Gn) (U : State) : Prop :=
  vk_S 4 [10, 3, 2, 3] [txB 0, txB 1, txB 2, txB 3] (gK G) (gV G) (fun q => bs G ≤ q) U (gH G) ∧
  va_Z "java/lang/String" "COMPACT_STRINGS" "Z" (.int 1) (fun q => bs G ≤ q) U (gH G) ∧
  (vk_R "MilkDesk$World" 52 "asmdwhnxyc" (gK G 0) U ∧ vk_R "MilkDesk$ActReader" 102 "asmdwhnxyc" (gK G 0) U ∧ vk_R "MilkDesk$ActReader" 47 "ero" (gK G 1) U ∧ vk_R "MilkDesk$ActReader" 100 "+-" (gK G 2) U ∧ vk_R "MilkDesk$ActReader" 95 "<>=" (gK G 3) U ∧
    vk_R "MilkDesk$Crates" 11 "unmet" (gK G 4) U ∧ vk_R "MilkDesk$Crates" 18 "frozen" (gK G 5) U ∧ vk_R "MilkDesk$Crates" 23 "milk" (gK G 6) U ∧ vk_R "MilkDesk" 285 "no such shelf" (gK G 7) U ∧ vk_R "MilkDesk" 292 "no such place in a row" (gK G 8) U) ∧
  vx_Zq Bundle.tN "UNASSIGNED_STACK" Bundle.steD (fun q => bs G ≤ q) U (gH G) ∧ vx_Zq Bundle.tN "SUPPRESSED_SENTINEL" Bundle.listD (fun q => bs G ≤ q) U (gH G) ∧
  (∀ (a : String) (i : Nat) (x : MethodName) (h : String), Cond.methodLinkNest a i x h ∈ lw_tbl → va_Nw (.methodLinkNest a i x h) U) ∧
  (∀ C T : String, Cond.castable C T ∈ lw_tbl → va_Nw (.castable C T) U) ∧ (∀ x : MethodName, Cond.declares x ∈ lw_tbl → va_Nw (.declares x) U) ∧ va_Nc "java/lang/IllegalArgumentException" "java/lang/UnsupportedOperationException" U ∧ va_Nc "java/lang/IllegalStateException" "java/lang/UnsupportedOperationException" U ∧ va_Nc "java/lang/IllegalStateException" "java/lang/IllegalArgumentException" U
def KX (G : Gn) (U : State) : Prop := va_K (gD G) vwCl (tysG G) U ∧ XF G U
theorem XF.warm {G : Gn} {s U : State} (hW : s.WarmedH U.vm) (h : XF G s) : XF G U := by
  obtain ⟨h1, h2, ⟨k0, k1, k2, k3, k4, k5, k6, k7, k8, k9⟩, h3, h4, h5, h6, h7, n1, n2, n3⟩ := h
  exact ⟨vk_S.moved hW.alike h1, va_Z.moved hW.alike h2, ⟨k0.warm hW, k1.warm hW, k2.warm hW, k3.warm hW, k4.warm hW, k5.warm hW, k6.warm hW, k7.warm hW, k8.warm hW, k9.warm hW⟩, vx_Zq.moved hW.alike h3, vx_Zq.moved hW.alike h4, fun a i x h hm => (h5 a i x h hm).warmM hW, fun C T hm => (h6 C T hm).warmC hW, fun x hm => (h7 x hm).warmD hW, n1.moved hW.alike, n2.moved hW.alike, n3.moved hW.alike⟩
theorem KX.warm {G : Gn} {s U : State} (hW : s.WarmedH U.vm) (h : KX G s) : KX G U := ⟨va_K.moved hW.alike h.1, h.2.warm hW⟩
theorem XF.same {G : Gn} {s U : State} (hv : U.vm = s.vm) (h : XF G s) : XF G U := by
  obtain ⟨h1, h2, ⟨k0, k1, k2, k3, k4, k5, k6, k7, k8, k9⟩, h3, h4, h5, h6, h7, n1, n2, n3⟩ := h
  have ha : s.vm.Alike U.vm := by rw [hv]; exact Vm.Alike.refl s.vm
  exact ⟨vk_S.moved ha h1, va_Z.moved ha h2, ⟨k0.same hv, k1.same hv, k2.same hv, k3.same hv, k4.same hv, k5.same hv, k6.same hv, k7.same hv, k8.same hv, k9.same hv⟩, vx_Zq.moved ha h3, vx_Zq.moved ha h4, fun a i x h hm => va_Nw.same rfl hv.symm (h5 a i x h hm), fun C T hm => va_Nw.same rfl hv.symm (h6 C T hm), fun x hm => va_Nw.same rfl hv.symm (h7 x hm), n1.moved ha, n2.moved ha, n3.moved ha⟩
def WS (G : Gn) (M : Mem) (U : State) : Prop := KX G U ∧ bs G ≤ U.heap.size ∧ WPm G M U.heap
theorem uR_eq {α : Type} {f : Nat → Nat → α} {c i : Nat} {g : α} : uR f c i g c i = g := if_pos ⟨rfl, rfl⟩
theorem uR_ne {α : Type} {f : Nat → Nat → α} {c i c' i' : Nat} {g : α} (h : ¬ (c' = c ∧ i' = i)) : uR f c i g c' i' = f c' i' := if_neg h
theorem uR_nc {α : Type} {f : Nat → Nat → α} {c i c' i' : Nat} {g : α} (h : c' ≠ c) : uR f c i g c' i' = f c' i' := if_neg (fun q => h q.1)
theorem uR_ni {α : Type} {f : Nat → Nat → α} {c i c' i' : Nat} {g : α} (h : i' ≠ i) : uR f c i g c' i' = f c' i' := if_neg (fun q => h q.2)
theorem uR_id {α : Type} {f : Nat → Nat → α} {c i : Nat} : uR f c i (f c i) = f := by
  funext c' i'
  unfold uR
  split
  · next h => rw [h.1, h.2]
  · rfl
theorem cntK_big {c : Nat} (h : 100 ≤ c) : cntK c = 0 := by
  unfold cntK
  split <;> first | rfl | (exfalso; omega)
theorem WPm.row {G : Gn} {M : Mem} {H H1 : Heap} {c i : Nat} (h : WPm G M H) (hi : i < cntK c) {g : Nat → Int32} {q : Nat → Int64} (he : va_at (gD G) vwCl (ad G c i, Esh G M.2.2 c i g q) H1) (oq : ∀ a, a ≠ ad G c i → H1[a]? = H[a]?) : WPm G (uR M.1 c i g, uR M.2.1 c i q, M.2.2) H1 := by
  have hc : c < 100 := by
    rcases Nat.lt_or_ge c 100 with z | z
    · exact z
    · rw [cntK_big z] at hi
      exact absurd hi (Nat.not_lt_zero _)
  obtain ⟨h1, h2, h3, h4⟩ := h
  refine ⟨fun c' i' hi' => ?_, h2, fun a ha => ?_, fun z hz => (oq z (fun e => by have := (h1 c i hi).1; omega)).trans (h4.1 z hz), h4.2⟩
  · obtain ⟨b1, b2⟩ := h1 c' i' hi'
    refine ⟨b1, ?_⟩
    by_cases hq : c' = c ∧ i' = i
    · obtain ⟨rfl, rfl⟩ := hq
      show va_at _ _ (_, Esh G M.2.2 c' i' (uR M.1 c' i' g c' i') (uR M.2.1 c' i' q c' i')) H1
      rw [uR_eq, uR_eq]
      exact he
    · show va_at _ _ (_, Esh G M.2.2 c' i' (uR M.1 c i g c' i') (uR M.2.1 c i q c' i')) H1
      rw [uR_ne hq, uR_ne hq]
      exact b2.kept (oq _ (fun z => hq (h2 c' i' c i hi' hi z)))
  · obtain ⟨b1, b2, b3, b4⟩ := h3 a ha
    have e1 : uR M.1 c i g 1000 a = M.1 1000 a := uR_nc (by omega)
    have e2 : uR M.1 c i g 1001 a = M.1 1001 a := uR_nc (by omega)
    refine ⟨b1, ?_, ?_, b4⟩
    · have b2' := b2.kept (H1 := H1) (oq _ (Ne.symm (b4 c i hi).1))
      unfold actE at b2' ⊢
      show va_at _ _ (M.2.2 0 0 a, .inr (0, [.int (uR M.1 c i g 1000 a 0), .int (uR M.1 c i g 1000 a 1), .int (uR M.1 c i g 1000 a 2), .ref (M.2.2 0 1 a)])) H1
      rw [e1]
      exact b2'
    · have b3' := b3.kept (H1 := H1) (oq _ (Ne.symm (b4 c i hi).2))
      unfold astE at b3' ⊢
      show va_at _ _ (M.2.2 0 1 a, .inl (gI G, M.2.2 3 0 a, .inl (uR M.1 c i g 1001 a))) H1
      rw [e2]
      exact b3'
theorem WPm.rowI {G : Gn} {M : Mem} {H H1 : Heap} {c i : Nat} (h : WPm G M H) (hi : i < cntK c) {g : Nat → Int32} (he : va_at (gD G) vwCl (ad G c i, Esh G M.2.2 c i g (M.2.1 c i)) H1) (oq : ∀ a, a ≠ ad G c i → H1[a]? = H[a]?) : WPm G (wR M c i g) H1 := by
  have h1 := h.row hi he oq
  rw [uR_id] at h1
  exact h1
theorem WPm.rowJ {G : Gn} {M : Mem} {H H1 : Heap} {c i : Nat} (h : WPm G M H) (hi : i < cntK c) {q : Nat → Int64} (he : va_at (gD G) vwCl (ad G c i, Esh G M.2.2 c i (M.1 c i) q) H1) (oq : ∀ a, a ≠ ad G c i → H1[a]? = H[a]?) : WPm G (M.1, uR M.2.1 c i q, M.2.2) H1 := by
  have h1 := h.row hi he oq
  rw [uR_id] at h1
  exact h1
/-! packages that a program writes: a field's link, a field's value, a cell's shape, a call's link -/
def FLK (own : String) (idx ci k : Nat) (C : String) (T : u_T) (N : Nat) : Prop := vwCl[ci]? = some (C, T, N) ∧ k < N ∧ Cond.fieldLink own idx (T k).1 (T k).2.1 (T k).2.2.1 ∈ lw_G ∧ ∀ w ∈ u_ws C T N, w ∈ lw_G
def GVI (G : Gn) (c ci k : Nat) : Prop := ∀ w i r q, ∃ fs, Esh G w c i r q = .inr (ci, fs) ∧ fs[k]? = some (.int (r k))
def GVR (G : Gn) (c ci k i a : Nat) : Prop := ∀ w r q, ∃ fs, Esh G w c i r q = .inr (ci, fs) ∧ fs[k]? = some (.ref a)
def PV (G : Gn) (c ci k : Nat) : Prop := ∀ w i r q x, ∃ fs, Esh G w c i r q = .inr (ci, fs) ∧ k < fs.length ∧ Esh G w c i (upd r k x) q = .inr (ci, fs.set k (.int x))
def AI (G : Gn) (c n : Nat) : Prop := ∀ w i r q, Esh G w c i r q = .inl (gI G, n, .inl r)
def AZ (G : Gn) (c n : Nat) : Prop := ∀ w i r q, Esh G w c i r q = .inl (gZ G, n, .inl r)
def AJ (G : Gn) (c n : Nat) : Prop := ∀ w i r q, Esh G w c i r q = .inl (gJ G, n, .inr (.inl q))
/-- the word list of a contract -/
abbrev cwd (y : MethodName) (code : ByteArray) (n : Nat) (ret : Option FieldType) : List Cond := .code y code n ret :: lw_G
/-- a method's link at a call: named method y of class C -/
def LKV (own : String) (idx : Nat) (C : String) (y : MethodName) (code : ByteArray) (maxL : Nat) (ret : Option FieldType) (n : Nat) : Prop :=
  Cond.methodLink own idx y ∈ lw_G ∧ Cond.instanceMethod y ∈ lw_G ∧ Cond.selects C y y ∈ lw_G ∧ Cond.initialized y.cls ∈ lw_G ∧ Cond.code y code maxL ret ∈ lw_G ∧ y.cls ≠ "java/lang/invoke/MethodHandle" ∧ y.cls ≠ "java/lang/invoke/VarHandle" ∧ (parseMethodDescriptor y.desc).map (fun d => d.parameters.length) = some n
def LKS (own : String) (idx : Nat) (y : MethodName) (code : ByteArray) (maxL : Nat) (ret : Option FieldType) (n : Nat) : Prop :=
  Cond.methodLink own idx y ∈ lw_G ∧ Cond.static y ∈ lw_G ∧ Cond.initialized y.cls ∈ lw_G ∧ Cond.code y code maxL ret ∈ lw_G ∧ y.cls ≠ "java/lang/invoke/MethodHandle" ∧ y.cls ≠ "java/lang/invoke/VarHandle" ∧ (parseMethodDescriptor y.desc).map (fun d => d.parameters.length) = some n
def LKN (own : String) (idx : Nat) (host : String) (y : MethodName) (code : ByteArray) (maxL : Nat) (ret : Option FieldType) (n : Nat) : Prop :=
  Cond.methodLinkNest own idx y host ∈ lw_tbl ∧ Cond.static y ∈ lw_G ∧ Cond.initialized y.cls ∈ lw_G ∧ Cond.code y code maxL ret ∈ lw_G ∧ y.cls ≠ "java/lang/invoke/MethodHandle" ∧ y.cls ≠ "java/lang/invoke/VarHandle" ∧ (parseMethodDescriptor y.desc).map (fun d => d.parameters.length) = some n
section MR
variable {p : Program} {l : Launch} {e : Env} {R : Room} {s : State} {m : MethodId} {args : Array Value} {below : List Frame} {meth : Method} {c : Code} {H : Heap} {locs : List Loc} {cells slots : Nat} {Q : State → Prop}
variable {cc : ByteArray} {pc : Nat} {ls : Array Slot} {rest : List Value} {G : Gn} {M : Mem} {own : String} {nL : Nat}
/-- reading a field -/
theorem m_get (S : CallFix p m c cc nL s args lw_G own) (hK : va_K (gD G) vwCl (tysG G) s) {idx ci k : Nat} {C : String} {T : u_T} {N : Nat} (hF : FLK own idx ci k C T N) {a : Nat} {fs : List Value} {v : Value} (h1 : va_at (gD G) vwCl (a, .inr (ci, fs)) H) (e2 : fs[k]? = some v) (hdg : decode cc pc = .ok (.getfield idx, 3))
    (kk : W p l e R s m args below meth c H locs cells slots Q (F0 m (pc + 3) ls (v :: rest))) : W p l e R s m args below meth c H locs cells slots Q (F0 m pc ls (.ref a :: rest)) := by
  have hP : va_P (gD G) vwCl [(a, .inr (ci, fs))] H := by
    intro k q hk
    match k, hk with
    | 0, hk => cases hk; exact h1
    | k + 1, hk => simp at hk
  exact va_get S.1 S.2.1 S.2.2.2.2 hF.2.2.2 S.2.2.2.1 hK hP 0 rfl hF.1 k hF.2.1 (S.2.2.2.2 _ hF.2.2.1) (fun _ h => h) e2 hdg kk
theorem m_geti (S : CallFix p m c cc nL s args lw_G own) (hK : va_K (gD G) vwCl (tysG G) s) {idx ci k : Nat} {C : String} {T : u_T} {N : Nat} (hF : FLK own idx ci k C T N) {kc i : Nat} (hE : GVI G kc ci k) (hW : WPm G M H) (hi : i < cntK kc) (hdg : decode cc pc = .ok (.getfield idx, 3))
    (kk : W p l e R s m args below meth c H locs cells slots Q (F0 m (pc + 3) ls (.int (M.1 kc i k) :: rest))) : W p l e R s m args below meth c H locs cells slots Q (F0 m pc ls (.ref (ad G kc i) :: rest)) := by
  obtain ⟨fs, e1, e2⟩ := hE M.2.2 i (M.1 kc i) (M.2.1 kc i)
  have h1 := (hW.1 kc i hi).2
  rw [e1] at h1
  exact m_get S hK hF h1 e2 hdg kk
theorem m_getr (S : CallFix p m c cc nL s args lw_G own) (hK : va_K (gD G) vwCl (tysG G) s) {idx ci k : Nat} {C : String} {T : u_T} {N : Nat} (hF : FLK own idx ci k C T N) {kc i a : Nat} (hE : GVR G kc ci k i a) (hW : WPm G M H) (hi : i < cntK kc) (hdg : decode cc pc = .ok (.getfield idx, 3))
    (kk : W p l e R s m args below meth c H locs cells slots Q (F0 m (pc + 3) ls (.ref a :: rest))) : W p l e R s m args below meth c H locs cells slots Q (F0 m pc ls (.ref (ad G kc i) :: rest)) := by
  obtain ⟨fs, e1, e2⟩ := hE M.2.2 (M.1 kc i) (M.2.1 kc i)
  have h1 := (hW.1 kc i hi).2
  rw [e1] at h1
  exact m_get S hK hF h1 e2 hdg kk
/-- writing an int field -/
theorem m_put (S : CallFix p m c cc nL s args lw_G own) (hK : va_K (gD G) vwCl (tysG G) s) {idx ci k : Nat} {C : String} {T : u_T} {N : Nat} (hF : FLK own idx ci k C T N) {ty0 : Nat → FieldType} (hty : ∀ k, k < N → parseFieldDescriptor (T k).2.2.1 = some (ty0 k)) (hnm : ∀ a, a < N → ∀ b, b < N → a ≠ b → (T a).2.1 ≠ (T b).2.1) (hfin : (T k).2.2.2 = false) {ty : FieldType} (hd : parseFieldDescriptor (T k).2.2.1 = some ty) {kc i : Nat} (hE : PV G kc ci k) (hW : WPm G M H) (hS0 : va_S (fun q => bs G ≤ q) s.heap H locs) (hi : i < cntK kc) {x : Int32} (hn : narrow ty (.int x) = .int x) (hfit : fits ty (.int x) = true) (hdg : decode cc pc = .ok (.putfield idx, 3))
    (kk : ∀ (M1 : Mem), M1 = wI M kc i k x → ∀ (H1 : Heap) (locs1 : List Loc), WPm G M1 H1 → va_S (fun q => bs G ≤ q) s.heap H1 locs1 → W p l e R s m args below meth c H1 locs1 cells slots Q (F0 m (pc + 3) ls rest)) : W p l e R s m args below meth c H locs cells slots Q (F0 m pc ls (.int x :: .ref (ad G kc i) :: rest)) := by
  obtain ⟨fs, e1, e2, e3⟩ := hE M.2.2 i (M.1 kc i) (M.2.1 kc i) x
  obtain ⟨hba, h1⟩ := hW.1 kc i hi
  rw [e1] at h1
  obtain ⟨hx, hb, hml, hown, hts⟩ := S
  obtain ⟨hc, hk, hlk, hin⟩ := hF
  have hlink := hts _ hlk
  have hap := va_apart (own := own) hts hin ty0 hty hnm hK hc
  obtain ⟨r, h1, cell, q1, q2, q3, q4⟩ := h1
  have hr : r = (C, T, N) := Option.some.inj (h1.symm.trans hc)
  subst hr
  obtain ⟨hS, hfc, kC, hkC, hkind⟩ := hK.1 ci _ hc
  obtain ⟨cf, kf, fi, f, hi', hsl⟩ := hS k hk
  have hlay := hts _ (hin _ (u_in_lay hk))
  unfold u_lay at hlay
  rw [if_neg (by rw [hfin]; decide)] at hlay
  have hst := (u_facts hfc hkC (u_lays hts hin hk) hi').1
  have h6 := u_store hfc hkC hkind hlay hi' hd hn hfit
  refine W.putK hx hb (f := f) ⟨hown, hlink, ⟨_, _, _, hi'⟩, hst⟩ (by rw [q2]; exact h6) q1 q3 (by rw [hsl]; exact k2_hasslot (q4 k hk)) rfl rfl hdg fun H' e1' e2' e3' => ?_
  rw [hsl] at e1' ⊢
  refine kk _ rfl H' _ (hW.rowI hi ?_ e3') (hS0.put e2' e3' hba)
  rw [e3]
  exact ⟨_, hc, t_OB.to (V := updV (vp_V fs) k (.int x)) ⟨_, e1', q2, q3, t_set q4 hap hk (.int x)⟩ (fun j _ => vp_updV_set e2 (.int x) j)⟩
theorem m_kI (hK : va_K (gD G) vwCl (tysG G) s) : ArrOfT s (gI G) .int := (hK.2 0 _ rfl).1
theorem m_kJ (hK : va_K (gD G) vwCl (tysG G) s) : ArrOfT s (gJ G) .long := (hK.2 1 _ rfl).1
theorem m_kZ (hK : va_K (gD G) vwCl (tysG G) s) : ArrOfT s (gZ G) .boolean := (hK.2 2 _ rfl).1
theorem m_kS (hK : va_K (gD G) vwCl (tysG G) s) : ArrOfT s (gS G) (.object "MilkDesk$Shelf") := (hK.2 3 _ rfl).1
theorem m_kA (hK : va_K (gD G) vwCl (tysG G) s) : ArrOfT s (gA G) (.object "MilkDesk$Act") := (hK.2 4 _ rfl).1
theorem m_cell {kc i : Nat} {x : ClassId × vp_A} (hW : WPm G M H) (hi : i < cntK kc) (hE : Esh G M.2.2 kc i (M.1 kc i) (M.2.1 kc i) = .inl x) : H[ad G kc i]? = some (vp_cell x.1 x.2) := by
  have h1 := (hW.1 kc i hi).2
  rw [hE] at h1
  exact h1
/-- reading an int array -/
theorem m_ald (S : CallFix p m c cc nL s args lw_G own) (hK : va_K (gD G) vwCl (tysG G) s) {kc i n : Nat} (hE : AI G kc n) (hW : WPm G M H) (hi : i < cntK kc) {x : Int32} (hin : vp_in x n) (hdg : decode cc pc = .ok (.iaload, 1))
    (kk : W p l e R s m args below meth c H locs cells slots Q (F0 m (pc + 1) ls (.int (M.1 kc i x.toNatClampNeg) :: rest))) : W p l e R s m args below meth c H locs cells slots Q (F0 m pc ls (.int x :: .ref (ad G kc i) :: rest)) := by
  have hlt : x.toNatClampNeg < n := Nat.not_le.mp fun q => hin (Or.inr q)
  exact W.iald (v := .int (M.1 kc i x.toNatClampNeg)) S.1 S.2.1 (m_cell hW hi (hE _ _ _ _)) (m_kI hK n (fun j => .int (M.1 kc i j))) (fun q => by cases q) (by show ¬ (x < 0 ∨ (arrV _ _ _).slots.size ≤ _); rw [arrV_size]; exact hin) (by show (arrV _ _ _).slots[_]? = _; rw [arrV_read _ _ hlt]) rfl rfl hdg kk
theorem m_zald (S : CallFix p m c cc nL s args lw_G own) (hK : va_K (gD G) vwCl (tysG G) s) {kc i n : Nat} (hE : AZ G kc n) (hW : WPm G M H) (hi : i < cntK kc) {x : Int32} (hin : vp_in x n) (hdg : decode cc pc = .ok (.baload, 1))
    (kk : W p l e R s m args below meth c H locs cells slots Q (F0 m (pc + 1) ls (.int (M.1 kc i x.toNatClampNeg) :: rest))) : W p l e R s m args below meth c H locs cells slots Q (F0 m pc ls (.int x :: .ref (ad G kc i) :: rest)) := by
  have hlt : x.toNatClampNeg < n := Nat.not_le.mp fun q => hin (Or.inr q)
  exact W.zald (v := .int (M.1 kc i x.toNatClampNeg)) S.1 S.2.1 (m_cell hW hi (hE _ _ _ _)) (m_kZ hK n (fun j => .int (M.1 kc i j))) (fun q => by cases q) (by show ¬ (x < 0 ∨ (arrV _ _ _).slots.size ≤ _); rw [arrV_size]; exact hin) (by show (arrV _ _ _).slots[_]? = _; rw [arrV_read _ _ hlt]) rfl rfl hdg kk
theorem m_jald (S : CallFix p m c cc nL s args lw_G own) (hK : va_K (gD G) vwCl (tysG G) s) {kc i n : Nat} (hE : AJ G kc n) (hW : WPm G M H) (hi : i < cntK kc) {x : Int32} (hin : vp_in x n) (hdg : decode cc pc = .ok (.laload, 1))
    (kk : W p l e R s m args below meth c H locs cells slots Q (F0 m (pc + 1) ls (.long (M.2.1 kc i x.toNatClampNeg) :: rest))) : W p l e R s m args below meth c H locs cells slots Q (F0 m pc ls (.int x :: .ref (ad G kc i) :: rest)) := by
  have hlt : x.toNatClampNeg < n := Nat.not_le.mp fun q => hin (Or.inr q)
  exact W.lald (v := .long (M.2.1 kc i x.toNatClampNeg)) S.1 S.2.1 (m_cell hW hi (hE _ _ _ _)) (m_kJ hK n (fun j => .long (M.2.1 kc i j))) (fun q => by cases q) (by show ¬ (x < 0 ∨ (arrV _ _ _).slots.size ≤ _); rw [arrV_size]; exact hin) (by show (arrV _ _ _).slots[_]? = _; rw [arrV_read _ _ hlt]) rfl rfl hdg kk
/-- writing an int array -/
theorem m_ast (S : CallFix p m c cc nL s args lw_G own) (hK : va_K (gD G) vwCl (tysG G) s) {kc i n : Nat} (hE : AI G kc n) (hW : WPm G M H) (hS0 : va_S (fun q => bs G ≤ q) s.heap H locs) (hi : i < cntK kc) {j x : Int32} (hin : vp_in j n) (hdg : decode cc pc = .ok (.iastore, 1))
    (kk : ∀ (M1 : Mem), M1 = wI M kc i j.toNatClampNeg x → ∀ (H1 : Heap) (locs1 : List Loc), WPm G M1 H1 → va_S (fun q => bs G ≤ q) s.heap H1 locs1 → W p l e R s m args below meth c H1 locs1 cells slots Q (F0 m (pc + 1) ls rest)) : W p l e R s m args below meth c H locs cells slots Q (F0 m pc ls (.int x :: .int j :: .ref (ad G kc i) :: rest)) := by
  refine W.iast S.1 S.2.1 (m_cell hW hi (hE _ _ _ _)) (m_kI hK n (fun j => .int (M.1 kc i j))) (fun q => by cases q) (by show ¬ (j < 0 ∨ (arrV _ _ _).slots.size ≤ _); rw [arrV_size]; exact hin) rfl rfl hdg fun H1 e z oq => ?_
  refine kk _ rfl H1 _ (hW.rowI hi ?_ oq) (hS0.put z oq (hW.1 kc i hi).1)
  rw [hE]
  show H1[ad G kc i]? = some (vp_cell _ _)
  rw [e]
  show some ((vp_cell _ _).setSlot _ _) = _
  rw [vp_cell_i, vp_cell_i, arrV_store]
  congr 2
  funext q
  by_cases hq : q = j.toNatClampNeg
  · subst hq
    simp [updV, upd]
  · simp [updV, upd, hq]
theorem m_zast (S : CallFix p m c cc nL s args lw_G own) (hK : va_K (gD G) vwCl (tysG G) s) {kc i n : Nat} (hE : AZ G kc n) (hW : WPm G M H) (hS0 : va_S (fun q => bs G ≤ q) s.heap H locs) (hi : i < cntK kc) {j x : Int32} (hin : vp_in j n) (hdg : decode cc pc = .ok (.bastore, 1))
    (kk : ∀ (M1 : Mem), M1 = wI M kc i j.toNatClampNeg (vp_nar .boolean x) → ∀ (H1 : Heap) (locs1 : List Loc), WPm G M1 H1 → va_S (fun q => bs G ≤ q) s.heap H1 locs1 → W p l e R s m args below meth c H1 locs1 cells slots Q (F0 m (pc + 1) ls rest)) : W p l e R s m args below meth c H locs cells slots Q (F0 m pc ls (.int x :: .int j :: .ref (ad G kc i) :: rest)) := by
  refine W.zast S.1 S.2.1 (m_cell hW hi (hE _ _ _ _)) (m_kZ hK n (fun j => .int (M.1 kc i j))) (fun q => by cases q) (by show ¬ (j < 0 ∨ (arrV _ _ _).slots.size ≤ _); rw [arrV_size]; exact hin) rfl rfl hdg fun H1 e z oq => ?_
  refine kk _ rfl H1 _ (hW.rowI hi ?_ oq) (hS0.put z oq (hW.1 kc i hi).1)
  rw [hE]
  show H1[ad G kc i]? = some (vp_cell _ _)
  rw [e]
  show some ((vp_cell _ _).setSlot _ _) = _
  rw [vp_cell_i, vp_cell_i, arrV_store]
  congr 2
  funext q
  by_cases hq : q = j.toNatClampNeg
  · subst hq
    simp [updV, upd, vp_nar]
    try rfl
  · simp [updV, upd, hq]
theorem m_jast (S : CallFix p m c cc nL s args lw_G own) (hK : va_K (gD G) vwCl (tysG G) s) {kc i n : Nat} (hE : AJ G kc n) (hW : WPm G M H) (hS0 : va_S (fun q => bs G ≤ q) s.heap H locs) (hi : i < cntK kc) {j : Int32} {x : Int64} (hin : vp_in j n) (hdg : decode cc pc = .ok (.lastore, 1))
    (kk : ∀ (M1 : Mem), M1 = wJ M kc i j.toNatClampNeg x → ∀ (H1 : Heap) (locs1 : List Loc), WPm G M1 H1 → va_S (fun q => bs G ≤ q) s.heap H1 locs1 → W p l e R s m args below meth c H1 locs1 cells slots Q (F0 m (pc + 1) ls rest)) : W p l e R s m args below meth c H locs cells slots Q (F0 m pc ls (.long x :: .int j :: .ref (ad G kc i) :: rest)) := by
  refine W.last S.1 S.2.1 (m_cell hW hi (hE _ _ _ _)) (m_kJ hK n (fun j => .long (M.2.1 kc i j))) (fun q => by cases q) (by show ¬ (j < 0 ∨ (arrV _ _ _).slots.size ≤ _); rw [arrV_size]; exact hin) rfl rfl hdg fun H1 e z oq => ?_
  refine kk _ rfl H1 _ (hW.rowJ hi ?_ oq) (hS0.put z oq (hW.1 kc i hi).1)
  rw [hE]
  show H1[ad G kc i]? = some (vp_cell _ _)
  rw [e]
  show some ((vp_cell _ _).setSlot _ _) = _
  rw [vp_cell_l, vp_cell_l, arrV_store]
  congr 2
  funext q
  by_cases hq : q = j.toNatClampNeg
  · subst hq
    simp [updV, vp_updL]
  · simp [updV, vp_updL, hq]
theorem m_alen (S : CallFix p m c cc nL s args lw_G own) (hK : va_K (gD G) vwCl (tysG G) s) {kc i n : Nat} (hE : AI G kc n) (hW : WPm G M H) (hi : i < cntK kc) {v : Int32} (hv : Int32.ofNat n = v) (hdg : decode cc pc = .ok (.arraylength, 1))
    (kk : W p l e R s m args below meth c H locs cells slots Q (F0 m (pc + 1) ls (.int v :: rest))) : W p l e R s m args below meth c H locs cells slots Q (F0 m pc ls (.ref (ad G kc i) :: rest)) := by
  subst hv
  exact W.alen (n := Int32.ofNat n) S.1 S.2.1 (m_cell hW hi (hE _ _ _ _)) (m_kI hK n (fun j => .int (M.1 kc i j))) (by show (vp_cell _ _).slots.size.toInt32 = _; rw [vp_cell_i, arrV_size]) rfl rfl hdg kk
/-! contracts and calls -/
theorem WS.blind {U : State} {g : JFrame} {mk : MethodId} {a : Array Value} (h : WS G M U) : WS G M (U.calling g mk a) := ⟨⟨va_K.moved (u := U) (U := U.calling g mk a) (Vm.Alike.refl U.vm) h.1.1, XF.same (U := U.calling g mk a) rfl h.1.2⟩, h.2⟩
theorem m_blind {av : List Value} {Z : Prop} : FrameBlind (va_Pc av (fun U => WS G M U ∧ Z)) := fun _ _ _ _ q => ⟨q.1, WS.blind q.2.1, q.2.2⟩
theorem m_good {y : MethodName} {code : ByteArray} {maxL : Nat} {ret : Option FieldType} (h : Cond.code y code maxL ret ∈ lw_G) : GoodIn lw_G (cwd y code maxL ret) := by
  intro w hw
  rcases List.mem_cons.mp hw with rfl | hw
  · exact ⟨h, good_of_word (List.mem_filter.mp h).2⟩
  · exact ⟨hw, good_of_word (List.mem_filter.mp hw).2⟩
/-- a contract over the world: with the numbers M and Z, the method comes to an end with an answer and numbers that P allows -/
abbrev MQi (l : Launch) (y : MethodName) (code : ByteArray) (maxL : Nat) (ret : Option FieldType) (rm : Room) (av : List Value) (G : Gn) (M : Mem) (Z : Prop) (P : Int32 → Mem → Prop) : Prop :=
  Met l y (cwd y code maxL ret) rm (va_Pc av (fun U => WS G M U ∧ Z)) (va_Qi P (WS G) (fun q => bs G ≤ q)) rm.cells rm.slots (fun q => bs G ≤ q)
abbrev MQl (l : Launch) (y : MethodName) (code : ByteArray) (maxL : Nat) (ret : Option FieldType) (rm : Room) (av : List Value) (G : Gn) (M : Mem) (Z : Prop) (P : Int64 → Mem → Prop) : Prop :=
  Met l y (cwd y code maxL ret) rm (va_Pc av (fun U => WS G M U ∧ Z)) (va_Ql P (WS G) (fun q => bs G ≤ q)) rm.cells rm.slots (fun q => bs G ≤ q)
abbrev MQv (l : Launch) (y : MethodName) (code : ByteArray) (maxL : Nat) (ret : Option FieldType) (rm : Room) (av : List Value) (G : Gn) (M : Mem) (Z : Prop) (P : Mem → Prop) : Prop :=
  Met l y (cwd y code maxL ret) rm (va_Pc av (fun U => WS G M U ∧ Z)) (va_Qv P (WS G) (fun q => bs G ≤ q)) rm.cells rm.slots (fun q => bs G ≤ q)
/-- an answer that is a cell of a kind, or null: its instance -/
abbrev MQq (l : Launch) (y : MethodName) (code : ByteArray) (maxL : Nat) (ret : Option FieldType) (rm : Room) (av : List Value) (G : Gn) (M : Mem) (Z : Prop) (ka : Nat → Nat) (P : Option Nat → Mem → Prop) : Prop :=
  Met l y (cwd y code maxL ret) rm (va_Pc av (fun U => WS G M U ∧ Z)) (va_Qe ka P (WS G) (fun q => bs G ≤ q)) rm.cells rm.slots (fun q => bs G ≤ q)
/-- a method's entry -/
theorem m_enter {y : MethodName} {maxL : Nat} {ret : Option FieldType} {rm : Room} {av : List Value} {Z : Prop} {Qc : Array Value → State → Outcome → State → Prop} {mc ms : Nat} (hy : plainName y.cls = true) (hn : (lg_sl av).length ≤ maxL)
    (body : ∀ (p : Program) (e : Env) (s : State) (m : MethodId) (below : List Frame) (meth : Method) (c : Code) (ls : Array Slot) (H : Heap) (locs : List Loc), CallFix p m c cc maxL s av.toArray lw_G y.cls → meth.sig.returnType = ret → meth.locks = false → meth.name = y.name → KX G s → bs G ≤ s.heap.size → WPm G M H → va_S (fun q => bs G ≤ q) s.heap H locs → lv_has ls maxL (lv_args 0 av) → Z →
      W p l e rm s m av.toArray below meth c H locs 0 0 (MQ below Qc av.toArray s mc ms (fun q => bs G ≤ q)) (F0 m 0 ls [])) : Met l y (cwd y cc maxL ret) rm (va_Pc av (fun U => WS G M U ∧ Z)) Qc mc ms (fun q => bs G ≤ q) := by
  refine Met.ofW (cc := cc) (maxL := maxL) (ret := ret) hy rfl ?_
  intro p e s m args below meth c s₁ B hml hv
  obtain ⟨rfl, ⟨hK, hbs, hW⟩, hz⟩ := hv
  have hts := atoms_spec (ws := cwd y cc maxL ret) B.pre
  rw [lg_entry_eq]
  exact body p e s m below meth c _ s.heap [] ⟨B.exec, B.bytes, hml, findClass_of_methodNamed B.named, fun w hw => hts w (List.mem_cons_of_mem _ hw)⟩ B.returns B.notSynchronized (name_of_methodNamed B.named B.method).1 hK hbs hW va_S.rf (lv_entry av hn) hz
theorem m_lts {args a' : Array Value} {s : State} {w : Cond} (S : CallFix p m c cc nL s args lw_G own) (h : w ∈ lw_G) : w.before args s = true := S.2.2.2.2 _ h
/-- the call of an instance method on a cell -/
theorem m_rV {y : MethodName} {bytes : ByteArray} {maxL n idx : Nat} {ret : Option FieldType} {rm : Room} {C : String} {b : Addr} {As : List Value} {Z : Prop} {Qc : Array Value → State → Outcome → State → Prop} {st0 : List Value}
    (S : CallFix p m c cc nL s args lw_G own) (hK : KX G s) (hW : WPm G M H) (hbs : bs G ≤ H.size) (hM : Met l y (cwd y bytes maxL ret) rm (va_Pc (.ref b :: As) (fun U => WS G M U ∧ Z)) Qc rm.cells rm.slots (fun q => bs G ≤ q)) (hz : Z) (hL : LKV own idx C y bytes maxL ret n) (hr : ∃ cellB : Cell, H[b]? = some cellB ∧ cellB.vm.isStatics = false ∧ s.vm.findClass C = some cellB.cls)
    (hn : As.length = n) (hsize : ls.size = nL) (hstack : st0 = As.reverse ++ .ref b :: rest) (hR : rm.frames + 1 ≤ R.frames ∧ 8 + (maxL + 11) + rm.locals ≤ R.locals) (hw : (rest.map fun v => v.category).sum ≤ 8) (hf : cells + rm.cells ≤ R.cells ∧ slots + rm.slots ≤ R.slots) (hdg : decode cc pc = .ok (.invokevirtual idx, 3)) :
    va_Run p l e R s m args below meth c H locs cells slots rm.cells rm.slots (F0 m pc ls st0) rest (Qc (Value.ref b :: As).toArray) (fun q => bs G ≤ q) := by
  obtain ⟨l1, l2, l3, l4, l5, l6, l7, l8⟩ := hL
  have hts := S.2.2.2.2
  refine va_runV S hM ⟨callB_of n hts (m_good l5) rfl rfl rfl (hts _ l4) (hts _ l1) ⟨l6, l7, l8⟩ hR, hts _ l2, hts _ l3⟩ ⟨m_blind, hr, fun U hU hWm => ⟨rfl, ⟨hK.warm hWm, by rw [hU]; exact hbs, by rw [hU]; exact hW⟩, hz⟩⟩ rfl hn hsize hstack (lv_room hw) hdg hf
theorem m_rS {y : MethodName} {bytes : ByteArray} {maxL n idx : Nat} {ret : Option FieldType} {rm : Room} {As : List Value} {Z : Prop} {Qc : Array Value → State → Outcome → State → Prop} {st0 : List Value}
    (S : CallFix p m c cc nL s args lw_G own) (hK : KX G s) (hW : WPm G M H) (hbs : bs G ≤ H.size) (hM : Met l y (cwd y bytes maxL ret) rm (va_Pc As (fun U => WS G M U ∧ Z)) Qc rm.cells rm.slots (fun q => bs G ≤ q)) (hz : Z) (hL : LKS own idx y bytes maxL ret n)
    (hn : As.length = n) (hsize : ls.size = nL) (hstack : st0 = As.reverse ++ rest) (hR : rm.frames + 1 ≤ R.frames ∧ 8 + (maxL + 11) + rm.locals ≤ R.locals) (hw : (rest.map fun v => v.category).sum ≤ 8) (hf : cells + rm.cells ≤ R.cells ∧ slots + rm.slots ≤ R.slots) (hdg : decode cc pc = .ok (.invokestatic idx, 3)) :
    va_Run p l e R s m args below meth c H locs cells slots rm.cells rm.slots (F0 m pc ls st0) rest (Qc As.toArray) (fun q => bs G ≤ q) := by
  obtain ⟨l1, l2, l4, l5, l6, l7, l8⟩ := hL
  have hts := S.2.2.2.2
  refine va_runS S hM ⟨callB_of n hts (m_good l5) rfl rfl rfl (hts _ l4) (hts _ l1) ⟨l6, l7, l8⟩ hR, hts _ l2⟩ ⟨m_blind, fun U hU hWm => ⟨rfl, ⟨hK.warm hWm, by rw [hU]; exact hbs, by rw [hU]; exact hW⟩, hz⟩⟩ rfl hn hsize hstack (lv_room hw) hdg hf
theorem m_rN {host : String} {y : MethodName} {bytes : ByteArray} {maxL n idx : Nat} {ret : Option FieldType} {rm : Room} {As : List Value} {Z : Prop} {Qc : Array Value → State → Outcome → State → Prop} {st0 : List Value}
    (S : CallFix p m c cc nL s args lw_G own) (hK : KX G s) (hW : WPm G M H) (hbs : bs G ≤ H.size) (hM : Met l y (cwd y bytes maxL ret) rm (va_Pc As (fun U => WS G M U ∧ Z)) Qc rm.cells rm.slots (fun q => bs G ≤ q)) (hz : Z) (hL : LKN own idx host y bytes maxL ret n)
    (hn : As.length = n) (hsize : ls.size = nL) (hstack : st0 = As.reverse ++ rest) (hR : rm.frames + 1 ≤ R.frames ∧ 8 + (maxL + 11) + rm.locals ≤ R.locals) (hw : (rest.map fun v => v.category).sum ≤ 8) (hf : cells + rm.cells ≤ R.cells ∧ slots + rm.slots ≤ R.slots) (hdg : decode cc pc = .ok (.invokestatic idx, 3)) :
    va_Run p l e R s m args below meth c H locs cells slots rm.cells rm.slots (F0 m pc ls st0) rest (Qc As.toArray) (fun q => bs G ≤ q) := by
  obtain ⟨l1, l2, l4, l5, l6, l7, l8⟩ := hL
  have hts := S.2.2.2.2
  refine va_runSN S hM ⟨va_cnB n hts (m_good l5) rfl rfl rfl (hK.2.2.2.2.2.2.1 _ _ _ _ l1) (hts _ l4) ⟨l6, l7, l8⟩ hR, hts _ l2, trivial⟩ ⟨m_blind, fun U hU hWm => ⟨rfl, ⟨hK.warm hWm, by rw [hU]; exact hbs, by rw [hU]; exact hW⟩, hz⟩⟩ rfl hn hsize hstack (lv_room hw) hdg hf
/-- behind the call -/
theorem m_ci {P : Int32 → Mem → Prop} {st0 : List Value} {a : Array Value} {mc ms : Nat} (hr : va_Run p l e R s m args below meth c H locs cells slots mc ms (F0 m pc ls st0) rest (va_Qi P (WS G) (fun q => bs G ≤ q) a) (fun q => bs G ≤ q)) (hS : va_S (fun q => bs G ≤ q) s.heap H locs)
    (kk : ∀ (r : Int32) (M1 : Mem) (H1 : Heap) (locs1 : List Loc), P r M1 → WPm G M1 H1 → va_S (fun q => bs G ≤ q) s.heap H1 locs1 → W p l e R s m args below meth c H1 locs1 (cells + mc) (slots + ms) Q (F0 m (pc + 3) ls (.int r :: rest))) : W p l e R s m args below meth c H locs cells slots Q (F0 m pc ls st0) :=
  va_calli hr hS (fun _ _ h => h) (fun _ h => h) (fun r u t H1 locs1 ht _ hp hB _ _ hS1 => kk r u H1 locs1 hp (by rw [← ht]; exact hB.2.2) hS1)
theorem m_cl {P : Int64 → Mem → Prop} {st0 : List Value} {a : Array Value} {mc ms : Nat} (hr : va_Run p l e R s m args below meth c H locs cells slots mc ms (F0 m pc ls st0) rest (va_Ql P (WS G) (fun q => bs G ≤ q) a) (fun q => bs G ≤ q)) (hS : va_S (fun q => bs G ≤ q) s.heap H locs)
    (kk : ∀ (r : Int64) (M1 : Mem) (H1 : Heap) (locs1 : List Loc), P r M1 → WPm G M1 H1 → va_S (fun q => bs G ≤ q) s.heap H1 locs1 → W p l e R s m args below meth c H1 locs1 (cells + mc) (slots + ms) Q (F0 m (pc + 3) ls (.long r :: rest))) : W p l e R s m args below meth c H locs cells slots Q (F0 m pc ls st0) :=
  va_calll hr hS (fun _ _ h => h) (fun _ h => h) (fun r u t H1 locs1 ht _ hp hB _ _ hS1 => kk r u H1 locs1 hp (by rw [← ht]; exact hB.2.2) hS1)
theorem m_cv {P : Mem → Prop} {st0 : List Value} {a : Array Value} {mc ms : Nat} (hr : va_Run p l e R s m args below meth c H locs cells slots mc ms (F0 m pc ls st0) rest (va_Qv P (WS G) (fun q => bs G ≤ q) a) (fun q => bs G ≤ q)) (hS : va_S (fun q => bs G ≤ q) s.heap H locs)
    (kk : ∀ (M1 : Mem) (H1 : Heap) (locs1 : List Loc), P M1 → WPm G M1 H1 → va_S (fun q => bs G ≤ q) s.heap H1 locs1 → W p l e R s m args below meth c H1 locs1 (cells + mc) (slots + ms) Q (F0 m (pc + 3) ls rest)) : W p l e R s m args below meth c H locs cells slots Q (F0 m pc ls st0) :=
  va_callv hr hS (fun _ _ h => h) (fun _ h => h) (fun u t H1 locs1 ht _ hp hB _ _ hS1 => kk u H1 locs1 hp (by rw [← ht]; exact hB.2.2) hS1)
theorem m_recv (hK : va_K (gD G) vwCl (tysG G) s) (hW : WPm G M H) {kc i ci : Nat} {q : vw_C} (hi : i < cntK kc) (hE : ∀ w i r q, ∃ fs, Esh G w kc i r q = .inr (ci, fs)) (hc : vwCl[ci]? = some q) : ∃ cellB : Cell, H[ad G kc i]? = some cellB ∧ cellB.vm.isStatics = false ∧ s.vm.findClass q.1 = some cellB.cls := by
  have h1 := (hW.1 kc i hi).2
  obtain ⟨fs, e1⟩ := hE M.2.2 i (M.1 kc i) (M.2.1 kc i)
  rw [e1] at h1
  have hP : va_P (gD G) vwCl [(ad G kc i, .inr (ci, fs))] H := by
    intro k q hk
    match k, hk with
    | 0, hk => cases hk; exact h1
    | k + 1, hk => simp at hk
  exact va_recv hK hP hc (q0 := 0) rfl
/-- returns -/
theorem m_iret {P : Int32 → Mem → Prop} {av : Array Value} {x : Int32} {ty : FieldType} (S : CallFix p m c cc nL s av lw_G own) (hret : meth.sig.returnType = some ty) (hlocks : meth.locks = false) (hK : KX G s) (hW : WPm G M H) (hbs : bs G ≤ s.heap.size) (hS : va_S (fun q => bs G ≤ q) s.heap H locs) (hn : narrow ty (.int x) = .int x) (hp : P x M) (hdg : decode cc pc = .ok (.ireturn, 1)) :
    W p l e R s m av below meth c H locs cells slots (MQ below (va_Qi P (WS G) (fun q => bs G ≤ q)) av s cells slots (fun q => bs G ≤ q)) (F0 m pc ls [.int x]) :=
  W.zret S.1 S.2.1 hret hn (fun t ht hWm => ⟨⟨x, M, rfl, hp, hK.warm hWm, by rw [ht]; exact Nat.le_trans hbs hS.1, by rw [ht]; exact hW⟩, hS.F ht⟩) hS.2.2 hdg
theorem m_vret {P : Mem → Prop} {av : Array Value} (S : CallFix p m c cc nL s av lw_G own) (hret : meth.sig.returnType = none) (hlocks : meth.locks = false) (hK : KX G s) (hW : WPm G M H) (hbs : bs G ≤ s.heap.size) (hS : va_S (fun q => bs G ≤ q) s.heap H locs) (hp : P M) (hdg : decode cc pc = .ok (.return_, 1)) :
    W p l e R s m av below meth c H locs cells slots (MQ below (va_Qv P (WS G) (fun q => bs G ≤ q)) av s cells slots (fun q => bs G ≤ q)) (F0 m pc ls []) :=
  W.vret S.1 S.2.1 hret (fun t ht hWm => ⟨⟨M, rfl, hp, hK.warm hWm, by rw [ht]; exact Nat.le_trans hbs hS.1, by rw [ht]; exact hW⟩, hS.F ht⟩) hS.2.2 hdg
theorem m_szH (hbs : bs G ≤ s.heap.size) (hS : va_S (fun q => bs G ≤ q) s.heap H locs) : bs G ≤ H.size := Nat.le_trans hbs hS.1
end MR
/-! loops -/
def Lz {α : Type} (B : (α → Prop) → α → Prop) : Nat → α → Prop
  | 0, _ => False
  | n + 1, a => B (Lz B n) a
theorem Lz_rule {α : Type} {B : (α → Prop) → α → Prop} (I : α → Prop) (μ : α → Nat) (hs : ∀ (K : α → Prop) (a : α), I a → (∀ a', I a' → μ a' < μ a → K a') → B K a) {a : α} (h : I a) : ∃ n, Lz B n a := by
  have key : ∀ (n : Nat) (a : α), I a → μ a < n → Lz B n a := by
    intro n
    induction n with
    | zero => intro a _ h; exact absurd h (Nat.not_lt_zero _)
    | succ n ih =>
      intro a ha hn
      exact hs _ a ha (fun a' h1 h2 => ih a' h1 (by omega))
  exact ⟨μ a + 1, key _ a h (Nat.lt_succ_self _)⟩
/-- the walk of a loop: what holds at its head for every number of turns left -/
theorem Lz_walk {α : Type} {B : (α → Prop) → α → Prop} {C : α → Prop} (hs : ∀ (K : α → Prop), (∀ a, K a → C a) → ∀ a, B K a → C a) : ∀ (n : Nat) (a : α), Lz B n a → C a := by
  intro n
  induction n with
  | zero => intro a h; exact h.elim
  | succ n ih => intro a h; exact hs _ (fun a h => ih a h) a h
/-- 0 or 1 -/
def isB (x : Int32) : Prop := x = 0 ∨ x = 1
theorem isB_n {x : Int32} (h : isB x) : narrow .boolean (.int x) = .int x := by
  rcases h with rfl | rfl <;> rfl
theorem isB_f {x : Int32} (h : isB x) : fits .boolean (.int x) = true := by
  rcases h with rfl | rfl <;> rfl
theorem isB_0 : isB 0 := Or.inl rfl
theorem isB_1 : isB 1 := Or.inr rfl
section MR2
variable {p : Program} {l : Launch} {e : Env} {R : Room} {s : State} {m : MethodId} {args : Array Value} {below : List Frame} {meth : Method} {c : Code} {H : Heap} {locs : List Loc} {cells slots : Nat} {Q : State → Prop}
variable {cc : ByteArray} {pc : Nat} {ls : Array Slot} {rest : List Value} {G : Gn} {M : Mem} {own : String} {nL : Nat}
theorem m_inl {x : Int32} {k n : Nat} (hx : x.toNatClampNeg = k ∧ ¬ x < 0) (hk : k < n) : vp_in x n := fun q => by
  rcases q with q | q
  · exact hx.2 q
  · rw [hx.1] at q
    omega
theorem m_aldk (S : CallFix p m c cc nL s args lw_G own) (hK : va_K (gD G) vwCl (tysG G) s) {kc i n k : Nat} (hE : AI G kc n) (hW : WPm G M H) (hi : i < cntK kc) {x : Int32} (hx : x.toNatClampNeg = k ∧ ¬ x < 0) (hk : k < n) (hdg : decode cc pc = .ok (.iaload, 1))
    (kk : W p l e R s m args below meth c H locs cells slots Q (F0 m (pc + 1) ls (.int (M.1 kc i k) :: rest))) : W p l e R s m args below meth c H locs cells slots Q (F0 m pc ls (.int x :: .ref (ad G kc i) :: rest)) :=
  m_ald S hK hE hW hi (m_inl hx hk) hdg (by rw [hx.1]; exact kk)
theorem m_zaldk (S : CallFix p m c cc nL s args lw_G own) (hK : va_K (gD G) vwCl (tysG G) s) {kc i n k : Nat} (hE : AZ G kc n) (hW : WPm G M H) (hi : i < cntK kc) {x : Int32} (hx : x.toNatClampNeg = k ∧ ¬ x < 0) (hk : k < n) (hdg : decode cc pc = .ok (.baload, 1))
    (kk : W p l e R s m args below meth c H locs cells slots Q (F0 m (pc + 1) ls (.int (M.1 kc i k) :: rest))) : W p l e R s m args below meth c H locs cells slots Q (F0 m pc ls (.int x :: .ref (ad G kc i) :: rest)) :=
  m_zald S hK hE hW hi (m_inl hx hk) hdg (by rw [hx.1]; exact kk)
theorem m_jaldk (S : CallFix p m c cc nL s args lw_G own) (hK : va_K (gD G) vwCl (tysG G) s) {kc i n k : Nat} (hE : AJ G kc n) (hW : WPm G M H) (hi : i < cntK kc) {x : Int32} (hx : x.toNatClampNeg = k ∧ ¬ x < 0) (hk : k < n) (hdg : decode cc pc = .ok (.laload, 1))
    (kk : W p l e R s m args below meth c H locs cells slots Q (F0 m (pc + 1) ls (.long (M.2.1 kc i k) :: rest))) : W p l e R s m args below meth c H locs cells slots Q (F0 m pc ls (.int x :: .ref (ad G kc i) :: rest)) :=
  m_jald S hK hE hW hi (m_inl hx hk) hdg (by rw [hx.1]; exact kk)
theorem m_astk (S : CallFix p m c cc nL s args lw_G own) (hK : va_K (gD G) vwCl (tysG G) s) {kc i n k : Nat} (hE : AI G kc n) (hW : WPm G M H) (hS0 : va_S (fun q => bs G ≤ q) s.heap H locs) (hi : i < cntK kc) {j x : Int32} (hx : j.toNatClampNeg = k ∧ ¬ j < 0) (hk : k < n) (hdg : decode cc pc = .ok (.iastore, 1))
    (kk : ∀ (M1 : Mem), M1 = wI M kc i k x → ∀ (H1 : Heap) (locs1 : List Loc), WPm G M1 H1 → va_S (fun q => bs G ≤ q) s.heap H1 locs1 → W p l e R s m args below meth c H1 locs1 cells slots Q (F0 m (pc + 1) ls rest)) : W p l e R s m args below meth c H locs cells slots Q (F0 m pc ls (.int x :: .int j :: .ref (ad G kc i) :: rest)) :=
  m_ast S hK hE hW hS0 hi (m_inl hx hk) hdg (by rw [hx.1]; exact kk)
theorem m_zastk (S : CallFix p m c cc nL s args lw_G own) (hK : va_K (gD G) vwCl (tysG G) s) {kc i n k : Nat} (hE : AZ G kc n) (hW : WPm G M H) (hS0 : va_S (fun q => bs G ≤ q) s.heap H locs) (hi : i < cntK kc) {j x : Int32} (hx : j.toNatClampNeg = k ∧ ¬ j < 0) (hk : k < n) (hdg : decode cc pc = .ok (.bastore, 1))
    (kk : ∀ (M1 : Mem), M1 = wI M kc i k (vp_nar .boolean x) → ∀ (H1 : Heap) (locs1 : List Loc), WPm G M1 H1 → va_S (fun q => bs G ≤ q) s.heap H1 locs1 → W p l e R s m args below meth c H1 locs1 cells slots Q (F0 m (pc + 1) ls rest)) : W p l e R s m args below meth c H locs cells slots Q (F0 m pc ls (.int x :: .int j :: .ref (ad G kc i) :: rest)) :=
  m_zast S hK hE hW hS0 hi (m_inl hx hk) hdg (by rw [hx.1]; exact kk)
theorem m_jastk (S : CallFix p m c cc nL s args lw_G own) (hK : va_K (gD G) vwCl (tysG G) s) {kc i n k : Nat} (hE : AJ G kc n) (hW : WPm G M H) (hS0 : va_S (fun q => bs G ≤ q) s.heap H locs) (hi : i < cntK kc) {j : Int32} {x : Int64} (hx : j.toNatClampNeg = k ∧ ¬ j < 0) (hk : k < n) (hdg : decode cc pc = .ok (.lastore, 1))
    (kk : ∀ (M1 : Mem), M1 = wJ M kc i k x → ∀ (H1 : Heap) (locs1 : List Loc), WPm G M1 H1 → va_S (fun q => bs G ≤ q) s.heap H1 locs1 → W p l e R s m args below meth c H1 locs1 cells slots Q (F0 m (pc + 1) ls rest)) : W p l e R s m args below meth c H locs cells slots Q (F0 m pc ls (.long x :: .int j :: .ref (ad G kc i) :: rest)) :=
  m_jast S hK hE hW hS0 hi (m_inl hx hk) hdg (by rw [hx.1]; exact kk)
theorem m_ci0 {P : Int32 → Mem → Prop} {st0 : List Value} {a : Array Value} {mc ms : Nat} (hr : va_Run p l e R s m args below meth c H locs cells slots mc ms (F0 m pc ls st0) rest (va_Qi P (WS G) (fun q => bs G ≤ q) a) (fun q => bs G ≤ q)) (hS : va_S (fun q => bs G ≤ q) s.heap H locs) (h1 : mc = 0) (h2 : ms = 0)
    (kk : ∀ (r : Int32) (M1 : Mem) (H1 : Heap) (locs1 : List Loc), P r M1 → WPm G M1 H1 → va_S (fun q => bs G ≤ q) s.heap H1 locs1 → W p l e R s m args below meth c H1 locs1 cells slots Q (F0 m (pc + 3) ls (.int r :: rest))) : W p l e R s m args below meth c H locs cells slots Q (F0 m pc ls st0) := by
  subst h1; subst h2
  exact m_ci hr hS kk
theorem m_cl0 {P : Int64 → Mem → Prop} {st0 : List Value} {a : Array Value} {mc ms : Nat} (hr : va_Run p l e R s m args below meth c H locs cells slots mc ms (F0 m pc ls st0) rest (va_Ql P (WS G) (fun q => bs G ≤ q) a) (fun q => bs G ≤ q)) (hS : va_S (fun q => bs G ≤ q) s.heap H locs) (h1 : mc = 0) (h2 : ms = 0)
    (kk : ∀ (r : Int64) (M1 : Mem) (H1 : Heap) (locs1 : List Loc), P r M1 → WPm G M1 H1 → va_S (fun q => bs G ≤ q) s.heap H1 locs1 → W p l e R s m args below meth c H1 locs1 cells slots Q (F0 m (pc + 3) ls (.long r :: rest))) : W p l e R s m args below meth c H locs cells slots Q (F0 m pc ls st0) := by
  subst h1; subst h2
  exact m_cl hr hS kk
theorem m_cv0 {P : Mem → Prop} {st0 : List Value} {a : Array Value} {mc ms : Nat} (hr : va_Run p l e R s m args below meth c H locs cells slots mc ms (F0 m pc ls st0) rest (va_Qv P (WS G) (fun q => bs G ≤ q) a) (fun q => bs G ≤ q)) (hS : va_S (fun q => bs G ≤ q) s.heap H locs) (h1 : mc = 0) (h2 : ms = 0)
    (kk : ∀ (M1 : Mem) (H1 : Heap) (locs1 : List Loc), P M1 → WPm G M1 H1 → va_S (fun q => bs G ≤ q) s.heap H1 locs1 → W p l e R s m args below meth c H1 locs1 cells slots Q (F0 m (pc + 3) ls rest)) : W p l e R s m args below meth c H locs cells slots Q (F0 m pc ls st0) := by
  subst h1; subst h2
  exact m_cv hr hS kk
theorem m_cq0 {P : Option Nat → Mem → Prop} {ka : Nat → Nat} {st0 : List Value} {a : Array Value} {mc ms : Nat} (hr : va_Run p l e R s m args below meth c H locs cells slots mc ms (F0 m pc ls st0) rest (va_Qe ka P (WS G) (fun q => bs G ≤ q) a) (fun q => bs G ≤ q)) (hS : va_S (fun q => bs G ≤ q) s.heap H locs) (h1 : mc = 0) (h2 : ms = 0)
    (kn : ∀ (M1 : Mem) (H1 : Heap) (locs1 : List Loc), P none M1 → WPm G M1 H1 → va_S (fun q => bs G ≤ q) s.heap H1 locs1 → W p l e R s m args below meth c H1 locs1 cells slots Q (F0 m (pc + 3) ls (.null :: rest)))
    (kk : ∀ (d : Nat) (M1 : Mem) (H1 : Heap) (locs1 : List Loc), P (some d) M1 → WPm G M1 H1 → va_S (fun q => bs G ≤ q) s.heap H1 locs1 → W p l e R s m args below meth c H1 locs1 cells slots Q (F0 m (pc + 3) ls (.ref (ka d) :: rest))) : W p l e R s m args below meth c H locs cells slots Q (F0 m pc ls st0) := by
  subst h1; subst h2
  refine va_calle hr hS (fun _ _ h => h) (fun _ h => h) (fun r u t H1 locs1 ht _ hp hB _ _ hS1 => ?_)
  cases r with
  | none => exact kn u H1 locs1 hp (by rw [← ht]; exact hB.2.2) hS1
  | some d => exact kk d u H1 locs1 hp (by rw [← ht]; exact hB.2.2) hS1
theorem m_lret {P : Int64 → Mem → Prop} {av : Array Value} {x : Int64} (S : CallFix p m c cc nL s av lw_G own) (hret : meth.sig.returnType = some .long) (hlocks : meth.locks = false) (hK : KX G s) (hW : WPm G M H) (hbs : bs G ≤ s.heap.size) (hS : va_S (fun q => bs G ≤ q) s.heap H locs) (hp : P x M) (hdg : decode cc pc = .ok (.lreturn, 1)) :
    W p l e R s m av below meth c H locs cells slots (MQ below (va_Ql P (WS G) (fun q => bs G ≤ q)) av s cells slots (fun q => bs G ≤ q)) (F0 m pc ls [.long x]) :=
  W.lret S.1 S.2.1 hret (fun t ht hWm => ⟨⟨x, M, rfl, hp, hK.warm hWm, by rw [ht]; exact Nat.le_trans hbs hS.1, by rw [ht]; exact hW⟩, hS.F ht⟩) hS.2.2 hdg
theorem m_qretN {P : Option Nat → Mem → Prop} {ka : Nat → Nat} {av : Array Value} {rn : String} (S : CallFix p m c cc nL s av lw_G own) (hret : meth.sig.returnType = some (.object rn)) (hlocks : meth.locks = false) (hK : KX G s) (hW : WPm G M H) (hbs : bs G ≤ s.heap.size) (hS : va_S (fun q => bs G ≤ q) s.heap H locs) (hp : P none M) (hdg : decode cc pc = .ok (.areturn, 1)) :
    W p l e R s m av below meth c H locs cells slots (MQ below (va_Qe ka P (WS G) (fun q => bs G ≤ q)) av s cells slots (fun q => bs G ≤ q)) (F0 m pc ls [.null]) :=
  W.aret S.1 S.2.1 hret (Or.inl ⟨_, rfl⟩) (Or.inl rfl) (fun t ht hWm => ⟨⟨none, M, rfl, hp, hK.warm hWm, by rw [ht]; exact Nat.le_trans hbs hS.1, by rw [ht]; exact hW⟩, hS.F ht⟩) hS.2.2 hdg
theorem m_qretS {P : Option Nat → Mem → Prop} {ka : Nat → Nat} {d : Nat} {av : Array Value} {rn : String} (S : CallFix p m c cc nL s av lw_G own) (hret : meth.sig.returnType = some (.object rn)) (hlocks : meth.locks = false) (hK : KX G s) (hW : WPm G M H) (hbs : bs G ≤ s.heap.size) (hS : va_S (fun q => bs G ≤ q) s.heap H locs) (hp : P (some d) M) (hdg : decode cc pc = .ok (.areturn, 1)) :
    W p l e R s m av below meth c H locs cells slots (MQ below (va_Qe ka P (WS G) (fun q => bs G ≤ q)) av s cells slots (fun q => bs G ≤ q)) (F0 m pc ls [.ref (ka d)]) :=
  W.aret S.1 S.2.1 hret (Or.inl ⟨_, rfl⟩) (Or.inr ⟨_, rfl⟩) (fun t ht hWm => ⟨⟨some d, M, rfl, hp, hK.warm hWm, by rw [ht]; exact Nat.le_trans hbs hS.1, by rw [ht]; exact hW⟩, hS.F ht⟩) hS.2.2 hdg
theorem m_lt {x : Int32} {n : Nat} (h : vp_in x n) : x.toNatClampNeg < n := Nat.not_le.mp fun q => h (Or.inr q)
/-- another text of the reader -/
theorem WPm.text (hW : WPm G M H) {H1 : Heap} {v : Nat} (he : va_at (gD G) vwCl (ad G 8 0, Esh G (wO M 4 0 0 v).2.2 8 0 (M.1 8 0) (M.2.1 8 0)) H1) (oq : ∀ a, a ≠ ad G 8 0 → H1[a]? = H[a]?) : WPm G (wO M 4 0 0 v) H1 := by
  have hi : (0 : Nat) < cntK 8 := Nat.le_of_ble_eq_true rfl
  obtain ⟨h1, h2, h3, h5⟩ := hW
  have ee : ∀ c i, c ≠ 4 → (wO M 4 0 0 v).2.2 c i = M.2.2 c i := fun c i h => uR_nc (f := M.2.2) (c := 4) (i := 0) (g := va_up (M.2.2 4 0) 0 v) h
  refine ⟨fun c' i' hi' => ?_, h2, fun a ha => ?_, fun z hz => (oq z (fun e => by have := (h1 8 0 hi).1; omega)).trans (h5.1 z hz), fun w j hw hj => by rw [ee 1 w (by decide), ee 2 0 (by decide)]; exact h5.2 w j hw hj⟩
  · obtain ⟨b1, b2⟩ := h1 c' i' hi'
    refine ⟨b1, ?_⟩
    by_cases hq : c' = 8 ∧ i' = 0
    · obtain ⟨rfl, rfl⟩ := hq
      exact he
    · have hE : Esh G (wO M 4 0 0 v).2.2 c' i' (M.1 c' i') (M.2.1 c' i') = Esh G M.2.2 c' i' (M.1 c' i') (M.2.1 c' i') := by
        unfold Esh
        split <;> first | rfl | (exfalso; have hz : i' < 1 := hi'; exact hq ⟨rfl, by omega⟩) | (have : tlK (wO M 4 0 0 v).2.2 i' = tlK M.2.2 i' := (by funext z; unfold tlK; rw [ee 1 i' (by decide), ee 0 0 (by decide)]); rw [this])
      have b3 := b2.kept (H1 := H1) (oq _ (fun z => hq (h2 c' i' 8 0 hi' hi z)))
      show va_at _ _ (_, Esh G (wO M 4 0 0 v).2.2 c' i' (M.1 c' i') (M.2.1 c' i')) H1
      rw [hE]
      exact b3
  · rw [ee 2 0 (by decide)] at ha
    obtain ⟨b1, b2, b3, b4⟩ := h3 a ha
    rw [ee 0 0 (by decide), ee 0 1 (by decide)]
    refine ⟨b1, ?_, ?_, b4⟩
    · have b2' := b2.kept (H1 := H1) (oq _ (Ne.symm (b4 8 0 hi).1))
      unfold actE at b2' ⊢
      rw [ee 0 1 (by decide)]
      exact b2'
    · have b3' := b3.kept (H1 := H1) (oq _ (Ne.symm (b4 8 0 hi).2))
      unfold astE at b3' ⊢
      rw [ee 3 0 (by decide)]
      exact b3'
theorem m_puttext (S : CallFix p m c cc nL s args lw_G own) (hK : va_K (gD G) vwCl (tysG G) s) {idx : Nat} (hF : FLK own idx 2 3 RX2 TX2 7) (hW : WPm G M H) (hS0 : va_S (fun q => bs G ≤ q) s.heap H locs) {d : Nat} (hd8 : d < 8) (hdg : decode cc pc = .ok (.putfield idx, 3))
    (kk : ∀ (M1 : Mem), M1 = wO M 4 0 0 (d + 1) → ∀ (H1 : Heap) (locs1 : List Loc), WPm G M1 H1 → va_S (fun q => bs G ≤ q) s.heap H1 locs1 → W p l e R s m args below meth c H1 locs1 cells slots Q (F0 m (pc + 3) ls rest)) : W p l e R s m args below meth c H locs cells slots Q (F0 m pc ls (.ref (ad G 39 d) :: .ref (ad G 8 0) :: rest)) := by
  have hi8 : (0 : Nat) < cntK 8 := Nat.le_of_ble_eq_true rfl
  obtain ⟨hba, h1⟩ := hW.1 8 0 hi8
  have e1 : Esh G M.2.2 8 0 (M.1 8 0) (M.2.1 8 0) = .inr (2, [.ref (ad G 40 0), .int (M.1 8 0 1), .int (M.1 8 0 2), .ref (txK G (M.2.2 4 0 0)), .int (M.1 8 0 4), .int (M.1 8 0 5), .int (M.1 8 0 6)]) := rfl
  rw [e1] at h1
  obtain ⟨hx, hb, hml, hown, hts⟩ := S
  obtain ⟨hc, hk, hlk, hin⟩ := hF
  have hlink := hts _ hlk
  have hap := va_apart (own := own) hts hin tyX2 tyX2_ok nmX2 hK hc
  obtain ⟨r, h1, cell, q1, q2, q3, q4⟩ := h1
  have hr : r = (RX2, TX2, 7) := Option.some.inj (h1.symm.trans hc)
  subst hr
  obtain ⟨hS, hfc, kC, hkC, hkind⟩ := hK.1 2 _ hc
  obtain ⟨cf, kf, fi, f, hi', hsl⟩ := hS 3 hk
  have hlay := hts _ (hin _ (u_in_lay hk))
  unfold u_lay at hlay
  rw [if_neg (by decide)] at hlay
  have hst := (u_facts hfc hkC (u_lays hts hin hk) hi').1
  have h6 := u_store (v := .ref (ad G 39 d)) hfc hkC hkind hlay hi' (tyX2_ok 3 hk) rfl rfl
  refine W.putK hx hb (f := f) ⟨hown, hlink, ⟨_, _, _, hi'⟩, hst⟩ (by rw [q2]; exact h6) q1 q3 (by rw [hsl]; exact k2_hasslot (q4 3 hk)) rfl rfl hdg fun H' e1' e2' e3' => ?_
  rw [hsl] at e1' ⊢
  refine kk _ rfl H' _ (hW.text ?_ e3') (hS0.put e2' e3' hba)
  exact ⟨_, hc, t_OB.to (V := updV (vp_V _) 3 (.ref (ad G 39 d))) ⟨_, e1', q2, q3, t_set q4 hap hk (.ref (ad G 39 d))⟩ (fun j _ => vp_updV_set (k := 3) (Nat.le_of_ble_eq_true rfl) (.ref (ad G 39 d)) j)⟩
/-- a shelf out of the row of shelves -/
theorem m_aaldS (S : CallFix p m c cc nL s args lw_G own) (hK : va_K (gD G) vwCl (tysG G) s) (hW : WPm G M H) {x : Int32} (hin : vp_in x 8) (hdg : decode cc pc = .ok (.aaload, 1))
    (kk : ∀ d : Nat, d = x.toNatClampNeg → d < 8 → W p l e R s m args below meth c H locs cells slots Q (F0 m (pc + 1) ls (.ref (ad G 7 d) :: rest))) : W p l e R s m args below meth c H locs cells slots Q (F0 m pc ls (.int x :: .ref (ad G 11 0) :: rest)) := by
  have hlt : x.toNatClampNeg < 8 := m_lt hin
  exact W.aald (v := .ref (ad G 7 x.toNatClampNeg)) (ty := .object "MilkDesk$Shelf") S.1 S.2.1 (m_cell hW (kc := 11) (i := 0) (Nat.le_of_ble_eq_true rfl) rfl) (m_kS hK 8 (fun j => va_rf (some (ad G 7 j)))) rfl (fun q => by cases q) (by show ¬ (x < 0 ∨ (arrV _ _ _).slots.size ≤ _); rw [arrV_size]; exact hin) (by show (arrV _ _ _).slots[_]? = _; rw [arrV_read _ _ hlt]; rfl) rfl rfl hdg (kk _ rfl hlt)
theorem m_alenS (S : CallFix p m c cc nL s args lw_G own) (hK : va_K (gD G) vwCl (tysG G) s) (hW : WPm G M H) {v : Int32} (hv : Int32.ofNat 8 = v) (hdg : decode cc pc = .ok (.arraylength, 1))
    (kk : W p l e R s m args below meth c H locs cells slots Q (F0 m (pc + 1) ls (.int v :: rest))) : W p l e R s m args below meth c H locs cells slots Q (F0 m pc ls (.ref (ad G 11 0) :: rest)) := by
  subst hv
  exact W.alen (n := Int32.ofNat 8) S.1 S.2.1 (m_cell hW (kc := 11) (i := 0) (Nat.le_of_ble_eq_true rfl) rfl) (m_kS hK 8 (fun j => va_rf (some (ad G 7 j)))) (by show (vp_cell _ _).slots.size.toInt32 = _; rw [vp_cell_q, arrV_size]) rfl rfl hdg kk
/-- an act out of the book -/
theorem m_aaldT (S : CallFix p m c cc nL s args lw_G own) (hK : va_K (gD G) vwCl (tysG G) s) (hW : WPm G M H) {w : Nat} (hi : w < 3) {x : Int32} (hin : vp_in x 16) (hdg : decode cc pc = .ok (.aaload, 1))
    (kn : M.2.2 1 w x.toNatClampNeg = 0 → W p l e R s m args below meth c H locs cells slots Q (F0 m (pc + 1) ls (.null :: rest)))
    (kk : ∀ a : Nat, M.2.2 1 w x.toNatClampNeg = a + 1 → W p l e R s m args below meth c H locs cells slots Q (F0 m (pc + 1) ls (.ref (M.2.2 0 0 a) :: rest))) : W p l e R s m args below meth c H locs cells slots Q (F0 m pc ls (.int x :: .ref (ad G 34 w) :: rest)) := by
  have hlt : x.toNatClampNeg < 16 := m_lt hin
  refine W.aald (v := va_rf (tlK M.2.2 w x.toNatClampNeg)) (ty := .object "MilkDesk$Act") S.1 S.2.1 (m_cell hW (kc := 34) (i := w) hi rfl) (m_kA hK 16 (fun j => va_rf (tlK M.2.2 w j))) rfl (fun q => by cases q) (by show ¬ (x < 0 ∨ (arrV _ _ _).slots.size ≤ _); rw [arrV_size]; exact hin) (by show (arrV _ _ _).slots[_]? = _; rw [arrV_read _ _ hlt]) rfl rfl hdg ?_
  unfold tlK
  split
  · next h => exact kn h
  · next a h => exact kk a h
theorem m_sz {kc i : Nat} (hi : i < cntK kc) : kc < 100 := by
  rcases Nat.lt_or_ge kc 100 with z | z
  · exact z
  · rw [cntK_big z] at hi
    exact absurd hi (Nat.not_lt_zero _)
/-- another row of references in the book of world w: the told acts -/
theorem WPm.told {w : Nat} (hW : WPm G M H) (hi : w < 3) {H1 : Heap} {j v : Nat} (hv : v ≤ M.2.2 2 0 0) (he : va_at (gD G) vwCl (ad G 34 w, .inl (gA G, 16, .inr (.inr (.inr (.inr (tlK (wO M 1 w j v).2.2 w)))))) H1) (oq : ∀ a, a ≠ ad G 34 w → H1[a]? = H[a]?) : WPm G (wO M 1 w j v) H1 := by
  obtain ⟨h1, h2, h3, h5⟩ := hW
  have e0 : ∀ i, (wO M 1 w j v).2.2 0 i = M.2.2 0 i := fun i => uR_nc (f := M.2.2) (c := 1) (i := w) (c' := 0) (g := va_up (M.2.2 1 w) j v) (by decide)
  have e2 : ∀ i, (wO M 1 w j v).2.2 2 i = M.2.2 2 i := fun i => uR_nc (f := M.2.2) (c := 1) (i := w) (c' := 2) (g := va_up (M.2.2 1 w) j v) (by decide)
  have e3 : ∀ i, (wO M 1 w j v).2.2 3 i = M.2.2 3 i := fun i => uR_nc (f := M.2.2) (c := 1) (i := w) (c' := 3) (g := va_up (M.2.2 1 w) j v) (by decide)
  have e4 : ∀ i, (wO M 1 w j v).2.2 4 i = M.2.2 4 i := fun i => uR_nc (f := M.2.2) (c := 1) (i := w) (c' := 4) (g := va_up (M.2.2 1 w) j v) (by decide)
  have e1 : ∀ i, i ≠ w → (wO M 1 w j v).2.2 1 i = M.2.2 1 i := fun i h => uR_ni (f := M.2.2) (c := 1) (i := w) (g := va_up (M.2.2 1 w) j v) h
  refine ⟨fun c' i' hi' => ?_, h2, fun a ha => ?_, fun z hz => (oq z (fun e => by have := (h1 34 w hi).1; omega)).trans (h5.1 z hz), fun w' j' hw' hj' => ?_⟩
  · obtain ⟨b1, b2⟩ := h1 c' i' hi'
    refine ⟨b1, ?_⟩
    by_cases hq : c' = 34 ∧ i' = w
    · obtain ⟨rfl, rfl⟩ := hq
      exact he
    · have hE : Esh G (wO M 1 w j v).2.2 c' i' (M.1 c' i') (M.2.1 c' i') = Esh G M.2.2 c' i' (M.1 c' i') (M.2.1 c' i') := by
        unfold Esh
        split <;> first | rfl | (rw [e4]) | (have hw : i' ≠ w := fun z => hq ⟨rfl, z⟩; have : tlK (wO M 1 w j v).2.2 i' = tlK M.2.2 i' := (by funext z; unfold tlK; rw [e1 i' hw, e0]); rw [this])
      have b3 := b2.kept (H1 := H1) (oq _ (fun z => hq (h2 c' i' 34 w hi' hi z)))
      show va_at _ _ (_, Esh G (wO M 1 w j v).2.2 c' i' (M.1 c' i') (M.2.1 c' i')) H1
      rw [hE]
      exact b3
  · rw [e2] at ha
    obtain ⟨b1, b2, b3, b4⟩ := h3 a ha
    rw [e0, e0]
    refine ⟨b1, ?_, ?_, b4⟩
    · have b2' := b2.kept (H1 := H1) (oq _ (Ne.symm (b4 34 w hi).1))
      unfold actE at b2' ⊢
      rw [e0]
      exact b2'
    · have b3' := b3.kept (H1 := H1) (oq _ (Ne.symm (b4 34 w hi).2))
      unfold astE at b3' ⊢
      rw [e3]
      exact b3'
  · rw [e2]
    by_cases z : w' = w
    · subst z
      show (uR M.2.2 1 w' (va_up (M.2.2 1 w') j v)) 1 w' j' ≤ _
      rw [uR_eq]
      unfold va_up
      split
      · exact hv
      · exact h5.2 w' j' hw' hj'
    · rw [e1 w' z]
      exact h5.2 w' j' hw' hj'
theorem m_aastN (S : CallFix p m c cc nL s args lw_G own) (hK : va_K (gD G) vwCl (tysG G) s) (hW : WPm G M H) (hS0 : va_S (fun q => bs G ≤ q) s.heap H locs) {w : Nat} (hi : w < 3) {x : Int32} (hin : vp_in x 16) (hdg : decode cc pc = .ok (.aastore, 1))
    (kk : ∀ M1 : Mem, M1 = wO M 1 w x.toNatClampNeg 0 → ∀ (H1 : Heap) (locs1 : List Loc), WPm G M1 H1 → va_S (fun q => bs G ≤ q) s.heap H1 locs1 → W p l e R s m args below meth c H1 locs1 cells slots Q (F0 m (pc + 1) ls rest)) : W p l e R s m args below meth c H locs cells slots Q (F0 m pc ls (.null :: .int x :: .ref (ad G 34 w) :: rest)) := by
  refine va_WaastN (C := "MilkDesk$Act") S.1 S.2.1 (m_cell hW (kc := 34) (i := w) hi rfl) (m_kA hK 16 (fun j => va_rf (tlK M.2.2 w j))) (fun h => by cases h) (by show ¬ (x < 0 ∨ (arrV _ _ _).slots.size ≤ _); rw [arrV_size]; exact hin) rfl rfl hdg fun H1 e z oq => ?_
  refine kk _ rfl H1 _ (hW.told hi (Nat.zero_le _) ?_ oq) (hS0.put z oq (hW.1 34 w hi).1)
  show H1[ad G 34 w]? = some (vp_cell _ _)
  rw [e]
  show some ((vp_cell _ _).setSlot _ _) = _
  rw [vp_cell_q, vp_cell_q, arrV_store]
  congr 2
  funext q
  by_cases hq : q = x.toNatClampNeg
  · subst hq
    simp [updV, tlK, wO, uR, va_up, va_rf]
  · simp [updV, tlK, wO, uR, va_up, hq]
theorem m_aastA (S : CallFix p m c cc nL s args lw_G own) (hK : va_K (gD G) vwCl (tysG G) s) (hW : WPm G M H) (hS0 : va_S (fun q => bs G ≤ q) s.heap H locs) {w a : Nat} (hi : w < 3) (ha : a < M.2.2 2 0 0) {x : Int32} (hin : vp_in x 16) (hdg : decode cc pc = .ok (.aastore, 1))
    (kk : ∀ M1 : Mem, M1 = wO M 1 w x.toNatClampNeg (a + 1) → ∀ (H1 : Heap) (locs1 : List Loc), WPm G M1 H1 → va_S (fun q => bs G ≤ q) s.heap H1 locs1 → W p l e R s m args below meth c H1 locs1 cells slots Q (F0 m (pc + 1) ls rest)) : W p l e R s m args below meth c H locs cells slots Q (F0 m pc ls (.ref (M.2.2 0 0 a) :: .int x :: .ref (ad G 34 w) :: rest)) := by
  have hlt : x.toNatClampNeg < 16 := m_lt hin
  have h0 : ¬ x < 0 := fun q => hin (Or.inl q)
  obtain ⟨-, hact, -, -⟩ := hW.2.2.1 a ha
  obtain ⟨r', hr', cellV, g1, g2, g3, -⟩ := hact
  have hcls := (hK.1 0 _ rfl).2
  obtain ⟨kA, comp, k1, k2, k3, -⟩ := (hK.2 4 _ rfl).2
  have hcomp : comp = (gD G).1 0 := Option.some.inj (k3.symm.trans hcls.1)
  subst hcomp
  obtain ⟨kC, hkC, -⟩ := hcls.2
  refine W.aast S.1 S.2.1 (m_cell hW (kc := 34) (i := w) hi rfl) (fun q h => by cases h) (fun h => by cases h) k1 k2 rfl hkC ⟨h0, by show _ < (arrV _ _ _).slots.size; rw [arrV_size]; exact hlt⟩ g1 (fun q h => by rw [g3] at h; cases h) (by rw [g2]; exact hkC) (by rw [g2]; exact va_assign hcls) rfl rfl hdg fun H1 e z oq => ?_
  refine kk _ rfl H1 _ (hW.told hi (Nat.succ_le_of_lt ha) ?_ oq) (hS0.put z oq (hW.1 34 w hi).1)
  show H1[ad G 34 w]? = some (vp_cell _ _)
  rw [e]
  show some ((vp_cell _ _).setSlot _ _) = _
  rw [vp_cell_q, vp_cell_q, arrV_store]
  congr 2
  funext q
  by_cases hq : q = x.toNatClampNeg
  · subst hq
    simp [updV, tlK, wO, uR, va_up, va_rf]
  · simp [updV, tlK, wO, uR, va_up, hq]
/-- fields of an act -/
theorem m_getact (S : CallFix p m c cc nL s args lw_G own) (hK : va_K (gD G) vwCl (tysG G) s) {idx k : Nat} {C : String} {T : u_T} {N : Nat} (hF : FLK own idx 0 k C T N) (hk : k < 3) (hW : WPm G M H) {a : Nat} (ha : a < M.2.2 2 0 0) (hdg : decode cc pc = .ok (.getfield idx, 3))
    (kk : W p l e R s m args below meth c H locs cells slots Q (F0 m (pc + 3) ls (.int (M.1 1000 a k) :: rest))) : W p l e R s m args below meth c H locs cells slots Q (F0 m pc ls (.ref (M.2.2 0 0 a) :: rest)) := by
  obtain ⟨-, hact, -, -⟩ := hW.2.2.1 a ha
  refine m_get S hK hF hact ?_ hdg kk
  rcases (show k = 0 ∨ k = 1 ∨ k = 2 by omega) with rfl | rfl | rfl <;> rfl
theorem m_getactr (S : CallFix p m c cc nL s args lw_G own) (hK : va_K (gD G) vwCl (tysG G) s) {idx : Nat} {C : String} {T : u_T} {N : Nat} (hF : FLK own idx 0 3 C T N) (hW : WPm G M H) {a : Nat} (ha : a < M.2.2 2 0 0) (hdg : decode cc pc = .ok (.getfield idx, 3))
    (kk : W p l e R s m args below meth c H locs cells slots Q (F0 m (pc + 3) ls (.ref (M.2.2 0 1 a) :: rest))) : W p l e R s m args below meth c H locs cells slots Q (F0 m pc ls (.ref (M.2.2 0 0 a) :: rest)) := by
  obtain ⟨-, hact, -, -⟩ := hW.2.2.1 a ha
  exact m_get S hK hF hact rfl hdg kk
theorem m_aldst (S : CallFix p m c cc nL s args lw_G own) (hK : va_K (gD G) vwCl (tysG G) s) (hW : WPm G M H) {a : Nat} (ha : a < M.2.2 2 0 0) {x : Int32} (hin : vp_in x (M.2.2 3 0 a)) (hdg : decode cc pc = .ok (.iaload, 1))
    (kk : W p l e R s m args below meth c H locs cells slots Q (F0 m (pc + 1) ls (.int (M.1 1001 a x.toNatClampNeg) :: rest))) : W p l e R s m args below meth c H locs cells slots Q (F0 m pc ls (.int x :: .ref (M.2.2 0 1 a) :: rest)) := by
  have hlt := m_lt hin
  obtain ⟨-, -, hst, -⟩ := hW.2.2.1 a ha
  exact W.iald (v := .int (M.1 1001 a x.toNatClampNeg)) S.1 S.2.1 hst (m_kI hK _ (fun j => .int (M.1 1001 a j))) (fun q => by cases q) (by show ¬ (x < 0 ∨ (arrV _ _ _).slots.size ≤ _); rw [arrV_size]; exact hin) (by show (arrV _ _ _).slots[_]? = _; rw [arrV_read _ _ hlt]) rfl rfl hdg kk
theorem m_alenst (S : CallFix p m c cc nL s args lw_G own) (hK : va_K (gD G) vwCl (tysG G) s) (hW : WPm G M H) {a : Nat} (ha : a < M.2.2 2 0 0) (hdg : decode cc pc = .ok (.arraylength, 1))
    (kk : W p l e R s m args below meth c H locs cells slots Q (F0 m (pc + 1) ls (.int (Int32.ofNat (M.2.2 3 0 a)) :: rest))) : W p l e R s m args below meth c H locs cells slots Q (F0 m pc ls (.ref (M.2.2 0 1 a) :: rest)) := by
  obtain ⟨-, -, hst, -⟩ := hW.2.2.1 a ha
  exact W.alen (n := Int32.ofNat (M.2.2 3 0 a)) S.1 S.2.1 hst (m_kI hK _ (fun j => .int (M.1 1001 a j))) (by show (vp_cell _ _).slots.size.toInt32 = _; rw [vp_cell_i, arrV_size]) rfl rfl hdg kk
theorem m_recvA (hK : va_K (gD G) vwCl (tysG G) s) (hW : WPm G M H) {a : Nat} (ha : a < M.2.2 2 0 0) : ∃ cellB : Cell, H[M.2.2 0 0 a]? = some cellB ∧ cellB.vm.isStatics = false ∧ s.vm.findClass RX0 = some cellB.cls := by
  obtain ⟨-, hact, -, -⟩ := hW.2.2.1 a ha
  have hP : va_P (gD G) vwCl [(M.2.2 0 0 a, actE M a)] H := by
    intro k q hk
    match k, hk with
    | 0, hk => cases hk; exact hact
    | k + 1, hk => simp at hk
  exact va_recv hK hP (ci := 0) (q0 := 0) rfl rfl
/-- the reader's text -/
theorem m_gettext (S : CallFix p m c cc nL s args lw_G own) (hK : va_K (gD G) vwCl (tysG G) s) {idx : Nat} {C : String} {T : u_T} {N : Nat} (hF : FLK own idx 2 3 C T N) (hW : WPm G M H) {d : Nat} (ht : M.2.2 4 0 0 = d + 1) (hdg : decode cc pc = .ok (.getfield idx, 3))
    (kk : W p l e R s m args below meth c H locs cells slots Q (F0 m (pc + 3) ls (.ref (ad G 39 d) :: rest))) : W p l e R s m args below meth c H locs cells slots Q (F0 m pc ls (.ref (ad G 8 0) :: rest)) := by
  have h1 := (hW.1 8 0 (Nat.le_of_ble_eq_true rfl)).2
  refine m_get S hK hF h1 (v := .ref (ad G 39 d)) ?_ hdg kk
  show some (Value.ref (txK G (M.2.2 4 0 0))) = _
  rw [ht]
  rfl
def cpyOK (sp dp n : Int32) (n0 n1 : Nat) : Prop := ¬ sp < 0 ∧ ¬ dp < 0 ∧ ¬ n < 0 ∧ sp.toNatClampNeg + n.toNatClampNeg ≤ n0 ∧ dp.toNatClampNeg + n.toNatClampNeg ≤ n1
theorem m_acopy (S : CallFix p m c cc nL s args lw_G own) (hK : va_K (gD G) vwCl (tysG G) s) (hml : c.maxLocals = nL) (hsz : ls.size = nL) {k0 i0 n0 k1 i1 n1 : Nat} (hE0 : AI G k0 n0) (hE1 : AI G k1 n1) (hW : WPm G M H) (hS : va_S (fun q => bs G ≤ q) s.heap H locs) (hi0 : i0 < cntK k0) (hi1 : i1 < cntK k1) {index : Nat} (hlink : (Cond.methodLink own index arraycopyName).before args s = true) (hnat : (Cond.native arraycopyName).before args s = true) (hstat : (Cond.static arraycopyName).before args s = true) (hini : (Cond.initialized "java/lang/System").before args s = true) {sp dp n : Int32} (hc : cpyOK sp dp n n0 n1)
    (hframes : 1 ≤ R.frames) (hlocals : (rest.map fun v => v.category).sum + (nativeFrameWords "java/lang/System" "arraycopy" 5 + 11) ≤ R.locals) (hdg : decode cc pc = .ok (.invokestatic index, 3))
    (kk : ∀ M1 : Mem, M1 = wR M k1 i1 (va_cpy (M.1 k0 i0) (M.1 k1 i1) sp.toNatClampNeg dp.toNatClampNeg n.toNatClampNeg) → ∀ (H1 : Heap) (locs1 : List Loc), WPm G M1 H1 → va_S (fun q => bs G ≤ q) s.heap H1 locs1 → W p l e R s m args below meth c H1 locs1 cells slots Q (F0 m (pc + 3) ls rest)) : W p l e R s m args below meth c H locs cells slots Q (F0 m pc ls (.int n :: .int dp :: .ref (ad G k1 i1) :: .int sp :: .ref (ad G k0 i0) :: rest)) := by
  have nn : ∀ z : Int32, ¬ z < 0 → z.toInt = (z.toNatClampNeg : Int) := by
    intro z hz
    have hz0 : (0 : Int) ≤ z.toInt := by
      have := Int32.not_lt.mp hz
      simpa using Int32.le_iff_toInt_le.mp this
    show z.toInt = ((z.toInt.toNat : Nat) : Int)
    omega
  obtain ⟨h1, h2, h3, h4, h5⟩ := hc
  intro T hT X
  have hc0 : H[ad G k0 i0]? = some (vp_cell (gI G) (n0, .inl (M.1 k0 i0))) := m_cell hW hi0 (hE0 _ _ _ _)
  have hc1 : H[ad G k1 i1]? = some (vp_cell (gI G) (n1, .inl (M.1 k1 i1))) := m_cell hW hi1 (hE1 _ _ _ _)
  obtain ⟨-, q0, hk0, cm0, hkk0⟩ := m_kI hK n0 (fun j => .int (M.1 k0 i0 j))
  obtain ⟨-, q1, hk1, cm1, hkk1⟩ := m_kI hK n1 (fun j => .int (M.1 k1 i1 j))
  obtain ⟨vm', X', step⟩ := X.arraycopy S.1 S.2.2.2.1 hlink hnat hstat hini (src := ad G k0 i0) (dst := ad G k1 i1) (cs := vp_cell (gI G) (n0, .inl (M.1 k0 i0))) (cd := vp_cell (gI G) (n1, .inl (M.1 k1 i1))) (srcPos := sp) (destPos := dp) (n := n) (by rw [hT]; exact hc0) (by rw [hT]; exact hc1)
    (fun _ h => by cases h) (fun _ h => by cases h) (fun h => by cases h) (fun h => by cases h) hk0 hk1 hkk0 hkk1 (by simp [refKind]) h1 h2 h3
    (by rw [nn sp h1, nn n h3]; show ¬ _ > ((arrV (gI G) n0 (fun j => .int (M.1 k0 i0 j))).slots.size : Int); rw [arrV_size]; omega)
    (by rw [nn dp h2, nn n h3]; show ¬ _ > ((arrV (gI G) n1 (fun j => .int (M.1 k1 i1 j))).slots.size : Int); rw [arrV_size]; omega)
    (fun vm₁ _ i hi => by
      have e : (vp_cell (gI G) (n0, .inl (M.1 k0 i0))).slots.getD (sp.toNatClampNeg + i) .null = .int (M.1 k0 i0 (sp.toNatClampNeg + i)) := by
        show (arrV (gI G) n0 (fun j => .int (M.1 k0 i0 j))).slots.getD _ _ = _
        rw [Array.getD_eq_getD_getElem?, arrV_read _ _ (by omega)]
        rfl
      refine ⟨?_, ?_⟩
      · rw [e]
        rfl
      · rw [e]
        exact trivial)
    (g := F0 m pc ls (.int n :: .int dp :: .ref (ad G k1 i1) :: .int sp :: .ref (ad G k0 i0) :: rest)) rfl (by rw [hml]; exact hsz) (rest := rest) rfl (by rw [S.2.1]; exact hdg) hframes (by show 2 * 0 + _ + _ ≤ _; omega)
  have e1 : copied (vp_cell (gI G) (n0, .inl (M.1 k0 i0))) (vp_cell (gI G) (n1, .inl (M.1 k1 i1))) sp dp n = vp_cell (gI G) (n1, .inl (va_cpy (M.1 k0 i0) (M.1 k1 i1) sp.toNatClampNeg dp.toNatClampNeg n.toNatClampNeg)) := va_copied (fun z => .int z) (gI G) (gI G) (M.1 k0 i0) (M.1 k1 i1) h4
  rw [e1] at X' step
  have hl : ad G k1 i1 < H.size := (Array.getElem?_eq_some_iff.mp hc1).1
  have hheap : ((T.setVm vm').setCell (ad G k1 i1) (vp_cell (gI G) (n1, .inl (va_cpy (M.1 k0 i0) (M.1 k1 i1) sp.toNatClampNeg dp.toNatClampNeg n.toNatClampNeg)))).heap = H.setIfInBounds (ad G k1 i1) (vp_cell (gI G) (n1, .inl (va_cpy (M.1 k0 i0) (M.1 k1 i1) sp.toNatClampNeg dp.toNatClampNeg n.toNatClampNeg))) := by rw [← hT]; rfl
  have oq : ∀ q : Nat, q ≠ ad G k1 i1 → (H.setIfInBounds (ad G k1 i1) (vp_cell (gI G) (n1, .inl (va_cpy (M.1 k0 i0) (M.1 k1 i1) sp.toNatClampNeg dp.toNatClampNeg n.toNatClampNeg))))[q]? = H[q]? := fun q hq => by simp [Array.getElem?_setIfInBounds, Ne.symm hq]
  obtain ⟨t, a1, b1⟩ := kk _ rfl _ _ (hW.rowI hi1 (by rw [hE1]; show (H.setIfInBounds (ad G k1 i1) _)[ad G k1 i1]? = some _; simp [Array.getElem?_setIfInBounds, hl]) oq) ⟨by simp; exact hS.1, fun q g1 g2 => by
      rw [oq q (fun e => g2 (by rw [e]; exact (hW.1 k1 i1 hi1).1))]
      exact hS.2.1 q g1 g2, fun q hq => by
      rcases List.mem_append.mp hq with h | h
      · exact hS.2.2 q h
      · obtain ⟨z, -, hz⟩ := List.mem_map.mp h
        rw [← hz]
        exact (hW.1 k1 i1 hi1).1⟩ _ hheap X'
  exact ⟨t, step t a1, b1⟩
end MR2
theorem m_out {x : Int32} (lo hi : Int) (h : ∀ z : Int, lo ≤ z → z ≤ hi → ¬ x.toInt = z) : x.toInt < lo ∨ hi < x.toInt := by
  by_cases h1 : x.toInt < lo
  · exact Or.inl h1
  · by_cases h2 : hi < x.toInt
    · exact Or.inr h2
    · exact absurd rfl (h x.toInt (by omega) (by omega))

/-- copyAll(from, to): rows of one length -/
def s_X11_copyAll (n k1 i1 k2 i2 : Nat) (M : Mem) (P : Mem → Prop) : Prop := ∀ M1 : Mem, M1 = wR M k2 i2 (va_cpy (M.1 k1 i1) (M.1 k2 i2) 0 0 n) → P M1

theorem xf_47 {G : Gn} {s : State} (h : XF G s) : vk_R "MilkDesk$ActReader" 47 "ero" (gK G 1) s := h.2.2.1.2.2.1
theorem xf_102 {G : Gn} {s : State} (h : XF G s) : vk_R "MilkDesk$ActReader" 102 "asmdwhnxyc" (gK G 0) s := h.2.2.1.2.1
theorem xf_100 {G : Gn} {s : State} (h : XF G s) : vk_R "MilkDesk$ActReader" 100 "+-" (gK G 2) s := h.2.2.1.2.2.2.1
theorem xf_95 {G : Gn} {s : State} (h : XF G s) : vk_R "MilkDesk$ActReader" 95 "<>=" (gK G 3) s := h.2.2.1.2.2.2.2.1
/-- where a sign stands in a text: -1 nowhere -/
def ixF (c : Int32) : List Int32 → Nat → Int32
  | [], _ => -1
  | b :: l, k => if b &&& 255 = c then nI k else ixF c l (k + 1)
def plc (k : Nat) (x : Int32) : Int32 := if x < 0 then -1 else ixF ((x.toUInt32 % 65536).toInt32) (txB k) 0
def s_X2_placeOf (k : Nat) (M : Mem) (x : Int32) (P : Int32 → Mem → Prop) : Prop := P (plc k x) M
/-- a new act, out of the reader's steps -/
def newAct (M : Mem) (sh dy : Int32) (M1 : Mem) : Prop :=
  ∃ (n : Nat) (f : Nat → Int32), (n = (if (if 80 < (M.1 8 0 1) then (80 : Int32) else M.1 8 0 1) < 0 then 0 else (if 80 < (M.1 8 0 1) then (80 : Int32) else M.1 8 0 1)).toNatClampNeg) ∧ (∀ j, j < n → f j = M.1 40 0 j) ∧
    M1.1 = uR (uR M.1 1000 (M.2.2 2 0 0) (fun k => if k = 0 then M.1 8 0 2 else if k = 1 then sh else dy)) 1001 (M.2.2 2 0 0) f ∧ M1.2.1 = M.2.1 ∧
    M1.2.2 2 = uR (fun _ => M.2.2 2) 0 0 (va_up (M.2.2 2 0) 0 (M.2.2 2 0 0 + 1)) 0 ∧ M1.2.2 1 = M.2.2 1 ∧ M1.2.2 4 = M.2.2 4 ∧
    (M1.2.2 3 0 (M.2.2 2 0 0) = n ∧ ∀ a, a < M.2.2 2 0 0 → M1.2.2 3 0 a = M.2.2 3 0 a) ∧ ∀ i a, a < M.2.2 2 0 0 → M1.2.2 0 i a = M.2.2 0 i a
def s_X2_toAct (M : Mem) (x1 x2 : Int32) (P : Nat → Mem → Prop) : Prop := ∀ M1 : Mem, newAct M x1 x2 M1 → P (M.2.2 2 0 0) M1
abbrev MQa (l : Launch) (y : MethodName) (code : ByteArray) (maxL : Nat) (ret : Option FieldType) (rm : Room) (av : List Value) (G : Gn) (M : Mem) (Z : Prop) (P : Nat → Mem → Prop) : Prop :=
  Met l y (cwd y code maxL ret) rm (va_Pc av (fun U => WS G M U ∧ Z)) (va_Qr (S := Nat × Mem) (fun u => P u.1 u.2) (fun u a t => WS G u.2 t ∧ a = u.2.2.2 0 0 u.1 ∧ u.1 < u.2.2.2 2 0 0) (fun q => bs G ≤ q)) rm.cells rm.slots (fun q => bs G ≤ q)
theorem m_ca {p : Program} {l : Launch} {e : Env} {R : Room} {s : State} {m : MethodId} {args : Array Value} {below : List Frame} {meth : Method} {c : Code} {H : Heap} {locs : List Loc} {cells slots : Nat} {Q : State → Prop} {pc : Nat} {ls : Array Slot} {rest : List Value} {G : Gn} {P : Nat → Mem → Prop} {st0 : List Value} {a : Array Value} {mc ms : Nat} (hr : va_Run p l e R s m args below meth c H locs cells slots mc ms (F0 m pc ls st0) rest (va_Qr (S := Nat × Mem) (fun u => P u.1 u.2) (fun u a t => WS G u.2 t ∧ a = u.2.2.2 0 0 u.1 ∧ u.1 < u.2.2.2 2 0 0) (fun q => bs G ≤ q) a) (fun q => bs G ≤ q)) (hS : va_S (fun q => bs G ≤ q) s.heap H locs)
    (kk : ∀ (ac : Nat) (M1 : Mem) (H1 : Heap) (locs1 : List Loc), P ac M1 → ac < M1.2.2 2 0 0 → WPm G M1 H1 → va_S (fun q => bs G ≤ q) s.heap H1 locs1 → W p l e R s m args below meth c H1 locs1 (cells + mc) (slots + ms) Q (F0 m (pc + 3) ls (.ref (M1.2.2 0 0 ac) :: rest))) : W p l e R s m args below meth c H locs cells slots Q (F0 m pc ls st0) :=
  va_callr hr hS (fun _ _ h => h) (fun _ h => h) (fun u ra t H1 locs1 ht _ hp hB _ _ hS1 => by
    obtain ⟨ac, M1⟩ := u
    obtain ⟨h1, h2, h3⟩ := hB
    have h2 : ra = M1.2.2 0 0 ac := h2
    subst h2
    exact kk ac M1 H1 locs1 hp h3 (by rw [← ht]; exact h1.2.2) hS1)
