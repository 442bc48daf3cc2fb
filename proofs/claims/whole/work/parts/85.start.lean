/-! WHAT IS KNOWN AT THE LAW'S ENTRY -/
theorem st_ref {args : Array Value} {s : State} {t : Term} (h : (Cond.exactly t "java/lang/String").before args s = true) : ∃ a : Nat, t.eval args s none [] s = some (.ref a) := by
  obtain ⟨a, c, cA, kA, q1, -⟩ := Cond.exactly_spec (args := args) (first := s) (o := none) (s := s) (idx := []) (t := t) (cls := "java/lang/String") h
  exact ⟨a, q1⟩
theorem st_arr {args : Array Value} {s : State} {ty : FieldType} (h : (Cond.arrayClass ty).before args s = true) (hr : ∀ cA : ClassId, s.vm.findClass ("[" ++ ty.toString) = some cA → va_RA s cA ty) : ∃ cA : ClassId, ArrOfT s cA ty ∧ va_RA s cA ty := by
  obtain ⟨c, k, comp, h1, h2, h3⟩ := Cond.arrayClass_spec (args := args) (first := s) (o := none) (s := s) (idx := []) (type := ty) h
  exact ⟨c, fun n z => ⟨(fun k h => by cases h), k, h2, comp, h3⟩, hr c h1⟩
theorem st_arrO {args : Array Value} {s : State} {C : String} (h : (Cond.arrayOver (.object C)).before args s = true) : ∃ cA : ClassId, ArrOfT s cA (.object C) ∧ va_RA s cA (.object C) := by
  obtain ⟨comp, c, k, h1, h2, h3, h4, h5⟩ := Cond.arrayOver_spec (args := args) (first := s) (o := none) (s := s) (idx := []) (n := C) h
  exact ⟨c, fun n z => ⟨(fun k h => by cases h), k, h3, comp, h4⟩, k, comp, h3, h4, h1, h5⟩
theorem st_cls {args : Array Value} {s : State} (hts : ∀ w ∈ lw_tbl, w.before args s = true) : ∃ (dC : Nat → ClassId) (dI : Nat → Nat → Nat), ∀ (k : Nat) (q : vw_C), vwCl[k]? = some q → u_Kn s q.1 q.2.1 q.2.2 (dC k) (dI k) := by
  obtain ⟨c0, i0, k0⟩ := u_known (C := RX0) (T := TX0) (N := 4) (n := 4) hts int_wsX00 (hts (Cond.instantiable RX0 4) (List.mem_of_getElem? (i := 698) (by decide +kernel)))
  obtain ⟨c1, i1, k1⟩ := u_known (C := RX1) (T := TX1) (N := 3) (n := 3) hts int_wsX10 (hts (Cond.instantiable RX1 3) (List.mem_of_getElem? (i := 217) (by decide +kernel)))
  obtain ⟨c2, i2, k2⟩ := u_known (C := RX2) (T := TX2) (N := 7) (n := 7) hts int_wsX20 (hts (Cond.instantiable RX2 7) (List.mem_of_getElem? (i := 313) (by decide +kernel)))
  obtain ⟨c3, i3, k3⟩ := u_known (C := RX4) (T := TX4) (N := 9) (n := 9) hts int_wsX40 (hts (Cond.instantiable RX4 9) (List.mem_of_getElem? (i := 151) (by decide +kernel)))
  obtain ⟨c4, i4, k4⟩ := u_known (C := RX5) (T := TX5) (N := 5) (n := 5) hts int_wsX50 (hts (Cond.instantiable RX5 5) (List.mem_of_getElem? (i := 194) (by decide +kernel)))
  obtain ⟨c5, i5, k5⟩ := u_known (C := RX6) (T := TX6) (N := 4) (n := 4) hts int_wsX60 (hts (Cond.instantiable RX6 4) (List.mem_of_getElem? (i := 238) (by decide +kernel)))
  obtain ⟨c6, i6, k6⟩ := u_known (C := RX7) (T := TX7) (N := 12) (n := 12) hts int_wsX70 (hts (Cond.instantiable RX7 12) (List.mem_of_getElem? (i := 341) (by decide +kernel)))
  obtain ⟨c7, i7, k7⟩ := u_known (C := RX8) (T := TX8) (N := 8) (n := 8) hts int_wsX80 (hts (Cond.instantiable RX8 8) (List.mem_of_getElem? (i := 102) (by decide +kernel)))
  obtain ⟨c8, i8, k8⟩ := u_known (C := RX9) (T := TX9) (N := 7) (n := 7) hts int_wsX90 (hts (Cond.instantiable RX9 7) (List.mem_of_getElem? (i := 386) (by decide +kernel)))
  obtain ⟨c9, i9, k9⟩ := u_known (C := RX10) (T := TX10) (N := 10) (n := 10) hts int_wsX100 (hts (Cond.instantiable RX10 10) (List.mem_of_getElem? (i := 96) (by decide +kernel)))
  obtain ⟨c10, i10, k10⟩ := u_known (C := RX11) (T := TX11) (N := 7) (n := 7) hts int_wsX110 (hts (Cond.instantiable RX11 7) (List.mem_of_getElem? (i := 88) (by decide +kernel)))
  obtain ⟨c11, i11, k11⟩ := u_known (C := RX12) (T := TX12) (N := 53) (n := 53) hts int_wsX120 (hts (Cond.instantiable RX12 53) (List.mem_of_getElem? (i := 1196) (by decide +kernel)))
  refine ⟨fun k => match k with | 0 => c0 | 1 => c1 | 2 => c2 | 3 => c3 | 4 => c4 | 5 => c5 | 6 => c6 | 7 => c7 | 8 => c8 | 9 => c9 | 10 => c10 | _ => c11, fun k => match k with | 0 => i0 | 1 => i1 | 2 => i2 | 3 => i3 | 4 => i4 | 5 => i5 | 6 => i6 | 7 => i7 | 8 => i8 | 9 => i9 | 10 => i10 | _ => i11, ?_⟩
  intro k q hq
  match k, hq with
  | 0, hq => cases hq; exact k0
  | 1, hq => cases hq; exact k1
  | 2, hq => cases hq; exact k2
  | 3, hq => cases hq; exact k3
  | 4, hq => cases hq; exact k4
  | 5, hq => cases hq; exact k5
  | 6, hq => cases hq; exact k6
  | 7, hq => cases hq; exact k7
  | 8, hq => cases hq; exact k8
  | 9, hq => cases hq; exact k9
  | 10, hq => cases hq; exact k10
  | 11, hq => cases hq; exact k11
  | k + 12, hq => simp [vwCl] at hq
/-- the four texts that are searched -/
def st_tm (i : Nat) : Term := match i with
  | 0 => .string "MilkDesk$World" 52
  | 1 => .string "MilkDesk$ActReader" 47
  | 2 => .string "MilkDesk$ActReader" 100
  | _ => .string "MilkDesk$ActReader" 95
theorem st_4 {i : Nat} (h : i < 4) : i = 0 ∨ i = 1 ∨ i = 2 ∨ i = 3 := by omega
set_option maxRecDepth 100000 in
set_option maxHeartbeats 4000000 in
theorem st_txt {args : Array Value} {s : State} (hs : ∀ w ∈ flatC (Jvm.Cond.and given_1 narrow_1), w.before args s = true) {A : Nat → Prop} (hA : ∀ a : Nat, a < s.heap.size → ¬ A a) : ∃ adK adV : Nat → Nat, vk_S 4 [10, 3, 2, 3] [txB 0, txB 1, txB 2, txB 3] adK adV A s s.heap ∧ ∀ i : Nat, i < 4 → (st_tm i).eval args s none [] s = some (.ref (adK i)) := by
  refine vk_Sof (tm := st_tm) (fun i hi => ?_) (fun i hi => ?_) (fun i hi => ?_) (fun i hi => ?_) (fun i hi => ?_) (fun i hi j hj => ?_) (fun i j hi hj hij => ?_) hA
  · rcases st_4 hi with rfl | rfl | rfl | rfl <;> decide
  · rcases st_4 hi with rfl | rfl | rfl | rfl <;> exact hs _ (by decide +kernel)
  · rcases st_4 hi with rfl | rfl | rfl | rfl <;> exact hs _ (by decide +kernel)
  · rcases st_4 hi with rfl | rfl | rfl | rfl <;> exact hs _ (by decide +kernel)
  · rcases st_4 hi with rfl | rfl | rfl | rfl <;> exact hs _ (by decide +kernel)
  · rcases st_4 hi with rfl | rfl | rfl | rfl
    · have hj : j < 10 := hj
      rcases (show j = 0 ∨ j = 1 ∨ j = 2 ∨ j = 3 ∨ j = 4 ∨ j = 5 ∨ j = 6 ∨ j = 7 ∨ j = 8 ∨ j = 9 by omega) with rfl | rfl | rfl | rfl | rfl | rfl | rfl | rfl | rfl | rfl <;> exact hs _ (by decide +kernel)
    · have hj : j < 3 := hj
      rcases (show j = 0 ∨ j = 1 ∨ j = 2 by omega) with rfl | rfl | rfl <;> exact hs _ (by decide +kernel)
    · have hj : j < 2 := hj
      rcases (show j = 0 ∨ j = 1 by omega) with rfl | rfl <;> exact hs _ (by decide +kernel)
    · have hj : j < 3 := hj
      rcases (show j = 0 ∨ j = 1 ∨ j = 2 by omega) with rfl | rfl | rfl <;> exact hs _ (by decide +kernel)
  · rcases st_4 hi with rfl | rfl | rfl | rfl <;> rcases st_4 hj with rfl | rfl | rfl | rfl <;> first | exact absurd rfl hij | exact Or.inl (hs _ (by decide +kernel)) | exact Or.inr (hs _ (by decide +kernel))
set_option maxRecDepth 100000 in
set_option maxHeartbeats 4000000 in
/-- the world's names: where its cells will lie, what the machine's own are -/
theorem st_G {s : State} {args : Array Value} (off : Nat → Nat → Nat) (hts : ∀ w ∈ lw_tbl, w.before args s = true) (hgv : (Jvm.Cond.and given_1 narrow_1).before args s = true) : ∃ G : Gn, bs G = s.heap.size ∧ gH G = s.heap ∧ (∀ c i, ad G c i = s.heap.size + off c i) ∧ KC G s := by
  have hs := flat_of_before _ hgv
  obtain ⟨dC, dI, hKc⟩ := st_cls hts
  obtain ⟨cI, aI, rI⟩ := st_arr (ty := .int) (hts (Cond.arrayClass .int) (List.mem_of_getElem? (i := 149) (by decide +kernel))) (fun _ h => h)
  obtain ⟨cJ, aJ, rJ⟩ := st_arr (ty := .long) (hts (Cond.arrayClass .long) (List.mem_of_getElem? (i := 1363) (by decide +kernel))) (fun _ h => h)
  obtain ⟨cZ, aZ, rZ⟩ := st_arr (ty := .boolean) (hts (Cond.arrayClass .boolean) (List.mem_of_getElem? (i := 1362) (by decide +kernel))) (fun _ h => h)
  have oS := hts (Cond.arrayOver (.object "MilkDesk$Shelf")) (List.mem_of_getElem? (i := 385) (by decide +kernel))
  have oA := hts (Cond.arrayOver (.object "MilkDesk$Act")) (List.mem_of_getElem? (i := 223) (by decide +kernel))
  obtain ⟨cS, aS, rS⟩ := st_arrO oS
  obtain ⟨cA, aA, rA⟩ := st_arrO oA
  have hA : ∀ a : Nat, a < s.heap.size → ¬ s.heap.size ≤ a := fun a h => Nat.not_le.mpr h
  obtain ⟨adK, adV, h4, hev⟩ := st_txt (A := fun q => s.heap.size ≤ q) hs hA
  obtain ⟨a4, e4⟩ := st_ref (t := .string "MilkDesk$Crates" 11) (hs _ (by decide +kernel))
  obtain ⟨a5, e5⟩ := st_ref (t := .string "MilkDesk$Crates" 18) (hs _ (by decide +kernel))
  obtain ⟨a6, e6⟩ := st_ref (t := .string "MilkDesk$Crates" 23) (hs _ (by decide +kernel))
  obtain ⟨a7, e7⟩ := st_ref (t := .string "MilkDesk" 285) (hs _ (by decide +kernel))
  obtain ⟨a8, e8⟩ := st_ref (t := .string "MilkDesk" 292) (hs _ (by decide +kernel))
  have e02 : (Term.string "MilkDesk$ActReader" 102).eval args s none [] s = some (.ref (adK 0)) := va_eqR (t := .string "MilkDesk$World" 52) (hs _ (by decide +kernel)) (hev 0 (by decide))
  let gk : Nat → Nat := fun i => if i < 4 then adK i else if i = 4 then a4 else if i = 5 then a5 else if i = 6 then a6 else if i = 7 then a7 else a8
  refine ⟨((dC, dI), (cI, cJ, cZ, cS, cA), (fun c i => s.heap.size + off c i), s.heap.size, s.heap, gk, adV), rfl, rfl, fun _ _ => rfl, ⟨⟨⟨hKc, fun k q hk => ?_⟩, ?_⟩, va_AO.of oA, va_AO.of oS⟩⟩
  · match k, hk with
    | 0, hk => cases hk; exact ⟨aI, rI⟩
    | 1, hk => cases hk; exact ⟨aJ, rJ⟩
    | 2, hk => cases hk; exact ⟨aZ, rZ⟩
    | 3, hk => cases hk; exact ⟨aS, rS⟩
    | 4, hk => cases hk; exact ⟨aA, rA⟩
    | k + 5, hk => simp at hk
  · have g4 : ∀ i, i < 4 → gk i = adK i := fun i hi => if_pos hi
    refine ⟨⟨fun i hi => ?_, fun i j hi hj e => h4.2 i j hi hj (by rw [← g4 i hi, ← g4 j hj]; exact e)⟩, ?_, ⟨?_, ?_, ?_, ?_, ?_, ?_, ?_, ?_, ?_, ?_⟩, ?_, ?_, fun a i x h hm => va_Nw.of rfl (hts _ hm), fun C T hm => va_Nw.of rfl (hts _ hm), fun x hm => va_Nw.of rfl (hts _ hm), va_Nc.of (args := args) (hs _ (by decide +kernel)), va_Nc.of (args := args) (hs _ (by decide +kernel)), va_Nc.of (args := args) (hs _ (by decide +kernel))⟩
    · have h9 := h4.1 i hi
      rw [← g4 i hi] at h9
      exact h9
    · exact va_Zof (args := args) (hts _ (List.mem_of_getElem? (i := 271) (by decide +kernel))) (hts (Cond.initialized "java/lang/String") (List.mem_of_getElem? (i := 68) (by decide +kernel))) (va_eqt (hs _ (by decide +kernel))) hA
    · exact vk_R.of (A := args) (hts _ (List.mem_of_getElem? (i := 261) (by decide +kernel))) (hev 0 (by decide))
    · exact vk_R.of (A := args) (hts _ (List.mem_of_getElem? (i := 675) (by decide +kernel))) e02
    · exact vk_R.of (A := args) (hts _ (List.mem_of_getElem? (i := 562) (by decide +kernel))) (hev 1 (by decide))
    · exact vk_R.of (A := args) (hts _ (List.mem_of_getElem? (i := 687) (by decide +kernel))) (hev 2 (by decide))
    · exact vk_R.of (A := args) (hts _ (List.mem_of_getElem? (i := 688) (by decide +kernel))) (hev 3 (by decide))
    · exact vk_R.of (A := args) (hts _ (List.mem_of_getElem? (i := 1124) (by decide +kernel))) e4
    · exact vk_R.of (A := args) (hts _ (List.mem_of_getElem? (i := 1159) (by decide +kernel))) e5
    · exact vk_R.of (A := args) (hts _ (List.mem_of_getElem? (i := 1175) (by decide +kernel))) e6
    · exact vk_R.of (A := args) (hts _ (List.mem_of_getElem? (i := 1191) (by decide +kernel))) e7
    · exact vk_R.of (A := args) (hts _ (List.mem_of_getElem? (i := 1193) (by decide +kernel))) e8
    · exact vx_Zqof (args := args) (hts (Cond.laysStatic Bundle.tN "UNASSIGNED_STACK" Bundle.steD) (List.mem_of_getElem? (i := 1110) (by decide +kernel))) (hts (Cond.initialized Bundle.tN) (List.mem_of_getElem? (i := 81) (by decide +kernel))) (hs _ (by decide +kernel)) hA
    · exact vx_Zqof (args := args) (hts (Cond.laysStatic Bundle.tN "SUPPRESSED_SENTINEL" Bundle.listD) (List.mem_of_getElem? (i := 1112) (by decide +kernel))) (hts (Cond.initialized Bundle.tN) (List.mem_of_getElem? (i := 81) (by decide +kernel))) (hs _ (by decide +kernel)) hA
