/-! A NEW ACT -/
theorem arrV_congr {cI : ClassId} {N : Nat} {f g : Nat → Value} (h : ∀ j, j < N → f j = g j) : arrV cI N f = arrV cI N g := by
  unfold arrV
  congr 1
  congr 1
  funext j
  exact h _ j.isLt
section NE
variable {G : Gn} {M : Mem}
/-- a method's entry, with what is known of cells beside the world -/
theorem m_enterH {cc : ByteArray} {l : Launch} {y : MethodName} {maxL : Nat} {ret : Option FieldType} {rm : Room} {av : List Value} {Zh : Heap → Prop} {Qc : Array Value → State → Outcome → State → Prop} {mc ms : Nat} (hy : plainName y.cls = true) (hn : (lg_sl av).length ≤ maxL)
    (body : ∀ (p : Program) (e : Env) (s : State) (m : MethodId) (below : List Frame) (meth : Method) (c : Code) (ls : Array Slot) (H : Heap) (locs : List Loc), CallFix p m c cc maxL s av.toArray lw_G y.cls → meth.sig.returnType = ret → meth.locks = false → meth.name = y.name → KX G s → bs G ≤ s.heap.size → WPm G M H → va_S (fun q => bs G ≤ q) s.heap H locs → lv_has ls maxL (lv_args 0 av) → Zh H →
      W p l e rm s m av.toArray below meth c H locs 0 0 (MQ below Qc av.toArray s mc ms (fun q => bs G ≤ q)) (F0 m 0 ls [])) : Met l y (cwd y cc maxL ret) rm (va_Pc av (fun U => WS G M U ∧ Zh U.heap)) Qc mc ms (fun q => bs G ≤ q) := by
  refine Met.ofW (cc := cc) (maxL := maxL) (ret := ret) hy rfl ?_
  intro p e s m args below meth c s₁ B hml hv
  obtain ⟨rfl, ⟨hK, hbs, hW⟩, hz⟩ := hv
  have hts := atoms_spec (ws := cwd y cc maxL ret) B.pre
  rw [lg_entry_eq]
  exact body p e s m below meth c _ s.heap [] ⟨B.exec, B.bytes, hml, findClass_of_methodNamed B.named, fun w hw => hts w (List.mem_cons_of_mem _ hw)⟩ B.returns B.notSynchronized (name_of_methodNamed B.named B.method).1 hK hbs hW va_S.rf (lv_entry av hn) hz
variable {p : Program} {l : Launch} {e : Env} {R : Room} {s : State} {m : MethodId} {args : Array Value} {below : List Frame} {meth : Method} {c : Code} {H : Heap} {locs : List Loc} {cells slots : Nat} {Q : State → Prop}
variable {cc : ByteArray} {pc : Nat} {ls : Array Slot} {rest : List Value} {own : String} {nL : Nat}
/-- the call of a constructor -/
theorem m_rI {y : MethodName} {bytes : ByteArray} {maxL n idx : Nat} {rm : Room} {b : Addr} {As : List Value} {Zh : Heap → Prop} {Qc : Array Value → State → Outcome → State → Prop} {st0 : List Value}
    (S : CallFix p m c cc nL s args lw_G own) (hK : KX G s) (hW : WPm G M H) (hbs : bs G ≤ H.size) (hM : Met l y (cwd y bytes maxL none) rm (va_Pc (.ref b :: As) (fun U => WS G M U ∧ Zh U.heap)) Qc rm.cells rm.slots (fun q => bs G ≤ q)) (hz : Zh H) (h1 : Cond.methodLink own idx y ∈ lw_G) (h2 : Cond.instanceMethod y ∈ lw_G) (h3 : Cond.initialized y.cls ∈ lw_G) (h4 : Cond.code y bytes maxL none ∈ lw_G)
    (hd : y.cls ≠ "java/lang/invoke/MethodHandle" ∧ y.cls ≠ "java/lang/invoke/VarHandle" ∧ (parseMethodDescriptor y.desc).map (fun d => d.parameters.length) = some n) (hyi : y.name = "<init>")
    (hn : As.length = n) (hsize : ls.size = nL) (hstack : st0 = As.reverse ++ .ref b :: rest) (hR : rm.frames + 1 ≤ R.frames ∧ 8 + (maxL + 11) + rm.locals ≤ R.locals) (hw : (rest.map fun v => v.category).sum ≤ 8) (hf : cells + rm.cells ≤ R.cells ∧ slots + rm.slots ≤ R.slots) (hdg : decode cc pc = .ok (.invokespecial idx, 3)) :
    va_Run p l e R s m args below meth c H locs cells slots rm.cells rm.slots (F0 m pc ls st0) rest (Qc (Value.ref b :: As).toArray) (fun q => bs G ≤ q) := by
  have hts := S.2.2.2.2
  exact va_runI S hM (cwI n hts (m_good h4) rfl rfl rfl (hts _ h3) (hts _ h1) (hts _ h2) hyi hd hR) ⟨fun _ _ _ _ q => ⟨q.1, WS.blind q.2.1, q.2.2⟩, fun U hU hWm => ⟨rfl, ⟨hK.warm hWm, by rw [hU]; exact hbs, by rw [hU]; exact hW⟩, by rw [hU]; exact hz⟩⟩ rfl hn hsize hstack (lv_room hw) hdg hf
end NE
/-- the numbers with a new act at the places q and q2 -/
def newM (M : Mem) (q q2 n : Nat) (f : Nat → Int32) (pu sh dy : Int32) : Mem :=
  (uR (uR M.1 1000 (M.2.2 2 0 0) (fun k => if k = 0 then pu else if k = 1 then sh else dy)) 1001 (M.2.2 2 0 0) f, M.2.1, fun k i j => if k = 0 ∧ i = 0 ∧ j = M.2.2 2 0 0 then q else if k = 0 ∧ i = 1 ∧ j = M.2.2 2 0 0 then q2 else if k = 2 ∧ i = 0 ∧ j = 0 then M.2.2 2 0 0 + 1 else if k = 3 ∧ i = 0 ∧ j = M.2.2 2 0 0 then n else M.2.2 k i j)
section NM
variable {G : Gn} {M : Mem} {q q2 n : Nat} {f : Nat → Int32} {pu sh dy : Int32}
theorem newM_o {k i j : Nat} (h : ¬ (k = 0 ∧ i = 0 ∧ j = M.2.2 2 0 0)) (h2 : ¬ (k = 0 ∧ i = 1 ∧ j = M.2.2 2 0 0)) (h3 : ¬ (k = 2 ∧ i = 0 ∧ j = 0)) (h4 : ¬ (k = 3 ∧ i = 0 ∧ j = M.2.2 2 0 0)) : (newM M q q2 n f pu sh dy).2.2 k i j = M.2.2 k i j := by
  show (if k = 0 ∧ i = 0 ∧ j = M.2.2 2 0 0 then q else if k = 0 ∧ i = 1 ∧ j = M.2.2 2 0 0 then q2 else if k = 2 ∧ i = 0 ∧ j = 0 then M.2.2 2 0 0 + 1 else if k = 3 ∧ i = 0 ∧ j = M.2.2 2 0 0 then n else M.2.2 k i j) = _
  rw [if_neg h, if_neg h2, if_neg h3, if_neg h4]
theorem newM_2 : (newM M q q2 n f pu sh dy).2.2 2 0 0 = M.2.2 2 0 0 + 1 := by
  show (if 2 = 0 ∧ 0 = 0 ∧ 0 = M.2.2 2 0 0 then q else if 2 = 0 ∧ 0 = 1 ∧ 0 = M.2.2 2 0 0 then q2 else if 2 = 2 ∧ 0 = 0 ∧ 0 = 0 then M.2.2 2 0 0 + 1 else if 2 = 3 ∧ 0 = 0 ∧ 0 = M.2.2 2 0 0 then n else M.2.2 2 0 0) = _
  rw [if_neg (by omega), if_neg (by omega), if_pos ⟨rfl, rfl, rfl⟩]
theorem newM_00 : (newM M q q2 n f pu sh dy).2.2 0 0 (M.2.2 2 0 0) = q := if_pos ⟨rfl, rfl, rfl⟩
theorem newM_01 : (newM M q q2 n f pu sh dy).2.2 0 1 (M.2.2 2 0 0) = q2 := by
  show (if 0 = 0 ∧ 1 = 0 ∧ M.2.2 2 0 0 = M.2.2 2 0 0 then q else if 0 = 0 ∧ 1 = 1 ∧ M.2.2 2 0 0 = M.2.2 2 0 0 then q2 else _) = _
  rw [if_neg (by omega), if_pos ⟨rfl, rfl, rfl⟩]
theorem newM_3 : (newM M q q2 n f pu sh dy).2.2 3 0 (M.2.2 2 0 0) = n := by
  show (if 3 = 0 ∧ 0 = 0 ∧ M.2.2 2 0 0 = M.2.2 2 0 0 then q else if 3 = 0 ∧ 0 = 1 ∧ M.2.2 2 0 0 = M.2.2 2 0 0 then q2 else if 3 = 2 ∧ 0 = 0 ∧ M.2.2 2 0 0 = 0 then M.2.2 2 0 0 + 1 else if 3 = 3 ∧ 0 = 0 ∧ M.2.2 2 0 0 = M.2.2 2 0 0 then n else _) = _
  rw [if_neg (by omega), if_neg (by omega), if_neg (by omega), if_pos ⟨rfl, rfl, rfl⟩]
theorem WPm_act {H : Heap} (h : WPm G M H) (hq : lone G M q) (hq2 : lone G M q2) (v1 : va_at (gD G) vwCl (q, .inr (0, [.int pu, .int sh, .int dy, .ref q2])) H) (v2 : va_at (gD G) vwCl (q2, .inl (gI G, n, .inl f)) H) : WPm G (newM M q q2 n f pu sh dy) H := by
  obtain ⟨h1, h2, h3, h4, h5⟩ := h
  have e1000 : ∀ a, (newM M q q2 n f pu sh dy).1 1000 a = uR M.1 1000 (M.2.2 2 0 0) (fun k => if k = 0 then pu else if k = 1 then sh else dy) 1000 a := fun a => uR_nc (c' := 1000) (i' := a) (f := uR M.1 1000 (M.2.2 2 0 0) (fun k => if k = 0 then pu else if k = 1 then sh else dy)) (c := 1001) (i := M.2.2 2 0 0) (g := f) (by omega)
  have e1001 : ∀ a, (newM M q q2 n f pu sh dy).1 1001 a = uR (uR M.1 1000 (M.2.2 2 0 0) (fun k => if k = 0 then pu else if k = 1 then sh else dy)) 1001 (M.2.2 2 0 0) f 1001 a := fun a => rfl
  have c1 : ∀ c i, c ≠ 1000 → c ≠ 1001 → (newM M q q2 n f pu sh dy).1 c i = M.1 c i := fun c i a b => (uR_nc b).trans (uR_nc a)
  refine ⟨fun c i hi => ⟨(h1 c i hi).1, ?_⟩, h2, fun a ha => ?_, h4, fun w j hw hj => ?_⟩
  · have hc := m_sz hi
    rw [c1 c i (by omega) (by omega)]
    have old := (h1 c i hi).2
    by_cases z : c = 34
    · subst z
      have hi3 : i < 3 := hi
      show H[ad G 34 i]? = some (vp_cell (gA G) (16, .inr (.inr (.inr (.inr (tlK (newM M q q2 n f pu sh dy).2.2 i))))))
      have old : H[ad G 34 i]? = some (vp_cell (gA G) (16, .inr (.inr (.inr (.inr (tlK M.2.2 i)))))) := old
      rw [old, vp_cell_q, vp_cell_q]
      congr 1
      refine arrV_congr (fun j hj => ?_)
      have lj := h5 i j hi3 hj
      congr 1
      unfold tlK
      rw [newM_o (by omega) (by omega) (by omega) (by omega)]
      cases e : M.2.2 1 i j with
      | zero => rfl
      | succ a =>
        show some (M.2.2 0 0 a) = some ((newM M q q2 n f pu sh dy).2.2 0 0 a)
        rw [newM_o (by omega) (by omega) (by omega) (by omega)]
    · have hE : Esh G (newM M q q2 n f pu sh dy).2.2 c i (M.1 c i) (M.2.1 c i) = Esh G M.2.2 c i (M.1 c i) (M.2.1 c i) := by
        unfold Esh
        split <;> first | rfl | (rw [newM_o (by omega) (by omega) (by omega) (by omega)]) | (exact absurd rfl z)
      show va_at _ _ (_, Esh G (newM M q q2 n f pu sh dy).2.2 c i (M.1 c i) (M.2.1 c i)) H
      rw [hE]
      exact old
  · rw [newM_2] at ha
    by_cases z : a = M.2.2 2 0 0
    · subst z
      rw [newM_00, newM_01]
      refine ⟨⟨hq.1, hq2.1⟩, ?_, ?_, fun c i hi => ⟨hq.2.1 c i hi, hq2.2.1 c i hi⟩⟩
      · unfold actE
        rw [newM_01, e1000, uR_eq]
        exact v1
      · unfold astE
        rw [newM_3, e1001, uR_eq]
        exact v2
    · obtain ⟨b1, b2, b3, b4⟩ := h3 a (by omega)
      rw [newM_o (k := 0) (i := 0) (j := a) (by omega) (by omega) (by omega) (by omega), newM_o (k := 0) (i := 1) (j := a) (by omega) (by omega) (by omega) (by omega)]
      refine ⟨b1, ?_, ?_, b4⟩
      · unfold actE
        rw [newM_o (k := 0) (i := 1) (j := a) (by omega) (by omega) (by omega) (by omega), e1000, uR_ni z]
        exact b2
      · unfold astE
        rw [newM_o (k := 3) (i := 0) (j := a) (by omega) (by omega) (by omega) (by omega), e1001, uR_ni z, uR_nc (by omega)]
        exact b3
  · rw [newM_2, newM_o (by omega) (by omega) (by omega) (by omega)]
    exact Nat.le_succ_of_le (h5 w j hw hj)
end NM
theorem aw_1 : Cond.methodLink "MilkDesk$Act" 1 Lib.objectInit ∈ lw_G := lw_Gi 702 (by decide +kernel) rfl
theorem aw_2 : Cond.instanceMethod Lib.objectInit ∈ lw_G := lw_Gi 93 (by decide +kernel) rfl
theorem aw_3 : Cond.code Lib.objectInit ⟨#[0xb1]⟩ 1 none ∈ lw_G := lw_Gi 94 (by decide +kernel) rfl
theorem aw_4 : Cond.methodLink "MilkDesk$Act" 19 Lib.Math.min.name ∈ lw_G := lw_Gi 703 (by decide +kernel) rfl
theorem aw_5 : Cond.methodLink "MilkDesk$Act" 25 Lib.Math.max.name ∈ lw_G := lw_Gi 704 (by decide +kernel) rfl
theorem aw_6 : Cond.methodLink "MilkDesk$Act" 32 arraycopyName ∈ lw_G := lw_Gi 705 (by decide +kernel) rfl
theorem aw_7 : Cond.static Lib.Math.max.name ∈ lw_G := lw_Gi 536 (by decide +kernel) rfl
theorem aw_8 : Cond.code Lib.Math.max.name Lib.Math.max.code 2 (some .int) ∈ lw_G := lw_Gi 537 (by decide +kernel) rfl
theorem aw_9 : Cond.fieldLink "MilkDesk$Act" 7 (TX0 0).1 (TX0 0).2.1 (TX0 0).2.2.1 ∈ lw_G := lw_Gi 708 (by decide +kernel) rfl
theorem aw_10 : Cond.fieldLink "MilkDesk$Act" 13 (TX0 1).1 (TX0 1).2.1 (TX0 1).2.2.1 ∈ lw_G := lw_Gi 710 (by decide +kernel) rfl
theorem aw_11 : Cond.fieldLink "MilkDesk$Act" 16 (TX0 2).1 (TX0 2).2.1 (TX0 2).2.2.1 ∈ lw_G := lw_Gi 712 (by decide +kernel) rfl
theorem aw_12 : Cond.classLink "MilkDesk$ActReader" 66 "MilkDesk$Act" ∈ lw_G := lw_Gi 697 (by decide +kernel) rfl
theorem aw_13 : Cond.instantiable "MilkDesk$Act" 4 ∈ lw_G := lw_Gi 698 (by decide +kernel) rfl
theorem aw_14 : Cond.methodLink "MilkDesk$ActReader" 68 yX0_init ∈ lw_G := lw_Gi 699 (by decide +kernel) rfl
theorem aw_15 : Cond.instanceMethod yX0_init ∈ lw_G := lw_Gi 700 (by decide +kernel) rfl
theorem aw_16 : Cond.code yX0_init cX0_init 7 none ∈ lw_G := lw_Gi 701 (by decide +kernel) rfl
theorem aw_17 : Cond.initialized "MilkDesk$Act" ∈ lw_G := lw_Gi 78 (by decide +kernel) rfl
theorem aw_18 : Cond.arrayClass .int ∈ lw_G := lw_Gi 149 (by decide +kernel) rfl
theorem aw_19 : Cond.static Lib.Math.min.name ∈ lw_G := lw_Gi 533 (by decide +kernel) rfl
theorem aw_20 : Cond.code Lib.Math.min.name Lib.Math.min.code 2 (some .int) ∈ lw_G := lw_Gi 534 (by decide +kernel) rfl
/-- how many steps an act takes: from 0 to 80 -/
def nst (ln : Int32) : Int32 := if 0 < (if 80 < ln then (80 : Int32) else ln) then (if 80 < ln then (80 : Int32) else ln) else 0
theorem nst_ok (ln : Int32) : ¬ nst ln < 0 ∧ (nst ln).toNatClampNeg ≤ 80 ∧ (nst ln).toNatClampNeg = (if (if 80 < ln then (80 : Int32) else ln) < 0 then 0 else (if 80 < ln then (80 : Int32) else ln)).toNatClampNeg := by
  have e80 : (80 : Int32).toInt = 80 := by decide
  have e0 : (0 : Int32).toInt = 0 := by decide
  have hv : (if 80 < ln then (80 : Int32) else ln).toInt ≤ 80 := by
    split
    · rw [e80]; omega
    · rename_i h
      rw [Int32.lt_iff_toInt_lt, e80] at h
      omega
  unfold nst
  generalize (if 80 < ln then (80 : Int32) else ln) = v at *
  by_cases h : 0 < v
  · rw [if_pos h]
    rw [Int32.lt_iff_toInt_lt, e0] at h
    have h2 : ¬ v < 0 := by rw [Int32.lt_iff_toInt_lt, e0]; omega
    rw [if_neg h2]
    refine ⟨h2, ?_, rfl⟩
    show v.toInt.toNat ≤ 80
    omega
  · rw [if_neg h]
    refine ⟨by decide, by decide, ?_⟩
    rw [Int32.lt_iff_toInt_lt, e0] at h
    by_cases h2 : v < 0
    · rw [if_pos h2]
    · rw [if_neg h2]
      rw [Int32.lt_iff_toInt_lt, e0] at h2
      show (0 : Int32).toInt.toNat = v.toInt.toNat
      rw [e0]; omega
abbrev rm_X0_init : Room := { frames := 1, cells := 1, slots := 80, locals := 80 }
set_option maxHeartbeats 4000000 in
set_option maxRecDepth 100000 in
theorem c_X0_init (l : Launch) {G : Gn} {M : Mem} {q : Nat} {x1 x2 x3 x5 : Int32} : Met l yX0_init (cwd yX0_init cX0_init 7 none) rm_X0_init (va_Pc [.ref q, .int x1, .int x2, .int x3, .ref (ad G 40 0), .int x5] (fun U => WS G M U ∧ (lone G M q ∧ va_at (gD G) vwCl (q, .inr (0, [.int 0, .int 0, .int 0, .null])) U.heap)))
    (va_Qv (S := Mem) (fun M1 => ∃ q2 f, M1 = newM M q q2 (nst x5).toNatClampNeg f x1 x2 x3 ∧ ∀ j, j < (nst x5).toNatClampNeg → f j = M.1 40 0 j) (WS G) (fun q => bs G ≤ q)) rm_X0_init.cells rm_X0_init.slots (fun q => bs G ≤ q) := by
  refine m_enterH (Zh := fun H => lone G M q ∧ va_at (gD G) vwCl (q, .inr (0, [.int 0, .int 0, .int 0, .null])) H) (by decide +kernel) (Nat.le_of_ble_eq_true rfl) ?_
  intro p e s m below meth c ls H locs S hret hlocks hname hKX hbs hW hS hl hz
  obtain ⟨AV, hAV⟩ : ∃ z : Array Value, z = ([.ref q, .int x1, .int x2, .int x3, .ref (ad G 40 0), .int x5] : List Value).toArray := ⟨_, rfl⟩
  rw [← hAV] at S ⊢
  replace S : CallFix p m c cX0_init 7 s AV lw_G "MilkDesk$Act" := S
  have hK := hKX.1
  have hx := S.1
  have hb := S.2.1
  have hml := S.2.2.1
  have hown := S.2.2.2.1
  have hts := S.2.2.2.2
  obtain ⟨hq, hat⟩ := hz
  replace hl : lv_has ls 7 [(0, .ref q), (1, .int x1), (2, .int x2), (3, .int x3), (4, .ref (ad G 40 0)), (5, .int x5)] := hl
  refine lv_aload_n hx hb dX0_init_0 rfl (lv_at hl 0 rfl) ?_
  refine W.objInit hx hb hown (hts _ aw_1) (hts _ aw_2) (hts _ aw_3) rfl (by rw [hml]; exact hl.1) rfl dX0_init_1 (Nat.le_of_ble_eq_true rfl) (Nat.le_of_ble_eq_true rfl) ?_
  refine W.eq (g2 := F0 m 4 ls []) rfl ?_
  refine lv_aload_n hx hb dX0_init_4 rfl (lv_at hl 0 rfl) ?_
  refine lv_iload_n hx hb dX0_init_5 rfl (lv_at hl 1 rfl) ?_
  refine m_putF S hK (ci := 0) (k := 0) ⟨rfl, Nat.le_of_ble_eq_true rfl, aw_9, in_wsX00⟩ tyX0_ok nmX0 rfl hname rfl (tyX0_ok 0 (Nat.le_of_ble_eq_true rfl)) rfl rfl (Nat.le_of_ble_eq_true rfl) hat hS hq.1 dX0_init_6 (fun H1 locs at1 z1 o1 hS => ?_)
  have hW1 := hW.lone hq o1
  refine lv_aload_n hx hb dX0_init_9 rfl (lv_at hl 0 rfl) ?_
  refine lv_iload_n hx hb dX0_init_10 rfl (lv_at hl 2 rfl) ?_
  refine m_putF S hK (ci := 0) (k := 1) ⟨rfl, Nat.le_of_ble_eq_true rfl, aw_10, in_wsX00⟩ tyX0_ok nmX0 rfl hname rfl (tyX0_ok 1 (Nat.le_of_ble_eq_true rfl)) rfl rfl (Nat.le_of_ble_eq_true rfl) at1 hS hq.1 dX0_init_11 (fun H2 locs at2 z2 o2 hS => ?_)
  have hW2 := hW1.lone hq o2
  refine lv_aload_n hx hb dX0_init_14 rfl (lv_at hl 0 rfl) ?_
  refine lv_iload_n hx hb dX0_init_15 rfl (lv_at hl 3 rfl) ?_
  refine m_putF S hK (ci := 0) (k := 2) ⟨rfl, Nat.le_of_ble_eq_true rfl, aw_11, in_wsX00⟩ tyX0_ok nmX0 rfl hname rfl (tyX0_ok 2 (Nat.le_of_ble_eq_true rfl)) rfl rfl (Nat.le_of_ble_eq_true rfl) at2 hS hq.1 dX0_init_16 (fun H3 locs at3 z3 o3 hS => ?_)
  have hW3 := hW2.lone hq o3
  refine lv_iconst hx hb dX0_init_19 ki_0 ?_
  refine lv_iload hx hb dX0_init_20 (lv_at hl 5 rfl) ?_
  refine lv_aload hx hb dX0_init_22 (lv_at hl 4 rfl) ?_
  refine m_alen S hK (kc := 40) (i := 0) (n := 80) (v := 80) (fun _ _ _ _ => rfl) hW3 (Nat.le_of_ble_eq_true rfl) (by decide +kernel) dX0_init_24 ?_
  refine va_mmin hx hb (hml.trans hl.1.symm) hown (hts _ aw_4) (hts _ aw_19) (hts _ mw_13) (hts _ aw_20) (Nat.le_of_ble_eq_true rfl) (Nat.le_of_ble_eq_true rfl) (Nat.zero_le _) (Nat.zero_le _) dX0_init_25 ?_
  refine va_mmax hx hb (hml.trans hl.1.symm) hown (hts _ aw_5) (hts _ aw_7) (hts _ mw_13) (hts _ aw_8) (Nat.le_of_ble_eq_true rfl) (Nat.le_of_ble_eq_true rfl) (Nat.zero_le _) (Nat.zero_le _) dX0_init_28 ?_
  obtain ⟨n1, n2, n3⟩ := nst_ok x5
  show W p l e _ s m AV below meth c H3 locs _ _ _ (F0 m 31 ls (.int (nst x5) :: []))
  generalize nst x5 = v at *
  refine lv_istore (lv' := [(6, .int v), (0, .ref q), (1, .int x1), (2, .int x2), (3, .int x3), (4, .ref (ad G 40 0)), (5, .int x5)]) hx hb dX0_init_31 hl (by decide) rfl (fun ls hl => ?_)
  refine lv_aload_n hx hb dX0_init_33 rfl (lv_at hl 1 rfl) ?_
  refine lv_iload hx hb dX0_init_34 (lv_at hl 0 rfl) ?_
  refine m_newi S hK hS n1 rfl (by omega) (Nat.le_of_ble_eq_true rfl) (by show 0 + _ ≤ 80; omega) aw_18 dX0_init_36 (fun H4 z4 at4 o4 hS => ?_)
  have hb3 : bs G ≤ H3.size := m_szH hbs ‹_›
  have hq2 : lone G M H3.size := lone_new hW3 hb3
  have hW4 := hW3.lone hq2 o4
  have at3' := at3.kept (o4 _ (fun z => by have := at3.lt; omega))
  have hne : H3.size ≠ q := fun z => by have := at3.lt; omega
  refine m_putF S hK fk_X0_28 tyX0_ok nmX0 rfl hname rfl (tyX0_ok 3 (Nat.le_of_ble_eq_true rfl)) rfl rfl (Nat.le_of_ble_eq_true rfl) at3' hS hq.1 dX0_init_38 (fun H5 locs at5 z5 o5 hS => ?_)
  have hW5 := hW4.lone hq o5
  have at4' := at4.kept (o5 _ hne)
  refine lv_aload hx hb dX0_init_41 (lv_at hl 5 rfl) ?_
  refine lv_iconst hx hb dX0_init_43 ki_0 ?_
  refine lv_aload_n hx hb dX0_init_44 rfl (lv_at hl 1 rfl) ?_
  refine m_get S hK fk_X0_28 at5 rfl dX0_init_45 ?_
  refine lv_iconst hx hb dX0_init_48 ki_0 ?_
  refine lv_iload hx hb dX0_init_49 (lv_at hl 0 rfl) ?_
  refine m_acopyN S hK hml hl.1 (k0 := 40) (i0 := 0) (n0 := 80) (fun _ _ _ _ => rfl) hW5 hS (Nat.le_of_ble_eq_true rfl) hb3 at4' (hts _ aw_6) (hts _ mw_647) (hts _ mw_646) (hts _ mw_19) ⟨by decide, by decide, n1, by show 0 + _ ≤ _; omega, by show 0 + _ ≤ _; omega⟩ (Nat.le_of_ble_eq_true rfl) (Nat.le_of_ble_eq_true rfl) dX0_init_51 (fun H6 locs at6 z6 o6 hS => ?_)
  have hW6 := hW5.lone hq2 o6
  have at5' := at5.kept (o6 _ (Ne.symm hne))
  refine W.widen (k := 1) (n := 80) (Nat.le_refl _) (by show 0 + _ ≤ 80; omega) ?_
  refine m_vret S hret hlocks hKX (WPm_act hW6 hq hq2 at5' at6) hbs hS ⟨_, _, rfl, fun j hj => ?_⟩ dX0_init_54
  show (if 0 ≤ j ∧ j < 0 + _ then M.1 40 0 (0 + (j - 0)) else 0) = _
  rw [if_pos ⟨Nat.zero_le _, by omega⟩, Nat.sub_zero, Nat.zero_add]
abbrev rm_X2_toAct : Room := { frames := 3, cells := 2, slots := 84, locals := 120 }
set_option maxHeartbeats 4000000 in
set_option maxRecDepth 100000 in
theorem c_X2_toAct (l : Launch) {G : Gn} {M : Mem} {x1 x2 : Int32} {P : Nat → Mem → Prop} : MQa l yX2_toAct cX2_toAct 3 (some (.object "MilkDesk$Act")) rm_X2_toAct [.ref (ad G 8 0), .int x1, .int x2] G M (s_X2_toAct M x1 x2 P) P := by
  refine m_enter (by decide +kernel) (Nat.le_of_ble_eq_true rfl) ?_
  intro p e s m below meth c ls H locs S hret hlocks hname hKX hbs hW hS hl h
  obtain ⟨AV, hAV⟩ : ∃ z : Array Value, z = ([.ref (ad G 8 0), .int x1, .int x2] : List Value).toArray := ⟨_, rfl⟩
  rw [← hAV] at S ⊢
  replace S : CallFix p m c cX2_toAct 3 s AV lw_G "MilkDesk$ActReader" := S
  have hK := hKX.1
  have hx := S.1
  have hb := S.2.1
  have hml := S.2.2.1
  have hown := S.2.2.2.1
  have hts := S.2.2.2.2
  replace hl : lv_has ls 3 [(0, .ref (ad G 8 0)), (1, .int x1), (2, .int x2)] := hl
  unfold s_X2_toAct at h
  have hb0 : bs G ≤ H.size := m_szH hbs hS
  have hq : lone G M H.size := lone_new hW hb0
  refine m_new S hK (ci := 0) rfl in_wsX00 tyX0 tyX0_ok aw_12 aw_13 aw_17 hS (fs := [.int 0, .int 0, .int 0, .null]) ?_ (Nat.le_of_ble_eq_true rfl) (Nat.le_of_ble_eq_true rfl) dX2_toAct_0 (fun H1 z1 at1 o1 hS => ?_)
  · intro j hj
    rcases (show j = 0 ∨ j = 1 ∨ j = 2 ∨ j = 3 by omega) with rfl | rfl | rfl | rfl <;> rfl
  have hW1 := hW.lone hq o1
  generalize hq0 : H.size = q at *
  refine lv_dup hx hb dX2_toAct_3 rfl ?_
  refine lv_aload_n hx hb dX2_toAct_4 rfl (lv_at hl 0 rfl) ?_
  refine m_geti S hK fk_X2_53 (gi_8_2 G) hW1 (ci_8 (Nat.le_of_ble_eq_true rfl)) dX2_toAct_5 ?_
  refine lv_iload_n hx hb dX2_toAct_8 rfl (lv_at hl 1 rfl) ?_
  refine lv_iload_n hx hb dX2_toAct_9 rfl (lv_at hl 2 rfl) ?_
  refine lv_aload_n hx hb dX2_toAct_10 rfl (lv_at hl 0 rfl) ?_
  refine m_getr S hK fk_X2_9 (gr_8_0 G 0) hW1 (ci_8 (Nat.le_of_ble_eq_true rfl)) dX2_toAct_11 ?_
  refine lv_aload_n hx hb dX2_toAct_14 rfl (lv_at hl 0 rfl) ?_
  refine m_geti S hK fk_X2_40 (gi_8_1 G) hW1 (ci_8 (Nat.le_of_ble_eq_true rfl)) dX2_toAct_15 ?_
  refine m_cv (m_rI (rm := rm_X0_init) (Zh := fun H => lone G M q ∧ va_at (gD G) vwCl (q, .inr (0, [.int 0, .int 0, .int 0, .null])) H) S hKX hW1 (by omega) (c_X0_init l) ⟨hq, at1⟩ aw_14 aw_15 aw_17 aw_16 (n := 5) ⟨by decide +kernel, by decide +kernel, by decide +kernel⟩ rfl rfl hl.1 rfl ⟨Nat.le_of_ble_eq_true rfl, Nat.le_of_ble_eq_true rfl⟩ (Nat.le_of_ble_eq_true rfl) ⟨Nat.le_of_ble_eq_true rfl, Nat.le_of_ble_eq_true rfl⟩ dX2_toAct_18) hS (fun M2 H2 locs hM2 hW2 hS => ?_)
  obtain ⟨q2, f, rfl, hf⟩ := hM2
  have hp := h (newM M q q2 (nst (M.1 8 0 1)).toNatClampNeg f (M.1 8 0 2) x1 x2) ?_
  · exact W.aret hx hb hret (Or.inl ⟨_, rfl⟩) (Or.inr ⟨_, rfl⟩) (fun t ht hWm => ⟨⟨(M.2.2 2 0 0, newM M q q2 (nst (M.1 8 0 1)).toNatClampNeg f (M.1 8 0 2) x1 x2), q, rfl, hp, ⟨hKX.warm hWm, by rw [ht]; exact Nat.le_trans hbs hS.1, by rw [ht]; exact hW2⟩, newM_00.symm, by show _ < (newM M q q2 (nst (M.1 8 0 1)).toNatClampNeg f (M.1 8 0 2) x1 x2).2.2 2 0 0; rw [newM_2]; exact Nat.lt_succ_self _⟩, hS.F ht⟩) hS.2.2 dX2_toAct_21
  · refine ⟨(nst (M.1 8 0 1)).toNatClampNeg, f, (nst_ok _).2.2, hf, rfl, rfl, ?_, ?_, ?_, ⟨newM_3, fun a ha => newM_o (by omega) (by omega) (by omega) (by omega)⟩, fun i a ha => newM_o (by omega) (by omega) (by omega) (by omega)⟩
    · funext i j
      by_cases z : i = 0 ∧ j = 0
      · obtain ⟨rfl, rfl⟩ := z
        rw [newM_2]
        show _ = (uR (fun _ => M.2.2 2) 0 0 (va_up (M.2.2 2 0) 0 (M.2.2 2 0 0 + 1)) 0) 0 0
        rw [uR_eq]
        simp [va_up]
      · rw [newM_o (by omega) (by omega) (by omega) (by omega)]
        show _ = (uR (fun _ => M.2.2 2) 0 0 (va_up (M.2.2 2 0) 0 (M.2.2 2 0 0 + 1)) 0) i j
        by_cases z2 : i = 0
        · subst z2
          rw [uR_eq]
          unfold va_up
          rw [if_neg (fun y => z ⟨rfl, y⟩)]
        · rw [uR_ni z2]
    · funext i j
      exact newM_o (by omega) (by omega) (by omega) (by omega)
    · funext i j
      exact newM_o (by omega) (by omega) (by omega) (by omega)
