/-! element AND toss: a call that throws, calls that catch -/
theorem mw_337 : Cond.fieldLink "MilkDesk" 340 "MilkDesk$Shelf" "school" "I" ∈ lw_G := lw_Gi 397 (by decide +kernel) rfl
theorem fk_X11_340 : FLK "MilkDesk" 340 8 3 RX9 TX9 7 := ⟨rfl, Nat.le_of_ble_eq_true rfl, mw_337, in_wsX90⟩
theorem mw_1019 : Cond.code yX3_canFail cX3_canFail 2 (some .boolean) ∈ lw_G := lw_Gi 1079 (by decide +kernel) rfl
theorem mw_1018 : Cond.static yX3_canFail ∈ lw_G := lw_Gi 1078 (by decide +kernel) rfl
theorem mw_1017 : Cond.methodLink "MilkDesk" 331 yX3_canFail ∈ lw_G := lw_Gi 1077 (by decide +kernel) rfl
theorem lk_X11_331 : LKS "MilkDesk" 331 yX3_canFail cX3_canFail 2 (some .boolean) 2 := ⟨mw_1017, mw_1018, mw_20, mw_1019, by decide +kernel, by decide +kernel, by decide +kernel⟩
theorem mw_1022 : Cond.code yX3_fail cX3_fail 1 none ∈ lw_G := lw_Gi 1082 (by decide +kernel) rfl
theorem mw_1021 : Cond.static yX3_fail ∈ lw_G := lw_Gi 1081 (by decide +kernel) rfl
theorem mw_1020 : Cond.methodLink "MilkDesk" 334 yX3_fail ∈ lw_G := lw_Gi 1080 (by decide +kernel) rfl
theorem lk_X11_334 : LKS "MilkDesk" 334 yX3_fail cX3_fail 1 none 1 := ⟨mw_1020, mw_1021, mw_20, mw_1022, by decide +kernel, by decide +kernel, by decide +kernel⟩
theorem mw_1130 : Cond.code yX11_element cX11_element 4 (some .long) ∈ lw_G := lw_Gi 1190 (by decide +kernel) rfl
theorem mw_1128 : Cond.instanceMethod yX11_element ∈ lw_G := lw_Gi 1188 (by decide +kernel) rfl
theorem mw_1129 : Cond.selects yX11_element.cls yX11_element yX11_element ∈ lw_G := lw_Gi 1189 (by decide +kernel) rfl
theorem mw_1127 : Cond.methodLink "MilkDeskLaw" 7 yX11_element ∈ lw_G := lw_Gi 1187 (by decide +kernel) rfl
theorem lk_L_7 : LKV "MilkDeskLaw" 7 yX11_element.cls yX11_element cX11_element 4 (some .long) 2 := ⟨mw_1127, mw_1128, mw_1129, mw_1, mw_1130, by decide +kernel, by decide +kernel, by decide +kernel⟩
abbrev eIA : String := "java/lang/IllegalArgumentException"
abbrev eIS : String := "java/lang/IllegalStateException"
abbrev eUO : String := "java/lang/UnsupportedOperationException"
theorem ew_1 : Cond.classLink "MilkDesk" 283 eIA ∈ lw_G := lw_Gi 1075 (by decide +kernel) rfl
theorem ew_2 : Cond.classLink "MilkDesk" 290 eIS ∈ lw_G := lw_Gi 1076 (by decide +kernel) rfl
theorem ew_3 : Cond.classLink "MilkDesk" 338 eUO ∈ lw_G := lw_Gi 1074 (by decide +kernel) rfl
theorem ew_4 : Cond.classLink "MilkDeskLaw" 13 eIA ∈ lw_G := lw_Gi 1185 (by decide +kernel) rfl
theorem ew_5 : Cond.classLink "MilkDeskLaw" 15 eIS ∈ lw_G := lw_Gi 1186 (by decide +kernel) rfl
theorem ew_6 : Cond.castable eUO eUO ∈ lw_tbl := List.mem_of_getElem? (i := 1085) (by decide +kernel)
theorem ew_7 : Cond.castable eIA eIA ∈ lw_tbl := List.mem_of_getElem? (i := 1152) (by decide +kernel)
theorem ew_8 : Cond.castable eIS eIS ∈ lw_tbl := List.mem_of_getElem? (i := 1168) (by decide +kernel)
theorem xf_cast {G : Gn} {s : State} (h : XF G s) {C T : String} (hm : Cond.castable C T ∈ lw_tbl) {a : Array Value} : (Cond.castable C T).before a s = true := va_Nw.use rfl (h.2.2.2.2.2.2.1 C T hm)
theorem xf_n1 {G : Gn} {s : State} (h : XF G s) : va_Nc eIA eUO s := h.2.2.2.2.2.2.2.2.1
theorem xf_n2 {G : Gn} {s : State} (h : XF G s) : va_Nc eIS eUO s := h.2.2.2.2.2.2.2.2.2.1
theorem xf_n3 {G : Gn} {s : State} (h : XF G s) : va_Nc eIS eIA s := h.2.2.2.2.2.2.2.2.2.2
/-- what element does -/
def s_X11_element (M : Mem) (x1 x2 : Int32) (P : Int64 → Mem → Prop) (X : String → Mem → Prop) : Prop :=
  s_X11_shelfAt M x1 (fun rr2 Mm2 => (rr2 = none → X eIA Mm2) ∧ (∀ d2 : Nat, rr2 = some d2 → d2 < 8 ∧ (s_X11_rowRefusal d2 Mm2 (fun rr22 Mm22 => (¬ rr22 = 0 → X eIS Mm22) ∧ (rr22 = 0 → s_X9_hasPlace d2 Mm22 x2 (fun rr30 Mm30 => (¬ rr30 = 0 → vp_in x2 80 ∧ P (Mm30.1 39 d2 x2.toNatClampNeg).toInt64 Mm30) ∧ (rr30 = 0 → X eIS Mm30)))))))
abbrev rm_X11_element : Room := { frames := 6, cells := 1, slots := 6, locals := 120 }
set_option maxHeartbeats 4000000 in
set_option maxRecDepth 100000 in
theorem c_X11_element (l : Launch) (hl0 : l.stackTraces = false) {G : Gn} {M : Mem} {x1 x2 : Int32} {P : Int64 → Mem → Prop} {X : String → Mem → Prop} : vx_Met l yX11_element (cwd yX11_element cX11_element 4 (some .long)) rm_X11_element (va_Pc [.ref (ad G 0 0), .int x1, .int x2] (fun U => WS G M U ∧ s_X11_element M x1 x2 P X)) (va_Ql P (WS G) (fun q => bs G ≤ q)) (vx_X (S := Mem) (fun _ => True) (fun E M1 t => X E M1 ∧ WPm G M1 t.heap) (fun q => bs G ≤ q)) 1 6 (fun q => bs G ≤ q) := by
  refine vx_ofW (cc := cX11_element) (maxL := 4) (ret := some .long) (by decide +kernel) rfl ?_
  intro p e s m args below meth c s₁ B hml htab hv
  obtain ⟨rfl, ⟨hKX, hbs, hW⟩, h⟩ := hv
  have hret : meth.sig.returnType = some .long := B.returns
  have hts0 := atoms_spec (ws := cwd yX11_element cX11_element 4 (some .long)) B.pre
  have hown : s.vm.findClass "MilkDesk" = some m.cls := findClass_of_methodNamed B.named
  have hlocks := B.notSynchronized
  have hl := lv_entry ([.ref (ad G 0 0), .int x1, .int x2] : List Value) (n := 4) (Nat.le_of_ble_eq_true rfl)
  rw [lg_entry_eq]
  generalize (lg_sl ([.ref (ad G 0 0), .int x1, .int x2] : List Value) ++ List.replicate (4 - (lg_sl ([.ref (ad G 0 0), .int x1, .int x2] : List Value)).length) Slot.unset).toArray = ls at hl ⊢
  replace hl : lv_has ls 4 [(0, .ref (ad G 0 0)), (1, .int x1), (2, .int x2)] := hl
  have S : CallFix p m c cX11_element 4 s ([.ref (ad G 0 0), .int x1, .int x2] : List Value).toArray lw_G "MilkDesk" := ⟨B.exec, B.bytes, hml, hown, fun w hw => hts0 w (List.mem_cons_of_mem _ hw)⟩
  generalize ([.ref (ad G 0 0), .int x1, .int x2] : List Value).toArray = AV at S ⊢
  have hS : va_S (fun q => bs G ≤ q) s.heap s.heap [] := va_S.rf
  obtain ⟨-, -, ⟨-, -, -, -, -, -, -, -, k7, k8⟩, XU, XN, -⟩ := hKX.2
  have kp : ∀ a : Nat, a < (gH G).size → ¬ bs G ≤ a → s.heap[a]? = (gH G)[a]? := fun a _ hA => hW.2.2.2.1 a (Nat.not_le.mp hA)
  have hU := XU.kept kp
  have hN := XN.kept kp
  have hK := hKX.1
  have hx := S.1
  have hb := S.2.1
  have hts := S.2.2.2.2
  have fin : ∀ (cls : String) (M1 : Mem) (H : Heap) (locs : List Loc), X cls M1 → WPm G M1 H → va_S (fun q => bs G ≤ q) s.heap H locs → ∀ t : State, s.vm.Alike t.vm → H.size ≤ t.heap.size → (∀ q : Nat, q < H.size → t.heap[q]? = H[q]?) → (vx_X (S := Mem) (fun _ => True) (fun E M1 t => X E M1 ∧ WPm G M1 t.heap) (fun q => bs G ≤ q)) cls s t :=
    fun cls M1 H locs hX hW1 hS1 t _ h1 h2 => ⟨M1, trivial, ⟨hX, WPm_grow hW1 (Nat.le_trans hbs hS1.1) h2⟩, Nat.le_trans hS1.1 h1, fun q hq hA => (h2 q (Nat.lt_of_lt_of_le hq hS1.1)).trans (hS1.2.1 q hq hA)⟩
  generalize hH : s.heap = H at hW
  have hS : va_S (fun q => bs G ≤ q) s.heap H [] := by rw [← hH]; exact va_S.rf
  show W p l e rm_X11_element s m AV below meth c H [] 0 0 _ _
  unfold s_X11_element at h
  have t4 : ∀ (M1 : Mem) (H : Heap) (locs : List Loc) (ls : Array Slot), X eIS M1 → WPm G M1 H → va_S (fun q => bs G ≤ q) s.heap H locs → ls.size = 4 → W p l e rm_X11_element s m AV below meth c H locs 0 0 (vx_MQ below (va_Ql P (WS G) (fun q => bs G ≤ q)) (vx_X (S := Mem) (fun _ => True) (fun E M1 t => X E M1 ∧ WPm G M1 t.heap) (fun q => bs G ≤ q)) AV s 1 6 (fun q => bs G ≤ q)) (F0 m 36 ls []) := by
    intro M1 H locs ls hX1 hW hS hz
    exact vx_throwSW (own := "MilkDesk") (names := nmT) (A := fun q => bs G ≤ q) hx hb hl0 hown (by decide +kernel) (by decide +kernel) (hts _ ew_2) (hts _ (lw_Gi 85 (by decide +kernel) rfl)) k8 (x_hat hts hKX.2 at_T4 th_T4) (hg_T rfl rfl ot_T4) hU hN hS (by rw [hml]; exact hz) dX11_element_36 dX11_element_39 dX11_element_40 dX11_element_43 dX11_element_46 (fun x h => (htab x h).elim) (by decide) (by decide) (Nat.le_of_ble_eq_true rfl) (Nat.le_of_ble_eq_true rfl) hlocks (fin _ M1 H locs hX1 hW hS) hS.2.2 (Nat.le_of_ble_eq_true rfl) (Nat.le_of_ble_eq_true rfl)
  refine lv_aload_n hx hb dX11_element_0 rfl (lv_at hl 0 rfl) ?_
  refine lv_iload_n hx hb dX11_element_1 rfl (lv_at hl 1 rfl) ?_
  refine m_cq0 (m_rV S hKX hW (m_szH hbs hS) (c_X11_shelfAt l ) h lk_X11_100 (m_recv hK hW (ci_0 (Nat.le_of_ble_eq_true rfl)) (rc_0 G) rfl) rfl hl.1 rfl ⟨Nat.le_of_ble_eq_true rfl, Nat.le_of_ble_eq_true rfl⟩ (Nat.le_of_ble_eq_true rfl) ⟨Nat.le_of_ble_eq_true rfl, Nat.le_of_ble_eq_true rfl⟩ dX11_element_2) hS rfl rfl (fun Mm2 H locs h hW hS => ?_) (fun d2 Mm2 H locs h hW hS => ?_)
  · replace h := h.1 rfl
    refine lv_astore_nN (lv' := [(3, .null), (0, .ref (ad G 0 0)), (1, .int x1), (2, .int x2)]) hx hb dX11_element_5 rfl hl (by decide) rfl (fun ls hl => ?_)
    refine lv_aload_nN hx hb dX11_element_6 rfl (lv_at hl 0 rfl) ?_
    refine lv_ifnonnullN hx hb dX11_element_7 ?_
    exact vx_throwSW (own := "MilkDesk") (names := nmT) (A := fun q => bs G ≤ q) hx hb hl0 hown (by decide +kernel) (by decide +kernel) (hts _ ew_1) (hts _ (lw_Gi 84 (by decide +kernel) rfl)) k7 (x_hat hts hKX.2 at_T3 th_T3) (hg_T rfl rfl ot_T3) hU hN hS (by rw [hml]; exact hl.1) dX11_element_10 dX11_element_13 dX11_element_14 dX11_element_17 dX11_element_20 (fun x h => (htab x h).elim) (by decide) (by decide) (Nat.le_of_ble_eq_true rfl) (Nat.le_of_ble_eq_true rfl) hlocks (fin _ Mm2 H locs h hW hS) hS.2.2 (Nat.le_of_ble_eq_true rfl) (Nat.le_of_ble_eq_true rfl)
  · obtain ⟨hi_d2, h⟩ := h.2 d2 rfl
    refine lv_astore_n (lv' := [(3, .ref (ad G 7 d2)), (0, .ref (ad G 0 0)), (1, .int x1), (2, .int x2)]) hx hb dX11_element_5 rfl hl (by decide) rfl (fun ls hl => ?_)
    refine lv_aload_n hx hb dX11_element_6 rfl (lv_at hl 0 rfl) ?_
    refine lv_ifnonnull (tgt := 21) hx hb dX11_element_7 (by decide) ?_
    refine lv_aload_n hx hb dX11_element_21 rfl (lv_at hl 0 rfl) ?_
    refine m_ci0 (m_rS S hKX hW (m_szH hbs hS) (c_X11_rowRefusal l hi_d2) h lk_X11_111 rfl hl.1 rfl ⟨Nat.le_of_ble_eq_true rfl, Nat.le_of_ble_eq_true rfl⟩ (Nat.le_of_ble_eq_true rfl) ⟨Nat.le_of_ble_eq_true rfl, Nat.le_of_ble_eq_true rfl⟩ dX11_element_22) hS rfl rfl (fun rr22 Mm22 H locs h hW hS => ?_)
    refine lv_if_ne (tgt := 36) hx hb dX11_element_25 (by decide) (fun c25 => ?_) (fun c25 => ?_)
    · exact t4 Mm22 H locs ls (h.1 c25) hW hS hl.1
    · replace h := h.2 c25
      refine lv_aload_n hx hb dX11_element_28 rfl (lv_at hl 0 rfl) ?_
      refine lv_iload_n hx hb dX11_element_29 rfl (lv_at hl 3 rfl) ?_
      refine m_ci0 (m_rV S hKX hW (m_szH hbs hS) (c_X9_hasPlace l hi_d2) h lk_X11_277 (m_recv hK hW (ci_7 hi_d2) (rc_7 G) rfl) rfl hl.1 rfl ⟨Nat.le_of_ble_eq_true rfl, Nat.le_of_ble_eq_true rfl⟩ (Nat.le_of_ble_eq_true rfl) ⟨Nat.le_of_ble_eq_true rfl, Nat.le_of_ble_eq_true rfl⟩ dX11_element_30) hS rfl rfl (fun rr30 Mm30 H locs h hW hS => ?_)
      refine lv_if_ne (tgt := 47) hx hb dX11_element_33 (by decide) (fun c33 => ?_) (fun c33 => ?_)
      · obtain ⟨h80, h⟩ := h.1 c33
        refine lv_aload_n hx hb dX11_element_47 rfl (lv_at hl 0 rfl) ?_
        refine m_getr S hK fk_X11_295 (gr_7_6 G d2) hW (ci_7 hi_d2) dX11_element_48 ?_
        refine lv_iload_n hx hb dX11_element_51 rfl (lv_at hl 3 rfl) ?_
        refine m_ald S hK (ar_39 G) hW (ci_39 hi_d2) h80 dX11_element_52 ?_
        refine lv_i2l hx hb dX11_element_53 rfl ?_
        refine W.widen (k := 1) (n := 6) (Nat.zero_le _) (Nat.zero_le _) ?_
        exact vx_ret (m_lret S hret hlocks hKX hW hbs hS h dX11_element_54)
      · exact t4 Mm30 H locs ls (h.2 c33) hW hS hl.1
/-- a body with handlers, of a method that returns -/
theorem Met_ofWH {l : Launch} {y : MethodName} {ws ws' : List Cond} {rm : Room} {Pc : Array Value → State → Prop} {Qc : Array Value → State → Outcome → State → Prop} {mc ms : Nat} {free : Addr → Prop} {cc : ByteArray} {maxL : Nat} {ret : Option FieldType} {hh : List (Nat × Nat × Nat × Nat)}
    (hy : plainName y.cls = true) (hw : ws = Cond.codeWith y cc maxL ret hh :: ws')
    (body : ∀ p e s m args below meth c s₁, BodyLoose p l y (headSpec ws rm) cc maxL ret e s m args below meth c s₁ → c.maxLocals = maxL → c.exceptionTable.toList = tableOf hh → Pc args s →
      W p l e (headSpec ws rm).room s m args below meth c s.heap [] 0 0 (MQ below Qc args s mc ms free) (entryFrame m args maxL)) : Met l y ws rm Pc Qc mc ms free := by
  refine MetFree.of_bodyS (code := cc) (maxLocals := maxL) (ret := ret) hy ?_ ?_
  · intro args s m h hn
    obtain ⟨m9, meth, c, hn9, h1, h2, h3, h4, -, h5, h6, -⟩ := Cond.codeWith_spec (atoms_spec (ws := ws) h _ (by rw [hw]; exact List.mem_cons_self))
    cases hn.symm.trans hn9
    exact ⟨meth, c, h1, h2, h3, h4, h5, h6⟩
  · intro p e s m args below meth c s₁ B hml hP _
    have hh0 : s₁.heap = s.heap := by rw [B.state]; rfl
    have ht := vx_table (x := y) B (atoms_spec (ws := ws) B.pre _ (by rw [hw]; exact List.mem_cons_self))
    obtain ⟨t, a1, o, b1, b2, b3⟩ := body p e s m args below meth c s₁ B hml ht hP s₁ hh0 (Stand.of_body B)
    exact ⟨t, o, a1, b1, b2, ⟨b3.1, b3.2⟩⟩
theorem gi_7_3 (G : Gn) : GVI G 7 8 3 := fun _ _ _ _ => ⟨_, rfl, rfl⟩
/-- what toss does -/
def s_X11_toss (M : Mem) (x1 : Int32) (P : Int32 → Mem → Prop) : Prop :=
  s_X11_shelfAt M x1 (fun rr2 Mm2 => (rr2 = none → P (-1 : Int32) Mm2) ∧ (∀ d2 : Nat, rr2 = some d2 → d2 < 8 ∧ (s_X11_crateRefusal d2 Mm2 (fun rr13 Mm13 => (rr13 = 0 → s_X3_canFail Mm13 (Mm13.1 7 d2 1) (Mm13.1 7 d2 2) (fun rr31 Mm31 => (¬ rr31 = 0 → (Mm31.1 7 d2 1 = 6 → P (Mm31.1 7 d2 3 + 100) Mm31) ∧ (¬ Mm31.1 7 d2 1 = 6 → (Mm31.1 7 d2 1 = 5 → P (Mm31.1 7 d2 2) Mm31) ∧ (¬ Mm31.1 7 d2 1 = 5 → P (Mm31.1 7 d2 3) Mm31))) ∧ (rr31 = 0 → P (-15 : Int32) Mm31))) ∧ (¬ rr13 = 0 → P rr13 Mm13)))))
def hhT : List (Nat × Nat × Nat × Nat) := [(40, 47, 50, 338), (40, 47, 60, 283), (40, 47, 67, 290)]
theorem tw_T : Cond.codeWith yX11_toss cX11_toss 5 (some .int) hhT ∈ lw_G := lw_Gi 1073 (by decide +kernel) rfl
abbrev cwT : List Cond := Cond.codeWith yX11_toss cX11_toss 5 (some .int) hhT :: lw_G
abbrev rm_X11_toss : Room := { frames := 7, cells := 1, slots := 6, locals := 140 }
set_option maxHeartbeats 4000000 in
set_option maxRecDepth 100000 in
theorem c_X11_toss (l : Launch) (hl0 : l.stackTraces = false) {G : Gn} {M : Mem} {x1 : Int32} {P : Int32 → Mem → Prop} : Met l yX11_toss cwT rm_X11_toss (va_Pc [.ref (ad G 0 0), .int x1] (fun U => WS G M U ∧ s_X11_toss M x1 P)) (va_Qi P (WS G) (fun q => bs G ≤ q)) 1 6 (fun q => bs G ≤ q) := by
  refine Met_ofWH (cc := cX11_toss) (maxL := 5) (ret := some .int) (hh := hhT) (by decide +kernel) rfl ?_
  intro p e s m args below meth c s₁ B hml htab hv
  obtain ⟨rfl, ⟨hKX, hbs, hW⟩, h⟩ := hv
  have hret : meth.sig.returnType = some .int := B.returns
  have hts0 := atoms_spec (ws := cwT) B.pre
  have hown : s.vm.findClass "MilkDesk" = some m.cls := findClass_of_methodNamed B.named
  have hlocks := B.notSynchronized
  have hl := lv_entry ([.ref (ad G 0 0), .int x1] : List Value) (n := 5) (Nat.le_of_ble_eq_true rfl)
  rw [lg_entry_eq]
  generalize (lg_sl ([.ref (ad G 0 0), .int x1] : List Value) ++ List.replicate (5 - (lg_sl ([.ref (ad G 0 0), .int x1] : List Value)).length) Slot.unset).toArray = ls at hl ⊢
  replace hl : lv_has ls 5 [(0, .ref (ad G 0 0)), (1, .int x1)] := hl
  have S : CallFix p m c cX11_toss 5 s ([.ref (ad G 0 0), .int x1] : List Value).toArray lw_G "MilkDesk" := ⟨B.exec, B.bytes, hml, hown, fun w hw => hts0 w (List.mem_cons_of_mem _ hw)⟩
  generalize ([.ref (ad G 0 0), .int x1] : List Value).toArray = AV at S ⊢
  generalize hH : s.heap = H at hW
  have hS : va_S (fun q => bs G ≤ q) s.heap H [] := by rw [← hH]; exact va_S.rf
  have hK := hKX.1
  have hx := S.1
  have hb := S.2.1
  have hts := S.2.2.2.2
  show W p l e rm_X11_toss s m AV below meth c H [] 0 0 _ _
  unfold s_X11_toss at h
  refine lv_aload_n hx hb dX11_toss_0 rfl (lv_at hl 0 rfl) ?_
  refine lv_iload_n hx hb dX11_toss_1 rfl (lv_at hl 1 rfl) ?_
  refine m_cq0 (m_rV S hKX hW (m_szH hbs hS) (c_X11_shelfAt l ) h lk_X11_100 (m_recv hK hW (ci_0 (Nat.le_of_ble_eq_true rfl)) (rc_0 G) rfl) rfl hl.1 rfl ⟨Nat.le_of_ble_eq_true rfl, Nat.le_of_ble_eq_true rfl⟩ (Nat.le_of_ble_eq_true rfl) ⟨Nat.le_of_ble_eq_true rfl, Nat.le_of_ble_eq_true rfl⟩ dX11_toss_2) hS rfl rfl (fun Mm2 H locs h hW hS => ?_) (fun d2 Mm2 H locs h hW hS => ?_)
  · replace h := h.1 rfl
    refine lv_astore_nN (lv' := [(2, .null), (0, .ref (ad G 0 0)), (1, .int x1)]) hx hb dX11_toss_5 rfl hl (by decide) rfl (fun ls hl => ?_)
    refine lv_aload_nN hx hb dX11_toss_6 rfl (lv_at hl 0 rfl) ?_
    refine lv_ifnonnullN hx hb dX11_toss_7 ?_
    refine lv_iconst hx hb dX11_toss_10 ki_m1 ?_
    refine W.widen (k := 1) (n := 6) (Nat.zero_le _) (Nat.zero_le _) ?_
    exact m_iret S hret hlocks hKX hW hbs hS rfl h dX11_toss_11
  · obtain ⟨hi_d2, h⟩ := h.2 d2 rfl
    refine lv_astore_n (lv' := [(2, .ref (ad G 7 d2)), (0, .ref (ad G 0 0)), (1, .int x1)]) hx hb dX11_toss_5 rfl hl (by decide) rfl (fun ls hl => ?_)
    refine lv_aload_n hx hb dX11_toss_6 rfl (lv_at hl 0 rfl) ?_
    refine lv_ifnonnull (tgt := 12) hx hb dX11_toss_7 (by decide) ?_
    refine lv_aload_n hx hb dX11_toss_12 rfl (lv_at hl 0 rfl) ?_
    refine m_ci0 (m_rS S hKX hW (m_szH hbs hS) (c_X11_crateRefusal l hi_d2) h lk_X11_317 rfl hl.1 rfl ⟨Nat.le_of_ble_eq_true rfl, Nat.le_of_ble_eq_true rfl⟩ (Nat.le_of_ble_eq_true rfl) ⟨Nat.le_of_ble_eq_true rfl, Nat.le_of_ble_eq_true rfl⟩ dX11_toss_13) hS rfl rfl (fun rr13 Mm13 H locs h hW hS => ?_)
    refine lv_istore_n (lv' := [(3, .int rr13), (2, .ref (ad G 7 d2)), (0, .ref (ad G 0 0)), (1, .int x1)]) hx hb dX11_toss_16 rfl hl (by decide) rfl (fun ls hl => ?_)
    refine lv_iload_n hx hb dX11_toss_17 rfl (lv_at hl 0 rfl) ?_
    refine lv_if_eq (tgt := 23) hx hb dX11_toss_18 (by decide) (fun c18 => ?_) (fun c18 => ?_)
    · replace h := h.1 c18
      refine lv_aload_n hx hb dX11_toss_23 rfl (lv_at hl 1 rfl) ?_
      refine m_geti S hK fk_X11_320 (gi_7_1 G) hW (ci_7 hi_d2) dX11_toss_24 ?_
      refine lv_aload_n hx hb dX11_toss_27 rfl (lv_at hl 1 rfl) ?_
      refine m_geti S hK fk_X11_323 (gi_7_2 G) hW (ci_7 hi_d2) dX11_toss_28 ?_
      refine m_ci0 (m_rS S hKX hW (m_szH hbs hS) (c_X3_canFail l) h lk_X11_331 rfl hl.1 rfl ⟨Nat.le_of_ble_eq_true rfl, Nat.le_of_ble_eq_true rfl⟩ (Nat.le_of_ble_eq_true rfl) ⟨Nat.le_of_ble_eq_true rfl, Nat.le_of_ble_eq_true rfl⟩ dX11_toss_31) hS rfl rfl (fun rr31 Mm31 H locs h hW hS => ?_)
      refine lv_if_ne (tgt := 40) hx hb dX11_toss_34 (by decide) (fun c34 => ?_) (fun c34 => ?_)
      · replace h := h.1 c34
        refine lv_aload_n hx hb dX11_toss_40 rfl (lv_at hl 1 rfl) ?_
        refine m_geti S hK fk_X11_320 (gi_7_1 G) hW (ci_7 hi_d2) dX11_toss_41 ?_
        obtain ⟨l1, l2, l4, l5, l6, l7, l8⟩ := lk_X11_334
        have hHb := m_szH hbs hS
        have hr := vx_runS (g := F0 m 44 ls (.int (Mm31.1 7 d2 1) :: [])) (rest := []) S (c_X3_fail l hl0 (G := G) (M := Mm31) (x := Mm31.1 7 d2 1)) ⟨callB_of (R := rm_X11_toss) 1 hts (m_good l5) rfl rfl rfl (hts _ l4) (hts _ l1) ⟨l6, l7, l8⟩ ⟨Nat.le_of_ble_eq_true rfl, Nat.le_of_ble_eq_true rfl⟩, hts _ l2⟩ ⟨fun _ _ _ _ q => ⟨q.1, WS.blind q.2⟩, fun U hU hWm => ⟨rfl, ⟨hKX.warm hWm, by rw [hU]; exact hHb, by rw [hU]; exact hW⟩⟩⟩ rfl rfl hl.1 rfl (lv_room (Nat.le_of_ble_eq_true rfl)) dX11_toss_44 (p := p) (e := e) (below := below) (meth := meth) (H := H) (locs := locs) (cells := 0) (slots := 0) ⟨Nat.le_of_ble_eq_true rfl, Nat.le_of_ble_eq_true rfl⟩
        refine vx_callv hr hS (fun _ _ h => h) (fun _ h => h) (fun _ _ h => h) (fun E ce q9 u t H1 locs1 ht _ _ hB hz1 _ hS1 hce hcv hcl => ?_) (fun u t H1 locs1 _ _ hf _ _ _ _ => hf.elim)
        obtain ⟨eE, hW1⟩ := hB
        rw [ht] at hW1
        have cov : ∀ x : ExceptionTableEntry, x.startPc = 40 → x.endPc = 47 → covers x 44 = true := fun x a b => by unfold covers; rw [a, b]; rfl
        have htab3 : c.exceptionTable.toList = [⟨40, 47, 50, 338⟩, ⟨40, 47, 60, 283⟩, ⟨40, 47, 67, 290⟩] := htab
        unfold exN at eE
        by_cases k6 : Mm31.1 7 d2 1 = 6
        · rw [if_pos k6] at eE
          subst eE
          replace h := h.1 k6
          refine vx_catch (name := eUO) S.2.2.2.1 [] ⟨40, 47, 50, 338⟩ [⟨40, 47, 60, 283⟩, ⟨40, 47, 67, 290⟩] htab3 (fun z hz => by cases hz) (cov _ rfl rfl) (by decide) (hts _ ew_3) (xf_cast hKX.2 ew_6) hce hcv hcl ?_
          refine lv_astore (lv' := [(4, .ref q9), (3, .int rr13), (2, .ref (ad G 7 d2)), (0, .ref (ad G 0 0)), (1, .int x1)]) hx hb dX11_toss_50 hl (by decide) rfl (fun ls hl => ?_)
          refine lv_aload_n hx hb dX11_toss_52 rfl (lv_at hl 2 rfl) ?_
          refine m_geti S hK fk_X11_340 (gi_7_3 G) hW1 (ci_7 hi_d2) dX11_toss_53 ?_
          refine lv_bipush hx hb dX11_toss_56 kb_100 ?_
          refine lv_iadd hx hb dX11_toss_58 ?_
          exact m_iret S hret hlocks hKX hW1 hbs hS1 rfl h dX11_toss_59
        · rw [if_neg k6] at eE
          replace h := h.2 k6
          by_cases k5 : Mm31.1 7 d2 1 = 5
          · rw [if_pos k5] at eE
            subst eE
            replace h := h.1 k5
            refine vx_catch (name := eIA) S.2.2.2.1 [⟨40, 47, 50, 338⟩] ⟨40, 47, 60, 283⟩ [⟨40, 47, 67, 290⟩] htab3 (fun z hz => ?_) (cov _ rfl rfl) (by decide) (hts _ ew_1) (xf_cast hKX.2 ew_7) hce hcv hcl ?_
            · rcases List.mem_singleton.mp hz with rfl
              exact Or.inr ⟨by decide, eUO, hts _ ew_3, xf_n1 hKX.2⟩
            refine lv_astore (lv' := [(4, .ref q9), (3, .int rr13), (2, .ref (ad G 7 d2)), (0, .ref (ad G 0 0)), (1, .int x1)]) hx hb dX11_toss_60 hl (by decide) rfl (fun ls hl => ?_)
            refine lv_aload_n hx hb dX11_toss_62 rfl (lv_at hl 2 rfl) ?_
            refine m_geti S hK fk_X11_323 (gi_7_2 G) hW1 (ci_7 hi_d2) dX11_toss_63 ?_
            exact m_iret S hret hlocks hKX hW1 hbs hS1 rfl h dX11_toss_66
          · rw [if_neg k5] at eE
            subst eE
            replace h := h.2 k5
            refine vx_catch (name := eIS) S.2.2.2.1 [⟨40, 47, 50, 338⟩, ⟨40, 47, 60, 283⟩] ⟨40, 47, 67, 290⟩ [] htab3 (fun z hz => ?_) (cov _ rfl rfl) (by decide) (hts _ ew_2) (xf_cast hKX.2 ew_8) hce hcv hcl ?_
            · rcases List.mem_cons.mp hz with rfl | hz
              · exact Or.inr ⟨by decide, eUO, hts _ ew_3, xf_n2 hKX.2⟩
              · rcases List.mem_singleton.mp hz with rfl
                exact Or.inr ⟨by decide, eIA, hts _ ew_1, xf_n3 hKX.2⟩
            refine lv_astore (lv' := [(4, .ref q9), (3, .int rr13), (2, .ref (ad G 7 d2)), (0, .ref (ad G 0 0)), (1, .int x1)]) hx hb dX11_toss_67 hl (by decide) rfl (fun ls hl => ?_)
            refine lv_aload_n hx hb dX11_toss_69 rfl (lv_at hl 2 rfl) ?_
            refine m_geti S hK fk_X11_340 (gi_7_3 G) hW1 (ci_7 hi_d2) dX11_toss_70 ?_
            exact m_iret S hret hlocks hKX hW1 hbs hS1 rfl h dX11_toss_73
      · replace h := h.2 c34
        refine lv_bipush hx hb dX11_toss_37 kb_m15 ?_
        refine W.widen (k := 1) (n := 6) (Nat.zero_le _) (Nat.zero_le _) ?_
        exact m_iret S hret hlocks hKX hW hbs hS rfl h dX11_toss_39
    · replace h := h.2 c18
      refine lv_iload_n hx hb dX11_toss_21 rfl (lv_at hl 0 rfl) ?_
      refine W.widen (k := 1) (n := 6) (Nat.zero_le _) (Nat.zero_le _) ?_
      exact m_iret S hret hlocks hKX hW hbs hS rfl h dX11_toss_22
/-- what the law's own method does: it asks for an element, and tells what was thrown -/
def s_L_element (M : Mem) (x1 x2 : Int32) (P : Int32 → Mem → Prop) : Prop :=
  s_X11_element M x1 x2 (fun v Mm5 => ∀ Mm8 : Mem, Mm8 = wJ Mm5 81 0 0 v → P 0 Mm8) (fun E Mm5 => (E = eIA ∧ P 1 Mm5) ∨ (E = eIS ∧ P 2 Mm5))
def hhL : List (Nat × Nat × Nat × Nat) := [(0, 9, 12, 13), (0, 9, 16, 15)]
theorem tw_L : Cond.codeWith yL_element cL_element 5 (some .int) hhL ∈ lw_G := lw_Gi 1184 (by decide +kernel) rfl
abbrev cwL : List Cond := Cond.codeWith yL_element cL_element 5 (some .int) hhL :: lw_G
abbrev rm_L_element : Room := { frames := 7, cells := 1, slots := 6, locals := 160 }
theorem ar_81 (G : Gn) : AJ G 81 1 := fun _ _ _ _ => rfl
theorem ci_81 {i : Nat} (h : i < 1) : i < cntK 81 := h
set_option maxHeartbeats 4000000 in
set_option maxRecDepth 100000 in
theorem c_L_element (l : Launch) (hl0 : l.stackTraces = false) {G : Gn} {M : Mem} {x1 x2 : Int32} {P : Int32 → Mem → Prop} : Met l yL_element cwL rm_L_element (va_Pc [.ref (ad G 0 0), .int x1, .int x2, .ref (ad G 81 0)] (fun U => WS G M U ∧ s_L_element M x1 x2 P)) (va_Qi P (WS G) (fun q => bs G ≤ q)) 1 6 (fun q => bs G ≤ q) := by
  refine Met_ofWH (cc := cL_element) (maxL := 5) (ret := some .int) (hh := hhL) (by decide +kernel) rfl ?_
  intro p e s m args below meth c s₁ B hml htab hv
  obtain ⟨rfl, ⟨hKX, hbs, hW⟩, h⟩ := hv
  have hret : meth.sig.returnType = some .int := B.returns
  have hts0 := atoms_spec (ws := cwL) B.pre
  have hown : s.vm.findClass "MilkDeskLaw" = some m.cls := findClass_of_methodNamed B.named
  have hlocks := B.notSynchronized
  have hl := lv_entry ([.ref (ad G 0 0), .int x1, .int x2, .ref (ad G 81 0)] : List Value) (n := 5) (Nat.le_of_ble_eq_true rfl)
  rw [lg_entry_eq]
  generalize (lg_sl ([.ref (ad G 0 0), .int x1, .int x2, .ref (ad G 81 0)] : List Value) ++ List.replicate (5 - (lg_sl ([.ref (ad G 0 0), .int x1, .int x2, .ref (ad G 81 0)] : List Value)).length) Slot.unset).toArray = ls at hl ⊢
  replace hl : lv_has ls 5 [(0, .ref (ad G 0 0)), (1, .int x1), (2, .int x2), (3, .ref (ad G 81 0))] := hl
  have S : CallFix p m c cL_element 5 s ([.ref (ad G 0 0), .int x1, .int x2, .ref (ad G 81 0)] : List Value).toArray lw_G "MilkDeskLaw" := ⟨B.exec, B.bytes, hml, hown, fun w hw => hts0 w (List.mem_cons_of_mem _ hw)⟩
  generalize ([.ref (ad G 0 0), .int x1, .int x2, .ref (ad G 81 0)] : List Value).toArray = AV at S ⊢
  generalize hH : s.heap = H at hW
  have hS : va_S (fun q => bs G ≤ q) s.heap H [] := by rw [← hH]; exact va_S.rf
  have hK := hKX.1
  have hx := S.1
  have hb := S.2.1
  have hts := S.2.2.2.2
  show W p l e rm_L_element s m AV below meth c H [] 0 0 _ _
  unfold s_L_element at h
  have hHb := m_szH hbs hS
  refine lv_aload_n hx hb dL_element_0 rfl (lv_at hl 3 rfl) ?_
  refine lv_iconst hx hb dL_element_1 ki_0 ?_
  refine lv_aload_n hx hb dL_element_2 rfl (lv_at hl 0 rfl) ?_
  refine lv_iload_n hx hb dL_element_3 rfl (lv_at hl 1 rfl) ?_
  refine lv_iload_n hx hb dL_element_4 rfl (lv_at hl 2 rfl) ?_
  obtain ⟨l1, l2, l3, l4, l5, l6, l7, l8⟩ := lk_L_7
  have hr := vx_runV (g := F0 m 5 ls (.int x2 :: .int x1 :: .ref (ad G 0 0) :: .int 0 :: .ref (ad G 81 0) :: [])) (rest := [.int 0, .ref (ad G 81 0)]) (C := yX11_element.cls) S (c_X11_element l hl0 (G := G) (M := M) (x1 := x1) (x2 := x2) (P := fun v Mm5 => ∀ Mm8 : Mem, Mm8 = wJ Mm5 81 0 0 v → P 0 Mm8) (X := fun E Mm5 => (E = eIA ∧ P 1 Mm5) ∨ (E = eIS ∧ P 2 Mm5))) ⟨callB_of (R := rm_L_element) 2 hts (m_good l5) rfl rfl rfl (hts _ l4) (hts _ l1) ⟨l6, l7, l8⟩ ⟨Nat.le_of_ble_eq_true rfl, Nat.le_of_ble_eq_true rfl⟩, hts _ l2, hts _ l3⟩ ⟨m_blind, m_recv hK hW (ci_0 (Nat.le_of_ble_eq_true rfl)) (rc_0 G) rfl, fun U hU hWm => ⟨rfl, ⟨hKX.warm hWm, by rw [hU]; exact hHb, by rw [hU]; exact hW⟩, h⟩⟩ rfl rfl hl.1 rfl (lv_room (Nat.le_of_ble_eq_true rfl)) dL_element_5 (p := p) (e := e) (below := below) (meth := meth) (H := H) (locs := []) (cells := 0) (slots := 0) ⟨Nat.le_of_ble_eq_true rfl, Nat.le_of_ble_eq_true rfl⟩
  refine vx_calll hr hS (fun _ _ h => h) (fun _ h => h) (fun _ _ h => h) (fun E ce q9 u t H1 locs1 ht _ _ hB hz1 _ hS1 hce hcv hcl => ?_) (fun r u t H1 locs1 ht _ hp hB _ _ hS1 => ?_)
  · obtain ⟨hE, hW1⟩ := hB
    rw [ht] at hW1
    have cov : ∀ x : ExceptionTableEntry, x.startPc = 0 → x.endPc = 9 → covers x 5 = true := fun x a b => by unfold covers; rw [a, b]; rfl
    have htab2 : c.exceptionTable.toList = [⟨0, 9, 12, 13⟩, ⟨0, 9, 16, 15⟩] := htab
    rcases hE with ⟨rfl, h⟩ | ⟨rfl, h⟩
    · refine vx_catch (name := eIA) S.2.2.2.1 [] ⟨0, 9, 12, 13⟩ [⟨0, 9, 16, 15⟩] htab2 (fun z hz => by cases hz) (cov _ rfl rfl) (by decide) (hts _ ew_4) (xf_cast hKX.2 ew_7) hce hcv hcl ?_
      refine lv_astore (lv' := [(4, .ref q9), (0, .ref (ad G 0 0)), (1, .int x1), (2, .int x2), (3, .ref (ad G 81 0))]) hx hb dL_element_12 hl (by decide) rfl (fun ls hl => ?_)
      refine lv_iconst hx hb dL_element_14 ki_1 ?_
      exact m_iret S hret hlocks hKX hW1 hbs hS1 rfl h dL_element_15
    · refine vx_catch (name := eIS) S.2.2.2.1 [⟨0, 9, 12, 13⟩] ⟨0, 9, 16, 15⟩ [] htab2 (fun z hz => ?_) (cov _ rfl rfl) (by decide) (hts _ ew_5) (xf_cast hKX.2 ew_8) hce hcv hcl ?_
      · rcases List.mem_singleton.mp hz with rfl
        exact Or.inr ⟨by decide, eIA, hts _ ew_4, xf_n3 hKX.2⟩
      refine lv_astore (lv' := [(4, .ref q9), (0, .ref (ad G 0 0)), (1, .int x1), (2, .int x2), (3, .ref (ad G 81 0))]) hx hb dL_element_16 hl (by decide) rfl (fun ls hl => ?_)
      refine lv_iconst hx hb dL_element_18 ki_2 ?_
      exact m_iret S hret hlocks hKX hW1 hbs hS1 rfl h dL_element_19
  · have hW1 := hB.2.2
    rw [ht] at hW1
    refine m_jastk S hK (ar_81 G) hW1 hS1 (ci_81 (Nat.le_of_ble_eq_true rfl)) (k := 0) (by decide +kernel) (Nat.le_of_ble_eq_true rfl) dL_element_8 (fun M8 e8 H8 locs8 hW8 hS8 => ?_)
    refine lv_goto (tgt := 20) hx hb dL_element_9 (by decide) ?_
    refine lv_iconst hx hb dL_element_20 ki_0 ?_
    exact m_iret S hret hlocks hKX hW8 hbs hS8 rfl (hp M8 e8) dL_element_21
/-! the document's words for both -/
def sp_toss (S : Sg) (x1 : Int32) : Int32 := if rg x1 8 then (if hd0 S (ix x1) = 0 then -11 else if hd0 S (ix x1) = 2 then -12 else if S.2.2.1 1 (ix x1) = 2 ∨ S.2.2.1 2 (ix x1) = 0 then -15 else if S.2.2.1 1 (ix x1) = 6 then nI (S.2.2.1 3 (ix x1) + 100) else if S.2.2.1 1 (ix x1) = 5 then nI (S.2.2.1 2 (ix x1)) else nI (S.2.2.1 3 (ix x1))) else -1
theorem tC_toss {M : Mem} {S : Sg} {x1 : Int32} {P : Int32 → Mem → Prop} (h : RCX M S) (hw : WfX S) (hp : P (sp_toss S x1) M) : s_X11_toss M x1 P := by
  unfold s_X11_toss
  unfold sp_toss at hp
  refine t_shelfAt (fun g1 => d1 (rg_lt g1) ?_) (fun g1 => d0 (by rw [if_neg g1] at hp; exact hp))
  rw [if_pos g1] at hp
  have hd := rg_lt g1
  obtain ⟨w0, w1, w2, w3, -⟩ := hw.2.2 _ hd
  refine t_crateRefusal h.2.2 hd w0 (fun q => bn (by decide) (by rw [if_pos q] at hp; exact hp)) (fun q => bn (by decide) (by rw [if_neg (by omega), if_pos q] at hp; exact hp)) (fun q => b0 ?_)
  rw [if_neg (by omega), if_neg (by omega)] at hp
  obtain ⟨a1, a2, a3⟩ := (h.2.2 _ hd).2.1 q
  unfold s_X3_canFail
  dsimp only
  rw [a1, a2, a3]
  have q2 : nI (S.2.2.1 1 (ix x1)) = 2 ↔ S.2.2.1 1 (ix x1) = 2 := eqk (by omega) rfl (by omega)
  have q5 : nI (S.2.2.1 1 (ix x1)) = 5 ↔ S.2.2.1 1 (ix x1) = 5 := eqk (by omega) rfl (by omega)
  have q6 : nI (S.2.2.1 1 (ix x1)) = 6 ↔ S.2.2.1 1 (ix x1) = 6 := eqk (by omega) rfl (by omega)
  rw [q2, le0 (by omega), q5, q6]
  refine ⟨fun k2 => c0 (by rw [if_pos (Or.inl k2)] at hp; exact hp), fun k2 => ⟨fun z => c0 (by rw [if_pos (Or.inr z)] at hp; exact hp), fun z => c1 ?_⟩⟩
  rw [if_neg (by omega)] at hp
  refine ⟨fun k6 => ?_, fun k6 => ⟨fun k5 => ?_, fun k5 => ?_⟩⟩
  · rw [if_pos k6] at hp
    rw [show (100 : Int32) = nI 100 from rfl, nI_add]; exact hp
  · rw [if_neg k6, if_pos k5] at hp; exact hp
  · rw [if_neg k6, if_neg k5] at hp; exact hp
theorem tM_toss {M : Mem} {S : Sg} {x1 : Int32} {P : Int32 → Mem → Prop} (h : RMX M S) (hw : WfX S) (hp : ∀ M', sameC M M' → RMX M' S → P (sp_toss S x1) M') : s_X12_toss M x1 P := by
  unfold s_X12_toss
  intro M1 e1
  have h1 : RMX M1 S := by rw [e1]; exact h.thrown
  replace hp := hp M1 (by rw [e1]; exact sC10) h1
  unfold sp_toss at hp
  refine t_wrongShelf h1.2.2.1 (fun g1 => (hw.2.2 _ (rg_lt g1)).1) (fun g1 => gn (by decide) (by rw [if_neg g1] at hp; exact hp)) (fun g1 q => gn (by decide) (by rw [if_pos g1, if_pos q] at hp; exact hp)) (fun g1 q => gn (by decide) (by rw [if_pos g1, if_neg (by omega), if_pos q] at hp; exact hp)) (fun g1 q => gp (by decide) ?_)
  rw [if_pos g1, if_neg (by omega), if_neg (by omega)] at hp
  have hd := rg_lt g1
  obtain ⟨w0, w1, w2, w3, -⟩ := hw.2.2 _ hd
  obtain ⟨a1, a2, a3⟩ := (h1.2.2.1 _ hd).2.1 q
  rw [a1, a2, a3]
  have q2 : nI (S.2.2.1 1 (ix x1)) = 2 ↔ S.2.2.1 1 (ix x1) = 2 := eqk (by omega) rfl (by omega)
  have q5 : nI (S.2.2.1 1 (ix x1)) = 5 ↔ S.2.2.1 1 (ix x1) = 5 := eqk (by omega) rfl (by omega)
  have q6 : nI (S.2.2.1 1 (ix x1)) = 6 ↔ S.2.2.1 1 (ix x1) = 6 := eqk (by omega) rfl (by omega)
  have q0 : nI (S.2.2.1 2 (ix x1)) = 0 ↔ S.2.2.1 2 (ix x1) = 0 := eqk (by omega) rfl (by omega)
  rw [q2, q5, q6, q0]
  have v8 := rg_in g1
  refine ⟨v8, fun k2 => by rw [if_pos (Or.inl k2)] at hp; exact hp, fun k2 => ⟨v8, fun z => ⟨v8, fun k6 => ⟨v8, fun k5 => ⟨v8, ?_⟩, fun k5 => ⟨v8, ?_⟩⟩, fun k6 => ⟨v8, ?_⟩⟩, fun z => by rw [if_pos (Or.inr z)] at hp; exact hp⟩⟩
  · rw [if_neg (by omega), if_neg k6, if_neg k5] at hp; exact hp
  · rw [if_neg (by omega), if_neg k6, if_pos k5] at hp; exact hp
  · rw [if_neg (by omega), if_pos k6] at hp
    rw [show (100 : Int32) = nI 100 from rfl, nI_add, Nat.add_comm]; exact hp
/-- an element: what is thrown (1: no shelf, 2: no place in a row), and it -/
def sp_element (S : Sg) (x1 x2 : Int32) : Int32 × Int64 := if rg x1 8 then (if hd0 S (ix x1) = 2 ∧ rg x2 (S.2.2.1 5 (ix x1)) then (0, (S.2.2.2 (ix x1) (ix x2)).toInt64) else (2, 0)) else (1, 0)
theorem cnz {A B : Prop} {x : Int32} (hx : ¬ x = 0) (b : B) : (¬ x = 0 → B) ∧ (x = 0 → A) := ⟨fun _ => b, fun q => absurd q hx⟩
theorem tC_element {M : Mem} {S : Sg} {x1 x2 : Int32} {P : Int64 → Mem → Prop} {X : String → Mem → Prop} (h : RCX M S) (hw : WfX S) (hp : (sp_element S x1 x2).1 = 0 → P (sp_element S x1 x2).2 M) (h1 : (sp_element S x1 x2).1 = 1 → X eIA M) (h2 : (sp_element S x1 x2).1 = 2 → X eIS M) : s_X11_element M x1 x2 P X := by
  unfold s_X11_element
  unfold sp_element at hp h1 h2
  refine t_shelfAt (fun g1 => d1 (rg_lt g1) ?_) (fun g1 => d0 (h1 (by rw [if_neg g1])))
  rw [if_pos g1] at hp h2
  have hd := rg_lt g1
  obtain ⟨w0, w1, w2, w3, w4, w5, -⟩ := hw.2.2 _ hd
  refine t_rowRefusal h.2.2 hd w0 (fun q => cnz (by decide) (h2 (by rw [if_neg (by omega)]))) (fun q => c0 ?_) (fun q => cnz (by decide) (h2 (by rw [if_neg (by omega)])))
  obtain ⟨a4, a5, a6⟩ := (h.2.2 _ hd).2.2 q
  unfold s_X9_hasPlace
  rw [a5, le_i, lt_i, t0_i, nI_toInt (by omega)]
  refine ⟨fun z => c0 (h2 (by rw [if_neg (fun y => by have := y.2.1; omega)])), fun z => ⟨fun y => c0 (h2 (by rw [if_neg (fun x => by have := x.2.2; omega)])), fun y => c1 ?_⟩⟩
  have g2 : rg x2 (S.2.2.1 5 (ix x1)) := ⟨by omega, by omega⟩
  have l2 := rg_lt g2
  rw [if_pos ⟨q, g2⟩] at hp
  refine ⟨rg_in ⟨g2.1, by have := g2.2; omega⟩, ?_⟩
  rw [show (x2.toNatClampNeg) = ix x2 from rfl, a6 _ (by omega)]
  exact hp rfl
theorem tM_element {M : Mem} {S : Sg} {x1 x2 : Int32} {P : Int64 → Mem → Prop} (h : RMX M S) (hw : WfX S) (hp : ∀ M', sameC M M' → RMX M' S → M'.2.1 = M.2.1 → M'.1 10 0 0 = (sp_element S x1 x2).1 → P (sp_element S x1 x2).2 M') : s_X12_element M x1 x2 P := by
  have fin0 : ∀ v, v = (sp_element S x1 x2).1 → ∀ M1, M1 = wI M 10 0 0 v → P (sp_element S x1 x2).2 M1 := fun v hv M1 e1 => hp M1 (by rw [e1]; exact sC10) (by rw [e1]; exact h.thrown) (by rw [e1]; rfl) (by rw [e1, wI_at, if_pos ⟨rfl, rfl, rfl⟩]; exact hv)
  have key : ∀ v : Int32, v = (sp_element S x1 x2).1 → (v = 0 → rg x1 8 ∧ hd0 S (ix x1) = 2 ∧ rg x2 (S.2.2.1 5 (ix x1))) → v ≤ 0 ∨ (sp_element S x1 x2).2 = 0 → (v = 0 ∨ v = 1 ∨ v = 2) → s_X12_element_41 x1 x2 P M v := by
    intro v hv h0 hz h3 M1 e1
    have f := fin0 v hv M1 e1
    have e0 : M1.1 10 0 0 = v := by rw [e1, wI_at, if_pos ⟨rfl, rfl, rfl⟩]
    rw [e0]
    refine ⟨fun z => ?_, fun z => ?_⟩
    · have hv0 : v = 0 := by
        rcases h3 with q | q | q
        · exact q
        · rw [q] at z; exact absurd z (by decide)
        · rw [q] at z; exact absurd z (by decide)
      obtain ⟨g1, q, g2⟩ := h0 hv0
      have hd := rg_lt g1
      obtain ⟨w0, w1, w2, w3, w4, w5, -⟩ := hw.2.2 _ hd
      have l2 := rg_lt g2
      have ead : 80 * x1 + x2 = nI (80 * ix x1 + ix x2) := by
        conv => lhs; rw [rg_nI g1 (by omega), rg_nI g2 (by omega)]
        rw [show (80 : Int32) = nI 80 from rfl, pk_mul, nI_add]
      rw [ead]
      refine ⟨vp_in_nI (by omega) (by omega), ?_⟩
      have ev : (sp_element S x1 x2).2 = (S.2.2.2 (ix x1) (ix x2)).toInt64 := by unfold sp_element; rw [if_pos g1, if_pos ⟨q, g2⟩]
      rw [ev] at f
      rw [nI_clamp (by omega), e1]
      show P (M.2.1 78 0 (80 * ix x1 + ix x2)) _
      rw [((h.2.2.1 _ hd).2.2 q).2.2 _ (by omega), ← e1]
      exact f
    · rcases hz with q | q
      · exact absurd q z
      · rw [← q]; exact f
  unfold s_X12_element
  refine t_wrongRow h.2.2.1 (fun g1 => (hw.2.2 _ (rg_lt g1)).1) (fun g1 => ?_) (fun g1 q => ?_) (fun g1 q => ?_) (fun g1 q => ?_)
  · refine ⟨fun z => absurd rfl z, fun _ => ?_⟩
    exact key 1 (by unfold sp_element; rw [if_neg g1]) (fun z => absurd z (by decide)) (Or.inr (by unfold sp_element; rw [if_neg g1])) (Or.inr (Or.inl rfl))
  · refine ⟨fun _ => ⟨fun _ => ?_, fun z => absurd (by decide) z⟩, fun z => absurd z (by decide)⟩
    exact key 2 (by unfold sp_element; rw [if_pos g1, if_neg (by omega)]) (fun z => absurd z (by decide)) (Or.inr (by unfold sp_element; rw [if_pos g1, if_neg (by omega)])) (Or.inr (Or.inr rfl))
  · refine ⟨fun _ => ⟨fun z => absurd z (by decide), fun _ => ⟨rg_in g1, ?_⟩⟩, fun z => absurd z (by decide)⟩
    obtain ⟨a4, a5, a6⟩ := (h.2.2.1 _ (rg_lt g1)).2.2 q
    obtain ⟨w0, w1, w2, w3, w4, w5, -⟩ := hw.2.2 _ (rg_lt g1)
    rw [show (x1.toNatClampNeg) = ix x1 from rfl, a5]
    refine t_in (by decide) (nI_m1 (by omega)) (fun g2 => c1 ?_) (fun g2 => c0 ?_)
    · exact key 0 (by unfold sp_element; rw [if_pos g1, if_pos ⟨q, g2⟩]) (fun _ => ⟨g1, q, g2⟩) (Or.inl (by decide)) (Or.inl rfl)
    · exact key 2 (by unfold sp_element; rw [if_pos g1, if_neg (fun z => g2 z.2)]) (fun z => absurd z (by decide)) (Or.inr (by unfold sp_element; rw [if_pos g1, if_neg (fun z => g2 z.2)])) (Or.inr (Or.inr rfl))
  · refine ⟨fun _ => ⟨fun _ => ?_, fun z => absurd (by decide) z⟩, fun z => absurd z (by decide)⟩
    exact key 2 (by unfold sp_element; rw [if_pos g1, if_neg (by omega)]) (fun z => absurd z (by decide)) (Or.inr (by unfold sp_element; rw [if_pos g1, if_neg (by omega)])) (Or.inr (Or.inr rfl))
