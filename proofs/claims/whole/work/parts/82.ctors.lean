/-! CONSTRUCTORS -/
/-- a row that is filled: place g k holds v, for all k below -/
def fil (g : Nat → Nat) (v : Int32) (f0 : Nat → Int32) : Nat → Nat → Int32
  | 0 => f0
  | k + 1 => upd (fil g v f0 k) (g k) v
theorem k_ix {i : Int32} {n : Nat} (h : i = nI n) (hn : n < 2 ^ 31) : i.toNatClampNeg = n ∧ ¬ i < 0 := by
  rw [h]; exact ⟨nI_clamp hn, nI_pos hn⟩
theorem k_n10 : (nI (lnB 0)).toNatClampNeg = 10 ∧ ¬ nI (lnB 0) < 0 := by decide +kernel
theorem y_S {G : Gn} {s : State} {H : Heap} (hKC : KC G s) (hO : Old G H) : vk_S 4 [10, 3, 2, 3] [txB 0, txB 1, txB 2, txB 3] (gK G) (gV G) (fun q => bs G ≤ q) s H := hKC.1.2.1.kept (fun a _ hA => hO a (Nat.not_le.mp hA))
theorem y_recv {G : Gn} {s : State} {H : Heap} (hKC : KC G s) (hO : Old G H) {k : Nat} (hk : k < 4) : ∃ cell : Cell, H[gK G k]? = some cell ∧ cell.vm.isStatics = false ∧ s.vm.findClass RJ0 = some cell.cls := by
  obtain ⟨cell, h1, h2, h3, -⟩ := ((y_S hKC hO).1 k hk).1
  exact ⟨cell, h1, h2, h3⟩
set_option maxHeartbeats 4000000 in
theorem c_K_coder (l : Launch) {G : Gn} {k : Nat} {H0 : Heap} (hk : k < 4) : Met l yJ0_coder_7d493 (cwd yJ0_coder_7d493 cJ0_coder_7d493 1 (some .byte)) rm_J0 (va_Pc [.ref (gK G k)] (fun U => (KC G U ∧ Old G U.heap) ∧ U.heap = H0)) (va_Qi (S := Unit) (fun r _ => r = 0) (fun _ t => t.heap = H0) (fun _ => False)) 0 0 (fun _ => False) := by
  refine Met.ofW (cc := cJ0_coder_7d493) (maxL := 1) (ret := some .byte) (by decide +kernel) rfl ?_
  intro p e s m args below meth c s₁ B hml hv
  obtain ⟨rfl, ⟨hKC, hO⟩, hH⟩ := hv
  have hts0 := atoms_spec (ws := cwd yJ0_coder_7d493 cJ0_coder_7d493 1 (some .byte)) B.pre
  have hl := lv_entry ([.ref (gK G k)] : List Value) (n := 1) (Nat.le_of_ble_eq_true rfl)
  rw [lg_entry_eq]
  generalize (lg_sl ([.ref (gK G k)] : List Value) ++ List.replicate (1 - (lg_sl ([.ref (gK G k)] : List Value)).length) Slot.unset).toArray = ls at hl ⊢
  replace hl : lv_has ls 1 [(0, .ref (gK G k))] := hl
  have hx := B.exec
  have hb := B.bytes
  have hret : meth.sig.returnType = some .byte := B.returns
  have hlocks := B.notSynchronized
  have hown : s.vm.findClass "java/lang/String" = some m.cls := findClass_of_methodNamed B.named
  have hts : ∀ w ∈ lw_G, w.before ([.ref (gK G k)] : List Value).toArray s = true := fun w hw => hts0 w (List.mem_cons_of_mem _ hw)
  have hS : va_S (fun _ => False) s.heap s.heap [] := va_S.rf
  obtain ⟨cf, kf, fi, f, a, cell, h1, h2, h3, h4, h5, h6, h7, h8⟩ := hKC.1.2.2.1
  refine W.gets hx hb hown (hts _ tw_1) h1 h2 h3 h4 (by rw [hO a (Nat.not_le.mp h8)]; exact h5) (fun e => by rw [e] at h6; cases h6) h7 rfl dJ0_coder_7d493_0 ?_
  show W p l e _ s m _ below meth c s.heap [] 0 0 _ (F0 m 3 ls [.int 1])
  refine lv_if_eq (tgt := 13) hx hb dJ0_coder_7d493_3 (by decide) (fun c3 => absurd c3 (by decide)) (fun c3 => ?_)
  refine lv_aload_n hx hb dJ0_coder_7d493_6 rfl (lv_at hl 0 rfl) ?_
  obtain ⟨cf2, k2, fi2, f2, cell2, g1, g2, g3, g4, g5, g6⟩ := ((y_S hKC hO).1 k hk).2.1
  refine W.getf hx hb hown (hts _ tw_2) g1 g2 g3 g4 g5 rfl rfl dJ0_coder_7d493_7 ?_
  show W p l e _ s m _ below meth c s.heap [] 0 0 _ (F0 m 10 ls [.int 0])
  refine lv_goto (tgt := 14) hx hb dJ0_coder_7d493_10 (by decide) ?_
  exact W.zret hx hb hret rfl (fun t ht hWm => ⟨⟨0, (), rfl, rfl, ht.trans hH⟩, hS.F ht⟩) hS.2.2 dJ0_coder_7d493_14
set_option maxHeartbeats 4000000 in
theorem c_K_length (l : Launch) {G : Gn} {k : Nat} {H0 : Heap} (hk : k < 4) : Met l yJ0_length_8abf5 (cwd yJ0_length_8abf5 cJ0_length_8abf5 1 (some .int)) rm_J1 (va_Pc [.ref (gK G k)] (fun U => (KC G U ∧ Old G U.heap) ∧ U.heap = H0)) (va_Qi (S := Unit) (fun r _ => r = nI (lnB k)) (fun _ t => t.heap = H0) (fun _ => False)) 0 0 (fun _ => False) := by
  refine Met.ofW (cc := cJ0_length_8abf5) (maxL := 1) (ret := some .int) (by decide +kernel) rfl ?_
  intro p e s m args below meth c s₁ B hml hv
  obtain ⟨rfl, ⟨hKC, hO⟩, hH⟩ := hv
  have hts0 := atoms_spec (ws := cwd yJ0_length_8abf5 cJ0_length_8abf5 1 (some .int)) B.pre
  have hl := lv_entry ([.ref (gK G k)] : List Value) (n := 1) (Nat.le_of_ble_eq_true rfl)
  rw [lg_entry_eq]
  generalize (lg_sl ([.ref (gK G k)] : List Value) ++ List.replicate (1 - (lg_sl ([.ref (gK G k)] : List Value)).length) Slot.unset).toArray = ls at hl ⊢
  replace hl : lv_has ls 1 [(0, .ref (gK G k))] := hl
  have hlocks := B.notSynchronized
  have hret : meth.sig.returnType = some .int := B.returns
  have hown : s.vm.findClass "java/lang/String" = some m.cls := findClass_of_methodNamed B.named
  have S : CallFix p m c cJ0_length_8abf5 1 s ([.ref (gK G k)] : List Value).toArray lw_G "java/lang/String" := ⟨B.exec, B.bytes, hml, hown, fun w hw => hts0 w (List.mem_cons_of_mem _ hw)⟩
  generalize ([.ref (gK G k)] : List Value).toArray = AV at S ⊢
  have hx := S.1
  have hb := S.2.1
  have hts := S.2.2.2.2
  have hS : va_S (fun _ => False) s.heap s.heap [] := va_S.rf
  refine lv_aload_n hx hb dJ0_length_8abf5_0 rfl (lv_at hl 0 rfl) ?_
  obtain ⟨cf2, k2, fi2, f2, cell2, g1, g2, g3, g4, g5, g6⟩ := ((y_S hKC hO).1 k hk).2.2.1
  refine W.getf hx hb hown (hts _ tw_3) g1 g2 g3 g4 g5 rfl rfl dJ0_length_8abf5_1 ?_
  show W p l e _ s m _ below meth c s.heap [] 0 0 _ (F0 m 4 ls [.ref (gV G k)])
  obtain ⟨cell3, i1, i2, i3, i4, i5, i6, i7⟩ := ((y_S hKC hO).1 k hk).2.2.2
  refine W.alen (n := nI (lnB k)) hx hb i1 i2 i5 rfl rfl dJ0_length_8abf5_4 ?_
  show W p l e _ s m _ below meth c s.heap [] 0 0 _ (F0 m 5 ls [.int (nI (lnB k))])
  refine lv_aload_n hx hb dJ0_length_8abf5_5 rfl (lv_at hl 0 rfl) ?_
  obtain ⟨l1, l2, l3, l4, l5, l6⟩ := lk_J0_335
  have hr := va_runV (g := F0 m 6 ls [.ref (gK G k), .int (nI (lnB k))]) (C := RJ0) (rest := [.int (nI (lnB k))]) S (c_K_coder l (G := G) (k := k) (H0 := s.heap) hk) ⟨callB_of (R := rm_J1) 0 hts (m_good l5) rfl rfl rfl (hts _ l4) (hts _ l1) l6 ⟨Nat.le_of_ble_eq_true rfl, Nat.le_of_ble_eq_true rfl⟩, hts _ l2, hts _ l3⟩ ⟨fun _ _ _ _ q => ⟨q.1, ⟨q.2.1.1.blind, q.2.1.2⟩, q.2.2⟩, y_recv hKC hO hk, fun U hU hWm => ⟨rfl, ⟨hKC.warm hWm, by rw [hU]; exact hO⟩, hU⟩⟩ rfl rfl hl.1 rfl (lv_room (Nat.le_of_ble_eq_true rfl)) dJ0_length_8abf5_6 (p := p) (e := e) (below := below) (meth := meth) (H := s.heap) (locs := []) (cells := 0) (slots := 0) ⟨Nat.le_of_ble_eq_true rfl, Nat.le_of_ble_eq_true rfl⟩
  refine va_calli hr hS (fun q _ h => h.elim) (fun q h => h.elim) (fun rr u t H1 locs ht _ hp hB1 _ _ hS => ?_)
  have eH : H1 = s.heap := by rw [← ht]; exact hB1
  subst eH
  subst hp
  refine lv_ishr hx hb dJ0_length_8abf5_9 ?_
  have e : nI (lnB k) >>> ((0 : Int32) &&& 31) = nI (lnB k) := by
    rcases (show k = 0 ∨ k = 1 ∨ k = 2 ∨ k = 3 by omega) with rfl | rfl | rfl | rfl <;> decide +kernel
  rw [e]
  exact W.zret hx hb hret rfl (fun t ht hWm => ⟨⟨_, (), rfl, rfl, ht.trans hH⟩, hS.F ht⟩) hS.2.2 dJ0_length_8abf5_10
theorem lk_X10_54 : LKV "MilkDesk$World" 54 RJ0 yJ0_length_8abf5 cJ0_length_8abf5 1 (some .int) 0 := ⟨lw_Gi 262 (by decide +kernel) rfl, lw_Gi 263 (by decide +kernel) rfl, lw_Gi 264 (by decide +kernel) rfl, tw_i, lw_Gi 265 (by decide +kernel) rfl, by decide +kernel, by decide +kernel, by decide +kernel⟩
def fW (G : Gn) (a : Nat) : List Value := [.int 0, .ref (a + 1), .ref (a + 9), .ref (a + 18), .ref (a + 23), .ref (a + 26), .ref (a + 30), .ref (a + 31), .ref (a + 32), .int 0]
theorem mw_46 : Cond.methodLink "MilkDesk$Schools" 3 Lib.objectInit ∈ lw_G := lw_Gi 106 (by decide +kernel) rfl
theorem kn_12 : (12 : Int32).toNatClampNeg = 12 ∧ ¬ (12 : Int32) < 0 := by decide +kernel
theorem ks_132 : (Int16.ofInt 132).toInt32 = (132 : Int32) := by decide +kernel
theorem kn_132 : (132 : Int32).toNatClampNeg = 132 ∧ ¬ (132 : Int32) < 0 := by decide +kernel
theorem mw_95 : Cond.methodLink "MilkDesk$Dairies" 3 Lib.objectInit ∈ lw_G := lw_Gi 155 (by decide +kernel) rfl
theorem kn_20 : (20 : Int32).toNatClampNeg = 20 ∧ ¬ (20 : Int32) < 0 := by decide +kernel
theorem mw_138 : Cond.methodLink "MilkDesk$HeadRows" 3 Lib.objectInit ∈ lw_G := lw_Gi 198 (by decide +kernel) rfl
theorem kn_16 : (16 : Int32).toNatClampNeg = 16 ∧ ¬ (16 : Int32) < 0 := by decide +kernel
theorem ks_192 : (Int16.ofInt 192).toInt32 = (192 : Int32) := by decide +kernel
theorem kn_192 : (192 : Int32).toNatClampNeg = 192 ∧ ¬ (192 : Int32) < 0 := by decide +kernel
theorem mw_161 : Cond.methodLink "MilkDesk$ActBook" 3 Lib.objectInit ∈ lw_G := lw_Gi 221 (by decide +kernel) rfl
theorem mw_162 : Cond.classLink "MilkDesk$ActBook" 9 RX0 ∈ lw_G := lw_Gi 222 (by decide +kernel) rfl
theorem mw_182 : Cond.methodLink "MilkDesk$Looks" 3 Lib.objectInit ∈ lw_G := lw_Gi 242 (by decide +kernel) rfl
theorem kn_30 : (30 : Int32).toNatClampNeg = 30 ∧ ¬ (30 : Int32) < 0 := by decide +kernel
theorem mw_257 : Cond.methodLink "MilkDesk$ActReader" 3 Lib.objectInit ∈ lw_G := lw_Gi 317 (by decide +kernel) rfl
theorem kn_80 : (80 : Int32).toNatClampNeg = 80 ∧ ¬ (80 : Int32) < 0 := by decide +kernel
theorem mw_285 : Cond.methodLink "MilkDesk$RoundSearch" 3 Lib.objectInit ∈ lw_G := lw_Gi 345 (by decide +kernel) rfl
theorem mw_330 : Cond.methodLink "MilkDesk$Shelf" 3 Lib.objectInit ∈ lw_G := lw_Gi 390 (by decide +kernel) rfl
theorem mw_40 : Cond.methodLink "MilkDesk$World" 3 Lib.objectInit ∈ lw_G := lw_Gi 100 (by decide +kernel) rfl
theorem mw_41 : Cond.classLink "MilkDesk$World" 9 RX8 ∈ lw_G := lw_Gi 101 (by decide +kernel) rfl
theorem mw_42 : Cond.instantiable RX8 8 ∈ lw_G := lw_Gi 102 (by decide +kernel) rfl
theorem iw_X8 : Cond.initialized RX8 ∈ lw_G := lw_Gi 63 (by decide +kernel) rfl
theorem mw_45 : Cond.code yX8_init cX8_init 1 none ∈ lw_G := lw_Gi 105 (by decide +kernel) rfl
theorem mw_44 : Cond.instanceMethod yX8_init ∈ lw_G := lw_Gi 104 (by decide +kernel) rfl
theorem iy_X8 : Cond.initialized yX8_init.cls ∈ lw_G := lw_Gi 63 (by decide +kernel) rfl
theorem mt_43 : Cond.methodLinkNest "MilkDesk$World" 11 yX8_init "MilkDesk" ∈ lw_tbl := List.mem_of_getElem? (i := 103) (by decide +kernel)
theorem mw_90 : Cond.classLink "MilkDesk$World" 18 RX4 ∈ lw_G := lw_Gi 150 (by decide +kernel) rfl
theorem mw_91 : Cond.instantiable RX4 9 ∈ lw_G := lw_Gi 151 (by decide +kernel) rfl
theorem iw_X4 : Cond.initialized RX4 ∈ lw_G := lw_Gi 64 (by decide +kernel) rfl
theorem mw_94 : Cond.code yX4_init cX4_init 1 none ∈ lw_G := lw_Gi 154 (by decide +kernel) rfl
theorem mw_93 : Cond.instanceMethod yX4_init ∈ lw_G := lw_Gi 153 (by decide +kernel) rfl
theorem iy_X4 : Cond.initialized yX4_init.cls ∈ lw_G := lw_Gi 64 (by decide +kernel) rfl
theorem mt_92 : Cond.methodLinkNest "MilkDesk$World" 20 yX4_init "MilkDesk" ∈ lw_tbl := List.mem_of_getElem? (i := 152) (by decide +kernel)
theorem mw_133 : Cond.classLink "MilkDesk$World" 25 RX5 ∈ lw_G := lw_Gi 193 (by decide +kernel) rfl
theorem mw_134 : Cond.instantiable RX5 5 ∈ lw_G := lw_Gi 194 (by decide +kernel) rfl
theorem iw_X5 : Cond.initialized RX5 ∈ lw_G := lw_Gi 65 (by decide +kernel) rfl
theorem mw_137 : Cond.code yX5_init cX5_init 1 none ∈ lw_G := lw_Gi 197 (by decide +kernel) rfl
theorem mw_136 : Cond.instanceMethod yX5_init ∈ lw_G := lw_Gi 196 (by decide +kernel) rfl
theorem iy_X5 : Cond.initialized yX5_init.cls ∈ lw_G := lw_Gi 65 (by decide +kernel) rfl
theorem mt_135 : Cond.methodLinkNest "MilkDesk$World" 27 yX5_init "MilkDesk" ∈ lw_tbl := List.mem_of_getElem? (i := 195) (by decide +kernel)
theorem mw_156 : Cond.classLink "MilkDesk$World" 32 RX1 ∈ lw_G := lw_Gi 216 (by decide +kernel) rfl
theorem mw_157 : Cond.instantiable RX1 3 ∈ lw_G := lw_Gi 217 (by decide +kernel) rfl
theorem iw_X1 : Cond.initialized RX1 ∈ lw_G := lw_Gi 66 (by decide +kernel) rfl
theorem mw_160 : Cond.code yX1_init cX1_init 1 none ∈ lw_G := lw_Gi 220 (by decide +kernel) rfl
theorem mw_159 : Cond.instanceMethod yX1_init ∈ lw_G := lw_Gi 219 (by decide +kernel) rfl
theorem iy_X1 : Cond.initialized yX1_init.cls ∈ lw_G := lw_Gi 66 (by decide +kernel) rfl
theorem mt_158 : Cond.methodLinkNest "MilkDesk$World" 34 yX1_init "MilkDesk" ∈ lw_tbl := List.mem_of_getElem? (i := 218) (by decide +kernel)
theorem mw_177 : Cond.classLink "MilkDesk$World" 39 RX6 ∈ lw_G := lw_Gi 237 (by decide +kernel) rfl
theorem mw_178 : Cond.instantiable RX6 4 ∈ lw_G := lw_Gi 238 (by decide +kernel) rfl
theorem iw_X6 : Cond.initialized RX6 ∈ lw_G := lw_Gi 67 (by decide +kernel) rfl
theorem mw_181 : Cond.code yX6_init cX6_init 1 none ∈ lw_G := lw_Gi 241 (by decide +kernel) rfl
theorem mw_180 : Cond.instanceMethod yX6_init ∈ lw_G := lw_Gi 240 (by decide +kernel) rfl
theorem iy_X6 : Cond.initialized yX6_init.cls ∈ lw_G := lw_Gi 67 (by decide +kernel) rfl
theorem mt_179 : Cond.methodLinkNest "MilkDesk$World" 41 yX6_init "MilkDesk" ∈ lw_tbl := List.mem_of_getElem? (i := 239) (by decide +kernel)
theorem kb_36 : (Int8.ofInt 36).toInt32 = (36 : Int32) := by decide +kernel
theorem kn_36 : (36 : Int32).toNatClampNeg = 36 ∧ ¬ (36 : Int32) < 0 := by decide +kernel
theorem mw_212 : Cond.constant "MilkDesk$World" 66 (99999 : Int32) ∈ lw_G := lw_Gi 272 (by decide +kernel) rfl
theorem mw_32 : Cond.methodLink "MilkDesk" 3 Lib.objectInit ∈ lw_G := lw_Gi 92 (by decide +kernel) rfl
theorem mw_35 : Cond.classLink "MilkDesk" 9 RX10 ∈ lw_G := lw_Gi 95 (by decide +kernel) rfl
theorem mw_36 : Cond.instantiable RX10 10 ∈ lw_G := lw_Gi 96 (by decide +kernel) rfl
theorem iw_X10 : Cond.initialized RX10 ∈ lw_G := lw_Gi 62 (by decide +kernel) rfl
theorem mw_39 : Cond.code yX10_init cX10_init 2 none ∈ lw_G := lw_Gi 99 (by decide +kernel) rfl
theorem mw_38 : Cond.instanceMethod yX10_init ∈ lw_G := lw_Gi 98 (by decide +kernel) rfl
theorem iy_X10 : Cond.initialized yX10_init.cls ∈ lw_G := lw_Gi 62 (by decide +kernel) rfl
theorem mw_37 : Cond.methodLink "MilkDesk" 11 yX10_init ∈ lw_G := lw_Gi 97 (by decide +kernel) rfl
theorem mw_252 : Cond.classLink "MilkDesk" 22 RX2 ∈ lw_G := lw_Gi 312 (by decide +kernel) rfl
theorem mw_253 : Cond.instantiable RX2 7 ∈ lw_G := lw_Gi 313 (by decide +kernel) rfl
theorem iw_X2 : Cond.initialized RX2 ∈ lw_G := lw_Gi 69 (by decide +kernel) rfl
theorem mw_256 : Cond.code yX2_init cX2_init 1 none ∈ lw_G := lw_Gi 316 (by decide +kernel) rfl
theorem mw_255 : Cond.instanceMethod yX2_init ∈ lw_G := lw_Gi 315 (by decide +kernel) rfl
theorem iy_X2 : Cond.initialized yX2_init.cls ∈ lw_G := lw_Gi 69 (by decide +kernel) rfl
theorem mt_254 : Cond.methodLinkNest "MilkDesk" 24 yX2_init "MilkDesk" ∈ lw_tbl := List.mem_of_getElem? (i := 314) (by decide +kernel)
theorem mw_280 : Cond.classLink "MilkDesk" 29 RX7 ∈ lw_G := lw_Gi 340 (by decide +kernel) rfl
theorem mw_281 : Cond.instantiable RX7 12 ∈ lw_G := lw_Gi 341 (by decide +kernel) rfl
theorem iw_X7 : Cond.initialized RX7 ∈ lw_G := lw_Gi 70 (by decide +kernel) rfl
theorem mw_284 : Cond.code yX7_init cX7_init 1 none ∈ lw_G := lw_Gi 344 (by decide +kernel) rfl
theorem mw_283 : Cond.instanceMethod yX7_init ∈ lw_G := lw_Gi 343 (by decide +kernel) rfl
theorem iy_X7 : Cond.initialized yX7_init.cls ∈ lw_G := lw_Gi 70 (by decide +kernel) rfl
theorem mt_282 : Cond.methodLinkNest "MilkDesk" 31 yX7_init "MilkDesk" ∈ lw_tbl := List.mem_of_getElem? (i := 342) (by decide +kernel)
theorem mw_324 : Cond.classLink "MilkDesk" 36 RX9 ∈ lw_G := lw_Gi 384 (by decide +kernel) rfl
theorem mw_326 : Cond.instantiable RX9 7 ∈ lw_G := lw_Gi 386 (by decide +kernel) rfl
theorem iw_X9 : Cond.initialized RX9 ∈ lw_G := lw_Gi 71 (by decide +kernel) rfl
theorem mw_329 : Cond.code yX9_init cX9_init 1 none ∈ lw_G := lw_Gi 389 (by decide +kernel) rfl
theorem mw_328 : Cond.instanceMethod yX9_init ∈ lw_G := lw_Gi 388 (by decide +kernel) rfl
theorem iy_X9 : Cond.initialized yX9_init.cls ∈ lw_G := lw_Gi 71 (by decide +kernel) rfl
theorem mt_327 : Cond.methodLinkNest "MilkDesk" 42 yX9_init "MilkDesk" ∈ lw_tbl := List.mem_of_getElem? (i := 387) (by decide +kernel)
def bX8 (G : Gn) (a : Nat) : List va_E :=
  ([.inr (7, [.int 0, .ref (a + 1), .ref (a + 2), .ref (a + 3), .ref (a + 4), .ref (a + 5), .ref (a + 6), .ref (a + 7)])] ++ [.inl (gI G, 12, .inl (fun _ => 0))] ++ [.inl (gI G, 12, .inl (fun _ => 0))] ++ [.inl (gI G, 12, .inl (fun _ => 0))] ++ [.inl (gI G, 12, .inl (fun _ => 0))] ++ [.inl (gI G, 12, .inl (fun _ => 0))] ++ [.inl (gI G, 12, .inl (fun _ => 0))] ++ [.inl (gI G, 132, .inl (fun _ => 0))] : List va_E)
abbrev rm_X8_init : Room := { frames := 1, cells := 7, slots := 204, locals := 12 }
set_option maxHeartbeats 4000000 in
set_option maxRecDepth 100000 in
theorem c_X8_init (l : Launch) {G : Gn} {a : Nat} : MQk l yX8_init cX8_init 1 rm_X8_init [.ref a] (fun _ => True) G a (.inr (7, [.int 0, .null, .null, .null, .null, .null, .null, .null])) (bX8 G a) := by
  refine k_enter (by decide +kernel) rfl (Nat.le_of_ble_eq_true rfl) ?_
  intro p e s m AV below meth c ls H locs S hret hlocks hname hKC hO hba hsz hB hS hl hz
  replace S : CallFix p m c cX8_init 1 s AV lw_G "MilkDesk$Schools" := S
  have hK := hKC.1.1
  have hx := S.1
  have hb := S.2.1
  have hml := S.2.2.1
  have hown := S.2.2.2.1
  have hts := S.2.2.2.2
  replace hl : lv_has ls 1 [(0, .ref a)] := hl
  refine lv_aload_n hx hb dX8_init_0 rfl (lv_at hl 0 rfl) ?_
  refine k_obj S hl.1 mw_46 dX8_init_1 (Nat.le_of_ble_eq_true rfl) (Nat.le_of_ble_eq_true rfl) ?_
  refine lv_aload_n hx hb dX8_init_4 rfl (lv_at hl 0 rfl) ?_
  refine lv_bipush hx hb dX8_init_5 kb_12 ?_
  refine k_newi S hK hS hB (N := 12) (z := 1) rfl kn_12 (Nat.le_of_ble_eq_true rfl) (Nat.le_of_ble_eq_true rfl) (Nat.le_of_ble_eq_true rfl) dX8_init_7 (fun H hB hS => ?_)
  refine k_putF (a := a) (j := 0) S hK fk_X8_9 tyX8_ok nmX8 rfl hname rfl rfl rfl hB rfl (Nat.le_of_ble_eq_true rfl) hS dX8_init_9 (fun H locs hB hS => ?_)
  replace hB : Blk G a ([.inr (7, [.int 0, .ref (a + 1), .null, .null, .null, .null, .null, .null])] ++ [.inl (gI G, 12, .inl (fun _ => 0))] : List va_E) H := hB
  refine lv_aload_n hx hb dX8_init_12 rfl (lv_at hl 0 rfl) ?_
  refine lv_bipush hx hb dX8_init_13 kb_12 ?_
  refine k_newi S hK hS hB (N := 12) (z := 2) rfl kn_12 (Nat.le_of_ble_eq_true rfl) (Nat.le_of_ble_eq_true rfl) (Nat.le_of_ble_eq_true rfl) dX8_init_15 (fun H hB hS => ?_)
  refine k_putF (a := a) (j := 0) S hK fk_X8_15 tyX8_ok nmX8 rfl hname rfl rfl rfl hB rfl (Nat.le_of_ble_eq_true rfl) hS dX8_init_17 (fun H locs hB hS => ?_)
  replace hB : Blk G a ([.inr (7, [.int 0, .ref (a + 1), .ref (a + 2), .null, .null, .null, .null, .null])] ++ [.inl (gI G, 12, .inl (fun _ => 0))] ++ [.inl (gI G, 12, .inl (fun _ => 0))] : List va_E) H := hB
  refine lv_aload_n hx hb dX8_init_20 rfl (lv_at hl 0 rfl) ?_
  refine lv_bipush hx hb dX8_init_21 kb_12 ?_
  refine k_newi S hK hS hB (N := 12) (z := 3) rfl kn_12 (Nat.le_of_ble_eq_true rfl) (Nat.le_of_ble_eq_true rfl) (Nat.le_of_ble_eq_true rfl) dX8_init_23 (fun H hB hS => ?_)
  refine k_putF (a := a) (j := 0) S hK fk_X8_18 tyX8_ok nmX8 rfl hname rfl rfl rfl hB rfl (Nat.le_of_ble_eq_true rfl) hS dX8_init_25 (fun H locs hB hS => ?_)
  replace hB : Blk G a ([.inr (7, [.int 0, .ref (a + 1), .ref (a + 2), .ref (a + 3), .null, .null, .null, .null])] ++ [.inl (gI G, 12, .inl (fun _ => 0))] ++ [.inl (gI G, 12, .inl (fun _ => 0))] ++ [.inl (gI G, 12, .inl (fun _ => 0))] : List va_E) H := hB
  refine lv_aload_n hx hb dX8_init_28 rfl (lv_at hl 0 rfl) ?_
  refine lv_bipush hx hb dX8_init_29 kb_12 ?_
  refine k_newi S hK hS hB (N := 12) (z := 4) rfl kn_12 (Nat.le_of_ble_eq_true rfl) (Nat.le_of_ble_eq_true rfl) (Nat.le_of_ble_eq_true rfl) dX8_init_31 (fun H hB hS => ?_)
  refine k_putF (a := a) (j := 0) S hK fk_X8_21 tyX8_ok nmX8 rfl hname rfl rfl rfl hB rfl (Nat.le_of_ble_eq_true rfl) hS dX8_init_33 (fun H locs hB hS => ?_)
  replace hB : Blk G a ([.inr (7, [.int 0, .ref (a + 1), .ref (a + 2), .ref (a + 3), .ref (a + 4), .null, .null, .null])] ++ [.inl (gI G, 12, .inl (fun _ => 0))] ++ [.inl (gI G, 12, .inl (fun _ => 0))] ++ [.inl (gI G, 12, .inl (fun _ => 0))] ++ [.inl (gI G, 12, .inl (fun _ => 0))] : List va_E) H := hB
  refine lv_aload_n hx hb dX8_init_36 rfl (lv_at hl 0 rfl) ?_
  refine lv_bipush hx hb dX8_init_37 kb_12 ?_
  refine k_newi S hK hS hB (N := 12) (z := 5) rfl kn_12 (Nat.le_of_ble_eq_true rfl) (Nat.le_of_ble_eq_true rfl) (Nat.le_of_ble_eq_true rfl) dX8_init_39 (fun H hB hS => ?_)
  refine k_putF (a := a) (j := 0) S hK fk_X8_24 tyX8_ok nmX8 rfl hname rfl rfl rfl hB rfl (Nat.le_of_ble_eq_true rfl) hS dX8_init_41 (fun H locs hB hS => ?_)
  replace hB : Blk G a ([.inr (7, [.int 0, .ref (a + 1), .ref (a + 2), .ref (a + 3), .ref (a + 4), .ref (a + 5), .null, .null])] ++ [.inl (gI G, 12, .inl (fun _ => 0))] ++ [.inl (gI G, 12, .inl (fun _ => 0))] ++ [.inl (gI G, 12, .inl (fun _ => 0))] ++ [.inl (gI G, 12, .inl (fun _ => 0))] ++ [.inl (gI G, 12, .inl (fun _ => 0))] : List va_E) H := hB
  refine lv_aload_n hx hb dX8_init_44 rfl (lv_at hl 0 rfl) ?_
  refine lv_bipush hx hb dX8_init_45 kb_12 ?_
  refine k_newi S hK hS hB (N := 12) (z := 6) rfl kn_12 (Nat.le_of_ble_eq_true rfl) (Nat.le_of_ble_eq_true rfl) (Nat.le_of_ble_eq_true rfl) dX8_init_47 (fun H hB hS => ?_)
  refine k_putF (a := a) (j := 0) S hK fk_X8_27 tyX8_ok nmX8 rfl hname rfl rfl rfl hB rfl (Nat.le_of_ble_eq_true rfl) hS dX8_init_49 (fun H locs hB hS => ?_)
  replace hB : Blk G a ([.inr (7, [.int 0, .ref (a + 1), .ref (a + 2), .ref (a + 3), .ref (a + 4), .ref (a + 5), .ref (a + 6), .null])] ++ [.inl (gI G, 12, .inl (fun _ => 0))] ++ [.inl (gI G, 12, .inl (fun _ => 0))] ++ [.inl (gI G, 12, .inl (fun _ => 0))] ++ [.inl (gI G, 12, .inl (fun _ => 0))] ++ [.inl (gI G, 12, .inl (fun _ => 0))] ++ [.inl (gI G, 12, .inl (fun _ => 0))] : List va_E) H := hB
  refine lv_aload_n hx hb dX8_init_52 rfl (lv_at hl 0 rfl) ?_
  refine lv_sipush hx hb dX8_init_53 ks_132 ?_
  refine k_newi S hK hS hB (N := 132) (z := 7) rfl kn_132 (Nat.le_of_ble_eq_true rfl) (Nat.le_of_ble_eq_true rfl) (Nat.le_of_ble_eq_true rfl) dX8_init_56 (fun H hB hS => ?_)
  refine k_putF (a := a) (j := 0) S hK fk_X8_30 tyX8_ok nmX8 rfl hname rfl rfl rfl hB rfl (Nat.le_of_ble_eq_true rfl) hS dX8_init_58 (fun H locs hB hS => ?_)
  replace hB : Blk G a ([.inr (7, [.int 0, .ref (a + 1), .ref (a + 2), .ref (a + 3), .ref (a + 4), .ref (a + 5), .ref (a + 6), .ref (a + 7)])] ++ [.inl (gI G, 12, .inl (fun _ => 0))] ++ [.inl (gI G, 12, .inl (fun _ => 0))] ++ [.inl (gI G, 12, .inl (fun _ => 0))] ++ [.inl (gI G, 12, .inl (fun _ => 0))] ++ [.inl (gI G, 12, .inl (fun _ => 0))] ++ [.inl (gI G, 12, .inl (fun _ => 0))] ++ [.inl (gI G, 132, .inl (fun _ => 0))] : List va_E) H := hB
  exact k_ret (es := bX8 G a) S hret hlocks hKC hB hS (Nat.le_of_ble_eq_true rfl) (Nat.le_of_ble_eq_true rfl) dX8_init_61
def bX4 (G : Gn) (a : Nat) : List va_E :=
  ([.inr (3, [.int 0, .ref (a + 1), .ref (a + 2), .ref (a + 3), .ref (a + 4), .ref (a + 5), .ref (a + 6), .ref (a + 7), .ref (a + 8)])] ++ [.inl (gI G, 5, .inl (fun _ => 0))] ++ [.inl (gI G, 5, .inl (fun _ => 0))] ++ [.inl (gI G, 5, .inl (fun _ => 0))] ++ [.inl (gI G, 5, .inl (fun _ => 0))] ++ [.inl (gI G, 20, .inl (fun _ => 0))] ++ [.inl (gI G, 5, .inl (fun _ => 0))] ++ [.inl (gI G, 5, .inl (fun _ => 0))] ++ [.inl (gI G, 5, .inl (fun _ => 0))] : List va_E)
abbrev rm_X4_init : Room := { frames := 1, cells := 8, slots := 55, locals := 12 }
set_option maxHeartbeats 4000000 in
set_option maxRecDepth 100000 in
theorem c_X4_init (l : Launch) {G : Gn} {a : Nat} : MQk l yX4_init cX4_init 1 rm_X4_init [.ref a] (fun _ => True) G a (.inr (3, [.int 0, .null, .null, .null, .null, .null, .null, .null, .null])) (bX4 G a) := by
  refine k_enter (by decide +kernel) rfl (Nat.le_of_ble_eq_true rfl) ?_
  intro p e s m AV below meth c ls H locs S hret hlocks hname hKC hO hba hsz hB hS hl hz
  replace S : CallFix p m c cX4_init 1 s AV lw_G "MilkDesk$Dairies" := S
  have hK := hKC.1.1
  have hx := S.1
  have hb := S.2.1
  have hml := S.2.2.1
  have hown := S.2.2.2.1
  have hts := S.2.2.2.2
  replace hl : lv_has ls 1 [(0, .ref a)] := hl
  refine lv_aload_n hx hb dX4_init_0 rfl (lv_at hl 0 rfl) ?_
  refine k_obj S hl.1 mw_95 dX4_init_1 (Nat.le_of_ble_eq_true rfl) (Nat.le_of_ble_eq_true rfl) ?_
  refine lv_aload_n hx hb dX4_init_4 rfl (lv_at hl 0 rfl) ?_
  refine lv_iconst hx hb dX4_init_5 ki_5 ?_
  refine k_newi S hK hS hB (N := 5) (z := 1) rfl kn_5 (Nat.le_of_ble_eq_true rfl) (Nat.le_of_ble_eq_true rfl) (Nat.le_of_ble_eq_true rfl) dX4_init_6 (fun H hB hS => ?_)
  refine k_putF (a := a) (j := 0) S hK fk_X4_9 tyX4_ok nmX4 rfl hname rfl rfl rfl hB rfl (Nat.le_of_ble_eq_true rfl) hS dX4_init_8 (fun H locs hB hS => ?_)
  replace hB : Blk G a ([.inr (3, [.int 0, .ref (a + 1), .null, .null, .null, .null, .null, .null, .null])] ++ [.inl (gI G, 5, .inl (fun _ => 0))] : List va_E) H := hB
  refine lv_aload_n hx hb dX4_init_11 rfl (lv_at hl 0 rfl) ?_
  refine lv_iconst hx hb dX4_init_12 ki_5 ?_
  refine k_newi S hK hS hB (N := 5) (z := 2) rfl kn_5 (Nat.le_of_ble_eq_true rfl) (Nat.le_of_ble_eq_true rfl) (Nat.le_of_ble_eq_true rfl) dX4_init_13 (fun H hB hS => ?_)
  refine k_putF (a := a) (j := 0) S hK fk_X4_15 tyX4_ok nmX4 rfl hname rfl rfl rfl hB rfl (Nat.le_of_ble_eq_true rfl) hS dX4_init_15 (fun H locs hB hS => ?_)
  replace hB : Blk G a ([.inr (3, [.int 0, .ref (a + 1), .ref (a + 2), .null, .null, .null, .null, .null, .null])] ++ [.inl (gI G, 5, .inl (fun _ => 0))] ++ [.inl (gI G, 5, .inl (fun _ => 0))] : List va_E) H := hB
  refine lv_aload_n hx hb dX4_init_18 rfl (lv_at hl 0 rfl) ?_
  refine lv_iconst hx hb dX4_init_19 ki_5 ?_
  refine k_newi S hK hS hB (N := 5) (z := 3) rfl kn_5 (Nat.le_of_ble_eq_true rfl) (Nat.le_of_ble_eq_true rfl) (Nat.le_of_ble_eq_true rfl) dX4_init_20 (fun H hB hS => ?_)
  refine k_putF (a := a) (j := 0) S hK fk_X4_18 tyX4_ok nmX4 rfl hname rfl rfl rfl hB rfl (Nat.le_of_ble_eq_true rfl) hS dX4_init_22 (fun H locs hB hS => ?_)
  replace hB : Blk G a ([.inr (3, [.int 0, .ref (a + 1), .ref (a + 2), .ref (a + 3), .null, .null, .null, .null, .null])] ++ [.inl (gI G, 5, .inl (fun _ => 0))] ++ [.inl (gI G, 5, .inl (fun _ => 0))] ++ [.inl (gI G, 5, .inl (fun _ => 0))] : List va_E) H := hB
  refine lv_aload_n hx hb dX4_init_25 rfl (lv_at hl 0 rfl) ?_
  refine lv_iconst hx hb dX4_init_26 ki_5 ?_
  refine k_newi S hK hS hB (N := 5) (z := 4) rfl kn_5 (Nat.le_of_ble_eq_true rfl) (Nat.le_of_ble_eq_true rfl) (Nat.le_of_ble_eq_true rfl) dX4_init_27 (fun H hB hS => ?_)
  refine k_putF (a := a) (j := 0) S hK fk_X4_21 tyX4_ok nmX4 rfl hname rfl rfl rfl hB rfl (Nat.le_of_ble_eq_true rfl) hS dX4_init_29 (fun H locs hB hS => ?_)
  replace hB : Blk G a ([.inr (3, [.int 0, .ref (a + 1), .ref (a + 2), .ref (a + 3), .ref (a + 4), .null, .null, .null, .null])] ++ [.inl (gI G, 5, .inl (fun _ => 0))] ++ [.inl (gI G, 5, .inl (fun _ => 0))] ++ [.inl (gI G, 5, .inl (fun _ => 0))] ++ [.inl (gI G, 5, .inl (fun _ => 0))] : List va_E) H := hB
  refine lv_aload_n hx hb dX4_init_32 rfl (lv_at hl 0 rfl) ?_
  refine lv_bipush hx hb dX4_init_33 kb_20 ?_
  refine k_newi S hK hS hB (N := 20) (z := 5) rfl kn_20 (Nat.le_of_ble_eq_true rfl) (Nat.le_of_ble_eq_true rfl) (Nat.le_of_ble_eq_true rfl) dX4_init_35 (fun H hB hS => ?_)
  refine k_putF (a := a) (j := 0) S hK fk_X4_24 tyX4_ok nmX4 rfl hname rfl rfl rfl hB rfl (Nat.le_of_ble_eq_true rfl) hS dX4_init_37 (fun H locs hB hS => ?_)
  replace hB : Blk G a ([.inr (3, [.int 0, .ref (a + 1), .ref (a + 2), .ref (a + 3), .ref (a + 4), .ref (a + 5), .null, .null, .null])] ++ [.inl (gI G, 5, .inl (fun _ => 0))] ++ [.inl (gI G, 5, .inl (fun _ => 0))] ++ [.inl (gI G, 5, .inl (fun _ => 0))] ++ [.inl (gI G, 5, .inl (fun _ => 0))] ++ [.inl (gI G, 20, .inl (fun _ => 0))] : List va_E) H := hB
  refine lv_aload_n hx hb dX4_init_40 rfl (lv_at hl 0 rfl) ?_
  refine lv_iconst hx hb dX4_init_41 ki_5 ?_
  refine k_newi S hK hS hB (N := 5) (z := 6) rfl kn_5 (Nat.le_of_ble_eq_true rfl) (Nat.le_of_ble_eq_true rfl) (Nat.le_of_ble_eq_true rfl) dX4_init_42 (fun H hB hS => ?_)
  refine k_putF (a := a) (j := 0) S hK fk_X4_27 tyX4_ok nmX4 rfl hname rfl rfl rfl hB rfl (Nat.le_of_ble_eq_true rfl) hS dX4_init_44 (fun H locs hB hS => ?_)
  replace hB : Blk G a ([.inr (3, [.int 0, .ref (a + 1), .ref (a + 2), .ref (a + 3), .ref (a + 4), .ref (a + 5), .ref (a + 6), .null, .null])] ++ [.inl (gI G, 5, .inl (fun _ => 0))] ++ [.inl (gI G, 5, .inl (fun _ => 0))] ++ [.inl (gI G, 5, .inl (fun _ => 0))] ++ [.inl (gI G, 5, .inl (fun _ => 0))] ++ [.inl (gI G, 20, .inl (fun _ => 0))] ++ [.inl (gI G, 5, .inl (fun _ => 0))] : List va_E) H := hB
  refine lv_aload_n hx hb dX4_init_47 rfl (lv_at hl 0 rfl) ?_
  refine lv_iconst hx hb dX4_init_48 ki_5 ?_
  refine k_newi S hK hS hB (N := 5) (z := 7) rfl kn_5 (Nat.le_of_ble_eq_true rfl) (Nat.le_of_ble_eq_true rfl) (Nat.le_of_ble_eq_true rfl) dX4_init_49 (fun H hB hS => ?_)
  refine k_putF (a := a) (j := 0) S hK fk_X4_30 tyX4_ok nmX4 rfl hname rfl rfl rfl hB rfl (Nat.le_of_ble_eq_true rfl) hS dX4_init_51 (fun H locs hB hS => ?_)
  replace hB : Blk G a ([.inr (3, [.int 0, .ref (a + 1), .ref (a + 2), .ref (a + 3), .ref (a + 4), .ref (a + 5), .ref (a + 6), .ref (a + 7), .null])] ++ [.inl (gI G, 5, .inl (fun _ => 0))] ++ [.inl (gI G, 5, .inl (fun _ => 0))] ++ [.inl (gI G, 5, .inl (fun _ => 0))] ++ [.inl (gI G, 5, .inl (fun _ => 0))] ++ [.inl (gI G, 20, .inl (fun _ => 0))] ++ [.inl (gI G, 5, .inl (fun _ => 0))] ++ [.inl (gI G, 5, .inl (fun _ => 0))] : List va_E) H := hB
  refine lv_aload_n hx hb dX4_init_54 rfl (lv_at hl 0 rfl) ?_
  refine lv_iconst hx hb dX4_init_55 ki_5 ?_
  refine k_newi S hK hS hB (N := 5) (z := 8) rfl kn_5 (Nat.le_of_ble_eq_true rfl) (Nat.le_of_ble_eq_true rfl) (Nat.le_of_ble_eq_true rfl) dX4_init_56 (fun H hB hS => ?_)
  refine k_putF (a := a) (j := 0) S hK fk_X4_33 tyX4_ok nmX4 rfl hname rfl rfl rfl hB rfl (Nat.le_of_ble_eq_true rfl) hS dX4_init_58 (fun H locs hB hS => ?_)
  replace hB : Blk G a ([.inr (3, [.int 0, .ref (a + 1), .ref (a + 2), .ref (a + 3), .ref (a + 4), .ref (a + 5), .ref (a + 6), .ref (a + 7), .ref (a + 8)])] ++ [.inl (gI G, 5, .inl (fun _ => 0))] ++ [.inl (gI G, 5, .inl (fun _ => 0))] ++ [.inl (gI G, 5, .inl (fun _ => 0))] ++ [.inl (gI G, 5, .inl (fun _ => 0))] ++ [.inl (gI G, 20, .inl (fun _ => 0))] ++ [.inl (gI G, 5, .inl (fun _ => 0))] ++ [.inl (gI G, 5, .inl (fun _ => 0))] ++ [.inl (gI G, 5, .inl (fun _ => 0))] : List va_E) H := hB
  exact k_ret (es := bX4 G a) S hret hlocks hKC hB hS (Nat.le_of_ble_eq_true rfl) (Nat.le_of_ble_eq_true rfl) dX4_init_61
def bX5 (G : Gn) (a : Nat) : List va_E :=
  ([.inr (4, [.int 0, .ref (a + 1), .ref (a + 2), .ref (a + 3), .ref (a + 4)])] ++ [.inl (gI G, 16, .inl (fun _ => 0))] ++ [.inl (gI G, 16, .inl (fun _ => 0))] ++ [.inl (gI G, 16, .inl (fun _ => 0))] ++ [.inl (gI G, 192, .inl (fun _ => 0))] : List va_E)
abbrev rm_X5_init : Room := { frames := 1, cells := 4, slots := 240, locals := 12 }
set_option maxHeartbeats 4000000 in
set_option maxRecDepth 100000 in
theorem c_X5_init (l : Launch) {G : Gn} {a : Nat} : MQk l yX5_init cX5_init 1 rm_X5_init [.ref a] (fun _ => True) G a (.inr (4, [.int 0, .null, .null, .null, .null])) (bX5 G a) := by
  refine k_enter (by decide +kernel) rfl (Nat.le_of_ble_eq_true rfl) ?_
  intro p e s m AV below meth c ls H locs S hret hlocks hname hKC hO hba hsz hB hS hl hz
  replace S : CallFix p m c cX5_init 1 s AV lw_G "MilkDesk$HeadRows" := S
  have hK := hKC.1.1
  have hx := S.1
  have hb := S.2.1
  have hml := S.2.2.1
  have hown := S.2.2.2.1
  have hts := S.2.2.2.2
  replace hl : lv_has ls 1 [(0, .ref a)] := hl
  refine lv_aload_n hx hb dX5_init_0 rfl (lv_at hl 0 rfl) ?_
  refine k_obj S hl.1 mw_138 dX5_init_1 (Nat.le_of_ble_eq_true rfl) (Nat.le_of_ble_eq_true rfl) ?_
  refine lv_aload_n hx hb dX5_init_4 rfl (lv_at hl 0 rfl) ?_
  refine lv_bipush hx hb dX5_init_5 kb_16 ?_
  refine k_newi S hK hS hB (N := 16) (z := 1) rfl kn_16 (Nat.le_of_ble_eq_true rfl) (Nat.le_of_ble_eq_true rfl) (Nat.le_of_ble_eq_true rfl) dX5_init_7 (fun H hB hS => ?_)
  refine k_putF (a := a) (j := 0) S hK fk_X5_9 tyX5_ok nmX5 rfl hname rfl rfl rfl hB rfl (Nat.le_of_ble_eq_true rfl) hS dX5_init_9 (fun H locs hB hS => ?_)
  replace hB : Blk G a ([.inr (4, [.int 0, .ref (a + 1), .null, .null, .null])] ++ [.inl (gI G, 16, .inl (fun _ => 0))] : List va_E) H := hB
  refine lv_aload_n hx hb dX5_init_12 rfl (lv_at hl 0 rfl) ?_
  refine lv_bipush hx hb dX5_init_13 kb_16 ?_
  refine k_newi S hK hS hB (N := 16) (z := 2) rfl kn_16 (Nat.le_of_ble_eq_true rfl) (Nat.le_of_ble_eq_true rfl) (Nat.le_of_ble_eq_true rfl) dX5_init_15 (fun H hB hS => ?_)
  refine k_putF (a := a) (j := 0) S hK fk_X5_15 tyX5_ok nmX5 rfl hname rfl rfl rfl hB rfl (Nat.le_of_ble_eq_true rfl) hS dX5_init_17 (fun H locs hB hS => ?_)
  replace hB : Blk G a ([.inr (4, [.int 0, .ref (a + 1), .ref (a + 2), .null, .null])] ++ [.inl (gI G, 16, .inl (fun _ => 0))] ++ [.inl (gI G, 16, .inl (fun _ => 0))] : List va_E) H := hB
  refine lv_aload_n hx hb dX5_init_20 rfl (lv_at hl 0 rfl) ?_
  refine lv_bipush hx hb dX5_init_21 kb_16 ?_
  refine k_newi S hK hS hB (N := 16) (z := 3) rfl kn_16 (Nat.le_of_ble_eq_true rfl) (Nat.le_of_ble_eq_true rfl) (Nat.le_of_ble_eq_true rfl) dX5_init_23 (fun H hB hS => ?_)
  refine k_putF (a := a) (j := 0) S hK fk_X5_18 tyX5_ok nmX5 rfl hname rfl rfl rfl hB rfl (Nat.le_of_ble_eq_true rfl) hS dX5_init_25 (fun H locs hB hS => ?_)
  replace hB : Blk G a ([.inr (4, [.int 0, .ref (a + 1), .ref (a + 2), .ref (a + 3), .null])] ++ [.inl (gI G, 16, .inl (fun _ => 0))] ++ [.inl (gI G, 16, .inl (fun _ => 0))] ++ [.inl (gI G, 16, .inl (fun _ => 0))] : List va_E) H := hB
  refine lv_aload_n hx hb dX5_init_28 rfl (lv_at hl 0 rfl) ?_
  refine lv_sipush hx hb dX5_init_29 ks_192 ?_
  refine k_newi S hK hS hB (N := 192) (z := 4) rfl kn_192 (Nat.le_of_ble_eq_true rfl) (Nat.le_of_ble_eq_true rfl) (Nat.le_of_ble_eq_true rfl) dX5_init_32 (fun H hB hS => ?_)
  refine k_putF (a := a) (j := 0) S hK fk_X5_21 tyX5_ok nmX5 rfl hname rfl rfl rfl hB rfl (Nat.le_of_ble_eq_true rfl) hS dX5_init_34 (fun H locs hB hS => ?_)
  replace hB : Blk G a ([.inr (4, [.int 0, .ref (a + 1), .ref (a + 2), .ref (a + 3), .ref (a + 4)])] ++ [.inl (gI G, 16, .inl (fun _ => 0))] ++ [.inl (gI G, 16, .inl (fun _ => 0))] ++ [.inl (gI G, 16, .inl (fun _ => 0))] ++ [.inl (gI G, 192, .inl (fun _ => 0))] : List va_E) H := hB
  exact k_ret (es := bX5 G a) S hret hlocks hKC hB hS (Nat.le_of_ble_eq_true rfl) (Nat.le_of_ble_eq_true rfl) dX5_init_37
def bX1 (G : Gn) (a : Nat) : List va_E :=
  ([.inr (1, [.int 0, .ref (a + 1), .ref (a + 2)])] ++ [.inl (gA G, 16, .inr (.inr (.inr (.inr (fun _ => none)))))] ++ [.inl (gI G, 16, .inl (fun _ => 0))] : List va_E)
abbrev rm_X1_init : Room := { frames := 1, cells := 2, slots := 32, locals := 12 }
set_option maxHeartbeats 4000000 in
set_option maxRecDepth 100000 in
theorem c_X1_init (l : Launch) {G : Gn} {a : Nat} : MQk l yX1_init cX1_init 1 rm_X1_init [.ref a] (fun _ => True) G a (.inr (1, [.int 0, .null, .null])) (bX1 G a) := by
  refine k_enter (by decide +kernel) rfl (Nat.le_of_ble_eq_true rfl) ?_
  intro p e s m AV below meth c ls H locs S hret hlocks hname hKC hO hba hsz hB hS hl hz
  replace S : CallFix p m c cX1_init 1 s AV lw_G "MilkDesk$ActBook" := S
  have hK := hKC.1.1
  have hx := S.1
  have hb := S.2.1
  have hml := S.2.2.1
  have hown := S.2.2.2.1
  have hts := S.2.2.2.2
  replace hl : lv_has ls 1 [(0, .ref a)] := hl
  refine lv_aload_n hx hb dX1_init_0 rfl (lv_at hl 0 rfl) ?_
  refine k_obj S hl.1 mw_161 dX1_init_1 (Nat.le_of_ble_eq_true rfl) (Nat.le_of_ble_eq_true rfl) ?_
  refine lv_aload_n hx hb dX1_init_4 rfl (lv_at hl 0 rfl) ?_
  refine lv_bipush hx hb dX1_init_5 kb_16 ?_
  refine k_newq S (C := RX0) (cA := gA G) (hK.2 4 _ rfl).2 hKC.2.1 mw_162 hS hB (N := 16) (z := 1) rfl kn_16 (Nat.le_of_ble_eq_true rfl) (Nat.le_of_ble_eq_true rfl) (Nat.le_of_ble_eq_true rfl) dX1_init_7 (fun H hB hS => ?_)
  refine k_putF (a := a) (j := 0) S hK fk_X1_11 tyX1_ok nmX1 rfl hname rfl rfl rfl hB rfl (Nat.le_of_ble_eq_true rfl) hS dX1_init_10 (fun H locs hB hS => ?_)
  replace hB : Blk G a ([.inr (1, [.int 0, .ref (a + 1), .null])] ++ [.inl (gA G, 16, .inr (.inr (.inr (.inr (fun _ => none)))))] : List va_E) H := hB
  refine lv_aload_n hx hb dX1_init_13 rfl (lv_at hl 0 rfl) ?_
  refine lv_bipush hx hb dX1_init_14 kb_16 ?_
  refine k_newi S hK hS hB (N := 16) (z := 2) rfl kn_16 (Nat.le_of_ble_eq_true rfl) (Nat.le_of_ble_eq_true rfl) (Nat.le_of_ble_eq_true rfl) dX1_init_16 (fun H hB hS => ?_)
  refine k_putF (a := a) (j := 0) S hK fk_X1_17 tyX1_ok nmX1 rfl hname rfl rfl rfl hB rfl (Nat.le_of_ble_eq_true rfl) hS dX1_init_18 (fun H locs hB hS => ?_)
  replace hB : Blk G a ([.inr (1, [.int 0, .ref (a + 1), .ref (a + 2)])] ++ [.inl (gA G, 16, .inr (.inr (.inr (.inr (fun _ => none)))))] ++ [.inl (gI G, 16, .inl (fun _ => 0))] : List va_E) H := hB
  exact k_ret (es := bX1 G a) S hret hlocks hKC hB hS (Nat.le_of_ble_eq_true rfl) (Nat.le_of_ble_eq_true rfl) dX1_init_21
def bX6 (G : Gn) (a : Nat) : List va_E :=
  ([.inr (5, [.int 0, .ref (a + 1), .ref (a + 2), .ref (a + 3)])] ++ [.inl (gI G, 30, .inl (fun _ => 0))] ++ [.inl (gI G, 30, .inl (fun _ => 0))] ++ [.inl (gI G, 30, .inl (fun _ => 0))] : List va_E)
abbrev rm_X6_init : Room := { frames := 1, cells := 3, slots := 90, locals := 12 }
set_option maxHeartbeats 4000000 in
set_option maxRecDepth 100000 in
theorem c_X6_init (l : Launch) {G : Gn} {a : Nat} : MQk l yX6_init cX6_init 1 rm_X6_init [.ref a] (fun _ => True) G a (.inr (5, [.int 0, .null, .null, .null])) (bX6 G a) := by
  refine k_enter (by decide +kernel) rfl (Nat.le_of_ble_eq_true rfl) ?_
  intro p e s m AV below meth c ls H locs S hret hlocks hname hKC hO hba hsz hB hS hl hz
  replace S : CallFix p m c cX6_init 1 s AV lw_G "MilkDesk$Looks" := S
  have hK := hKC.1.1
  have hx := S.1
  have hb := S.2.1
  have hml := S.2.2.1
  have hown := S.2.2.2.1
  have hts := S.2.2.2.2
  replace hl : lv_has ls 1 [(0, .ref a)] := hl
  refine lv_aload_n hx hb dX6_init_0 rfl (lv_at hl 0 rfl) ?_
  refine k_obj S hl.1 mw_182 dX6_init_1 (Nat.le_of_ble_eq_true rfl) (Nat.le_of_ble_eq_true rfl) ?_
  refine lv_aload_n hx hb dX6_init_4 rfl (lv_at hl 0 rfl) ?_
  refine lv_bipush hx hb dX6_init_5 kb_30 ?_
  refine k_newi S hK hS hB (N := 30) (z := 1) rfl kn_30 (Nat.le_of_ble_eq_true rfl) (Nat.le_of_ble_eq_true rfl) (Nat.le_of_ble_eq_true rfl) dX6_init_7 (fun H hB hS => ?_)
  refine k_putF (a := a) (j := 0) S hK fk_X6_9 tyX6_ok nmX6 rfl hname rfl rfl rfl hB rfl (Nat.le_of_ble_eq_true rfl) hS dX6_init_9 (fun H locs hB hS => ?_)
  replace hB : Blk G a ([.inr (5, [.int 0, .ref (a + 1), .null, .null])] ++ [.inl (gI G, 30, .inl (fun _ => 0))] : List va_E) H := hB
  refine lv_aload_n hx hb dX6_init_12 rfl (lv_at hl 0 rfl) ?_
  refine lv_bipush hx hb dX6_init_13 kb_30 ?_
  refine k_newi S hK hS hB (N := 30) (z := 2) rfl kn_30 (Nat.le_of_ble_eq_true rfl) (Nat.le_of_ble_eq_true rfl) (Nat.le_of_ble_eq_true rfl) dX6_init_15 (fun H hB hS => ?_)
  refine k_putF (a := a) (j := 0) S hK fk_X6_15 tyX6_ok nmX6 rfl hname rfl rfl rfl hB rfl (Nat.le_of_ble_eq_true rfl) hS dX6_init_17 (fun H locs hB hS => ?_)
  replace hB : Blk G a ([.inr (5, [.int 0, .ref (a + 1), .ref (a + 2), .null])] ++ [.inl (gI G, 30, .inl (fun _ => 0))] ++ [.inl (gI G, 30, .inl (fun _ => 0))] : List va_E) H := hB
  refine lv_aload_n hx hb dX6_init_20 rfl (lv_at hl 0 rfl) ?_
  refine lv_bipush hx hb dX6_init_21 kb_30 ?_
  refine k_newi S hK hS hB (N := 30) (z := 3) rfl kn_30 (Nat.le_of_ble_eq_true rfl) (Nat.le_of_ble_eq_true rfl) (Nat.le_of_ble_eq_true rfl) dX6_init_23 (fun H hB hS => ?_)
  refine k_putF (a := a) (j := 0) S hK fk_X6_18 tyX6_ok nmX6 rfl hname rfl rfl rfl hB rfl (Nat.le_of_ble_eq_true rfl) hS dX6_init_25 (fun H locs hB hS => ?_)
  replace hB : Blk G a ([.inr (5, [.int 0, .ref (a + 1), .ref (a + 2), .ref (a + 3)])] ++ [.inl (gI G, 30, .inl (fun _ => 0))] ++ [.inl (gI G, 30, .inl (fun _ => 0))] ++ [.inl (gI G, 30, .inl (fun _ => 0))] : List va_E) H := hB
  exact k_ret (es := bX6 G a) S hret hlocks hKC hB hS (Nat.le_of_ble_eq_true rfl) (Nat.le_of_ble_eq_true rfl) dX6_init_28
def bX2 (G : Gn) (a : Nat) : List va_E :=
  ([.inr (2, [.ref (a + 1), .int 0, .int 0, .ref (a + 2), .int 0, .int 0, .int 0])] ++ [.inl (gI G, 80, .inl (fun _ => 0))] ++ [.inl (gI G, 0, .inl (fun _ => 0))] : List va_E)
abbrev rm_X2_init : Room := { frames := 1, cells := 2, slots := 80, locals := 12 }
set_option maxHeartbeats 4000000 in
set_option maxRecDepth 100000 in
theorem c_X2_init (l : Launch) {G : Gn} {a : Nat} : MQk l yX2_init cX2_init 1 rm_X2_init [.ref a] (fun _ => True) G a (.inr (2, [.null, .int 0, .int 0, .null, .int 0, .int 0, .int 0])) (bX2 G a) := by
  refine k_enter (by decide +kernel) rfl (Nat.le_of_ble_eq_true rfl) ?_
  intro p e s m AV below meth c ls H locs S hret hlocks hname hKC hO hba hsz hB hS hl hz
  replace S : CallFix p m c cX2_init 1 s AV lw_G "MilkDesk$ActReader" := S
  have hK := hKC.1.1
  have hx := S.1
  have hb := S.2.1
  have hml := S.2.2.1
  have hown := S.2.2.2.1
  have hts := S.2.2.2.2
  replace hl : lv_has ls 1 [(0, .ref a)] := hl
  refine lv_aload_n hx hb dX2_init_0 rfl (lv_at hl 0 rfl) ?_
  refine k_obj S hl.1 mw_257 dX2_init_1 (Nat.le_of_ble_eq_true rfl) (Nat.le_of_ble_eq_true rfl) ?_
  refine lv_aload_n hx hb dX2_init_4 rfl (lv_at hl 0 rfl) ?_
  refine lv_bipush hx hb dX2_init_5 kb_80 ?_
  refine k_newi S hK hS hB (N := 80) (z := 1) rfl kn_80 (Nat.le_of_ble_eq_true rfl) (Nat.le_of_ble_eq_true rfl) (Nat.le_of_ble_eq_true rfl) dX2_init_7 (fun H hB hS => ?_)
  refine k_putF (a := a) (j := 0) S hK fk_X2_9 tyX2_ok nmX2 rfl hname rfl rfl rfl hB rfl (Nat.le_of_ble_eq_true rfl) hS dX2_init_9 (fun H locs hB hS => ?_)
  replace hB : Blk G a ([.inr (2, [.ref (a + 1), .int 0, .int 0, .null, .int 0, .int 0, .int 0])] ++ [.inl (gI G, 80, .inl (fun _ => 0))] : List va_E) H := hB
  refine lv_aload_n hx hb dX2_init_12 rfl (lv_at hl 0 rfl) ?_
  refine lv_iconst hx hb dX2_init_13 ki_0 ?_
  refine k_newi S hK hS hB (N := 0) (z := 2) rfl kn_0 (Nat.le_of_ble_eq_true rfl) (Nat.le_of_ble_eq_true rfl) (Nat.le_of_ble_eq_true rfl) dX2_init_14 (fun H hB hS => ?_)
  refine k_putN (a := a) (j := 0) S hK fk_X2_15 tyX2_ok nmX2 rfl rfl rfl hB rfl (Nat.le_of_ble_eq_true rfl) hS dX2_init_16 (fun H locs hB hS => ?_)
  replace hB : Blk G a ([.inr (2, [.ref (a + 1), .int 0, .int 0, .ref (a + 2), .int 0, .int 0, .int 0])] ++ [.inl (gI G, 80, .inl (fun _ => 0))] ++ [.inl (gI G, 0, .inl (fun _ => 0))] : List va_E) H := hB
  exact k_ret (es := bX2 G a) S hret hlocks hKC hB hS (Nat.le_of_ble_eq_true rfl) (Nat.le_of_ble_eq_true rfl) dX2_init_19
def bX7 (G : Gn) (a : Nat) : List va_E :=
  ([.inr (6, [.int 0, .ref (a + 1), .ref (a + 2), .ref (a + 3), .ref (a + 4), .ref (a + 5), .ref (a + 6), .int 0, .int 0, .int 0, .int 0, .int 0])] ++ [.inl (gI G, 7, .inl (fun _ => 0))] ++ [.inl (gI G, 7, .inl (fun _ => 0))] ++ [.inl (gI G, 7, .inl (fun _ => 0))] ++ [.inl (gI G, 7, .inl (fun _ => 0))] ++ [.inl (gI G, 7, .inl (fun _ => 0))] ++ [.inl (gI G, 7, .inl (fun _ => 0))] : List va_E)
abbrev rm_X7_init : Room := { frames := 1, cells := 6, slots := 42, locals := 12 }
set_option maxHeartbeats 4000000 in
set_option maxRecDepth 100000 in
theorem c_X7_init (l : Launch) {G : Gn} {a : Nat} : MQk l yX7_init cX7_init 1 rm_X7_init [.ref a] (fun _ => True) G a (.inr (6, [.int 0, .null, .null, .null, .null, .null, .null, .int 0, .int 0, .int 0, .int 0, .int 0])) (bX7 G a) := by
  refine k_enter (by decide +kernel) rfl (Nat.le_of_ble_eq_true rfl) ?_
  intro p e s m AV below meth c ls H locs S hret hlocks hname hKC hO hba hsz hB hS hl hz
  replace S : CallFix p m c cX7_init 1 s AV lw_G "MilkDesk$RoundSearch" := S
  have hK := hKC.1.1
  have hx := S.1
  have hb := S.2.1
  have hml := S.2.2.1
  have hown := S.2.2.2.1
  have hts := S.2.2.2.2
  replace hl : lv_has ls 1 [(0, .ref a)] := hl
  refine lv_aload_n hx hb dX7_init_0 rfl (lv_at hl 0 rfl) ?_
  refine k_obj S hl.1 mw_285 dX7_init_1 (Nat.le_of_ble_eq_true rfl) (Nat.le_of_ble_eq_true rfl) ?_
  refine lv_aload_n hx hb dX7_init_4 rfl (lv_at hl 0 rfl) ?_
  refine lv_bipush hx hb dX7_init_5 kb_7 ?_
  refine k_newi S hK hS hB (N := 7) (z := 1) rfl kn_7 (Nat.le_of_ble_eq_true rfl) (Nat.le_of_ble_eq_true rfl) (Nat.le_of_ble_eq_true rfl) dX7_init_7 (fun H hB hS => ?_)
  refine k_putF (a := a) (j := 0) S hK fk_X7_9 tyX7_ok nmX7 rfl hname rfl rfl rfl hB rfl (Nat.le_of_ble_eq_true rfl) hS dX7_init_9 (fun H locs hB hS => ?_)
  replace hB : Blk G a ([.inr (6, [.int 0, .ref (a + 1), .null, .null, .null, .null, .null, .int 0, .int 0, .int 0, .int 0, .int 0])] ++ [.inl (gI G, 7, .inl (fun _ => 0))] : List va_E) H := hB
  refine lv_aload_n hx hb dX7_init_12 rfl (lv_at hl 0 rfl) ?_
  refine lv_bipush hx hb dX7_init_13 kb_7 ?_
  refine k_newi S hK hS hB (N := 7) (z := 2) rfl kn_7 (Nat.le_of_ble_eq_true rfl) (Nat.le_of_ble_eq_true rfl) (Nat.le_of_ble_eq_true rfl) dX7_init_15 (fun H hB hS => ?_)
  refine k_putF (a := a) (j := 0) S hK fk_X7_15 tyX7_ok nmX7 rfl hname rfl rfl rfl hB rfl (Nat.le_of_ble_eq_true rfl) hS dX7_init_17 (fun H locs hB hS => ?_)
  replace hB : Blk G a ([.inr (6, [.int 0, .ref (a + 1), .ref (a + 2), .null, .null, .null, .null, .int 0, .int 0, .int 0, .int 0, .int 0])] ++ [.inl (gI G, 7, .inl (fun _ => 0))] ++ [.inl (gI G, 7, .inl (fun _ => 0))] : List va_E) H := hB
  refine lv_aload_n hx hb dX7_init_20 rfl (lv_at hl 0 rfl) ?_
  refine lv_bipush hx hb dX7_init_21 kb_7 ?_
  refine k_newi S hK hS hB (N := 7) (z := 3) rfl kn_7 (Nat.le_of_ble_eq_true rfl) (Nat.le_of_ble_eq_true rfl) (Nat.le_of_ble_eq_true rfl) dX7_init_23 (fun H hB hS => ?_)
  refine k_putF (a := a) (j := 0) S hK fk_X7_18 tyX7_ok nmX7 rfl hname rfl rfl rfl hB rfl (Nat.le_of_ble_eq_true rfl) hS dX7_init_25 (fun H locs hB hS => ?_)
  replace hB : Blk G a ([.inr (6, [.int 0, .ref (a + 1), .ref (a + 2), .ref (a + 3), .null, .null, .null, .int 0, .int 0, .int 0, .int 0, .int 0])] ++ [.inl (gI G, 7, .inl (fun _ => 0))] ++ [.inl (gI G, 7, .inl (fun _ => 0))] ++ [.inl (gI G, 7, .inl (fun _ => 0))] : List va_E) H := hB
  refine lv_aload_n hx hb dX7_init_28 rfl (lv_at hl 0 rfl) ?_
  refine lv_bipush hx hb dX7_init_29 kb_7 ?_
  refine k_newi S hK hS hB (N := 7) (z := 4) rfl kn_7 (Nat.le_of_ble_eq_true rfl) (Nat.le_of_ble_eq_true rfl) (Nat.le_of_ble_eq_true rfl) dX7_init_31 (fun H hB hS => ?_)
  refine k_putF (a := a) (j := 0) S hK fk_X7_21 tyX7_ok nmX7 rfl hname rfl rfl rfl hB rfl (Nat.le_of_ble_eq_true rfl) hS dX7_init_33 (fun H locs hB hS => ?_)
  replace hB : Blk G a ([.inr (6, [.int 0, .ref (a + 1), .ref (a + 2), .ref (a + 3), .ref (a + 4), .null, .null, .int 0, .int 0, .int 0, .int 0, .int 0])] ++ [.inl (gI G, 7, .inl (fun _ => 0))] ++ [.inl (gI G, 7, .inl (fun _ => 0))] ++ [.inl (gI G, 7, .inl (fun _ => 0))] ++ [.inl (gI G, 7, .inl (fun _ => 0))] : List va_E) H := hB
  refine lv_aload_n hx hb dX7_init_36 rfl (lv_at hl 0 rfl) ?_
  refine lv_bipush hx hb dX7_init_37 kb_7 ?_
  refine k_newi S hK hS hB (N := 7) (z := 5) rfl kn_7 (Nat.le_of_ble_eq_true rfl) (Nat.le_of_ble_eq_true rfl) (Nat.le_of_ble_eq_true rfl) dX7_init_39 (fun H hB hS => ?_)
  refine k_putF (a := a) (j := 0) S hK fk_X7_24 tyX7_ok nmX7 rfl hname rfl rfl rfl hB rfl (Nat.le_of_ble_eq_true rfl) hS dX7_init_41 (fun H locs hB hS => ?_)
  replace hB : Blk G a ([.inr (6, [.int 0, .ref (a + 1), .ref (a + 2), .ref (a + 3), .ref (a + 4), .ref (a + 5), .null, .int 0, .int 0, .int 0, .int 0, .int 0])] ++ [.inl (gI G, 7, .inl (fun _ => 0))] ++ [.inl (gI G, 7, .inl (fun _ => 0))] ++ [.inl (gI G, 7, .inl (fun _ => 0))] ++ [.inl (gI G, 7, .inl (fun _ => 0))] ++ [.inl (gI G, 7, .inl (fun _ => 0))] : List va_E) H := hB
  refine lv_aload_n hx hb dX7_init_44 rfl (lv_at hl 0 rfl) ?_
  refine lv_bipush hx hb dX7_init_45 kb_7 ?_
  refine k_newi S hK hS hB (N := 7) (z := 6) rfl kn_7 (Nat.le_of_ble_eq_true rfl) (Nat.le_of_ble_eq_true rfl) (Nat.le_of_ble_eq_true rfl) dX7_init_47 (fun H hB hS => ?_)
  refine k_putF (a := a) (j := 0) S hK fk_X7_27 tyX7_ok nmX7 rfl hname rfl rfl rfl hB rfl (Nat.le_of_ble_eq_true rfl) hS dX7_init_49 (fun H locs hB hS => ?_)
  replace hB : Blk G a ([.inr (6, [.int 0, .ref (a + 1), .ref (a + 2), .ref (a + 3), .ref (a + 4), .ref (a + 5), .ref (a + 6), .int 0, .int 0, .int 0, .int 0, .int 0])] ++ [.inl (gI G, 7, .inl (fun _ => 0))] ++ [.inl (gI G, 7, .inl (fun _ => 0))] ++ [.inl (gI G, 7, .inl (fun _ => 0))] ++ [.inl (gI G, 7, .inl (fun _ => 0))] ++ [.inl (gI G, 7, .inl (fun _ => 0))] ++ [.inl (gI G, 7, .inl (fun _ => 0))] : List va_E) H := hB
  exact k_ret (es := bX7 G a) S hret hlocks hKC hB hS (Nat.le_of_ble_eq_true rfl) (Nat.le_of_ble_eq_true rfl) dX7_init_52
def bX9 (G : Gn) (a : Nat) : List va_E :=
  ([.inr (8, [.int 0, .int 0, .int 0, .int 0, .int 0, .int 0, .ref (a + 1)])] ++ [.inl (gI G, 80, .inl (fun _ => 0))] : List va_E)
abbrev rm_X9_init : Room := { frames := 1, cells := 1, slots := 80, locals := 12 }
set_option maxHeartbeats 4000000 in
set_option maxRecDepth 100000 in
theorem c_X9_init (l : Launch) {G : Gn} {a : Nat} : MQk l yX9_init cX9_init 1 rm_X9_init [.ref a] (fun _ => True) G a (.inr (8, [.int 0, .int 0, .int 0, .int 0, .int 0, .int 0, .null])) (bX9 G a) := by
  refine k_enter (by decide +kernel) rfl (Nat.le_of_ble_eq_true rfl) ?_
  intro p e s m AV below meth c ls H locs S hret hlocks hname hKC hO hba hsz hB hS hl hz
  replace S : CallFix p m c cX9_init 1 s AV lw_G "MilkDesk$Shelf" := S
  have hK := hKC.1.1
  have hx := S.1
  have hb := S.2.1
  have hml := S.2.2.1
  have hown := S.2.2.2.1
  have hts := S.2.2.2.2
  replace hl : lv_has ls 1 [(0, .ref a)] := hl
  refine lv_aload_n hx hb dX9_init_0 rfl (lv_at hl 0 rfl) ?_
  refine k_obj S hl.1 mw_330 dX9_init_1 (Nat.le_of_ble_eq_true rfl) (Nat.le_of_ble_eq_true rfl) ?_
  refine lv_aload_n hx hb dX9_init_4 rfl (lv_at hl 0 rfl) ?_
  refine lv_bipush hx hb dX9_init_5 kb_80 ?_
  refine k_newi S hK hS hB (N := 80) (z := 1) rfl kn_80 (Nat.le_of_ble_eq_true rfl) (Nat.le_of_ble_eq_true rfl) (Nat.le_of_ble_eq_true rfl) dX9_init_7 (fun H hB hS => ?_)
  refine k_putF (a := a) (j := 0) S hK fk_X9_9 tyX9_ok nmX9 rfl hname rfl rfl rfl hB rfl (Nat.le_of_ble_eq_true rfl) hS dX9_init_9 (fun H locs hB hS => ?_)
  replace hB : Blk G a ([.inr (8, [.int 0, .int 0, .int 0, .int 0, .int 0, .int 0, .ref (a + 1)])] ++ [.inl (gI G, 80, .inl (fun _ => 0))] : List va_E) H := hB
  exact k_ret (es := bX9 G a) S hret hlocks hKC hB hS (Nat.le_of_ble_eq_true rfl) (Nat.le_of_ble_eq_true rfl) dX9_init_12
