/-! WHAT IS THROWN -/
def nmT : List String := ["java/lang/RuntimeException", "java/lang/Exception"]
/-- a heap that grows keeps the world -/
theorem WPm_grow {G : Gn} {M : Mem} {H H1 : Heap} (h : WPm G M H) (hbs : bs G ≤ H.size) (o : ∀ q : Nat, q < H.size → H1[q]? = H[q]?) : WPm G M H1 := by
  obtain ⟨h1, h2, h3, h4, h5⟩ := h
  refine ⟨fun c i hi => ⟨(h1 c i hi).1, (h1 c i hi).2.kept (o _ ((h1 c i hi).2.lt))⟩, h2, fun a ha => ?_, fun z hz => (o z (by omega)).trans (h4 z hz), h5⟩
  obtain ⟨b1, b2, b3, b4⟩ := h3 a ha
  exact ⟨b1, b2.kept (o _ b2.lt), b3.kept (o _ b3.lt), b4⟩
/-- a word of the table that a method may know: a good one, or one of those that XF holds -/
def thW : Cond → Bool
  | .castable _ _ => true
  | .declares _ => true
  | w => goodWord w
theorem x_hat {args : Array Value} {s : State} (hts : ∀ w ∈ lw_G, w.before args s = true) {G : Gn} (hX : XF G s) {L : List Cond} {is : List Nat} (hm : L = is.filterMap (fun i => lw_tbl[i]?)) (hk : L.all thW = true) : ∀ w ∈ L, w.before args s = true := by
  intro w hw
  have h1 := List.all_eq_true.mp hk w hw
  have h2 : w ∈ lw_tbl := by
    rw [hm] at hw
    obtain ⟨i, -, hi⟩ := List.mem_filterMap.mp hw
    exact List.mem_of_getElem? hi
  have h3 : goodWord w = true ∨ (∃ C T, w = .castable C T) ∨ ∃ x, w = .declares x := by
    cases w <;> first | exact Or.inl h1 | exact Or.inr (Or.inl ⟨_, _, rfl⟩) | exact Or.inr (Or.inr ⟨_, rfl⟩)
  rcases h3 with g | ⟨C, T, rfl⟩ | ⟨x, rfl⟩
  · exact hts w (lw_Gm h2 g)
  · exact va_Nw.use rfl (hX.2.2.2.2.2.2.1 C T h2)
  · exact va_Nw.use rfl (hX.2.2.2.2.2.2.2.1 x h2)
def ix_T0 : List Nat := [81, 1105, 1114, 1118, 1121, 1123, 1106, 1107, 93, 94, 1108, 1113, 1119, 1139, 1095, 1140, 1097, 1141, 1099, 1109, 1111, 1101, 1135, 1136, 1138, 1101, 1126, 1127, 1128, 1129, 1087, 1129, 1130, 1131, 1132, 1089, 1132, 1133, 1134, 1135, 1091, 1125, 1084, 1085, 1092, 1093, 1094, 1096, 1098, 1100, 1104, 1103, 1102]
theorem at_T0 : vx_atS "MilkDesk$Crates" 13 "java/lang/UnsupportedOperationException" nmT = ix_T0.filterMap (fun i => lw_tbl[i]?) := by decide +kernel
theorem th_T0 : (vx_atS "MilkDesk$Crates" 13 "java/lang/UnsupportedOperationException" nmT).all thW = true := by decide +kernel
theorem ot_T0 : (vx_atS "MilkDesk$Crates" 13 "java/lang/UnsupportedOperationException" nmT).all vx_ot = true := by decide +kernel
def ix_T1 : List Nat := [81, 1105, 1114, 1118, 1121, 1123, 1106, 1107, 93, 94, 1108, 1113, 1119, 1139, 1095, 1140, 1097, 1141, 1099, 1109, 1111, 1101, 1135, 1136, 1138, 1101, 1161, 1162, 1163, 1129, 1087, 1129, 1130, 1131, 1132, 1089, 1132, 1133, 1134, 1135, 1091, 1160, 1151, 1152, 1153, 1116, 1154, 1155, 1156, 1157, 1104, 1103, 1158]
theorem at_T1 : vx_atS "MilkDesk$Crates" 20 "java/lang/IllegalArgumentException" nmT = ix_T1.filterMap (fun i => lw_tbl[i]?) := by decide +kernel
theorem th_T1 : (vx_atS "MilkDesk$Crates" 20 "java/lang/IllegalArgumentException" nmT).all thW = true := by decide +kernel
theorem ot_T1 : (vx_atS "MilkDesk$Crates" 20 "java/lang/IllegalArgumentException" nmT).all vx_ot = true := by decide +kernel
def ix_T2 : List Nat := [81, 1105, 1114, 1118, 1121, 1123, 1106, 1107, 93, 94, 1108, 1113, 1119, 1139, 1095, 1140, 1097, 1141, 1099, 1109, 1111, 1101, 1135, 1136, 1138, 1101, 1177, 1178, 1179, 1129, 1087, 1129, 1130, 1131, 1132, 1089, 1132, 1133, 1134, 1135, 1091, 1176, 1167, 1168, 1169, 1117, 1170, 1171, 1172, 1173, 1104, 1103, 1174]
theorem at_T2 : vx_atS "MilkDesk$Crates" 25 "java/lang/IllegalStateException" nmT = ix_T2.filterMap (fun i => lw_tbl[i]?) := by decide +kernel
theorem th_T2 : (vx_atS "MilkDesk$Crates" 25 "java/lang/IllegalStateException" nmT).all thW = true := by decide +kernel
theorem ot_T2 : (vx_atS "MilkDesk$Crates" 25 "java/lang/IllegalStateException" nmT).all vx_ot = true := by decide +kernel
def ix_T3 : List Nat := [81, 1105, 1114, 1118, 1121, 1123, 1106, 1107, 93, 94, 1108, 1113, 1119, 1139, 1095, 1140, 1097, 1141, 1099, 1109, 1111, 1101, 1135, 1136, 1138, 1101, 1161, 1162, 1163, 1129, 1087, 1129, 1130, 1131, 1132, 1089, 1132, 1133, 1134, 1135, 1091, 1192, 1151, 1152, 1153, 1116, 1154, 1155, 1156, 1157, 1104, 1103, 1158]
theorem at_T3 : vx_atS "MilkDesk" 287 "java/lang/IllegalArgumentException" nmT = ix_T3.filterMap (fun i => lw_tbl[i]?) := by decide +kernel
theorem th_T3 : (vx_atS "MilkDesk" 287 "java/lang/IllegalArgumentException" nmT).all thW = true := by decide +kernel
theorem ot_T3 : (vx_atS "MilkDesk" 287 "java/lang/IllegalArgumentException" nmT).all vx_ot = true := by decide +kernel
def ix_T4 : List Nat := [81, 1105, 1114, 1118, 1121, 1123, 1106, 1107, 93, 94, 1108, 1113, 1119, 1139, 1095, 1140, 1097, 1141, 1099, 1109, 1111, 1101, 1135, 1136, 1138, 1101, 1177, 1178, 1179, 1129, 1087, 1129, 1130, 1131, 1132, 1089, 1132, 1133, 1134, 1135, 1091, 1194, 1167, 1168, 1169, 1117, 1170, 1171, 1172, 1173, 1104, 1103, 1174]
theorem at_T4 : vx_atS "MilkDesk" 294 "java/lang/IllegalStateException" nmT = ix_T4.filterMap (fun i => lw_tbl[i]?) := by decide +kernel
theorem th_T4 : (vx_atS "MilkDesk" 294 "java/lang/IllegalStateException" nmT).all thW = true := by decide +kernel
theorem ot_T4 : (vx_atS "MilkDesk" 294 "java/lang/IllegalStateException" nmT).all vx_ot = true := by decide +kernel
theorem hg_T {a b : Cond} {L : List Cond} (ha : goodWord a = true) (hb : goodWord b = true) (h : L.all vx_ot = true) : ∀ w ∈ a :: b :: L, vx_ot w = true := by
  intro w hw
  rcases List.mem_cons.mp hw with rfl | hw
  · unfold vx_ot; rw [ha, Bool.or_true]
  · rcases List.mem_cons.mp hw with rfl | hw
    · unfold vx_ot; rw [hb, Bool.or_true]
    · exact List.all_eq_true.mp h w hw
/-- which exception a crate fails with -/
def exN (x : Int32) : String := if x = 6 then "java/lang/UnsupportedOperationException" else if x = 5 then "java/lang/IllegalArgumentException" else "java/lang/IllegalStateException"
abbrev rm_X3_fail : Room := { frames := 6, cells := 1, slots := 6, locals := 100 }
set_option maxHeartbeats 4000000 in
set_option maxRecDepth 100000 in
theorem c_X3_fail (l : Launch) (hl0 : l.stackTraces = false) {G : Gn} {M : Mem} {x : Int32} : vx_Met l yX3_fail (cwd yX3_fail cX3_fail 1 none) rm_X3_fail (va_Pc [.int x] (fun U => WS G M U)) (va_Qv (S := Mem) (fun _ => False) (WS G) (fun q => bs G ≤ q)) (vx_X (S := Unit) (fun _ => True) (fun E _ t => E = exN x ∧ WPm G M t.heap) (fun q => bs G ≤ q)) 1 6 (fun q => bs G ≤ q) := by
  refine vx_ofW (cc := cX3_fail) (maxL := 1) (ret := none) (by decide +kernel) rfl ?_
  intro p e s m args below meth c s₁ B hml htab hv
  obtain ⟨rfl, hKX, hbs, hW⟩ := hv
  have hts0 := atoms_spec (ws := cwd yX3_fail cX3_fail 1 none) B.pre
  have hts : ∀ w ∈ lw_G, w.before ([.int x] : List Value).toArray s = true := fun w hw => hts0 w (List.mem_cons_of_mem _ hw)
  have hx := B.exec
  have hb := B.bytes
  have hown : s.vm.findClass "MilkDesk$Crates" = some m.cls := findClass_of_methodNamed B.named
  have hlocks := B.notSynchronized
  have hl := lv_entry ([.int x] : List Value) (n := 1) (Nat.le_of_ble_eq_true rfl)
  rw [lg_entry_eq]
  generalize (lg_sl ([.int x] : List Value) ++ List.replicate (1 - (lg_sl ([.int x] : List Value)).length) Slot.unset).toArray = ls at hl ⊢
  replace hl : lv_has ls 1 [(0, .int x)] := hl
  have hS : va_S (fun q => bs G ≤ q) s.heap s.heap [] := va_S.rf
  obtain ⟨XS, XZ, ⟨k0, k1, k2, k3, k4, k5, k6, k7, k8, k9⟩, XU, XN, -⟩ := hKX.2
  have kp : ∀ a : Nat, a < (gH G).size → ¬ bs G ≤ a → s.heap[a]? = (gH G)[a]? := fun a _ hA => hW.2.2.2.1 a (Nat.not_le.mp hA)
  have hU := XU.kept kp
  have hN := XN.kept kp
  have fin : ∀ cls, cls = exN x → ∀ t : State, s.vm.Alike t.vm → s.heap.size ≤ t.heap.size → (∀ q : Nat, q < s.heap.size → t.heap[q]? = s.heap[q]?) → (vx_X (S := Unit) (fun _ => True) (fun E _ t => E = exN x ∧ WPm G M t.heap) (fun q => bs G ≤ q)) cls s t := fun cls hc t _ h1 h2 => ⟨(), trivial, ⟨hc, WPm_grow hW hbs h2⟩, h1, fun q hq _ => h2 q hq⟩
  refine lv_iload_n hx hb dX3_fail_0 rfl (lv_at hl 0 rfl) ?_
  refine lv_bipush hx hb dX3_fail_1 kb_6 ?_
  refine lv_icmp_ne (tgt := 16) hx hb dX3_fail_3 (by decide) (fun c1 => ?_) (fun c1 => ?_)
  · refine lv_iload_n hx hb dX3_fail_16 rfl (lv_at hl 0 rfl) ?_
    refine lv_iconst hx hb dX3_fail_17 ki_5 ?_
    refine lv_icmp_ne (tgt := 31) hx hb dX3_fail_18 (by decide) (fun c2 => ?_) (fun c2 => ?_)
    · exact vx_throwS (own := "MilkDesk$Crates") (names := nmT) hx hb hl0 hown (by decide +kernel) (by decide +kernel) (hts _ (lw_Gi 1166 (by decide +kernel) rfl)) (hts _ (lw_Gi 85 (by decide +kernel) rfl)) k7 (x_hat hts hKX.2 at_T2 th_T2) (hg_T rfl rfl ot_T2) hU hN hS (by rw [hml]; exact hl.1) dX3_fail_31 dX3_fail_34 dX3_fail_35 dX3_fail_37 dX3_fail_40 (fun x h => (htab x h).elim) (by decide) (by decide) (Nat.le_of_ble_eq_true rfl) (Nat.le_of_ble_eq_true rfl) hlocks (fin _ (by unfold exN; rw [if_neg c1, if_neg c2])) (fun z h => by cases h) (Nat.le_of_ble_eq_true rfl) (Nat.le_of_ble_eq_true rfl)
    · exact vx_throwS (own := "MilkDesk$Crates") (names := nmT) hx hb hl0 hown (by decide +kernel) (by decide +kernel) (hts _ (lw_Gi 1150 (by decide +kernel) rfl)) (hts _ (lw_Gi 84 (by decide +kernel) rfl)) k6 (x_hat hts hKX.2 at_T1 th_T1) (hg_T rfl rfl ot_T1) hU hN hS (by rw [hml]; exact hl.1) dX3_fail_21 dX3_fail_24 dX3_fail_25 dX3_fail_27 dX3_fail_30 (fun x h => (htab x h).elim) (by decide) (by decide) (Nat.le_of_ble_eq_true rfl) (Nat.le_of_ble_eq_true rfl) hlocks (fin _ (by unfold exN; rw [if_neg c1, if_pos c2])) (fun z h => by cases h) (Nat.le_of_ble_eq_true rfl) (Nat.le_of_ble_eq_true rfl)
  · exact vx_throwS (own := "MilkDesk$Crates") (names := nmT) hx hb hl0 hown (by decide +kernel) (by decide +kernel) (hts _ (lw_Gi 1083 (by decide +kernel) rfl)) (hts _ (lw_Gi 86 (by decide +kernel) rfl)) k5 (x_hat hts hKX.2 at_T0 th_T0) (hg_T rfl rfl ot_T0) hU hN hS (by rw [hml]; exact hl.1) dX3_fail_6 dX3_fail_9 dX3_fail_10 dX3_fail_12 dX3_fail_15 (fun x h => (htab x h).elim) (by decide) (by decide) (Nat.le_of_ble_eq_true rfl) (Nat.le_of_ble_eq_true rfl) hlocks (fin _ (by unfold exN; rw [if_pos c1])) (fun z h => by cases h) (Nat.le_of_ble_eq_true rfl) (Nat.le_of_ble_eq_true rfl)
