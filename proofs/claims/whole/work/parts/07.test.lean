theorem mw_1141 : Cond.fieldLink "MilkDeskModel" 128 "MilkDeskModel" "thrown" "I" ∈ lw_G := lw_Gi 1201 (by decide +kernel) rfl
theorem fk_X12_128 : FLK "MilkDeskModel" 128 11 0 RX12 TX12 53 := ⟨rfl, Nat.le_of_ble_eq_true rfl, mw_1141, in_wsX120⟩
theorem gi_10_0 (G : Gn) : GVI G 10 11 0 := fun _ _ _ _ => ⟨_, rfl, rfl⟩
theorem ci_10 {i : Nat} (h : i < 1) : i < cntK 10 := h
theorem ki_0 : Int32.ofInt 0 = (0 : Int32) := by decide +kernel
theorem ki_1 : Int32.ofInt 1 = (1 : Int32) := by decide +kernel
theorem mw_1142 : Cond.fieldLink "MilkDeskModel" 7 "MilkDeskModel" "st" "[I" ∈ lw_G := lw_Gi 1202 (by decide +kernel) rfl
theorem fk_X12_7 : FLK "MilkDeskModel" 7 11 1 RX12 TX12 53 := ⟨rfl, Nat.le_of_ble_eq_true rfl, mw_1142, in_wsX120⟩
theorem gr_10_1 (G : Gn) (i : Nat) : GVR G 10 11 1 i (ad G 44 i) := fun _ _ _ => ⟨_, rfl, rfl⟩
theorem ar_44 (G : Gn) : AI G 44 320 := fun _ _ _ _ => rfl
theorem ci_44 {i : Nat} (h : i < 1) : i < cntK 44 := h
theorem kn_0 : (0 : Int32).toNatClampNeg = 0 ∧ ¬ (0 : Int32) < 0 := by decide +kernel
theorem mw_1316 : Cond.code yX12_in cX12_in 3 (some .boolean) ∈ lw_G := lw_Gi 1376 (by decide +kernel) rfl
theorem mw_12 : Cond.initialized yX12_in.cls ∈ lw_G := lw_Gi 72 (by decide +kernel) rfl
theorem mw_1315 : Cond.static yX12_in ∈ lw_G := lw_Gi 1375 (by decide +kernel) rfl
theorem mw_1314 : Cond.methodLink "MilkDeskModel" 131 yX12_in ∈ lw_G := lw_Gi 1374 (by decide +kernel) rfl
theorem lk_X12_131 : LKS "MilkDeskModel" 131 yX12_in cX12_in 3 (some .boolean) 3 := ⟨mw_1314, mw_1315, mw_12, mw_1316, by decide +kernel, by decide +kernel, by decide +kernel⟩
theorem kn_1 : (1 : Int32).toNatClampNeg = 1 ∧ ¬ (1 : Int32) < 0 := by decide +kernel
theorem ki_3 : Int32.ofInt 3 = (3 : Int32) := by decide +kernel
theorem ki_2 : Int32.ofInt 2 = (2 : Int32) := by decide +kernel
theorem ks_400 : (Int16.ofInt 400).toInt32 = (400 : Int32) := by decide +kernel
theorem pf_X12_0 : parseFieldDescriptor (TX12 0).2.2.1 = some .int := by decide +kernel
theorem pv_10_0 (G : Gn) : PV G 10 11 0 := fun _ _ _ _ _ => ⟨_, rfl, Nat.le_of_ble_eq_true rfl, rfl⟩
theorem mw_1313 : Cond.code yX12_isShire cX12_isShire 1 (some .boolean) ∈ lw_G := lw_Gi 1373 (by decide +kernel) rfl
theorem mw_1312 : Cond.static yX12_isShire ∈ lw_G := lw_Gi 1372 (by decide +kernel) rfl
theorem mw_1311 : Cond.methodLink "MilkDeskModel" 135 yX12_isShire ∈ lw_G := lw_Gi 1371 (by decide +kernel) rfl
theorem lk_X12_135 : LKS "MilkDeskModel" 135 yX12_isShire cX12_isShire 1 (some .boolean) 1 := ⟨mw_1311, mw_1312, mw_12, mw_1313, by decide +kernel, by decide +kernel, by decide +kernel⟩
theorem ki_m1 : Int32.ofInt (-1) = (-1 : Int32) := by decide +kernel
theorem ks_9999 : (Int16.ofInt 9999).toInt32 = (9999 : Int32) := by decide +kernel
theorem kb_12 : (Int8.ofInt 12).toInt32 = (12 : Int32) := by decide +kernel
theorem mw_1146 : Cond.fieldLink "MilkDeskModel" 19 "MilkDeskModel" "shire" "[I" ∈ lw_G := lw_Gi 1206 (by decide +kernel) rfl
theorem fk_X12_19 : FLK "MilkDeskModel" 19 11 5 RX12 TX12 53 := ⟨rfl, Nat.le_of_ble_eq_true rfl, mw_1146, in_wsX120⟩
theorem gr_10_5 (G : Gn) (i : Nat) : GVR G 10 11 5 i (ad G 47 i) := fun _ _ _ => ⟨_, rfl, rfl⟩
theorem ar_47 (G : Gn) : AI G 47 12 := fun _ _ _ _ => rfl
theorem ci_47 {i : Nat} (h : i < 1) : i < cntK 47 := h
theorem mw_1147 : Cond.fieldLink "MilkDeskModel" 22 "MilkDeskModel" "schoolX" "[I" ∈ lw_G := lw_Gi 1207 (by decide +kernel) rfl
theorem fk_X12_22 : FLK "MilkDeskModel" 22 11 6 RX12 TX12 53 := ⟨rfl, Nat.le_of_ble_eq_true rfl, mw_1147, in_wsX120⟩
theorem gr_10_6 (G : Gn) (i : Nat) : GVR G 10 11 6 i (ad G 48 i) := fun _ _ _ => ⟨_, rfl, rfl⟩
theorem kb_100 : (Int8.ofInt 100).toInt32 = (100 : Int32) := by decide +kernel
theorem nz_100 : ¬ (100 : Int32) = 0 := by decide +kernel
theorem ar_48 (G : Gn) : AI G 48 12 := fun _ _ _ _ => rfl
theorem ci_48 {i : Nat} (h : i < 1) : i < cntK 48 := h
theorem mw_1148 : Cond.fieldLink "MilkDeskModel" 25 "MilkDeskModel" "schoolY" "[I" ∈ lw_G := lw_Gi 1208 (by decide +kernel) rfl
theorem fk_X12_25 : FLK "MilkDeskModel" 25 11 7 RX12 TX12 53 := ⟨rfl, Nat.le_of_ble_eq_true rfl, mw_1148, in_wsX120⟩
theorem gr_10_7 (G : Gn) (i : Nat) : GVR G 10 11 7 i (ad G 49 i) := fun _ _ _ => ⟨_, rfl, rfl⟩
theorem ar_49 (G : Gn) : AI G 49 12 := fun _ _ _ _ => rfl
theorem ci_49 {i : Nat} (h : i < 1) : i < cntK 49 := h
theorem kb_10 : (Int8.ofInt 10).toInt32 = (10 : Int32) := by decide +kernel
theorem kb_30 : (Int8.ofInt 30).toInt32 = (30 : Int32) := by decide +kernel
theorem kb_50 : (Int8.ofInt 50).toInt32 = (50 : Int32) := by decide +kernel
theorem ks_660 : (Int16.ofInt 660).toInt32 = (660 : Int32) := by decide +kernel
theorem kb_m2 : (Int8.ofInt (-2)).toInt32 = (-2 : Int32) := by decide +kernel
theorem kb_11 : (Int8.ofInt 11).toInt32 = (11 : Int32) := by decide +kernel
theorem ks_180 : (Int16.ofInt 180).toInt32 = (180 : Int32) := by decide +kernel
theorem mw_1324 : Cond.code yX12_isSchool cX12_isSchool 2 (some .boolean) ∈ lw_G := lw_Gi 1384 (by decide +kernel) rfl
theorem mw_1323 : Cond.instanceMethod yX12_isSchool ∈ lw_G := lw_Gi 1383 (by decide +kernel) rfl
theorem mp_22 : Cond.selects yX12_isSchool.cls yX12_isSchool yX12_isSchool ∈ lw_G := lw_Gi 22 (by decide +kernel) rfl
theorem mw_1321 : Cond.methodLink "MilkDeskModel" 139 yX12_isSchool ∈ lw_G := lw_Gi 1381 (by decide +kernel) rfl
theorem lk_X12_139 : LKV "MilkDeskModel" 139 yX12_isSchool.cls yX12_isSchool cX12_isSchool 2 (some .boolean) 1 := ⟨mw_1321, mw_1323, mp_22, mw_12, mw_1324, by decide +kernel, by decide +kernel, by decide +kernel⟩
theorem rc_10 (G : Gn) : ∀ w i r q, ∃ fs, Esh G w 10 i r q = .inr (11, fs) := fun _ _ _ _ => ⟨_, rfl⟩
theorem ks_999 : (Int16.ofInt 999).toInt32 = (999 : Int32) := by decide +kernel
theorem ki_5 : Int32.ofInt 5 = (5 : Int32) := by decide +kernel
theorem mw_1149 : Cond.fieldLink "MilkDeskModel" 28 "MilkDeskModel" "dairyX" "[I" ∈ lw_G := lw_Gi 1209 (by decide +kernel) rfl
theorem fk_X12_28 : FLK "MilkDeskModel" 28 11 8 RX12 TX12 53 := ⟨rfl, Nat.le_of_ble_eq_true rfl, mw_1149, in_wsX120⟩
theorem gr_10_8 (G : Gn) (i : Nat) : GVR G 10 11 8 i (ad G 50 i) := fun _ _ _ => ⟨_, rfl, rfl⟩
theorem ar_50 (G : Gn) : AI G 50 5 := fun _ _ _ _ => rfl
theorem ci_50 {i : Nat} (h : i < 1) : i < cntK 50 := h
theorem mw_1150 : Cond.fieldLink "MilkDeskModel" 31 "MilkDeskModel" "dairyY" "[I" ∈ lw_G := lw_Gi 1210 (by decide +kernel) rfl
theorem fk_X12_31 : FLK "MilkDeskModel" 31 11 9 RX12 TX12 53 := ⟨rfl, Nat.le_of_ble_eq_true rfl, mw_1150, in_wsX120⟩
theorem gr_10_9 (G : Gn) (i : Nat) : GVR G 10 11 9 i (ad G 51 i) := fun _ _ _ => ⟨_, rfl, rfl⟩
theorem ar_51 (G : Gn) : AI G 51 5 := fun _ _ _ _ => rfl
theorem ci_51 {i : Nat} (h : i < 1) : i < cntK 51 := h
theorem mw_1151 : Cond.fieldLink "MilkDeskModel" 34 "MilkDeskModel" "cap" "[I" ∈ lw_G := lw_Gi 1211 (by decide +kernel) rfl
theorem fk_X12_34 : FLK "MilkDeskModel" 34 11 10 RX12 TX12 53 := ⟨rfl, Nat.le_of_ble_eq_true rfl, mw_1151, in_wsX120⟩
theorem gr_10_10 (G : Gn) (i : Nat) : GVR G 10 11 10 i (ad G 52 i) := fun _ _ _ => ⟨_, rfl, rfl⟩
theorem ar_52 (G : Gn) : AI G 52 5 := fun _ _ _ _ => rfl
theorem ci_52 {i : Nat} (h : i < 1) : i < cntK 52 := h
theorem kb_70 : (Int8.ofInt 70).toInt32 = (70 : Int32) := by decide +kernel
theorem ki_4 : Int32.ofInt 4 = (4 : Int32) := by decide +kernel
theorem kb_80 : (Int8.ofInt 80).toInt32 = (80 : Int32) := by decide +kernel
theorem mw_1336 : Cond.code yX12_isDairy cX12_isDairy 2 (some .boolean) ∈ lw_G := lw_Gi 1396 (by decide +kernel) rfl
theorem mw_1335 : Cond.instanceMethod yX12_isDairy ∈ lw_G := lw_Gi 1395 (by decide +kernel) rfl
theorem mp_23 : Cond.selects yX12_isDairy.cls yX12_isDairy yX12_isDairy ∈ lw_G := lw_Gi 23 (by decide +kernel) rfl
theorem mw_1333 : Cond.methodLink "MilkDeskModel" 142 yX12_isDairy ∈ lw_G := lw_Gi 1393 (by decide +kernel) rfl
theorem lk_X12_142 : LKV "MilkDeskModel" 142 yX12_isDairy.cls yX12_isDairy cX12_isDairy 2 (some .boolean) 1 := ⟨mw_1333, mw_1335, mp_23, mw_12, mw_1336, by decide +kernel, by decide +kernel, by decide +kernel⟩
theorem kb_m4 : (Int8.ofInt (-4)).toInt32 = (-4 : Int32) := by decide +kernel
theorem mw_1344 : Cond.code yX12_wonBy cX12_wonBy 5 (some .int) ∈ lw_G := lw_Gi 1404 (by decide +kernel) rfl
theorem mw_1343 : Cond.instanceMethod yX12_wonBy ∈ lw_G := lw_Gi 1403 (by decide +kernel) rfl
theorem mp_24 : Cond.selects yX12_wonBy.cls yX12_wonBy yX12_wonBy ∈ lw_G := lw_Gi 24 (by decide +kernel) rfl
theorem mw_1341 : Cond.methodLink "MilkDeskModel" 145 yX12_wonBy ∈ lw_G := lw_Gi 1401 (by decide +kernel) rfl
theorem lk_X12_145 : LKV "MilkDeskModel" 145 yX12_wonBy.cls yX12_wonBy cX12_wonBy 5 (some .int) 1 := ⟨mw_1341, mw_1343, mp_24, mw_12, mw_1344, by decide +kernel, by decide +kernel, by decide +kernel⟩
theorem mw_1140 : Cond.constant "MilkDeskModel" 127 (99999) ∈ lw_G := lw_Gi 1200 (by decide +kernel) rfl
theorem kb_99 : (Int8.ofInt 99).toInt32 = (99 : Int32) := by decide +kernel
theorem ks_140 : (Int16.ofInt 140).toInt32 = (140 : Int32) := by decide +kernel
theorem kb_120 : (Int8.ofInt 120).toInt32 = (120 : Int32) := by decide +kernel
theorem kn_5 : (5 : Int32).toNatClampNeg = 5 ∧ ¬ (5 : Int32) < 0 := by decide +kernel
theorem mw_1152 : Cond.fieldLink "MilkDeskModel" 37 "MilkDeskModel" "rAge" "[I" ∈ lw_G := lw_Gi 1212 (by decide +kernel) rfl
theorem fk_X12_37 : FLK "MilkDeskModel" 37 11 11 RX12 TX12 53 := ⟨rfl, Nat.le_of_ble_eq_true rfl, mw_1152, in_wsX120⟩
theorem gr_10_11 (G : Gn) (i : Nat) : GVR G 10 11 11 i (ad G 53 i) := fun _ _ _ => ⟨_, rfl, rfl⟩
theorem ar_53 (G : Gn) : AI G 53 16 := fun _ _ _ _ => rfl
theorem ci_53 {i : Nat} (h : i < 1) : i < cntK 53 := h
theorem mw_1154 : Cond.fieldLink "MilkDeskModel" 43 "MilkDeskModel" "rFrom" "[I" ∈ lw_G := lw_Gi 1214 (by decide +kernel) rfl
theorem fk_X12_43 : FLK "MilkDeskModel" 43 11 13 RX12 TX12 53 := ⟨rfl, Nat.le_of_ble_eq_true rfl, mw_1154, in_wsX120⟩
theorem gr_10_13 (G : Gn) (i : Nat) : GVR G 10 11 13 i (ad G 55 i) := fun _ _ _ => ⟨_, rfl, rfl⟩
theorem ar_55 (G : Gn) : AI G 55 16 := fun _ _ _ _ => rfl
theorem ci_55 {i : Nat} (h : i < 1) : i < cntK 55 := h
theorem mw_1153 : Cond.fieldLink "MilkDeskModel" 40 "MilkDeskModel" "rTold" "[I" ∈ lw_G := lw_Gi 1213 (by decide +kernel) rfl
theorem fk_X12_40 : FLK "MilkDeskModel" 40 11 12 RX12 TX12 53 := ⟨rfl, Nat.le_of_ble_eq_true rfl, mw_1153, in_wsX120⟩
theorem gr_10_12 (G : Gn) (i : Nat) : GVR G 10 11 12 i (ad G 54 i) := fun _ _ _ => ⟨_, rfl, rfl⟩
theorem ar_54 (G : Gn) : AI G 54 16 := fun _ _ _ _ => rfl
theorem ci_54 {i : Nat} (h : i < 1) : i < cntK 54 := h
theorem mw_1155 : Cond.fieldLink "MilkDeskModel" 46 "MilkDeskModel" "rHeads" "[I" ∈ lw_G := lw_Gi 1215 (by decide +kernel) rfl
theorem fk_X12_46 : FLK "MilkDeskModel" 46 11 14 RX12 TX12 53 := ⟨rfl, Nat.le_of_ble_eq_true rfl, mw_1155, in_wsX120⟩
theorem gr_10_14 (G : Gn) (i : Nat) : GVR G 10 11 14 i (ad G 56 i) := fun _ _ _ => ⟨_, rfl, rfl⟩
theorem ar_56 (G : Gn) : AI G 56 192 := fun _ _ _ _ => rfl
theorem ci_56 {i : Nat} (h : i < 1) : i < cntK 56 := h
theorem mw_1374 : Cond.code yX12_headOf cX12_headOf 7 (some .int) ∈ lw_G := lw_Gi 1434 (by decide +kernel) rfl
theorem mw_1373 : Cond.instanceMethod yX12_headOf ∈ lw_G := lw_Gi 1433 (by decide +kernel) rfl
theorem mp_25 : Cond.selects yX12_headOf.cls yX12_headOf yX12_headOf ∈ lw_G := lw_Gi 25 (by decide +kernel) rfl
theorem mw_1371 : Cond.methodLink "MilkDeskModel" 160 yX12_headOf ∈ lw_G := lw_Gi 1431 (by decide +kernel) rfl
theorem lk_X12_160 : LKV "MilkDeskModel" 160 yX12_headOf.cls yX12_headOf cX12_headOf 7 (some .int) 4 := ⟨mw_1371, mw_1373, mp_25, mw_12, mw_1374, by decide +kernel, by decide +kernel, by decide +kernel⟩
theorem mw_1359 : Cond.code yX12_isAge cX12_isAge 1 (some .boolean) ∈ lw_G := lw_Gi 1419 (by decide +kernel) rfl
theorem mw_1358 : Cond.static yX12_isAge ∈ lw_G := lw_Gi 1418 (by decide +kernel) rfl
theorem mw_1357 : Cond.methodLink "MilkDeskModel" 149 yX12_isAge ∈ lw_G := lw_Gi 1417 (by decide +kernel) rfl
theorem lk_X12_149 : LKS "MilkDeskModel" 149 yX12_isAge cX12_isAge 1 (some .boolean) 1 := ⟨mw_1357, mw_1358, mw_12, mw_1359, by decide +kernel, by decide +kernel, by decide +kernel⟩
theorem mw_1370 : Cond.code yX12_isDay cX12_isDay 1 (some .boolean) ∈ lw_G := lw_Gi 1430 (by decide +kernel) rfl
theorem mw_1369 : Cond.static yX12_isDay ∈ lw_G := lw_Gi 1429 (by decide +kernel) rfl
theorem mw_1368 : Cond.methodLink "MilkDeskModel" 164 yX12_isDay ∈ lw_G := lw_Gi 1428 (by decide +kernel) rfl
theorem lk_X12_164 : LKS "MilkDeskModel" 164 yX12_isDay cX12_isDay 1 (some .boolean) 1 := ⟨mw_1368, mw_1369, mw_12, mw_1370, by decide +kernel, by decide +kernel, by decide +kernel⟩
theorem mw_1167 : Cond.fieldLink "MilkDeskModel" 167 "MilkDeskModel" "at" "I" ∈ lw_G := lw_Gi 1227 (by decide +kernel) rfl
theorem fk_X12_167 : FLK "MilkDeskModel" 167 11 26 RX12 TX12 53 := ⟨rfl, Nat.le_of_ble_eq_true rfl, mw_1167, in_wsX120⟩
theorem gi_10_26 (G : Gn) : GVI G 10 11 26 := fun _ _ _ _ => ⟨_, rfl, rfl⟩
theorem mw_1166 : Cond.fieldLink "MilkDeskModel" 170 "MilkDeskModel" "end" "I" ∈ lw_G := lw_Gi 1226 (by decide +kernel) rfl
theorem fk_X12_170 : FLK "MilkDeskModel" 170 11 25 RX12 TX12 53 := ⟨rfl, Nat.le_of_ble_eq_true rfl, mw_1166, in_wsX120⟩
theorem gi_10_25 (G : Gn) : GVI G 10 11 25 := fun _ _ _ _ => ⟨_, rfl, rfl⟩
theorem mw_1164 : Cond.fieldLink "MilkDeskModel" 173 "MilkDeskModel" "isRow" "Z" ∈ lw_G := lw_Gi 1224 (by decide +kernel) rfl
theorem fk_X12_173 : FLK "MilkDeskModel" 173 11 23 RX12 TX12 53 := ⟨rfl, Nat.le_of_ble_eq_true rfl, mw_1164, in_wsX120⟩
theorem gi_10_23 (G : Gn) : GVI G 10 11 23 := fun _ _ _ _ => ⟨_, rfl, rfl⟩
theorem mw_1156 : Cond.fieldLink "MilkDeskModel" 49 "MilkDeskModel" "aBytes" "[I" ∈ lw_G := lw_Gi 1216 (by decide +kernel) rfl
theorem fk_X12_49 : FLK "MilkDeskModel" 49 11 15 RX12 TX12 53 := ⟨rfl, Nat.le_of_ble_eq_true rfl, mw_1156, in_wsX120⟩
theorem gr_10_15 (G : Gn) (i : Nat) : GVR G 10 11 15 i (ad G 57 i) := fun _ _ _ => ⟨_, rfl, rfl⟩
theorem mw_1165 : Cond.fieldLink "MilkDeskModel" 177 "MilkDeskModel" "base" "I" ∈ lw_G := lw_Gi 1225 (by decide +kernel) rfl
theorem fk_X12_177 : FLK "MilkDeskModel" 177 11 24 RX12 TX12 53 := ⟨rfl, Nat.le_of_ble_eq_true rfl, mw_1165, in_wsX120⟩
theorem gi_10_24 (G : Gn) : GVI G 10 11 24 := fun _ _ _ _ => ⟨_, rfl, rfl⟩
theorem ar_57 (G : Gn) : AI G 57 1280 := fun _ _ _ _ => rfl
theorem ci_57 {i : Nat} (h : i < 1) : i < cntK 57 := h
theorem mw_1192 : Cond.fieldLink "MilkDeskModel" 120 "MilkDeskModel" "rows" "[J" ∈ lw_G := lw_Gi 1252 (by decide +kernel) rfl
theorem fk_X12_120 : FLK "MilkDeskModel" 120 11 51 RX12 TX12 53 := ⟨rfl, Nat.le_of_ble_eq_true rfl, mw_1192, in_wsX120⟩
theorem gr_10_51 (G : Gn) (i : Nat) : GVR G 10 11 51 i (ad G 78 i) := fun _ _ _ => ⟨_, rfl, rfl⟩
theorem ar_78 (G : Gn) : AJ G 78 640 := fun _ _ _ _ => rfl
theorem ci_78 {i : Nat} (h : i < 1) : i < cntK 78 := h
theorem ks_255 : (Int16.ofInt 255).toInt32 = (255 : Int32) := by decide +kernel
theorem nz_30 : ¬ (30 : Int32) = 0 := by decide +kernel
theorem nz_12 : ¬ (12 : Int32) = 0 := by decide +kernel
theorem mw_1171 : Cond.fieldLink "MilkDeskModel" 180 "MilkDeskModel" "forAge" "I" ∈ lw_G := lw_Gi 1231 (by decide +kernel) rfl
theorem fk_X12_180 : FLK "MilkDeskModel" 180 11 30 RX12 TX12 53 := ⟨rfl, Nat.le_of_ble_eq_true rfl, mw_1171, in_wsX120⟩
theorem gi_10_30 (G : Gn) : GVI G 10 11 30 := fun _ _ _ _ => ⟨_, rfl, rfl⟩
theorem mw_1172 : Cond.fieldLink "MilkDeskModel" 186 "MilkDeskModel" "forDay" "I" ∈ lw_G := lw_Gi 1232 (by decide +kernel) rfl
theorem fk_X12_186 : FLK "MilkDeskModel" 186 11 31 RX12 TX12 53 := ⟨rfl, Nat.le_of_ble_eq_true rfl, mw_1172, in_wsX120⟩
theorem gi_10_31 (G : Gn) : GVI G 10 11 31 := fun _ _ _ _ => ⟨_, rfl, rfl⟩
theorem kb_7 : (Int8.ofInt 7).toInt32 = (7 : Int32) := by decide +kernel
theorem nz_7 : ¬ (7 : Int32) = 0 := by decide +kernel
theorem mw_1420 : Cond.code yX12_monthOf cX12_monthOf 1 (some .int) ∈ lw_G := lw_Gi 1480 (by decide +kernel) rfl
theorem mw_1419 : Cond.static yX12_monthOf ∈ lw_G := lw_Gi 1479 (by decide +kernel) rfl
theorem mw_1418 : Cond.methodLink "MilkDeskModel" 189 yX12_monthOf ∈ lw_G := lw_Gi 1478 (by decide +kernel) rfl
theorem lk_X12_189 : LKS "MilkDeskModel" 189 yX12_monthOf cX12_monthOf 1 (some .int) 1 := ⟨mw_1418, mw_1419, mw_12, mw_1420, by decide +kernel, by decide +kernel, by decide +kernel⟩
theorem mw_1170 : Cond.fieldLink "MilkDeskModel" 183 "MilkDeskModel" "forSchool" "I" ∈ lw_G := lw_Gi 1230 (by decide +kernel) rfl
theorem fk_X12_183 : FLK "MilkDeskModel" 183 11 29 RX12 TX12 53 := ⟨rfl, Nat.le_of_ble_eq_true rfl, mw_1170, in_wsX120⟩
theorem gi_10_29 (G : Gn) : GVI G 10 11 29 := fun _ _ _ _ => ⟨_, rfl, rfl⟩
theorem mw_1424 : Cond.code yX12_headsOf cX12_headsOf 3 (some .int) ∈ lw_G := lw_Gi 1484 (by decide +kernel) rfl
theorem mw_1423 : Cond.instanceMethod yX12_headsOf ∈ lw_G := lw_Gi 1483 (by decide +kernel) rfl
theorem mp_35 : Cond.selects yX12_headsOf.cls yX12_headsOf yX12_headsOf ∈ lw_G := lw_Gi 35 (by decide +kernel) rfl
theorem mw_1421 : Cond.methodLink "MilkDeskModel" 192 yX12_headsOf ∈ lw_G := lw_Gi 1481 (by decide +kernel) rfl
theorem lk_X12_192 : LKV "MilkDeskModel" 192 yX12_headsOf.cls yX12_headsOf cX12_headsOf 3 (some .int) 2 := ⟨mw_1421, mw_1423, mp_35, mw_12, mw_1424, by decide +kernel, by decide +kernel, by decide +kernel⟩
theorem mw_1394 : Cond.code yX12_here cX12_here 1 (some .int) ∈ lw_G := lw_Gi 1454 (by decide +kernel) rfl
theorem mw_1393 : Cond.instanceMethod yX12_here ∈ lw_G := lw_Gi 1453 (by decide +kernel) rfl
theorem mp_29 : Cond.selects yX12_here.cls yX12_here yX12_here ∈ lw_G := lw_Gi 29 (by decide +kernel) rfl
theorem mw_1391 : Cond.methodLink "MilkDeskModel" 196 yX12_here ∈ lw_G := lw_Gi 1451 (by decide +kernel) rfl
theorem lk_X12_196 : LKV "MilkDeskModel" 196 yX12_here.cls yX12_here cX12_here 1 (some .int) 0 := ⟨mw_1391, mw_1393, mp_29, mw_12, mw_1394, by decide +kernel, by decide +kernel, by decide +kernel⟩
theorem mw_1413 : Cond.code yX12_isField cX12_isField 1 (some .boolean) ∈ lw_G := lw_Gi 1473 (by decide +kernel) rfl
theorem mw_1412 : Cond.static yX12_isField ∈ lw_G := lw_Gi 1472 (by decide +kernel) rfl
theorem mw_1411 : Cond.methodLink "MilkDeskModel" 200 yX12_isField ∈ lw_G := lw_Gi 1471 (by decide +kernel) rfl
theorem lk_X12_200 : LKS "MilkDeskModel" 200 yX12_isField cX12_isField 1 (some .boolean) 1 := ⟨mw_1411, mw_1412, mw_12, mw_1413, by decide +kernel, by decide +kernel, by decide +kernel⟩
theorem kb_48 : (Int8.ofInt 48).toInt32 = (48 : Int32) := by decide +kernel
theorem kb_57 : (Int8.ofInt 57).toInt32 = (57 : Int32) := by decide +kernel
theorem pf_X12_26 : parseFieldDescriptor (TX12 26).2.2.1 = some .int := by decide +kernel
theorem pv_10_26 (G : Gn) : PV G 10 11 26 := fun _ _ _ _ _ => ⟨_, rfl, Nat.le_of_ble_eq_true rfl, rfl⟩
theorem mw_1168 : Cond.fieldLink "MilkDeskModel" 206 "MilkDeskModel" "isBad" "Z" ∈ lw_G := lw_Gi 1228 (by decide +kernel) rfl
theorem fk_X12_206 : FLK "MilkDeskModel" 206 11 27 RX12 TX12 53 := ⟨rfl, Nat.le_of_ble_eq_true rfl, mw_1168, in_wsX120⟩
theorem pf_X12_27 : parseFieldDescriptor (TX12 27).2.2.1 = some .boolean := by decide +kernel
theorem pv_10_27 (G : Gn) : PV G 10 11 27 := fun _ _ _ _ _ => ⟨_, rfl, Nat.le_of_ble_eq_true rfl, rfl⟩
theorem mw_1417 : Cond.code yX12_field cX12_field 2 (some .int) ∈ lw_G := lw_Gi 1477 (by decide +kernel) rfl
theorem mw_1416 : Cond.instanceMethod yX12_field ∈ lw_G := lw_Gi 1476 (by decide +kernel) rfl
theorem mp_34 : Cond.selects yX12_field.cls yX12_field yX12_field ∈ lw_G := lw_Gi 34 (by decide +kernel) rfl
theorem mw_1414 : Cond.methodLink "MilkDeskModel" 203 yX12_field ∈ lw_G := lw_Gi 1474 (by decide +kernel) rfl
theorem lk_X12_203 : LKV "MilkDeskModel" 203 yX12_field.cls yX12_field cX12_field 2 (some .int) 1 := ⟨mw_1414, mw_1416, mp_34, mw_12, mw_1417, by decide +kernel, by decide +kernel, by decide +kernel⟩
theorem mw_1410 : Cond.code yX12_readAtom cX12_readAtom 4 (some .int) ∈ lw_G := lw_Gi 1470 (by decide +kernel) rfl
theorem mw_1409 : Cond.instanceMethod yX12_readAtom ∈ lw_G := lw_Gi 1469 (by decide +kernel) rfl
theorem mp_33 : Cond.selects yX12_readAtom.cls yX12_readAtom yX12_readAtom ∈ lw_G := lw_Gi 33 (by decide +kernel) rfl
theorem mw_1407 : Cond.methodLink "MilkDeskModel" 209 yX12_readAtom ∈ lw_G := lw_Gi 1467 (by decide +kernel) rfl
theorem lk_X12_209 : LKV "MilkDeskModel" 209 yX12_readAtom.cls yX12_readAtom cX12_readAtom 4 (some .int) 0 := ⟨mw_1407, mw_1409, mp_33, mw_12, mw_1410, by decide +kernel, by decide +kernel, by decide +kernel⟩
theorem gi_10_27 (G : Gn) : GVI G 10 11 27 := fun _ _ _ _ => ⟨_, rfl, rfl⟩
theorem kb_43 : (Int8.ofInt 43).toInt32 = (43 : Int32) := by decide +kernel
theorem kb_45 : (Int8.ofInt 45).toInt32 = (45 : Int32) := by decide +kernel
theorem mw_1406 : Cond.code yX12_readSum cX12_readSum 4 (some .int) ∈ lw_G := lw_Gi 1466 (by decide +kernel) rfl
theorem mw_1405 : Cond.instanceMethod yX12_readSum ∈ lw_G := lw_Gi 1465 (by decide +kernel) rfl
theorem mp_32 : Cond.selects yX12_readSum.cls yX12_readSum yX12_readSum ∈ lw_G := lw_Gi 32 (by decide +kernel) rfl
theorem mw_1403 : Cond.methodLink "MilkDeskModel" 212 yX12_readSum ∈ lw_G := lw_Gi 1463 (by decide +kernel) rfl
theorem lk_X12_212 : LKV "MilkDeskModel" 212 yX12_readSum.cls yX12_readSum cX12_readSum 4 (some .int) 0 := ⟨mw_1403, mw_1405, mp_32, mw_12, mw_1406, by decide +kernel, by decide +kernel, by decide +kernel⟩
theorem kb_60 : (Int8.ofInt 60).toInt32 = (60 : Int32) := by decide +kernel
theorem kb_62 : (Int8.ofInt 62).toInt32 = (62 : Int32) := by decide +kernel
theorem kb_61 : (Int8.ofInt 61).toInt32 = (61 : Int32) := by decide +kernel
theorem mw_1176 : Cond.fieldLink "MilkDeskModel" 215 "MilkDeskModel" "signMany" "I" ∈ lw_G := lw_Gi 1236 (by decide +kernel) rfl
theorem fk_X12_215 : FLK "MilkDeskModel" 215 11 35 RX12 TX12 53 := ⟨rfl, Nat.le_of_ble_eq_true rfl, mw_1176, in_wsX120⟩
theorem gi_10_35 (G : Gn) : GVI G 10 11 35 := fun _ _ _ _ => ⟨_, rfl, rfl⟩
theorem mw_1175 : Cond.fieldLink "MilkDeskModel" 78 "MilkDeskModel" "signs" "[I" ∈ lw_G := lw_Gi 1235 (by decide +kernel) rfl
theorem fk_X12_78 : FLK "MilkDeskModel" 78 11 34 RX12 TX12 53 := ⟨rfl, Nat.le_of_ble_eq_true rfl, mw_1175, in_wsX120⟩
theorem gr_10_34 (G : Gn) (i : Nat) : GVR G 10 11 34 i (ad G 65 i) := fun _ _ _ => ⟨_, rfl, rfl⟩
theorem ar_65 (G : Gn) : AI G 65 200 := fun _ _ _ _ => rfl
theorem ci_65 {i : Nat} (h : i < 1) : i < cntK 65 := h
theorem mw_1432 : Cond.code yX12_topSign cX12_topSign 1 (some .int) ∈ lw_G := lw_Gi 1492 (by decide +kernel) rfl
theorem mw_1431 : Cond.instanceMethod yX12_topSign ∈ lw_G := lw_Gi 1491 (by decide +kernel) rfl
theorem mp_37 : Cond.selects yX12_topSign.cls yX12_topSign yX12_topSign ∈ lw_G := lw_Gi 37 (by decide +kernel) rfl
theorem mw_1429 : Cond.methodLink "MilkDeskModel" 218 yX12_topSign ∈ lw_G := lw_Gi 1489 (by decide +kernel) rfl
theorem lk_X12_218 : LKV "MilkDeskModel" 218 yX12_topSign.cls yX12_topSign cX12_topSign 1 (some .int) 0 := ⟨mw_1429, mw_1431, mp_37, mw_12, mw_1432, by decide +kernel, by decide +kernel, by decide +kernel⟩
theorem kb_33 : (Int8.ofInt 33).toInt32 = (33 : Int32) := by decide +kernel
theorem mw_1173 : Cond.fieldLink "MilkDeskModel" 74 "MilkDeskModel" "values" "[Z" ∈ lw_G := lw_Gi 1233 (by decide +kernel) rfl
theorem fk_X12_74 : FLK "MilkDeskModel" 74 11 32 RX12 TX12 53 := ⟨rfl, Nat.le_of_ble_eq_true rfl, mw_1173, in_wsX120⟩
theorem gr_10_32 (G : Gn) (i : Nat) : GVR G 10 11 32 i (ad G 64 i) := fun _ _ _ => ⟨_, rfl, rfl⟩
theorem mw_1174 : Cond.fieldLink "MilkDeskModel" 221 "MilkDeskModel" "valueMany" "I" ∈ lw_G := lw_Gi 1234 (by decide +kernel) rfl
theorem fk_X12_221 : FLK "MilkDeskModel" 221 11 33 RX12 TX12 53 := ⟨rfl, Nat.le_of_ble_eq_true rfl, mw_1174, in_wsX120⟩
theorem gi_10_33 (G : Gn) : GVI G 10 11 33 := fun _ _ _ _ => ⟨_, rfl, rfl⟩
theorem ar_64 (G : Gn) : AZ G 64 100 := fun _ _ _ _ => rfl
theorem ci_64 {i : Nat} (h : i < 1) : i < cntK 64 := h
theorem pf_X12_35 : parseFieldDescriptor (TX12 35).2.2.1 = some .int := by decide +kernel
theorem pv_10_35 (G : Gn) : PV G 10 11 35 := fun _ _ _ _ _ => ⟨_, rfl, Nat.le_of_ble_eq_true rfl, rfl⟩
theorem pf_X12_33 : parseFieldDescriptor (TX12 33).2.2.1 = some .int := by decide +kernel
theorem pv_10_33 (G : Gn) : PV G 10 11 33 := fun _ _ _ _ _ => ⟨_, rfl, Nat.le_of_ble_eq_true rfl, rfl⟩
theorem kb_38 : (Int8.ofInt 38).toInt32 = (38 : Int32) := by decide +kernel
theorem mw_1169 : Cond.fieldLink "MilkDeskModel" 224 "MilkDeskModel" "deep" "I" ∈ lw_G := lw_Gi 1229 (by decide +kernel) rfl
theorem fk_X12_224 : FLK "MilkDeskModel" 224 11 28 RX12 TX12 53 := ⟨rfl, Nat.le_of_ble_eq_true rfl, mw_1169, in_wsX120⟩
theorem pf_X12_28 : parseFieldDescriptor (TX12 28).2.2.1 = some .int := by decide +kernel
theorem pv_10_28 (G : Gn) : PV G 10 11 28 := fun _ _ _ _ _ => ⟨_, rfl, Nat.le_of_ble_eq_true rfl, rfl⟩
theorem mw_1436 : Cond.code yX12_join cX12_join 2 none ∈ lw_G := lw_Gi 1496 (by decide +kernel) rfl
theorem mw_1435 : Cond.instanceMethod yX12_join ∈ lw_G := lw_Gi 1495 (by decide +kernel) rfl
theorem mp_38 : Cond.selects yX12_join.cls yX12_join yX12_join ∈ lw_G := lw_Gi 38 (by decide +kernel) rfl
theorem mw_1433 : Cond.methodLink "MilkDeskModel" 234 yX12_join ∈ lw_G := lw_Gi 1493 (by decide +kernel) rfl
theorem lk_X12_234 : LKV "MilkDeskModel" 234 yX12_join.cls yX12_join cX12_join 2 none 1 := ⟨mw_1433, mw_1435, mp_38, mw_12, mw_1436, by decide +kernel, by decide +kernel, by decide +kernel⟩
theorem kb_124 : (Int8.ofInt 124).toInt32 = (124 : Int32) := by decide +kernel
theorem kb_40 : (Int8.ofInt 40).toInt32 = (40 : Int32) := by decide +kernel
theorem kb_117 : (Int8.ofInt 117).toInt32 = (117 : Int32) := by decide +kernel
theorem mw_1402 : Cond.code yX12_readTest cX12_readTest 4 (some .boolean) ∈ lw_G := lw_Gi 1462 (by decide +kernel) rfl
theorem mw_1401 : Cond.instanceMethod yX12_readTest ∈ lw_G := lw_Gi 1461 (by decide +kernel) rfl
theorem mp_31 : Cond.selects yX12_readTest.cls yX12_readTest yX12_readTest ∈ lw_G := lw_Gi 31 (by decide +kernel) rfl
theorem mw_1399 : Cond.methodLink "MilkDeskModel" 227 yX12_readTest ∈ lw_G := lw_Gi 1459 (by decide +kernel) rfl
theorem lk_X12_227 : LKV "MilkDeskModel" 227 yX12_readTest.cls yX12_readTest cX12_readTest 4 (some .boolean) 0 := ⟨mw_1399, mw_1401, mp_31, mw_12, mw_1402, by decide +kernel, by decide +kernel, by decide +kernel⟩
theorem mw_1428 : Cond.code yX12_testEnds cX12_testEnds 1 none ∈ lw_G := lw_Gi 1488 (by decide +kernel) rfl
theorem mw_1427 : Cond.instanceMethod yX12_testEnds ∈ lw_G := lw_Gi 1487 (by decide +kernel) rfl
theorem mp_36 : Cond.selects yX12_testEnds.cls yX12_testEnds yX12_testEnds ∈ lw_G := lw_Gi 36 (by decide +kernel) rfl
theorem mw_1425 : Cond.methodLink "MilkDeskModel" 231 yX12_testEnds ∈ lw_G := lw_Gi 1485 (by decide +kernel) rfl
theorem lk_X12_231 : LKV "MilkDeskModel" 231 yX12_testEnds.cls yX12_testEnds cX12_testEnds 1 none 0 := ⟨mw_1425, mw_1427, mp_36, mw_12, mw_1428, by decide +kernel, by decide +kernel, by decide +kernel⟩
theorem gi_10_28 (G : Gn) : GVI G 10 11 28 := fun _ _ _ _ => ⟨_, rfl, rfl⟩
theorem kb_8 : (Int8.ofInt 8).toInt32 = (8 : Int32) := by decide +kernel
theorem kb_41 : (Int8.ofInt 41).toInt32 = (41 : Int32) := by decide +kernel
theorem kb_101 : (Int8.ofInt 101).toInt32 = (101 : Int32) := by decide +kernel
theorem kb_114 : (Int8.ofInt 114).toInt32 = (114 : Int32) := by decide +kernel
theorem kb_111 : (Int8.ofInt 111).toInt32 = (111 : Int32) := by decide +kernel
theorem kb_58 : (Int8.ofInt 58).toInt32 = (58 : Int32) := by decide +kernel
theorem mw_1398 : Cond.code yX12_readOr cX12_readOr 5 (some .boolean) ∈ lw_G := lw_Gi 1458 (by decide +kernel) rfl
theorem mw_1397 : Cond.instanceMethod yX12_readOr ∈ lw_G := lw_Gi 1457 (by decide +kernel) rfl
theorem mp_30 : Cond.selects yX12_readOr.cls yX12_readOr yX12_readOr ∈ lw_G := lw_Gi 30 (by decide +kernel) rfl
theorem mw_1395 : Cond.methodLink "MilkDeskModel" 238 yX12_readOr ∈ lw_G := lw_Gi 1455 (by decide +kernel) rfl
theorem lk_X12_238 : LKV "MilkDeskModel" 238 yX12_readOr.cls yX12_readOr cX12_readOr 5 (some .boolean) 1 := ⟨mw_1395, mw_1397, mp_30, mw_12, mw_1398, by decide +kernel, by decide +kernel, by decide +kernel⟩
theorem mw_1186 : Cond.fieldLink "MilkDeskModel" 102 "MilkDeskModel" "holdsWhat" "[I" ∈ lw_G := lw_Gi 1246 (by decide +kernel) rfl
theorem fk_X12_102 : FLK "MilkDeskModel" 102 11 45 RX12 TX12 53 := ⟨rfl, Nat.le_of_ble_eq_true rfl, mw_1186, in_wsX120⟩
theorem gr_10_45 (G : Gn) (i : Nat) : GVR G 10 11 45 i (ad G 72 i) := fun _ _ _ => ⟨_, rfl, rfl⟩
theorem ar_72 (G : Gn) : AI G 72 8 := fun _ _ _ _ => rfl
theorem ci_72 {i : Nat} (h : i < 1) : i < cntK 72 := h
theorem kb_m12 : (Int8.ofInt (-12)).toInt32 = (-12 : Int32) := by decide +kernel
theorem mw_1190 : Cond.fieldLink "MilkDeskModel" 114 "MilkDeskModel" "rowSort" "[I" ∈ lw_G := lw_Gi 1250 (by decide +kernel) rfl
theorem fk_X12_114 : FLK "MilkDeskModel" 114 11 49 RX12 TX12 53 := ⟨rfl, Nat.le_of_ble_eq_true rfl, mw_1190, in_wsX120⟩
theorem gr_10_49 (G : Gn) (i : Nat) : GVR G 10 11 49 i (ad G 76 i) := fun _ _ _ => ⟨_, rfl, rfl⟩
theorem ar_76 (G : Gn) : AI G 76 8 := fun _ _ _ _ => rfl
theorem ci_76 {i : Nat} (h : i < 1) : i < cntK 76 := h
theorem kb_m11 : (Int8.ofInt (-11)).toInt32 = (-11 : Int32) := by decide +kernel
theorem pf_X12_23 : parseFieldDescriptor (TX12 23).2.2.1 = some .boolean := by decide +kernel
theorem pv_10_23 (G : Gn) : PV G 10 11 23 := fun _ _ _ _ _ => ⟨_, rfl, Nat.le_of_ble_eq_true rfl, rfl⟩
theorem pf_X12_24 : parseFieldDescriptor (TX12 24).2.2.1 = some .int := by decide +kernel
theorem pv_10_24 (G : Gn) : PV G 10 11 24 := fun _ _ _ _ _ => ⟨_, rfl, Nat.le_of_ble_eq_true rfl, rfl⟩
theorem mw_1191 : Cond.fieldLink "MilkDeskModel" 117 "MilkDeskModel" "rowMany" "[I" ∈ lw_G := lw_Gi 1251 (by decide +kernel) rfl
theorem fk_X12_117 : FLK "MilkDeskModel" 117 11 50 RX12 TX12 53 := ⟨rfl, Nat.le_of_ble_eq_true rfl, mw_1191, in_wsX120⟩
theorem gr_10_50 (G : Gn) (i : Nat) : GVR G 10 11 50 i (ad G 77 i) := fun _ _ _ => ⟨_, rfl, rfl⟩
theorem ar_77 (G : Gn) : AI G 77 8 := fun _ _ _ _ => rfl
theorem ci_77 {i : Nat} (h : i < 1) : i < cntK 77 := h
theorem pf_X12_25 : parseFieldDescriptor (TX12 25).2.2.1 = some .int := by decide +kernel
theorem pv_10_25 (G : Gn) : PV G 10 11 25 := fun _ _ _ _ _ => ⟨_, rfl, Nat.le_of_ble_eq_true rfl, rfl⟩
theorem mw_1390 : Cond.code yX12_readAct cX12_readAct 3 (some .boolean) ∈ lw_G := lw_Gi 1450 (by decide +kernel) rfl
theorem mw_1389 : Cond.instanceMethod yX12_readAct ∈ lw_G := lw_Gi 1449 (by decide +kernel) rfl
theorem mp_28 : Cond.selects yX12_readAct.cls yX12_readAct yX12_readAct ∈ lw_G := lw_Gi 28 (by decide +kernel) rfl
theorem mw_1387 : Cond.methodLink "MilkDeskModel" 242 yX12_readAct ∈ lw_G := lw_Gi 1447 (by decide +kernel) rfl
theorem lk_X12_242 : LKV "MilkDeskModel" 242 yX12_readAct.cls yX12_readAct cX12_readAct 3 (some .boolean) 0 := ⟨mw_1387, mw_1389, mp_28, mw_12, mw_1390, by decide +kernel, by decide +kernel, by decide +kernel⟩
theorem mw_1382 : Cond.code yX12_lacks cX12_lacks 3 (some .int) ∈ lw_G := lw_Gi 1442 (by decide +kernel) rfl
theorem mw_1381 : Cond.instanceMethod yX12_lacks ∈ lw_G := lw_Gi 1441 (by decide +kernel) rfl
theorem mp_26 : Cond.selects yX12_lacks.cls yX12_lacks yX12_lacks ∈ lw_G := lw_Gi 26 (by decide +kernel) rfl
theorem mw_1379 : Cond.methodLink "MilkDeskModel" 245 yX12_lacks ∈ lw_G := lw_Gi 1439 (by decide +kernel) rfl
theorem lk_X12_245 : LKV "MilkDeskModel" 245 yX12_lacks.cls yX12_lacks cX12_lacks 3 (some .int) 2 := ⟨mw_1379, mw_1381, mp_26, mw_12, mw_1382, by decide +kernel, by decide +kernel, by decide +kernel⟩
theorem mw_1386 : Cond.code yX12_faultOf cX12_faultOf 2 (some .int) ∈ lw_G := lw_Gi 1446 (by decide +kernel) rfl
theorem mw_1385 : Cond.instanceMethod yX12_faultOf ∈ lw_G := lw_Gi 1445 (by decide +kernel) rfl
theorem mp_27 : Cond.selects yX12_faultOf.cls yX12_faultOf yX12_faultOf ∈ lw_G := lw_Gi 27 (by decide +kernel) rfl
theorem mw_1383 : Cond.methodLink "MilkDeskModel" 248 yX12_faultOf ∈ lw_G := lw_Gi 1443 (by decide +kernel) rfl
theorem lk_X12_248 : LKV "MilkDeskModel" 248 yX12_faultOf.cls yX12_faultOf cX12_faultOf 2 (some .int) 1 := ⟨mw_1383, mw_1385, mp_27, mw_12, mw_1386, by decide +kernel, by decide +kernel, by decide +kernel⟩
theorem kn_3 : (3 : Int32).toNatClampNeg = 3 ∧ ¬ (3 : Int32) < 0 := by decide +kernel
theorem kn_2 : (2 : Int32).toNatClampNeg = 2 ∧ ¬ (2 : Int32) < 0 := by decide +kernel
theorem kb_16 : (Int8.ofInt 16).toInt32 = (16 : Int32) := by decide +kernel
theorem kb_m100 : (Int8.ofInt (-100)).toInt32 = (-100 : Int32) := by decide +kernel
theorem mw_1157 : Cond.fieldLink "MilkDeskModel" 52 "MilkDeskModel" "aMany" "[I" ∈ lw_G := lw_Gi 1217 (by decide +kernel) rfl
theorem fk_X12_52 : FLK "MilkDeskModel" 52 11 16 RX12 TX12 53 := ⟨rfl, Nat.le_of_ble_eq_true rfl, mw_1157, in_wsX120⟩
theorem gr_10_16 (G : Gn) (i : Nat) : GVR G 10 11 16 i (ad G 58 i) := fun _ _ _ => ⟨_, rfl, rfl⟩
theorem ar_58 (G : Gn) : AI G 58 16 := fun _ _ _ _ => rfl
theorem ci_58 {i : Nat} (h : i < 1) : i < cntK 58 := h
theorem mw_1158 : Cond.fieldLink "MilkDeskModel" 55 "MilkDeskModel" "aShire" "[I" ∈ lw_G := lw_Gi 1218 (by decide +kernel) rfl
theorem fk_X12_55 : FLK "MilkDeskModel" 55 11 17 RX12 TX12 53 := ⟨rfl, Nat.le_of_ble_eq_true rfl, mw_1158, in_wsX120⟩
theorem gr_10_17 (G : Gn) (i : Nat) : GVR G 10 11 17 i (ad G 59 i) := fun _ _ _ => ⟨_, rfl, rfl⟩
theorem ar_59 (G : Gn) : AI G 59 16 := fun _ _ _ _ => rfl
theorem ci_59 {i : Nat} (h : i < 1) : i < cntK 59 := h
theorem mw_1159 : Cond.fieldLink "MilkDeskModel" 58 "MilkDeskModel" "aFrom" "[I" ∈ lw_G := lw_Gi 1219 (by decide +kernel) rfl
theorem fk_X12_58 : FLK "MilkDeskModel" 58 11 18 RX12 TX12 53 := ⟨rfl, Nat.le_of_ble_eq_true rfl, mw_1159, in_wsX120⟩
theorem gr_10_18 (G : Gn) (i : Nat) : GVR G 10 11 18 i (ad G 60 i) := fun _ _ _ => ⟨_, rfl, rfl⟩
theorem ar_60 (G : Gn) : AI G 60 16 := fun _ _ _ _ => rfl
theorem ci_60 {i : Nat} (h : i < 1) : i < cntK 60 := h
theorem ks_160 : (Int16.ofInt 160).toInt32 = (160 : Int32) := by decide +kernel
theorem mw_1441 : Cond.constant "MilkDeskModel" 251 (1000000) ∈ lw_G := lw_Gi 1501 (by decide +kernel) rfl
theorem mw_1178 : Cond.fieldLink "MilkDeskModel" 84 "MilkDeskModel" "forcesDay" "I" ∈ lw_G := lw_Gi 1238 (by decide +kernel) rfl
theorem fk_X12_84 : FLK "MilkDeskModel" 84 11 37 RX12 TX12 53 := ⟨rfl, Nat.le_of_ble_eq_true rfl, mw_1178, in_wsX120⟩
theorem pf_X12_37 : parseFieldDescriptor (TX12 37).2.2.1 = some .int := by decide +kernel
theorem pv_10_37 (G : Gn) : PV G 10 11 37 := fun _ _ _ _ _ => ⟨_, rfl, Nat.le_of_ble_eq_true rfl, rfl⟩
theorem kb_m3 : (Int8.ofInt (-3)).toInt32 = (-3 : Int32) := by decide +kernel
theorem mw_1460 : Cond.code yX12_letterOf cX12_letterOf 1 (some .int) ∈ lw_G := lw_Gi 1520 (by decide +kernel) rfl
theorem mw_1459 : Cond.static yX12_letterOf ∈ lw_G := lw_Gi 1519 (by decide +kernel) rfl
theorem mw_1458 : Cond.methodLink "MilkDeskModel" 256 yX12_letterOf ∈ lw_G := lw_Gi 1518 (by decide +kernel) rfl
theorem lk_X12_256 : LKS "MilkDeskModel" 256 yX12_letterOf cX12_letterOf 1 (some .int) 1 := ⟨mw_1458, mw_1459, mw_12, mw_1460, by decide +kernel, by decide +kernel, by decide +kernel⟩
theorem mw_1457 : Cond.code yX12_isOf cX12_isOf 5 (some .boolean) ∈ lw_G := lw_Gi 1517 (by decide +kernel) rfl
theorem mw_1456 : Cond.instanceMethod yX12_isOf ∈ lw_G := lw_Gi 1516 (by decide +kernel) rfl
theorem mp_40 : Cond.selects yX12_isOf.cls yX12_isOf yX12_isOf ∈ lw_G := lw_Gi 40 (by decide +kernel) rfl
theorem mw_1454 : Cond.methodLink "MilkDeskModel" 252 yX12_isOf ∈ lw_G := lw_Gi 1514 (by decide +kernel) rfl
theorem lk_X12_252 : LKV "MilkDeskModel" 252 yX12_isOf.cls yX12_isOf cX12_isOf 5 (some .boolean) 4 := ⟨mw_1454, mw_1456, mp_40, mw_12, mw_1457, by decide +kernel, by decide +kernel, by decide +kernel⟩
theorem gi_10_37 (G : Gn) : GVI G 10 11 37 := fun _ _ _ _ => ⟨_, rfl, rfl⟩
theorem mw_1177 : Cond.fieldLink "MilkDeskModel" 81 "MilkDeskModel" "forces" "[I" ∈ lw_G := lw_Gi 1237 (by decide +kernel) rfl
theorem fk_X12_81 : FLK "MilkDeskModel" 81 11 36 RX12 TX12 53 := ⟨rfl, Nat.le_of_ble_eq_true rfl, mw_1177, in_wsX120⟩
theorem gr_10_36 (G : Gn) (i : Nat) : GVR G 10 11 36 i (ad G 66 i) := fun _ _ _ => ⟨_, rfl, rfl⟩
theorem ar_66 (G : Gn) : AI G 66 12 := fun _ _ _ _ => rfl
theorem ci_66 {i : Nat} (h : i < 1) : i < cntK 66 := h
theorem nz_4 : ¬ (4 : Int32) = 0 := by decide +kernel
theorem mw_1453 : Cond.code yX12_forceOf cX12_forceOf 7 (some .int) ∈ lw_G := lw_Gi 1513 (by decide +kernel) rfl
theorem mw_1452 : Cond.instanceMethod yX12_forceOf ∈ lw_G := lw_Gi 1512 (by decide +kernel) rfl
theorem mp_39 : Cond.selects yX12_forceOf.cls yX12_forceOf yX12_forceOf ∈ lw_G := lw_Gi 39 (by decide +kernel) rfl
theorem mw_1450 : Cond.methodLink "MilkDeskModel" 259 yX12_forceOf ∈ lw_G := lw_Gi 1510 (by decide +kernel) rfl
theorem lk_X12_259 : LKV "MilkDeskModel" 259 yX12_forceOf.cls yX12_forceOf cX12_forceOf 7 (some .int) 3 := ⟨mw_1450, mw_1452, mp_39, mw_12, mw_1453, by decide +kernel, by decide +kernel, by decide +kernel⟩
theorem pf_X12_29 : parseFieldDescriptor (TX12 29).2.2.1 = some .int := by decide +kernel
theorem pv_10_29 (G : Gn) : PV G 10 11 29 := fun _ _ _ _ _ => ⟨_, rfl, Nat.le_of_ble_eq_true rfl, rfl⟩
theorem pf_X12_30 : parseFieldDescriptor (TX12 30).2.2.1 = some .int := by decide +kernel
theorem pv_10_30 (G : Gn) : PV G 10 11 30 := fun _ _ _ _ _ => ⟨_, rfl, Nat.le_of_ble_eq_true rfl, rfl⟩
theorem pf_X12_31 : parseFieldDescriptor (TX12 31).2.2.1 = some .int := by decide +kernel
theorem pv_10_31 (G : Gn) : PV G 10 11 31 := fun _ _ _ _ _ => ⟨_, rfl, Nat.le_of_ble_eq_true rfl, rfl⟩
theorem mw_1472 : Cond.code yX12_doesHold cX12_doesHold 5 (some .boolean) ∈ lw_G := lw_Gi 1532 (by decide +kernel) rfl
theorem mw_1471 : Cond.instanceMethod yX12_doesHold ∈ lw_G := lw_Gi 1531 (by decide +kernel) rfl
theorem mp_42 : Cond.selects yX12_doesHold.cls yX12_doesHold yX12_doesHold ∈ lw_G := lw_Gi 42 (by decide +kernel) rfl
theorem mw_1469 : Cond.methodLink "MilkDeskModel" 263 yX12_doesHold ∈ lw_G := lw_Gi 1529 (by decide +kernel) rfl
theorem lk_X12_263 : LKV "MilkDeskModel" 263 yX12_doesHold.cls yX12_doesHold cX12_doesHold 5 (some .boolean) 4 := ⟨mw_1469, mw_1471, mp_42, mw_12, mw_1472, by decide +kernel, by decide +kernel, by decide +kernel⟩
theorem mw_1468 : Cond.code yX12_holdsFor cX12_holdsFor 6 (some .boolean) ∈ lw_G := lw_Gi 1528 (by decide +kernel) rfl
theorem mw_1467 : Cond.instanceMethod yX12_holdsFor ∈ lw_G := lw_Gi 1527 (by decide +kernel) rfl
theorem mp_41 : Cond.selects yX12_holdsFor.cls yX12_holdsFor yX12_holdsFor ∈ lw_G := lw_Gi 41 (by decide +kernel) rfl
theorem mw_1465 : Cond.methodLink "MilkDeskModel" 266 yX12_holdsFor ∈ lw_G := lw_Gi 1525 (by decide +kernel) rfl
theorem lk_X12_266 : LKV "MilkDeskModel" 266 yX12_holdsFor.cls yX12_holdsFor cX12_holdsFor 6 (some .boolean) 4 := ⟨mw_1465, mw_1467, mp_41, mw_12, mw_1468, by decide +kernel, by decide +kernel, by decide +kernel⟩
theorem mw_1480 : Cond.code yX12_couldBe cX12_couldBe 5 (some .boolean) ∈ lw_G := lw_Gi 1540 (by decide +kernel) rfl
theorem mw_1479 : Cond.instanceMethod yX12_couldBe ∈ lw_G := lw_Gi 1539 (by decide +kernel) rfl
theorem mp_43 : Cond.selects yX12_couldBe.cls yX12_couldBe yX12_couldBe ∈ lw_G := lw_Gi 43 (by decide +kernel) rfl
theorem mw_1477 : Cond.methodLink "MilkDeskModel" 269 yX12_couldBe ∈ lw_G := lw_Gi 1537 (by decide +kernel) rfl
theorem lk_X12_269 : LKV "MilkDeskModel" 269 yX12_couldBe.cls yX12_couldBe cX12_couldBe 5 (some .boolean) 4 := ⟨mw_1477, mw_1479, mp_43, mw_12, mw_1480, by decide +kernel, by decide +kernel, by decide +kernel⟩
theorem mw_1510 : Cond.code yX12_hundreds cX12_hundreds 2 (some .int) ∈ lw_G := lw_Gi 1570 (by decide +kernel) rfl
theorem mw_1509 : Cond.static yX12_hundreds ∈ lw_G := lw_Gi 1569 (by decide +kernel) rfl
theorem mw_1508 : Cond.methodLink "MilkDeskModel" 272 yX12_hundreds ∈ lw_G := lw_Gi 1568 (by decide +kernel) rfl
theorem lk_X12_272 : LKS "MilkDeskModel" 272 yX12_hundreds cX12_hundreds 2 (some .int) 2 := ⟨mw_1508, mw_1509, mw_12, mw_1510, by decide +kernel, by decide +kernel, by decide +kernel⟩
theorem nz_2 : ¬ (2 : Int32) = 0 := by decide +kernel
theorem mw_1163 : Cond.fieldLink "MilkDeskModel" 70 "MilkDeskModel" "without" "I" ∈ lw_G := lw_Gi 1223 (by decide +kernel) rfl
theorem fk_X12_70 : FLK "MilkDeskModel" 70 11 22 RX12 TX12 53 := ⟨rfl, Nat.le_of_ble_eq_true rfl, mw_1163, in_wsX120⟩
theorem gi_10_22 (G : Gn) : GVI G 10 11 22 := fun _ _ _ _ => ⟨_, rfl, rfl⟩
theorem mw_1500 : Cond.code yX12_orderOf cX12_orderOf 6 (some .int) ∈ lw_G := lw_Gi 1560 (by decide +kernel) rfl
theorem mw_1499 : Cond.instanceMethod yX12_orderOf ∈ lw_G := lw_Gi 1559 (by decide +kernel) rfl
theorem mp_47 : Cond.selects yX12_orderOf.cls yX12_orderOf yX12_orderOf ∈ lw_G := lw_Gi 47 (by decide +kernel) rfl
theorem mw_1497 : Cond.methodLink "MilkDeskModel" 275 yX12_orderOf ∈ lw_G := lw_Gi 1557 (by decide +kernel) rfl
theorem lk_X12_275 : LKV "MilkDeskModel" 275 yX12_orderOf.cls yX12_orderOf cX12_orderOf 6 (some .int) 2 := ⟨mw_1497, mw_1499, mp_47, mw_12, mw_1500, by decide +kernel, by decide +kernel, by decide +kernel⟩
theorem mw_1179 : Cond.fieldLink "MilkDeskModel" 87 "MilkDeskModel" "capLeft" "[I" ∈ lw_G := lw_Gi 1239 (by decide +kernel) rfl
theorem fk_X12_87 : FLK "MilkDeskModel" 87 11 38 RX12 TX12 53 := ⟨rfl, Nat.le_of_ble_eq_true rfl, mw_1179, in_wsX120⟩
theorem gr_10_38 (G : Gn) (i : Nat) : GVR G 10 11 38 i (ad G 67 i) := fun _ _ _ => ⟨_, rfl, rfl⟩
theorem ar_67 (G : Gn) : AI G 67 5 := fun _ _ _ _ => rfl
theorem ci_67 {i : Nat} (h : i < 1) : i < cntK 67 := h
theorem kb_20 : (Int8.ofInt 20).toInt32 = (20 : Int32) := by decide +kernel
theorem mw_1181 : Cond.fieldLink "MilkDeskModel" 278 "MilkDeskModel" "cowsLeft" "I" ∈ lw_G := lw_Gi 1241 (by decide +kernel) rfl
theorem fk_X12_278 : FLK "MilkDeskModel" 278 11 40 RX12 TX12 53 := ⟨rfl, Nat.le_of_ble_eq_true rfl, mw_1181, in_wsX120⟩
theorem gi_10_40 (G : Gn) : GVI G 10 11 40 := fun _ _ _ _ => ⟨_, rfl, rfl⟩
theorem pf_X12_40 : parseFieldDescriptor (TX12 40).2.2.1 = some .int := by decide +kernel
theorem pv_10_40 (G : Gn) : PV G 10 11 40 := fun _ _ _ _ _ => ⟨_, rfl, Nat.le_of_ble_eq_true rfl, rfl⟩
theorem mw_1504 : Cond.code yX12_add cX12_add 4 none ∈ lw_G := lw_Gi 1564 (by decide +kernel) rfl
theorem mw_1503 : Cond.instanceMethod yX12_add ∈ lw_G := lw_Gi 1563 (by decide +kernel) rfl
theorem mp_48 : Cond.selects yX12_add.cls yX12_add yX12_add ∈ lw_G := lw_Gi 48 (by decide +kernel) rfl
theorem mw_1501 : Cond.methodLink "MilkDeskModel" 281 yX12_add ∈ lw_G := lw_Gi 1561 (by decide +kernel) rfl
theorem lk_X12_281 : LKV "MilkDeskModel" 281 yX12_add.cls yX12_add cX12_add 4 none 3 := ⟨mw_1501, mw_1503, mp_48, mw_12, mw_1504, by decide +kernel, by decide +kernel, by decide +kernel⟩
theorem kb_6 : (Int8.ofInt 6).toInt32 = (6 : Int32) := by decide +kernel
theorem kb_9 : (Int8.ofInt 9).toInt32 = (9 : Int32) := by decide +kernel
theorem mw_1507 : Cond.code yX12_paid cX12_paid 4 (some .int) ∈ lw_G := lw_Gi 1567 (by decide +kernel) rfl
theorem mw_1506 : Cond.static yX12_paid ∈ lw_G := lw_Gi 1566 (by decide +kernel) rfl
theorem mw_1505 : Cond.methodLink "MilkDeskModel" 285 yX12_paid ∈ lw_G := lw_Gi 1565 (by decide +kernel) rfl
theorem lk_X12_285 : LKS "MilkDeskModel" 285 yX12_paid cX12_paid 4 (some .int) 3 := ⟨mw_1505, mw_1506, mw_12, mw_1507, by decide +kernel, by decide +kernel, by decide +kernel⟩
theorem mw_1180 : Cond.fieldLink "MilkDeskModel" 90 "MilkDeskModel" "comesAgain" "[I" ∈ lw_G := lw_Gi 1240 (by decide +kernel) rfl
theorem fk_X12_90 : FLK "MilkDeskModel" 90 11 39 RX12 TX12 53 := ⟨rfl, Nat.le_of_ble_eq_true rfl, mw_1180, in_wsX120⟩
theorem gr_10_39 (G : Gn) (i : Nat) : GVR G 10 11 39 i (ad G 68 i) := fun _ _ _ => ⟨_, rfl, rfl⟩
theorem ar_68 (G : Gn) : AI G 68 5 := fun _ _ _ _ => rfl
theorem ci_68 {i : Nat} (h : i < 1) : i < cntK 68 := h
theorem mw_1496 : Cond.code yX12_serve cX12_serve 13 none ∈ lw_G := lw_Gi 1556 (by decide +kernel) rfl
theorem mw_1495 : Cond.instanceMethod yX12_serve ∈ lw_G := lw_Gi 1555 (by decide +kernel) rfl
theorem mp_46 : Cond.selects yX12_serve.cls yX12_serve yX12_serve ∈ lw_G := lw_Gi 46 (by decide +kernel) rfl
theorem mw_1493 : Cond.methodLink "MilkDeskModel" 288 yX12_serve ∈ lw_G := lw_Gi 1553 (by decide +kernel) rfl
theorem lk_X12_288 : LKV "MilkDeskModel" 288 yX12_serve.cls yX12_serve cX12_serve 13 none 2 := ⟨mw_1493, mw_1495, mp_46, mw_12, mw_1496, by decide +kernel, by decide +kernel, by decide +kernel⟩
theorem mw_1488 : Cond.code yX12_wrongDays cX12_wrongDays 3 (some .int) ∈ lw_G := lw_Gi 1548 (by decide +kernel) rfl
theorem mw_1487 : Cond.instanceMethod yX12_wrongDays ∈ lw_G := lw_Gi 1547 (by decide +kernel) rfl
theorem mp_44 : Cond.selects yX12_wrongDays.cls yX12_wrongDays yX12_wrongDays ∈ lw_G := lw_Gi 44 (by decide +kernel) rfl
theorem mw_1485 : Cond.methodLink "MilkDeskModel" 292 yX12_wrongDays ∈ lw_G := lw_Gi 1545 (by decide +kernel) rfl
theorem lk_X12_292 : LKV "MilkDeskModel" 292 yX12_wrongDays.cls yX12_wrongDays cX12_wrongDays 3 (some .int) 2 := ⟨mw_1485, mw_1487, mp_44, mw_12, mw_1488, by decide +kernel, by decide +kernel, by decide +kernel⟩
theorem mw_1492 : Cond.code yX12_pass cX12_pass 3 none ∈ lw_G := lw_Gi 1552 (by decide +kernel) rfl
theorem mw_1491 : Cond.instanceMethod yX12_pass ∈ lw_G := lw_Gi 1551 (by decide +kernel) rfl
theorem mp_45 : Cond.selects yX12_pass.cls yX12_pass yX12_pass ∈ lw_G := lw_Gi 45 (by decide +kernel) rfl
theorem mw_1489 : Cond.methodLink "MilkDeskModel" 295 yX12_pass ∈ lw_G := lw_Gi 1549 (by decide +kernel) rfl
theorem lk_X12_295 : LKV "MilkDeskModel" 295 yX12_pass.cls yX12_pass cX12_pass 3 none 0 := ⟨mw_1489, mw_1491, mp_45, mw_12, mw_1492, by decide +kernel, by decide +kernel, by decide +kernel⟩
theorem kn_4 : (4 : Int32).toNatClampNeg = 4 ∧ ¬ (4 : Int32) < 0 := by decide +kernel
theorem mw_1160 : Cond.fieldLink "MilkDeskModel" 61 "MilkDeskModel" "lSchool" "[I" ∈ lw_G := lw_Gi 1220 (by decide +kernel) rfl
theorem fk_X12_61 : FLK "MilkDeskModel" 61 11 19 RX12 TX12 53 := ⟨rfl, Nat.le_of_ble_eq_true rfl, mw_1160, in_wsX120⟩
theorem gr_10_19 (G : Gn) (i : Nat) : GVR G 10 11 19 i (ad G 61 i) := fun _ _ _ => ⟨_, rfl, rfl⟩
theorem ar_61 (G : Gn) : AI G 61 30 := fun _ _ _ _ => rfl
theorem ci_61 {i : Nat} (h : i < 1) : i < cntK 61 := h
theorem mw_1161 : Cond.fieldLink "MilkDeskModel" 64 "MilkDeskModel" "lDay" "[I" ∈ lw_G := lw_Gi 1221 (by decide +kernel) rfl
theorem fk_X12_64 : FLK "MilkDeskModel" 64 11 20 RX12 TX12 53 := ⟨rfl, Nat.le_of_ble_eq_true rfl, mw_1161, in_wsX120⟩
theorem gr_10_20 (G : Gn) (i : Nat) : GVR G 10 11 20 i (ad G 62 i) := fun _ _ _ => ⟨_, rfl, rfl⟩
theorem ar_62 (G : Gn) : AI G 62 30 := fun _ _ _ _ => rfl
theorem ci_62 {i : Nat} (h : i < 1) : i < cntK 62 := h
theorem mw_1162 : Cond.fieldLink "MilkDeskModel" 67 "MilkDeskModel" "lReally" "[I" ∈ lw_G := lw_Gi 1222 (by decide +kernel) rfl
theorem fk_X12_67 : FLK "MilkDeskModel" 67 11 21 RX12 TX12 53 := ⟨rfl, Nat.le_of_ble_eq_true rfl, mw_1162, in_wsX120⟩
theorem gr_10_21 (G : Gn) (i : Nat) : GVR G 10 11 21 i (ad G 63 i) := fun _ _ _ => ⟨_, rfl, rfl⟩
theorem ar_63 (G : Gn) : AI G 63 30 := fun _ _ _ _ => rfl
theorem ci_63 {i : Nat} (h : i < 1) : i < cntK 63 := h
theorem mw_1527 : Cond.constant "MilkDeskModel" 298 (-1000000001) ∈ lw_G := lw_Gi 1587 (by decide +kernel) rfl
theorem mw_1528 : Cond.constant "MilkDeskModel" 299 (-1000000004) ∈ lw_G := lw_Gi 1588 (by decide +kernel) rfl
theorem mw_1547 : Cond.code yX12_apart cX12_apart 2 (some .int) ∈ lw_G := lw_Gi 1607 (by decide +kernel) rfl
theorem mw_1546 : Cond.static yX12_apart ∈ lw_G := lw_Gi 1606 (by decide +kernel) rfl
theorem mw_1545 : Cond.methodLink "MilkDeskModel" 300 yX12_apart ∈ lw_G := lw_Gi 1605 (by decide +kernel) rfl
theorem lk_X12_300 : LKS "MilkDeskModel" 300 yX12_apart cX12_apart 2 (some .int) 2 := ⟨mw_1545, mw_1546, mw_12, mw_1547, by decide +kernel, by decide +kernel, by decide +kernel⟩
theorem mw_1185 : Cond.fieldLink "MilkDeskModel" 303 "MilkDeskModel" "stopMany" "I" ∈ lw_G := lw_Gi 1245 (by decide +kernel) rfl
theorem fk_X12_303 : FLK "MilkDeskModel" 303 11 44 RX12 TX12 53 := ⟨rfl, Nat.le_of_ble_eq_true rfl, mw_1185, in_wsX120⟩
theorem gi_10_44 (G : Gn) : GVI G 10 11 44 := fun _ _ _ _ => ⟨_, rfl, rfl⟩
theorem mw_1183 : Cond.fieldLink "MilkDeskModel" 96 "MilkDeskModel" "way" "[I" ∈ lw_G := lw_Gi 1243 (by decide +kernel) rfl
theorem fk_X12_96 : FLK "MilkDeskModel" 96 11 42 RX12 TX12 53 := ⟨rfl, Nat.le_of_ble_eq_true rfl, mw_1183, in_wsX120⟩
theorem gr_10_42 (G : Gn) (i : Nat) : GVR G 10 11 42 i (ad G 70 i) := fun _ _ _ => ⟨_, rfl, rfl⟩
theorem mw_1182 : Cond.fieldLink "MilkDeskModel" 93 "MilkDeskModel" "stops" "[I" ∈ lw_G := lw_Gi 1242 (by decide +kernel) rfl
theorem fk_X12_93 : FLK "MilkDeskModel" 93 11 41 RX12 TX12 53 := ⟨rfl, Nat.le_of_ble_eq_true rfl, mw_1182, in_wsX120⟩
theorem gr_10_41 (G : Gn) (i : Nat) : GVR G 10 11 41 i (ad G 69 i) := fun _ _ _ => ⟨_, rfl, rfl⟩
theorem ar_69 (G : Gn) : AI G 69 7 := fun _ _ _ _ => rfl
theorem ci_69 {i : Nat} (h : i < 1) : i < cntK 69 := h
theorem ar_70 (G : Gn) : AI G 70 7 := fun _ _ _ _ => rfl
theorem ci_70 {i : Nat} (h : i < 1) : i < cntK 70 := h
theorem mw_1544 : Cond.code yX12_farOf cX12_farOf 8 (some .int) ∈ lw_G := lw_Gi 1604 (by decide +kernel) rfl
theorem mw_1543 : Cond.instanceMethod yX12_farOf ∈ lw_G := lw_Gi 1603 (by decide +kernel) rfl
theorem mp_51 : Cond.selects yX12_farOf.cls yX12_farOf yX12_farOf ∈ lw_G := lw_Gi 51 (by decide +kernel) rfl
theorem mw_1541 : Cond.methodLink "MilkDeskModel" 306 yX12_farOf ∈ lw_G := lw_Gi 1601 (by decide +kernel) rfl
theorem lk_X12_306 : LKV "MilkDeskModel" 306 yX12_farOf.cls yX12_farOf cX12_farOf 8 (some .int) 3 := ⟨mw_1541, mw_1543, mp_51, mw_12, mw_1544, by decide +kernel, by decide +kernel, by decide +kernel⟩
theorem mw_1184 : Cond.fieldLink "MilkDeskModel" 99 "MilkDeskModel" "bestWay" "[I" ∈ lw_G := lw_Gi 1244 (by decide +kernel) rfl
theorem fk_X12_99 : FLK "MilkDeskModel" 99 11 43 RX12 TX12 53 := ⟨rfl, Nat.le_of_ble_eq_true rfl, mw_1184, in_wsX120⟩
theorem gr_10_43 (G : Gn) (i : Nat) : GVR G 10 11 43 i (ad G 71 i) := fun _ _ _ => ⟨_, rfl, rfl⟩
theorem ar_71 (G : Gn) : AI G 71 7 := fun _ _ _ _ => rfl
theorem ci_71 {i : Nat} (h : i < 1) : i < cntK 71 := h
theorem pf_X12_44 : parseFieldDescriptor (TX12 44).2.2.1 = some .int := by decide +kernel
theorem pv_10_44 (G : Gn) : PV G 10 11 44 := fun _ _ _ _ _ => ⟨_, rfl, Nat.le_of_ble_eq_true rfl, rfl⟩
theorem kb_m13 : (Int8.ofInt (-13)).toInt32 = (-13 : Int32) := by decide +kernel
theorem ks_600 : (Int16.ofInt 600).toInt32 = (600 : Int32) := by decide +kernel
theorem mw_1536 : Cond.code yX12_findStops cX12_findStops 5 (some .int) ∈ lw_G := lw_Gi 1596 (by decide +kernel) rfl
theorem mw_1535 : Cond.instanceMethod yX12_findStops ∈ lw_G := lw_Gi 1595 (by decide +kernel) rfl
theorem mp_49 : Cond.selects yX12_findStops.cls yX12_findStops yX12_findStops ∈ lw_G := lw_Gi 49 (by decide +kernel) rfl
theorem mw_1533 : Cond.methodLink "MilkDeskModel" 309 yX12_findStops ∈ lw_G := lw_Gi 1593 (by decide +kernel) rfl
theorem lk_X12_309 : LKV "MilkDeskModel" 309 yX12_findStops.cls yX12_findStops cX12_findStops 5 (some .int) 1 := ⟨mw_1533, mw_1535, mp_49, mw_12, mw_1536, by decide +kernel, by decide +kernel, by decide +kernel⟩
theorem mw_1540 : Cond.code yX12_findRound cX12_findRound 12 (some .int) ∈ lw_G := lw_Gi 1600 (by decide +kernel) rfl
theorem mw_1539 : Cond.instanceMethod yX12_findRound ∈ lw_G := lw_Gi 1599 (by decide +kernel) rfl
theorem mp_50 : Cond.selects yX12_findRound.cls yX12_findRound yX12_findRound ∈ lw_G := lw_Gi 50 (by decide +kernel) rfl
theorem mw_1537 : Cond.methodLink "MilkDeskModel" 312 yX12_findRound ∈ lw_G := lw_Gi 1597 (by decide +kernel) rfl
theorem lk_X12_312 : LKV "MilkDeskModel" 312 yX12_findRound.cls yX12_findRound cX12_findRound 12 (some .int) 2 := ⟨mw_1537, mw_1539, mp_50, mw_12, mw_1540, by decide +kernel, by decide +kernel, by decide +kernel⟩
theorem ks_320 : (Int16.ofInt 320).toInt32 = (320 : Int32) := by decide +kernel
theorem mw_1144 : Cond.fieldLink "MilkDeskModel" 16 "MilkDeskModel" "kept" "[I" ∈ lw_G := lw_Gi 1204 (by decide +kernel) rfl
theorem fk_X12_16 : FLK "MilkDeskModel" 16 11 3 RX12 TX12 53 := ⟨rfl, Nat.le_of_ble_eq_true rfl, mw_1144, in_wsX120⟩
theorem gr_10_3 (G : Gn) (i : Nat) : GVR G 10 11 3 i (ad G 46 i) := fun _ _ _ => ⟨_, rfl, rfl⟩
theorem ar_46 (G : Gn) : AI G 46 320 := fun _ _ _ _ => rfl
theorem ci_46 {i : Nat} (h : i < 1) : i < cntK 46 := h
theorem mw_1563 : Cond.code yX12_begin cX12_begin 2 none ∈ lw_G := lw_Gi 1623 (by decide +kernel) rfl
theorem mw_1562 : Cond.instanceMethod yX12_begin ∈ lw_G := lw_Gi 1622 (by decide +kernel) rfl
theorem mp_53 : Cond.selects yX12_begin.cls yX12_begin yX12_begin ∈ lw_G := lw_Gi 53 (by decide +kernel) rfl
theorem mw_1560 : Cond.methodLink "MilkDeskModel" 315 yX12_begin ∈ lw_G := lw_Gi 1620 (by decide +kernel) rfl
theorem lk_X12_315 : LKV "MilkDeskModel" 315 yX12_begin.cls yX12_begin cX12_begin 2 none 0 := ⟨mw_1560, mw_1562, mp_53, mw_12, mw_1563, by decide +kernel, by decide +kernel, by decide +kernel⟩
theorem mw_1567 : Cond.code yX12_comeBack cX12_comeBack 2 none ∈ lw_G := lw_Gi 1627 (by decide +kernel) rfl
theorem mw_1566 : Cond.instanceMethod yX12_comeBack ∈ lw_G := lw_Gi 1626 (by decide +kernel) rfl
theorem mp_54 : Cond.selects yX12_comeBack.cls yX12_comeBack yX12_comeBack ∈ lw_G := lw_Gi 54 (by decide +kernel) rfl
theorem mw_1564 : Cond.methodLink "MilkDeskModel" 318 yX12_comeBack ∈ lw_G := lw_Gi 1624 (by decide +kernel) rfl
theorem lk_X12_318 : LKV "MilkDeskModel" 318 yX12_comeBack.cls yX12_comeBack cX12_comeBack 2 none 0 := ⟨mw_1564, mw_1566, mp_54, mw_12, mw_1567, by decide +kernel, by decide +kernel, by decide +kernel⟩
theorem mw_1559 : Cond.code yX12_isEnough cX12_isEnough 6 (some .boolean) ∈ lw_G := lw_Gi 1619 (by decide +kernel) rfl
theorem mw_1558 : Cond.instanceMethod yX12_isEnough ∈ lw_G := lw_Gi 1618 (by decide +kernel) rfl
theorem mp_52 : Cond.selects yX12_isEnough.cls yX12_isEnough yX12_isEnough ∈ lw_G := lw_Gi 52 (by decide +kernel) rfl
theorem mw_1556 : Cond.methodLink "MilkDeskModel" 321 yX12_isEnough ∈ lw_G := lw_Gi 1616 (by decide +kernel) rfl
theorem lk_X12_321 : LKV "MilkDeskModel" 321 yX12_isEnough.cls yX12_isEnough cX12_isEnough 6 (some .boolean) 3 := ⟨mw_1556, mw_1558, mp_52, mw_12, mw_1559, by decide +kernel, by decide +kernel, by decide +kernel⟩
theorem ks_1000 : (Int16.ofInt 1000).toInt32 = (1000 : Int32) := by decide +kernel
theorem kb_15 : (Int8.ofInt 15).toInt32 = (15 : Int32) := by decide +kernel
theorem mw_1574 : Cond.code yX12_isPermutation cX12_isPermutation 3 (some .boolean) ∈ lw_G := lw_Gi 1634 (by decide +kernel) rfl
theorem mw_1573 : Cond.static yX12_isPermutation ∈ lw_G := lw_Gi 1633 (by decide +kernel) rfl
theorem mw_1572 : Cond.methodLink "MilkDeskModel" 324 yX12_isPermutation ∈ lw_G := lw_Gi 1632 (by decide +kernel) rfl
theorem lk_X12_324 : LKS "MilkDeskModel" 324 yX12_isPermutation cX12_isPermutation 3 (some .boolean) 1 := ⟨mw_1572, mw_1573, mw_12, mw_1574, by decide +kernel, by decide +kernel, by decide +kernel⟩
theorem pf_X12_22 : parseFieldDescriptor (TX12 22).2.2.1 = some .int := by decide +kernel
theorem pv_10_22 (G : Gn) : PV G 10 11 22 := fun _ _ _ _ _ => ⟨_, rfl, Nat.le_of_ble_eq_true rfl, rfl⟩
theorem mw_1579 : Cond.constant "MilkDeskModel" 327 (-1000000002) ∈ lw_G := lw_Gi 1639 (by decide +kernel) rfl
theorem mw_1583 : Cond.code yX12_sumAhead cX12_sumAhead 6 (some .int) ∈ lw_G := lw_Gi 1643 (by decide +kernel) rfl
theorem mw_1582 : Cond.instanceMethod yX12_sumAhead ∈ lw_G := lw_Gi 1642 (by decide +kernel) rfl
theorem mp_55 : Cond.selects yX12_sumAhead.cls yX12_sumAhead yX12_sumAhead ∈ lw_G := lw_Gi 55 (by decide +kernel) rfl
theorem mw_1580 : Cond.methodLink "MilkDeskModel" 328 yX12_sumAhead ∈ lw_G := lw_Gi 1640 (by decide +kernel) rfl
theorem lk_X12_328 : LKV "MilkDeskModel" 328 yX12_sumAhead.cls yX12_sumAhead cX12_sumAhead 6 (some .int) 3 := ⟨mw_1580, mw_1582, mp_55, mw_12, mw_1583, by decide +kernel, by decide +kernel, by decide +kernel⟩
theorem mw_1588 : Cond.constant "MilkDeskModel" 331 (-1000000000) ∈ lw_G := lw_Gi 1648 (by decide +kernel) rfl
theorem mw_1592 : Cond.code yX12_markOf cX12_markOf 3 (some .int) ∈ lw_G := lw_Gi 1652 (by decide +kernel) rfl
theorem mw_1591 : Cond.instanceMethod yX12_markOf ∈ lw_G := lw_Gi 1651 (by decide +kernel) rfl
theorem mp_56 : Cond.selects yX12_markOf.cls yX12_markOf yX12_markOf ∈ lw_G := lw_Gi 56 (by decide +kernel) rfl
theorem mw_1589 : Cond.methodLink "MilkDeskModel" 332 yX12_markOf ∈ lw_G := lw_Gi 1649 (by decide +kernel) rfl
theorem lk_X12_332 : LKV "MilkDeskModel" 332 yX12_markOf.cls yX12_markOf cX12_markOf 3 (some .int) 2 := ⟨mw_1589, mw_1591, mp_56, mw_12, mw_1592, by decide +kernel, by decide +kernel, by decide +kernel⟩
theorem mw_1145 : Cond.fieldLink "MilkDeskModel" 335 "MilkDeskModel" "hasImage" "Z" ∈ lw_G := lw_Gi 1205 (by decide +kernel) rfl
theorem fk_X12_335 : FLK "MilkDeskModel" 335 11 4 RX12 TX12 53 := ⟨rfl, Nat.le_of_ble_eq_true rfl, mw_1145, in_wsX120⟩
theorem pf_X12_4 : parseFieldDescriptor (TX12 4).2.2.1 = some .boolean := by decide +kernel
theorem pv_10_4 (G : Gn) : PV G 10 11 4 := fun _ _ _ _ _ => ⟨_, rfl, Nat.le_of_ble_eq_true rfl, rfl⟩
theorem mw_1143 : Cond.fieldLink "MilkDeskModel" 13 "MilkDeskModel" "imaged" "[I" ∈ lw_G := lw_Gi 1203 (by decide +kernel) rfl
theorem fk_X12_13 : FLK "MilkDeskModel" 13 11 2 RX12 TX12 53 := ⟨rfl, Nat.le_of_ble_eq_true rfl, mw_1143, in_wsX120⟩
theorem gr_10_2 (G : Gn) (i : Nat) : GVR G 10 11 2 i (ad G 45 i) := fun _ _ _ => ⟨_, rfl, rfl⟩
theorem ar_45 (G : Gn) : AI G 45 320 := fun _ _ _ _ => rfl
theorem ci_45 {i : Nat} (h : i < 1) : i < cntK 45 := h
theorem gi_10_4 (G : Gn) : GVI G 10 11 4 := fun _ _ _ _ => ⟨_, rfl, rfl⟩
theorem mw_1608 : Cond.code yX12_allOf cX12_allOf 4 (some .int) ∈ lw_G := lw_Gi 1668 (by decide +kernel) rfl
theorem mw_1607 : Cond.instanceMethod yX12_allOf ∈ lw_G := lw_Gi 1667 (by decide +kernel) rfl
theorem mp_57 : Cond.selects yX12_allOf.cls yX12_allOf yX12_allOf ∈ lw_G := lw_Gi 57 (by decide +kernel) rfl
theorem mw_1605 : Cond.methodLink "MilkDeskModel" 338 yX12_allOf ∈ lw_G := lw_Gi 1665 (by decide +kernel) rfl
theorem lk_X12_338 : LKV "MilkDeskModel" 338 yX12_allOf.cls yX12_allOf cX12_allOf 4 (some .int) 1 := ⟨mw_1605, mw_1607, mp_57, mw_12, mw_1608, by decide +kernel, by decide +kernel, by decide +kernel⟩
theorem mw_1187 : Cond.fieldLink "MilkDeskModel" 105 "MilkDeskModel" "crateKind" "[I" ∈ lw_G := lw_Gi 1247 (by decide +kernel) rfl
theorem fk_X12_105 : FLK "MilkDeskModel" 105 11 46 RX12 TX12 53 := ⟨rfl, Nat.le_of_ble_eq_true rfl, mw_1187, in_wsX120⟩
theorem gr_10_46 (G : Gn) (i : Nat) : GVR G 10 11 46 i (ad G 73 i) := fun _ _ _ => ⟨_, rfl, rfl⟩
theorem ar_73 (G : Gn) : AI G 73 8 := fun _ _ _ _ => rfl
theorem ci_73 {i : Nat} (h : i < 1) : i < cntK 73 := h
theorem mw_1188 : Cond.fieldLink "MilkDeskModel" 108 "MilkDeskModel" "crateMany" "[I" ∈ lw_G := lw_Gi 1248 (by decide +kernel) rfl
theorem fk_X12_108 : FLK "MilkDeskModel" 108 11 47 RX12 TX12 53 := ⟨rfl, Nat.le_of_ble_eq_true rfl, mw_1188, in_wsX120⟩
theorem gr_10_47 (G : Gn) (i : Nat) : GVR G 10 11 47 i (ad G 74 i) := fun _ _ _ => ⟨_, rfl, rfl⟩
theorem ar_74 (G : Gn) : AI G 74 8 := fun _ _ _ _ => rfl
theorem ci_74 {i : Nat} (h : i < 1) : i < cntK 74 := h
theorem mw_1189 : Cond.fieldLink "MilkDeskModel" 111 "MilkDeskModel" "crateSchool" "[I" ∈ lw_G := lw_Gi 1249 (by decide +kernel) rfl
theorem fk_X12_111 : FLK "MilkDeskModel" 111 11 48 RX12 TX12 53 := ⟨rfl, Nat.le_of_ble_eq_true rfl, mw_1189, in_wsX120⟩
theorem gr_10_48 (G : Gn) (i : Nat) : GVR G 10 11 48 i (ad G 75 i) := fun _ _ _ => ⟨_, rfl, rfl⟩
theorem ar_75 (G : Gn) : AI G 75 8 := fun _ _ _ _ => rfl
theorem ci_75 {i : Nat} (h : i < 1) : i < cntK 75 := h
theorem kb_m14 : (Int8.ofInt (-14)).toInt32 = (-14 : Int32) := by decide +kernel
theorem mw_1624 : Cond.code yX12_wrongRow cX12_wrongRow 2 (some .int) ∈ lw_G := lw_Gi 1684 (by decide +kernel) rfl
theorem mw_1623 : Cond.instanceMethod yX12_wrongRow ∈ lw_G := lw_Gi 1683 (by decide +kernel) rfl
theorem mp_58 : Cond.selects yX12_wrongRow.cls yX12_wrongRow yX12_wrongRow ∈ lw_G := lw_Gi 58 (by decide +kernel) rfl
theorem mw_1621 : Cond.methodLink "MilkDeskModel" 341 yX12_wrongRow ∈ lw_G := lw_Gi 1681 (by decide +kernel) rfl
theorem lk_X12_341 : LKV "MilkDeskModel" 341 yX12_wrongRow.cls yX12_wrongRow cX12_wrongRow 2 (some .int) 1 := ⟨mw_1621, mw_1623, mp_58, mw_12, mw_1624, by decide +kernel, by decide +kernel, by decide +kernel⟩
theorem mw_1627 : Cond.code yX12_narrowed cX12_narrowed 2 (some .long) ∈ lw_G := lw_Gi 1687 (by decide +kernel) rfl
theorem mw_1626 : Cond.static yX12_narrowed ∈ lw_G := lw_Gi 1686 (by decide +kernel) rfl
theorem mw_1625 : Cond.methodLink "MilkDeskModel" 344 yX12_narrowed ∈ lw_G := lw_Gi 1685 (by decide +kernel) rfl
theorem lk_X12_344 : LKS "MilkDeskModel" 344 yX12_narrowed cX12_narrowed 2 (some .long) 2 := ⟨mw_1625, mw_1626, mw_12, mw_1627, by decide +kernel, by decide +kernel, by decide +kernel⟩
theorem mw_1193 : Cond.fieldLink "MilkDeskModel" 124 "MilkDeskModel" "between" "[J" ∈ lw_G := lw_Gi 1253 (by decide +kernel) rfl
theorem fk_X12_124 : FLK "MilkDeskModel" 124 11 52 RX12 TX12 53 := ⟨rfl, Nat.le_of_ble_eq_true rfl, mw_1193, in_wsX120⟩
theorem gr_10_52 (G : Gn) (i : Nat) : GVR G 10 11 52 i (ad G 79 i) := fun _ _ _ => ⟨_, rfl, rfl⟩
theorem ar_79 (G : Gn) : AJ G 79 80 := fun _ _ _ _ => rfl
theorem ci_79 {i : Nat} (h : i < 1) : i < cntK 79 := h
theorem mw_1643 : Cond.code yX12_wrongShelf cX12_wrongShelf 2 (some .int) ∈ lw_G := lw_Gi 1703 (by decide +kernel) rfl
theorem mw_1642 : Cond.instanceMethod yX12_wrongShelf ∈ lw_G := lw_Gi 1702 (by decide +kernel) rfl
theorem mp_59 : Cond.selects yX12_wrongShelf.cls yX12_wrongShelf yX12_wrongShelf ∈ lw_G := lw_Gi 59 (by decide +kernel) rfl
theorem mw_1640 : Cond.methodLink "MilkDeskModel" 348 yX12_wrongShelf ∈ lw_G := lw_Gi 1700 (by decide +kernel) rfl
theorem lk_X12_348 : LKV "MilkDeskModel" 348 yX12_wrongShelf.cls yX12_wrongShelf cX12_wrongShelf 2 (some .int) 1 := ⟨mw_1640, mw_1642, mp_59, mw_12, mw_1643, by decide +kernel, by decide +kernel, by decide +kernel⟩
theorem kb_m15 : (Int8.ofInt (-15)).toInt32 = (-15 : Int32) := by decide +kernel
def s_X12_thrown (M : Mem) (P : Int32 → Mem → Prop) : Prop :=
  P (M.1 10 0 0) M
abbrev rm_X12_thrown : Room := { frames := 0, cells := 0, slots := 0, locals := 0 }
set_option maxHeartbeats 4000000 in
set_option maxRecDepth 100000 in
theorem c_X12_thrown (l : Launch) {G : Gn} {M : Mem} {P : Int32 → Mem → Prop} : MQi l yX12_thrown cX12_thrown 1 (some .int) rm_X12_thrown [.ref (ad G 10 0)] G M (s_X12_thrown M P) P := by
  refine m_enter (by decide +kernel) (Nat.le_of_ble_eq_true rfl) ?_
  intro p e s m below meth c ls H locs S hret hlocks hname hK hbs hW hS hl h
  obtain ⟨AV, hAV⟩ : ∃ z : Array Value, z = ([.ref (ad G 10 0)] : List Value).toArray := ⟨_, rfl⟩
  rw [← hAV] at S ⊢
  replace S : CallFix p m c cX12_thrown 1 s AV lw_G "MilkDeskModel" := S
  have hx := S.1
  have hb := S.2.1
  have hml := S.2.2.1
  have hown := S.2.2.2.1
  have hts := S.2.2.2.2
  replace hl : lv_has ls 1 [(0, .ref (ad G 10 0))] := hl
  unfold s_X12_thrown at h
  refine lv_aload_n hx hb dX12_thrown_0 rfl (lv_at hl 0 rfl) ?_
  refine m_geti S hK fk_X12_128 (gi_10_0 G) hW (ci_10 (Nat.le_of_ble_eq_true rfl)) dX12_thrown_1 ?_
  exact m_iret S hret hlocks hK hW hbs hS rfl h dX12_thrown_4
def s_X12_in (M : Mem) (x0 : Int32) (x1 : Int32) (x2 : Int32) (P : Int32 → Mem → Prop) : Prop :=
  (x0 < x1 → P (0 : Int32) M) ∧ (¬ x0 < x1 → (x2 < x0 → P (0 : Int32) M) ∧ (¬ x2 < x0 → P (1 : Int32) M))
abbrev rm_X12_in : Room := { frames := 0, cells := 0, slots := 0, locals := 0 }
set_option maxHeartbeats 4000000 in
set_option maxRecDepth 100000 in
theorem c_X12_in (l : Launch) {G : Gn} {M : Mem} {x0 : Int32} {x1 : Int32} {x2 : Int32} {P : Int32 → Mem → Prop} : MQi l yX12_in cX12_in 3 (some .boolean) rm_X12_in [.int x0, .int x1, .int x2] G M (s_X12_in M x0 x1 x2 P) P := by
  refine m_enter (by decide +kernel) (Nat.le_of_ble_eq_true rfl) ?_
  intro p e s m below meth c ls H locs S hret hlocks hname hK hbs hW hS hl h
  obtain ⟨AV, hAV⟩ : ∃ z : Array Value, z = ([.int x0, .int x1, .int x2] : List Value).toArray := ⟨_, rfl⟩
  rw [← hAV] at S ⊢
  replace S : CallFix p m c cX12_in 3 s AV lw_G "MilkDeskModel" := S
  have hx := S.1
  have hb := S.2.1
  have hml := S.2.2.1
  have hown := S.2.2.2.1
  have hts := S.2.2.2.2
  replace hl : lv_has ls 3 [(0, .int x0), (1, .int x1), (2, .int x2)] := hl
  unfold s_X12_in at h
  refine lv_iload_n hx hb dX12_in_0 rfl (lv_at hl 0 rfl) ?_
  refine lv_iload_n hx hb dX12_in_1 rfl (lv_at hl 1 rfl) ?_
  refine lv_icmp_lt (tgt := 14) hx hb dX12_in_2 (by decide) (fun c2 => ?_) (fun c2 => ?_)
  · replace h := h.1 c2
    refine lv_iconst hx hb dX12_in_14 ki_0 ?_
    exact m_iret S hret hlocks hK hW hbs hS rfl h dX12_in_15
  · replace h := h.2 c2
    refine lv_iload_n hx hb dX12_in_5 rfl (lv_at hl 0 rfl) ?_
    refine lv_iload_n hx hb dX12_in_6 rfl (lv_at hl 2 rfl) ?_
    refine lv_icmp_gt (tgt := 14) hx hb dX12_in_7 (by decide) (fun c7 => ?_) (fun c7 => ?_)
    · replace h := h.1 c7
      refine lv_iconst hx hb dX12_in_14 ki_0 ?_
      exact m_iret S hret hlocks hK hW hbs hS rfl h dX12_in_15
    · replace h := h.2 c7
      refine lv_iconst hx hb dX12_in_10 ki_1 ?_
      refine lv_goto (tgt := 15) hx hb dX12_in_11 (by decide) ?_
      exact m_iret S hret hlocks hK hW hbs hS rfl h dX12_in_15
def s_X12_isSchool (M : Mem) (x1 : Int32) (P : Int32 → Mem → Prop) : Prop :=
  s_X12_in M x1 (0 : Int32) ((M.1 44 0 0) - (1 : Int32)) (fun rr10 Mm10 => isB rr10 ∧ P rr10 Mm10)
abbrev rm_X12_isSchool : Room := { frames := 1, cells := 0, slots := 0, locals := 22 }
set_option maxHeartbeats 4000000 in
set_option maxRecDepth 100000 in
theorem c_X12_isSchool (l : Launch) {G : Gn} {M : Mem} {x1 : Int32} {P : Int32 → Mem → Prop} : MQi l yX12_isSchool cX12_isSchool 2 (some .boolean) rm_X12_isSchool [.ref (ad G 10 0), .int x1] G M (s_X12_isSchool M x1 P) P := by
  refine m_enter (by decide +kernel) (Nat.le_of_ble_eq_true rfl) ?_
  intro p e s m below meth c ls H locs S hret hlocks hname hK hbs hW hS hl h
  obtain ⟨AV, hAV⟩ : ∃ z : Array Value, z = ([.ref (ad G 10 0), .int x1] : List Value).toArray := ⟨_, rfl⟩
  rw [← hAV] at S ⊢
  replace S : CallFix p m c cX12_isSchool 2 s AV lw_G "MilkDeskModel" := S
  have hx := S.1
  have hb := S.2.1
  have hml := S.2.2.1
  have hown := S.2.2.2.1
  have hts := S.2.2.2.2
  replace hl : lv_has ls 2 [(0, .ref (ad G 10 0)), (1, .int x1)] := hl
  unfold s_X12_isSchool at h
  refine lv_iload_n hx hb dX12_isSchool_0 rfl (lv_at hl 1 rfl) ?_
  refine lv_iconst hx hb dX12_isSchool_1 ki_0 ?_
  refine lv_aload_n hx hb dX12_isSchool_2 rfl (lv_at hl 0 rfl) ?_
  refine m_getr S hK fk_X12_7 (gr_10_1 G 0) hW (ci_10 (Nat.le_of_ble_eq_true rfl)) dX12_isSchool_3 ?_
  refine lv_iconst hx hb dX12_isSchool_6 ki_0 ?_
  refine m_aldk S hK (ar_44 G) hW (ci_44 (Nat.le_of_ble_eq_true rfl)) kn_0 (Nat.le_of_ble_eq_true rfl) dX12_isSchool_7 ?_
  refine lv_iconst hx hb dX12_isSchool_8 ki_1 ?_
  refine lv_isub hx hb dX12_isSchool_9 ?_
  refine m_ci0 (m_rS S hK hW (m_szH hbs hS) (c_X12_in l ) h lk_X12_131 rfl hl.1 rfl ⟨Nat.le_of_ble_eq_true rfl, Nat.le_of_ble_eq_true rfl⟩ (Nat.le_of_ble_eq_true rfl) ⟨Nat.zero_le _, Nat.zero_le _⟩ dX12_isSchool_10) hS rfl rfl (fun rr10 Mm10 H locs h hW hS => ?_)
  obtain ⟨hn13, h⟩ := h
  exact m_iret S hret hlocks hK hW hbs hS (isB_n hn13) h dX12_isSchool_13
def s_X12_isDairy (M : Mem) (x1 : Int32) (P : Int32 → Mem → Prop) : Prop :=
  s_X12_in M x1 (0 : Int32) ((M.1 44 0 1) - (1 : Int32)) (fun rr10 Mm10 => isB rr10 ∧ P rr10 Mm10)
abbrev rm_X12_isDairy : Room := { frames := 1, cells := 0, slots := 0, locals := 22 }
set_option maxHeartbeats 4000000 in
set_option maxRecDepth 100000 in
theorem c_X12_isDairy (l : Launch) {G : Gn} {M : Mem} {x1 : Int32} {P : Int32 → Mem → Prop} : MQi l yX12_isDairy cX12_isDairy 2 (some .boolean) rm_X12_isDairy [.ref (ad G 10 0), .int x1] G M (s_X12_isDairy M x1 P) P := by
  refine m_enter (by decide +kernel) (Nat.le_of_ble_eq_true rfl) ?_
  intro p e s m below meth c ls H locs S hret hlocks hname hK hbs hW hS hl h
  obtain ⟨AV, hAV⟩ : ∃ z : Array Value, z = ([.ref (ad G 10 0), .int x1] : List Value).toArray := ⟨_, rfl⟩
  rw [← hAV] at S ⊢
  replace S : CallFix p m c cX12_isDairy 2 s AV lw_G "MilkDeskModel" := S
  have hx := S.1
  have hb := S.2.1
  have hml := S.2.2.1
  have hown := S.2.2.2.1
  have hts := S.2.2.2.2
  replace hl : lv_has ls 2 [(0, .ref (ad G 10 0)), (1, .int x1)] := hl
  unfold s_X12_isDairy at h
  refine lv_iload_n hx hb dX12_isDairy_0 rfl (lv_at hl 1 rfl) ?_
  refine lv_iconst hx hb dX12_isDairy_1 ki_0 ?_
  refine lv_aload_n hx hb dX12_isDairy_2 rfl (lv_at hl 0 rfl) ?_
  refine m_getr S hK fk_X12_7 (gr_10_1 G 0) hW (ci_10 (Nat.le_of_ble_eq_true rfl)) dX12_isDairy_3 ?_
  refine lv_iconst hx hb dX12_isDairy_6 ki_1 ?_
  refine m_aldk S hK (ar_44 G) hW (ci_44 (Nat.le_of_ble_eq_true rfl)) kn_1 (Nat.le_of_ble_eq_true rfl) dX12_isDairy_7 ?_
  refine lv_iconst hx hb dX12_isDairy_8 ki_1 ?_
  refine lv_isub hx hb dX12_isDairy_9 ?_
  refine m_ci0 (m_rS S hK hW (m_szH hbs hS) (c_X12_in l ) h lk_X12_131 rfl hl.1 rfl ⟨Nat.le_of_ble_eq_true rfl, Nat.le_of_ble_eq_true rfl⟩ (Nat.le_of_ble_eq_true rfl) ⟨Nat.zero_le _, Nat.zero_le _⟩ dX12_isDairy_10) hS rfl rfl (fun rr10 Mm10 H locs h hW hS => ?_)
  obtain ⟨hn13, h⟩ := h
  exact m_iret S hret hlocks hK hW hbs hS (isB_n hn13) h dX12_isDairy_13
def s_X12_isShire (M : Mem) (x0 : Int32) (P : Int32 → Mem → Prop) : Prop :=
  s_X12_in M x0 (0 : Int32) (3 : Int32) (fun rr3 Mm3 => isB rr3 ∧ P rr3 Mm3)
abbrev rm_X12_isShire : Room := { frames := 1, cells := 0, slots := 0, locals := 22 }
set_option maxHeartbeats 4000000 in
set_option maxRecDepth 100000 in
theorem c_X12_isShire (l : Launch) {G : Gn} {M : Mem} {x0 : Int32} {P : Int32 → Mem → Prop} : MQi l yX12_isShire cX12_isShire 1 (some .boolean) rm_X12_isShire [.int x0] G M (s_X12_isShire M x0 P) P := by
  refine m_enter (by decide +kernel) (Nat.le_of_ble_eq_true rfl) ?_
  intro p e s m below meth c ls H locs S hret hlocks hname hK hbs hW hS hl h
  obtain ⟨AV, hAV⟩ : ∃ z : Array Value, z = ([.int x0] : List Value).toArray := ⟨_, rfl⟩
  rw [← hAV] at S ⊢
  replace S : CallFix p m c cX12_isShire 1 s AV lw_G "MilkDeskModel" := S
  have hx := S.1
  have hb := S.2.1
  have hml := S.2.2.1
  have hown := S.2.2.2.1
  have hts := S.2.2.2.2
  replace hl : lv_has ls 1 [(0, .int x0)] := hl
  unfold s_X12_isShire at h
  refine lv_iload_n hx hb dX12_isShire_0 rfl (lv_at hl 0 rfl) ?_
  refine lv_iconst hx hb dX12_isShire_1 ki_0 ?_
  refine lv_iconst hx hb dX12_isShire_2 ki_3 ?_
  refine m_ci0 (m_rS S hK hW (m_szH hbs hS) (c_X12_in l ) h lk_X12_131 rfl hl.1 rfl ⟨Nat.le_of_ble_eq_true rfl, Nat.le_of_ble_eq_true rfl⟩ (Nat.le_of_ble_eq_true rfl) ⟨Nat.zero_le _, Nat.zero_le _⟩ dX12_isShire_3) hS rfl rfl (fun rr3 Mm3 H locs h hW hS => ?_)
  obtain ⟨hn6, h⟩ := h
  exact m_iret S hret hlocks hK hW hbs hS (isB_n hn6) h dX12_isShire_6
def s_X12_isAge (M : Mem) (x0 : Int32) (P : Int32 → Mem → Prop) : Prop :=
  s_X12_in M x0 (0 : Int32) (2 : Int32) (fun rr3 Mm3 => isB rr3 ∧ P rr3 Mm3)
abbrev rm_X12_isAge : Room := { frames := 1, cells := 0, slots := 0, locals := 22 }
set_option maxHeartbeats 4000000 in
set_option maxRecDepth 100000 in
theorem c_X12_isAge (l : Launch) {G : Gn} {M : Mem} {x0 : Int32} {P : Int32 → Mem → Prop} : MQi l yX12_isAge cX12_isAge 1 (some .boolean) rm_X12_isAge [.int x0] G M (s_X12_isAge M x0 P) P := by
  refine m_enter (by decide +kernel) (Nat.le_of_ble_eq_true rfl) ?_
  intro p e s m below meth c ls H locs S hret hlocks hname hK hbs hW hS hl h
  obtain ⟨AV, hAV⟩ : ∃ z : Array Value, z = ([.int x0] : List Value).toArray := ⟨_, rfl⟩
  rw [← hAV] at S ⊢
  replace S : CallFix p m c cX12_isAge 1 s AV lw_G "MilkDeskModel" := S
  have hx := S.1
  have hb := S.2.1
  have hml := S.2.2.1
  have hown := S.2.2.2.1
  have hts := S.2.2.2.2
  replace hl : lv_has ls 1 [(0, .int x0)] := hl
  unfold s_X12_isAge at h
  refine lv_iload_n hx hb dX12_isAge_0 rfl (lv_at hl 0 rfl) ?_
  refine lv_iconst hx hb dX12_isAge_1 ki_0 ?_
  refine lv_iconst hx hb dX12_isAge_2 ki_2 ?_
  refine m_ci0 (m_rS S hK hW (m_szH hbs hS) (c_X12_in l ) h lk_X12_131 rfl hl.1 rfl ⟨Nat.le_of_ble_eq_true rfl, Nat.le_of_ble_eq_true rfl⟩ (Nat.le_of_ble_eq_true rfl) ⟨Nat.zero_le _, Nat.zero_le _⟩ dX12_isAge_3) hS rfl rfl (fun rr3 Mm3 H locs h hW hS => ?_)
  obtain ⟨hn6, h⟩ := h
  exact m_iret S hret hlocks hK hW hbs hS (isB_n hn6) h dX12_isAge_6
def s_X12_isDay (M : Mem) (x0 : Int32) (P : Int32 → Mem → Prop) : Prop :=
  s_X12_in M x0 (0 : Int32) (400 : Int32) (fun rr5 Mm5 => isB rr5 ∧ P rr5 Mm5)
abbrev rm_X12_isDay : Room := { frames := 1, cells := 0, slots := 0, locals := 22 }
set_option maxHeartbeats 4000000 in
set_option maxRecDepth 100000 in
theorem c_X12_isDay (l : Launch) {G : Gn} {M : Mem} {x0 : Int32} {P : Int32 → Mem → Prop} : MQi l yX12_isDay cX12_isDay 1 (some .boolean) rm_X12_isDay [.int x0] G M (s_X12_isDay M x0 P) P := by
  refine m_enter (by decide +kernel) (Nat.le_of_ble_eq_true rfl) ?_
  intro p e s m below meth c ls H locs S hret hlocks hname hK hbs hW hS hl h
  obtain ⟨AV, hAV⟩ : ∃ z : Array Value, z = ([.int x0] : List Value).toArray := ⟨_, rfl⟩
  rw [← hAV] at S ⊢
  replace S : CallFix p m c cX12_isDay 1 s AV lw_G "MilkDeskModel" := S
  have hx := S.1
  have hb := S.2.1
  have hml := S.2.2.1
  have hown := S.2.2.2.1
  have hts := S.2.2.2.2
  replace hl : lv_has ls 1 [(0, .int x0)] := hl
  unfold s_X12_isDay at h
  refine lv_iload_n hx hb dX12_isDay_0 rfl (lv_at hl 0 rfl) ?_
  refine lv_iconst hx hb dX12_isDay_1 ki_0 ?_
  refine lv_sipush hx hb dX12_isDay_2 ks_400 ?_
  refine m_ci0 (m_rS S hK hW (m_szH hbs hS) (c_X12_in l ) h lk_X12_131 rfl hl.1 rfl ⟨Nat.le_of_ble_eq_true rfl, Nat.le_of_ble_eq_true rfl⟩ (Nat.le_of_ble_eq_true rfl) ⟨Nat.zero_le _, Nat.zero_le _⟩ dX12_isDay_5) hS rfl rfl (fun rr5 Mm5 H locs h hW hS => ?_)
  obtain ⟨hn8, h⟩ := h
  exact m_iret S hret hlocks hK hW hbs hS (isB_n hn8) h dX12_isDay_8
def s_X12_school_108 (x3 : Int32) (P : Int32 → Mem → Prop) (K108 : Mem × Int32 → Prop) (M : Mem) (x4 : Int32) : Prop :=
  ((11 : Int32) ≤ x4 → ∀ Mm147 : Mem, Mm147 = wI M 44 0 0 ((M.1 44 0 0) + (1 : Int32)) → P x3 Mm147) ∧ (¬ (11 : Int32) ≤ x4 → vp_in (((180 : Int32) + ((11 : Int32) * x3)) + x4) 320 ∧ (∀ Mm131 : Mem, Mm131 = wI M 44 0 ((((180 : Int32) + ((11 : Int32) * x3)) + x4).toNatClampNeg) (0 : Int32) → ∀ x4_132 : Int32, x4_132 = x4 + (1 : Int32) → K108 (Mm131, x4_132)))
def s_X12_school (M : Mem) (x1 : Int32) (x2 : Int32) (P : Int32 → Mem → Prop) : Prop :=
  ∀ Mm2 : Mem, Mm2 = wI M 10 0 0 (0 : Int32) → s_X12_isShire Mm2 x1 (fun rr6 Mm6 => (rr6 = 0 → P (-1 : Int32) Mm6) ∧ (¬ rr6 = 0 → s_X12_in Mm6 x2 (0 : Int32) (9999 : Int32) (fun rr17 Mm17 => (¬ rr17 = 0 → (¬ (Mm17.1 44 0 0) = (12 : Int32) → ∀ x3_45 : Int32, x3_45 = (Mm17.1 44 0 0) → vp_in x3_45 12 ∧ (∀ Mm52 : Mem, Mm52 = wI Mm17 47 0 (x3_45.toNatClampNeg) x1 → vp_in x3_45 12 ∧ (∀ Mm62 : Mem, Mm62 = wI Mm52 48 0 (x3_45.toNatClampNeg) (x2 / (100 : Int32)) → vp_in x3_45 12 ∧ (∀ Mm72 : Mem, Mm72 = wI Mm62 49 0 (x3_45.toNatClampNeg) (x2 - x2 / (100 : Int32) * (100 : Int32)) → vp_in ((10 : Int32) + x3_45) 320 ∧ (∀ Mm82 : Mem, Mm82 = wI Mm72 44 0 (((10 : Int32) + x3_45).toNatClampNeg) (0 : Int32) → vp_in ((30 : Int32) + x3_45) 320 ∧ (∀ Mm92 : Mem, Mm92 = wI Mm82 44 0 (((30 : Int32) + x3_45).toNatClampNeg) (0 : Int32) → vp_in ((50 : Int32) + x3_45) 320 ∧ (∀ Mm104 : Mem, Mm104 = wI Mm92 44 0 (((50 : Int32) + x3_45).toNatClampNeg) (660 : Int32) → ∃ n, Lz (fun (K108 : Mem × Int32 → Prop) (a : Mem × Int32) => s_X12_school_108 x3_45 P K108 a.1 a.2) n (Mm104, (0 : Int32))))))))) ∧ ((Mm17.1 44 0 0) = (12 : Int32) → P (-2 : Int32) Mm17)) ∧ (rr17 = 0 → P (-1 : Int32) Mm17))))
abbrev rm_X12_school : Room := { frames := 2, cells := 0, slots := 0, locals := 42 }
set_option maxHeartbeats 4000000 in
set_option maxRecDepth 100000 in
theorem c_X12_school (l : Launch) {G : Gn} {M : Mem} {x1 : Int32} {x2 : Int32} {P : Int32 → Mem → Prop} : MQi l yX12_school cX12_school 5 (some .int) rm_X12_school [.ref (ad G 10 0), .int x1, .int x2] G M (s_X12_school M x1 x2 P) P := by
  refine m_enter (by decide +kernel) (Nat.le_of_ble_eq_true rfl) ?_
  intro p e s m below meth c ls H locs S hret hlocks hname hK hbs hW hS hl h
  obtain ⟨AV, hAV⟩ : ∃ z : Array Value, z = ([.ref (ad G 10 0), .int x1, .int x2] : List Value).toArray := ⟨_, rfl⟩
  rw [← hAV] at S ⊢
  replace S : CallFix p m c cX12_school 5 s AV lw_G "MilkDeskModel" := S
  have hx := S.1
  have hb := S.2.1
  have hml := S.2.2.1
  have hown := S.2.2.2.1
  have hts := S.2.2.2.2
  replace hl : lv_has ls 5 [(0, .ref (ad G 10 0)), (1, .int x1), (2, .int x2)] := hl
  have w108 : ∀ (x3 : Int32), ∀ (n : Nat) (a : Mem × Int32), Lz (fun (K108 : Mem × Int32 → Prop) (a : Mem × Int32) => s_X12_school_108 x3 P K108 a.1 a.2) n a → ∀ (H : Heap) (locs : List Loc) (ls : Array Slot), WPm G a.1 H → va_S (fun q => bs G ≤ q) s.heap H locs → lv_has ls 5 [(0, .ref (ad G 10 0)), (3, .int x3), (4, .int a.2)] → W p l e rm_X12_school s m AV below meth c H locs 0 0 (MQ below (va_Qi P (WS G) (fun q => bs G ≤ q)) AV s 0 0 (fun q => bs G ≤ q)) (F0 m 108 ls []) := by
    intro x3
    refine Lz_walk ?_
    rintro K108 kk108 ⟨M, x4⟩ h H locs ls hW hS hl
    replace h : s_X12_school_108 x3 P K108 M x4 := h
    replace hW : WPm G M H := hW
    replace hl : lv_has ls 5 [(0, .ref (ad G 10 0)), (3, .int x3), (4, .int x4)] := hl
    unfold s_X12_school_108 at h
    refine lv_iload hx hb dX12_school_108 (lv_at hl 2 rfl) ?_
    refine lv_bipush hx hb dX12_school_110 kb_11 ?_
    refine lv_icmp_ge (tgt := 138) hx hb dX12_school_112 (by decide) (fun c112 => ?_) (fun c112 => ?_)
    · replace h := h.1 c112
      refine lv_aload_n hx hb dX12_school_138 rfl (lv_at hl 0 rfl) ?_
      refine m_getr S hK fk_X12_7 (gr_10_1 G 0) hW (ci_10 (Nat.le_of_ble_eq_true rfl)) dX12_school_139 ?_
      refine lv_iconst hx hb dX12_school_142 ki_0 ?_
      refine lv_dup2_11 hx hb dX12_school_143 rfl rfl ?_
      refine m_aldk S hK (ar_44 G) hW (ci_44 (Nat.le_of_ble_eq_true rfl)) kn_0 (Nat.le_of_ble_eq_true rfl) dX12_school_144 ?_
      refine lv_iconst hx hb dX12_school_145 ki_1 ?_
      refine lv_iadd hx hb dX12_school_146 ?_
      refine m_astk S hK (ar_44 G) hW hS (ci_44 (Nat.le_of_ble_eq_true rfl)) kn_0 (Nat.le_of_ble_eq_true rfl) dX12_school_147 (fun Mm147 eMm147 H locs hW hS => ?_)
      replace h := h Mm147 eMm147
      refine lv_iload_n hx hb dX12_school_148 rfl (lv_at hl 1 rfl) ?_
      exact m_iret S hret hlocks hK hW hbs hS rfl h dX12_school_149
    · replace h := h.2 c112
      refine lv_aload_n hx hb dX12_school_115 rfl (lv_at hl 0 rfl) ?_
      refine m_getr S hK fk_X12_7 (gr_10_1 G 0) hW (ci_10 (Nat.le_of_ble_eq_true rfl)) dX12_school_116 ?_
      refine lv_sipush hx hb dX12_school_119 ks_180 ?_
      refine lv_bipush hx hb dX12_school_122 kb_11 ?_
      refine lv_iload_n hx hb dX12_school_124 rfl (lv_at hl 1 rfl) ?_
      refine lv_imul hx hb dX12_school_125 ?_
      refine lv_iadd hx hb dX12_school_126 ?_
      refine lv_iload hx hb dX12_school_127 (lv_at hl 2 rfl) ?_
      refine lv_iadd hx hb dX12_school_129 ?_
      refine lv_iconst hx hb dX12_school_130 ki_0 ?_
      obtain ⟨hb131, h⟩ := h
      refine m_ast S hK (ar_44 G) hW hS (ci_44 (Nat.le_of_ble_eq_true rfl)) hb131 dX12_school_131 (fun Mm131 eMm131 H locs hW hS => ?_)
      replace h := h Mm131 eMm131
      obtain ⟨x4_132, ex4_132⟩ : ∃ z : Int32, z = x4 + (1 : Int32) := ⟨_, rfl⟩
      replace h := h x4_132 ex4_132
      refine lv_iinc (v := x4_132) (lv' := [(4, .int x4_132), (0, .ref (ad G 10 0)), (3, .int x3)]) hx hb dX12_school_132 hl (k := 2) rfl (by rw [ex4_132, ki_1]) (by decide) rfl (fun ls hl => ?_)
      refine lv_goto (tgt := 108) hx hb dX12_school_135 (by decide) ?_
      exact kk108 _ h H locs ls hW hS (lv_sub hl [1, 2, 0] rfl)
  unfold s_X12_school at h
  refine lv_aload_n hx hb dX12_school_0 rfl (lv_at hl 0 rfl) ?_
  refine lv_iconst hx hb dX12_school_1 ki_0 ?_
  refine m_put S hK fk_X12_128 tyX12_ok nmX12 rfl pf_X12_0 (pv_10_0 G) hW hS (ci_10 (Nat.le_of_ble_eq_true rfl)) rfl rfl dX12_school_2 (fun Mm2 eMm2 H locs hW hS => ?_)
  replace h := h Mm2 eMm2
  refine lv_iload_n hx hb dX12_school_5 rfl (lv_at hl 1 rfl) ?_
  refine m_ci0 (m_rS S hK hW (m_szH hbs hS) (c_X12_isShire l ) h lk_X12_135 rfl hl.1 rfl ⟨Nat.le_of_ble_eq_true rfl, Nat.le_of_ble_eq_true rfl⟩ (Nat.le_of_ble_eq_true rfl) ⟨Nat.zero_le _, Nat.zero_le _⟩ dX12_school_6) hS rfl rfl (fun rr6 Mm6 H locs h hW hS => ?_)
  refine lv_if_eq (tgt := 23) hx hb dX12_school_9 (by decide) (fun c9 => ?_) (fun c9 => ?_)
  · replace h := h.1 c9
    refine lv_iconst hx hb dX12_school_23 ki_m1 ?_
    exact m_iret S hret hlocks hK hW hbs hS rfl h dX12_school_24
  · replace h := h.2 c9
    refine lv_iload_n hx hb dX12_school_12 rfl (lv_at hl 2 rfl) ?_
    refine lv_iconst hx hb dX12_school_13 ki_0 ?_
    refine lv_sipush hx hb dX12_school_14 ks_9999 ?_
    refine m_ci0 (m_rS S hK hW (m_szH hbs hS) (c_X12_in l ) h lk_X12_131 rfl hl.1 rfl ⟨Nat.le_of_ble_eq_true rfl, Nat.le_of_ble_eq_true rfl⟩ (Nat.le_of_ble_eq_true rfl) ⟨Nat.zero_le _, Nat.zero_le _⟩ dX12_school_17) hS rfl rfl (fun rr17 Mm17 H locs h hW hS => ?_)
    refine lv_if_ne (tgt := 25) hx hb dX12_school_20 (by decide) (fun c20 => ?_) (fun c20 => ?_)
    · replace h := h.1 c20
      refine lv_aload_n hx hb dX12_school_25 rfl (lv_at hl 0 rfl) ?_
      refine m_getr S hK fk_X12_7 (gr_10_1 G 0) hW (ci_10 (Nat.le_of_ble_eq_true rfl)) dX12_school_26 ?_
      refine lv_iconst hx hb dX12_school_29 ki_0 ?_
      refine m_aldk S hK (ar_44 G) hW (ci_44 (Nat.le_of_ble_eq_true rfl)) kn_0 (Nat.le_of_ble_eq_true rfl) dX12_school_30 ?_
      refine lv_bipush hx hb dX12_school_31 kb_12 ?_
      refine lv_icmp_ne (tgt := 39) hx hb dX12_school_33 (by decide) (fun c33 => ?_) (fun c33 => ?_)
      · replace h := h.1 c33
        refine lv_aload_n hx hb dX12_school_39 rfl (lv_at hl 0 rfl) ?_
        refine m_getr S hK fk_X12_7 (gr_10_1 G 0) hW (ci_10 (Nat.le_of_ble_eq_true rfl)) dX12_school_40 ?_
        refine lv_iconst hx hb dX12_school_43 ki_0 ?_
        refine m_aldk S hK (ar_44 G) hW (ci_44 (Nat.le_of_ble_eq_true rfl)) kn_0 (Nat.le_of_ble_eq_true rfl) dX12_school_44 ?_
        refine lv_topi (fun x3_45 ex3_45 => ?_)
        replace h := h x3_45 ex3_45
        refine lv_istore_n (lv' := [(3, .int x3_45), (0, .ref (ad G 10 0)), (1, .int x1), (2, .int x2)]) hx hb dX12_school_45 rfl hl (by decide) rfl (fun ls hl => ?_)
        refine lv_aload_n hx hb dX12_school_46 rfl (lv_at hl 1 rfl) ?_
        refine m_getr S hK fk_X12_19 (gr_10_5 G 0) hW (ci_10 (Nat.le_of_ble_eq_true rfl)) dX12_school_47 ?_
        refine lv_iload_n hx hb dX12_school_50 rfl (lv_at hl 0 rfl) ?_
        refine lv_iload_n hx hb dX12_school_51 rfl (lv_at hl 2 rfl) ?_
        obtain ⟨hb52, h⟩ := h
        refine m_ast S hK (ar_47 G) hW hS (ci_47 (Nat.le_of_ble_eq_true rfl)) hb52 dX12_school_52 (fun Mm52 eMm52 H locs hW hS => ?_)
        replace h := h Mm52 eMm52
        refine lv_aload_n hx hb dX12_school_53 rfl (lv_at hl 1 rfl) ?_
        refine m_getr S hK fk_X12_22 (gr_10_6 G 0) hW (ci_10 (Nat.le_of_ble_eq_true rfl)) dX12_school_54 ?_
        refine lv_iload_n hx hb dX12_school_57 rfl (lv_at hl 0 rfl) ?_
        refine lv_iload_n hx hb dX12_school_58 rfl (lv_at hl 3 rfl) ?_
        refine lv_bipush hx hb dX12_school_59 kb_100 ?_
        refine lv_idiv hx hb dX12_school_61 nz_100 ?_
        obtain ⟨hb62, h⟩ := h
        refine m_ast S hK (ar_48 G) hW hS (ci_48 (Nat.le_of_ble_eq_true rfl)) hb62 dX12_school_62 (fun Mm62 eMm62 H locs hW hS => ?_)
        replace h := h Mm62 eMm62
        refine lv_aload_n hx hb dX12_school_63 rfl (lv_at hl 1 rfl) ?_
        refine m_getr S hK fk_X12_25 (gr_10_7 G 0) hW (ci_10 (Nat.le_of_ble_eq_true rfl)) dX12_school_64 ?_
        refine lv_iload_n hx hb dX12_school_67 rfl (lv_at hl 0 rfl) ?_
        refine lv_iload_n hx hb dX12_school_68 rfl (lv_at hl 3 rfl) ?_
        refine lv_bipush hx hb dX12_school_69 kb_100 ?_
        refine lv_irem hx hb dX12_school_71 nz_100 ?_
        obtain ⟨hb72, h⟩ := h
        refine m_ast S hK (ar_49 G) hW hS (ci_49 (Nat.le_of_ble_eq_true rfl)) hb72 dX12_school_72 (fun Mm72 eMm72 H locs hW hS => ?_)
        replace h := h Mm72 eMm72
        refine lv_aload_n hx hb dX12_school_73 rfl (lv_at hl 1 rfl) ?_
        refine m_getr S hK fk_X12_7 (gr_10_1 G 0) hW (ci_10 (Nat.le_of_ble_eq_true rfl)) dX12_school_74 ?_
        refine lv_bipush hx hb dX12_school_77 kb_10 ?_
        refine lv_iload_n hx hb dX12_school_79 rfl (lv_at hl 0 rfl) ?_
        refine lv_iadd hx hb dX12_school_80 ?_
        refine lv_iconst hx hb dX12_school_81 ki_0 ?_
        obtain ⟨hb82, h⟩ := h
        refine m_ast S hK (ar_44 G) hW hS (ci_44 (Nat.le_of_ble_eq_true rfl)) hb82 dX12_school_82 (fun Mm82 eMm82 H locs hW hS => ?_)
        replace h := h Mm82 eMm82
        refine lv_aload_n hx hb dX12_school_83 rfl (lv_at hl 1 rfl) ?_
        refine m_getr S hK fk_X12_7 (gr_10_1 G 0) hW (ci_10 (Nat.le_of_ble_eq_true rfl)) dX12_school_84 ?_
        refine lv_bipush hx hb dX12_school_87 kb_30 ?_
        refine lv_iload_n hx hb dX12_school_89 rfl (lv_at hl 0 rfl) ?_
        refine lv_iadd hx hb dX12_school_90 ?_
        refine lv_iconst hx hb dX12_school_91 ki_0 ?_
        obtain ⟨hb92, h⟩ := h
        refine m_ast S hK (ar_44 G) hW hS (ci_44 (Nat.le_of_ble_eq_true rfl)) hb92 dX12_school_92 (fun Mm92 eMm92 H locs hW hS => ?_)
        replace h := h Mm92 eMm92
        refine lv_aload_n hx hb dX12_school_93 rfl (lv_at hl 1 rfl) ?_
        refine m_getr S hK fk_X12_7 (gr_10_1 G 0) hW (ci_10 (Nat.le_of_ble_eq_true rfl)) dX12_school_94 ?_
        refine lv_bipush hx hb dX12_school_97 kb_50 ?_
        refine lv_iload_n hx hb dX12_school_99 rfl (lv_at hl 0 rfl) ?_
        refine lv_iadd hx hb dX12_school_100 ?_
        refine lv_sipush hx hb dX12_school_101 ks_660 ?_
        obtain ⟨hb104, h⟩ := h
        refine m_ast S hK (ar_44 G) hW hS (ci_44 (Nat.le_of_ble_eq_true rfl)) hb104 dX12_school_104 (fun Mm104 eMm104 H locs hW hS => ?_)
        replace h := h Mm104 eMm104
        refine lv_iconst hx hb dX12_school_105 ki_0 ?_
        refine lv_istore (lv' := [(4, .int (0 : Int32)), (3, .int x3_45), (0, .ref (ad G 10 0)), (1, .int x1), (2, .int x2)]) hx hb dX12_school_106 hl (by decide) rfl (fun ls hl => ?_)
        obtain ⟨n108, h⟩ := h
        exact w108 _ n108 _ h H locs ls hW hS (lv_sub hl [2, 1, 0] rfl)
      · replace h := h.2 c33
        refine lv_bipush hx hb dX12_school_36 kb_m2 ?_
        exact m_iret S hret hlocks hK hW hbs hS rfl h dX12_school_38
    · replace h := h.2 c20
      refine lv_iconst hx hb dX12_school_23 ki_m1 ?_
      exact m_iret S hret hlocks hK hW hbs hS rfl h dX12_school_24
def s_X12_set_66 (x1 : Int32) (x3 : Int32) (P : Int32 → Mem → Prop) (M : Mem) (y0 : Int32) : Prop :=
  ∀ x4_68 : Int32, x4_68 = (y0 + x1) → vp_in x4_68 320 ∧ (∀ x5_77 : Int32, x5_77 = (M.1 44 0 x4_68.toNatClampNeg) → vp_in x4_68 320 ∧ (∀ Mm86 : Mem, Mm86 = wI M 44 0 (x4_68.toNatClampNeg) x3 → P x5_77 Mm86))
def s_X12_set_37 (x1 : Int32) (x2 : Int32) (x3 : Int32) (P : Int32 → Mem → Prop) (M : Mem) (y0 : Int32) (y1 : Int32) (y2 : Int32) : Prop :=
  s_X12_in M y2 y1 y0 (fun rr37 Mm37 => (¬ rr37 = 0 → (¬ x2 = 0 → (¬ x2 = (1 : Int32) → s_X12_set_66 x1 x3 P Mm37 (50 : Int32)) ∧ (x2 = (1 : Int32) → s_X12_set_66 x1 x3 P Mm37 (30 : Int32))) ∧ (x2 = 0 → s_X12_set_66 x1 x3 P Mm37 (10 : Int32))) ∧ (rr37 = 0 → P (-1 : Int32) Mm37))
def s_X12_set (M : Mem) (x1 : Int32) (x2 : Int32) (x3 : Int32) (P : Int32 → Mem → Prop) : Prop :=
  ∀ Mm2 : Mem, Mm2 = wI M 10 0 0 (0 : Int32) → s_X12_isSchool Mm2 x1 (fun rr7 Mm7 => (rr7 = 0 → P (-1 : Int32) Mm7) ∧ (¬ rr7 = 0 → s_X12_in Mm7 x2 (0 : Int32) (2 : Int32) (fun rr16 Mm16 => (rr16 = 0 → P (-1 : Int32) Mm16) ∧ (¬ rr16 = 0 → (¬ x2 = (2 : Int32) → s_X12_set_37 x1 x2 x3 P Mm16 (100 : Int32) (0 : Int32) x3) ∧ (x2 = (2 : Int32) → s_X12_set_37 x1 x2 x3 P Mm16 (999 : Int32) (0 : Int32) x3)))))
abbrev rm_X12_set : Room := { frames := 2, cells := 0, slots := 0, locals := 43 }
set_option maxHeartbeats 4000000 in
set_option maxRecDepth 100000 in
theorem c_X12_set (l : Launch) {G : Gn} {M : Mem} {x1 : Int32} {x2 : Int32} {x3 : Int32} {P : Int32 → Mem → Prop} : MQi l yX12_set cX12_set 6 (some .int) rm_X12_set [.ref (ad G 10 0), .int x1, .int x2, .int x3] G M (s_X12_set M x1 x2 x3 P) P := by
  refine m_enter (by decide +kernel) (Nat.le_of_ble_eq_true rfl) ?_
  intro p e s m below meth c ls H locs S hret hlocks hname hK hbs hW hS hl h
  obtain ⟨AV, hAV⟩ : ∃ z : Array Value, z = ([.ref (ad G 10 0), .int x1, .int x2, .int x3] : List Value).toArray := ⟨_, rfl⟩
  rw [← hAV] at S ⊢
  replace S : CallFix p m c cX12_set 6 s AV lw_G "MilkDeskModel" := S
  have hx := S.1
  have hb := S.2.1
  have hml := S.2.2.1
  have hown := S.2.2.2.1
  have hts := S.2.2.2.2
  replace hl : lv_has ls 6 [(0, .ref (ad G 10 0)), (1, .int x1), (2, .int x2), (3, .int x3)] := hl
  have b66 : ∀ (M : Mem) (y0 : Int32) (H : Heap) (locs : List Loc) (ls : Array Slot), WPm G M H → va_S (fun q => bs G ≤ q) s.heap H locs → lv_has ls 6 [(0, .ref (ad G 10 0)), (1, .int x1), (3, .int x3)] → s_X12_set_66 x1 x3 P M y0 → W p l e rm_X12_set s m AV below meth c H locs 0 0 (MQ below (va_Qi P (WS G) (fun q => bs G ≤ q)) AV s 0 0 (fun q => bs G ≤ q)) (F0 m 66 ls [.int y0]) := by
    intro M y0 H locs ls hW hS hl h
    unfold s_X12_set_66 at h
    refine lv_iload_n hx hb dX12_set_66 rfl (lv_at hl 1 rfl) ?_
    refine lv_iadd hx hb dX12_set_67 ?_
    refine lv_topi (fun x4_68 ex4_68 => ?_)
    replace h := h x4_68 ex4_68
    refine lv_istore (lv' := [(4, .int x4_68), (0, .ref (ad G 10 0)), (1, .int x1), (3, .int x3)]) hx hb dX12_set_68 hl (by decide) rfl (fun ls hl => ?_)
    refine lv_aload_n hx hb dX12_set_70 rfl (lv_at hl 1 rfl) ?_
    refine m_getr S hK fk_X12_7 (gr_10_1 G 0) hW (ci_10 (Nat.le_of_ble_eq_true rfl)) dX12_set_71 ?_
    refine lv_iload hx hb dX12_set_74 (lv_at hl 0 rfl) ?_
    obtain ⟨hb76, h⟩ := h
    refine m_ald S hK (ar_44 G) hW (ci_44 (Nat.le_of_ble_eq_true rfl)) hb76 dX12_set_76 ?_
    refine lv_topi (fun x5_77 ex5_77 => ?_)
    replace h := h x5_77 ex5_77
    refine lv_istore (lv' := [(5, .int x5_77), (4, .int x4_68), (0, .ref (ad G 10 0)), (1, .int x1), (3, .int x3)]) hx hb dX12_set_77 hl (by decide) rfl (fun ls hl => ?_)
    refine lv_aload_n hx hb dX12_set_79 rfl (lv_at hl 2 rfl) ?_
    refine m_getr S hK fk_X12_7 (gr_10_1 G 0) hW (ci_10 (Nat.le_of_ble_eq_true rfl)) dX12_set_80 ?_
    refine lv_iload hx hb dX12_set_83 (lv_at hl 1 rfl) ?_
    refine lv_iload_n hx hb dX12_set_85 rfl (lv_at hl 4 rfl) ?_
    obtain ⟨hb86, h⟩ := h
    refine m_ast S hK (ar_44 G) hW hS (ci_44 (Nat.le_of_ble_eq_true rfl)) hb86 dX12_set_86 (fun Mm86 eMm86 H locs hW hS => ?_)
    replace h := h Mm86 eMm86
    refine lv_iload hx hb dX12_set_87 (lv_at hl 0 rfl) ?_
    exact m_iret S hret hlocks hK hW hbs hS rfl h dX12_set_89
  have b37 : ∀ (M : Mem) (y0 : Int32) (y1 : Int32) (y2 : Int32) (H : Heap) (locs : List Loc) (ls : Array Slot), WPm G M H → va_S (fun q => bs G ≤ q) s.heap H locs → lv_has ls 6 [(0, .ref (ad G 10 0)), (1, .int x1), (2, .int x2), (3, .int x3)] → s_X12_set_37 x1 x2 x3 P M y0 y1 y2 → W p l e rm_X12_set s m AV below meth c H locs 0 0 (MQ below (va_Qi P (WS G) (fun q => bs G ≤ q)) AV s 0 0 (fun q => bs G ≤ q)) (F0 m 37 ls [.int y0, .int y1, .int y2]) := by
    intro M y0 y1 y2 H locs ls hW hS hl h
    unfold s_X12_set_37 at h
    refine m_ci0 (m_rS S hK hW (m_szH hbs hS) (c_X12_in l ) h lk_X12_131 rfl hl.1 rfl ⟨Nat.le_of_ble_eq_true rfl, Nat.le_of_ble_eq_true rfl⟩ (Nat.le_of_ble_eq_true rfl) ⟨Nat.zero_le _, Nat.zero_le _⟩ dX12_set_37) hS rfl rfl (fun rr37 Mm37 H locs h hW hS => ?_)
    refine lv_if_ne (tgt := 45) hx hb dX12_set_40 (by decide) (fun c40 => ?_) (fun c40 => ?_)
    · replace h := h.1 c40
      refine lv_iload_n hx hb dX12_set_45 rfl (lv_at hl 2 rfl) ?_
      refine lv_if_ne (tgt := 54) hx hb dX12_set_46 (by decide) (fun c46 => ?_) (fun c46 => ?_)
      · replace h := h.1 c46
        refine lv_iload_n hx hb dX12_set_54 rfl (lv_at hl 2 rfl) ?_
        refine lv_iconst hx hb dX12_set_55 ki_1 ?_
        refine lv_icmp_ne (tgt := 64) hx hb dX12_set_56 (by decide) (fun c56 => ?_) (fun c56 => ?_)
        · replace h := h.1 c56
          refine lv_bipush hx hb dX12_set_64 kb_50 ?_
          exact b66 _ _ H locs ls hW hS (lv_sub hl [0, 1, 3] rfl) h
        · replace h := h.2 c56
          refine lv_bipush hx hb dX12_set_59 kb_30 ?_
          refine lv_goto (tgt := 66) hx hb dX12_set_61 (by decide) ?_
          exact b66 _ _ H locs ls hW hS (lv_sub hl [0, 1, 3] rfl) h
      · replace h := h.2 c46
        refine lv_bipush hx hb dX12_set_49 kb_10 ?_
        refine lv_goto (tgt := 66) hx hb dX12_set_51 (by decide) ?_
        exact b66 _ _ H locs ls hW hS (lv_sub hl [0, 1, 3] rfl) h
    · replace h := h.2 c40
      refine lv_iconst hx hb dX12_set_43 ki_m1 ?_
      exact m_iret S hret hlocks hK hW hbs hS rfl h dX12_set_44
  unfold s_X12_set at h
  refine lv_aload_n hx hb dX12_set_0 rfl (lv_at hl 0 rfl) ?_
  refine lv_iconst hx hb dX12_set_1 ki_0 ?_
  refine m_put S hK fk_X12_128 tyX12_ok nmX12 rfl pf_X12_0 (pv_10_0 G) hW hS (ci_10 (Nat.le_of_ble_eq_true rfl)) rfl rfl dX12_set_2 (fun Mm2 eMm2 H locs hW hS => ?_)
  replace h := h Mm2 eMm2
  refine lv_aload_n hx hb dX12_set_5 rfl (lv_at hl 0 rfl) ?_
  refine lv_iload_n hx hb dX12_set_6 rfl (lv_at hl 1 rfl) ?_
  refine m_ci0 (m_rV S hK hW (m_szH hbs hS) (c_X12_isSchool l ) h lk_X12_139 (m_recv hK hW (ci_10 (Nat.le_of_ble_eq_true rfl)) (rc_10 G) rfl) rfl hl.1 rfl ⟨Nat.le_of_ble_eq_true rfl, Nat.le_of_ble_eq_true rfl⟩ (Nat.le_of_ble_eq_true rfl) ⟨Nat.zero_le _, Nat.zero_le _⟩ dX12_set_7) hS rfl rfl (fun rr7 Mm7 H locs h hW hS => ?_)
  refine lv_if_eq (tgt := 43) hx hb dX12_set_10 (by decide) (fun c10 => ?_) (fun c10 => ?_)
  · replace h := h.1 c10
    refine lv_iconst hx hb dX12_set_43 ki_m1 ?_
    exact m_iret S hret hlocks hK hW hbs hS rfl h dX12_set_44
  · replace h := h.2 c10
    refine lv_iload_n hx hb dX12_set_13 rfl (lv_at hl 2 rfl) ?_
    refine lv_iconst hx hb dX12_set_14 ki_0 ?_
    refine lv_iconst hx hb dX12_set_15 ki_2 ?_
    refine m_ci0 (m_rS S hK hW (m_szH hbs hS) (c_X12_in l ) h lk_X12_131 rfl hl.1 rfl ⟨Nat.le_of_ble_eq_true rfl, Nat.le_of_ble_eq_true rfl⟩ (Nat.le_of_ble_eq_true rfl) ⟨Nat.zero_le _, Nat.zero_le _⟩ dX12_set_16) hS rfl rfl (fun rr16 Mm16 H locs h hW hS => ?_)
    refine lv_if_eq (tgt := 43) hx hb dX12_set_19 (by decide) (fun c19 => ?_) (fun c19 => ?_)
    · replace h := h.1 c19
      refine lv_iconst hx hb dX12_set_43 ki_m1 ?_
      exact m_iret S hret hlocks hK hW hbs hS rfl h dX12_set_44
    · replace h := h.2 c19
      refine lv_iload_n hx hb dX12_set_22 rfl (lv_at hl 3 rfl) ?_
      refine lv_iconst hx hb dX12_set_23 ki_0 ?_
      refine lv_iload_n hx hb dX12_set_24 rfl (lv_at hl 2 rfl) ?_
      refine lv_iconst hx hb dX12_set_25 ki_2 ?_
      refine lv_icmp_ne (tgt := 35) hx hb dX12_set_26 (by decide) (fun c26 => ?_) (fun c26 => ?_)
      · replace h := h.1 c26
        refine lv_bipush hx hb dX12_set_35 kb_100 ?_
        exact b37 _ _ _ _ H locs ls hW hS (lv_sub hl [0, 1, 2, 3] rfl) h
      · replace h := h.2 c26
        refine lv_sipush hx hb dX12_set_29 ks_999 ?_
        refine lv_goto (tgt := 37) hx hb dX12_set_32 (by decide) ?_
        exact b37 _ _ _ _ H locs ls hW hS (lv_sub hl [0, 1, 2, 3] rfl) h
def s_X12_dairy_105 (x4 : Int32) (P : Int32 → Mem → Prop) (K105 : Mem × Int32 → Prop) (M : Mem) (x5 : Int32) : Prop :=
  ((4 : Int32) ≤ x5 → ∀ Mm142 : Mem, Mm142 = wI M 44 0 1 ((M.1 44 0 1) + (1 : Int32)) → P x4 Mm142) ∧ (¬ (4 : Int32) ≤ x5 → vp_in (((80 : Int32) + ((4 : Int32) * x4)) + x5) 320 ∧ (∀ Mm126 : Mem, Mm126 = wI M 44 0 ((((80 : Int32) + ((4 : Int32) * x4)) + x5).toNatClampNeg) (-1 : Int32) → ∀ x5_127 : Int32, x5_127 = x5 + (1 : Int32) → K105 (Mm126, x5_127)))
def s_X12_dairy (M : Mem) (x1 : Int32) (x2 : Int32) (x3 : Int32) (P : Int32 → Mem → Prop) : Prop :=
  ∀ Mm2 : Mem, Mm2 = wI M 10 0 0 (0 : Int32) → s_X12_in Mm2 x1 (0 : Int32) (9999 : Int32) (fun rr10 Mm10 => (rr10 = 0 → P (-1 : Int32) Mm10) ∧ (¬ rr10 = 0 → s_X12_in Mm10 x2 (0 : Int32) (9999 : Int32) (fun rr21 Mm21 => (rr21 = 0 → P (-1 : Int32) Mm21) ∧ (¬ rr21 = 0 → s_X12_in Mm21 x3 (1 : Int32) (9999 : Int32) (fun rr32 Mm32 => (¬ rr32 = 0 → (¬ (Mm32.1 44 0 1) = (5 : Int32) → ∀ x4_59 : Int32, x4_59 = (Mm32.1 44 0 1) → vp_in x4_59 5 ∧ (∀ Mm71 : Mem, Mm71 = wI Mm32 50 0 (x4_59.toNatClampNeg) (x1 / (100 : Int32)) → vp_in x4_59 5 ∧ (∀ Mm82 : Mem, Mm82 = wI Mm71 51 0 (x4_59.toNatClampNeg) (x1 - x1 / (100 : Int32) * (100 : Int32)) → vp_in x4_59 5 ∧ (∀ Mm90 : Mem, Mm90 = wI Mm82 52 0 (x4_59.toNatClampNeg) x3 → vp_in ((70 : Int32) + x4_59) 320 ∧ (∀ Mm101 : Mem, Mm101 = wI Mm90 44 0 (((70 : Int32) + x4_59).toNatClampNeg) x2 → ∃ n, Lz (fun (K105 : Mem × Int32 → Prop) (a : Mem × Int32) => s_X12_dairy_105 x4_59 P K105 a.1 a.2) n (Mm101, (0 : Int32))))))) ∧ ((Mm32.1 44 0 1) = (5 : Int32) → P (-2 : Int32) Mm32)) ∧ (rr32 = 0 → P (-1 : Int32) Mm32))))))
abbrev rm_X12_dairy : Room := { frames := 1, cells := 0, slots := 0, locals := 22 }
set_option maxHeartbeats 4000000 in
set_option maxRecDepth 100000 in
theorem c_X12_dairy (l : Launch) {G : Gn} {M : Mem} {x1 : Int32} {x2 : Int32} {x3 : Int32} {P : Int32 → Mem → Prop} : MQi l yX12_dairy cX12_dairy 6 (some .int) rm_X12_dairy [.ref (ad G 10 0), .int x1, .int x2, .int x3] G M (s_X12_dairy M x1 x2 x3 P) P := by
  refine m_enter (by decide +kernel) (Nat.le_of_ble_eq_true rfl) ?_
  intro p e s m below meth c ls H locs S hret hlocks hname hK hbs hW hS hl h
  obtain ⟨AV, hAV⟩ : ∃ z : Array Value, z = ([.ref (ad G 10 0), .int x1, .int x2, .int x3] : List Value).toArray := ⟨_, rfl⟩
  rw [← hAV] at S ⊢
  replace S : CallFix p m c cX12_dairy 6 s AV lw_G "MilkDeskModel" := S
  have hx := S.1
  have hb := S.2.1
  have hml := S.2.2.1
  have hown := S.2.2.2.1
  have hts := S.2.2.2.2
  replace hl : lv_has ls 6 [(0, .ref (ad G 10 0)), (1, .int x1), (2, .int x2), (3, .int x3)] := hl
  have w105 : ∀ (x4 : Int32), ∀ (n : Nat) (a : Mem × Int32), Lz (fun (K105 : Mem × Int32 → Prop) (a : Mem × Int32) => s_X12_dairy_105 x4 P K105 a.1 a.2) n a → ∀ (H : Heap) (locs : List Loc) (ls : Array Slot), WPm G a.1 H → va_S (fun q => bs G ≤ q) s.heap H locs → lv_has ls 6 [(0, .ref (ad G 10 0)), (4, .int x4), (5, .int a.2)] → W p l e rm_X12_dairy s m AV below meth c H locs 0 0 (MQ below (va_Qi P (WS G) (fun q => bs G ≤ q)) AV s 0 0 (fun q => bs G ≤ q)) (F0 m 105 ls []) := by
    intro x4
    refine Lz_walk ?_
    rintro K105 kk105 ⟨M, x5⟩ h H locs ls hW hS hl
    replace h : s_X12_dairy_105 x4 P K105 M x5 := h
    replace hW : WPm G M H := hW
    replace hl : lv_has ls 6 [(0, .ref (ad G 10 0)), (4, .int x4), (5, .int x5)] := hl
    unfold s_X12_dairy_105 at h
    refine lv_iload hx hb dX12_dairy_105 (lv_at hl 2 rfl) ?_
    refine lv_iconst hx hb dX12_dairy_107 ki_4 ?_
    refine lv_icmp_ge (tgt := 133) hx hb dX12_dairy_108 (by decide) (fun c108 => ?_) (fun c108 => ?_)
    · replace h := h.1 c108
      refine lv_aload_n hx hb dX12_dairy_133 rfl (lv_at hl 0 rfl) ?_
      refine m_getr S hK fk_X12_7 (gr_10_1 G 0) hW (ci_10 (Nat.le_of_ble_eq_true rfl)) dX12_dairy_134 ?_
      refine lv_iconst hx hb dX12_dairy_137 ki_1 ?_
      refine lv_dup2_11 hx hb dX12_dairy_138 rfl rfl ?_
      refine m_aldk S hK (ar_44 G) hW (ci_44 (Nat.le_of_ble_eq_true rfl)) kn_1 (Nat.le_of_ble_eq_true rfl) dX12_dairy_139 ?_
      refine lv_iconst hx hb dX12_dairy_140 ki_1 ?_
      refine lv_iadd hx hb dX12_dairy_141 ?_
      refine m_astk S hK (ar_44 G) hW hS (ci_44 (Nat.le_of_ble_eq_true rfl)) kn_1 (Nat.le_of_ble_eq_true rfl) dX12_dairy_142 (fun Mm142 eMm142 H locs hW hS => ?_)
      replace h := h Mm142 eMm142
      refine lv_iload hx hb dX12_dairy_143 (lv_at hl 1 rfl) ?_
      exact m_iret S hret hlocks hK hW hbs hS rfl h dX12_dairy_145
    · replace h := h.2 c108
      refine lv_aload_n hx hb dX12_dairy_111 rfl (lv_at hl 0 rfl) ?_
      refine m_getr S hK fk_X12_7 (gr_10_1 G 0) hW (ci_10 (Nat.le_of_ble_eq_true rfl)) dX12_dairy_112 ?_
      refine lv_bipush hx hb dX12_dairy_115 kb_80 ?_
      refine lv_iconst hx hb dX12_dairy_117 ki_4 ?_
      refine lv_iload hx hb dX12_dairy_118 (lv_at hl 1 rfl) ?_
      refine lv_imul hx hb dX12_dairy_120 ?_
      refine lv_iadd hx hb dX12_dairy_121 ?_
      refine lv_iload hx hb dX12_dairy_122 (lv_at hl 2 rfl) ?_
      refine lv_iadd hx hb dX12_dairy_124 ?_
      refine lv_iconst hx hb dX12_dairy_125 ki_m1 ?_
      obtain ⟨hb126, h⟩ := h
      refine m_ast S hK (ar_44 G) hW hS (ci_44 (Nat.le_of_ble_eq_true rfl)) hb126 dX12_dairy_126 (fun Mm126 eMm126 H locs hW hS => ?_)
      replace h := h Mm126 eMm126
      obtain ⟨x5_127, ex5_127⟩ : ∃ z : Int32, z = x5 + (1 : Int32) := ⟨_, rfl⟩
      replace h := h x5_127 ex5_127
      refine lv_iinc (v := x5_127) (lv' := [(5, .int x5_127), (0, .ref (ad G 10 0)), (4, .int x4)]) hx hb dX12_dairy_127 hl (k := 2) rfl (by rw [ex5_127, ki_1]) (by decide) rfl (fun ls hl => ?_)
      refine lv_goto (tgt := 105) hx hb dX12_dairy_130 (by decide) ?_
      exact kk105 _ h H locs ls hW hS (lv_sub hl [1, 2, 0] rfl)
  unfold s_X12_dairy at h
  refine lv_aload_n hx hb dX12_dairy_0 rfl (lv_at hl 0 rfl) ?_
  refine lv_iconst hx hb dX12_dairy_1 ki_0 ?_
  refine m_put S hK fk_X12_128 tyX12_ok nmX12 rfl pf_X12_0 (pv_10_0 G) hW hS (ci_10 (Nat.le_of_ble_eq_true rfl)) rfl rfl dX12_dairy_2 (fun Mm2 eMm2 H locs hW hS => ?_)
  replace h := h Mm2 eMm2
  refine lv_iload_n hx hb dX12_dairy_5 rfl (lv_at hl 1 rfl) ?_
  refine lv_iconst hx hb dX12_dairy_6 ki_0 ?_
  refine lv_sipush hx hb dX12_dairy_7 ks_9999 ?_
  refine m_ci0 (m_rS S hK hW (m_szH hbs hS) (c_X12_in l ) h lk_X12_131 rfl hl.1 rfl ⟨Nat.le_of_ble_eq_true rfl, Nat.le_of_ble_eq_true rfl⟩ (Nat.le_of_ble_eq_true rfl) ⟨Nat.zero_le _, Nat.zero_le _⟩ dX12_dairy_10) hS rfl rfl (fun rr10 Mm10 H locs h hW hS => ?_)
  refine lv_if_eq (tgt := 38) hx hb dX12_dairy_13 (by decide) (fun c13 => ?_) (fun c13 => ?_)
  · replace h := h.1 c13
    refine lv_iconst hx hb dX12_dairy_38 ki_m1 ?_
    exact m_iret S hret hlocks hK hW hbs hS rfl h dX12_dairy_39
  · replace h := h.2 c13
    refine lv_iload_n hx hb dX12_dairy_16 rfl (lv_at hl 2 rfl) ?_
    refine lv_iconst hx hb dX12_dairy_17 ki_0 ?_
    refine lv_sipush hx hb dX12_dairy_18 ks_9999 ?_
    refine m_ci0 (m_rS S hK hW (m_szH hbs hS) (c_X12_in l ) h lk_X12_131 rfl hl.1 rfl ⟨Nat.le_of_ble_eq_true rfl, Nat.le_of_ble_eq_true rfl⟩ (Nat.le_of_ble_eq_true rfl) ⟨Nat.zero_le _, Nat.zero_le _⟩ dX12_dairy_21) hS rfl rfl (fun rr21 Mm21 H locs h hW hS => ?_)
    refine lv_if_eq (tgt := 38) hx hb dX12_dairy_24 (by decide) (fun c24 => ?_) (fun c24 => ?_)
    · replace h := h.1 c24
      refine lv_iconst hx hb dX12_dairy_38 ki_m1 ?_
      exact m_iret S hret hlocks hK hW hbs hS rfl h dX12_dairy_39
    · replace h := h.2 c24
      refine lv_iload_n hx hb dX12_dairy_27 rfl (lv_at hl 3 rfl) ?_
      refine lv_iconst hx hb dX12_dairy_28 ki_1 ?_
      refine lv_sipush hx hb dX12_dairy_29 ks_9999 ?_
      refine m_ci0 (m_rS S hK hW (m_szH hbs hS) (c_X12_in l ) h lk_X12_131 rfl hl.1 rfl ⟨Nat.le_of_ble_eq_true rfl, Nat.le_of_ble_eq_true rfl⟩ (Nat.le_of_ble_eq_true rfl) ⟨Nat.zero_le _, Nat.zero_le _⟩ dX12_dairy_32) hS rfl rfl (fun rr32 Mm32 H locs h hW hS => ?_)
      refine lv_if_ne (tgt := 40) hx hb dX12_dairy_35 (by decide) (fun c35 => ?_) (fun c35 => ?_)
      · replace h := h.1 c35
        refine lv_aload_n hx hb dX12_dairy_40 rfl (lv_at hl 0 rfl) ?_
        refine m_getr S hK fk_X12_7 (gr_10_1 G 0) hW (ci_10 (Nat.le_of_ble_eq_true rfl)) dX12_dairy_41 ?_
        refine lv_iconst hx hb dX12_dairy_44 ki_1 ?_
        refine m_aldk S hK (ar_44 G) hW (ci_44 (Nat.le_of_ble_eq_true rfl)) kn_1 (Nat.le_of_ble_eq_true rfl) dX12_dairy_45 ?_
        refine lv_iconst hx hb dX12_dairy_46 ki_5 ?_
        refine lv_icmp_ne (tgt := 53) hx hb dX12_dairy_47 (by decide) (fun c47 => ?_) (fun c47 => ?_)
        · replace h := h.1 c47
          refine lv_aload_n hx hb dX12_dairy_53 rfl (lv_at hl 0 rfl) ?_
          refine m_getr S hK fk_X12_7 (gr_10_1 G 0) hW (ci_10 (Nat.le_of_ble_eq_true rfl)) dX12_dairy_54 ?_
          refine lv_iconst hx hb dX12_dairy_57 ki_1 ?_
          refine m_aldk S hK (ar_44 G) hW (ci_44 (Nat.le_of_ble_eq_true rfl)) kn_1 (Nat.le_of_ble_eq_true rfl) dX12_dairy_58 ?_
          refine lv_topi (fun x4_59 ex4_59 => ?_)
          replace h := h x4_59 ex4_59
          refine lv_istore (lv' := [(4, .int x4_59), (0, .ref (ad G 10 0)), (1, .int x1), (2, .int x2), (3, .int x3)]) hx hb dX12_dairy_59 hl (by decide) rfl (fun ls hl => ?_)
          refine lv_aload_n hx hb dX12_dairy_61 rfl (lv_at hl 1 rfl) ?_
          refine m_getr S hK fk_X12_28 (gr_10_8 G 0) hW (ci_10 (Nat.le_of_ble_eq_true rfl)) dX12_dairy_62 ?_
          refine lv_iload hx hb dX12_dairy_65 (lv_at hl 0 rfl) ?_
          refine lv_iload_n hx hb dX12_dairy_67 rfl (lv_at hl 2 rfl) ?_
          refine lv_bipush hx hb dX12_dairy_68 kb_100 ?_
          refine lv_idiv hx hb dX12_dairy_70 nz_100 ?_
          obtain ⟨hb71, h⟩ := h
          refine m_ast S hK (ar_50 G) hW hS (ci_50 (Nat.le_of_ble_eq_true rfl)) hb71 dX12_dairy_71 (fun Mm71 eMm71 H locs hW hS => ?_)
          replace h := h Mm71 eMm71
          refine lv_aload_n hx hb dX12_dairy_72 rfl (lv_at hl 1 rfl) ?_
          refine m_getr S hK fk_X12_31 (gr_10_9 G 0) hW (ci_10 (Nat.le_of_ble_eq_true rfl)) dX12_dairy_73 ?_
          refine lv_iload hx hb dX12_dairy_76 (lv_at hl 0 rfl) ?_
          refine lv_iload_n hx hb dX12_dairy_78 rfl (lv_at hl 2 rfl) ?_
          refine lv_bipush hx hb dX12_dairy_79 kb_100 ?_
          refine lv_irem hx hb dX12_dairy_81 nz_100 ?_
          obtain ⟨hb82, h⟩ := h
          refine m_ast S hK (ar_51 G) hW hS (ci_51 (Nat.le_of_ble_eq_true rfl)) hb82 dX12_dairy_82 (fun Mm82 eMm82 H locs hW hS => ?_)
          replace h := h Mm82 eMm82
          refine lv_aload_n hx hb dX12_dairy_83 rfl (lv_at hl 1 rfl) ?_
          refine m_getr S hK fk_X12_34 (gr_10_10 G 0) hW (ci_10 (Nat.le_of_ble_eq_true rfl)) dX12_dairy_84 ?_
          refine lv_iload hx hb dX12_dairy_87 (lv_at hl 0 rfl) ?_
          refine lv_iload_n hx hb dX12_dairy_89 rfl (lv_at hl 4 rfl) ?_
          obtain ⟨hb90, h⟩ := h
          refine m_ast S hK (ar_52 G) hW hS (ci_52 (Nat.le_of_ble_eq_true rfl)) hb90 dX12_dairy_90 (fun Mm90 eMm90 H locs hW hS => ?_)
          replace h := h Mm90 eMm90
          refine lv_aload_n hx hb dX12_dairy_91 rfl (lv_at hl 1 rfl) ?_
          refine m_getr S hK fk_X12_7 (gr_10_1 G 0) hW (ci_10 (Nat.le_of_ble_eq_true rfl)) dX12_dairy_92 ?_
          refine lv_bipush hx hb dX12_dairy_95 kb_70 ?_
          refine lv_iload hx hb dX12_dairy_97 (lv_at hl 0 rfl) ?_
          refine lv_iadd hx hb dX12_dairy_99 ?_
          refine lv_iload_n hx hb dX12_dairy_100 rfl (lv_at hl 3 rfl) ?_
          obtain ⟨hb101, h⟩ := h
          refine m_ast S hK (ar_44 G) hW hS (ci_44 (Nat.le_of_ble_eq_true rfl)) hb101 dX12_dairy_101 (fun Mm101 eMm101 H locs hW hS => ?_)
          replace h := h Mm101 eMm101
          refine lv_iconst hx hb dX12_dairy_102 ki_0 ?_
          refine lv_istore (lv' := [(5, .int (0 : Int32)), (4, .int x4_59), (0, .ref (ad G 10 0)), (1, .int x1), (2, .int x2), (3, .int x3)]) hx hb dX12_dairy_103 hl (by decide) rfl (fun ls hl => ?_)
          obtain ⟨n105, h⟩ := h
          exact w105 _ n105 _ h H locs ls hW hS (lv_sub hl [2, 1, 0] rfl)
        · replace h := h.2 c47
          refine lv_bipush hx hb dX12_dairy_50 kb_m2 ?_
          exact m_iret S hret hlocks hK hW hbs hS rfl h dX12_dairy_52
      · replace h := h.2 c35
        refine lv_iconst hx hb dX12_dairy_38 ki_m1 ?_
        exact m_iret S hret hlocks hK hW hbs hS rfl h dX12_dairy_39
def s_X12_bid (M : Mem) (x1 : Int32) (x2 : Int32) (x3 : Int32) (P : Int32 → Mem → Prop) : Prop :=
  ∀ Mm2 : Mem, Mm2 = wI M 10 0 0 (0 : Int32) → s_X12_isDairy Mm2 x1 (fun rr7 Mm7 => (rr7 = 0 → P (-1 : Int32) Mm7) ∧ (¬ rr7 = 0 → s_X12_isShire Mm7 x2 (fun rr14 Mm14 => (rr14 = 0 → P (-1 : Int32) Mm14) ∧ (¬ rr14 = 0 → s_X12_in Mm14 x3 (-1 : Int32) (999 : Int32) (fun rr25 Mm25 => (¬ rr25 = 0 → vp_in (((80 : Int32) + ((4 : Int32) * x1)) + x2) 320 ∧ (∀ x4_46 : Int32, x4_46 = (Mm25.1 44 0 (((80 : Int32) + ((4 : Int32) * x1)) + x2).toNatClampNeg) → vp_in (((80 : Int32) + ((4 : Int32) * x1)) + x2) 320 ∧ (∀ Mm61 : Mem, Mm61 = wI Mm25 44 0 ((((80 : Int32) + ((4 : Int32) * x1)) + x2).toNatClampNeg) x3 → (0 ≤ x4_46 → P x4_46 Mm61) ∧ (¬ 0 ≤ x4_46 → P (-4 : Int32) Mm61)))) ∧ (rr25 = 0 → P (-1 : Int32) Mm25))))))
abbrev rm_X12_bid : Room := { frames := 2, cells := 0, slots := 0, locals := 43 }
set_option maxHeartbeats 4000000 in
set_option maxRecDepth 100000 in
theorem c_X12_bid (l : Launch) {G : Gn} {M : Mem} {x1 : Int32} {x2 : Int32} {x3 : Int32} {P : Int32 → Mem → Prop} : MQi l yX12_bid cX12_bid 5 (some .int) rm_X12_bid [.ref (ad G 10 0), .int x1, .int x2, .int x3] G M (s_X12_bid M x1 x2 x3 P) P := by
  refine m_enter (by decide +kernel) (Nat.le_of_ble_eq_true rfl) ?_
  intro p e s m below meth c ls H locs S hret hlocks hname hK hbs hW hS hl h
  obtain ⟨AV, hAV⟩ : ∃ z : Array Value, z = ([.ref (ad G 10 0), .int x1, .int x2, .int x3] : List Value).toArray := ⟨_, rfl⟩
  rw [← hAV] at S ⊢
  replace S : CallFix p m c cX12_bid 5 s AV lw_G "MilkDeskModel" := S
  have hx := S.1
  have hb := S.2.1
  have hml := S.2.2.1
  have hown := S.2.2.2.1
  have hts := S.2.2.2.2
  replace hl : lv_has ls 5 [(0, .ref (ad G 10 0)), (1, .int x1), (2, .int x2), (3, .int x3)] := hl
  unfold s_X12_bid at h
  refine lv_aload_n hx hb dX12_bid_0 rfl (lv_at hl 0 rfl) ?_
  refine lv_iconst hx hb dX12_bid_1 ki_0 ?_
  refine m_put S hK fk_X12_128 tyX12_ok nmX12 rfl pf_X12_0 (pv_10_0 G) hW hS (ci_10 (Nat.le_of_ble_eq_true rfl)) rfl rfl dX12_bid_2 (fun Mm2 eMm2 H locs hW hS => ?_)
  replace h := h Mm2 eMm2
  refine lv_aload_n hx hb dX12_bid_5 rfl (lv_at hl 0 rfl) ?_
  refine lv_iload_n hx hb dX12_bid_6 rfl (lv_at hl 1 rfl) ?_
  refine m_ci0 (m_rV S hK hW (m_szH hbs hS) (c_X12_isDairy l ) h lk_X12_142 (m_recv hK hW (ci_10 (Nat.le_of_ble_eq_true rfl)) (rc_10 G) rfl) rfl hl.1 rfl ⟨Nat.le_of_ble_eq_true rfl, Nat.le_of_ble_eq_true rfl⟩ (Nat.le_of_ble_eq_true rfl) ⟨Nat.zero_le _, Nat.zero_le _⟩ dX12_bid_7) hS rfl rfl (fun rr7 Mm7 H locs h hW hS => ?_)
  refine lv_if_eq (tgt := 31) hx hb dX12_bid_10 (by decide) (fun c10 => ?_) (fun c10 => ?_)
  · replace h := h.1 c10
    refine lv_iconst hx hb dX12_bid_31 ki_m1 ?_
    exact m_iret S hret hlocks hK hW hbs hS rfl h dX12_bid_32
  · replace h := h.2 c10
    refine lv_iload_n hx hb dX12_bid_13 rfl (lv_at hl 2 rfl) ?_
    refine m_ci0 (m_rS S hK hW (m_szH hbs hS) (c_X12_isShire l ) h lk_X12_135 rfl hl.1 rfl ⟨Nat.le_of_ble_eq_true rfl, Nat.le_of_ble_eq_true rfl⟩ (Nat.le_of_ble_eq_true rfl) ⟨Nat.zero_le _, Nat.zero_le _⟩ dX12_bid_14) hS rfl rfl (fun rr14 Mm14 H locs h hW hS => ?_)
    refine lv_if_eq (tgt := 31) hx hb dX12_bid_17 (by decide) (fun c17 => ?_) (fun c17 => ?_)
    · replace h := h.1 c17
      refine lv_iconst hx hb dX12_bid_31 ki_m1 ?_
      exact m_iret S hret hlocks hK hW hbs hS rfl h dX12_bid_32
    · replace h := h.2 c17
      refine lv_iload_n hx hb dX12_bid_20 rfl (lv_at hl 3 rfl) ?_
      refine lv_iconst hx hb dX12_bid_21 ki_m1 ?_
      refine lv_sipush hx hb dX12_bid_22 ks_999 ?_
      refine m_ci0 (m_rS S hK hW (m_szH hbs hS) (c_X12_in l ) h lk_X12_131 rfl hl.1 rfl ⟨Nat.le_of_ble_eq_true rfl, Nat.le_of_ble_eq_true rfl⟩ (Nat.le_of_ble_eq_true rfl) ⟨Nat.zero_le _, Nat.zero_le _⟩ dX12_bid_25) hS rfl rfl (fun rr25 Mm25 H locs h hW hS => ?_)
      refine lv_if_ne (tgt := 33) hx hb dX12_bid_28 (by decide) (fun c28 => ?_) (fun c28 => ?_)
      · replace h := h.1 c28
        refine lv_aload_n hx hb dX12_bid_33 rfl (lv_at hl 0 rfl) ?_
        refine m_getr S hK fk_X12_7 (gr_10_1 G 0) hW (ci_10 (Nat.le_of_ble_eq_true rfl)) dX12_bid_34 ?_
        refine lv_bipush hx hb dX12_bid_37 kb_80 ?_
        refine lv_iconst hx hb dX12_bid_39 ki_4 ?_
        refine lv_iload_n hx hb dX12_bid_40 rfl (lv_at hl 1 rfl) ?_
        refine lv_imul hx hb dX12_bid_41 ?_
        refine lv_iadd hx hb dX12_bid_42 ?_
        refine lv_iload_n hx hb dX12_bid_43 rfl (lv_at hl 2 rfl) ?_
        refine lv_iadd hx hb dX12_bid_44 ?_
        obtain ⟨hb45, h⟩ := h
        refine m_ald S hK (ar_44 G) hW (ci_44 (Nat.le_of_ble_eq_true rfl)) hb45 dX12_bid_45 ?_
        refine lv_topi (fun x4_46 ex4_46 => ?_)
        replace h := h x4_46 ex4_46
        refine lv_istore (lv' := [(4, .int x4_46), (0, .ref (ad G 10 0)), (1, .int x1), (2, .int x2), (3, .int x3)]) hx hb dX12_bid_46 hl (by decide) rfl (fun ls hl => ?_)
        refine lv_aload_n hx hb dX12_bid_48 rfl (lv_at hl 1 rfl) ?_
        refine m_getr S hK fk_X12_7 (gr_10_1 G 0) hW (ci_10 (Nat.le_of_ble_eq_true rfl)) dX12_bid_49 ?_
        refine lv_bipush hx hb dX12_bid_52 kb_80 ?_
        refine lv_iconst hx hb dX12_bid_54 ki_4 ?_
        refine lv_iload_n hx hb dX12_bid_55 rfl (lv_at hl 2 rfl) ?_
        refine lv_imul hx hb dX12_bid_56 ?_
        refine lv_iadd hx hb dX12_bid_57 ?_
        refine lv_iload_n hx hb dX12_bid_58 rfl (lv_at hl 3 rfl) ?_
        refine lv_iadd hx hb dX12_bid_59 ?_
        refine lv_iload_n hx hb dX12_bid_60 rfl (lv_at hl 4 rfl) ?_
        obtain ⟨hb61, h⟩ := h
        refine m_ast S hK (ar_44 G) hW hS (ci_44 (Nat.le_of_ble_eq_true rfl)) hb61 dX12_bid_61 (fun Mm61 eMm61 H locs hW hS => ?_)
        replace h := h Mm61 eMm61
        refine lv_iload hx hb dX12_bid_62 (lv_at hl 0 rfl) ?_
        refine lv_if_ge (tgt := 72) hx hb dX12_bid_64 (by decide) (fun c64 => ?_) (fun c64 => ?_)
        · replace h := h.1 c64
          refine lv_iload hx hb dX12_bid_72 (lv_at hl 0 rfl) ?_
          exact m_iret S hret hlocks hK hW hbs hS rfl h dX12_bid_74
        · replace h := h.2 c64
          refine lv_bipush hx hb dX12_bid_67 kb_m4 ?_
          refine lv_goto (tgt := 74) hx hb dX12_bid_69 (by decide) ?_
          exact m_iret S hret hlocks hK hW hbs hS rfl h dX12_bid_74
      · replace h := h.2 c28
        refine lv_iconst hx hb dX12_bid_31 ki_m1 ?_
        exact m_iret S hret hlocks hK hW hbs hS rfl h dX12_bid_32
def s_X12_wonBy_62 (x1 : Int32) (P : Int32 → Mem → Prop) (K5 : Mem × Int32 × Int32 → Prop) (M : Mem) (x3 : Int32) (y0 : Int32) : Prop :=
  ∀ x3_63 : Int32, x3_63 = x3 + (1 : Int32) → K5 (M, y0, x3_63)
def s_X12_wonBy_5 (x1 : Int32) (P : Int32 → Mem → Prop) (K5 : Mem × Int32 × Int32 → Prop) (M : Mem) (x2 : Int32) (x3 : Int32) : Prop :=
  ((M.1 44 0 1) ≤ x3 → P x2 M) ∧ (¬ (M.1 44 0 1) ≤ x3 → vp_in (((80 : Int32) + ((4 : Int32) * x3)) + x1) 320 ∧ (∀ x4_28 : Int32, x4_28 = (M.1 44 0 (((80 : Int32) + ((4 : Int32) * x3)) + x1).toNatClampNeg) → (x4_28 < 0 → s_X12_wonBy_62 x1 P K5 M x3 x2) ∧ (¬ x4_28 < 0 → (x2 < 0 → s_X12_wonBy_62 x1 P K5 M x3 x3) ∧ (¬ x2 < 0 → vp_in (((80 : Int32) + ((4 : Int32) * x2)) + x1) 320 ∧ (((M.1 44 0 (((80 : Int32) + ((4 : Int32) * x2)) + x1).toNatClampNeg) ≤ x4_28 → s_X12_wonBy_62 x1 P K5 M x3 x2) ∧ (¬ (M.1 44 0 (((80 : Int32) + ((4 : Int32) * x2)) + x1).toNatClampNeg) ≤ x4_28 → s_X12_wonBy_62 x1 P K5 M x3 x3))))))
def s_X12_wonBy (M : Mem) (x1 : Int32) (P : Int32 → Mem → Prop) : Prop :=
  ∃ n, Lz (fun (K5 : Mem × Int32 × Int32 → Prop) (a : Mem × Int32 × Int32) => s_X12_wonBy_5 x1 P K5 a.1 a.2.1 a.2.2) n (M, (-4 : Int32), (0 : Int32))
abbrev rm_X12_wonBy : Room := { frames := 0, cells := 0, slots := 0, locals := 0 }
set_option maxHeartbeats 4000000 in
set_option maxRecDepth 100000 in
theorem c_X12_wonBy (l : Launch) {G : Gn} {M : Mem} {x1 : Int32} {P : Int32 → Mem → Prop} : MQi l yX12_wonBy cX12_wonBy 5 (some .int) rm_X12_wonBy [.ref (ad G 10 0), .int x1] G M (s_X12_wonBy M x1 P) P := by
  refine m_enter (by decide +kernel) (Nat.le_of_ble_eq_true rfl) ?_
  intro p e s m below meth c ls H locs S hret hlocks hname hK hbs hW hS hl h
  obtain ⟨AV, hAV⟩ : ∃ z : Array Value, z = ([.ref (ad G 10 0), .int x1] : List Value).toArray := ⟨_, rfl⟩
  rw [← hAV] at S ⊢
  replace S : CallFix p m c cX12_wonBy 5 s AV lw_G "MilkDeskModel" := S
  have hx := S.1
  have hb := S.2.1
  have hml := S.2.2.1
  have hown := S.2.2.2.1
  have hts := S.2.2.2.2
  replace hl : lv_has ls 5 [(0, .ref (ad G 10 0)), (1, .int x1)] := hl
  have w5 : ∀ (n : Nat) (a : Mem × Int32 × Int32), Lz (fun (K5 : Mem × Int32 × Int32 → Prop) (a : Mem × Int32 × Int32) => s_X12_wonBy_5 x1 P K5 a.1 a.2.1 a.2.2) n a → ∀ (H : Heap) (locs : List Loc) (ls : Array Slot), WPm G a.1 H → va_S (fun q => bs G ≤ q) s.heap H locs → lv_has ls 5 [(0, .ref (ad G 10 0)), (1, .int x1), (2, .int a.2.1), (3, .int a.2.2)] → W p l e rm_X12_wonBy s m AV below meth c H locs 0 0 (MQ below (va_Qi P (WS G) (fun q => bs G ≤ q)) AV s 0 0 (fun q => bs G ≤ q)) (F0 m 5 ls []) := by
    refine Lz_walk ?_
    rintro K5 kk5 ⟨M, x2, x3⟩ h H locs ls hW hS hl
    replace h : s_X12_wonBy_5 x1 P K5 M x2 x3 := h
    replace hW : WPm G M H := hW
    replace hl : lv_has ls 5 [(0, .ref (ad G 10 0)), (1, .int x1), (2, .int x2), (3, .int x3)] := hl
    have b62 : ∀ (M : Mem) (x3 : Int32) (y0 : Int32) (H : Heap) (locs : List Loc) (ls : Array Slot), WPm G M H → va_S (fun q => bs G ≤ q) s.heap H locs → lv_has ls 5 [(0, .ref (ad G 10 0)), (1, .int x1), (3, .int x3)] → s_X12_wonBy_62 x1 P K5 M x3 y0 → W p l e rm_X12_wonBy s m AV below meth c H locs 0 0 (MQ below (va_Qi P (WS G) (fun q => bs G ≤ q)) AV s 0 0 (fun q => bs G ≤ q)) (F0 m 62 ls [.int y0]) := by
      intro M x3 y0 H locs ls hW hS hl h
      unfold s_X12_wonBy_62 at h
      refine lv_istore_n (lv' := [(2, .int y0), (0, .ref (ad G 10 0)), (1, .int x1), (3, .int x3)]) hx hb dX12_wonBy_62 rfl hl (by decide) rfl (fun ls hl => ?_)
      obtain ⟨x3_63, ex3_63⟩ : ∃ z : Int32, z = x3 + (1 : Int32) := ⟨_, rfl⟩
      replace h := h x3_63 ex3_63
      refine lv_iinc (v := x3_63) (lv' := [(3, .int x3_63), (2, .int y0), (0, .ref (ad G 10 0)), (1, .int x1)]) hx hb dX12_wonBy_63 hl (k := 3) rfl (by rw [ex3_63, ki_1]) (by decide) rfl (fun ls hl => ?_)
      refine lv_goto (tgt := 5) hx hb dX12_wonBy_66 (by decide) ?_
      exact kk5 _ h H locs ls hW hS (lv_sub hl [2, 3, 1, 0] rfl)
    unfold s_X12_wonBy_5 at h
    refine lv_iload_n hx hb dX12_wonBy_5 rfl (lv_at hl 3 rfl) ?_
    refine lv_aload_n hx hb dX12_wonBy_6 rfl (lv_at hl 0 rfl) ?_
    refine m_getr S hK fk_X12_7 (gr_10_1 G 0) hW (ci_10 (Nat.le_of_ble_eq_true rfl)) dX12_wonBy_7 ?_
    refine lv_iconst hx hb dX12_wonBy_10 ki_1 ?_
    refine m_aldk S hK (ar_44 G) hW (ci_44 (Nat.le_of_ble_eq_true rfl)) kn_1 (Nat.le_of_ble_eq_true rfl) dX12_wonBy_11 ?_
    refine lv_icmp_ge (tgt := 69) hx hb dX12_wonBy_12 (by decide) (fun c12 => ?_) (fun c12 => ?_)
    · replace h := h.1 c12
      refine lv_iload_n hx hb dX12_wonBy_69 rfl (lv_at hl 2 rfl) ?_
      exact m_iret S hret hlocks hK hW hbs hS rfl h dX12_wonBy_70
    · replace h := h.2 c12
      refine lv_aload_n hx hb dX12_wonBy_15 rfl (lv_at hl 0 rfl) ?_
      refine m_getr S hK fk_X12_7 (gr_10_1 G 0) hW (ci_10 (Nat.le_of_ble_eq_true rfl)) dX12_wonBy_16 ?_
      refine lv_bipush hx hb dX12_wonBy_19 kb_80 ?_
      refine lv_iconst hx hb dX12_wonBy_21 ki_4 ?_
      refine lv_iload_n hx hb dX12_wonBy_22 rfl (lv_at hl 3 rfl) ?_
      refine lv_imul hx hb dX12_wonBy_23 ?_
      refine lv_iadd hx hb dX12_wonBy_24 ?_
      refine lv_iload_n hx hb dX12_wonBy_25 rfl (lv_at hl 1 rfl) ?_
      refine lv_iadd hx hb dX12_wonBy_26 ?_
      obtain ⟨hb27, h⟩ := h
      refine m_ald S hK (ar_44 G) hW (ci_44 (Nat.le_of_ble_eq_true rfl)) hb27 dX12_wonBy_27 ?_
      refine lv_topi (fun x4_28 ex4_28 => ?_)
      replace h := h x4_28 ex4_28
      refine lv_istore (lv' := [(4, .int x4_28), (0, .ref (ad G 10 0)), (1, .int x1), (2, .int x2), (3, .int x3)]) hx hb dX12_wonBy_28 hl (by decide) rfl (fun ls hl => ?_)
      refine lv_iload hx hb dX12_wonBy_30 (lv_at hl 0 rfl) ?_
      refine lv_if_lt (tgt := 61) hx hb dX12_wonBy_32 (by decide) (fun c32 => ?_) (fun c32 => ?_)
      · replace h := h.1 c32
        refine lv_iload_n hx hb dX12_wonBy_61 rfl (lv_at hl 3 rfl) ?_
        exact b62 _ _ _ H locs ls hW hS (lv_sub hl [1, 2, 4] rfl) h
      · replace h := h.2 c32
        refine lv_iload_n hx hb dX12_wonBy_35 rfl (lv_at hl 3 rfl) ?_
        refine lv_if_lt (tgt := 57) hx hb dX12_wonBy_36 (by decide) (fun c36 => ?_) (fun c36 => ?_)
        · replace h := h.1 c36
          refine lv_iload_n hx hb dX12_wonBy_57 rfl (lv_at hl 4 rfl) ?_
          refine lv_goto (tgt := 62) hx hb dX12_wonBy_58 (by decide) ?_
          exact b62 _ _ _ H locs ls hW hS (lv_sub hl [1, 2, 4] rfl) h
        · replace h := h.2 c36
          refine lv_iload hx hb dX12_wonBy_39 (lv_at hl 0 rfl) ?_
          refine lv_aload_n hx hb dX12_wonBy_41 rfl (lv_at hl 1 rfl) ?_
          refine m_getr S hK fk_X12_7 (gr_10_1 G 0) hW (ci_10 (Nat.le_of_ble_eq_true rfl)) dX12_wonBy_42 ?_
          refine lv_bipush hx hb dX12_wonBy_45 kb_80 ?_
          refine lv_iconst hx hb dX12_wonBy_47 ki_4 ?_
          refine lv_iload_n hx hb dX12_wonBy_48 rfl (lv_at hl 3 rfl) ?_
          refine lv_imul hx hb dX12_wonBy_49 ?_
          refine lv_iadd hx hb dX12_wonBy_50 ?_
          refine lv_iload_n hx hb dX12_wonBy_51 rfl (lv_at hl 2 rfl) ?_
          refine lv_iadd hx hb dX12_wonBy_52 ?_
          obtain ⟨hb53, h⟩ := h
          refine m_ald S hK (ar_44 G) hW (ci_44 (Nat.le_of_ble_eq_true rfl)) hb53 dX12_wonBy_53 ?_
          refine lv_icmp_ge (tgt := 61) hx hb dX12_wonBy_54 (by decide) (fun c54 => ?_) (fun c54 => ?_)
          · replace h := h.1 c54
            refine lv_iload_n hx hb dX12_wonBy_61 rfl (lv_at hl 3 rfl) ?_
            exact b62 _ _ _ H locs ls hW hS (lv_sub hl [1, 2, 4] rfl) h
          · replace h := h.2 c54
            refine lv_iload_n hx hb dX12_wonBy_57 rfl (lv_at hl 4 rfl) ?_
            refine lv_goto (tgt := 62) hx hb dX12_wonBy_58 (by decide) ?_
            exact b62 _ _ _ H locs ls hW hS (lv_sub hl [1, 2, 4] rfl) h
  unfold s_X12_wonBy at h
  refine lv_bipush hx hb dX12_wonBy_0 kb_m4 ?_
  refine lv_istore_n (lv' := [(2, .int (-4 : Int32)), (0, .ref (ad G 10 0)), (1, .int x1)]) hx hb dX12_wonBy_2 rfl hl (by decide) rfl (fun ls hl => ?_)
  refine lv_iconst hx hb dX12_wonBy_3 ki_0 ?_
  refine lv_istore_n (lv' := [(3, .int (0 : Int32)), (2, .int (-4 : Int32)), (0, .ref (ad G 10 0)), (1, .int x1)]) hx hb dX12_wonBy_4 rfl hl (by decide) rfl (fun ls hl => ?_)
  obtain ⟨n5, h⟩ := h
  exact w5 n5 _ h H locs ls hW hS (lv_sub hl [2, 3, 1, 0] rfl)
def s_X12_won (M : Mem) (x1 : Int32) (P : Int32 → Mem → Prop) : Prop :=
  ∀ Mm2 : Mem, Mm2 = wI M 10 0 0 (0 : Int32) → s_X12_isShire Mm2 x1 (fun rr6 Mm6 => (rr6 = 0 → P (-1 : Int32) Mm6) ∧ (¬ rr6 = 0 → s_X12_wonBy Mm6 x1 (fun rr14 Mm14 => P rr14 Mm14)))
abbrev rm_X12_won : Room := { frames := 2, cells := 0, slots := 0, locals := 42 }
set_option maxHeartbeats 4000000 in
set_option maxRecDepth 100000 in
theorem c_X12_won (l : Launch) {G : Gn} {M : Mem} {x1 : Int32} {P : Int32 → Mem → Prop} : MQi l yX12_won cX12_won 2 (some .int) rm_X12_won [.ref (ad G 10 0), .int x1] G M (s_X12_won M x1 P) P := by
  refine m_enter (by decide +kernel) (Nat.le_of_ble_eq_true rfl) ?_
  intro p e s m below meth c ls H locs S hret hlocks hname hK hbs hW hS hl h
  obtain ⟨AV, hAV⟩ : ∃ z : Array Value, z = ([.ref (ad G 10 0), .int x1] : List Value).toArray := ⟨_, rfl⟩
  rw [← hAV] at S ⊢
  replace S : CallFix p m c cX12_won 2 s AV lw_G "MilkDeskModel" := S
  have hx := S.1
  have hb := S.2.1
  have hml := S.2.2.1
  have hown := S.2.2.2.1
  have hts := S.2.2.2.2
  replace hl : lv_has ls 2 [(0, .ref (ad G 10 0)), (1, .int x1)] := hl
  unfold s_X12_won at h
  refine lv_aload_n hx hb dX12_won_0 rfl (lv_at hl 0 rfl) ?_
  refine lv_iconst hx hb dX12_won_1 ki_0 ?_
  refine m_put S hK fk_X12_128 tyX12_ok nmX12 rfl pf_X12_0 (pv_10_0 G) hW hS (ci_10 (Nat.le_of_ble_eq_true rfl)) rfl rfl dX12_won_2 (fun Mm2 eMm2 H locs hW hS => ?_)
  replace h := h Mm2 eMm2
  refine lv_iload_n hx hb dX12_won_5 rfl (lv_at hl 1 rfl) ?_
  refine m_ci0 (m_rS S hK hW (m_szH hbs hS) (c_X12_isShire l ) h lk_X12_135 rfl hl.1 rfl ⟨Nat.le_of_ble_eq_true rfl, Nat.le_of_ble_eq_true rfl⟩ (Nat.le_of_ble_eq_true rfl) ⟨Nat.zero_le _, Nat.zero_le _⟩ dX12_won_6) hS rfl rfl (fun rr6 Mm6 H locs h hW hS => ?_)
  refine lv_if_eq (tgt := 20) hx hb dX12_won_9 (by decide) (fun c9 => ?_) (fun c9 => ?_)
  · replace h := h.1 c9
    refine lv_iconst hx hb dX12_won_20 ki_m1 ?_
    exact m_iret S hret hlocks hK hW hbs hS rfl h dX12_won_21
  · replace h := h.2 c9
    refine lv_aload_n hx hb dX12_won_12 rfl (lv_at hl 0 rfl) ?_
    refine lv_iload_n hx hb dX12_won_13 rfl (lv_at hl 1 rfl) ?_
    refine m_ci0 (m_rV S hK hW (m_szH hbs hS) (c_X12_wonBy l ) h lk_X12_145 (m_recv hK hW (ci_10 (Nat.le_of_ble_eq_true rfl)) (rc_10 G) rfl) rfl hl.1 rfl ⟨Nat.le_of_ble_eq_true rfl, Nat.le_of_ble_eq_true rfl⟩ (Nat.le_of_ble_eq_true rfl) ⟨Nat.zero_le _, Nat.zero_le _⟩ dX12_won_14) hS rfl rfl (fun rr14 Mm14 H locs h hW hS => ?_)
    refine lv_goto (tgt := 21) hx hb dX12_won_17 (by decide) ?_
    exact m_iret S hret hlocks hK hW hbs hS rfl h dX12_won_21
def s_X12_bottles (M : Mem) (x1 : Int32) (P : Int32 → Mem → Prop) : Prop :=
  ∀ Mm2 : Mem, Mm2 = wI M 10 0 0 (0 : Int32) → s_X12_isDairy Mm2 x1 (fun rr7 Mm7 => (rr7 = 0 → P (-1 : Int32) Mm7) ∧ (¬ rr7 = 0 → vp_in ((70 : Int32) + x1) 320 ∧ (P (Mm7.1 44 0 ((70 : Int32) + x1).toNatClampNeg) Mm7)))
abbrev rm_X12_bottles : Room := { frames := 2, cells := 0, slots := 0, locals := 43 }
set_option maxHeartbeats 4000000 in
set_option maxRecDepth 100000 in
theorem c_X12_bottles (l : Launch) {G : Gn} {M : Mem} {x1 : Int32} {P : Int32 → Mem → Prop} : MQi l yX12_bottles cX12_bottles 2 (some .int) rm_X12_bottles [.ref (ad G 10 0), .int x1] G M (s_X12_bottles M x1 P) P := by
  refine m_enter (by decide +kernel) (Nat.le_of_ble_eq_true rfl) ?_
  intro p e s m below meth c ls H locs S hret hlocks hname hK hbs hW hS hl h
  obtain ⟨AV, hAV⟩ : ∃ z : Array Value, z = ([.ref (ad G 10 0), .int x1] : List Value).toArray := ⟨_, rfl⟩
  rw [← hAV] at S ⊢
  replace S : CallFix p m c cX12_bottles 2 s AV lw_G "MilkDeskModel" := S
  have hx := S.1
  have hb := S.2.1
  have hml := S.2.2.1
  have hown := S.2.2.2.1
  have hts := S.2.2.2.2
  replace hl : lv_has ls 2 [(0, .ref (ad G 10 0)), (1, .int x1)] := hl
  unfold s_X12_bottles at h
  refine lv_aload_n hx hb dX12_bottles_0 rfl (lv_at hl 0 rfl) ?_
  refine lv_iconst hx hb dX12_bottles_1 ki_0 ?_
  refine m_put S hK fk_X12_128 tyX12_ok nmX12 rfl pf_X12_0 (pv_10_0 G) hW hS (ci_10 (Nat.le_of_ble_eq_true rfl)) rfl rfl dX12_bottles_2 (fun Mm2 eMm2 H locs hW hS => ?_)
  replace h := h Mm2 eMm2
  refine lv_aload_n hx hb dX12_bottles_5 rfl (lv_at hl 0 rfl) ?_
  refine lv_iload_n hx hb dX12_bottles_6 rfl (lv_at hl 1 rfl) ?_
  refine m_ci0 (m_rV S hK hW (m_szH hbs hS) (c_X12_isDairy l ) h lk_X12_142 (m_recv hK hW (ci_10 (Nat.le_of_ble_eq_true rfl)) (rc_10 G) rfl) rfl hl.1 rfl ⟨Nat.le_of_ble_eq_true rfl, Nat.le_of_ble_eq_true rfl⟩ (Nat.le_of_ble_eq_true rfl) ⟨Nat.zero_le _, Nat.zero_le _⟩ dX12_bottles_7) hS rfl rfl (fun rr7 Mm7 H locs h hW hS => ?_)
  refine lv_if_eq (tgt := 25) hx hb dX12_bottles_10 (by decide) (fun c10 => ?_) (fun c10 => ?_)
  · replace h := h.1 c10
    refine lv_iconst hx hb dX12_bottles_25 ki_m1 ?_
    exact m_iret S hret hlocks hK hW hbs hS rfl h dX12_bottles_26
  · replace h := h.2 c10
    refine lv_aload_n hx hb dX12_bottles_13 rfl (lv_at hl 0 rfl) ?_
    refine m_getr S hK fk_X12_7 (gr_10_1 G 0) hW (ci_10 (Nat.le_of_ble_eq_true rfl)) dX12_bottles_14 ?_
    refine lv_bipush hx hb dX12_bottles_17 kb_70 ?_
    refine lv_iload_n hx hb dX12_bottles_19 rfl (lv_at hl 1 rfl) ?_
    refine lv_iadd hx hb dX12_bottles_20 ?_
    obtain ⟨hb21, h⟩ := h
    refine m_ald S hK (ar_44 G) hW (ci_44 (Nat.le_of_ble_eq_true rfl)) hb21 dX12_bottles_21 ?_
    refine lv_goto (tgt := 26) hx hb dX12_bottles_22 (by decide) ?_
    exact m_iret S hret hlocks hK hW hbs hS rfl h dX12_bottles_26
def s_X12_month_77 (x1 : Int32) (x3 : Int32) (P : Int32 → Mem → Prop) (M : Mem) (y0 : Int32) : Prop :=
  ∀ x4_79 : Int32, x4_79 = (y0 + x1) → vp_in x4_79 320 ∧ (∀ x5_88 : Int32, x5_88 = (M.1 44 0 x4_79.toNatClampNeg) → vp_in x4_79 320 ∧ (∀ Mm97 : Mem, Mm97 = wI M 44 0 (x4_79.toNatClampNeg) x3 → P x5_88 Mm97))
def s_X12_month_47 (x1 : Int32) (x2 : Int32) (x3 : Int32) (P : Int32 → Mem → Prop) (M : Mem) (y0 : Int32) (y1 : Int32) (y2 : Int32) : Prop :=
  s_X12_in M y2 y1 y0 (fun rr47 Mm47 => (¬ rr47 = 0 → (¬ x2 = 0 → (¬ x2 = (1 : Int32) → s_X12_month_77 x1 x3 P Mm47 (140 : Int32)) ∧ (x2 = (1 : Int32) → s_X12_month_77 x1 x3 P Mm47 (120 : Int32))) ∧ (x2 = 0 → s_X12_month_77 x1 x3 P Mm47 (100 : Int32))) ∧ (rr47 = 0 → P (-1 : Int32) Mm47))
def s_X12_month (M : Mem) (x1 : Int32) (x2 : Int32) (x3 : Int32) (P : Int32 → Mem → Prop) : Prop :=
  ∀ Mm2 : Mem, Mm2 = wI M 10 0 0 (0 : Int32) → s_X12_in Mm2 x1 (0 : Int32) (11 : Int32) (fun rr9 Mm9 => (rr9 = 0 → P (-1 : Int32) Mm9) ∧ (¬ rr9 = 0 → s_X12_in Mm9 x2 (0 : Int32) (2 : Int32) (fun rr18 Mm18 => (rr18 = 0 → P (-1 : Int32) Mm18) ∧ (¬ rr18 = 0 → (¬ x2 = 0 → (¬ x2 = (1 : Int32) → s_X12_month_47 x1 x2 x3 P Mm18 (99999 : Int32) (0 : Int32) x3) ∧ (x2 = (1 : Int32) → s_X12_month_47 x1 x2 x3 P Mm18 (99 : Int32) (0 : Int32) x3)) ∧ (x2 = 0 → s_X12_month_47 x1 x2 x3 P Mm18 (100 : Int32) (0 : Int32) x3)))))
abbrev rm_X12_month : Room := { frames := 1, cells := 0, slots := 0, locals := 22 }
set_option maxHeartbeats 4000000 in
set_option maxRecDepth 100000 in
theorem c_X12_month (l : Launch) {G : Gn} {M : Mem} {x1 : Int32} {x2 : Int32} {x3 : Int32} {P : Int32 → Mem → Prop} : MQi l yX12_month cX12_month 6 (some .int) rm_X12_month [.ref (ad G 10 0), .int x1, .int x2, .int x3] G M (s_X12_month M x1 x2 x3 P) P := by
  refine m_enter (by decide +kernel) (Nat.le_of_ble_eq_true rfl) ?_
  intro p e s m below meth c ls H locs S hret hlocks hname hK hbs hW hS hl h
  obtain ⟨AV, hAV⟩ : ∃ z : Array Value, z = ([.ref (ad G 10 0), .int x1, .int x2, .int x3] : List Value).toArray := ⟨_, rfl⟩
  rw [← hAV] at S ⊢
  replace S : CallFix p m c cX12_month 6 s AV lw_G "MilkDeskModel" := S
  have hx := S.1
  have hb := S.2.1
  have hml := S.2.2.1
  have hown := S.2.2.2.1
  have hts := S.2.2.2.2
  replace hl : lv_has ls 6 [(0, .ref (ad G 10 0)), (1, .int x1), (2, .int x2), (3, .int x3)] := hl
  have b77 : ∀ (M : Mem) (y0 : Int32) (H : Heap) (locs : List Loc) (ls : Array Slot), WPm G M H → va_S (fun q => bs G ≤ q) s.heap H locs → lv_has ls 6 [(0, .ref (ad G 10 0)), (1, .int x1), (3, .int x3)] → s_X12_month_77 x1 x3 P M y0 → W p l e rm_X12_month s m AV below meth c H locs 0 0 (MQ below (va_Qi P (WS G) (fun q => bs G ≤ q)) AV s 0 0 (fun q => bs G ≤ q)) (F0 m 77 ls [.int y0]) := by
    intro M y0 H locs ls hW hS hl h
    unfold s_X12_month_77 at h
    refine lv_iload_n hx hb dX12_month_77 rfl (lv_at hl 1 rfl) ?_
    refine lv_iadd hx hb dX12_month_78 ?_
    refine lv_topi (fun x4_79 ex4_79 => ?_)
    replace h := h x4_79 ex4_79
    refine lv_istore (lv' := [(4, .int x4_79), (0, .ref (ad G 10 0)), (1, .int x1), (3, .int x3)]) hx hb dX12_month_79 hl (by decide) rfl (fun ls hl => ?_)
    refine lv_aload_n hx hb dX12_month_81 rfl (lv_at hl 1 rfl) ?_
    refine m_getr S hK fk_X12_7 (gr_10_1 G 0) hW (ci_10 (Nat.le_of_ble_eq_true rfl)) dX12_month_82 ?_
    refine lv_iload hx hb dX12_month_85 (lv_at hl 0 rfl) ?_
    obtain ⟨hb87, h⟩ := h
    refine m_ald S hK (ar_44 G) hW (ci_44 (Nat.le_of_ble_eq_true rfl)) hb87 dX12_month_87 ?_
    refine lv_topi (fun x5_88 ex5_88 => ?_)
    replace h := h x5_88 ex5_88
    refine lv_istore (lv' := [(5, .int x5_88), (4, .int x4_79), (0, .ref (ad G 10 0)), (1, .int x1), (3, .int x3)]) hx hb dX12_month_88 hl (by decide) rfl (fun ls hl => ?_)
    refine lv_aload_n hx hb dX12_month_90 rfl (lv_at hl 2 rfl) ?_
    refine m_getr S hK fk_X12_7 (gr_10_1 G 0) hW (ci_10 (Nat.le_of_ble_eq_true rfl)) dX12_month_91 ?_
    refine lv_iload hx hb dX12_month_94 (lv_at hl 1 rfl) ?_
    refine lv_iload_n hx hb dX12_month_96 rfl (lv_at hl 4 rfl) ?_
    obtain ⟨hb97, h⟩ := h
    refine m_ast S hK (ar_44 G) hW hS (ci_44 (Nat.le_of_ble_eq_true rfl)) hb97 dX12_month_97 (fun Mm97 eMm97 H locs hW hS => ?_)
    replace h := h Mm97 eMm97
    refine lv_iload hx hb dX12_month_98 (lv_at hl 0 rfl) ?_
    exact m_iret S hret hlocks hK hW hbs hS rfl h dX12_month_100
  have b47 : ∀ (M : Mem) (y0 : Int32) (y1 : Int32) (y2 : Int32) (H : Heap) (locs : List Loc) (ls : Array Slot), WPm G M H → va_S (fun q => bs G ≤ q) s.heap H locs → lv_has ls 6 [(0, .ref (ad G 10 0)), (1, .int x1), (2, .int x2), (3, .int x3)] → s_X12_month_47 x1 x2 x3 P M y0 y1 y2 → W p l e rm_X12_month s m AV below meth c H locs 0 0 (MQ below (va_Qi P (WS G) (fun q => bs G ≤ q)) AV s 0 0 (fun q => bs G ≤ q)) (F0 m 47 ls [.int y0, .int y1, .int y2]) := by
    intro M y0 y1 y2 H locs ls hW hS hl h
    unfold s_X12_month_47 at h
    refine m_ci0 (m_rS S hK hW (m_szH hbs hS) (c_X12_in l ) h lk_X12_131 rfl hl.1 rfl ⟨Nat.le_of_ble_eq_true rfl, Nat.le_of_ble_eq_true rfl⟩ (Nat.le_of_ble_eq_true rfl) ⟨Nat.zero_le _, Nat.zero_le _⟩ dX12_month_47) hS rfl rfl (fun rr47 Mm47 H locs h hW hS => ?_)
    refine lv_if_ne (tgt := 55) hx hb dX12_month_50 (by decide) (fun c50 => ?_) (fun c50 => ?_)
    · replace h := h.1 c50
      refine lv_iload_n hx hb dX12_month_55 rfl (lv_at hl 2 rfl) ?_
      refine lv_if_ne (tgt := 64) hx hb dX12_month_56 (by decide) (fun c56 => ?_) (fun c56 => ?_)
      · replace h := h.1 c56
        refine lv_iload_n hx hb dX12_month_64 rfl (lv_at hl 2 rfl) ?_
        refine lv_iconst hx hb dX12_month_65 ki_1 ?_
        refine lv_icmp_ne (tgt := 74) hx hb dX12_month_66 (by decide) (fun c66 => ?_) (fun c66 => ?_)
        · replace h := h.1 c66
          refine lv_sipush hx hb dX12_month_74 ks_140 ?_
          exact b77 _ _ H locs ls hW hS (lv_sub hl [0, 1, 3] rfl) h
        · replace h := h.2 c66
          refine lv_bipush hx hb dX12_month_69 kb_120 ?_
          refine lv_goto (tgt := 77) hx hb dX12_month_71 (by decide) ?_
          exact b77 _ _ H locs ls hW hS (lv_sub hl [0, 1, 3] rfl) h
      · replace h := h.2 c56
        refine lv_bipush hx hb dX12_month_59 kb_100 ?_
        refine lv_goto (tgt := 77) hx hb dX12_month_61 (by decide) ?_
        exact b77 _ _ H locs ls hW hS (lv_sub hl [0, 1, 3] rfl) h
    · replace h := h.2 c50
      refine lv_iconst hx hb dX12_month_53 ki_m1 ?_
      exact m_iret S hret hlocks hK hW hbs hS rfl h dX12_month_54
  unfold s_X12_month at h
  refine lv_aload_n hx hb dX12_month_0 rfl (lv_at hl 0 rfl) ?_
  refine lv_iconst hx hb dX12_month_1 ki_0 ?_
  refine m_put S hK fk_X12_128 tyX12_ok nmX12 rfl pf_X12_0 (pv_10_0 G) hW hS (ci_10 (Nat.le_of_ble_eq_true rfl)) rfl rfl dX12_month_2 (fun Mm2 eMm2 H locs hW hS => ?_)
  replace h := h Mm2 eMm2
  refine lv_iload_n hx hb dX12_month_5 rfl (lv_at hl 1 rfl) ?_
  refine lv_iconst hx hb dX12_month_6 ki_0 ?_
  refine lv_bipush hx hb dX12_month_7 kb_11 ?_
  refine m_ci0 (m_rS S hK hW (m_szH hbs hS) (c_X12_in l ) h lk_X12_131 rfl hl.1 rfl ⟨Nat.le_of_ble_eq_true rfl, Nat.le_of_ble_eq_true rfl⟩ (Nat.le_of_ble_eq_true rfl) ⟨Nat.zero_le _, Nat.zero_le _⟩ dX12_month_9) hS rfl rfl (fun rr9 Mm9 H locs h hW hS => ?_)
  refine lv_if_eq (tgt := 53) hx hb dX12_month_12 (by decide) (fun c12 => ?_) (fun c12 => ?_)
  · replace h := h.1 c12
    refine lv_iconst hx hb dX12_month_53 ki_m1 ?_
    exact m_iret S hret hlocks hK hW hbs hS rfl h dX12_month_54
  · replace h := h.2 c12
    refine lv_iload_n hx hb dX12_month_15 rfl (lv_at hl 2 rfl) ?_
    refine lv_iconst hx hb dX12_month_16 ki_0 ?_
    refine lv_iconst hx hb dX12_month_17 ki_2 ?_
    refine m_ci0 (m_rS S hK hW (m_szH hbs hS) (c_X12_in l ) h lk_X12_131 rfl hl.1 rfl ⟨Nat.le_of_ble_eq_true rfl, Nat.le_of_ble_eq_true rfl⟩ (Nat.le_of_ble_eq_true rfl) ⟨Nat.zero_le _, Nat.zero_le _⟩ dX12_month_18) hS rfl rfl (fun rr18 Mm18 H locs h hW hS => ?_)
    refine lv_if_eq (tgt := 53) hx hb dX12_month_21 (by decide) (fun c21 => ?_) (fun c21 => ?_)
    · replace h := h.1 c21
      refine lv_iconst hx hb dX12_month_53 ki_m1 ?_
      exact m_iret S hret hlocks hK hW hbs hS rfl h dX12_month_54
    · replace h := h.2 c21
      refine lv_iload_n hx hb dX12_month_24 rfl (lv_at hl 3 rfl) ?_
      refine lv_iconst hx hb dX12_month_25 ki_0 ?_
      refine lv_iload_n hx hb dX12_month_26 rfl (lv_at hl 2 rfl) ?_
      refine lv_if_ne (tgt := 35) hx hb dX12_month_27 (by decide) (fun c27 => ?_) (fun c27 => ?_)
      · replace h := h.1 c27
        refine lv_iload_n hx hb dX12_month_35 rfl (lv_at hl 2 rfl) ?_
        refine lv_iconst hx hb dX12_month_36 ki_1 ?_
        refine lv_icmp_ne (tgt := 45) hx hb dX12_month_37 (by decide) (fun c37 => ?_) (fun c37 => ?_)
        · replace h := h.1 c37
          refine lv_ldc hx hb hown (hts _ mw_1140) dX12_month_45 ?_
          exact b47 _ _ _ _ H locs ls hW hS (lv_sub hl [0, 1, 2, 3] rfl) h
        · replace h := h.2 c37
          refine lv_bipush hx hb dX12_month_40 kb_99 ?_
          refine lv_goto (tgt := 47) hx hb dX12_month_42 (by decide) ?_
          exact b47 _ _ _ _ H locs ls hW hS (lv_sub hl [0, 1, 2, 3] rfl) h
      · replace h := h.2 c27
        refine lv_bipush hx hb dX12_month_30 kb_100 ?_
        refine lv_goto (tgt := 47) hx hb dX12_month_32 (by decide) ?_
        exact b47 _ _ _ _ H locs ls hW hS (lv_sub hl [0, 1, 2, 3] rfl) h
def s_X12_headOf_62 (x1 : Int32) (x2 : Int32) (x3 : Int32) (x4 : Int32) (P : Int32 → Mem → Prop) (K13 : Mem × Int32 × Int32 → Prop) (M : Mem) (x6 : Int32) (y0 : Int32) : Prop :=
  (y0 = 0 → ∀ x6_97 : Int32, x6_97 = x6 + (-1 : Int32) → K13 (M, y0, x6_97)) ∧ (¬ y0 = 0 → vp_in (((12 : Int32) * x6) + x1) 192 ∧ (((M.1 56 0 (((12 : Int32) * x6) + x1).toNatClampNeg) < 0 → ∀ x6_97 : Int32, x6_97 = x6 + (-1 : Int32) → K13 (M, y0, x6_97)) ∧ (¬ (M.1 56 0 (((12 : Int32) * x6) + x1).toNatClampNeg) < 0 → vp_in (((12 : Int32) * x6) + x1) 192 ∧ (P (M.1 56 0 (((12 : Int32) * x6) + x1).toNatClampNeg) M))))
def s_X12_headOf_13 (x1 : Int32) (x2 : Int32) (x3 : Int32) (x4 : Int32) (P : Int32 → Mem → Prop) (K13 : Mem × Int32 × Int32 → Prop) (M : Mem) (x5 : Int32) (x6 : Int32) : Prop :=
  (x6 < 0 → P (0 : Int32) M) ∧ (¬ x6 < 0 → vp_in x6 16 ∧ ((¬ (M.1 53 0 x6.toNatClampNeg) = x2 → ∀ x6_97 : Int32, x6_97 = x6 + (-1 : Int32) → K13 (M, x5, x6_97)) ∧ ((M.1 53 0 x6.toNatClampNeg) = x2 → (¬ x5 = 0 → s_X12_headOf_62 x1 x2 x3 x4 P K13 M x6 (1 : Int32)) ∧ (x5 = 0 → vp_in x6 16 ∧ ((x3 < (M.1 55 0 x6.toNatClampNeg) → s_X12_headOf_62 x1 x2 x3 x4 P K13 M x6 (0 : Int32)) ∧ (¬ x3 < (M.1 55 0 x6.toNatClampNeg) → vp_in x6 16 ∧ ((x4 < (M.1 54 0 x6.toNatClampNeg) → s_X12_headOf_62 x1 x2 x3 x4 P K13 M x6 (0 : Int32)) ∧ (¬ x4 < (M.1 54 0 x6.toNatClampNeg) → s_X12_headOf_62 x1 x2 x3 x4 P K13 M x6 (1 : Int32)))))))))
def s_X12_headOf (M : Mem) (x1 : Int32) (x2 : Int32) (x3 : Int32) (x4 : Int32) (P : Int32 → Mem → Prop) : Prop :=
  ∀ x6_11 : Int32, x6_11 = ((M.1 44 0 5) - (1 : Int32)) → ∃ n, Lz (fun (K13 : Mem × Int32 × Int32 → Prop) (a : Mem × Int32 × Int32) => s_X12_headOf_13 x1 x2 x3 x4 P K13 a.1 a.2.1 a.2.2) n (M, (0 : Int32), x6_11)
abbrev rm_X12_headOf : Room := { frames := 0, cells := 0, slots := 0, locals := 0 }
set_option maxHeartbeats 4000000 in
set_option maxRecDepth 100000 in
theorem c_X12_headOf (l : Launch) {G : Gn} {M : Mem} {x1 : Int32} {x2 : Int32} {x3 : Int32} {x4 : Int32} {P : Int32 → Mem → Prop} : MQi l yX12_headOf cX12_headOf 7 (some .int) rm_X12_headOf [.ref (ad G 10 0), .int x1, .int x2, .int x3, .int x4] G M (s_X12_headOf M x1 x2 x3 x4 P) P := by
  refine m_enter (by decide +kernel) (Nat.le_of_ble_eq_true rfl) ?_
  intro p e s m below meth c ls H locs S hret hlocks hname hK hbs hW hS hl h
  obtain ⟨AV, hAV⟩ : ∃ z : Array Value, z = ([.ref (ad G 10 0), .int x1, .int x2, .int x3, .int x4] : List Value).toArray := ⟨_, rfl⟩
  rw [← hAV] at S ⊢
  replace S : CallFix p m c cX12_headOf 7 s AV lw_G "MilkDeskModel" := S
  have hx := S.1
  have hb := S.2.1
  have hml := S.2.2.1
  have hown := S.2.2.2.1
  have hts := S.2.2.2.2
  replace hl : lv_has ls 7 [(0, .ref (ad G 10 0)), (1, .int x1), (2, .int x2), (3, .int x3), (4, .int x4)] := hl
  have w13 : ∀ (n : Nat) (a : Mem × Int32 × Int32), Lz (fun (K13 : Mem × Int32 × Int32 → Prop) (a : Mem × Int32 × Int32) => s_X12_headOf_13 x1 x2 x3 x4 P K13 a.1 a.2.1 a.2.2) n a → ∀ (H : Heap) (locs : List Loc) (ls : Array Slot), WPm G a.1 H → va_S (fun q => bs G ≤ q) s.heap H locs → lv_has ls 7 [(0, .ref (ad G 10 0)), (1, .int x1), (2, .int x2), (3, .int x3), (4, .int x4), (5, .int a.2.1), (6, .int a.2.2)] → W p l e rm_X12_headOf s m AV below meth c H locs 0 0 (MQ below (va_Qi P (WS G) (fun q => bs G ≤ q)) AV s 0 0 (fun q => bs G ≤ q)) (F0 m 13 ls []) := by
    refine Lz_walk ?_
    rintro K13 kk13 ⟨M, x5, x6⟩ h H locs ls hW hS hl
    replace h : s_X12_headOf_13 x1 x2 x3 x4 P K13 M x5 x6 := h
    replace hW : WPm G M H := hW
    replace hl : lv_has ls 7 [(0, .ref (ad G 10 0)), (1, .int x1), (2, .int x2), (3, .int x3), (4, .int x4), (5, .int x5), (6, .int x6)] := hl
    have b62 : ∀ (M : Mem) (x6 : Int32) (y0 : Int32) (H : Heap) (locs : List Loc) (ls : Array Slot), WPm G M H → va_S (fun q => bs G ≤ q) s.heap H locs → lv_has ls 7 [(0, .ref (ad G 10 0)), (1, .int x1), (2, .int x2), (3, .int x3), (4, .int x4), (6, .int x6)] → s_X12_headOf_62 x1 x2 x3 x4 P K13 M x6 y0 → W p l e rm_X12_headOf s m AV below meth c H locs 0 0 (MQ below (va_Qi P (WS G) (fun q => bs G ≤ q)) AV s 0 0 (fun q => bs G ≤ q)) (F0 m 62 ls [.int y0]) := by
      intro M x6 y0 H locs ls hW hS hl h
      unfold s_X12_headOf_62 at h
      refine lv_istore (lv' := [(5, .int y0), (0, .ref (ad G 10 0)), (1, .int x1), (2, .int x2), (3, .int x3), (4, .int x4), (6, .int x6)]) hx hb dX12_headOf_62 hl (by decide) rfl (fun ls hl => ?_)
      refine lv_iload hx hb dX12_headOf_64 (lv_at hl 0 rfl) ?_
      refine lv_if_eq (tgt := 97) hx hb dX12_headOf_66 (by decide) (fun c66 => ?_) (fun c66 => ?_)
      · replace h := h.1 c66
        obtain ⟨x6_97, ex6_97⟩ : ∃ z : Int32, z = x6 + (-1 : Int32) := ⟨_, rfl⟩
        replace h := h x6_97 ex6_97
        refine lv_iinc (v := x6_97) (lv' := [(6, .int x6_97), (5, .int y0), (0, .ref (ad G 10 0)), (1, .int x1), (2, .int x2), (3, .int x3), (4, .int x4)]) hx hb dX12_headOf_97 hl (k := 6) rfl (by rw [ex6_97, ki_m1]) (by decide) rfl (fun ls hl => ?_)
        refine lv_goto (tgt := 13) hx hb dX12_headOf_100 (by decide) ?_
        exact kk13 _ h H locs ls hW hS (lv_sub hl [2, 3, 4, 5, 6, 1, 0] rfl)
      · replace h := h.2 c66
        refine lv_aload_n hx hb dX12_headOf_69 rfl (lv_at hl 1 rfl) ?_
        refine m_getr S hK fk_X12_46 (gr_10_14 G 0) hW (ci_10 (Nat.le_of_ble_eq_true rfl)) dX12_headOf_70 ?_
        refine lv_bipush hx hb dX12_headOf_73 kb_12 ?_
        refine lv_iload hx hb dX12_headOf_75 (lv_at hl 6 rfl) ?_
        refine lv_imul hx hb dX12_headOf_77 ?_
        refine lv_iload_n hx hb dX12_headOf_78 rfl (lv_at hl 2 rfl) ?_
        refine lv_iadd hx hb dX12_headOf_79 ?_
        obtain ⟨hb80, h⟩ := h
        refine m_ald S hK (ar_56 G) hW (ci_56 (Nat.le_of_ble_eq_true rfl)) hb80 dX12_headOf_80 ?_
        refine lv_if_lt (tgt := 97) hx hb dX12_headOf_81 (by decide) (fun c81 => ?_) (fun c81 => ?_)
        · replace h := h.1 c81
          obtain ⟨x6_97, ex6_97⟩ : ∃ z : Int32, z = x6 + (-1 : Int32) := ⟨_, rfl⟩
          replace h := h x6_97 ex6_97
          refine lv_iinc (v := x6_97) (lv' := [(6, .int x6_97), (5, .int y0), (0, .ref (ad G 10 0)), (1, .int x1), (2, .int x2), (3, .int x3), (4, .int x4)]) hx hb dX12_headOf_97 hl (k := 6) rfl (by rw [ex6_97, ki_m1]) (by decide) rfl (fun ls hl => ?_)
          refine lv_goto (tgt := 13) hx hb dX12_headOf_100 (by decide) ?_
          exact kk13 _ h H locs ls hW hS (lv_sub hl [2, 3, 4, 5, 6, 1, 0] rfl)
        · replace h := h.2 c81
          refine lv_aload_n hx hb dX12_headOf_84 rfl (lv_at hl 1 rfl) ?_
          refine m_getr S hK fk_X12_46 (gr_10_14 G 0) hW (ci_10 (Nat.le_of_ble_eq_true rfl)) dX12_headOf_85 ?_
          refine lv_bipush hx hb dX12_headOf_88 kb_12 ?_
          refine lv_iload hx hb dX12_headOf_90 (lv_at hl 6 rfl) ?_
          refine lv_imul hx hb dX12_headOf_92 ?_
          refine lv_iload_n hx hb dX12_headOf_93 rfl (lv_at hl 2 rfl) ?_
          refine lv_iadd hx hb dX12_headOf_94 ?_
          obtain ⟨hb95, h⟩ := h
          refine m_ald S hK (ar_56 G) hW (ci_56 (Nat.le_of_ble_eq_true rfl)) hb95 dX12_headOf_95 ?_
          exact m_iret S hret hlocks hK hW hbs hS rfl h dX12_headOf_96
    unfold s_X12_headOf_13 at h
    refine lv_iload hx hb dX12_headOf_13 (lv_at hl 6 rfl) ?_
    refine lv_if_lt (tgt := 103) hx hb dX12_headOf_15 (by decide) (fun c15 => ?_) (fun c15 => ?_)
    · replace h := h.1 c15
      refine lv_iconst hx hb dX12_headOf_103 ki_0 ?_
      exact m_iret S hret hlocks hK hW hbs hS rfl h dX12_headOf_104
    · replace h := h.2 c15
      refine lv_aload_n hx hb dX12_headOf_18 rfl (lv_at hl 0 rfl) ?_
      refine m_getr S hK fk_X12_37 (gr_10_11 G 0) hW (ci_10 (Nat.le_of_ble_eq_true rfl)) dX12_headOf_19 ?_
      refine lv_iload hx hb dX12_headOf_22 (lv_at hl 6 rfl) ?_
      obtain ⟨hb24, h⟩ := h
      refine m_ald S hK (ar_53 G) hW (ci_53 (Nat.le_of_ble_eq_true rfl)) hb24 dX12_headOf_24 ?_
      refine lv_iload_n hx hb dX12_headOf_25 rfl (lv_at hl 2 rfl) ?_
      refine lv_icmp_ne (tgt := 97) hx hb dX12_headOf_26 (by decide) (fun c26 => ?_) (fun c26 => ?_)
      · replace h := h.1 c26
        obtain ⟨x6_97, ex6_97⟩ : ∃ z : Int32, z = x6 + (-1 : Int32) := ⟨_, rfl⟩
        replace h := h x6_97 ex6_97
        refine lv_iinc (v := x6_97) (lv' := [(6, .int x6_97), (0, .ref (ad G 10 0)), (1, .int x1), (2, .int x2), (3, .int x3), (4, .int x4), (5, .int x5)]) hx hb dX12_headOf_97 hl (k := 6) rfl (by rw [ex6_97, ki_m1]) (by decide) rfl (fun ls hl => ?_)
        refine lv_goto (tgt := 13) hx hb dX12_headOf_100 (by decide) ?_
        exact kk13 _ h H locs ls hW hS (lv_sub hl [1, 2, 3, 4, 5, 6, 0] rfl)
      · replace h := h.2 c26
        refine lv_iload hx hb dX12_headOf_29 (lv_at hl 5 rfl) ?_
        refine lv_if_ne (tgt := 57) hx hb dX12_headOf_31 (by decide) (fun c31 => ?_) (fun c31 => ?_)
        · replace h := h.1 c31
          refine lv_iconst hx hb dX12_headOf_57 ki_1 ?_
          refine lv_goto (tgt := 62) hx hb dX12_headOf_58 (by decide) ?_
          exact b62 _ _ _ H locs ls hW hS (lv_sub hl [0, 1, 2, 3, 4, 6] rfl) h
        · replace h := h.2 c31
          refine lv_aload_n hx hb dX12_headOf_34 rfl (lv_at hl 0 rfl) ?_
          refine m_getr S hK fk_X12_43 (gr_10_13 G 0) hW (ci_10 (Nat.le_of_ble_eq_true rfl)) dX12_headOf_35 ?_
          refine lv_iload hx hb dX12_headOf_38 (lv_at hl 6 rfl) ?_
          obtain ⟨hb40, h⟩ := h
          refine m_ald S hK (ar_55 G) hW (ci_55 (Nat.le_of_ble_eq_true rfl)) hb40 dX12_headOf_40 ?_
          refine lv_iload_n hx hb dX12_headOf_41 rfl (lv_at hl 3 rfl) ?_
          refine lv_icmp_gt (tgt := 61) hx hb dX12_headOf_42 (by decide) (fun c42 => ?_) (fun c42 => ?_)
          · replace h := h.1 c42
            refine lv_iconst hx hb dX12_headOf_61 ki_0 ?_
            exact b62 _ _ _ H locs ls hW hS (lv_sub hl [0, 1, 2, 3, 4, 6] rfl) h
          · replace h := h.2 c42
            refine lv_aload_n hx hb dX12_headOf_45 rfl (lv_at hl 0 rfl) ?_
            refine m_getr S hK fk_X12_40 (gr_10_12 G 0) hW (ci_10 (Nat.le_of_ble_eq_true rfl)) dX12_headOf_46 ?_
            refine lv_iload hx hb dX12_headOf_49 (lv_at hl 6 rfl) ?_
            obtain ⟨hb51, h⟩ := h
            refine m_ald S hK (ar_54 G) hW (ci_54 (Nat.le_of_ble_eq_true rfl)) hb51 dX12_headOf_51 ?_
            refine lv_iload hx hb dX12_headOf_52 (lv_at hl 4 rfl) ?_
            refine lv_icmp_gt (tgt := 61) hx hb dX12_headOf_54 (by decide) (fun c54 => ?_) (fun c54 => ?_)
            · replace h := h.1 c54
              refine lv_iconst hx hb dX12_headOf_61 ki_0 ?_
              exact b62 _ _ _ H locs ls hW hS (lv_sub hl [0, 1, 2, 3, 4, 6] rfl) h
            · replace h := h.2 c54
              refine lv_iconst hx hb dX12_headOf_57 ki_1 ?_
              refine lv_goto (tgt := 62) hx hb dX12_headOf_58 (by decide) ?_
              exact b62 _ _ _ H locs ls hW hS (lv_sub hl [0, 1, 2, 3, 4, 6] rfl) h
  unfold s_X12_headOf at h
  refine lv_iconst hx hb dX12_headOf_0 ki_0 ?_
  refine lv_istore (lv' := [(5, .int (0 : Int32)), (0, .ref (ad G 10 0)), (1, .int x1), (2, .int x2), (3, .int x3), (4, .int x4)]) hx hb dX12_headOf_1 hl (by decide) rfl (fun ls hl => ?_)
  refine lv_aload_n hx hb dX12_headOf_3 rfl (lv_at hl 1 rfl) ?_
  refine m_getr S hK fk_X12_7 (gr_10_1 G 0) hW (ci_10 (Nat.le_of_ble_eq_true rfl)) dX12_headOf_4 ?_
  refine lv_iconst hx hb dX12_headOf_7 ki_5 ?_
  refine m_aldk S hK (ar_44 G) hW (ci_44 (Nat.le_of_ble_eq_true rfl)) kn_5 (Nat.le_of_ble_eq_true rfl) dX12_headOf_8 ?_
  refine lv_iconst hx hb dX12_headOf_9 ki_1 ?_
  refine lv_isub hx hb dX12_headOf_10 ?_
  refine lv_topi (fun x6_11 ex6_11 => ?_)
  replace h := h x6_11 ex6_11
  refine lv_istore (lv' := [(6, .int x6_11), (5, .int (0 : Int32)), (0, .ref (ad G 10 0)), (1, .int x1), (2, .int x2), (3, .int x3), (4, .int x4)]) hx hb dX12_headOf_11 hl (by decide) rfl (fun ls hl => ?_)
  obtain ⟨n13, h⟩ := h
  exact w13 n13 _ h H locs ls hW hS (lv_sub hl [2, 3, 4, 5, 6, 1, 0] rfl)
def s_X12_headsOf (M : Mem) (x1 : Int32) (x2 : Int32) (P : Int32 → Mem → Prop) : Prop :=
  s_X12_headOf M x1 (0 : Int32) x2 (400 : Int32) (fun rr7 Mm7 => s_X12_headOf Mm7 x1 (1 : Int32) x2 (400 : Int32) (fun rr17 Mm17 => s_X12_headOf Mm17 x1 (2 : Int32) x2 (400 : Int32) (fun rr28 Mm28 => P ((rr7 + rr17) + rr28) Mm28)))
abbrev rm_X12_headsOf : Room := { frames := 1, cells := 0, slots := 0, locals := 26 }
set_option maxHeartbeats 4000000 in
set_option maxRecDepth 100000 in
theorem c_X12_headsOf (l : Launch) {G : Gn} {M : Mem} {x1 : Int32} {x2 : Int32} {P : Int32 → Mem → Prop} : MQi l yX12_headsOf cX12_headsOf 3 (some .int) rm_X12_headsOf [.ref (ad G 10 0), .int x1, .int x2] G M (s_X12_headsOf M x1 x2 P) P := by
  refine m_enter (by decide +kernel) (Nat.le_of_ble_eq_true rfl) ?_
  intro p e s m below meth c ls H locs S hret hlocks hname hK hbs hW hS hl h
  obtain ⟨AV, hAV⟩ : ∃ z : Array Value, z = ([.ref (ad G 10 0), .int x1, .int x2] : List Value).toArray := ⟨_, rfl⟩
  rw [← hAV] at S ⊢
  replace S : CallFix p m c cX12_headsOf 3 s AV lw_G "MilkDeskModel" := S
  have hx := S.1
  have hb := S.2.1
  have hml := S.2.2.1
  have hown := S.2.2.2.1
  have hts := S.2.2.2.2
  replace hl : lv_has ls 3 [(0, .ref (ad G 10 0)), (1, .int x1), (2, .int x2)] := hl
  unfold s_X12_headsOf at h
  refine lv_aload_n hx hb dX12_headsOf_0 rfl (lv_at hl 0 rfl) ?_
  refine lv_iload_n hx hb dX12_headsOf_1 rfl (lv_at hl 1 rfl) ?_
  refine lv_iconst hx hb dX12_headsOf_2 ki_0 ?_
  refine lv_iload_n hx hb dX12_headsOf_3 rfl (lv_at hl 2 rfl) ?_
  refine lv_sipush hx hb dX12_headsOf_4 ks_400 ?_
  refine m_ci0 (m_rV S hK hW (m_szH hbs hS) (c_X12_headOf l ) h lk_X12_160 (m_recv hK hW (ci_10 (Nat.le_of_ble_eq_true rfl)) (rc_10 G) rfl) rfl hl.1 rfl ⟨Nat.le_of_ble_eq_true rfl, Nat.le_of_ble_eq_true rfl⟩ (Nat.le_of_ble_eq_true rfl) ⟨Nat.zero_le _, Nat.zero_le _⟩ dX12_headsOf_7) hS rfl rfl (fun rr7 Mm7 H locs h hW hS => ?_)
  refine lv_aload_n hx hb dX12_headsOf_10 rfl (lv_at hl 0 rfl) ?_
  refine lv_iload_n hx hb dX12_headsOf_11 rfl (lv_at hl 1 rfl) ?_
  refine lv_iconst hx hb dX12_headsOf_12 ki_1 ?_
  refine lv_iload_n hx hb dX12_headsOf_13 rfl (lv_at hl 2 rfl) ?_
  refine lv_sipush hx hb dX12_headsOf_14 ks_400 ?_
  refine m_ci0 (m_rV S hK hW (m_szH hbs hS) (c_X12_headOf l ) h lk_X12_160 (m_recv hK hW (ci_10 (Nat.le_of_ble_eq_true rfl)) (rc_10 G) rfl) rfl hl.1 rfl ⟨Nat.le_of_ble_eq_true rfl, Nat.le_of_ble_eq_true rfl⟩ (Nat.le_of_ble_eq_true rfl) ⟨Nat.zero_le _, Nat.zero_le _⟩ dX12_headsOf_17) hS rfl rfl (fun rr17 Mm17 H locs h hW hS => ?_)
  refine lv_iadd hx hb dX12_headsOf_20 ?_
  refine lv_aload_n hx hb dX12_headsOf_21 rfl (lv_at hl 0 rfl) ?_
  refine lv_iload_n hx hb dX12_headsOf_22 rfl (lv_at hl 1 rfl) ?_
  refine lv_iconst hx hb dX12_headsOf_23 ki_2 ?_
  refine lv_iload_n hx hb dX12_headsOf_24 rfl (lv_at hl 2 rfl) ?_
  refine lv_sipush hx hb dX12_headsOf_25 ks_400 ?_
  refine m_ci0 (m_rV S hK hW (m_szH hbs hS) (c_X12_headOf l ) h lk_X12_160 (m_recv hK hW (ci_10 (Nat.le_of_ble_eq_true rfl)) (rc_10 G) rfl) rfl hl.1 rfl ⟨Nat.le_of_ble_eq_true rfl, Nat.le_of_ble_eq_true rfl⟩ (Nat.le_of_ble_eq_true rfl) ⟨Nat.zero_le _, Nat.zero_le _⟩ dX12_headsOf_28) hS rfl rfl (fun rr28 Mm28 H locs h hW hS => ?_)
  refine lv_iadd hx hb dX12_headsOf_31 ?_
  exact m_iret S hret hlocks hK hW hbs hS rfl h dX12_headsOf_32
def s_X12_head (M : Mem) (x1 : Int32) (x2 : Int32) (x3 : Int32) (x4 : Int32) (P : Int32 → Mem → Prop) : Prop :=
  ∀ Mm2 : Mem, Mm2 = wI M 10 0 0 (0 : Int32) → s_X12_isSchool Mm2 x1 (fun rr7 Mm7 => (rr7 = 0 → P (-1 : Int32) Mm7) ∧ (¬ rr7 = 0 → s_X12_isAge Mm7 x2 (fun rr14 Mm14 => (rr14 = 0 → P (-1 : Int32) Mm14) ∧ (¬ rr14 = 0 → s_X12_isDay Mm14 x3 (fun rr21 Mm21 => (rr21 = 0 → P (-1 : Int32) Mm21) ∧ (¬ rr21 = 0 → s_X12_isDay Mm21 x4 (fun rr29 Mm29 => (rr29 = 0 → P (-1 : Int32) Mm29) ∧ (¬ rr29 = 0 → s_X12_headOf Mm29 x1 x2 x3 x4 (fun rr41 Mm41 => P rr41 Mm41)))))))))
abbrev rm_X12_head : Room := { frames := 2, cells := 0, slots := 0, locals := 43 }
set_option maxHeartbeats 4000000 in
set_option maxRecDepth 100000 in
theorem c_X12_head (l : Launch) {G : Gn} {M : Mem} {x1 : Int32} {x2 : Int32} {x3 : Int32} {x4 : Int32} {P : Int32 → Mem → Prop} : MQi l yX12_head cX12_head 5 (some .int) rm_X12_head [.ref (ad G 10 0), .int x1, .int x2, .int x3, .int x4] G M (s_X12_head M x1 x2 x3 x4 P) P := by
  refine m_enter (by decide +kernel) (Nat.le_of_ble_eq_true rfl) ?_
  intro p e s m below meth c ls H locs S hret hlocks hname hK hbs hW hS hl h
  obtain ⟨AV, hAV⟩ : ∃ z : Array Value, z = ([.ref (ad G 10 0), .int x1, .int x2, .int x3, .int x4] : List Value).toArray := ⟨_, rfl⟩
  rw [← hAV] at S ⊢
  replace S : CallFix p m c cX12_head 5 s AV lw_G "MilkDeskModel" := S
  have hx := S.1
  have hb := S.2.1
  have hml := S.2.2.1
  have hown := S.2.2.2.1
  have hts := S.2.2.2.2
  replace hl : lv_has ls 5 [(0, .ref (ad G 10 0)), (1, .int x1), (2, .int x2), (3, .int x3), (4, .int x4)] := hl
  unfold s_X12_head at h
  refine lv_aload_n hx hb dX12_head_0 rfl (lv_at hl 0 rfl) ?_
  refine lv_iconst hx hb dX12_head_1 ki_0 ?_
  refine m_put S hK fk_X12_128 tyX12_ok nmX12 rfl pf_X12_0 (pv_10_0 G) hW hS (ci_10 (Nat.le_of_ble_eq_true rfl)) rfl rfl dX12_head_2 (fun Mm2 eMm2 H locs hW hS => ?_)
  replace h := h Mm2 eMm2
  refine lv_aload_n hx hb dX12_head_5 rfl (lv_at hl 0 rfl) ?_
  refine lv_iload_n hx hb dX12_head_6 rfl (lv_at hl 1 rfl) ?_
  refine m_ci0 (m_rV S hK hW (m_szH hbs hS) (c_X12_isSchool l ) h lk_X12_139 (m_recv hK hW (ci_10 (Nat.le_of_ble_eq_true rfl)) (rc_10 G) rfl) rfl hl.1 rfl ⟨Nat.le_of_ble_eq_true rfl, Nat.le_of_ble_eq_true rfl⟩ (Nat.le_of_ble_eq_true rfl) ⟨Nat.zero_le _, Nat.zero_le _⟩ dX12_head_7) hS rfl rfl (fun rr7 Mm7 H locs h hW hS => ?_)
  refine lv_if_eq (tgt := 47) hx hb dX12_head_10 (by decide) (fun c10 => ?_) (fun c10 => ?_)
  · replace h := h.1 c10
    refine lv_iconst hx hb dX12_head_47 ki_m1 ?_
    exact m_iret S hret hlocks hK hW hbs hS rfl h dX12_head_48
  · replace h := h.2 c10
    refine lv_iload_n hx hb dX12_head_13 rfl (lv_at hl 2 rfl) ?_
    refine m_ci0 (m_rS S hK hW (m_szH hbs hS) (c_X12_isAge l ) h lk_X12_149 rfl hl.1 rfl ⟨Nat.le_of_ble_eq_true rfl, Nat.le_of_ble_eq_true rfl⟩ (Nat.le_of_ble_eq_true rfl) ⟨Nat.zero_le _, Nat.zero_le _⟩ dX12_head_14) hS rfl rfl (fun rr14 Mm14 H locs h hW hS => ?_)
    refine lv_if_eq (tgt := 47) hx hb dX12_head_17 (by decide) (fun c17 => ?_) (fun c17 => ?_)
    · replace h := h.1 c17
      refine lv_iconst hx hb dX12_head_47 ki_m1 ?_
      exact m_iret S hret hlocks hK hW hbs hS rfl h dX12_head_48
    · replace h := h.2 c17
      refine lv_iload_n hx hb dX12_head_20 rfl (lv_at hl 3 rfl) ?_
      refine m_ci0 (m_rS S hK hW (m_szH hbs hS) (c_X12_isDay l ) h lk_X12_164 rfl hl.1 rfl ⟨Nat.le_of_ble_eq_true rfl, Nat.le_of_ble_eq_true rfl⟩ (Nat.le_of_ble_eq_true rfl) ⟨Nat.zero_le _, Nat.zero_le _⟩ dX12_head_21) hS rfl rfl (fun rr21 Mm21 H locs h hW hS => ?_)
      refine lv_if_eq (tgt := 47) hx hb dX12_head_24 (by decide) (fun c24 => ?_) (fun c24 => ?_)
      · replace h := h.1 c24
        refine lv_iconst hx hb dX12_head_47 ki_m1 ?_
        exact m_iret S hret hlocks hK hW hbs hS rfl h dX12_head_48
      · replace h := h.2 c24
        refine lv_iload hx hb dX12_head_27 (lv_at hl 4 rfl) ?_
        refine m_ci0 (m_rS S hK hW (m_szH hbs hS) (c_X12_isDay l ) h lk_X12_164 rfl hl.1 rfl ⟨Nat.le_of_ble_eq_true rfl, Nat.le_of_ble_eq_true rfl⟩ (Nat.le_of_ble_eq_true rfl) ⟨Nat.zero_le _, Nat.zero_le _⟩ dX12_head_29) hS rfl rfl (fun rr29 Mm29 H locs h hW hS => ?_)
        refine lv_if_eq (tgt := 47) hx hb dX12_head_32 (by decide) (fun c32 => ?_) (fun c32 => ?_)
        · replace h := h.1 c32
          refine lv_iconst hx hb dX12_head_47 ki_m1 ?_
          exact m_iret S hret hlocks hK hW hbs hS rfl h dX12_head_48
        · replace h := h.2 c32
          refine lv_aload_n hx hb dX12_head_35 rfl (lv_at hl 0 rfl) ?_
          refine lv_iload_n hx hb dX12_head_36 rfl (lv_at hl 1 rfl) ?_
          refine lv_iload_n hx hb dX12_head_37 rfl (lv_at hl 2 rfl) ?_
          refine lv_iload_n hx hb dX12_head_38 rfl (lv_at hl 3 rfl) ?_
          refine lv_iload hx hb dX12_head_39 (lv_at hl 4 rfl) ?_
          refine m_ci0 (m_rV S hK hW (m_szH hbs hS) (c_X12_headOf l ) h lk_X12_160 (m_recv hK hW (ci_10 (Nat.le_of_ble_eq_true rfl)) (rc_10 G) rfl) rfl hl.1 rfl ⟨Nat.le_of_ble_eq_true rfl, Nat.le_of_ble_eq_true rfl⟩ (Nat.le_of_ble_eq_true rfl) ⟨Nat.zero_le _, Nat.zero_le _⟩ dX12_head_41) hS rfl rfl (fun rr41 Mm41 H locs h hW hS => ?_)
          refine lv_goto (tgt := 48) hx hb dX12_head_44 (by decide) ?_
          exact m_iret S hret hlocks hK hW hbs hS rfl h dX12_head_48
def s_X12_here (M : Mem) (P : Int32 → Mem → Prop) : Prop :=
  ((M.1 10 0 26) < (M.1 10 0 25) → ((M.1 10 0 23) = 0 → vp_in ((M.1 10 0 24) + (M.1 10 0 26)) 1280 ∧ (P (M.1 57 0 ((M.1 10 0 24) + (M.1 10 0 26)).toNatClampNeg) M)) ∧ (¬ (M.1 10 0 23) = 0 → vp_in ((M.1 10 0 24) + (M.1 10 0 26)) 640 ∧ (P (((M.2.1 78 0 ((M.1 10 0 24) + (M.1 10 0 26)).toNatClampNeg).toInt32) &&& (255 : Int32)) M))) ∧ (¬ (M.1 10 0 26) < (M.1 10 0 25) → P (-1 : Int32) M)
abbrev rm_X12_here : Room := { frames := 0, cells := 0, slots := 0, locals := 0 }
set_option maxHeartbeats 4000000 in
set_option maxRecDepth 100000 in
theorem c_X12_here (l : Launch) {G : Gn} {M : Mem} {P : Int32 → Mem → Prop} : MQi l yX12_here cX12_here 1 (some .int) rm_X12_here [.ref (ad G 10 0)] G M (s_X12_here M P) P := by
  refine m_enter (by decide +kernel) (Nat.le_of_ble_eq_true rfl) ?_
  intro p e s m below meth c ls H locs S hret hlocks hname hK hbs hW hS hl h
  obtain ⟨AV, hAV⟩ : ∃ z : Array Value, z = ([.ref (ad G 10 0)] : List Value).toArray := ⟨_, rfl⟩
  rw [← hAV] at S ⊢
  replace S : CallFix p m c cX12_here 1 s AV lw_G "MilkDeskModel" := S
  have hx := S.1
  have hb := S.2.1
  have hml := S.2.2.1
  have hown := S.2.2.2.1
  have hts := S.2.2.2.2
  replace hl : lv_has ls 1 [(0, .ref (ad G 10 0))] := hl
  unfold s_X12_here at h
  refine lv_aload_n hx hb dX12_here_0 rfl (lv_at hl 0 rfl) ?_
  refine m_geti S hK fk_X12_167 (gi_10_26 G) hW (ci_10 (Nat.le_of_ble_eq_true rfl)) dX12_here_1 ?_
  refine lv_aload_n hx hb dX12_here_4 rfl (lv_at hl 0 rfl) ?_
  refine m_geti S hK fk_X12_170 (gi_10_25 G) hW (ci_10 (Nat.le_of_ble_eq_true rfl)) dX12_here_5 ?_
  refine lv_icmp_lt (tgt := 15) hx hb dX12_here_8 (by decide) (fun c8 => ?_) (fun c8 => ?_)
  · replace h := h.1 c8
    refine lv_aload_n hx hb dX12_here_15 rfl (lv_at hl 0 rfl) ?_
    refine m_geti S hK fk_X12_173 (gi_10_23 G) hW (ci_10 (Nat.le_of_ble_eq_true rfl)) dX12_here_16 ?_
    refine lv_if_eq (tgt := 44) hx hb dX12_here_19 (by decide) (fun c19 => ?_) (fun c19 => ?_)
    · replace h := h.1 c19
      refine lv_aload_n hx hb dX12_here_44 rfl (lv_at hl 0 rfl) ?_
      refine m_getr S hK fk_X12_49 (gr_10_15 G 0) hW (ci_10 (Nat.le_of_ble_eq_true rfl)) dX12_here_45 ?_
      refine lv_aload_n hx hb dX12_here_48 rfl (lv_at hl 0 rfl) ?_
      refine m_geti S hK fk_X12_177 (gi_10_24 G) hW (ci_10 (Nat.le_of_ble_eq_true rfl)) dX12_here_49 ?_
      refine lv_aload_n hx hb dX12_here_52 rfl (lv_at hl 0 rfl) ?_
      refine m_geti S hK fk_X12_167 (gi_10_26 G) hW (ci_10 (Nat.le_of_ble_eq_true rfl)) dX12_here_53 ?_
      refine lv_iadd hx hb dX12_here_56 ?_
      obtain ⟨hb57, h⟩ := h
      refine m_ald S hK (ar_57 G) hW (ci_57 (Nat.le_of_ble_eq_true rfl)) hb57 dX12_here_57 ?_
      exact m_iret S hret hlocks hK hW hbs hS rfl h dX12_here_58
    · replace h := h.2 c19
      refine lv_aload_n hx hb dX12_here_22 rfl (lv_at hl 0 rfl) ?_
      refine m_getr S hK fk_X12_120 (gr_10_51 G 0) hW (ci_10 (Nat.le_of_ble_eq_true rfl)) dX12_here_23 ?_
      refine lv_aload_n hx hb dX12_here_26 rfl (lv_at hl 0 rfl) ?_
      refine m_geti S hK fk_X12_177 (gi_10_24 G) hW (ci_10 (Nat.le_of_ble_eq_true rfl)) dX12_here_27 ?_
      refine lv_aload_n hx hb dX12_here_30 rfl (lv_at hl 0 rfl) ?_
      refine m_geti S hK fk_X12_167 (gi_10_26 G) hW (ci_10 (Nat.le_of_ble_eq_true rfl)) dX12_here_31 ?_
      refine lv_iadd hx hb dX12_here_34 ?_
      obtain ⟨hb35, h⟩ := h
      refine m_jald S hK (ar_78 G) hW (ci_78 (Nat.le_of_ble_eq_true rfl)) hb35 dX12_here_35 ?_
      refine lv_l2i hx hb dX12_here_36 rfl ?_
      refine lv_sipush hx hb dX12_here_37 ks_255 ?_
      refine lv_iand hx hb dX12_here_40 ?_
      refine lv_goto (tgt := 58) hx hb dX12_here_41 (by decide) ?_
      exact m_iret S hret hlocks hK hW hbs hS rfl h dX12_here_58
  · replace h := h.2 c8
    refine lv_iconst hx hb dX12_here_11 ki_m1 ?_
    refine lv_goto (tgt := 58) hx hb dX12_here_12 (by decide) ?_
    exact m_iret S hret hlocks hK hW hbs hS rfl h dX12_here_58
def s_X12_monthOf (M : Mem) (x0 : Int32) (P : Int32 → Mem → Prop) : Prop :=
  P ((x0 / (30 : Int32)) - (x0 / (30 : Int32)) / (12 : Int32) * (12 : Int32)) M
abbrev rm_X12_monthOf : Room := { frames := 0, cells := 0, slots := 0, locals := 0 }
set_option maxHeartbeats 4000000 in
set_option maxRecDepth 100000 in
theorem c_X12_monthOf (l : Launch) {G : Gn} {M : Mem} {x0 : Int32} {P : Int32 → Mem → Prop} : MQi l yX12_monthOf cX12_monthOf 1 (some .int) rm_X12_monthOf [.int x0] G M (s_X12_monthOf M x0 P) P := by
  refine m_enter (by decide +kernel) (Nat.le_of_ble_eq_true rfl) ?_
  intro p e s m below meth c ls H locs S hret hlocks hname hK hbs hW hS hl h
  obtain ⟨AV, hAV⟩ : ∃ z : Array Value, z = ([.int x0] : List Value).toArray := ⟨_, rfl⟩
  rw [← hAV] at S ⊢
  replace S : CallFix p m c cX12_monthOf 1 s AV lw_G "MilkDeskModel" := S
  have hx := S.1
  have hb := S.2.1
  have hml := S.2.2.1
  have hown := S.2.2.2.1
  have hts := S.2.2.2.2
  replace hl : lv_has ls 1 [(0, .int x0)] := hl
  unfold s_X12_monthOf at h
  refine lv_iload_n hx hb dX12_monthOf_0 rfl (lv_at hl 0 rfl) ?_
  refine lv_bipush hx hb dX12_monthOf_1 kb_30 ?_
  refine lv_idiv hx hb dX12_monthOf_3 nz_30 ?_
  refine lv_bipush hx hb dX12_monthOf_4 kb_12 ?_
  refine lv_irem hx hb dX12_monthOf_6 nz_12 ?_
  exact m_iret S hret hlocks hK hW hbs hS rfl h dX12_monthOf_7
def s_X12_isField (M : Mem) (x0 : Int32) (P : Int32 → Mem → Prop) : Prop :=
  (x0 = (97 : Int32) → P (1 : Int32) M) ∧ ((x0 = (98 : Int32) → P (0 : Int32) M) ∧ ((x0 = (99 : Int32) → P (1 : Int32) M) ∧ ((x0 = (100 : Int32) → P (1 : Int32) M) ∧ ((x0 = (101 : Int32) → P (0 : Int32) M) ∧ ((x0 = (102 : Int32) → P (0 : Int32) M) ∧ ((x0 = (103 : Int32) → P (0 : Int32) M) ∧ ((x0 = (104 : Int32) → P (1 : Int32) M) ∧ ((x0 = (105 : Int32) → P (0 : Int32) M) ∧ ((x0 = (106 : Int32) → P (0 : Int32) M) ∧ ((x0 = (107 : Int32) → P (0 : Int32) M) ∧ ((x0 = (108 : Int32) → P (0 : Int32) M) ∧ ((x0 = (109 : Int32) → P (1 : Int32) M) ∧ ((x0 = (110 : Int32) → P (1 : Int32) M) ∧ ((x0 = (111 : Int32) → P (0 : Int32) M) ∧ ((x0 = (112 : Int32) → P (0 : Int32) M) ∧ ((x0 = (113 : Int32) → P (0 : Int32) M) ∧ ((x0 = (114 : Int32) → P (0 : Int32) M) ∧ ((x0 = (115 : Int32) → P (1 : Int32) M) ∧ ((x0 = (116 : Int32) → P (0 : Int32) M) ∧ ((x0 = (117 : Int32) → P (0 : Int32) M) ∧ ((x0 = (118 : Int32) → P (0 : Int32) M) ∧ ((x0 = (119 : Int32) → P (1 : Int32) M) ∧ ((x0 = (120 : Int32) → P (1 : Int32) M) ∧ ((x0 = (121 : Int32) → P (1 : Int32) M) ∧ ((¬ x0 = (97 : Int32) → ¬ x0 = (98 : Int32) → ¬ x0 = (99 : Int32) → ¬ x0 = (100 : Int32) → ¬ x0 = (101 : Int32) → ¬ x0 = (102 : Int32) → ¬ x0 = (103 : Int32) → ¬ x0 = (104 : Int32) → ¬ x0 = (105 : Int32) → ¬ x0 = (106 : Int32) → ¬ x0 = (107 : Int32) → ¬ x0 = (108 : Int32) → ¬ x0 = (109 : Int32) → ¬ x0 = (110 : Int32) → ¬ x0 = (111 : Int32) → ¬ x0 = (112 : Int32) → ¬ x0 = (113 : Int32) → ¬ x0 = (114 : Int32) → ¬ x0 = (115 : Int32) → ¬ x0 = (116 : Int32) → ¬ x0 = (117 : Int32) → ¬ x0 = (118 : Int32) → ¬ x0 = (119 : Int32) → ¬ x0 = (120 : Int32) → ¬ x0 = (121 : Int32) → P (0 : Int32) M))))))))))))))))))))))))))
abbrev rm_X12_isField : Room := { frames := 0, cells := 0, slots := 0, locals := 0 }
set_option maxHeartbeats 4000000 in
set_option maxRecDepth 100000 in
theorem c_X12_isField (l : Launch) {G : Gn} {M : Mem} {x0 : Int32} {P : Int32 → Mem → Prop} : MQi l yX12_isField cX12_isField 1 (some .boolean) rm_X12_isField [.int x0] G M (s_X12_isField M x0 P) P := by
  refine m_enter (by decide +kernel) (Nat.le_of_ble_eq_true rfl) ?_
  intro p e s m below meth c ls H locs S hret hlocks hname hK hbs hW hS hl h
  obtain ⟨AV, hAV⟩ : ∃ z : Array Value, z = ([.int x0] : List Value).toArray := ⟨_, rfl⟩
  rw [← hAV] at S ⊢
  replace S : CallFix p m c cX12_isField 1 s AV lw_G "MilkDeskModel" := S
  have hx := S.1
  have hb := S.2.1
  have hml := S.2.2.1
  have hown := S.2.2.2.1
  have hts := S.2.2.2.2
  replace hl : lv_has ls 1 [(0, .int x0)] := hl
  unfold s_X12_isField at h
  refine lv_iload_n hx hb dX12_isField_0 rfl (lv_at hl 0 rfl) ?_
  by_cases c1_0 : x0 = (97 : Int32)
  · replace h := h.1 c1_0
    rw [c1_0]
    refine lv_tableIn (off := 115) (tgt := 116) hx hb dX12_isField_1 (by decide +kernel) (by decide +kernel) (by decide +kernel) (by decide) ?_
    refine lv_iconst hx hb dX12_isField_116 ki_1 ?_
    exact m_iret S hret hlocks hK hW hbs hS rfl h dX12_isField_117
  · replace h := h.2
    by_cases c1_1 : x0 = (98 : Int32)
    · replace h := h.1 c1_1
      rw [c1_1]
      refine lv_tableIn (off := 117) (tgt := 118) hx hb dX12_isField_1 (by decide +kernel) (by decide +kernel) (by decide +kernel) (by decide) ?_
      refine lv_iconst hx hb dX12_isField_118 ki_0 ?_
      exact m_iret S hret hlocks hK hW hbs hS rfl h dX12_isField_119
    · replace h := h.2
      by_cases c1_2 : x0 = (99 : Int32)
      · replace h := h.1 c1_2
        rw [c1_2]
        refine lv_tableIn (off := 115) (tgt := 116) hx hb dX12_isField_1 (by decide +kernel) (by decide +kernel) (by decide +kernel) (by decide) ?_
        refine lv_iconst hx hb dX12_isField_116 ki_1 ?_
        exact m_iret S hret hlocks hK hW hbs hS rfl h dX12_isField_117
      · replace h := h.2
        by_cases c1_3 : x0 = (100 : Int32)
        · replace h := h.1 c1_3
          rw [c1_3]
          refine lv_tableIn (off := 115) (tgt := 116) hx hb dX12_isField_1 (by decide +kernel) (by decide +kernel) (by decide +kernel) (by decide) ?_
          refine lv_iconst hx hb dX12_isField_116 ki_1 ?_
          exact m_iret S hret hlocks hK hW hbs hS rfl h dX12_isField_117
        · replace h := h.2
          by_cases c1_4 : x0 = (101 : Int32)
          · replace h := h.1 c1_4
            rw [c1_4]
            refine lv_tableIn (off := 117) (tgt := 118) hx hb dX12_isField_1 (by decide +kernel) (by decide +kernel) (by decide +kernel) (by decide) ?_
            refine lv_iconst hx hb dX12_isField_118 ki_0 ?_
            exact m_iret S hret hlocks hK hW hbs hS rfl h dX12_isField_119
          · replace h := h.2
            by_cases c1_5 : x0 = (102 : Int32)
            · replace h := h.1 c1_5
              rw [c1_5]
              refine lv_tableIn (off := 117) (tgt := 118) hx hb dX12_isField_1 (by decide +kernel) (by decide +kernel) (by decide +kernel) (by decide) ?_
              refine lv_iconst hx hb dX12_isField_118 ki_0 ?_
              exact m_iret S hret hlocks hK hW hbs hS rfl h dX12_isField_119
            · replace h := h.2
              by_cases c1_6 : x0 = (103 : Int32)
              · replace h := h.1 c1_6
                rw [c1_6]
                refine lv_tableIn (off := 117) (tgt := 118) hx hb dX12_isField_1 (by decide +kernel) (by decide +kernel) (by decide +kernel) (by decide) ?_
                refine lv_iconst hx hb dX12_isField_118 ki_0 ?_
                exact m_iret S hret hlocks hK hW hbs hS rfl h dX12_isField_119
              · replace h := h.2
                by_cases c1_7 : x0 = (104 : Int32)
                · replace h := h.1 c1_7
                  rw [c1_7]
                  refine lv_tableIn (off := 115) (tgt := 116) hx hb dX12_isField_1 (by decide +kernel) (by decide +kernel) (by decide +kernel) (by decide) ?_
                  refine lv_iconst hx hb dX12_isField_116 ki_1 ?_
                  exact m_iret S hret hlocks hK hW hbs hS rfl h dX12_isField_117
                · replace h := h.2
                  by_cases c1_8 : x0 = (105 : Int32)
                  · replace h := h.1 c1_8
                    rw [c1_8]
                    refine lv_tableIn (off := 117) (tgt := 118) hx hb dX12_isField_1 (by decide +kernel) (by decide +kernel) (by decide +kernel) (by decide) ?_
                    refine lv_iconst hx hb dX12_isField_118 ki_0 ?_
                    exact m_iret S hret hlocks hK hW hbs hS rfl h dX12_isField_119
                  · replace h := h.2
                    by_cases c1_9 : x0 = (106 : Int32)
                    · replace h := h.1 c1_9
                      rw [c1_9]
                      refine lv_tableIn (off := 117) (tgt := 118) hx hb dX12_isField_1 (by decide +kernel) (by decide +kernel) (by decide +kernel) (by decide) ?_
                      refine lv_iconst hx hb dX12_isField_118 ki_0 ?_
                      exact m_iret S hret hlocks hK hW hbs hS rfl h dX12_isField_119
                    · replace h := h.2
                      by_cases c1_10 : x0 = (107 : Int32)
                      · replace h := h.1 c1_10
                        rw [c1_10]
                        refine lv_tableIn (off := 117) (tgt := 118) hx hb dX12_isField_1 (by decide +kernel) (by decide +kernel) (by decide +kernel) (by decide) ?_
                        refine lv_iconst hx hb dX12_isField_118 ki_0 ?_
                        exact m_iret S hret hlocks hK hW hbs hS rfl h dX12_isField_119
                      · replace h := h.2
                        by_cases c1_11 : x0 = (108 : Int32)
                        · replace h := h.1 c1_11
                          rw [c1_11]
                          refine lv_tableIn (off := 117) (tgt := 118) hx hb dX12_isField_1 (by decide +kernel) (by decide +kernel) (by decide +kernel) (by decide) ?_
                          refine lv_iconst hx hb dX12_isField_118 ki_0 ?_
                          exact m_iret S hret hlocks hK hW hbs hS rfl h dX12_isField_119
                        · replace h := h.2
                          by_cases c1_12 : x0 = (109 : Int32)
                          · replace h := h.1 c1_12
                            rw [c1_12]
                            refine lv_tableIn (off := 115) (tgt := 116) hx hb dX12_isField_1 (by decide +kernel) (by decide +kernel) (by decide +kernel) (by decide) ?_
                            refine lv_iconst hx hb dX12_isField_116 ki_1 ?_
                            exact m_iret S hret hlocks hK hW hbs hS rfl h dX12_isField_117
                          · replace h := h.2
                            by_cases c1_13 : x0 = (110 : Int32)
                            · replace h := h.1 c1_13
                              rw [c1_13]
                              refine lv_tableIn (off := 115) (tgt := 116) hx hb dX12_isField_1 (by decide +kernel) (by decide +kernel) (by decide +kernel) (by decide) ?_
                              refine lv_iconst hx hb dX12_isField_116 ki_1 ?_
                              exact m_iret S hret hlocks hK hW hbs hS rfl h dX12_isField_117
                            · replace h := h.2
                              by_cases c1_14 : x0 = (111 : Int32)
                              · replace h := h.1 c1_14
                                rw [c1_14]
                                refine lv_tableIn (off := 117) (tgt := 118) hx hb dX12_isField_1 (by decide +kernel) (by decide +kernel) (by decide +kernel) (by decide) ?_
                                refine lv_iconst hx hb dX12_isField_118 ki_0 ?_
                                exact m_iret S hret hlocks hK hW hbs hS rfl h dX12_isField_119
                              · replace h := h.2
                                by_cases c1_15 : x0 = (112 : Int32)
                                · replace h := h.1 c1_15
                                  rw [c1_15]
                                  refine lv_tableIn (off := 117) (tgt := 118) hx hb dX12_isField_1 (by decide +kernel) (by decide +kernel) (by decide +kernel) (by decide) ?_
                                  refine lv_iconst hx hb dX12_isField_118 ki_0 ?_
                                  exact m_iret S hret hlocks hK hW hbs hS rfl h dX12_isField_119
                                · replace h := h.2
                                  by_cases c1_16 : x0 = (113 : Int32)
                                  · replace h := h.1 c1_16
                                    rw [c1_16]
                                    refine lv_tableIn (off := 117) (tgt := 118) hx hb dX12_isField_1 (by decide +kernel) (by decide +kernel) (by decide +kernel) (by decide) ?_
                                    refine lv_iconst hx hb dX12_isField_118 ki_0 ?_
                                    exact m_iret S hret hlocks hK hW hbs hS rfl h dX12_isField_119
                                  · replace h := h.2
                                    by_cases c1_17 : x0 = (114 : Int32)
                                    · replace h := h.1 c1_17
                                      rw [c1_17]
                                      refine lv_tableIn (off := 117) (tgt := 118) hx hb dX12_isField_1 (by decide +kernel) (by decide +kernel) (by decide +kernel) (by decide) ?_
                                      refine lv_iconst hx hb dX12_isField_118 ki_0 ?_
                                      exact m_iret S hret hlocks hK hW hbs hS rfl h dX12_isField_119
                                    · replace h := h.2
                                      by_cases c1_18 : x0 = (115 : Int32)
                                      · replace h := h.1 c1_18
                                        rw [c1_18]
                                        refine lv_tableIn (off := 115) (tgt := 116) hx hb dX12_isField_1 (by decide +kernel) (by decide +kernel) (by decide +kernel) (by decide) ?_
                                        refine lv_iconst hx hb dX12_isField_116 ki_1 ?_
                                        exact m_iret S hret hlocks hK hW hbs hS rfl h dX12_isField_117
                                      · replace h := h.2
                                        by_cases c1_19 : x0 = (116 : Int32)
                                        · replace h := h.1 c1_19
                                          rw [c1_19]
                                          refine lv_tableIn (off := 117) (tgt := 118) hx hb dX12_isField_1 (by decide +kernel) (by decide +kernel) (by decide +kernel) (by decide) ?_
                                          refine lv_iconst hx hb dX12_isField_118 ki_0 ?_
                                          exact m_iret S hret hlocks hK hW hbs hS rfl h dX12_isField_119
                                        · replace h := h.2
                                          by_cases c1_20 : x0 = (117 : Int32)
                                          · replace h := h.1 c1_20
                                            rw [c1_20]
                                            refine lv_tableIn (off := 117) (tgt := 118) hx hb dX12_isField_1 (by decide +kernel) (by decide +kernel) (by decide +kernel) (by decide) ?_
                                            refine lv_iconst hx hb dX12_isField_118 ki_0 ?_
                                            exact m_iret S hret hlocks hK hW hbs hS rfl h dX12_isField_119
                                          · replace h := h.2
                                            by_cases c1_21 : x0 = (118 : Int32)
                                            · replace h := h.1 c1_21
                                              rw [c1_21]
                                              refine lv_tableIn (off := 117) (tgt := 118) hx hb dX12_isField_1 (by decide +kernel) (by decide +kernel) (by decide +kernel) (by decide) ?_
                                              refine lv_iconst hx hb dX12_isField_118 ki_0 ?_
                                              exact m_iret S hret hlocks hK hW hbs hS rfl h dX12_isField_119
                                            · replace h := h.2
                                              by_cases c1_22 : x0 = (119 : Int32)
                                              · replace h := h.1 c1_22
                                                rw [c1_22]
                                                refine lv_tableIn (off := 115) (tgt := 116) hx hb dX12_isField_1 (by decide +kernel) (by decide +kernel) (by decide +kernel) (by decide) ?_
                                                refine lv_iconst hx hb dX12_isField_116 ki_1 ?_
                                                exact m_iret S hret hlocks hK hW hbs hS rfl h dX12_isField_117
                                              · replace h := h.2
                                                by_cases c1_23 : x0 = (120 : Int32)
                                                · replace h := h.1 c1_23
                                                  rw [c1_23]
                                                  refine lv_tableIn (off := 115) (tgt := 116) hx hb dX12_isField_1 (by decide +kernel) (by decide +kernel) (by decide +kernel) (by decide) ?_
                                                  refine lv_iconst hx hb dX12_isField_116 ki_1 ?_
                                                  exact m_iret S hret hlocks hK hW hbs hS rfl h dX12_isField_117
                                                · replace h := h.2
                                                  by_cases c1_24 : x0 = (121 : Int32)
                                                  · replace h := h.1 c1_24
                                                    rw [c1_24]
                                                    refine lv_tableIn (off := 115) (tgt := 116) hx hb dX12_isField_1 (by decide +kernel) (by decide +kernel) (by decide +kernel) (by decide) ?_
                                                    refine lv_iconst hx hb dX12_isField_116 ki_1 ?_
                                                    exact m_iret S hret hlocks hK hW hbs hS rfl h dX12_isField_117
                                                  · replace h := h.2
                                                    replace h := h c1_0 c1_1 c1_2 c1_3 c1_4 c1_5 c1_6 c1_7 c1_8 c1_9 c1_10 c1_11 c1_12 c1_13 c1_14 c1_15 c1_16 c1_17 c1_18 c1_19 c1_20 c1_21 c1_22 c1_23 c1_24
                                                    refine lv_tableOut (tgt := 118) hx hb dX12_isField_1 (m_out 97 121 (fun z h1 h2 => ?_)) (by decide) ?_
                                                    · have h3 : z = 97 ∨ z = 98 ∨ z = 99 ∨ z = 100 ∨ z = 101 ∨ z = 102 ∨ z = 103 ∨ z = 104 ∨ z = 105 ∨ z = 106 ∨ z = 107 ∨ z = 108 ∨ z = 109 ∨ z = 110 ∨ z = 111 ∨ z = 112 ∨ z = 113 ∨ z = 114 ∨ z = 115 ∨ z = 116 ∨ z = 117 ∨ z = 118 ∨ z = 119 ∨ z = 120 ∨ z = 121 := by omega
                                                      rcases h3 with rfl | rfl | rfl | rfl | rfl | rfl | rfl | rfl | rfl | rfl | rfl | rfl | rfl | rfl | rfl | rfl | rfl | rfl | rfl | rfl | rfl | rfl | rfl | rfl | rfl
                                                      · exact lv_neT c1_0 (by decide +kernel)
                                                      · exact lv_neT c1_1 (by decide +kernel)
                                                      · exact lv_neT c1_2 (by decide +kernel)
                                                      · exact lv_neT c1_3 (by decide +kernel)
                                                      · exact lv_neT c1_4 (by decide +kernel)
                                                      · exact lv_neT c1_5 (by decide +kernel)
                                                      · exact lv_neT c1_6 (by decide +kernel)
                                                      · exact lv_neT c1_7 (by decide +kernel)
                                                      · exact lv_neT c1_8 (by decide +kernel)
                                                      · exact lv_neT c1_9 (by decide +kernel)
                                                      · exact lv_neT c1_10 (by decide +kernel)
                                                      · exact lv_neT c1_11 (by decide +kernel)
                                                      · exact lv_neT c1_12 (by decide +kernel)
                                                      · exact lv_neT c1_13 (by decide +kernel)
                                                      · exact lv_neT c1_14 (by decide +kernel)
                                                      · exact lv_neT c1_15 (by decide +kernel)
                                                      · exact lv_neT c1_16 (by decide +kernel)
                                                      · exact lv_neT c1_17 (by decide +kernel)
                                                      · exact lv_neT c1_18 (by decide +kernel)
                                                      · exact lv_neT c1_19 (by decide +kernel)
                                                      · exact lv_neT c1_20 (by decide +kernel)
                                                      · exact lv_neT c1_21 (by decide +kernel)
                                                      · exact lv_neT c1_22 (by decide +kernel)
                                                      · exact lv_neT c1_23 (by decide +kernel)
                                                      · exact lv_neT c1_24 (by decide +kernel)
                                                    · skip
                                                      refine lv_iconst hx hb dX12_isField_118 ki_0 ?_
                                                      exact m_iret S hret hlocks hK hW hbs hS rfl h dX12_isField_119
def s_X12_field_204 (P : Int32 → Mem → Prop) (M : Mem) : Prop :=
  P (M.1 10 0 29) M
def s_X12_field (M : Mem) (x1 : Int32) (P : Int32 → Mem → Prop) : Prop :=
  (x1 = (97 : Int32) → P (M.1 10 0 30) M) ∧ ((x1 = (98 : Int32) → s_X12_field_204 P M) ∧ ((x1 = (99 : Int32) → s_X12_field_204 P M) ∧ ((x1 = (100 : Int32) → P ((M.1 10 0 31) - (M.1 10 0 31) / (7 : Int32) * (7 : Int32)) M) ∧ ((x1 = (101 : Int32) → s_X12_field_204 P M) ∧ ((x1 = (102 : Int32) → s_X12_field_204 P M) ∧ ((x1 = (103 : Int32) → s_X12_field_204 P M) ∧ ((x1 = (104 : Int32) → s_X12_monthOf M (M.1 10 0 31) (fun rr165 Mm165 => vp_in ((120 : Int32) + rr165) 320 ∧ (P (Mm165.1 44 0 ((120 : Int32) + rr165).toNatClampNeg) Mm165))) ∧ ((x1 = (105 : Int32) → s_X12_field_204 P M) ∧ ((x1 = (106 : Int32) → s_X12_field_204 P M) ∧ ((x1 = (107 : Int32) → s_X12_field_204 P M) ∧ ((x1 = (108 : Int32) → s_X12_field_204 P M) ∧ ((x1 = (109 : Int32) → s_X12_monthOf M (M.1 10 0 31) (fun rr135 Mm135 => P rr135 Mm135)) ∧ ((x1 = (110 : Int32) → s_X12_headsOf M (M.1 10 0 29) (M.1 10 0 31) (fun rr180 Mm180 => P rr180 Mm180)) ∧ ((x1 = (111 : Int32) → s_X12_field_204 P M) ∧ ((x1 = (112 : Int32) → s_X12_field_204 P M) ∧ ((x1 = (113 : Int32) → s_X12_field_204 P M) ∧ ((x1 = (114 : Int32) → s_X12_field_204 P M) ∧ ((x1 = (115 : Int32) → vp_in (M.1 10 0 29) 12 ∧ (P (M.1 47 0 (M.1 10 0 29).toNatClampNeg) M)) ∧ ((x1 = (116 : Int32) → s_X12_field_204 P M) ∧ ((x1 = (117 : Int32) → s_X12_field_204 P M) ∧ ((x1 = (118 : Int32) → s_X12_field_204 P M) ∧ ((x1 = (119 : Int32) → P ((M.1 10 0 31) / (7 : Int32)) M) ∧ ((x1 = (120 : Int32) → vp_in (M.1 10 0 29) 12 ∧ (P (M.1 48 0 (M.1 10 0 29).toNatClampNeg) M)) ∧ ((x1 = (121 : Int32) → vp_in (M.1 10 0 29) 12 ∧ (P (M.1 49 0 (M.1 10 0 29).toNatClampNeg) M)) ∧ ((¬ x1 = (97 : Int32) → ¬ x1 = (98 : Int32) → ¬ x1 = (99 : Int32) → ¬ x1 = (100 : Int32) → ¬ x1 = (101 : Int32) → ¬ x1 = (102 : Int32) → ¬ x1 = (103 : Int32) → ¬ x1 = (104 : Int32) → ¬ x1 = (105 : Int32) → ¬ x1 = (106 : Int32) → ¬ x1 = (107 : Int32) → ¬ x1 = (108 : Int32) → ¬ x1 = (109 : Int32) → ¬ x1 = (110 : Int32) → ¬ x1 = (111 : Int32) → ¬ x1 = (112 : Int32) → ¬ x1 = (113 : Int32) → ¬ x1 = (114 : Int32) → ¬ x1 = (115 : Int32) → ¬ x1 = (116 : Int32) → ¬ x1 = (117 : Int32) → ¬ x1 = (118 : Int32) → ¬ x1 = (119 : Int32) → ¬ x1 = (120 : Int32) → ¬ x1 = (121 : Int32) → s_X12_field_204 P M))))))))))))))))))))))))))
abbrev rm_X12_field : Room := { frames := 2, cells := 0, slots := 0, locals := 48 }
set_option maxHeartbeats 4000000 in
set_option maxRecDepth 100000 in
theorem c_X12_field (l : Launch) {G : Gn} {M : Mem} {x1 : Int32} {P : Int32 → Mem → Prop} : MQi l yX12_field cX12_field 2 (some .int) rm_X12_field [.ref (ad G 10 0), .int x1] G M (s_X12_field M x1 P) P := by
  refine m_enter (by decide +kernel) (Nat.le_of_ble_eq_true rfl) ?_
  intro p e s m below meth c ls H locs S hret hlocks hname hK hbs hW hS hl h
  obtain ⟨AV, hAV⟩ : ∃ z : Array Value, z = ([.ref (ad G 10 0), .int x1] : List Value).toArray := ⟨_, rfl⟩
  rw [← hAV] at S ⊢
  replace S : CallFix p m c cX12_field 2 s AV lw_G "MilkDeskModel" := S
  have hx := S.1
  have hb := S.2.1
  have hml := S.2.2.1
  have hown := S.2.2.2.1
  have hts := S.2.2.2.2
  replace hl : lv_has ls 2 [(0, .ref (ad G 10 0)), (1, .int x1)] := hl
  have b204 : ∀ (M : Mem) (H : Heap) (locs : List Loc) (ls : Array Slot), WPm G M H → va_S (fun q => bs G ≤ q) s.heap H locs → lv_has ls 2 [(0, .ref (ad G 10 0))] → s_X12_field_204 P M  → W p l e rm_X12_field s m AV below meth c H locs 0 0 (MQ below (va_Qi P (WS G) (fun q => bs G ≤ q)) AV s 0 0 (fun q => bs G ≤ q)) (F0 m 204 ls []) := by
    intro M H locs ls hW hS hl h
    unfold s_X12_field_204 at h
    refine lv_aload_n hx hb dX12_field_204 rfl (lv_at hl 0 rfl) ?_
    refine m_geti S hK fk_X12_183 (gi_10_29 G) hW (ci_10 (Nat.le_of_ble_eq_true rfl)) dX12_field_205 ?_
    exact m_iret S hret hlocks hK hW hbs hS rfl h dX12_field_208
  unfold s_X12_field at h
  refine lv_iload_n hx hb dX12_field_0 rfl (lv_at hl 1 rfl) ?_
  by_cases c1_0 : x1 = (97 : Int32)
  · replace h := h.1 c1_0
    rw [c1_0]
    refine lv_tableIn (off := 115) (tgt := 116) hx hb dX12_field_1 (by decide +kernel) (by decide +kernel) (by decide +kernel) (by decide) ?_
    refine lv_aload_n hx hb dX12_field_116 rfl (lv_at hl 0 rfl) ?_
    refine m_geti S hK fk_X12_180 (gi_10_30 G) hW (ci_10 (Nat.le_of_ble_eq_true rfl)) dX12_field_117 ?_
    exact m_iret S hret hlocks hK hW hbs hS rfl h dX12_field_120
  · replace h := h.2
    by_cases c1_1 : x1 = (98 : Int32)
    · replace h := h.1 c1_1
      rw [c1_1]
      refine lv_tableIn (off := 203) (tgt := 204) hx hb dX12_field_1 (by decide +kernel) (by decide +kernel) (by decide +kernel) (by decide) ?_
      exact b204 _ H locs ls hW hS (lv_sub hl [0] rfl) h
    · replace h := h.2
      by_cases c1_2 : x1 = (99 : Int32)
      · replace h := h.1 c1_2
        rw [c1_2]
        refine lv_tableIn (off := 203) (tgt := 204) hx hb dX12_field_1 (by decide +kernel) (by decide +kernel) (by decide +kernel) (by decide) ?_
        exact b204 _ H locs ls hW hS (lv_sub hl [0] rfl) h
      · replace h := h.2
        by_cases c1_3 : x1 = (100 : Int32)
        · replace h := h.1 c1_3
          rw [c1_3]
          refine lv_tableIn (off := 138) (tgt := 139) hx hb dX12_field_1 (by decide +kernel) (by decide +kernel) (by decide +kernel) (by decide) ?_
          refine lv_aload_n hx hb dX12_field_139 rfl (lv_at hl 0 rfl) ?_
          refine m_geti S hK fk_X12_186 (gi_10_31 G) hW (ci_10 (Nat.le_of_ble_eq_true rfl)) dX12_field_140 ?_
          refine lv_bipush hx hb dX12_field_143 kb_7 ?_
          refine lv_irem hx hb dX12_field_145 nz_7 ?_
          exact m_iret S hret hlocks hK hW hbs hS rfl h dX12_field_146
        · replace h := h.2
          by_cases c1_4 : x1 = (101 : Int32)
          · replace h := h.1 c1_4
            rw [c1_4]
            refine lv_tableIn (off := 203) (tgt := 204) hx hb dX12_field_1 (by decide +kernel) (by decide +kernel) (by decide +kernel) (by decide) ?_
            exact b204 _ H locs ls hW hS (lv_sub hl [0] rfl) h
          · replace h := h.2
            by_cases c1_5 : x1 = (102 : Int32)
            · replace h := h.1 c1_5
              rw [c1_5]
              refine lv_tableIn (off := 203) (tgt := 204) hx hb dX12_field_1 (by decide +kernel) (by decide +kernel) (by decide +kernel) (by decide) ?_
              exact b204 _ H locs ls hW hS (lv_sub hl [0] rfl) h
            · replace h := h.2
              by_cases c1_6 : x1 = (103 : Int32)
              · replace h := h.1 c1_6
                rw [c1_6]
                refine lv_tableIn (off := 203) (tgt := 204) hx hb dX12_field_1 (by decide +kernel) (by decide +kernel) (by decide +kernel) (by decide) ?_
                exact b204 _ H locs ls hW hS (lv_sub hl [0] rfl) h
              · replace h := h.2
                by_cases c1_7 : x1 = (104 : Int32)
                · replace h := h.1 c1_7
                  rw [c1_7]
                  refine lv_tableIn (off := 154) (tgt := 155) hx hb dX12_field_1 (by decide +kernel) (by decide +kernel) (by decide +kernel) (by decide) ?_
                  refine lv_aload_n hx hb dX12_field_155 rfl (lv_at hl 0 rfl) ?_
                  refine m_getr S hK fk_X12_7 (gr_10_1 G 0) hW (ci_10 (Nat.le_of_ble_eq_true rfl)) dX12_field_156 ?_
                  refine lv_bipush hx hb dX12_field_159 kb_120 ?_
                  refine lv_aload_n hx hb dX12_field_161 rfl (lv_at hl 0 rfl) ?_
                  refine m_geti S hK fk_X12_186 (gi_10_31 G) hW (ci_10 (Nat.le_of_ble_eq_true rfl)) dX12_field_162 ?_
                  refine m_ci0 (m_rS S hK hW (m_szH hbs hS) (c_X12_monthOf l ) h lk_X12_189 rfl hl.1 rfl ⟨Nat.le_of_ble_eq_true rfl, Nat.le_of_ble_eq_true rfl⟩ (Nat.le_of_ble_eq_true rfl) ⟨Nat.zero_le _, Nat.zero_le _⟩ dX12_field_165) hS rfl rfl (fun rr165 Mm165 H locs h hW hS => ?_)
                  refine lv_iadd hx hb dX12_field_168 ?_
                  obtain ⟨hb169, h⟩ := h
                  refine m_ald S hK (ar_44 G) hW (ci_44 (Nat.le_of_ble_eq_true rfl)) hb169 dX12_field_169 ?_
                  exact m_iret S hret hlocks hK hW hbs hS rfl h dX12_field_170
                · replace h := h.2
                  by_cases c1_8 : x1 = (105 : Int32)
                  · replace h := h.1 c1_8
                    rw [c1_8]
                    refine lv_tableIn (off := 203) (tgt := 204) hx hb dX12_field_1 (by decide +kernel) (by decide +kernel) (by decide +kernel) (by decide) ?_
                    exact b204 _ H locs ls hW hS (lv_sub hl [0] rfl) h
                  · replace h := h.2
                    by_cases c1_9 : x1 = (106 : Int32)
                    · replace h := h.1 c1_9
                      rw [c1_9]
                      refine lv_tableIn (off := 203) (tgt := 204) hx hb dX12_field_1 (by decide +kernel) (by decide +kernel) (by decide +kernel) (by decide) ?_
                      exact b204 _ H locs ls hW hS (lv_sub hl [0] rfl) h
                    · replace h := h.2
                      by_cases c1_10 : x1 = (107 : Int32)
                      · replace h := h.1 c1_10
                        rw [c1_10]
                        refine lv_tableIn (off := 203) (tgt := 204) hx hb dX12_field_1 (by decide +kernel) (by decide +kernel) (by decide +kernel) (by decide) ?_
                        exact b204 _ H locs ls hW hS (lv_sub hl [0] rfl) h
                      · replace h := h.2
                        by_cases c1_11 : x1 = (108 : Int32)
                        · replace h := h.1 c1_11
                          rw [c1_11]
                          refine lv_tableIn (off := 203) (tgt := 204) hx hb dX12_field_1 (by decide +kernel) (by decide +kernel) (by decide +kernel) (by decide) ?_
                          exact b204 _ H locs ls hW hS (lv_sub hl [0] rfl) h
                        · replace h := h.2
                          by_cases c1_12 : x1 = (109 : Int32)
                          · replace h := h.1 c1_12
                            rw [c1_12]
                            refine lv_tableIn (off := 130) (tgt := 131) hx hb dX12_field_1 (by decide +kernel) (by decide +kernel) (by decide +kernel) (by decide) ?_
                            refine lv_aload_n hx hb dX12_field_131 rfl (lv_at hl 0 rfl) ?_
                            refine m_geti S hK fk_X12_186 (gi_10_31 G) hW (ci_10 (Nat.le_of_ble_eq_true rfl)) dX12_field_132 ?_
                            refine m_ci0 (m_rS S hK hW (m_szH hbs hS) (c_X12_monthOf l ) h lk_X12_189 rfl hl.1 rfl ⟨Nat.le_of_ble_eq_true rfl, Nat.le_of_ble_eq_true rfl⟩ (Nat.le_of_ble_eq_true rfl) ⟨Nat.zero_le _, Nat.zero_le _⟩ dX12_field_135) hS rfl rfl (fun rr135 Mm135 H locs h hW hS => ?_)
                            exact m_iret S hret hlocks hK hW hbs hS rfl h dX12_field_138
                          · replace h := h.2
                            by_cases c1_13 : x1 = (110 : Int32)
                            · replace h := h.1 c1_13
                              rw [c1_13]
                              refine lv_tableIn (off := 170) (tgt := 171) hx hb dX12_field_1 (by decide +kernel) (by decide +kernel) (by decide +kernel) (by decide) ?_
                              refine lv_aload_n hx hb dX12_field_171 rfl (lv_at hl 0 rfl) ?_
                              refine lv_aload_n hx hb dX12_field_172 rfl (lv_at hl 0 rfl) ?_
                              refine m_geti S hK fk_X12_183 (gi_10_29 G) hW (ci_10 (Nat.le_of_ble_eq_true rfl)) dX12_field_173 ?_
                              refine lv_aload_n hx hb dX12_field_176 rfl (lv_at hl 0 rfl) ?_
                              refine m_geti S hK fk_X12_186 (gi_10_31 G) hW (ci_10 (Nat.le_of_ble_eq_true rfl)) dX12_field_177 ?_
                              refine m_ci0 (m_rV S hK hW (m_szH hbs hS) (c_X12_headsOf l ) h lk_X12_192 (m_recv hK hW (ci_10 (Nat.le_of_ble_eq_true rfl)) (rc_10 G) rfl) rfl hl.1 rfl ⟨Nat.le_of_ble_eq_true rfl, Nat.le_of_ble_eq_true rfl⟩ (Nat.le_of_ble_eq_true rfl) ⟨Nat.zero_le _, Nat.zero_le _⟩ dX12_field_180) hS rfl rfl (fun rr180 Mm180 H locs h hW hS => ?_)
                              exact m_iret S hret hlocks hK hW hbs hS rfl h dX12_field_183
                            · replace h := h.2
                              by_cases c1_14 : x1 = (111 : Int32)
                              · replace h := h.1 c1_14
                                rw [c1_14]
                                refine lv_tableIn (off := 203) (tgt := 204) hx hb dX12_field_1 (by decide +kernel) (by decide +kernel) (by decide +kernel) (by decide) ?_
                                exact b204 _ H locs ls hW hS (lv_sub hl [0] rfl) h
                              · replace h := h.2
                                by_cases c1_15 : x1 = (112 : Int32)
                                · replace h := h.1 c1_15
                                  rw [c1_15]
                                  refine lv_tableIn (off := 203) (tgt := 204) hx hb dX12_field_1 (by decide +kernel) (by decide +kernel) (by decide +kernel) (by decide) ?_
                                  exact b204 _ H locs ls hW hS (lv_sub hl [0] rfl) h
                                · replace h := h.2
                                  by_cases c1_16 : x1 = (113 : Int32)
                                  · replace h := h.1 c1_16
                                    rw [c1_16]
                                    refine lv_tableIn (off := 203) (tgt := 204) hx hb dX12_field_1 (by decide +kernel) (by decide +kernel) (by decide +kernel) (by decide) ?_
                                    exact b204 _ H locs ls hW hS (lv_sub hl [0] rfl) h
                                  · replace h := h.2
                                    by_cases c1_17 : x1 = (114 : Int32)
                                    · replace h := h.1 c1_17
                                      rw [c1_17]
                                      refine lv_tableIn (off := 203) (tgt := 204) hx hb dX12_field_1 (by decide +kernel) (by decide +kernel) (by decide +kernel) (by decide) ?_
                                      exact b204 _ H locs ls hW hS (lv_sub hl [0] rfl) h
                                    · replace h := h.2
                                      by_cases c1_18 : x1 = (115 : Int32)
                                      · replace h := h.1 c1_18
                                        rw [c1_18]
                                        refine lv_tableIn (off := 120) (tgt := 121) hx hb dX12_field_1 (by decide +kernel) (by decide +kernel) (by decide +kernel) (by decide) ?_
                                        refine lv_aload_n hx hb dX12_field_121 rfl (lv_at hl 0 rfl) ?_
                                        refine m_getr S hK fk_X12_19 (gr_10_5 G 0) hW (ci_10 (Nat.le_of_ble_eq_true rfl)) dX12_field_122 ?_
                                        refine lv_aload_n hx hb dX12_field_125 rfl (lv_at hl 0 rfl) ?_
                                        refine m_geti S hK fk_X12_183 (gi_10_29 G) hW (ci_10 (Nat.le_of_ble_eq_true rfl)) dX12_field_126 ?_
                                        obtain ⟨hb129, h⟩ := h
                                        refine m_ald S hK (ar_47 G) hW (ci_47 (Nat.le_of_ble_eq_true rfl)) hb129 dX12_field_129 ?_
                                        exact m_iret S hret hlocks hK hW hbs hS rfl h dX12_field_130
                                      · replace h := h.2
                                        by_cases c1_19 : x1 = (116 : Int32)
                                        · replace h := h.1 c1_19
                                          rw [c1_19]
                                          refine lv_tableIn (off := 203) (tgt := 204) hx hb dX12_field_1 (by decide +kernel) (by decide +kernel) (by decide +kernel) (by decide) ?_
                                          exact b204 _ H locs ls hW hS (lv_sub hl [0] rfl) h
                                        · replace h := h.2
                                          by_cases c1_20 : x1 = (117 : Int32)
                                          · replace h := h.1 c1_20
                                            rw [c1_20]
                                            refine lv_tableIn (off := 203) (tgt := 204) hx hb dX12_field_1 (by decide +kernel) (by decide +kernel) (by decide +kernel) (by decide) ?_
                                            exact b204 _ H locs ls hW hS (lv_sub hl [0] rfl) h
                                          · replace h := h.2
                                            by_cases c1_21 : x1 = (118 : Int32)
                                            · replace h := h.1 c1_21
                                              rw [c1_21]
                                              refine lv_tableIn (off := 203) (tgt := 204) hx hb dX12_field_1 (by decide +kernel) (by decide +kernel) (by decide +kernel) (by decide) ?_
                                              exact b204 _ H locs ls hW hS (lv_sub hl [0] rfl) h
                                            · replace h := h.2
                                              by_cases c1_22 : x1 = (119 : Int32)
                                              · replace h := h.1 c1_22
                                                rw [c1_22]
                                                refine lv_tableIn (off := 146) (tgt := 147) hx hb dX12_field_1 (by decide +kernel) (by decide +kernel) (by decide +kernel) (by decide) ?_
                                                refine lv_aload_n hx hb dX12_field_147 rfl (lv_at hl 0 rfl) ?_
                                                refine m_geti S hK fk_X12_186 (gi_10_31 G) hW (ci_10 (Nat.le_of_ble_eq_true rfl)) dX12_field_148 ?_
                                                refine lv_bipush hx hb dX12_field_151 kb_7 ?_
                                                refine lv_idiv hx hb dX12_field_153 nz_7 ?_
                                                exact m_iret S hret hlocks hK hW hbs hS rfl h dX12_field_154
                                              · replace h := h.2
                                                by_cases c1_23 : x1 = (120 : Int32)
                                                · replace h := h.1 c1_23
                                                  rw [c1_23]
                                                  refine lv_tableIn (off := 183) (tgt := 184) hx hb dX12_field_1 (by decide +kernel) (by decide +kernel) (by decide +kernel) (by decide) ?_
                                                  refine lv_aload_n hx hb dX12_field_184 rfl (lv_at hl 0 rfl) ?_
                                                  refine m_getr S hK fk_X12_22 (gr_10_6 G 0) hW (ci_10 (Nat.le_of_ble_eq_true rfl)) dX12_field_185 ?_
                                                  refine lv_aload_n hx hb dX12_field_188 rfl (lv_at hl 0 rfl) ?_
                                                  refine m_geti S hK fk_X12_183 (gi_10_29 G) hW (ci_10 (Nat.le_of_ble_eq_true rfl)) dX12_field_189 ?_
                                                  obtain ⟨hb192, h⟩ := h
                                                  refine m_ald S hK (ar_48 G) hW (ci_48 (Nat.le_of_ble_eq_true rfl)) hb192 dX12_field_192 ?_
                                                  exact m_iret S hret hlocks hK hW hbs hS rfl h dX12_field_193
                                                · replace h := h.2
                                                  by_cases c1_24 : x1 = (121 : Int32)
                                                  · replace h := h.1 c1_24
                                                    rw [c1_24]
                                                    refine lv_tableIn (off := 193) (tgt := 194) hx hb dX12_field_1 (by decide +kernel) (by decide +kernel) (by decide +kernel) (by decide) ?_
                                                    refine lv_aload_n hx hb dX12_field_194 rfl (lv_at hl 0 rfl) ?_
                                                    refine m_getr S hK fk_X12_25 (gr_10_7 G 0) hW (ci_10 (Nat.le_of_ble_eq_true rfl)) dX12_field_195 ?_
                                                    refine lv_aload_n hx hb dX12_field_198 rfl (lv_at hl 0 rfl) ?_
                                                    refine m_geti S hK fk_X12_183 (gi_10_29 G) hW (ci_10 (Nat.le_of_ble_eq_true rfl)) dX12_field_199 ?_
                                                    obtain ⟨hb202, h⟩ := h
                                                    refine m_ald S hK (ar_49 G) hW (ci_49 (Nat.le_of_ble_eq_true rfl)) hb202 dX12_field_202 ?_
                                                    exact m_iret S hret hlocks hK hW hbs hS rfl h dX12_field_203
                                                  · replace h := h.2
                                                    replace h := h c1_0 c1_1 c1_2 c1_3 c1_4 c1_5 c1_6 c1_7 c1_8 c1_9 c1_10 c1_11 c1_12 c1_13 c1_14 c1_15 c1_16 c1_17 c1_18 c1_19 c1_20 c1_21 c1_22 c1_23 c1_24
                                                    refine lv_tableOut (tgt := 204) hx hb dX12_field_1 (m_out 97 121 (fun z h1 h2 => ?_)) (by decide) ?_
                                                    · have h3 : z = 97 ∨ z = 98 ∨ z = 99 ∨ z = 100 ∨ z = 101 ∨ z = 102 ∨ z = 103 ∨ z = 104 ∨ z = 105 ∨ z = 106 ∨ z = 107 ∨ z = 108 ∨ z = 109 ∨ z = 110 ∨ z = 111 ∨ z = 112 ∨ z = 113 ∨ z = 114 ∨ z = 115 ∨ z = 116 ∨ z = 117 ∨ z = 118 ∨ z = 119 ∨ z = 120 ∨ z = 121 := by omega
                                                      rcases h3 with rfl | rfl | rfl | rfl | rfl | rfl | rfl | rfl | rfl | rfl | rfl | rfl | rfl | rfl | rfl | rfl | rfl | rfl | rfl | rfl | rfl | rfl | rfl | rfl | rfl
                                                      · exact lv_neT c1_0 (by decide +kernel)
                                                      · exact lv_neT c1_1 (by decide +kernel)
                                                      · exact lv_neT c1_2 (by decide +kernel)
                                                      · exact lv_neT c1_3 (by decide +kernel)
                                                      · exact lv_neT c1_4 (by decide +kernel)
                                                      · exact lv_neT c1_5 (by decide +kernel)
                                                      · exact lv_neT c1_6 (by decide +kernel)
                                                      · exact lv_neT c1_7 (by decide +kernel)
                                                      · exact lv_neT c1_8 (by decide +kernel)
                                                      · exact lv_neT c1_9 (by decide +kernel)
                                                      · exact lv_neT c1_10 (by decide +kernel)
                                                      · exact lv_neT c1_11 (by decide +kernel)
                                                      · exact lv_neT c1_12 (by decide +kernel)
                                                      · exact lv_neT c1_13 (by decide +kernel)
                                                      · exact lv_neT c1_14 (by decide +kernel)
                                                      · exact lv_neT c1_15 (by decide +kernel)
                                                      · exact lv_neT c1_16 (by decide +kernel)
                                                      · exact lv_neT c1_17 (by decide +kernel)
                                                      · exact lv_neT c1_18 (by decide +kernel)
                                                      · exact lv_neT c1_19 (by decide +kernel)
                                                      · exact lv_neT c1_20 (by decide +kernel)
                                                      · exact lv_neT c1_21 (by decide +kernel)
                                                      · exact lv_neT c1_22 (by decide +kernel)
                                                      · exact lv_neT c1_23 (by decide +kernel)
                                                      · exact lv_neT c1_24 (by decide +kernel)
                                                    · skip
                                                      exact b204 _ H locs ls hW hS (lv_sub hl [0] rfl) h
def s_X12_readAtom_74 (x1 : Int32) (P : Int32 → Mem → Prop) (K74 : Mem × Int32 × Int32 → Prop) (M : Mem) (x2 : Int32) (x3 : Int32) : Prop :=
  ((4 : Int32) ≤ x3 → P x2 M) ∧ (¬ (4 : Int32) ≤ x3 → (x1 = (48 : Int32) → P x2 M) ∧ (¬ x1 = (48 : Int32) → s_X12_here M (fun rr86 Mm86 => s_X12_in Mm86 rr86 (48 : Int32) (57 : Int32) (fun rr93 Mm93 => (rr93 = 0 → P x2 Mm93) ∧ (¬ rr93 = 0 → s_X12_here Mm93 (fun rr104 Mm104 => ∀ x2_111 : Int32, x2_111 = ((((10 : Int32) * x2) + rr104) - (48 : Int32)) → ∀ Mm119 : Mem, Mm119 = wI Mm104 10 0 26 ((Mm104.1 10 0 26) + (1 : Int32)) → ∀ x3_122 : Int32, x3_122 = x3 + (1 : Int32) → K74 (Mm119, x2_111, x3_122)))))))
def s_X12_readAtom (M : Mem) (P : Int32 → Mem → Prop) : Prop :=
  s_X12_here M (fun rr1 Mm1 => s_X12_isField Mm1 rr1 (fun rr6 Mm6 => (rr6 = 0 → s_X12_in Mm6 rr1 (48 : Int32) (57 : Int32) (fun rr44 Mm44 => (¬ rr44 = 0 → ∀ x2_61 : Int32, x2_61 = (rr1 - (48 : Int32)) → ∀ Mm69 : Mem, Mm69 = wI Mm44 10 0 26 ((Mm44.1 10 0 26) + (1 : Int32)) → ∃ n, Lz (fun (K74 : Mem × Int32 × Int32 → Prop) (a : Mem × Int32 × Int32) => s_X12_readAtom_74 rr1 P K74 a.1 a.2.1 a.2.2) n (Mm69, x2_61, (1 : Int32))) ∧ (rr44 = 0 → ∀ Mm52 : Mem, Mm52 = wI Mm44 10 0 27 (1 : Int32) → P (0 : Int32) Mm52))) ∧ (¬ rr6 = 0 → ∀ Mm19 : Mem, Mm19 = wI Mm6 10 0 26 ((Mm6.1 10 0 26) + (1 : Int32)) → ((Mm19.1 10 0 23) = 0 → s_X12_field Mm19 rr1 (fun rr35 Mm35 => P rr35 Mm35)) ∧ (¬ (Mm19.1 10 0 23) = 0 → P (0 : Int32) Mm19))))
abbrev rm_X12_readAtom : Room := { frames := 3, cells := 0, slots := 0, locals := 69 }
set_option maxHeartbeats 4000000 in
set_option maxRecDepth 100000 in
theorem c_X12_readAtom (l : Launch) {G : Gn} {M : Mem} {P : Int32 → Mem → Prop} : MQi l yX12_readAtom cX12_readAtom 4 (some .int) rm_X12_readAtom [.ref (ad G 10 0)] G M (s_X12_readAtom M P) P := by
  refine m_enter (by decide +kernel) (Nat.le_of_ble_eq_true rfl) ?_
  intro p e s m below meth c ls H locs S hret hlocks hname hK hbs hW hS hl h
  obtain ⟨AV, hAV⟩ : ∃ z : Array Value, z = ([.ref (ad G 10 0)] : List Value).toArray := ⟨_, rfl⟩
  rw [← hAV] at S ⊢
  replace S : CallFix p m c cX12_readAtom 4 s AV lw_G "MilkDeskModel" := S
  have hx := S.1
  have hb := S.2.1
  have hml := S.2.2.1
  have hown := S.2.2.2.1
  have hts := S.2.2.2.2
  replace hl : lv_has ls 4 [(0, .ref (ad G 10 0))] := hl
  have w74 : ∀ (x1 : Int32), ∀ (n : Nat) (a : Mem × Int32 × Int32), Lz (fun (K74 : Mem × Int32 × Int32 → Prop) (a : Mem × Int32 × Int32) => s_X12_readAtom_74 x1 P K74 a.1 a.2.1 a.2.2) n a → ∀ (H : Heap) (locs : List Loc) (ls : Array Slot), WPm G a.1 H → va_S (fun q => bs G ≤ q) s.heap H locs → lv_has ls 4 [(0, .ref (ad G 10 0)), (1, .int x1), (2, .int a.2.1), (3, .int a.2.2)] → W p l e rm_X12_readAtom s m AV below meth c H locs 0 0 (MQ below (va_Qi P (WS G) (fun q => bs G ≤ q)) AV s 0 0 (fun q => bs G ≤ q)) (F0 m 74 ls []) := by
    intro x1
    refine Lz_walk ?_
    rintro K74 kk74 ⟨M, x2, x3⟩ h H locs ls hW hS hl
    replace h : s_X12_readAtom_74 x1 P K74 M x2 x3 := h
    replace hW : WPm G M H := hW
    replace hl : lv_has ls 4 [(0, .ref (ad G 10 0)), (1, .int x1), (2, .int x2), (3, .int x3)] := hl
    unfold s_X12_readAtom_74 at h
    refine lv_iload_n hx hb dX12_readAtom_74 rfl (lv_at hl 3 rfl) ?_
    refine lv_iconst hx hb dX12_readAtom_75 ki_4 ?_
    refine lv_icmp_ge (tgt := 128) hx hb dX12_readAtom_76 (by decide) (fun c76 => ?_) (fun c76 => ?_)
    · replace h := h.1 c76
      refine lv_iload_n hx hb dX12_readAtom_128 rfl (lv_at hl 2 rfl) ?_
      exact m_iret S hret hlocks hK hW hbs hS rfl h dX12_readAtom_129
    · replace h := h.2 c76
      refine lv_iload_n hx hb dX12_readAtom_79 rfl (lv_at hl 1 rfl) ?_
      refine lv_bipush hx hb dX12_readAtom_80 kb_48 ?_
      refine lv_icmp_eq (tgt := 128) hx hb dX12_readAtom_82 (by decide) (fun c82 => ?_) (fun c82 => ?_)
      · replace h := h.1 c82
        refine lv_iload_n hx hb dX12_readAtom_128 rfl (lv_at hl 2 rfl) ?_
        exact m_iret S hret hlocks hK hW hbs hS rfl h dX12_readAtom_129
      · replace h := h.2 c82
        refine lv_aload_n hx hb dX12_readAtom_85 rfl (lv_at hl 0 rfl) ?_
        refine m_ci0 (m_rV S hK hW (m_szH hbs hS) (c_X12_here l ) h lk_X12_196 (m_recv hK hW (ci_10 (Nat.le_of_ble_eq_true rfl)) (rc_10 G) rfl) rfl hl.1 rfl ⟨Nat.le_of_ble_eq_true rfl, Nat.le_of_ble_eq_true rfl⟩ (Nat.le_of_ble_eq_true rfl) ⟨Nat.zero_le _, Nat.zero_le _⟩ dX12_readAtom_86) hS rfl rfl (fun rr86 Mm86 H locs h hW hS => ?_)
        refine lv_bipush hx hb dX12_readAtom_89 kb_48 ?_
        refine lv_bipush hx hb dX12_readAtom_91 kb_57 ?_
        refine m_ci0 (m_rS S hK hW (m_szH hbs hS) (c_X12_in l ) h lk_X12_131 rfl hl.1 rfl ⟨Nat.le_of_ble_eq_true rfl, Nat.le_of_ble_eq_true rfl⟩ (Nat.le_of_ble_eq_true rfl) ⟨Nat.zero_le _, Nat.zero_le _⟩ dX12_readAtom_93) hS rfl rfl (fun rr93 Mm93 H locs h hW hS => ?_)
        refine lv_if_eq (tgt := 128) hx hb dX12_readAtom_96 (by decide) (fun c96 => ?_) (fun c96 => ?_)
        · replace h := h.1 c96
          refine lv_iload_n hx hb dX12_readAtom_128 rfl (lv_at hl 2 rfl) ?_
          exact m_iret S hret hlocks hK hW hbs hS rfl h dX12_readAtom_129
        · replace h := h.2 c96
          refine lv_bipush hx hb dX12_readAtom_99 kb_10 ?_
          refine lv_iload_n hx hb dX12_readAtom_101 rfl (lv_at hl 2 rfl) ?_
          refine lv_imul hx hb dX12_readAtom_102 ?_
          refine lv_aload_n hx hb dX12_readAtom_103 rfl (lv_at hl 0 rfl) ?_
          refine m_ci0 (m_rV S hK hW (m_szH hbs hS) (c_X12_here l ) h lk_X12_196 (m_recv hK hW (ci_10 (Nat.le_of_ble_eq_true rfl)) (rc_10 G) rfl) rfl hl.1 rfl ⟨Nat.le_of_ble_eq_true rfl, Nat.le_of_ble_eq_true rfl⟩ (Nat.le_of_ble_eq_true rfl) ⟨Nat.zero_le _, Nat.zero_le _⟩ dX12_readAtom_104) hS rfl rfl (fun rr104 Mm104 H locs h hW hS => ?_)
          refine lv_iadd hx hb dX12_readAtom_107 ?_
          refine lv_bipush hx hb dX12_readAtom_108 kb_48 ?_
          refine lv_isub hx hb dX12_readAtom_110 ?_
          refine lv_topi (fun x2_111 ex2_111 => ?_)
          replace h := h x2_111 ex2_111
          refine lv_istore_n (lv' := [(2, .int x2_111), (0, .ref (ad G 10 0)), (1, .int x1), (3, .int x3)]) hx hb dX12_readAtom_111 rfl hl (by decide) rfl (fun ls hl => ?_)
          refine lv_aload_n hx hb dX12_readAtom_112 rfl (lv_at hl 1 rfl) ?_
          refine lv_dup hx hb dX12_readAtom_113 rfl ?_
          refine m_geti S hK fk_X12_167 (gi_10_26 G) hW (ci_10 (Nat.le_of_ble_eq_true rfl)) dX12_readAtom_114 ?_
          refine lv_iconst hx hb dX12_readAtom_117 ki_1 ?_
          refine lv_iadd hx hb dX12_readAtom_118 ?_
          refine m_put S hK fk_X12_167 tyX12_ok nmX12 rfl pf_X12_26 (pv_10_26 G) hW hS (ci_10 (Nat.le_of_ble_eq_true rfl)) rfl rfl dX12_readAtom_119 (fun Mm119 eMm119 H locs hW hS => ?_)
          replace h := h Mm119 eMm119
          obtain ⟨x3_122, ex3_122⟩ : ∃ z : Int32, z = x3 + (1 : Int32) := ⟨_, rfl⟩
          replace h := h x3_122 ex3_122
          refine lv_iinc (v := x3_122) (lv' := [(3, .int x3_122), (2, .int x2_111), (0, .ref (ad G 10 0)), (1, .int x1)]) hx hb dX12_readAtom_122 hl (k := 3) rfl (by rw [ex3_122, ki_1]) (by decide) rfl (fun ls hl => ?_)
          refine lv_goto (tgt := 74) hx hb dX12_readAtom_125 (by decide) ?_
          exact kk74 _ h H locs ls hW hS (lv_sub hl [2, 3, 1, 0] rfl)
  unfold s_X12_readAtom at h
  refine lv_aload_n hx hb dX12_readAtom_0 rfl (lv_at hl 0 rfl) ?_
  refine m_ci0 (m_rV S hK hW (m_szH hbs hS) (c_X12_here l ) h lk_X12_196 (m_recv hK hW (ci_10 (Nat.le_of_ble_eq_true rfl)) (rc_10 G) rfl) rfl hl.1 rfl ⟨Nat.le_of_ble_eq_true rfl, Nat.le_of_ble_eq_true rfl⟩ (Nat.le_of_ble_eq_true rfl) ⟨Nat.zero_le _, Nat.zero_le _⟩ dX12_readAtom_1) hS rfl rfl (fun rr1 Mm1 H locs h hW hS => ?_)
  refine lv_istore_n (lv' := [(1, .int rr1), (0, .ref (ad G 10 0))]) hx hb dX12_readAtom_4 rfl hl (by decide) rfl (fun ls hl => ?_)
  refine lv_iload_n hx hb dX12_readAtom_5 rfl (lv_at hl 0 rfl) ?_
  refine m_ci0 (m_rS S hK hW (m_szH hbs hS) (c_X12_isField l ) h lk_X12_200 rfl hl.1 rfl ⟨Nat.le_of_ble_eq_true rfl, Nat.le_of_ble_eq_true rfl⟩ (Nat.le_of_ble_eq_true rfl) ⟨Nat.zero_le _, Nat.zero_le _⟩ dX12_readAtom_6) hS rfl rfl (fun rr6 Mm6 H locs h hW hS => ?_)
  refine lv_if_eq (tgt := 39) hx hb dX12_readAtom_9 (by decide) (fun c9 => ?_) (fun c9 => ?_)
  · replace h := h.1 c9
    refine lv_iload_n hx hb dX12_readAtom_39 rfl (lv_at hl 0 rfl) ?_
    refine lv_bipush hx hb dX12_readAtom_40 kb_48 ?_
    refine lv_bipush hx hb dX12_readAtom_42 kb_57 ?_
    refine m_ci0 (m_rS S hK hW (m_szH hbs hS) (c_X12_in l ) h lk_X12_131 rfl hl.1 rfl ⟨Nat.le_of_ble_eq_true rfl, Nat.le_of_ble_eq_true rfl⟩ (Nat.le_of_ble_eq_true rfl) ⟨Nat.zero_le _, Nat.zero_le _⟩ dX12_readAtom_44) hS rfl rfl (fun rr44 Mm44 H locs h hW hS => ?_)
    refine lv_if_ne (tgt := 57) hx hb dX12_readAtom_47 (by decide) (fun c47 => ?_) (fun c47 => ?_)
    · replace h := h.1 c47
      refine lv_iload_n hx hb dX12_readAtom_57 rfl (lv_at hl 0 rfl) ?_
      refine lv_bipush hx hb dX12_readAtom_58 kb_48 ?_
      refine lv_isub hx hb dX12_readAtom_60 ?_
      refine lv_topi (fun x2_61 ex2_61 => ?_)
      replace h := h x2_61 ex2_61
      refine lv_istore_n (lv' := [(2, .int x2_61), (1, .int rr1), (0, .ref (ad G 10 0))]) hx hb dX12_readAtom_61 rfl hl (by decide) rfl (fun ls hl => ?_)
      refine lv_aload_n hx hb dX12_readAtom_62 rfl (lv_at hl 2 rfl) ?_
      refine lv_dup hx hb dX12_readAtom_63 rfl ?_
      refine m_geti S hK fk_X12_167 (gi_10_26 G) hW (ci_10 (Nat.le_of_ble_eq_true rfl)) dX12_readAtom_64 ?_
      refine lv_iconst hx hb dX12_readAtom_67 ki_1 ?_
      refine lv_iadd hx hb dX12_readAtom_68 ?_
      refine m_put S hK fk_X12_167 tyX12_ok nmX12 rfl pf_X12_26 (pv_10_26 G) hW hS (ci_10 (Nat.le_of_ble_eq_true rfl)) rfl rfl dX12_readAtom_69 (fun Mm69 eMm69 H locs hW hS => ?_)
      replace h := h Mm69 eMm69
      refine lv_iconst hx hb dX12_readAtom_72 ki_1 ?_
      refine lv_istore_n (lv' := [(3, .int (1 : Int32)), (2, .int x2_61), (1, .int rr1), (0, .ref (ad G 10 0))]) hx hb dX12_readAtom_73 rfl hl (by decide) rfl (fun ls hl => ?_)
      obtain ⟨n74, h⟩ := h
      exact w74 _ n74 _ h H locs ls hW hS (lv_sub hl [3, 2, 1, 0] rfl)
    · replace h := h.2 c47
      refine lv_aload_n hx hb dX12_readAtom_50 rfl (lv_at hl 1 rfl) ?_
      refine lv_iconst hx hb dX12_readAtom_51 ki_1 ?_
      refine m_put S hK fk_X12_206 tyX12_ok nmX12 rfl pf_X12_27 (pv_10_27 G) hW hS (ci_10 (Nat.le_of_ble_eq_true rfl)) (isB_n isB_1) (isB_f isB_1) dX12_readAtom_52 (fun Mm52 eMm52 H locs hW hS => ?_)
      replace h := h Mm52 eMm52
      refine lv_iconst hx hb dX12_readAtom_55 ki_0 ?_
      exact m_iret S hret hlocks hK hW hbs hS rfl h dX12_readAtom_56
  · replace h := h.2 c9
    refine lv_aload_n hx hb dX12_readAtom_12 rfl (lv_at hl 1 rfl) ?_
    refine lv_dup hx hb dX12_readAtom_13 rfl ?_
    refine m_geti S hK fk_X12_167 (gi_10_26 G) hW (ci_10 (Nat.le_of_ble_eq_true rfl)) dX12_readAtom_14 ?_
    refine lv_iconst hx hb dX12_readAtom_17 ki_1 ?_
    refine lv_iadd hx hb dX12_readAtom_18 ?_
    refine m_put S hK fk_X12_167 tyX12_ok nmX12 rfl pf_X12_26 (pv_10_26 G) hW hS (ci_10 (Nat.le_of_ble_eq_true rfl)) rfl rfl dX12_readAtom_19 (fun Mm19 eMm19 H locs hW hS => ?_)
    replace h := h Mm19 eMm19
    refine lv_aload_n hx hb dX12_readAtom_22 rfl (lv_at hl 1 rfl) ?_
    refine m_geti S hK fk_X12_173 (gi_10_23 G) hW (ci_10 (Nat.le_of_ble_eq_true rfl)) dX12_readAtom_23 ?_
    refine lv_if_eq (tgt := 33) hx hb dX12_readAtom_26 (by decide) (fun c26 => ?_) (fun c26 => ?_)
    · replace h := h.1 c26
      refine lv_aload_n hx hb dX12_readAtom_33 rfl (lv_at hl 1 rfl) ?_
      refine lv_iload_n hx hb dX12_readAtom_34 rfl (lv_at hl 0 rfl) ?_
      refine m_ci0 (m_rV S hK hW (m_szH hbs hS) (c_X12_field l ) h lk_X12_203 (m_recv hK hW (ci_10 (Nat.le_of_ble_eq_true rfl)) (rc_10 G) rfl) rfl hl.1 rfl ⟨Nat.le_of_ble_eq_true rfl, Nat.le_of_ble_eq_true rfl⟩ (Nat.le_of_ble_eq_true rfl) ⟨Nat.zero_le _, Nat.zero_le _⟩ dX12_readAtom_35) hS rfl rfl (fun rr35 Mm35 H locs h hW hS => ?_)
      exact m_iret S hret hlocks hK hW hbs hS rfl h dX12_readAtom_38
    · replace h := h.2 c26
      refine lv_iconst hx hb dX12_readAtom_29 ki_0 ?_
      refine lv_goto (tgt := 38) hx hb dX12_readAtom_30 (by decide) ?_
      exact m_iret S hret hlocks hK hW hbs hS rfl h dX12_readAtom_38
def s_X12_readSum_65 (P : Int32 → Mem → Prop) (K5 : Mem × Int32 → Prop) (M : Mem) (y0 : Int32) : Prop :=
  K5 (M, y0)
def s_X12_readSum_30 (P : Int32 → Mem → Prop) (K5 : Mem × Int32 → Prop) (M : Mem) (x1 : Int32) : Prop :=
  s_X12_here M (fun rr31 Mm31 => ∀ Mm42 : Mem, Mm42 = wI Mm31 10 0 26 ((Mm31.1 10 0 26) + (1 : Int32)) → s_X12_readAtom Mm42 (fun rr46 Mm46 => (¬ rr31 = (43 : Int32) → s_X12_readSum_65 P K5 Mm46 (x1 - rr46)) ∧ (rr31 = (43 : Int32) → s_X12_readSum_65 P K5 Mm46 (x1 + rr46))))
def s_X12_readSum_5 (P : Int32 → Mem → Prop) (K5 : Mem × Int32 → Prop) (M : Mem) (x1 : Int32) : Prop :=
  (¬ (M.1 10 0 27) = 0 → P x1 M) ∧ ((M.1 10 0 27) = 0 → s_X12_here M (fun rr13 Mm13 => (rr13 = (43 : Int32) → s_X12_readSum_30 P K5 Mm13 x1) ∧ (¬ rr13 = (43 : Int32) → s_X12_here Mm13 (fun rr22 Mm22 => (¬ rr22 = (45 : Int32) → P x1 Mm22) ∧ (rr22 = (45 : Int32) → s_X12_readSum_30 P K5 Mm22 x1)))))
def s_X12_readSum (M : Mem) (P : Int32 → Mem → Prop) : Prop :=
  s_X12_readAtom M (fun rr1 Mm1 => ∃ n, Lz (fun (K5 : Mem × Int32 → Prop) (a : Mem × Int32) => s_X12_readSum_5 P K5 a.1 a.2) n (Mm1, rr1))
abbrev rm_X12_readSum : Room := { frames := 4, cells := 0, slots := 0, locals := 92 }
set_option maxHeartbeats 4000000 in
set_option maxRecDepth 100000 in
theorem c_X12_readSum (l : Launch) {G : Gn} {M : Mem} {P : Int32 → Mem → Prop} : MQi l yX12_readSum cX12_readSum 4 (some .int) rm_X12_readSum [.ref (ad G 10 0)] G M (s_X12_readSum M P) P := by
  refine m_enter (by decide +kernel) (Nat.le_of_ble_eq_true rfl) ?_
  intro p e s m below meth c ls H locs S hret hlocks hname hK hbs hW hS hl h
  obtain ⟨AV, hAV⟩ : ∃ z : Array Value, z = ([.ref (ad G 10 0)] : List Value).toArray := ⟨_, rfl⟩
  rw [← hAV] at S ⊢
  replace S : CallFix p m c cX12_readSum 4 s AV lw_G "MilkDeskModel" := S
  have hx := S.1
  have hb := S.2.1
  have hml := S.2.2.1
  have hown := S.2.2.2.1
  have hts := S.2.2.2.2
  replace hl : lv_has ls 4 [(0, .ref (ad G 10 0))] := hl
  have w5 : ∀ (n : Nat) (a : Mem × Int32), Lz (fun (K5 : Mem × Int32 → Prop) (a : Mem × Int32) => s_X12_readSum_5 P K5 a.1 a.2) n a → ∀ (H : Heap) (locs : List Loc) (ls : Array Slot), WPm G a.1 H → va_S (fun q => bs G ≤ q) s.heap H locs → lv_has ls 4 [(0, .ref (ad G 10 0)), (1, .int a.2)] → W p l e rm_X12_readSum s m AV below meth c H locs 0 0 (MQ below (va_Qi P (WS G) (fun q => bs G ≤ q)) AV s 0 0 (fun q => bs G ≤ q)) (F0 m 5 ls []) := by
    refine Lz_walk ?_
    rintro K5 kk5 ⟨M, x1⟩ h H locs ls hW hS hl
    replace h : s_X12_readSum_5 P K5 M x1 := h
    replace hW : WPm G M H := hW
    replace hl : lv_has ls 4 [(0, .ref (ad G 10 0)), (1, .int x1)] := hl
    have b65 : ∀ (M : Mem) (y0 : Int32) (H : Heap) (locs : List Loc) (ls : Array Slot), WPm G M H → va_S (fun q => bs G ≤ q) s.heap H locs → lv_has ls 4 [(0, .ref (ad G 10 0))] → s_X12_readSum_65 P K5 M y0 → W p l e rm_X12_readSum s m AV below meth c H locs 0 0 (MQ below (va_Qi P (WS G) (fun q => bs G ≤ q)) AV s 0 0 (fun q => bs G ≤ q)) (F0 m 65 ls [.int y0]) := by
      intro M y0 H locs ls hW hS hl h
      unfold s_X12_readSum_65 at h
      refine lv_istore_n (lv' := [(1, .int y0), (0, .ref (ad G 10 0))]) hx hb dX12_readSum_65 rfl hl (by decide) rfl (fun ls hl => ?_)
      refine lv_goto (tgt := 5) hx hb dX12_readSum_66 (by decide) ?_
      exact kk5 _ h H locs ls hW hS (lv_sub hl [1, 0] rfl)
    have b30 : ∀ (M : Mem) (x1 : Int32) (H : Heap) (locs : List Loc) (ls : Array Slot), WPm G M H → va_S (fun q => bs G ≤ q) s.heap H locs → lv_has ls 4 [(0, .ref (ad G 10 0)), (1, .int x1)] → s_X12_readSum_30 P K5 M x1 → W p l e rm_X12_readSum s m AV below meth c H locs 0 0 (MQ below (va_Qi P (WS G) (fun q => bs G ≤ q)) AV s 0 0 (fun q => bs G ≤ q)) (F0 m 30 ls []) := by
      intro M x1 H locs ls hW hS hl h
      unfold s_X12_readSum_30 at h
      refine lv_aload_n hx hb dX12_readSum_30 rfl (lv_at hl 0 rfl) ?_
      refine m_ci0 (m_rV S hK hW (m_szH hbs hS) (c_X12_here l ) h lk_X12_196 (m_recv hK hW (ci_10 (Nat.le_of_ble_eq_true rfl)) (rc_10 G) rfl) rfl hl.1 rfl ⟨Nat.le_of_ble_eq_true rfl, Nat.le_of_ble_eq_true rfl⟩ (Nat.le_of_ble_eq_true rfl) ⟨Nat.zero_le _, Nat.zero_le _⟩ dX12_readSum_31) hS rfl rfl (fun rr31 Mm31 H locs h hW hS => ?_)
      refine lv_istore_n (lv' := [(2, .int rr31), (0, .ref (ad G 10 0)), (1, .int x1)]) hx hb dX12_readSum_34 rfl hl (by decide) rfl (fun ls hl => ?_)
      refine lv_aload_n hx hb dX12_readSum_35 rfl (lv_at hl 1 rfl) ?_
      refine lv_dup hx hb dX12_readSum_36 rfl ?_
      refine m_geti S hK fk_X12_167 (gi_10_26 G) hW (ci_10 (Nat.le_of_ble_eq_true rfl)) dX12_readSum_37 ?_
      refine lv_iconst hx hb dX12_readSum_40 ki_1 ?_
      refine lv_iadd hx hb dX12_readSum_41 ?_
      refine m_put S hK fk_X12_167 tyX12_ok nmX12 rfl pf_X12_26 (pv_10_26 G) hW hS (ci_10 (Nat.le_of_ble_eq_true rfl)) rfl rfl dX12_readSum_42 (fun Mm42 eMm42 H locs hW hS => ?_)
      replace h := h Mm42 eMm42
      refine lv_aload_n hx hb dX12_readSum_45 rfl (lv_at hl 1 rfl) ?_
      refine m_ci0 (m_rV S hK hW (m_szH hbs hS) (c_X12_readAtom l ) h lk_X12_209 (m_recv hK hW (ci_10 (Nat.le_of_ble_eq_true rfl)) (rc_10 G) rfl) rfl hl.1 rfl ⟨Nat.le_of_ble_eq_true rfl, Nat.le_of_ble_eq_true rfl⟩ (Nat.le_of_ble_eq_true rfl) ⟨Nat.zero_le _, Nat.zero_le _⟩ dX12_readSum_46) hS rfl rfl (fun rr46 Mm46 H locs h hW hS => ?_)
      refine lv_istore_n (lv' := [(3, .int rr46), (2, .int rr31), (0, .ref (ad G 10 0)), (1, .int x1)]) hx hb dX12_readSum_49 rfl hl (by decide) rfl (fun ls hl => ?_)
      refine lv_iload_n hx hb dX12_readSum_50 rfl (lv_at hl 1 rfl) ?_
      refine lv_bipush hx hb dX12_readSum_51 kb_43 ?_
      refine lv_icmp_ne (tgt := 62) hx hb dX12_readSum_53 (by decide) (fun c53 => ?_) (fun c53 => ?_)
      · replace h := h.1 c53
        refine lv_iload_n hx hb dX12_readSum_62 rfl (lv_at hl 3 rfl) ?_
        refine lv_iload_n hx hb dX12_readSum_63 rfl (lv_at hl 0 rfl) ?_
        refine lv_isub hx hb dX12_readSum_64 ?_
        exact b65 _ _ H locs ls hW hS (lv_sub hl [2] rfl) h
      · replace h := h.2 c53
        refine lv_iload_n hx hb dX12_readSum_56 rfl (lv_at hl 3 rfl) ?_
        refine lv_iload_n hx hb dX12_readSum_57 rfl (lv_at hl 0 rfl) ?_
        refine lv_iadd hx hb dX12_readSum_58 ?_
        refine lv_goto (tgt := 65) hx hb dX12_readSum_59 (by decide) ?_
        exact b65 _ _ H locs ls hW hS (lv_sub hl [2] rfl) h
    unfold s_X12_readSum_5 at h
    refine lv_aload_n hx hb dX12_readSum_5 rfl (lv_at hl 0 rfl) ?_
    refine m_geti S hK fk_X12_206 (gi_10_27 G) hW (ci_10 (Nat.le_of_ble_eq_true rfl)) dX12_readSum_6 ?_
    refine lv_if_ne (tgt := 69) hx hb dX12_readSum_9 (by decide) (fun c9 => ?_) (fun c9 => ?_)
    · replace h := h.1 c9
      refine lv_iload_n hx hb dX12_readSum_69 rfl (lv_at hl 1 rfl) ?_
      exact m_iret S hret hlocks hK hW hbs hS rfl h dX12_readSum_70
    · replace h := h.2 c9
      refine lv_aload_n hx hb dX12_readSum_12 rfl (lv_at hl 0 rfl) ?_
      refine m_ci0 (m_rV S hK hW (m_szH hbs hS) (c_X12_here l ) h lk_X12_196 (m_recv hK hW (ci_10 (Nat.le_of_ble_eq_true rfl)) (rc_10 G) rfl) rfl hl.1 rfl ⟨Nat.le_of_ble_eq_true rfl, Nat.le_of_ble_eq_true rfl⟩ (Nat.le_of_ble_eq_true rfl) ⟨Nat.zero_le _, Nat.zero_le _⟩ dX12_readSum_13) hS rfl rfl (fun rr13 Mm13 H locs h hW hS => ?_)
      refine lv_bipush hx hb dX12_readSum_16 kb_43 ?_
      refine lv_icmp_eq (tgt := 30) hx hb dX12_readSum_18 (by decide) (fun c18 => ?_) (fun c18 => ?_)
      · replace h := h.1 c18
        exact b30 _ _ H locs ls hW hS (lv_sub hl [0, 1] rfl) h
      · replace h := h.2 c18
        refine lv_aload_n hx hb dX12_readSum_21 rfl (lv_at hl 0 rfl) ?_
        refine m_ci0 (m_rV S hK hW (m_szH hbs hS) (c_X12_here l ) h lk_X12_196 (m_recv hK hW (ci_10 (Nat.le_of_ble_eq_true rfl)) (rc_10 G) rfl) rfl hl.1 rfl ⟨Nat.le_of_ble_eq_true rfl, Nat.le_of_ble_eq_true rfl⟩ (Nat.le_of_ble_eq_true rfl) ⟨Nat.zero_le _, Nat.zero_le _⟩ dX12_readSum_22) hS rfl rfl (fun rr22 Mm22 H locs h hW hS => ?_)
        refine lv_bipush hx hb dX12_readSum_25 kb_45 ?_
        refine lv_icmp_ne (tgt := 69) hx hb dX12_readSum_27 (by decide) (fun c27 => ?_) (fun c27 => ?_)
        · replace h := h.1 c27
          refine lv_iload_n hx hb dX12_readSum_69 rfl (lv_at hl 1 rfl) ?_
          exact m_iret S hret hlocks hK hW hbs hS rfl h dX12_readSum_70
        · replace h := h.2 c27
          exact b30 _ _ H locs ls hW hS (lv_sub hl [0, 1] rfl) h
  unfold s_X12_readSum at h
  refine lv_aload_n hx hb dX12_readSum_0 rfl (lv_at hl 0 rfl) ?_
  refine m_ci0 (m_rV S hK hW (m_szH hbs hS) (c_X12_readAtom l ) h lk_X12_209 (m_recv hK hW (ci_10 (Nat.le_of_ble_eq_true rfl)) (rc_10 G) rfl) rfl hl.1 rfl ⟨Nat.le_of_ble_eq_true rfl, Nat.le_of_ble_eq_true rfl⟩ (Nat.le_of_ble_eq_true rfl) ⟨Nat.zero_le _, Nat.zero_le _⟩ dX12_readSum_1) hS rfl rfl (fun rr1 Mm1 H locs h hW hS => ?_)
  refine lv_istore_n (lv' := [(1, .int rr1), (0, .ref (ad G 10 0))]) hx hb dX12_readSum_4 rfl hl (by decide) rfl (fun ls hl => ?_)
  obtain ⟨n5, h⟩ := h
  exact w5 n5 _ h H locs ls hW hS (lv_sub hl [1, 0] rfl)
def s_X12_readTest_42 (P : Int32 → Mem → Prop) (M : Mem) (x1 : Int32) (x2 : Int32) : Prop :=
  ∀ Mm49 : Mem, Mm49 = wI M 10 0 26 ((M.1 10 0 26) + (1 : Int32)) → s_X12_readSum Mm49 (fun rr53 Mm53 => (¬ x2 = (60 : Int32) → (¬ x2 = (62 : Int32) → (¬ x1 = rr53 → P (0 : Int32) Mm53) ∧ (x1 = rr53 → P (1 : Int32) Mm53)) ∧ (x2 = (62 : Int32) → (x1 ≤ rr53 → P (0 : Int32) Mm53) ∧ (¬ x1 ≤ rr53 → P (1 : Int32) Mm53))) ∧ (x2 = (60 : Int32) → (rr53 ≤ x1 → P (0 : Int32) Mm53) ∧ (¬ rr53 ≤ x1 → P (1 : Int32) Mm53)))
def s_X12_readTest_35 (P : Int32 → Mem → Prop) (M : Mem) : Prop :=
  ∀ Mm37 : Mem, Mm37 = wI M 10 0 27 (1 : Int32) → P (0 : Int32) Mm37
def s_X12_readTest (M : Mem) (P : Int32 → Mem → Prop) : Prop :=
  s_X12_readSum M (fun rr1 Mm1 => s_X12_here Mm1 (fun rr6 Mm6 => (¬ (Mm6.1 10 0 27) = 0 → s_X12_readTest_35 P Mm6) ∧ ((Mm6.1 10 0 27) = 0 → (rr6 = (60 : Int32) → s_X12_readTest_42 P Mm6 rr1 rr6) ∧ (¬ rr6 = (60 : Int32) → (rr6 = (62 : Int32) → s_X12_readTest_42 P Mm6 rr1 rr6) ∧ (¬ rr6 = (62 : Int32) → (rr6 = (61 : Int32) → s_X12_readTest_42 P Mm6 rr1 rr6) ∧ (¬ rr6 = (61 : Int32) → s_X12_readTest_35 P Mm6))))))
abbrev rm_X12_readTest : Room := { frames := 5, cells := 0, slots := 0, locals := 115 }
set_option maxHeartbeats 4000000 in
set_option maxRecDepth 100000 in
theorem c_X12_readTest (l : Launch) {G : Gn} {M : Mem} {P : Int32 → Mem → Prop} : MQi l yX12_readTest cX12_readTest 4 (some .boolean) rm_X12_readTest [.ref (ad G 10 0)] G M (s_X12_readTest M P) P := by
  refine m_enter (by decide +kernel) (Nat.le_of_ble_eq_true rfl) ?_
  intro p e s m below meth c ls H locs S hret hlocks hname hK hbs hW hS hl h
  obtain ⟨AV, hAV⟩ : ∃ z : Array Value, z = ([.ref (ad G 10 0)] : List Value).toArray := ⟨_, rfl⟩
  rw [← hAV] at S ⊢
  replace S : CallFix p m c cX12_readTest 4 s AV lw_G "MilkDeskModel" := S
  have hx := S.1
  have hb := S.2.1
  have hml := S.2.2.1
  have hown := S.2.2.2.1
  have hts := S.2.2.2.2
  replace hl : lv_has ls 4 [(0, .ref (ad G 10 0))] := hl
  have b42 : ∀ (M : Mem) (x1 : Int32) (x2 : Int32) (H : Heap) (locs : List Loc) (ls : Array Slot), WPm G M H → va_S (fun q => bs G ≤ q) s.heap H locs → lv_has ls 4 [(0, .ref (ad G 10 0)), (1, .int x1), (2, .int x2)] → s_X12_readTest_42 P M x1 x2 → W p l e rm_X12_readTest s m AV below meth c H locs 0 0 (MQ below (va_Qi P (WS G) (fun q => bs G ≤ q)) AV s 0 0 (fun q => bs G ≤ q)) (F0 m 42 ls []) := by
    intro M x1 x2 H locs ls hW hS hl h
    unfold s_X12_readTest_42 at h
    refine lv_aload_n hx hb dX12_readTest_42 rfl (lv_at hl 0 rfl) ?_
    refine lv_dup hx hb dX12_readTest_43 rfl ?_
    refine m_geti S hK fk_X12_167 (gi_10_26 G) hW (ci_10 (Nat.le_of_ble_eq_true rfl)) dX12_readTest_44 ?_
    refine lv_iconst hx hb dX12_readTest_47 ki_1 ?_
    refine lv_iadd hx hb dX12_readTest_48 ?_
    refine m_put S hK fk_X12_167 tyX12_ok nmX12 rfl pf_X12_26 (pv_10_26 G) hW hS (ci_10 (Nat.le_of_ble_eq_true rfl)) rfl rfl dX12_readTest_49 (fun Mm49 eMm49 H locs hW hS => ?_)
    replace h := h Mm49 eMm49
    refine lv_aload_n hx hb dX12_readTest_52 rfl (lv_at hl 0 rfl) ?_
    refine m_ci0 (m_rV S hK hW (m_szH hbs hS) (c_X12_readSum l ) h lk_X12_212 (m_recv hK hW (ci_10 (Nat.le_of_ble_eq_true rfl)) (rc_10 G) rfl) rfl hl.1 rfl ⟨Nat.le_of_ble_eq_true rfl, Nat.le_of_ble_eq_true rfl⟩ (Nat.le_of_ble_eq_true rfl) ⟨Nat.zero_le _, Nat.zero_le _⟩ dX12_readTest_53) hS rfl rfl (fun rr53 Mm53 H locs h hW hS => ?_)
    refine lv_istore_n (lv' := [(3, .int rr53), (0, .ref (ad G 10 0)), (1, .int x1), (2, .int x2)]) hx hb dX12_readTest_56 rfl hl (by decide) rfl (fun ls hl => ?_)
    refine lv_iload_n hx hb dX12_readTest_57 rfl (lv_at hl 3 rfl) ?_
    refine lv_bipush hx hb dX12_readTest_58 kb_60 ?_
    refine lv_icmp_ne (tgt := 76) hx hb dX12_readTest_60 (by decide) (fun c60 => ?_) (fun c60 => ?_)
    · replace h := h.1 c60
      refine lv_iload_n hx hb dX12_readTest_76 rfl (lv_at hl 3 rfl) ?_
      refine lv_bipush hx hb dX12_readTest_77 kb_62 ?_
      refine lv_icmp_ne (tgt := 95) hx hb dX12_readTest_79 (by decide) (fun c79 => ?_) (fun c79 => ?_)
      · replace h := h.1 c79
        refine lv_iload_n hx hb dX12_readTest_95 rfl (lv_at hl 2 rfl) ?_
        refine lv_iload_n hx hb dX12_readTest_96 rfl (lv_at hl 0 rfl) ?_
        refine lv_icmp_ne (tgt := 104) hx hb dX12_readTest_97 (by decide) (fun c97 => ?_) (fun c97 => ?_)
        · replace h := h.1 c97
          refine lv_iconst hx hb dX12_readTest_104 ki_0 ?_
          exact m_iret S hret hlocks hK hW hbs hS rfl h dX12_readTest_105
        · replace h := h.2 c97
          refine lv_iconst hx hb dX12_readTest_100 ki_1 ?_
          refine lv_goto (tgt := 105) hx hb dX12_readTest_101 (by decide) ?_
          exact m_iret S hret hlocks hK hW hbs hS rfl h dX12_readTest_105
      · replace h := h.2 c79
        refine lv_iload_n hx hb dX12_readTest_82 rfl (lv_at hl 2 rfl) ?_
        refine lv_iload_n hx hb dX12_readTest_83 rfl (lv_at hl 0 rfl) ?_
        refine lv_icmp_le (tgt := 91) hx hb dX12_readTest_84 (by decide) (fun c84 => ?_) (fun c84 => ?_)
        · replace h := h.1 c84
          refine lv_iconst hx hb dX12_readTest_91 ki_0 ?_
          refine lv_goto (tgt := 105) hx hb dX12_readTest_92 (by decide) ?_
          exact m_iret S hret hlocks hK hW hbs hS rfl h dX12_readTest_105
        · replace h := h.2 c84
          refine lv_iconst hx hb dX12_readTest_87 ki_1 ?_
          refine lv_goto (tgt := 105) hx hb dX12_readTest_88 (by decide) ?_
          exact m_iret S hret hlocks hK hW hbs hS rfl h dX12_readTest_105
    · replace h := h.2 c60
      refine lv_iload_n hx hb dX12_readTest_63 rfl (lv_at hl 2 rfl) ?_
      refine lv_iload_n hx hb dX12_readTest_64 rfl (lv_at hl 0 rfl) ?_
      refine lv_icmp_ge (tgt := 72) hx hb dX12_readTest_65 (by decide) (fun c65 => ?_) (fun c65 => ?_)
      · replace h := h.1 c65
        refine lv_iconst hx hb dX12_readTest_72 ki_0 ?_
        refine lv_goto (tgt := 105) hx hb dX12_readTest_73 (by decide) ?_
        exact m_iret S hret hlocks hK hW hbs hS rfl h dX12_readTest_105
      · replace h := h.2 c65
        refine lv_iconst hx hb dX12_readTest_68 ki_1 ?_
        refine lv_goto (tgt := 105) hx hb dX12_readTest_69 (by decide) ?_
        exact m_iret S hret hlocks hK hW hbs hS rfl h dX12_readTest_105
  have b35 : ∀ (M : Mem) (H : Heap) (locs : List Loc) (ls : Array Slot), WPm G M H → va_S (fun q => bs G ≤ q) s.heap H locs → lv_has ls 4 [(0, .ref (ad G 10 0))] → s_X12_readTest_35 P M  → W p l e rm_X12_readTest s m AV below meth c H locs 0 0 (MQ below (va_Qi P (WS G) (fun q => bs G ≤ q)) AV s 0 0 (fun q => bs G ≤ q)) (F0 m 35 ls []) := by
    intro M H locs ls hW hS hl h
    unfold s_X12_readTest_35 at h
    refine lv_aload_n hx hb dX12_readTest_35 rfl (lv_at hl 0 rfl) ?_
    refine lv_iconst hx hb dX12_readTest_36 ki_1 ?_
    refine m_put S hK fk_X12_206 tyX12_ok nmX12 rfl pf_X12_27 (pv_10_27 G) hW hS (ci_10 (Nat.le_of_ble_eq_true rfl)) (isB_n isB_1) (isB_f isB_1) dX12_readTest_37 (fun Mm37 eMm37 H locs hW hS => ?_)
    replace h := h Mm37 eMm37
    refine lv_iconst hx hb dX12_readTest_40 ki_0 ?_
    exact m_iret S hret hlocks hK hW hbs hS rfl h dX12_readTest_41
  unfold s_X12_readTest at h
  refine lv_aload_n hx hb dX12_readTest_0 rfl (lv_at hl 0 rfl) ?_
  refine m_ci0 (m_rV S hK hW (m_szH hbs hS) (c_X12_readSum l ) h lk_X12_212 (m_recv hK hW (ci_10 (Nat.le_of_ble_eq_true rfl)) (rc_10 G) rfl) rfl hl.1 rfl ⟨Nat.le_of_ble_eq_true rfl, Nat.le_of_ble_eq_true rfl⟩ (Nat.le_of_ble_eq_true rfl) ⟨Nat.zero_le _, Nat.zero_le _⟩ dX12_readTest_1) hS rfl rfl (fun rr1 Mm1 H locs h hW hS => ?_)
  refine lv_istore_n (lv' := [(1, .int rr1), (0, .ref (ad G 10 0))]) hx hb dX12_readTest_4 rfl hl (by decide) rfl (fun ls hl => ?_)
  refine lv_aload_n hx hb dX12_readTest_5 rfl (lv_at hl 1 rfl) ?_
  refine m_ci0 (m_rV S hK hW (m_szH hbs hS) (c_X12_here l ) h lk_X12_196 (m_recv hK hW (ci_10 (Nat.le_of_ble_eq_true rfl)) (rc_10 G) rfl) rfl hl.1 rfl ⟨Nat.le_of_ble_eq_true rfl, Nat.le_of_ble_eq_true rfl⟩ (Nat.le_of_ble_eq_true rfl) ⟨Nat.zero_le _, Nat.zero_le _⟩ dX12_readTest_6) hS rfl rfl (fun rr6 Mm6 H locs h hW hS => ?_)
  refine lv_istore_n (lv' := [(2, .int rr6), (1, .int rr1), (0, .ref (ad G 10 0))]) hx hb dX12_readTest_9 rfl hl (by decide) rfl (fun ls hl => ?_)
  refine lv_aload_n hx hb dX12_readTest_10 rfl (lv_at hl 2 rfl) ?_
  refine m_geti S hK fk_X12_206 (gi_10_27 G) hW (ci_10 (Nat.le_of_ble_eq_true rfl)) dX12_readTest_11 ?_
  refine lv_if_ne (tgt := 35) hx hb dX12_readTest_14 (by decide) (fun c14 => ?_) (fun c14 => ?_)
  · replace h := h.1 c14
    exact b35 _ H locs ls hW hS (lv_sub hl [2] rfl) h
  · replace h := h.2 c14
    refine lv_iload_n hx hb dX12_readTest_17 rfl (lv_at hl 0 rfl) ?_
    refine lv_bipush hx hb dX12_readTest_18 kb_60 ?_
    refine lv_icmp_eq (tgt := 42) hx hb dX12_readTest_20 (by decide) (fun c20 => ?_) (fun c20 => ?_)
    · replace h := h.1 c20
      exact b42 _ _ _ H locs ls hW hS (lv_sub hl [2, 1, 0] rfl) h
    · replace h := h.2 c20
      refine lv_iload_n hx hb dX12_readTest_23 rfl (lv_at hl 0 rfl) ?_
      refine lv_bipush hx hb dX12_readTest_24 kb_62 ?_
      refine lv_icmp_eq (tgt := 42) hx hb dX12_readTest_26 (by decide) (fun c26 => ?_) (fun c26 => ?_)
      · replace h := h.1 c26
        exact b42 _ _ _ H locs ls hW hS (lv_sub hl [2, 1, 0] rfl) h
      · replace h := h.2 c26
        refine lv_iload_n hx hb dX12_readTest_29 rfl (lv_at hl 0 rfl) ?_
        refine lv_bipush hx hb dX12_readTest_30 kb_61 ?_
        refine lv_icmp_eq (tgt := 42) hx hb dX12_readTest_32 (by decide) (fun c32 => ?_) (fun c32 => ?_)
        · replace h := h.1 c32
          exact b42 _ _ _ H locs ls hW hS (lv_sub hl [2, 1, 0] rfl) h
        · replace h := h.2 c32
          exact b35 _ H locs ls hW hS (lv_sub hl [2] rfl) h
def s_X12_topSign (M : Mem) (P : Int32 → Mem → Prop) : Prop :=
  (¬ (M.1 10 0 35) = 0 → vp_in ((M.1 10 0 35) - (1 : Int32)) 200 ∧ (P (M.1 65 0 ((M.1 10 0 35) - (1 : Int32)).toNatClampNeg) M)) ∧ ((M.1 10 0 35) = 0 → P (0 : Int32) M)
abbrev rm_X12_topSign : Room := { frames := 0, cells := 0, slots := 0, locals := 0 }
set_option maxHeartbeats 4000000 in
set_option maxRecDepth 100000 in
theorem c_X12_topSign (l : Launch) {G : Gn} {M : Mem} {P : Int32 → Mem → Prop} : MQi l yX12_topSign cX12_topSign 1 (some .int) rm_X12_topSign [.ref (ad G 10 0)] G M (s_X12_topSign M P) P := by
  refine m_enter (by decide +kernel) (Nat.le_of_ble_eq_true rfl) ?_
  intro p e s m below meth c ls H locs S hret hlocks hname hK hbs hW hS hl h
  obtain ⟨AV, hAV⟩ : ∃ z : Array Value, z = ([.ref (ad G 10 0)] : List Value).toArray := ⟨_, rfl⟩
  rw [← hAV] at S ⊢
  replace S : CallFix p m c cX12_topSign 1 s AV lw_G "MilkDeskModel" := S
  have hx := S.1
  have hb := S.2.1
  have hml := S.2.2.1
  have hown := S.2.2.2.1
  have hts := S.2.2.2.2
  replace hl : lv_has ls 1 [(0, .ref (ad G 10 0))] := hl
  unfold s_X12_topSign at h
  refine lv_aload_n hx hb dX12_topSign_0 rfl (lv_at hl 0 rfl) ?_
  refine m_geti S hK fk_X12_215 (gi_10_35 G) hW (ci_10 (Nat.le_of_ble_eq_true rfl)) dX12_topSign_1 ?_
  refine lv_if_ne (tgt := 11) hx hb dX12_topSign_4 (by decide) (fun c4 => ?_) (fun c4 => ?_)
  · replace h := h.1 c4
    refine lv_aload_n hx hb dX12_topSign_11 rfl (lv_at hl 0 rfl) ?_
    refine m_getr S hK fk_X12_78 (gr_10_34 G 0) hW (ci_10 (Nat.le_of_ble_eq_true rfl)) dX12_topSign_12 ?_
    refine lv_aload_n hx hb dX12_topSign_15 rfl (lv_at hl 0 rfl) ?_
    refine m_geti S hK fk_X12_215 (gi_10_35 G) hW (ci_10 (Nat.le_of_ble_eq_true rfl)) dX12_topSign_16 ?_
    refine lv_iconst hx hb dX12_topSign_19 ki_1 ?_
    refine lv_isub hx hb dX12_topSign_20 ?_
    obtain ⟨hb21, h⟩ := h
    refine m_ald S hK (ar_65 G) hW (ci_65 (Nat.le_of_ble_eq_true rfl)) hb21 dX12_topSign_21 ?_
    exact m_iret S hret hlocks hK hW hbs hS rfl h dX12_topSign_22
  · replace h := h.2 c4
    refine lv_iconst hx hb dX12_topSign_7 ki_0 ?_
    refine lv_goto (tgt := 22) hx hb dX12_topSign_8 (by decide) ?_
    exact m_iret S hret hlocks hK hW hbs hS rfl h dX12_topSign_22
def s_X12_testEnds_38 (P : Mem → Prop) (K0 : Mem → Prop) (M : Mem) (y0 : Int32) (y1 : Int32) : Prop :=
  vp_in y1 100 ∧ (∀ Mm38 : Mem, Mm38 = wI M 64 0 (y1.toNatClampNeg) (vp_nar .boolean y0) → ∀ Mm46 : Mem, Mm46 = wI Mm38 10 0 35 ((Mm38.1 10 0 35) - (1 : Int32)) → K0 Mm46)
def s_X12_testEnds_0 (P : Mem → Prop) (K0 : Mem → Prop) (M : Mem) : Prop :=
  s_X12_topSign M (fun rr1 Mm1 => (¬ rr1 = (33 : Int32) → P Mm1) ∧ (rr1 = (33 : Int32) → vp_in ((Mm1.1 10 0 33) - (1 : Int32)) 100 ∧ ((¬ (Mm1.1 64 0 ((Mm1.1 10 0 33) - (1 : Int32)).toNatClampNeg) = 0 → s_X12_testEnds_38 P K0 Mm1 (0 : Int32) ((Mm1.1 10 0 33) - (1 : Int32))) ∧ ((Mm1.1 64 0 ((Mm1.1 10 0 33) - (1 : Int32)).toNatClampNeg) = 0 → s_X12_testEnds_38 P K0 Mm1 (1 : Int32) ((Mm1.1 10 0 33) - (1 : Int32))))))
def s_X12_testEnds (M : Mem) (P : Mem → Prop) : Prop :=
  ∃ n, Lz (fun (K0 : Mem → Prop) (a : Mem) => s_X12_testEnds_0 P K0 a) n M
abbrev rm_X12_testEnds : Room := { frames := 1, cells := 0, slots := 0, locals := 20 }
set_option maxHeartbeats 4000000 in
set_option maxRecDepth 100000 in
theorem c_X12_testEnds (l : Launch) {G : Gn} {M : Mem} {P : Mem → Prop} : MQv l yX12_testEnds cX12_testEnds 1 none rm_X12_testEnds [.ref (ad G 10 0)] G M (s_X12_testEnds M P) P := by
  refine m_enter (by decide +kernel) (Nat.le_of_ble_eq_true rfl) ?_
  intro p e s m below meth c ls H locs S hret hlocks hname hK hbs hW hS hl h
  obtain ⟨AV, hAV⟩ : ∃ z : Array Value, z = ([.ref (ad G 10 0)] : List Value).toArray := ⟨_, rfl⟩
  rw [← hAV] at S ⊢
  replace S : CallFix p m c cX12_testEnds 1 s AV lw_G "MilkDeskModel" := S
  have hx := S.1
  have hb := S.2.1
  have hml := S.2.2.1
  have hown := S.2.2.2.1
  have hts := S.2.2.2.2
  replace hl : lv_has ls 1 [(0, .ref (ad G 10 0))] := hl
  have w0 : ∀ (n : Nat) (a : Mem), Lz (fun (K0 : Mem → Prop) (a : Mem) => s_X12_testEnds_0 P K0 a) n a → ∀ (H : Heap) (locs : List Loc) (ls : Array Slot), WPm G a H → va_S (fun q => bs G ≤ q) s.heap H locs → lv_has ls 1 [(0, .ref (ad G 10 0))] → W p l e rm_X12_testEnds s m AV below meth c H locs 0 0 (MQ below (va_Qv P (WS G) (fun q => bs G ≤ q)) AV s 0 0 (fun q => bs G ≤ q)) (F0 m 0 ls []) := by
    refine Lz_walk ?_
    rintro K0 kk0 M h H locs ls hW hS hl
    replace h : s_X12_testEnds_0 P K0 M  := h
    replace hW : WPm G M H := hW
    replace hl : lv_has ls 1 [(0, .ref (ad G 10 0))] := hl
    have b38 : ∀ (M : Mem) (y0 : Int32) (y1 : Int32) (H : Heap) (locs : List Loc) (ls : Array Slot), WPm G M H → va_S (fun q => bs G ≤ q) s.heap H locs → lv_has ls 1 [(0, .ref (ad G 10 0))] → s_X12_testEnds_38 P K0 M y0 y1 → W p l e rm_X12_testEnds s m AV below meth c H locs 0 0 (MQ below (va_Qv P (WS G) (fun q => bs G ≤ q)) AV s 0 0 (fun q => bs G ≤ q)) (F0 m 38 ls [.int y0, .int y1, .ref (ad G 64 0)]) := by
      intro M y0 y1 H locs ls hW hS hl h
      unfold s_X12_testEnds_38 at h
      obtain ⟨hb38, h⟩ := h
      refine m_zast S hK (ar_64 G) hW hS (ci_64 (Nat.le_of_ble_eq_true rfl)) hb38 dX12_testEnds_38 (fun Mm38 eMm38 H locs hW hS => ?_)
      replace h := h Mm38 eMm38
      refine lv_aload_n hx hb dX12_testEnds_39 rfl (lv_at hl 0 rfl) ?_
      refine lv_dup hx hb dX12_testEnds_40 rfl ?_
      refine m_geti S hK fk_X12_215 (gi_10_35 G) hW (ci_10 (Nat.le_of_ble_eq_true rfl)) dX12_testEnds_41 ?_
      refine lv_iconst hx hb dX12_testEnds_44 ki_1 ?_
      refine lv_isub hx hb dX12_testEnds_45 ?_
      refine m_put S hK fk_X12_215 tyX12_ok nmX12 rfl pf_X12_35 (pv_10_35 G) hW hS (ci_10 (Nat.le_of_ble_eq_true rfl)) rfl rfl dX12_testEnds_46 (fun Mm46 eMm46 H locs hW hS => ?_)
      replace h := h Mm46 eMm46
      refine lv_goto (tgt := 0) hx hb dX12_testEnds_49 (by decide) ?_
      exact kk0 _ h H locs ls hW hS (lv_sub hl [0] rfl)
    unfold s_X12_testEnds_0 at h
    refine lv_aload_n hx hb dX12_testEnds_0 rfl (lv_at hl 0 rfl) ?_
    refine m_ci0 (m_rV S hK hW (m_szH hbs hS) (c_X12_topSign l ) h lk_X12_218 (m_recv hK hW (ci_10 (Nat.le_of_ble_eq_true rfl)) (rc_10 G) rfl) rfl hl.1 rfl ⟨Nat.le_of_ble_eq_true rfl, Nat.le_of_ble_eq_true rfl⟩ (Nat.le_of_ble_eq_true rfl) ⟨Nat.zero_le _, Nat.zero_le _⟩ dX12_testEnds_1) hS rfl rfl (fun rr1 Mm1 H locs h hW hS => ?_)
    refine lv_bipush hx hb dX12_testEnds_4 kb_33 ?_
    refine lv_icmp_ne (tgt := 52) hx hb dX12_testEnds_6 (by decide) (fun c6 => ?_) (fun c6 => ?_)
    · replace h := h.1 c6
      exact m_vret S hret hlocks hK hW hbs hS h dX12_testEnds_52
    · replace h := h.2 c6
      refine lv_aload_n hx hb dX12_testEnds_9 rfl (lv_at hl 0 rfl) ?_
      refine m_getr S hK fk_X12_74 (gr_10_32 G 0) hW (ci_10 (Nat.le_of_ble_eq_true rfl)) dX12_testEnds_10 ?_
      refine lv_aload_n hx hb dX12_testEnds_13 rfl (lv_at hl 0 rfl) ?_
      refine m_geti S hK fk_X12_221 (gi_10_33 G) hW (ci_10 (Nat.le_of_ble_eq_true rfl)) dX12_testEnds_14 ?_
      refine lv_iconst hx hb dX12_testEnds_17 ki_1 ?_
      refine lv_isub hx hb dX12_testEnds_18 ?_
      refine lv_aload_n hx hb dX12_testEnds_19 rfl (lv_at hl 0 rfl) ?_
      refine m_getr S hK fk_X12_74 (gr_10_32 G 0) hW (ci_10 (Nat.le_of_ble_eq_true rfl)) dX12_testEnds_20 ?_
      refine lv_aload_n hx hb dX12_testEnds_23 rfl (lv_at hl 0 rfl) ?_
      refine m_geti S hK fk_X12_221 (gi_10_33 G) hW (ci_10 (Nat.le_of_ble_eq_true rfl)) dX12_testEnds_24 ?_
      refine lv_iconst hx hb dX12_testEnds_27 ki_1 ?_
      refine lv_isub hx hb dX12_testEnds_28 ?_
      obtain ⟨hb29, h⟩ := h
      refine m_zald S hK (ar_64 G) hW (ci_64 (Nat.le_of_ble_eq_true rfl)) hb29 dX12_testEnds_29 ?_
      refine lv_if_ne (tgt := 37) hx hb dX12_testEnds_30 (by decide) (fun c30 => ?_) (fun c30 => ?_)
      · replace h := h.1 c30
        refine lv_iconst hx hb dX12_testEnds_37 ki_0 ?_
        exact b38 _ _ _ H locs ls hW hS (lv_sub hl [0] rfl) h
      · replace h := h.2 c30
        refine lv_iconst hx hb dX12_testEnds_33 ki_1 ?_
        refine lv_goto (tgt := 38) hx hb dX12_testEnds_34 (by decide) ?_
        exact b38 _ _ _ H locs ls hW hS (lv_sub hl [0] rfl) h
  unfold s_X12_testEnds at h
  obtain ⟨n0, h⟩ := h
  exact w0 n0 _ h H locs ls hW hS (lv_sub hl [0] rfl)
def s_X12_join_99 (x1 : Int32) (P : Mem → Prop) (K0 : Mem → Prop) (M : Mem) (y0 : Int32) (y1 : Int32) : Prop :=
  vp_in y1 100 ∧ (∀ Mm99 : Mem, Mm99 = wI M 64 0 (y1.toNatClampNeg) (vp_nar .boolean y0) → ∀ Mm107 : Mem, Mm107 = wI Mm99 10 0 35 ((Mm99.1 10 0 35) - (1 : Int32)) → K0 Mm107)
def s_X12_join_0 (x1 : Int32) (P : Mem → Prop) (K0 : Mem → Prop) (M : Mem) : Prop :=
  s_X12_topSign M (fun rr1 Mm1 => (¬ rr1 = x1 → P Mm1) ∧ (rr1 = x1 → ∀ Mm15 : Mem, Mm15 = wI Mm1 10 0 33 ((Mm1.1 10 0 33) - (1 : Int32)) → (¬ x1 = (38 : Int32) → vp_in ((Mm15.1 10 0 33) - (1 : Int32)) 100 ∧ ((¬ (Mm15.1 64 0 ((Mm15.1 10 0 33) - (1 : Int32)).toNatClampNeg) = 0 → s_X12_join_99 x1 P K0 Mm15 (1 : Int32) ((Mm15.1 10 0 33) - (1 : Int32))) ∧ ((Mm15.1 64 0 ((Mm15.1 10 0 33) - (1 : Int32)).toNatClampNeg) = 0 → vp_in (Mm15.1 10 0 33) 100 ∧ (((Mm15.1 64 0 (Mm15.1 10 0 33).toNatClampNeg) = 0 → s_X12_join_99 x1 P K0 Mm15 (0 : Int32) ((Mm15.1 10 0 33) - (1 : Int32))) ∧ (¬ (Mm15.1 64 0 (Mm15.1 10 0 33).toNatClampNeg) = 0 → s_X12_join_99 x1 P K0 Mm15 (1 : Int32) ((Mm15.1 10 0 33) - (1 : Int32))))))) ∧ (x1 = (38 : Int32) → vp_in ((Mm15.1 10 0 33) - (1 : Int32)) 100 ∧ (((Mm15.1 64 0 ((Mm15.1 10 0 33) - (1 : Int32)).toNatClampNeg) = 0 → s_X12_join_99 x1 P K0 Mm15 (0 : Int32) ((Mm15.1 10 0 33) - (1 : Int32))) ∧ (¬ (Mm15.1 64 0 ((Mm15.1 10 0 33) - (1 : Int32)).toNatClampNeg) = 0 → vp_in (Mm15.1 10 0 33) 100 ∧ (((Mm15.1 64 0 (Mm15.1 10 0 33).toNatClampNeg) = 0 → s_X12_join_99 x1 P K0 Mm15 (0 : Int32) ((Mm15.1 10 0 33) - (1 : Int32))) ∧ (¬ (Mm15.1 64 0 (Mm15.1 10 0 33).toNatClampNeg) = 0 → s_X12_join_99 x1 P K0 Mm15 (1 : Int32) ((Mm15.1 10 0 33) - (1 : Int32)))))))))
def s_X12_join (M : Mem) (x1 : Int32) (P : Mem → Prop) : Prop :=
  ∃ n, Lz (fun (K0 : Mem → Prop) (a : Mem) => s_X12_join_0 x1 P K0 a) n M
abbrev rm_X12_join : Room := { frames := 1, cells := 0, slots := 0, locals := 20 }
set_option maxHeartbeats 4000000 in
set_option maxRecDepth 100000 in
theorem c_X12_join (l : Launch) {G : Gn} {M : Mem} {x1 : Int32} {P : Mem → Prop} : MQv l yX12_join cX12_join 2 none rm_X12_join [.ref (ad G 10 0), .int x1] G M (s_X12_join M x1 P) P := by
  refine m_enter (by decide +kernel) (Nat.le_of_ble_eq_true rfl) ?_
  intro p e s m below meth c ls H locs S hret hlocks hname hK hbs hW hS hl h
  obtain ⟨AV, hAV⟩ : ∃ z : Array Value, z = ([.ref (ad G 10 0), .int x1] : List Value).toArray := ⟨_, rfl⟩
  rw [← hAV] at S ⊢
  replace S : CallFix p m c cX12_join 2 s AV lw_G "MilkDeskModel" := S
  have hx := S.1
  have hb := S.2.1
  have hml := S.2.2.1
  have hown := S.2.2.2.1
  have hts := S.2.2.2.2
  replace hl : lv_has ls 2 [(0, .ref (ad G 10 0)), (1, .int x1)] := hl
  have w0 : ∀ (n : Nat) (a : Mem), Lz (fun (K0 : Mem → Prop) (a : Mem) => s_X12_join_0 x1 P K0 a) n a → ∀ (H : Heap) (locs : List Loc) (ls : Array Slot), WPm G a H → va_S (fun q => bs G ≤ q) s.heap H locs → lv_has ls 2 [(0, .ref (ad G 10 0)), (1, .int x1)] → W p l e rm_X12_join s m AV below meth c H locs 0 0 (MQ below (va_Qv P (WS G) (fun q => bs G ≤ q)) AV s 0 0 (fun q => bs G ≤ q)) (F0 m 0 ls []) := by
    refine Lz_walk ?_
    rintro K0 kk0 M h H locs ls hW hS hl
    replace h : s_X12_join_0 x1 P K0 M  := h
    replace hW : WPm G M H := hW
    replace hl : lv_has ls 2 [(0, .ref (ad G 10 0)), (1, .int x1)] := hl
    have b99 : ∀ (M : Mem) (y0 : Int32) (y1 : Int32) (H : Heap) (locs : List Loc) (ls : Array Slot), WPm G M H → va_S (fun q => bs G ≤ q) s.heap H locs → lv_has ls 2 [(0, .ref (ad G 10 0)), (1, .int x1)] → s_X12_join_99 x1 P K0 M y0 y1 → W p l e rm_X12_join s m AV below meth c H locs 0 0 (MQ below (va_Qv P (WS G) (fun q => bs G ≤ q)) AV s 0 0 (fun q => bs G ≤ q)) (F0 m 99 ls [.int y0, .int y1, .ref (ad G 64 0)]) := by
      intro M y0 y1 H locs ls hW hS hl h
      unfold s_X12_join_99 at h
      obtain ⟨hb99, h⟩ := h
      refine m_zast S hK (ar_64 G) hW hS (ci_64 (Nat.le_of_ble_eq_true rfl)) hb99 dX12_join_99 (fun Mm99 eMm99 H locs hW hS => ?_)
      replace h := h Mm99 eMm99
      refine lv_aload_n hx hb dX12_join_100 rfl (lv_at hl 0 rfl) ?_
      refine lv_dup hx hb dX12_join_101 rfl ?_
      refine m_geti S hK fk_X12_215 (gi_10_35 G) hW (ci_10 (Nat.le_of_ble_eq_true rfl)) dX12_join_102 ?_
      refine lv_iconst hx hb dX12_join_105 ki_1 ?_
      refine lv_isub hx hb dX12_join_106 ?_
      refine m_put S hK fk_X12_215 tyX12_ok nmX12 rfl pf_X12_35 (pv_10_35 G) hW hS (ci_10 (Nat.le_of_ble_eq_true rfl)) rfl rfl dX12_join_107 (fun Mm107 eMm107 H locs hW hS => ?_)
      replace h := h Mm107 eMm107
      refine lv_goto (tgt := 0) hx hb dX12_join_110 (by decide) ?_
      exact kk0 _ h H locs ls hW hS (lv_sub hl [0, 1] rfl)
    unfold s_X12_join_0 at h
    refine lv_aload_n hx hb dX12_join_0 rfl (lv_at hl 0 rfl) ?_
    refine m_ci0 (m_rV S hK hW (m_szH hbs hS) (c_X12_topSign l ) h lk_X12_218 (m_recv hK hW (ci_10 (Nat.le_of_ble_eq_true rfl)) (rc_10 G) rfl) rfl hl.1 rfl ⟨Nat.le_of_ble_eq_true rfl, Nat.le_of_ble_eq_true rfl⟩ (Nat.le_of_ble_eq_true rfl) ⟨Nat.zero_le _, Nat.zero_le _⟩ dX12_join_1) hS rfl rfl (fun rr1 Mm1 H locs h hW hS => ?_)
    refine lv_iload_n hx hb dX12_join_4 rfl (lv_at hl 1 rfl) ?_
    refine lv_icmp_ne (tgt := 113) hx hb dX12_join_5 (by decide) (fun c5 => ?_) (fun c5 => ?_)
    · replace h := h.1 c5
      exact m_vret S hret hlocks hK hW hbs hS h dX12_join_113
    · replace h := h.2 c5
      refine lv_aload_n hx hb dX12_join_8 rfl (lv_at hl 0 rfl) ?_
      refine lv_dup hx hb dX12_join_9 rfl ?_
      refine m_geti S hK fk_X12_221 (gi_10_33 G) hW (ci_10 (Nat.le_of_ble_eq_true rfl)) dX12_join_10 ?_
      refine lv_iconst hx hb dX12_join_13 ki_1 ?_
      refine lv_isub hx hb dX12_join_14 ?_
      refine m_put S hK fk_X12_221 tyX12_ok nmX12 rfl pf_X12_33 (pv_10_33 G) hW hS (ci_10 (Nat.le_of_ble_eq_true rfl)) rfl rfl dX12_join_15 (fun Mm15 eMm15 H locs hW hS => ?_)
      replace h := h Mm15 eMm15
      refine lv_aload_n hx hb dX12_join_18 rfl (lv_at hl 0 rfl) ?_
      refine m_getr S hK fk_X12_74 (gr_10_32 G 0) hW (ci_10 (Nat.le_of_ble_eq_true rfl)) dX12_join_19 ?_
      refine lv_aload_n hx hb dX12_join_22 rfl (lv_at hl 0 rfl) ?_
      refine m_geti S hK fk_X12_221 (gi_10_33 G) hW (ci_10 (Nat.le_of_ble_eq_true rfl)) dX12_join_23 ?_
      refine lv_iconst hx hb dX12_join_26 ki_1 ?_
      refine lv_isub hx hb dX12_join_27 ?_
      refine lv_iload_n hx hb dX12_join_28 rfl (lv_at hl 1 rfl) ?_
      refine lv_bipush hx hb dX12_join_29 kb_38 ?_
      refine lv_icmp_ne (tgt := 68) hx hb dX12_join_31 (by decide) (fun c31 => ?_) (fun c31 => ?_)
      · replace h := h.1 c31
        refine lv_aload_n hx hb dX12_join_68 rfl (lv_at hl 0 rfl) ?_
        refine m_getr S hK fk_X12_74 (gr_10_32 G 0) hW (ci_10 (Nat.le_of_ble_eq_true rfl)) dX12_join_69 ?_
        refine lv_aload_n hx hb dX12_join_72 rfl (lv_at hl 0 rfl) ?_
        refine m_geti S hK fk_X12_221 (gi_10_33 G) hW (ci_10 (Nat.le_of_ble_eq_true rfl)) dX12_join_73 ?_
        refine lv_iconst hx hb dX12_join_76 ki_1 ?_
        refine lv_isub hx hb dX12_join_77 ?_
        obtain ⟨hb78, h⟩ := h
        refine m_zald S hK (ar_64 G) hW (ci_64 (Nat.le_of_ble_eq_true rfl)) hb78 dX12_join_78 ?_
        refine lv_if_ne (tgt := 94) hx hb dX12_join_79 (by decide) (fun c79 => ?_) (fun c79 => ?_)
        · replace h := h.1 c79
          refine lv_iconst hx hb dX12_join_94 ki_1 ?_
          refine lv_goto (tgt := 99) hx hb dX12_join_95 (by decide) ?_
          exact b99 _ _ _ H locs ls hW hS (lv_sub hl [0, 1] rfl) h
        · replace h := h.2 c79
          refine lv_aload_n hx hb dX12_join_82 rfl (lv_at hl 0 rfl) ?_
          refine m_getr S hK fk_X12_74 (gr_10_32 G 0) hW (ci_10 (Nat.le_of_ble_eq_true rfl)) dX12_join_83 ?_
          refine lv_aload_n hx hb dX12_join_86 rfl (lv_at hl 0 rfl) ?_
          refine m_geti S hK fk_X12_221 (gi_10_33 G) hW (ci_10 (Nat.le_of_ble_eq_true rfl)) dX12_join_87 ?_
          obtain ⟨hb90, h⟩ := h
          refine m_zald S hK (ar_64 G) hW (ci_64 (Nat.le_of_ble_eq_true rfl)) hb90 dX12_join_90 ?_
          refine lv_if_eq (tgt := 98) hx hb dX12_join_91 (by decide) (fun c91 => ?_) (fun c91 => ?_)
          · replace h := h.1 c91
            refine lv_iconst hx hb dX12_join_98 ki_0 ?_
            exact b99 _ _ _ H locs ls hW hS (lv_sub hl [0, 1] rfl) h
          · replace h := h.2 c91
            refine lv_iconst hx hb dX12_join_94 ki_1 ?_
            refine lv_goto (tgt := 99) hx hb dX12_join_95 (by decide) ?_
            exact b99 _ _ _ H locs ls hW hS (lv_sub hl [0, 1] rfl) h
      · replace h := h.2 c31
        refine lv_aload_n hx hb dX12_join_34 rfl (lv_at hl 0 rfl) ?_
        refine m_getr S hK fk_X12_74 (gr_10_32 G 0) hW (ci_10 (Nat.le_of_ble_eq_true rfl)) dX12_join_35 ?_
        refine lv_aload_n hx hb dX12_join_38 rfl (lv_at hl 0 rfl) ?_
        refine m_geti S hK fk_X12_221 (gi_10_33 G) hW (ci_10 (Nat.le_of_ble_eq_true rfl)) dX12_join_39 ?_
        refine lv_iconst hx hb dX12_join_42 ki_1 ?_
        refine lv_isub hx hb dX12_join_43 ?_
        obtain ⟨hb44, h⟩ := h
        refine m_zald S hK (ar_64 G) hW (ci_64 (Nat.le_of_ble_eq_true rfl)) hb44 dX12_join_44 ?_
        refine lv_if_eq (tgt := 64) hx hb dX12_join_45 (by decide) (fun c45 => ?_) (fun c45 => ?_)
        · replace h := h.1 c45
          refine lv_iconst hx hb dX12_join_64 ki_0 ?_
          refine lv_goto (tgt := 99) hx hb dX12_join_65 (by decide) ?_
          exact b99 _ _ _ H locs ls hW hS (lv_sub hl [0, 1] rfl) h
        · replace h := h.2 c45
          refine lv_aload_n hx hb dX12_join_48 rfl (lv_at hl 0 rfl) ?_
          refine m_getr S hK fk_X12_74 (gr_10_32 G 0) hW (ci_10 (Nat.le_of_ble_eq_true rfl)) dX12_join_49 ?_
          refine lv_aload_n hx hb dX12_join_52 rfl (lv_at hl 0 rfl) ?_
          refine m_geti S hK fk_X12_221 (gi_10_33 G) hW (ci_10 (Nat.le_of_ble_eq_true rfl)) dX12_join_53 ?_
          obtain ⟨hb56, h⟩ := h
          refine m_zald S hK (ar_64 G) hW (ci_64 (Nat.le_of_ble_eq_true rfl)) hb56 dX12_join_56 ?_
          refine lv_if_eq (tgt := 64) hx hb dX12_join_57 (by decide) (fun c57 => ?_) (fun c57 => ?_)
          · replace h := h.1 c57
            refine lv_iconst hx hb dX12_join_64 ki_0 ?_
            refine lv_goto (tgt := 99) hx hb dX12_join_65 (by decide) ?_
            exact b99 _ _ _ H locs ls hW hS (lv_sub hl [0, 1] rfl) h
          · replace h := h.2 c57
            refine lv_iconst hx hb dX12_join_60 ki_1 ?_
            refine lv_goto (tgt := 99) hx hb dX12_join_61 (by decide) ?_
            exact b99 _ _ _ H locs ls hW hS (lv_sub hl [0, 1] rfl) h
  unfold s_X12_join at h
  obtain ⟨n0, h⟩ := h
  exact w0 n0 _ h H locs ls hW hS (lv_sub hl [0, 1] rfl)
def s_X12_readOr_409 (P : Int32 → Mem → Prop) (M : Mem) : Prop :=
  (¬ (M.1 10 0 27) = 0 → P (0 : Int32) M) ∧ ((M.1 10 0 27) = 0 → ((M.1 64 0 0) = 0 → P (0 : Int32) M) ∧ (¬ (M.1 64 0 0) = 0 → P (1 : Int32) M))
def s_X12_readOr_406 (P : Int32 → Mem → Prop) (M : Mem) (y0 : Int32) : Prop :=
  isB y0 ∧ (∀ Mm406 : Mem, Mm406 = wI M 10 0 27 y0 → s_X12_readOr_409 P Mm406)
def s_X12_readOr_374 (P : Int32 → Mem → Prop) (M : Mem) : Prop :=
  (¬ (M.1 10 0 27) = 0 → s_X12_readOr_409 P M) ∧ ((M.1 10 0 27) = 0 → s_X12_join M (38 : Int32) (fun Mm384 => s_X12_join Mm384 (124 : Int32) (fun Mm390 => ((Mm390.1 10 0 35) ≤ 0 → s_X12_readOr_406 P Mm390 (0 : Int32)) ∧ (¬ (Mm390.1 10 0 35) ≤ 0 → s_X12_readOr_406 P Mm390 (1 : Int32)))))
def s_X12_readOr_323 (x1 : Int32) (P : Int32 → Mem → Prop) (K19 : Mem × Int32 × Int32 → Prop) (M : Mem) (x2 : Int32) (x3 : Int32) (y0 : Int32) : Prop :=
  isB y0 ∧ (∀ Mm323 : Mem, Mm323 = wI M 10 0 27 y0 → (¬ (Mm323.1 10 0 27) = 0 → K19 (Mm323, x2, x3)) ∧ ((Mm323.1 10 0 27) = 0 → (¬ x3 = 0 → K19 (Mm323, x2, x3)) ∧ (x3 = 0 → ∀ Mm344 : Mem, Mm344 = wI Mm323 10 0 35 ((Mm323.1 10 0 35) - (1 : Int32)) → ∀ Mm354 : Mem, Mm354 = wI Mm344 10 0 28 ((Mm344.1 10 0 28) - (1 : Int32)) → ∀ Mm364 : Mem, Mm364 = wI Mm354 10 0 26 ((Mm354.1 10 0 26) + (1 : Int32)) → s_X12_testEnds Mm364 (fun Mm368 => K19 (Mm368, x2, x3)))))
def s_X12_readOr_296 (x1 : Int32) (P : Int32 → Mem → Prop) (K19 : Mem × Int32 × Int32 → Prop) (M : Mem) (x2 : Int32) (x4 : Int32) (y0 : Int32) : Prop :=
  (¬ y0 = 0 → s_X12_readOr_323 x1 P K19 M x2 y0 (0 : Int32)) ∧ (y0 = 0 → (¬ x4 = (41 : Int32) → s_X12_readOr_323 x1 P K19 M x2 y0 (1 : Int32)) ∧ (x4 = (41 : Int32) → s_X12_topSign M (fun rr310 Mm310 => (rr310 = (40 : Int32) → s_X12_readOr_323 x1 P K19 Mm310 x2 y0 (0 : Int32)) ∧ (¬ rr310 = (40 : Int32) → s_X12_readOr_323 x1 P K19 Mm310 x2 y0 (1 : Int32)))))
def s_X12_readOr_225 (x1 : Int32) (P : Int32 → Mem → Prop) (K19 : Mem × Int32 × Int32 → Prop) (M : Mem) (x3 : Int32) (x4 : Int32) : Prop :=
  vp_in (M.1 10 0 35) 200 ∧ (∀ Mm235 : Mem, Mm235 = wI M 65 0 ((M.1 10 0 35).toNatClampNeg) x4 → ∀ Mm243 : Mem, Mm243 = wI Mm235 10 0 35 ((Mm235.1 10 0 35) + (1 : Int32)) → ∀ Mm253 : Mem, Mm253 = wI Mm243 10 0 26 ((Mm243.1 10 0 26) + (1 : Int32)) → K19 (Mm253, (1 : Int32), x3))
def s_X12_readOr_206 (x1 : Int32) (P : Int32 → Mem → Prop) (K19 : Mem × Int32 × Int32 → Prop) (M : Mem) (x3 : Int32) (x4 : Int32) : Prop :=
  s_X12_join M (38 : Int32) (fun Mm209 => (¬ x4 = (124 : Int32) → s_X12_readOr_225 x1 P K19 Mm209 x3 x4) ∧ (x4 = (124 : Int32) → s_X12_join Mm209 (124 : Int32) (fun Mm222 => s_X12_readOr_225 x1 P K19 Mm222 x3 x4)))
def s_X12_readOr_156 (x1 : Int32) (P : Int32 → Mem → Prop) (K19 : Mem × Int32 × Int32 → Prop) (M : Mem) (x2 : Int32) (x3 : Int32) (x4 : Int32) : Prop :=
  (x2 = 0 → (x4 = (38 : Int32) → s_X12_readOr_206 x1 P K19 M x3 x4) ∧ (¬ x4 = (38 : Int32) → (¬ x4 = (124 : Int32) → s_X12_join M (38 : Int32) (fun Mm264 => s_X12_join Mm264 (124 : Int32) (fun Mm270 => (¬ x4 = (117 : Int32) → s_X12_readOr_296 x1 P K19 Mm270 x2 x4 (0 : Int32)) ∧ (x4 = (117 : Int32) → (x1 = 0 → s_X12_readOr_296 x1 P K19 Mm270 x2 x4 (0 : Int32)) ∧ (¬ x1 = 0 → (¬ (Mm270.1 10 0 35) = 0 → s_X12_readOr_296 x1 P K19 Mm270 x2 x4 (0 : Int32)) ∧ ((Mm270.1 10 0 35) = 0 → s_X12_readOr_296 x1 P K19 Mm270 x2 x4 (1 : Int32))))))) ∧ (x4 = (124 : Int32) → s_X12_readOr_206 x1 P K19 M x3 x4))) ∧ (¬ x2 = 0 → s_X12_readTest M (fun rr169 Mm169 => vp_in (M.1 10 0 33) 100 ∧ (∀ Mm172 : Mem, Mm172 = wI Mm169 64 0 ((M.1 10 0 33).toNatClampNeg) (vp_nar .boolean rr169) → ∀ Mm180 : Mem, Mm180 = wI Mm172 10 0 33 ((Mm172.1 10 0 33) + (1 : Int32)) → s_X12_testEnds Mm180 (fun Mm186 => K19 (Mm186, (0 : Int32), x3)))))
def s_X12_readOr_118 (x1 : Int32) (P : Int32 → Mem → Prop) (K19 : Mem × Int32 × Int32 → Prop) (M : Mem) (x2 : Int32) (x3 : Int32) (x4 : Int32) (y0 : Int32) (y1 : Int32) : Prop :=
  ∀ Mm119 : Mem, Mm119 = wI M 10 0 28 (y1 + y0) → vp_in (Mm119.1 10 0 35) 200 ∧ (∀ Mm132 : Mem, Mm132 = wI Mm119 65 0 ((Mm119.1 10 0 35).toNatClampNeg) x4 → ∀ Mm140 : Mem, Mm140 = wI Mm132 10 0 35 ((Mm132.1 10 0 35) + (1 : Int32)) → ∀ Mm150 : Mem, Mm150 = wI Mm140 10 0 26 ((Mm140.1 10 0 26) + (1 : Int32)) → K19 (Mm150, x2, x3))
def s_X12_readOr_91 (x1 : Int32) (P : Int32 → Mem → Prop) (K19 : Mem × Int32 × Int32 → Prop) (M : Mem) (x2 : Int32) (x3 : Int32) (x4 : Int32) (y0 : Int32) : Prop :=
  isB y0 ∧ (∀ Mm91 : Mem, Mm91 = wI M 10 0 27 y0 → (¬ (Mm91.1 10 0 27) = 0 → K19 (Mm91, x2, x3)) ∧ ((Mm91.1 10 0 27) = 0 → (¬ x4 = (40 : Int32) → s_X12_readOr_118 x1 P K19 Mm91 x2 x3 x4 (0 : Int32) (Mm91.1 10 0 28)) ∧ (x4 = (40 : Int32) → s_X12_readOr_118 x1 P K19 Mm91 x2 x3 x4 (1 : Int32) (Mm91.1 10 0 28))))
def s_X12_readOr_69 (x1 : Int32) (P : Int32 → Mem → Prop) (K19 : Mem × Int32 × Int32 → Prop) (M : Mem) (x2 : Int32) (x3 : Int32) (x4 : Int32) : Prop :=
  (¬ x4 = (40 : Int32) → s_X12_readOr_91 x1 P K19 M x2 x3 x4 (0 : Int32)) ∧ (x4 = (40 : Int32) → (¬ (M.1 10 0 28) = (8 : Int32) → s_X12_readOr_91 x1 P K19 M x2 x3 x4 (0 : Int32)) ∧ ((M.1 10 0 28) = (8 : Int32) → s_X12_readOr_91 x1 P K19 M x2 x3 x4 (1 : Int32)))
def s_X12_readOr_45 (x1 : Int32) (P : Int32 → Mem → Prop) (K19 : Mem × Int32 × Int32 → Prop) (M : Mem) (x2 : Int32) (x3 : Int32) : Prop :=
  s_X12_here M (fun rr46 Mm46 => (x2 = 0 → s_X12_readOr_156 x1 P K19 Mm46 x2 x3 rr46) ∧ (¬ x2 = 0 → (rr46 = (33 : Int32) → s_X12_readOr_69 x1 P K19 Mm46 x2 x3 rr46) ∧ (¬ rr46 = (33 : Int32) → (¬ rr46 = (40 : Int32) → s_X12_readOr_156 x1 P K19 Mm46 x2 x3 rr46) ∧ (rr46 = (40 : Int32) → s_X12_readOr_69 x1 P K19 Mm46 x2 x3 rr46))))
def s_X12_readOr_19 (x1 : Int32) (P : Int32 → Mem → Prop) (K19 : Mem × Int32 × Int32 → Prop) (M : Mem) (x2 : Int32) (x3 : Int32) : Prop :=
  (¬ (M.1 10 0 27) = 0 → s_X12_readOr_374 P M) ∧ ((M.1 10 0 27) = 0 → (¬ x3 = 0 → s_X12_readOr_374 P M) ∧ (x3 = 0 → (¬ x2 = 0 → s_X12_readOr_45 x1 P K19 M x2 x3) ∧ (x2 = 0 → ((M.1 10 0 25) ≤ (M.1 10 0 26) → s_X12_readOr_374 P M) ∧ (¬ (M.1 10 0 25) ≤ (M.1 10 0 26) → s_X12_readOr_45 x1 P K19 M x2 x3))))
def s_X12_readOr (M : Mem) (x1 : Int32) (P : Int32 → Mem → Prop) : Prop :=
  ∀ Mm2 : Mem, Mm2 = wI M 10 0 28 (0 : Int32) → ∀ Mm7 : Mem, Mm7 = wI Mm2 10 0 33 (0 : Int32) → ∀ Mm12 : Mem, Mm12 = wI Mm7 10 0 35 (0 : Int32) → ∃ n, Lz (fun (K19 : Mem × Int32 × Int32 → Prop) (a : Mem × Int32 × Int32) => s_X12_readOr_19 x1 P K19 a.1 a.2.1 a.2.2) n (Mm12, (1 : Int32), (0 : Int32))
abbrev rm_X12_readOr : Room := { frames := 6, cells := 0, slots := 0, locals := 138 }
set_option maxHeartbeats 4000000 in
set_option maxRecDepth 100000 in
theorem c_X12_readOr (l : Launch) {G : Gn} {M : Mem} {x1 : Int32} {P : Int32 → Mem → Prop} : MQi l yX12_readOr cX12_readOr 5 (some .boolean) rm_X12_readOr [.ref (ad G 10 0), .int x1] G M (s_X12_readOr M x1 P) P := by
  refine m_enter (by decide +kernel) (Nat.le_of_ble_eq_true rfl) ?_
  intro p e s m below meth c ls H locs S hret hlocks hname hK hbs hW hS hl h
  obtain ⟨AV, hAV⟩ : ∃ z : Array Value, z = ([.ref (ad G 10 0), .int x1] : List Value).toArray := ⟨_, rfl⟩
  rw [← hAV] at S ⊢
  replace S : CallFix p m c cX12_readOr 5 s AV lw_G "MilkDeskModel" := S
  have hx := S.1
  have hb := S.2.1
  have hml := S.2.2.1
  have hown := S.2.2.2.1
  have hts := S.2.2.2.2
  replace hl : lv_has ls 5 [(0, .ref (ad G 10 0)), (1, .int x1)] := hl
  have b409 : ∀ (M : Mem) (H : Heap) (locs : List Loc) (ls : Array Slot), WPm G M H → va_S (fun q => bs G ≤ q) s.heap H locs → lv_has ls 5 [(0, .ref (ad G 10 0))] → s_X12_readOr_409 P M  → W p l e rm_X12_readOr s m AV below meth c H locs 0 0 (MQ below (va_Qi P (WS G) (fun q => bs G ≤ q)) AV s 0 0 (fun q => bs G ≤ q)) (F0 m 409 ls []) := by
    intro M H locs ls hW hS hl h
    unfold s_X12_readOr_409 at h
    refine lv_aload_n hx hb dX12_readOr_409 rfl (lv_at hl 0 rfl) ?_
    refine m_geti S hK fk_X12_206 (gi_10_27 G) hW (ci_10 (Nat.le_of_ble_eq_true rfl)) dX12_readOr_410 ?_
    refine lv_if_ne (tgt := 429) hx hb dX12_readOr_413 (by decide) (fun c413 => ?_) (fun c413 => ?_)
    · replace h := h.1 c413
      refine lv_iconst hx hb dX12_readOr_429 ki_0 ?_
      exact m_iret S hret hlocks hK hW hbs hS rfl h dX12_readOr_430
    · replace h := h.2 c413
      refine lv_aload_n hx hb dX12_readOr_416 rfl (lv_at hl 0 rfl) ?_
      refine m_getr S hK fk_X12_74 (gr_10_32 G 0) hW (ci_10 (Nat.le_of_ble_eq_true rfl)) dX12_readOr_417 ?_
      refine lv_iconst hx hb dX12_readOr_420 ki_0 ?_
      refine m_zaldk S hK (ar_64 G) hW (ci_64 (Nat.le_of_ble_eq_true rfl)) kn_0 (Nat.le_of_ble_eq_true rfl) dX12_readOr_421 ?_
      refine lv_if_eq (tgt := 429) hx hb dX12_readOr_422 (by decide) (fun c422 => ?_) (fun c422 => ?_)
      · replace h := h.1 c422
        refine lv_iconst hx hb dX12_readOr_429 ki_0 ?_
        exact m_iret S hret hlocks hK hW hbs hS rfl h dX12_readOr_430
      · replace h := h.2 c422
        refine lv_iconst hx hb dX12_readOr_425 ki_1 ?_
        refine lv_goto (tgt := 430) hx hb dX12_readOr_426 (by decide) ?_
        exact m_iret S hret hlocks hK hW hbs hS rfl h dX12_readOr_430
  have b406 : ∀ (M : Mem) (y0 : Int32) (H : Heap) (locs : List Loc) (ls : Array Slot), WPm G M H → va_S (fun q => bs G ≤ q) s.heap H locs → lv_has ls 5 [(0, .ref (ad G 10 0))] → s_X12_readOr_406 P M y0 → W p l e rm_X12_readOr s m AV below meth c H locs 0 0 (MQ below (va_Qi P (WS G) (fun q => bs G ≤ q)) AV s 0 0 (fun q => bs G ≤ q)) (F0 m 406 ls [.int y0, .ref (ad G 10 0)]) := by
    intro M y0 H locs ls hW hS hl h
    unfold s_X12_readOr_406 at h
    obtain ⟨hn406, h⟩ := h
    refine m_put S hK fk_X12_206 tyX12_ok nmX12 rfl pf_X12_27 (pv_10_27 G) hW hS (ci_10 (Nat.le_of_ble_eq_true rfl)) (isB_n hn406) (isB_f hn406) dX12_readOr_406 (fun Mm406 eMm406 H locs hW hS => ?_)
    replace h := h Mm406 eMm406
    exact b409 _ H locs ls hW hS (lv_sub hl [0] rfl) h
  have b374 : ∀ (M : Mem) (H : Heap) (locs : List Loc) (ls : Array Slot), WPm G M H → va_S (fun q => bs G ≤ q) s.heap H locs → lv_has ls 5 [(0, .ref (ad G 10 0))] → s_X12_readOr_374 P M  → W p l e rm_X12_readOr s m AV below meth c H locs 0 0 (MQ below (va_Qi P (WS G) (fun q => bs G ≤ q)) AV s 0 0 (fun q => bs G ≤ q)) (F0 m 374 ls []) := by
    intro M H locs ls hW hS hl h
    unfold s_X12_readOr_374 at h
    refine lv_aload_n hx hb dX12_readOr_374 rfl (lv_at hl 0 rfl) ?_
    refine m_geti S hK fk_X12_206 (gi_10_27 G) hW (ci_10 (Nat.le_of_ble_eq_true rfl)) dX12_readOr_375 ?_
    refine lv_if_ne (tgt := 409) hx hb dX12_readOr_378 (by decide) (fun c378 => ?_) (fun c378 => ?_)
    · replace h := h.1 c378
      exact b409 _ H locs ls hW hS (lv_sub hl [0] rfl) h
    · replace h := h.2 c378
      refine lv_aload_n hx hb dX12_readOr_381 rfl (lv_at hl 0 rfl) ?_
      refine lv_bipush hx hb dX12_readOr_382 kb_38 ?_
      refine m_cv0 (m_rV S hK hW (m_szH hbs hS) (c_X12_join l ) h lk_X12_234 (m_recv hK hW (ci_10 (Nat.le_of_ble_eq_true rfl)) (rc_10 G) rfl) rfl hl.1 rfl ⟨Nat.le_of_ble_eq_true rfl, Nat.le_of_ble_eq_true rfl⟩ (Nat.le_of_ble_eq_true rfl) ⟨Nat.zero_le _, Nat.zero_le _⟩ dX12_readOr_384) hS rfl rfl (fun Mm384 H locs h hW hS => ?_)
      refine lv_aload_n hx hb dX12_readOr_387 rfl (lv_at hl 0 rfl) ?_
      refine lv_bipush hx hb dX12_readOr_388 kb_124 ?_
      refine m_cv0 (m_rV S hK hW (m_szH hbs hS) (c_X12_join l ) h lk_X12_234 (m_recv hK hW (ci_10 (Nat.le_of_ble_eq_true rfl)) (rc_10 G) rfl) rfl hl.1 rfl ⟨Nat.le_of_ble_eq_true rfl, Nat.le_of_ble_eq_true rfl⟩ (Nat.le_of_ble_eq_true rfl) ⟨Nat.zero_le _, Nat.zero_le _⟩ dX12_readOr_390) hS rfl rfl (fun Mm390 H locs h hW hS => ?_)
      refine lv_aload_n hx hb dX12_readOr_393 rfl (lv_at hl 0 rfl) ?_
      refine lv_aload_n hx hb dX12_readOr_394 rfl (lv_at hl 0 rfl) ?_
      refine m_geti S hK fk_X12_215 (gi_10_35 G) hW (ci_10 (Nat.le_of_ble_eq_true rfl)) dX12_readOr_395 ?_
      refine lv_if_le (tgt := 405) hx hb dX12_readOr_398 (by decide) (fun c398 => ?_) (fun c398 => ?_)
      · replace h := h.1 c398
        refine lv_iconst hx hb dX12_readOr_405 ki_0 ?_
        exact b406 _ _ H locs ls hW hS (lv_sub hl [0] rfl) h
      · replace h := h.2 c398
        refine lv_iconst hx hb dX12_readOr_401 ki_1 ?_
        refine lv_goto (tgt := 406) hx hb dX12_readOr_402 (by decide) ?_
        exact b406 _ _ H locs ls hW hS (lv_sub hl [0] rfl) h
  have w19 : ∀ (n : Nat) (a : Mem × Int32 × Int32), Lz (fun (K19 : Mem × Int32 × Int32 → Prop) (a : Mem × Int32 × Int32) => s_X12_readOr_19 x1 P K19 a.1 a.2.1 a.2.2) n a → ∀ (H : Heap) (locs : List Loc) (ls : Array Slot), WPm G a.1 H → va_S (fun q => bs G ≤ q) s.heap H locs → lv_has ls 5 [(0, .ref (ad G 10 0)), (1, .int x1), (2, .int a.2.1), (3, .int a.2.2)] → W p l e rm_X12_readOr s m AV below meth c H locs 0 0 (MQ below (va_Qi P (WS G) (fun q => bs G ≤ q)) AV s 0 0 (fun q => bs G ≤ q)) (F0 m 19 ls []) := by
    refine Lz_walk ?_
    rintro K19 kk19 ⟨M, x2, x3⟩ h H locs ls hW hS hl
    replace h : s_X12_readOr_19 x1 P K19 M x2 x3 := h
    replace hW : WPm G M H := hW
    replace hl : lv_has ls 5 [(0, .ref (ad G 10 0)), (1, .int x1), (2, .int x2), (3, .int x3)] := hl
    have b323 : ∀ (M : Mem) (x2 : Int32) (x3 : Int32) (y0 : Int32) (H : Heap) (locs : List Loc) (ls : Array Slot), WPm G M H → va_S (fun q => bs G ≤ q) s.heap H locs → lv_has ls 5 [(0, .ref (ad G 10 0)), (1, .int x1), (2, .int x2), (3, .int x3)] → s_X12_readOr_323 x1 P K19 M x2 x3 y0 → W p l e rm_X12_readOr s m AV below meth c H locs 0 0 (MQ below (va_Qi P (WS G) (fun q => bs G ≤ q)) AV s 0 0 (fun q => bs G ≤ q)) (F0 m 323 ls [.int y0, .ref (ad G 10 0)]) := by
      intro M x2 x3 y0 H locs ls hW hS hl h
      unfold s_X12_readOr_323 at h
      obtain ⟨hn323, h⟩ := h
      refine m_put S hK fk_X12_206 tyX12_ok nmX12 rfl pf_X12_27 (pv_10_27 G) hW hS (ci_10 (Nat.le_of_ble_eq_true rfl)) (isB_n hn323) (isB_f hn323) dX12_readOr_323 (fun Mm323 eMm323 H locs hW hS => ?_)
      replace h := h Mm323 eMm323
      refine lv_aload_n hx hb dX12_readOr_326 rfl (lv_at hl 0 rfl) ?_
      refine m_geti S hK fk_X12_206 (gi_10_27 G) hW (ci_10 (Nat.le_of_ble_eq_true rfl)) dX12_readOr_327 ?_
      refine lv_if_ne (tgt := 371) hx hb dX12_readOr_330 (by decide) (fun c330 => ?_) (fun c330 => ?_)
      · replace h := h.1 c330
        refine lv_goto (tgt := 19) hx hb dX12_readOr_371 (by decide) ?_
        exact kk19 _ h H locs ls hW hS (lv_sub hl [0, 1, 2, 3] rfl)
      · replace h := h.2 c330
        refine lv_iload_n hx hb dX12_readOr_333 rfl (lv_at hl 3 rfl) ?_
        refine lv_if_ne (tgt := 371) hx hb dX12_readOr_334 (by decide) (fun c334 => ?_) (fun c334 => ?_)
        · replace h := h.1 c334
          refine lv_goto (tgt := 19) hx hb dX12_readOr_371 (by decide) ?_
          exact kk19 _ h H locs ls hW hS (lv_sub hl [0, 1, 2, 3] rfl)
        · replace h := h.2 c334
          refine lv_aload_n hx hb dX12_readOr_337 rfl (lv_at hl 0 rfl) ?_
          refine lv_dup hx hb dX12_readOr_338 rfl ?_
          refine m_geti S hK fk_X12_215 (gi_10_35 G) hW (ci_10 (Nat.le_of_ble_eq_true rfl)) dX12_readOr_339 ?_
          refine lv_iconst hx hb dX12_readOr_342 ki_1 ?_
          refine lv_isub hx hb dX12_readOr_343 ?_
          refine m_put S hK fk_X12_215 tyX12_ok nmX12 rfl pf_X12_35 (pv_10_35 G) hW hS (ci_10 (Nat.le_of_ble_eq_true rfl)) rfl rfl dX12_readOr_344 (fun Mm344 eMm344 H locs hW hS => ?_)
          replace h := h Mm344 eMm344
          refine lv_aload_n hx hb dX12_readOr_347 rfl (lv_at hl 0 rfl) ?_
          refine lv_dup hx hb dX12_readOr_348 rfl ?_
          refine m_geti S hK fk_X12_224 (gi_10_28 G) hW (ci_10 (Nat.le_of_ble_eq_true rfl)) dX12_readOr_349 ?_
          refine lv_iconst hx hb dX12_readOr_352 ki_1 ?_
          refine lv_isub hx hb dX12_readOr_353 ?_
          refine m_put S hK fk_X12_224 tyX12_ok nmX12 rfl pf_X12_28 (pv_10_28 G) hW hS (ci_10 (Nat.le_of_ble_eq_true rfl)) rfl rfl dX12_readOr_354 (fun Mm354 eMm354 H locs hW hS => ?_)
          replace h := h Mm354 eMm354
          refine lv_aload_n hx hb dX12_readOr_357 rfl (lv_at hl 0 rfl) ?_
          refine lv_dup hx hb dX12_readOr_358 rfl ?_
          refine m_geti S hK fk_X12_167 (gi_10_26 G) hW (ci_10 (Nat.le_of_ble_eq_true rfl)) dX12_readOr_359 ?_
          refine lv_iconst hx hb dX12_readOr_362 ki_1 ?_
          refine lv_iadd hx hb dX12_readOr_363 ?_
          refine m_put S hK fk_X12_167 tyX12_ok nmX12 rfl pf_X12_26 (pv_10_26 G) hW hS (ci_10 (Nat.le_of_ble_eq_true rfl)) rfl rfl dX12_readOr_364 (fun Mm364 eMm364 H locs hW hS => ?_)
          replace h := h Mm364 eMm364
          refine lv_aload_n hx hb dX12_readOr_367 rfl (lv_at hl 0 rfl) ?_
          refine m_cv0 (m_rV S hK hW (m_szH hbs hS) (c_X12_testEnds l ) h lk_X12_231 (m_recv hK hW (ci_10 (Nat.le_of_ble_eq_true rfl)) (rc_10 G) rfl) rfl hl.1 rfl ⟨Nat.le_of_ble_eq_true rfl, Nat.le_of_ble_eq_true rfl⟩ (Nat.le_of_ble_eq_true rfl) ⟨Nat.zero_le _, Nat.zero_le _⟩ dX12_readOr_368) hS rfl rfl (fun Mm368 H locs h hW hS => ?_)
          refine lv_goto (tgt := 19) hx hb dX12_readOr_371 (by decide) ?_
          exact kk19 _ h H locs ls hW hS (lv_sub hl [0, 1, 2, 3] rfl)
    have b296 : ∀ (M : Mem) (x2 : Int32) (x4 : Int32) (y0 : Int32) (H : Heap) (locs : List Loc) (ls : Array Slot), WPm G M H → va_S (fun q => bs G ≤ q) s.heap H locs → lv_has ls 5 [(0, .ref (ad G 10 0)), (1, .int x1), (2, .int x2), (4, .int x4)] → s_X12_readOr_296 x1 P K19 M x2 x4 y0 → W p l e rm_X12_readOr s m AV below meth c H locs 0 0 (MQ below (va_Qi P (WS G) (fun q => bs G ≤ q)) AV s 0 0 (fun q => bs G ≤ q)) (F0 m 296 ls [.int y0]) := by
      intro M x2 x4 y0 H locs ls hW hS hl h
      unfold s_X12_readOr_296 at h
      refine lv_istore_n (lv' := [(3, .int y0), (0, .ref (ad G 10 0)), (1, .int x1), (2, .int x2), (4, .int x4)]) hx hb dX12_readOr_296 rfl hl (by decide) rfl (fun ls hl => ?_)
      refine lv_aload_n hx hb dX12_readOr_297 rfl (lv_at hl 1 rfl) ?_
      refine lv_iload_n hx hb dX12_readOr_298 rfl (lv_at hl 0 rfl) ?_
      refine lv_if_ne (tgt := 322) hx hb dX12_readOr_299 (by decide) (fun c299 => ?_) (fun c299 => ?_)
      · replace h := h.1 c299
        refine lv_iconst hx hb dX12_readOr_322 ki_0 ?_
        exact b323 _ _ _ _ H locs ls hW hS (lv_sub hl [1, 2, 3, 0] rfl) h
      · replace h := h.2 c299
        refine lv_iload hx hb dX12_readOr_302 (lv_at hl 4 rfl) ?_
        refine lv_bipush hx hb dX12_readOr_304 kb_41 ?_
        refine lv_icmp_ne (tgt := 318) hx hb dX12_readOr_306 (by decide) (fun c306 => ?_) (fun c306 => ?_)
        · replace h := h.1 c306
          refine lv_iconst hx hb dX12_readOr_318 ki_1 ?_
          refine lv_goto (tgt := 323) hx hb dX12_readOr_319 (by decide) ?_
          exact b323 _ _ _ _ H locs ls hW hS (lv_sub hl [1, 2, 3, 0] rfl) h
        · replace h := h.2 c306
          refine lv_aload_n hx hb dX12_readOr_309 rfl (lv_at hl 1 rfl) ?_
          refine m_ci0 (m_rV S hK hW (m_szH hbs hS) (c_X12_topSign l ) h lk_X12_218 (m_recv hK hW (ci_10 (Nat.le_of_ble_eq_true rfl)) (rc_10 G) rfl) rfl hl.1 rfl ⟨Nat.le_of_ble_eq_true rfl, Nat.le_of_ble_eq_true rfl⟩ (Nat.le_of_ble_eq_true rfl) ⟨Nat.zero_le _, Nat.zero_le _⟩ dX12_readOr_310) hS rfl rfl (fun rr310 Mm310 H locs h hW hS => ?_)
          refine lv_bipush hx hb dX12_readOr_313 kb_40 ?_
          refine lv_icmp_eq (tgt := 322) hx hb dX12_readOr_315 (by decide) (fun c315 => ?_) (fun c315 => ?_)
          · replace h := h.1 c315
            refine lv_iconst hx hb dX12_readOr_322 ki_0 ?_
            exact b323 _ _ _ _ H locs ls hW hS (lv_sub hl [1, 2, 3, 0] rfl) h
          · replace h := h.2 c315
            refine lv_iconst hx hb dX12_readOr_318 ki_1 ?_
            refine lv_goto (tgt := 323) hx hb dX12_readOr_319 (by decide) ?_
            exact b323 _ _ _ _ H locs ls hW hS (lv_sub hl [1, 2, 3, 0] rfl) h
    have b225 : ∀ (M : Mem) (x3 : Int32) (x4 : Int32) (H : Heap) (locs : List Loc) (ls : Array Slot), WPm G M H → va_S (fun q => bs G ≤ q) s.heap H locs → lv_has ls 5 [(0, .ref (ad G 10 0)), (1, .int x1), (3, .int x3), (4, .int x4)] → s_X12_readOr_225 x1 P K19 M x3 x4 → W p l e rm_X12_readOr s m AV below meth c H locs 0 0 (MQ below (va_Qi P (WS G) (fun q => bs G ≤ q)) AV s 0 0 (fun q => bs G ≤ q)) (F0 m 225 ls []) := by
      intro M x3 x4 H locs ls hW hS hl h
      unfold s_X12_readOr_225 at h
      refine lv_aload_n hx hb dX12_readOr_225 rfl (lv_at hl 0 rfl) ?_
      refine m_getr S hK fk_X12_78 (gr_10_34 G 0) hW (ci_10 (Nat.le_of_ble_eq_true rfl)) dX12_readOr_226 ?_
      refine lv_aload_n hx hb dX12_readOr_229 rfl (lv_at hl 0 rfl) ?_
      refine m_geti S hK fk_X12_215 (gi_10_35 G) hW (ci_10 (Nat.le_of_ble_eq_true rfl)) dX12_readOr_230 ?_
      refine lv_iload hx hb dX12_readOr_233 (lv_at hl 3 rfl) ?_
      obtain ⟨hb235, h⟩ := h
      refine m_ast S hK (ar_65 G) hW hS (ci_65 (Nat.le_of_ble_eq_true rfl)) hb235 dX12_readOr_235 (fun Mm235 eMm235 H locs hW hS => ?_)
      replace h := h Mm235 eMm235
      refine lv_aload_n hx hb dX12_readOr_236 rfl (lv_at hl 0 rfl) ?_
      refine lv_dup hx hb dX12_readOr_237 rfl ?_
      refine m_geti S hK fk_X12_215 (gi_10_35 G) hW (ci_10 (Nat.le_of_ble_eq_true rfl)) dX12_readOr_238 ?_
      refine lv_iconst hx hb dX12_readOr_241 ki_1 ?_
      refine lv_iadd hx hb dX12_readOr_242 ?_
      refine m_put S hK fk_X12_215 tyX12_ok nmX12 rfl pf_X12_35 (pv_10_35 G) hW hS (ci_10 (Nat.le_of_ble_eq_true rfl)) rfl rfl dX12_readOr_243 (fun Mm243 eMm243 H locs hW hS => ?_)
      replace h := h Mm243 eMm243
      refine lv_aload_n hx hb dX12_readOr_246 rfl (lv_at hl 0 rfl) ?_
      refine lv_dup hx hb dX12_readOr_247 rfl ?_
      refine m_geti S hK fk_X12_167 (gi_10_26 G) hW (ci_10 (Nat.le_of_ble_eq_true rfl)) dX12_readOr_248 ?_
      refine lv_iconst hx hb dX12_readOr_251 ki_1 ?_
      refine lv_iadd hx hb dX12_readOr_252 ?_
      refine m_put S hK fk_X12_167 tyX12_ok nmX12 rfl pf_X12_26 (pv_10_26 G) hW hS (ci_10 (Nat.le_of_ble_eq_true rfl)) rfl rfl dX12_readOr_253 (fun Mm253 eMm253 H locs hW hS => ?_)
      replace h := h Mm253 eMm253
      refine lv_iconst hx hb dX12_readOr_256 ki_1 ?_
      refine lv_istore_n (lv' := [(2, .int (1 : Int32)), (0, .ref (ad G 10 0)), (1, .int x1), (3, .int x3), (4, .int x4)]) hx hb dX12_readOr_257 rfl hl (by decide) rfl (fun ls hl => ?_)
      refine lv_goto (tgt := 371) hx hb dX12_readOr_258 (by decide) ?_
      refine lv_goto (tgt := 19) hx hb dX12_readOr_371 (by decide) ?_
      exact kk19 _ h H locs ls hW hS (lv_sub hl [1, 2, 0, 3] rfl)
    have b206 : ∀ (M : Mem) (x3 : Int32) (x4 : Int32) (H : Heap) (locs : List Loc) (ls : Array Slot), WPm G M H → va_S (fun q => bs G ≤ q) s.heap H locs → lv_has ls 5 [(0, .ref (ad G 10 0)), (1, .int x1), (3, .int x3), (4, .int x4)] → s_X12_readOr_206 x1 P K19 M x3 x4 → W p l e rm_X12_readOr s m AV below meth c H locs 0 0 (MQ below (va_Qi P (WS G) (fun q => bs G ≤ q)) AV s 0 0 (fun q => bs G ≤ q)) (F0 m 206 ls []) := by
      intro M x3 x4 H locs ls hW hS hl h
      unfold s_X12_readOr_206 at h
      refine lv_aload_n hx hb dX12_readOr_206 rfl (lv_at hl 0 rfl) ?_
      refine lv_bipush hx hb dX12_readOr_207 kb_38 ?_
      refine m_cv0 (m_rV S hK hW (m_szH hbs hS) (c_X12_join l ) h lk_X12_234 (m_recv hK hW (ci_10 (Nat.le_of_ble_eq_true rfl)) (rc_10 G) rfl) rfl hl.1 rfl ⟨Nat.le_of_ble_eq_true rfl, Nat.le_of_ble_eq_true rfl⟩ (Nat.le_of_ble_eq_true rfl) ⟨Nat.zero_le _, Nat.zero_le _⟩ dX12_readOr_209) hS rfl rfl (fun Mm209 H locs h hW hS => ?_)
      refine lv_iload hx hb dX12_readOr_212 (lv_at hl 3 rfl) ?_
      refine lv_bipush hx hb dX12_readOr_214 kb_124 ?_
      refine lv_icmp_ne (tgt := 225) hx hb dX12_readOr_216 (by decide) (fun c216 => ?_) (fun c216 => ?_)
      · replace h := h.1 c216
        exact b225 _ _ _ H locs ls hW hS (lv_sub hl [0, 1, 2, 3] rfl) h
      · replace h := h.2 c216
        refine lv_aload_n hx hb dX12_readOr_219 rfl (lv_at hl 0 rfl) ?_
        refine lv_bipush hx hb dX12_readOr_220 kb_124 ?_
        refine m_cv0 (m_rV S hK hW (m_szH hbs hS) (c_X12_join l ) h lk_X12_234 (m_recv hK hW (ci_10 (Nat.le_of_ble_eq_true rfl)) (rc_10 G) rfl) rfl hl.1 rfl ⟨Nat.le_of_ble_eq_true rfl, Nat.le_of_ble_eq_true rfl⟩ (Nat.le_of_ble_eq_true rfl) ⟨Nat.zero_le _, Nat.zero_le _⟩ dX12_readOr_222) hS rfl rfl (fun Mm222 H locs h hW hS => ?_)
        exact b225 _ _ _ H locs ls hW hS (lv_sub hl [0, 1, 2, 3] rfl) h
    have b156 : ∀ (M : Mem) (x2 : Int32) (x3 : Int32) (x4 : Int32) (H : Heap) (locs : List Loc) (ls : Array Slot), WPm G M H → va_S (fun q => bs G ≤ q) s.heap H locs → lv_has ls 5 [(0, .ref (ad G 10 0)), (1, .int x1), (2, .int x2), (3, .int x3), (4, .int x4)] → s_X12_readOr_156 x1 P K19 M x2 x3 x4 → W p l e rm_X12_readOr s m AV below meth c H locs 0 0 (MQ below (va_Qi P (WS G) (fun q => bs G ≤ q)) AV s 0 0 (fun q => bs G ≤ q)) (F0 m 156 ls []) := by
      intro M x2 x3 x4 H locs ls hW hS hl h
      unfold s_X12_readOr_156 at h
      refine lv_iload_n hx hb dX12_readOr_156 rfl (lv_at hl 2 rfl) ?_
      refine lv_if_eq (tgt := 192) hx hb dX12_readOr_157 (by decide) (fun c157 => ?_) (fun c157 => ?_)
      · replace h := h.1 c157
        refine lv_iload hx hb dX12_readOr_192 (lv_at hl 4 rfl) ?_
        refine lv_bipush hx hb dX12_readOr_194 kb_38 ?_
        refine lv_icmp_eq (tgt := 206) hx hb dX12_readOr_196 (by decide) (fun c196 => ?_) (fun c196 => ?_)
        · replace h := h.1 c196
          exact b206 _ _ _ H locs ls hW hS (lv_sub hl [0, 1, 3, 4] rfl) h
        · replace h := h.2 c196
          refine lv_iload hx hb dX12_readOr_199 (lv_at hl 4 rfl) ?_
          refine lv_bipush hx hb dX12_readOr_201 kb_124 ?_
          refine lv_icmp_ne (tgt := 261) hx hb dX12_readOr_203 (by decide) (fun c203 => ?_) (fun c203 => ?_)
          · replace h := h.1 c203
            refine lv_aload_n hx hb dX12_readOr_261 rfl (lv_at hl 0 rfl) ?_
            refine lv_bipush hx hb dX12_readOr_262 kb_38 ?_
            refine m_cv0 (m_rV S hK hW (m_szH hbs hS) (c_X12_join l ) h lk_X12_234 (m_recv hK hW (ci_10 (Nat.le_of_ble_eq_true rfl)) (rc_10 G) rfl) rfl hl.1 rfl ⟨Nat.le_of_ble_eq_true rfl, Nat.le_of_ble_eq_true rfl⟩ (Nat.le_of_ble_eq_true rfl) ⟨Nat.zero_le _, Nat.zero_le _⟩ dX12_readOr_264) hS rfl rfl (fun Mm264 H locs h hW hS => ?_)
            refine lv_aload_n hx hb dX12_readOr_267 rfl (lv_at hl 0 rfl) ?_
            refine lv_bipush hx hb dX12_readOr_268 kb_124 ?_
            refine m_cv0 (m_rV S hK hW (m_szH hbs hS) (c_X12_join l ) h lk_X12_234 (m_recv hK hW (ci_10 (Nat.le_of_ble_eq_true rfl)) (rc_10 G) rfl) rfl hl.1 rfl ⟨Nat.le_of_ble_eq_true rfl, Nat.le_of_ble_eq_true rfl⟩ (Nat.le_of_ble_eq_true rfl) ⟨Nat.zero_le _, Nat.zero_le _⟩ dX12_readOr_270) hS rfl rfl (fun Mm270 H locs h hW hS => ?_)
            refine lv_iload hx hb dX12_readOr_273 (lv_at hl 4 rfl) ?_
            refine lv_bipush hx hb dX12_readOr_275 kb_117 ?_
            refine lv_icmp_ne (tgt := 295) hx hb dX12_readOr_277 (by decide) (fun c277 => ?_) (fun c277 => ?_)
            · replace h := h.1 c277
              refine lv_iconst hx hb dX12_readOr_295 ki_0 ?_
              exact b296 _ _ _ _ H locs ls hW hS (lv_sub hl [0, 1, 2, 4] rfl) h
            · replace h := h.2 c277
              refine lv_iload_n hx hb dX12_readOr_280 rfl (lv_at hl 1 rfl) ?_
              refine lv_if_eq (tgt := 295) hx hb dX12_readOr_281 (by decide) (fun c281 => ?_) (fun c281 => ?_)
              · replace h := h.1 c281
                refine lv_iconst hx hb dX12_readOr_295 ki_0 ?_
                exact b296 _ _ _ _ H locs ls hW hS (lv_sub hl [0, 1, 2, 4] rfl) h
              · replace h := h.2 c281
                refine lv_aload_n hx hb dX12_readOr_284 rfl (lv_at hl 0 rfl) ?_
                refine m_geti S hK fk_X12_215 (gi_10_35 G) hW (ci_10 (Nat.le_of_ble_eq_true rfl)) dX12_readOr_285 ?_
                refine lv_if_ne (tgt := 295) hx hb dX12_readOr_288 (by decide) (fun c288 => ?_) (fun c288 => ?_)
                · replace h := h.1 c288
                  refine lv_iconst hx hb dX12_readOr_295 ki_0 ?_
                  exact b296 _ _ _ _ H locs ls hW hS (lv_sub hl [0, 1, 2, 4] rfl) h
                · replace h := h.2 c288
                  refine lv_iconst hx hb dX12_readOr_291 ki_1 ?_
                  refine lv_goto (tgt := 296) hx hb dX12_readOr_292 (by decide) ?_
                  exact b296 _ _ _ _ H locs ls hW hS (lv_sub hl [0, 1, 2, 4] rfl) h
          · replace h := h.2 c203
            exact b206 _ _ _ H locs ls hW hS (lv_sub hl [0, 1, 3, 4] rfl) h
      · replace h := h.2 c157
        refine lv_aload_n hx hb dX12_readOr_160 rfl (lv_at hl 0 rfl) ?_
        refine m_getr S hK fk_X12_74 (gr_10_32 G 0) hW (ci_10 (Nat.le_of_ble_eq_true rfl)) dX12_readOr_161 ?_
        refine lv_aload_n hx hb dX12_readOr_164 rfl (lv_at hl 0 rfl) ?_
        refine m_geti S hK fk_X12_221 (gi_10_33 G) hW (ci_10 (Nat.le_of_ble_eq_true rfl)) dX12_readOr_165 ?_
        refine lv_aload_n hx hb dX12_readOr_168 rfl (lv_at hl 0 rfl) ?_
        refine m_ci0 (m_rV S hK hW (m_szH hbs hS) (c_X12_readTest l ) h lk_X12_227 (m_recv hK hW (ci_10 (Nat.le_of_ble_eq_true rfl)) (rc_10 G) rfl) rfl hl.1 rfl ⟨Nat.le_of_ble_eq_true rfl, Nat.le_of_ble_eq_true rfl⟩ (Nat.le_of_ble_eq_true rfl) ⟨Nat.zero_le _, Nat.zero_le _⟩ dX12_readOr_169) hS rfl rfl (fun rr169 Mm169 H locs h hW hS => ?_)
        obtain ⟨hb172, h⟩ := h
        refine m_zast S hK (ar_64 G) hW hS (ci_64 (Nat.le_of_ble_eq_true rfl)) hb172 dX12_readOr_172 (fun Mm172 eMm172 H locs hW hS => ?_)
        replace h := h Mm172 eMm172
        refine lv_aload_n hx hb dX12_readOr_173 rfl (lv_at hl 0 rfl) ?_
        refine lv_dup hx hb dX12_readOr_174 rfl ?_
        refine m_geti S hK fk_X12_221 (gi_10_33 G) hW (ci_10 (Nat.le_of_ble_eq_true rfl)) dX12_readOr_175 ?_
        refine lv_iconst hx hb dX12_readOr_178 ki_1 ?_
        refine lv_iadd hx hb dX12_readOr_179 ?_
        refine m_put S hK fk_X12_221 tyX12_ok nmX12 rfl pf_X12_33 (pv_10_33 G) hW hS (ci_10 (Nat.le_of_ble_eq_true rfl)) rfl rfl dX12_readOr_180 (fun Mm180 eMm180 H locs hW hS => ?_)
        replace h := h Mm180 eMm180
        refine lv_iconst hx hb dX12_readOr_183 ki_0 ?_
        refine lv_istore_n (lv' := [(2, .int (0 : Int32)), (0, .ref (ad G 10 0)), (1, .int x1), (3, .int x3), (4, .int x4)]) hx hb dX12_readOr_184 rfl hl (by decide) rfl (fun ls hl => ?_)
        refine lv_aload_n hx hb dX12_readOr_185 rfl (lv_at hl 1 rfl) ?_
        refine m_cv0 (m_rV S hK hW (m_szH hbs hS) (c_X12_testEnds l ) h lk_X12_231 (m_recv hK hW (ci_10 (Nat.le_of_ble_eq_true rfl)) (rc_10 G) rfl) rfl hl.1 rfl ⟨Nat.le_of_ble_eq_true rfl, Nat.le_of_ble_eq_true rfl⟩ (Nat.le_of_ble_eq_true rfl) ⟨Nat.zero_le _, Nat.zero_le _⟩ dX12_readOr_186) hS rfl rfl (fun Mm186 H locs h hW hS => ?_)
        refine lv_goto (tgt := 371) hx hb dX12_readOr_189 (by decide) ?_
        refine lv_goto (tgt := 19) hx hb dX12_readOr_371 (by decide) ?_
        exact kk19 _ h H locs ls hW hS (lv_sub hl [1, 2, 0, 3] rfl)
    have b118 : ∀ (M : Mem) (x2 : Int32) (x3 : Int32) (x4 : Int32) (y0 : Int32) (y1 : Int32) (H : Heap) (locs : List Loc) (ls : Array Slot), WPm G M H → va_S (fun q => bs G ≤ q) s.heap H locs → lv_has ls 5 [(0, .ref (ad G 10 0)), (1, .int x1), (2, .int x2), (3, .int x3), (4, .int x4)] → s_X12_readOr_118 x1 P K19 M x2 x3 x4 y0 y1 → W p l e rm_X12_readOr s m AV below meth c H locs 0 0 (MQ below (va_Qi P (WS G) (fun q => bs G ≤ q)) AV s 0 0 (fun q => bs G ≤ q)) (F0 m 118 ls [.int y0, .int y1, .ref (ad G 10 0)]) := by
      intro M x2 x3 x4 y0 y1 H locs ls hW hS hl h
      unfold s_X12_readOr_118 at h
      refine lv_iadd hx hb dX12_readOr_118 ?_
      refine m_put S hK fk_X12_224 tyX12_ok nmX12 rfl pf_X12_28 (pv_10_28 G) hW hS (ci_10 (Nat.le_of_ble_eq_true rfl)) rfl rfl dX12_readOr_119 (fun Mm119 eMm119 H locs hW hS => ?_)
      replace h := h Mm119 eMm119
      refine lv_aload_n hx hb dX12_readOr_122 rfl (lv_at hl 0 rfl) ?_
      refine m_getr S hK fk_X12_78 (gr_10_34 G 0) hW (ci_10 (Nat.le_of_ble_eq_true rfl)) dX12_readOr_123 ?_
      refine lv_aload_n hx hb dX12_readOr_126 rfl (lv_at hl 0 rfl) ?_
      refine m_geti S hK fk_X12_215 (gi_10_35 G) hW (ci_10 (Nat.le_of_ble_eq_true rfl)) dX12_readOr_127 ?_
      refine lv_iload hx hb dX12_readOr_130 (lv_at hl 4 rfl) ?_
      obtain ⟨hb132, h⟩ := h
      refine m_ast S hK (ar_65 G) hW hS (ci_65 (Nat.le_of_ble_eq_true rfl)) hb132 dX12_readOr_132 (fun Mm132 eMm132 H locs hW hS => ?_)
      replace h := h Mm132 eMm132
      refine lv_aload_n hx hb dX12_readOr_133 rfl (lv_at hl 0 rfl) ?_
      refine lv_dup hx hb dX12_readOr_134 rfl ?_
      refine m_geti S hK fk_X12_215 (gi_10_35 G) hW (ci_10 (Nat.le_of_ble_eq_true rfl)) dX12_readOr_135 ?_
      refine lv_iconst hx hb dX12_readOr_138 ki_1 ?_
      refine lv_iadd hx hb dX12_readOr_139 ?_
      refine m_put S hK fk_X12_215 tyX12_ok nmX12 rfl pf_X12_35 (pv_10_35 G) hW hS (ci_10 (Nat.le_of_ble_eq_true rfl)) rfl rfl dX12_readOr_140 (fun Mm140 eMm140 H locs hW hS => ?_)
      replace h := h Mm140 eMm140
      refine lv_aload_n hx hb dX12_readOr_143 rfl (lv_at hl 0 rfl) ?_
      refine lv_dup hx hb dX12_readOr_144 rfl ?_
      refine m_geti S hK fk_X12_167 (gi_10_26 G) hW (ci_10 (Nat.le_of_ble_eq_true rfl)) dX12_readOr_145 ?_
      refine lv_iconst hx hb dX12_readOr_148 ki_1 ?_
      refine lv_iadd hx hb dX12_readOr_149 ?_
      refine m_put S hK fk_X12_167 tyX12_ok nmX12 rfl pf_X12_26 (pv_10_26 G) hW hS (ci_10 (Nat.le_of_ble_eq_true rfl)) rfl rfl dX12_readOr_150 (fun Mm150 eMm150 H locs hW hS => ?_)
      replace h := h Mm150 eMm150
      refine lv_goto (tgt := 371) hx hb dX12_readOr_153 (by decide) ?_
      refine lv_goto (tgt := 19) hx hb dX12_readOr_371 (by decide) ?_
      exact kk19 _ h H locs ls hW hS (lv_sub hl [0, 1, 2, 3] rfl)
    have b91 : ∀ (M : Mem) (x2 : Int32) (x3 : Int32) (x4 : Int32) (y0 : Int32) (H : Heap) (locs : List Loc) (ls : Array Slot), WPm G M H → va_S (fun q => bs G ≤ q) s.heap H locs → lv_has ls 5 [(0, .ref (ad G 10 0)), (1, .int x1), (2, .int x2), (3, .int x3), (4, .int x4)] → s_X12_readOr_91 x1 P K19 M x2 x3 x4 y0 → W p l e rm_X12_readOr s m AV below meth c H locs 0 0 (MQ below (va_Qi P (WS G) (fun q => bs G ≤ q)) AV s 0 0 (fun q => bs G ≤ q)) (F0 m 91 ls [.int y0, .ref (ad G 10 0)]) := by
      intro M x2 x3 x4 y0 H locs ls hW hS hl h
      unfold s_X12_readOr_91 at h
      obtain ⟨hn91, h⟩ := h
      refine m_put S hK fk_X12_206 tyX12_ok nmX12 rfl pf_X12_27 (pv_10_27 G) hW hS (ci_10 (Nat.le_of_ble_eq_true rfl)) (isB_n hn91) (isB_f hn91) dX12_readOr_91 (fun Mm91 eMm91 H locs hW hS => ?_)
      replace h := h Mm91 eMm91
      refine lv_aload_n hx hb dX12_readOr_94 rfl (lv_at hl 0 rfl) ?_
      refine m_geti S hK fk_X12_206 (gi_10_27 G) hW (ci_10 (Nat.le_of_ble_eq_true rfl)) dX12_readOr_95 ?_
      refine lv_if_ne (tgt := 371) hx hb dX12_readOr_98 (by decide) (fun c98 => ?_) (fun c98 => ?_)
      · replace h := h.1 c98
        refine lv_goto (tgt := 19) hx hb dX12_readOr_371 (by decide) ?_
        exact kk19 _ h H locs ls hW hS (lv_sub hl [0, 1, 2, 3] rfl)
      · replace h := h.2 c98
        refine lv_aload_n hx hb dX12_readOr_101 rfl (lv_at hl 0 rfl) ?_
        refine lv_dup hx hb dX12_readOr_102 rfl ?_
        refine m_geti S hK fk_X12_224 (gi_10_28 G) hW (ci_10 (Nat.le_of_ble_eq_true rfl)) dX12_readOr_103 ?_
        refine lv_iload hx hb dX12_readOr_106 (lv_at hl 4 rfl) ?_
        refine lv_bipush hx hb dX12_readOr_108 kb_40 ?_
        refine lv_icmp_ne (tgt := 117) hx hb dX12_readOr_110 (by decide) (fun c110 => ?_) (fun c110 => ?_)
        · replace h := h.1 c110
          refine lv_iconst hx hb dX12_readOr_117 ki_0 ?_
          exact b118 _ _ _ _ _ _ H locs ls hW hS (lv_sub hl [0, 1, 2, 3, 4] rfl) h
        · replace h := h.2 c110
          refine lv_iconst hx hb dX12_readOr_113 ki_1 ?_
          refine lv_goto (tgt := 118) hx hb dX12_readOr_114 (by decide) ?_
          exact b118 _ _ _ _ _ _ H locs ls hW hS (lv_sub hl [0, 1, 2, 3, 4] rfl) h
    have b69 : ∀ (M : Mem) (x2 : Int32) (x3 : Int32) (x4 : Int32) (H : Heap) (locs : List Loc) (ls : Array Slot), WPm G M H → va_S (fun q => bs G ≤ q) s.heap H locs → lv_has ls 5 [(0, .ref (ad G 10 0)), (1, .int x1), (2, .int x2), (3, .int x3), (4, .int x4)] → s_X12_readOr_69 x1 P K19 M x2 x3 x4 → W p l e rm_X12_readOr s m AV below meth c H locs 0 0 (MQ below (va_Qi P (WS G) (fun q => bs G ≤ q)) AV s 0 0 (fun q => bs G ≤ q)) (F0 m 69 ls []) := by
      intro M x2 x3 x4 H locs ls hW hS hl h
      unfold s_X12_readOr_69 at h
      refine lv_aload_n hx hb dX12_readOr_69 rfl (lv_at hl 0 rfl) ?_
      refine lv_iload hx hb dX12_readOr_70 (lv_at hl 4 rfl) ?_
      refine lv_bipush hx hb dX12_readOr_72 kb_40 ?_
      refine lv_icmp_ne (tgt := 90) hx hb dX12_readOr_74 (by decide) (fun c74 => ?_) (fun c74 => ?_)
      · replace h := h.1 c74
        refine lv_iconst hx hb dX12_readOr_90 ki_0 ?_
        exact b91 _ _ _ _ _ H locs ls hW hS (lv_sub hl [0, 1, 2, 3, 4] rfl) h
      · replace h := h.2 c74
        refine lv_aload_n hx hb dX12_readOr_77 rfl (lv_at hl 0 rfl) ?_
        refine m_geti S hK fk_X12_224 (gi_10_28 G) hW (ci_10 (Nat.le_of_ble_eq_true rfl)) dX12_readOr_78 ?_
        refine lv_bipush hx hb dX12_readOr_81 kb_8 ?_
        refine lv_icmp_ne (tgt := 90) hx hb dX12_readOr_83 (by decide) (fun c83 => ?_) (fun c83 => ?_)
        · replace h := h.1 c83
          refine lv_iconst hx hb dX12_readOr_90 ki_0 ?_
          exact b91 _ _ _ _ _ H locs ls hW hS (lv_sub hl [0, 1, 2, 3, 4] rfl) h
        · replace h := h.2 c83
          refine lv_iconst hx hb dX12_readOr_86 ki_1 ?_
          refine lv_goto (tgt := 91) hx hb dX12_readOr_87 (by decide) ?_
          exact b91 _ _ _ _ _ H locs ls hW hS (lv_sub hl [0, 1, 2, 3, 4] rfl) h
    have b45 : ∀ (M : Mem) (x2 : Int32) (x3 : Int32) (H : Heap) (locs : List Loc) (ls : Array Slot), WPm G M H → va_S (fun q => bs G ≤ q) s.heap H locs → lv_has ls 5 [(0, .ref (ad G 10 0)), (1, .int x1), (2, .int x2), (3, .int x3)] → s_X12_readOr_45 x1 P K19 M x2 x3 → W p l e rm_X12_readOr s m AV below meth c H locs 0 0 (MQ below (va_Qi P (WS G) (fun q => bs G ≤ q)) AV s 0 0 (fun q => bs G ≤ q)) (F0 m 45 ls []) := by
      intro M x2 x3 H locs ls hW hS hl h
      unfold s_X12_readOr_45 at h
      refine lv_aload_n hx hb dX12_readOr_45 rfl (lv_at hl 0 rfl) ?_
      refine m_ci0 (m_rV S hK hW (m_szH hbs hS) (c_X12_here l ) h lk_X12_196 (m_recv hK hW (ci_10 (Nat.le_of_ble_eq_true rfl)) (rc_10 G) rfl) rfl hl.1 rfl ⟨Nat.le_of_ble_eq_true rfl, Nat.le_of_ble_eq_true rfl⟩ (Nat.le_of_ble_eq_true rfl) ⟨Nat.zero_le _, Nat.zero_le _⟩ dX12_readOr_46) hS rfl rfl (fun rr46 Mm46 H locs h hW hS => ?_)
      refine lv_istore (lv' := [(4, .int rr46), (0, .ref (ad G 10 0)), (1, .int x1), (2, .int x2), (3, .int x3)]) hx hb dX12_readOr_49 hl (by decide) rfl (fun ls hl => ?_)
      refine lv_iload_n hx hb dX12_readOr_51 rfl (lv_at hl 3 rfl) ?_
      refine lv_if_eq (tgt := 156) hx hb dX12_readOr_52 (by decide) (fun c52 => ?_) (fun c52 => ?_)
      · replace h := h.1 c52
        exact b156 _ _ _ _ H locs ls hW hS (lv_sub hl [1, 2, 3, 4, 0] rfl) h
      · replace h := h.2 c52
        refine lv_iload hx hb dX12_readOr_55 (lv_at hl 0 rfl) ?_
        refine lv_bipush hx hb dX12_readOr_57 kb_33 ?_
        refine lv_icmp_eq (tgt := 69) hx hb dX12_readOr_59 (by decide) (fun c59 => ?_) (fun c59 => ?_)
        · replace h := h.1 c59
          exact b69 _ _ _ _ H locs ls hW hS (lv_sub hl [1, 2, 3, 4, 0] rfl) h
        · replace h := h.2 c59
          refine lv_iload hx hb dX12_readOr_62 (lv_at hl 0 rfl) ?_
          refine lv_bipush hx hb dX12_readOr_64 kb_40 ?_
          refine lv_icmp_ne (tgt := 156) hx hb dX12_readOr_66 (by decide) (fun c66 => ?_) (fun c66 => ?_)
          · replace h := h.1 c66
            exact b156 _ _ _ _ H locs ls hW hS (lv_sub hl [1, 2, 3, 4, 0] rfl) h
          · replace h := h.2 c66
            exact b69 _ _ _ _ H locs ls hW hS (lv_sub hl [1, 2, 3, 4, 0] rfl) h
    unfold s_X12_readOr_19 at h
    refine lv_aload_n hx hb dX12_readOr_19 rfl (lv_at hl 0 rfl) ?_
    refine m_geti S hK fk_X12_206 (gi_10_27 G) hW (ci_10 (Nat.le_of_ble_eq_true rfl)) dX12_readOr_20 ?_
    refine lv_if_ne (tgt := 374) hx hb dX12_readOr_23 (by decide) (fun c23 => ?_) (fun c23 => ?_)
    · replace h := h.1 c23
      exact b374 _ H locs ls hW hS (lv_sub hl [0] rfl) h
    · replace h := h.2 c23
      refine lv_iload_n hx hb dX12_readOr_26 rfl (lv_at hl 3 rfl) ?_
      refine lv_if_ne (tgt := 374) hx hb dX12_readOr_27 (by decide) (fun c27 => ?_) (fun c27 => ?_)
      · replace h := h.1 c27
        exact b374 _ H locs ls hW hS (lv_sub hl [0] rfl) h
      · replace h := h.2 c27
        refine lv_iload_n hx hb dX12_readOr_30 rfl (lv_at hl 2 rfl) ?_
        refine lv_if_ne (tgt := 45) hx hb dX12_readOr_31 (by decide) (fun c31 => ?_) (fun c31 => ?_)
        · replace h := h.1 c31
          exact b45 _ _ _ H locs ls hW hS (lv_sub hl [0, 1, 2, 3] rfl) h
        · replace h := h.2 c31
          refine lv_aload_n hx hb dX12_readOr_34 rfl (lv_at hl 0 rfl) ?_
          refine m_geti S hK fk_X12_167 (gi_10_26 G) hW (ci_10 (Nat.le_of_ble_eq_true rfl)) dX12_readOr_35 ?_
          refine lv_aload_n hx hb dX12_readOr_38 rfl (lv_at hl 0 rfl) ?_
          refine m_geti S hK fk_X12_170 (gi_10_25 G) hW (ci_10 (Nat.le_of_ble_eq_true rfl)) dX12_readOr_39 ?_
          refine lv_icmp_ge (tgt := 374) hx hb dX12_readOr_42 (by decide) (fun c42 => ?_) (fun c42 => ?_)
          · replace h := h.1 c42
            exact b374 _ H locs ls hW hS (lv_sub hl [0] rfl) h
          · replace h := h.2 c42
            exact b45 _ _ _ H locs ls hW hS (lv_sub hl [0, 1, 2, 3] rfl) h
  unfold s_X12_readOr at h
  refine lv_aload_n hx hb dX12_readOr_0 rfl (lv_at hl 0 rfl) ?_
  refine lv_iconst hx hb dX12_readOr_1 ki_0 ?_
  refine m_put S hK fk_X12_224 tyX12_ok nmX12 rfl pf_X12_28 (pv_10_28 G) hW hS (ci_10 (Nat.le_of_ble_eq_true rfl)) rfl rfl dX12_readOr_2 (fun Mm2 eMm2 H locs hW hS => ?_)
  replace h := h Mm2 eMm2
  refine lv_aload_n hx hb dX12_readOr_5 rfl (lv_at hl 0 rfl) ?_
  refine lv_iconst hx hb dX12_readOr_6 ki_0 ?_
  refine m_put S hK fk_X12_221 tyX12_ok nmX12 rfl pf_X12_33 (pv_10_33 G) hW hS (ci_10 (Nat.le_of_ble_eq_true rfl)) rfl rfl dX12_readOr_7 (fun Mm7 eMm7 H locs hW hS => ?_)
  replace h := h Mm7 eMm7
  refine lv_aload_n hx hb dX12_readOr_10 rfl (lv_at hl 0 rfl) ?_
  refine lv_iconst hx hb dX12_readOr_11 ki_0 ?_
  refine m_put S hK fk_X12_215 tyX12_ok nmX12 rfl pf_X12_35 (pv_10_35 G) hW hS (ci_10 (Nat.le_of_ble_eq_true rfl)) rfl rfl dX12_readOr_12 (fun Mm12 eMm12 H locs hW hS => ?_)
  replace h := h Mm12 eMm12
  refine lv_iconst hx hb dX12_readOr_15 ki_1 ?_
  refine lv_istore_n (lv' := [(2, .int (1 : Int32)), (0, .ref (ad G 10 0)), (1, .int x1)]) hx hb dX12_readOr_16 rfl hl (by decide) rfl (fun ls hl => ?_)
  refine lv_iconst hx hb dX12_readOr_17 ki_0 ?_
  refine lv_istore_n (lv' := [(3, .int (0 : Int32)), (2, .int (1 : Int32)), (0, .ref (ad G 10 0)), (1, .int x1)]) hx hb dX12_readOr_18 rfl hl (by decide) rfl (fun ls hl => ?_)
  obtain ⟨n19, h⟩ := h
  exact w19 n19 _ h H locs ls hW hS (lv_sub hl [2, 3, 1, 0] rfl)
def s_X12_readAct_177 (P : Int32 → Mem → Prop) (M : Mem) (x1 : Int32) : Prop :=
  (¬ (M.1 10 0 27) = 0 → P (0 : Int32) M) ∧ ((M.1 10 0 27) = 0 → (x1 = 0 → P (0 : Int32) M) ∧ (¬ x1 = 0 → P (1 : Int32) M))
def s_X12_readAct_176 (P : Int32 → Mem → Prop) (M : Mem) (y0 : Int32) : Prop :=
  s_X12_readAct_177 P M y0
def s_X12_readAct_128 (P : Int32 → Mem → Prop) (M : Mem) (y0 : Int32) : Prop :=
  (¬ (M.1 10 0 27) = 0 → s_X12_readAct_177 P M y0) ∧ ((M.1 10 0 27) = 0 → ((M.1 10 0 25) ≤ (M.1 10 0 26) → s_X12_readAct_177 P M y0) ∧ (¬ (M.1 10 0 25) ≤ (M.1 10 0 26) → ∀ Mm154 : Mem, Mm154 = wI M 10 0 26 ((M.1 10 0 26) + (1 : Int32)) → s_X12_readOr Mm154 (0 : Int32) (fun rr159 Mm159 => (y0 = 0 → s_X12_readAct_176 P Mm159 (0 : Int32)) ∧ (¬ y0 = 0 → (¬ rr159 = 0 → s_X12_readAct_176 P Mm159 (0 : Int32)) ∧ (rr159 = 0 → s_X12_readAct_176 P Mm159 (1 : Int32))))))
def s_X12_readAct_104 (P : Int32 → Mem → Prop) (M : Mem) (y0 : Int32) (y1 : Int32) : Prop :=
  ∀ Mm105 : Mem, Mm105 = wI M 10 0 26 (y1 + y0) → (¬ (Mm105.1 10 0 27) = 0 → s_X12_readAct_128 P Mm105 (0 : Int32)) ∧ ((Mm105.1 10 0 27) = 0 → s_X12_readOr Mm105 (1 : Int32) (fun rr117 Mm117 => (rr117 = 0 → s_X12_readAct_128 P Mm117 (0 : Int32)) ∧ (¬ rr117 = 0 → s_X12_readAct_128 P Mm117 (1 : Int32))))
def s_X12_readAct_84 (P : Int32 → Mem → Prop) (M : Mem) (y0 : Int32) : Prop :=
  isB y0 ∧ (∀ Mm84 : Mem, Mm84 = wI M 10 0 27 y0 → ((Mm84.1 10 0 27) = 0 → s_X12_readAct_104 P Mm84 (1 : Int32) (Mm84.1 10 0 26)) ∧ (¬ (Mm84.1 10 0 27) = 0 → s_X12_readAct_104 P Mm84 (0 : Int32) (Mm84.1 10 0 26)))
def s_X12_readAct_58 (P : Int32 → Mem → Prop) (M : Mem) (y0 : Int32) (y1 : Int32) : Prop :=
  ∀ Mm59 : Mem, Mm59 = wI M 10 0 26 (y1 + y0) → (¬ (Mm59.1 10 0 27) = 0 → s_X12_readAct_84 P Mm59 (1 : Int32)) ∧ ((Mm59.1 10 0 27) = 0 → s_X12_here Mm59 (fun rr71 Mm71 => (rr71 = (58 : Int32) → s_X12_readAct_84 P Mm71 (0 : Int32)) ∧ (¬ rr71 = (58 : Int32) → s_X12_readAct_84 P Mm71 (1 : Int32))))
def s_X12_readAct_38 (P : Int32 → Mem → Prop) (M : Mem) (y0 : Int32) : Prop :=
  isB y0 ∧ (∀ Mm38 : Mem, Mm38 = wI M 10 0 27 y0 → ((Mm38.1 10 0 27) = 0 → s_X12_readAct_58 P Mm38 (1 : Int32) (Mm38.1 10 0 26)) ∧ (¬ (Mm38.1 10 0 27) = 0 → s_X12_readAct_58 P Mm38 (0 : Int32) (Mm38.1 10 0 26)))
def s_X12_readAct (M : Mem) (P : Int32 → Mem → Prop) : Prop :=
  ∀ Mm2 : Mem, Mm2 = wI M 10 0 26 (0 : Int32) → s_X12_here Mm2 (fun rr7 Mm7 => (rr7 = (101 : Int32) → s_X12_readAct_38 P Mm7 (0 : Int32)) ∧ (¬ rr7 = (101 : Int32) → s_X12_here Mm7 (fun rr16 Mm16 => (rr16 = (114 : Int32) → s_X12_readAct_38 P Mm16 (0 : Int32)) ∧ (¬ rr16 = (114 : Int32) → s_X12_here Mm16 (fun rr25 Mm25 => (rr25 = (111 : Int32) → s_X12_readAct_38 P Mm25 (0 : Int32)) ∧ (¬ rr25 = (111 : Int32) → s_X12_readAct_38 P Mm25 (1 : Int32)))))))
abbrev rm_X12_readAct : Room := { frames := 7, cells := 0, slots := 0, locals := 162 }
set_option maxHeartbeats 4000000 in
set_option maxRecDepth 100000 in
theorem c_X12_readAct (l : Launch) {G : Gn} {M : Mem} {P : Int32 → Mem → Prop} : MQi l yX12_readAct cX12_readAct 3 (some .boolean) rm_X12_readAct [.ref (ad G 10 0)] G M (s_X12_readAct M P) P := by
  refine m_enter (by decide +kernel) (Nat.le_of_ble_eq_true rfl) ?_
  intro p e s m below meth c ls H locs S hret hlocks hname hK hbs hW hS hl h
  obtain ⟨AV, hAV⟩ : ∃ z : Array Value, z = ([.ref (ad G 10 0)] : List Value).toArray := ⟨_, rfl⟩
  rw [← hAV] at S ⊢
  replace S : CallFix p m c cX12_readAct 3 s AV lw_G "MilkDeskModel" := S
  have hx := S.1
  have hb := S.2.1
  have hml := S.2.2.1
  have hown := S.2.2.2.1
  have hts := S.2.2.2.2
  replace hl : lv_has ls 3 [(0, .ref (ad G 10 0))] := hl
  have b177 : ∀ (M : Mem) (x1 : Int32) (H : Heap) (locs : List Loc) (ls : Array Slot), WPm G M H → va_S (fun q => bs G ≤ q) s.heap H locs → lv_has ls 3 [(0, .ref (ad G 10 0)), (1, .int x1)] → s_X12_readAct_177 P M x1 → W p l e rm_X12_readAct s m AV below meth c H locs 0 0 (MQ below (va_Qi P (WS G) (fun q => bs G ≤ q)) AV s 0 0 (fun q => bs G ≤ q)) (F0 m 177 ls []) := by
    intro M x1 H locs ls hW hS hl h
    unfold s_X12_readAct_177 at h
    refine lv_aload_n hx hb dX12_readAct_177 rfl (lv_at hl 0 rfl) ?_
    refine m_geti S hK fk_X12_206 (gi_10_27 G) hW (ci_10 (Nat.le_of_ble_eq_true rfl)) dX12_readAct_178 ?_
    refine lv_if_ne (tgt := 192) hx hb dX12_readAct_181 (by decide) (fun c181 => ?_) (fun c181 => ?_)
    · replace h := h.1 c181
      refine lv_iconst hx hb dX12_readAct_192 ki_0 ?_
      exact m_iret S hret hlocks hK hW hbs hS rfl h dX12_readAct_193
    · replace h := h.2 c181
      refine lv_iload_n hx hb dX12_readAct_184 rfl (lv_at hl 1 rfl) ?_
      refine lv_if_eq (tgt := 192) hx hb dX12_readAct_185 (by decide) (fun c185 => ?_) (fun c185 => ?_)
      · replace h := h.1 c185
        refine lv_iconst hx hb dX12_readAct_192 ki_0 ?_
        exact m_iret S hret hlocks hK hW hbs hS rfl h dX12_readAct_193
      · replace h := h.2 c185
        refine lv_iconst hx hb dX12_readAct_188 ki_1 ?_
        refine lv_goto (tgt := 193) hx hb dX12_readAct_189 (by decide) ?_
        exact m_iret S hret hlocks hK hW hbs hS rfl h dX12_readAct_193
  have b176 : ∀ (M : Mem) (y0 : Int32) (H : Heap) (locs : List Loc) (ls : Array Slot), WPm G M H → va_S (fun q => bs G ≤ q) s.heap H locs → lv_has ls 3 [(0, .ref (ad G 10 0))] → s_X12_readAct_176 P M y0 → W p l e rm_X12_readAct s m AV below meth c H locs 0 0 (MQ below (va_Qi P (WS G) (fun q => bs G ≤ q)) AV s 0 0 (fun q => bs G ≤ q)) (F0 m 176 ls [.int y0]) := by
    intro M y0 H locs ls hW hS hl h
    unfold s_X12_readAct_176 at h
    refine lv_istore_n (lv' := [(1, .int y0), (0, .ref (ad G 10 0))]) hx hb dX12_readAct_176 rfl hl (by decide) rfl (fun ls hl => ?_)
    exact b177 _ _ H locs ls hW hS (lv_sub hl [1, 0] rfl) h
  have b128 : ∀ (M : Mem) (y0 : Int32) (H : Heap) (locs : List Loc) (ls : Array Slot), WPm G M H → va_S (fun q => bs G ≤ q) s.heap H locs → lv_has ls 3 [(0, .ref (ad G 10 0))] → s_X12_readAct_128 P M y0 → W p l e rm_X12_readAct s m AV below meth c H locs 0 0 (MQ below (va_Qi P (WS G) (fun q => bs G ≤ q)) AV s 0 0 (fun q => bs G ≤ q)) (F0 m 128 ls [.int y0]) := by
    intro M y0 H locs ls hW hS hl h
    unfold s_X12_readAct_128 at h
    refine lv_istore_n (lv' := [(1, .int y0), (0, .ref (ad G 10 0))]) hx hb dX12_readAct_128 rfl hl (by decide) rfl (fun ls hl => ?_)
    refine lv_aload_n hx hb dX12_readAct_129 rfl (lv_at hl 1 rfl) ?_
    refine m_geti S hK fk_X12_206 (gi_10_27 G) hW (ci_10 (Nat.le_of_ble_eq_true rfl)) dX12_readAct_130 ?_
    refine lv_if_ne (tgt := 177) hx hb dX12_readAct_133 (by decide) (fun c133 => ?_) (fun c133 => ?_)
    · replace h := h.1 c133
      exact b177 _ _ H locs ls hW hS (lv_sub hl [1, 0] rfl) h
    · replace h := h.2 c133
      refine lv_aload_n hx hb dX12_readAct_136 rfl (lv_at hl 1 rfl) ?_
      refine m_geti S hK fk_X12_167 (gi_10_26 G) hW (ci_10 (Nat.le_of_ble_eq_true rfl)) dX12_readAct_137 ?_
      refine lv_aload_n hx hb dX12_readAct_140 rfl (lv_at hl 1 rfl) ?_
      refine m_geti S hK fk_X12_170 (gi_10_25 G) hW (ci_10 (Nat.le_of_ble_eq_true rfl)) dX12_readAct_141 ?_
      refine lv_icmp_ge (tgt := 177) hx hb dX12_readAct_144 (by decide) (fun c144 => ?_) (fun c144 => ?_)
      · replace h := h.1 c144
        exact b177 _ _ H locs ls hW hS (lv_sub hl [1, 0] rfl) h
      · replace h := h.2 c144
        refine lv_aload_n hx hb dX12_readAct_147 rfl (lv_at hl 1 rfl) ?_
        refine lv_dup hx hb dX12_readAct_148 rfl ?_
        refine m_geti S hK fk_X12_167 (gi_10_26 G) hW (ci_10 (Nat.le_of_ble_eq_true rfl)) dX12_readAct_149 ?_
        refine lv_iconst hx hb dX12_readAct_152 ki_1 ?_
        refine lv_iadd hx hb dX12_readAct_153 ?_
        refine m_put S hK fk_X12_167 tyX12_ok nmX12 rfl pf_X12_26 (pv_10_26 G) hW hS (ci_10 (Nat.le_of_ble_eq_true rfl)) rfl rfl dX12_readAct_154 (fun Mm154 eMm154 H locs hW hS => ?_)
        replace h := h Mm154 eMm154
        refine lv_aload_n hx hb dX12_readAct_157 rfl (lv_at hl 1 rfl) ?_
        refine lv_iconst hx hb dX12_readAct_158 ki_0 ?_
        refine m_ci0 (m_rV S hK hW (m_szH hbs hS) (c_X12_readOr l ) h lk_X12_238 (m_recv hK hW (ci_10 (Nat.le_of_ble_eq_true rfl)) (rc_10 G) rfl) rfl hl.1 rfl ⟨Nat.le_of_ble_eq_true rfl, Nat.le_of_ble_eq_true rfl⟩ (Nat.le_of_ble_eq_true rfl) ⟨Nat.zero_le _, Nat.zero_le _⟩ dX12_readAct_159) hS rfl rfl (fun rr159 Mm159 H locs h hW hS => ?_)
        refine lv_istore_n (lv' := [(2, .int rr159), (1, .int y0), (0, .ref (ad G 10 0))]) hx hb dX12_readAct_162 rfl hl (by decide) rfl (fun ls hl => ?_)
        refine lv_iload_n hx hb dX12_readAct_163 rfl (lv_at hl 1 rfl) ?_
        refine lv_if_eq (tgt := 175) hx hb dX12_readAct_164 (by decide) (fun c164 => ?_) (fun c164 => ?_)
        · replace h := h.1 c164
          refine lv_iconst hx hb dX12_readAct_175 ki_0 ?_
          exact b176 _ _ H locs ls hW hS (lv_sub hl [2] rfl) h
        · replace h := h.2 c164
          refine lv_iload_n hx hb dX12_readAct_167 rfl (lv_at hl 0 rfl) ?_
          refine lv_if_ne (tgt := 175) hx hb dX12_readAct_168 (by decide) (fun c168 => ?_) (fun c168 => ?_)
          · replace h := h.1 c168
            refine lv_iconst hx hb dX12_readAct_175 ki_0 ?_
            exact b176 _ _ H locs ls hW hS (lv_sub hl [2] rfl) h
          · replace h := h.2 c168
            refine lv_iconst hx hb dX12_readAct_171 ki_1 ?_
            refine lv_goto (tgt := 176) hx hb dX12_readAct_172 (by decide) ?_
            exact b176 _ _ H locs ls hW hS (lv_sub hl [2] rfl) h
  have b104 : ∀ (M : Mem) (y0 : Int32) (y1 : Int32) (H : Heap) (locs : List Loc) (ls : Array Slot), WPm G M H → va_S (fun q => bs G ≤ q) s.heap H locs → lv_has ls 3 [(0, .ref (ad G 10 0))] → s_X12_readAct_104 P M y0 y1 → W p l e rm_X12_readAct s m AV below meth c H locs 0 0 (MQ below (va_Qi P (WS G) (fun q => bs G ≤ q)) AV s 0 0 (fun q => bs G ≤ q)) (F0 m 104 ls [.int y0, .int y1, .ref (ad G 10 0)]) := by
    intro M y0 y1 H locs ls hW hS hl h
    unfold s_X12_readAct_104 at h
    refine lv_iadd hx hb dX12_readAct_104 ?_
    refine m_put S hK fk_X12_167 tyX12_ok nmX12 rfl pf_X12_26 (pv_10_26 G) hW hS (ci_10 (Nat.le_of_ble_eq_true rfl)) rfl rfl dX12_readAct_105 (fun Mm105 eMm105 H locs hW hS => ?_)
    replace h := h Mm105 eMm105
    refine lv_aload_n hx hb dX12_readAct_108 rfl (lv_at hl 0 rfl) ?_
    refine m_geti S hK fk_X12_206 (gi_10_27 G) hW (ci_10 (Nat.le_of_ble_eq_true rfl)) dX12_readAct_109 ?_
    refine lv_if_ne (tgt := 127) hx hb dX12_readAct_112 (by decide) (fun c112 => ?_) (fun c112 => ?_)
    · replace h := h.1 c112
      refine lv_iconst hx hb dX12_readAct_127 ki_0 ?_
      exact b128 _ _ H locs ls hW hS (lv_sub hl [0] rfl) h
    · replace h := h.2 c112
      refine lv_aload_n hx hb dX12_readAct_115 rfl (lv_at hl 0 rfl) ?_
      refine lv_iconst hx hb dX12_readAct_116 ki_1 ?_
      refine m_ci0 (m_rV S hK hW (m_szH hbs hS) (c_X12_readOr l ) h lk_X12_238 (m_recv hK hW (ci_10 (Nat.le_of_ble_eq_true rfl)) (rc_10 G) rfl) rfl hl.1 rfl ⟨Nat.le_of_ble_eq_true rfl, Nat.le_of_ble_eq_true rfl⟩ (Nat.le_of_ble_eq_true rfl) ⟨Nat.zero_le _, Nat.zero_le _⟩ dX12_readAct_117) hS rfl rfl (fun rr117 Mm117 H locs h hW hS => ?_)
      refine lv_if_eq (tgt := 127) hx hb dX12_readAct_120 (by decide) (fun c120 => ?_) (fun c120 => ?_)
      · replace h := h.1 c120
        refine lv_iconst hx hb dX12_readAct_127 ki_0 ?_
        exact b128 _ _ H locs ls hW hS (lv_sub hl [0] rfl) h
      · replace h := h.2 c120
        refine lv_iconst hx hb dX12_readAct_123 ki_1 ?_
        refine lv_goto (tgt := 128) hx hb dX12_readAct_124 (by decide) ?_
        exact b128 _ _ H locs ls hW hS (lv_sub hl [0] rfl) h
  have b84 : ∀ (M : Mem) (y0 : Int32) (H : Heap) (locs : List Loc) (ls : Array Slot), WPm G M H → va_S (fun q => bs G ≤ q) s.heap H locs → lv_has ls 3 [(0, .ref (ad G 10 0))] → s_X12_readAct_84 P M y0 → W p l e rm_X12_readAct s m AV below meth c H locs 0 0 (MQ below (va_Qi P (WS G) (fun q => bs G ≤ q)) AV s 0 0 (fun q => bs G ≤ q)) (F0 m 84 ls [.int y0, .ref (ad G 10 0)]) := by
    intro M y0 H locs ls hW hS hl h
    unfold s_X12_readAct_84 at h
    obtain ⟨hn84, h⟩ := h
    refine m_put S hK fk_X12_206 tyX12_ok nmX12 rfl pf_X12_27 (pv_10_27 G) hW hS (ci_10 (Nat.le_of_ble_eq_true rfl)) (isB_n hn84) (isB_f hn84) dX12_readAct_84 (fun Mm84 eMm84 H locs hW hS => ?_)
    replace h := h Mm84 eMm84
    refine lv_aload_n hx hb dX12_readAct_87 rfl (lv_at hl 0 rfl) ?_
    refine lv_dup hx hb dX12_readAct_88 rfl ?_
    refine m_geti S hK fk_X12_167 (gi_10_26 G) hW (ci_10 (Nat.le_of_ble_eq_true rfl)) dX12_readAct_89 ?_
    refine lv_aload_n hx hb dX12_readAct_92 rfl (lv_at hl 0 rfl) ?_
    refine m_geti S hK fk_X12_206 (gi_10_27 G) hW (ci_10 (Nat.le_of_ble_eq_true rfl)) dX12_readAct_93 ?_
    refine lv_if_eq (tgt := 103) hx hb dX12_readAct_96 (by decide) (fun c96 => ?_) (fun c96 => ?_)
    · replace h := h.1 c96
      refine lv_iconst hx hb dX12_readAct_103 ki_1 ?_
      exact b104 _ _ _ H locs ls hW hS (lv_sub hl [0] rfl) h
    · replace h := h.2 c96
      refine lv_iconst hx hb dX12_readAct_99 ki_0 ?_
      refine lv_goto (tgt := 104) hx hb dX12_readAct_100 (by decide) ?_
      exact b104 _ _ _ H locs ls hW hS (lv_sub hl [0] rfl) h
  have b58 : ∀ (M : Mem) (y0 : Int32) (y1 : Int32) (H : Heap) (locs : List Loc) (ls : Array Slot), WPm G M H → va_S (fun q => bs G ≤ q) s.heap H locs → lv_has ls 3 [(0, .ref (ad G 10 0))] → s_X12_readAct_58 P M y0 y1 → W p l e rm_X12_readAct s m AV below meth c H locs 0 0 (MQ below (va_Qi P (WS G) (fun q => bs G ≤ q)) AV s 0 0 (fun q => bs G ≤ q)) (F0 m 58 ls [.int y0, .int y1, .ref (ad G 10 0)]) := by
    intro M y0 y1 H locs ls hW hS hl h
    unfold s_X12_readAct_58 at h
    refine lv_iadd hx hb dX12_readAct_58 ?_
    refine m_put S hK fk_X12_167 tyX12_ok nmX12 rfl pf_X12_26 (pv_10_26 G) hW hS (ci_10 (Nat.le_of_ble_eq_true rfl)) rfl rfl dX12_readAct_59 (fun Mm59 eMm59 H locs hW hS => ?_)
    replace h := h Mm59 eMm59
    refine lv_aload_n hx hb dX12_readAct_62 rfl (lv_at hl 0 rfl) ?_
    refine lv_aload_n hx hb dX12_readAct_63 rfl (lv_at hl 0 rfl) ?_
    refine m_geti S hK fk_X12_206 (gi_10_27 G) hW (ci_10 (Nat.le_of_ble_eq_true rfl)) dX12_readAct_64 ?_
    refine lv_if_ne (tgt := 79) hx hb dX12_readAct_67 (by decide) (fun c67 => ?_) (fun c67 => ?_)
    · replace h := h.1 c67
      refine lv_iconst hx hb dX12_readAct_79 ki_1 ?_
      refine lv_goto (tgt := 84) hx hb dX12_readAct_80 (by decide) ?_
      exact b84 _ _ H locs ls hW hS (lv_sub hl [0] rfl) h
    · replace h := h.2 c67
      refine lv_aload_n hx hb dX12_readAct_70 rfl (lv_at hl 0 rfl) ?_
      refine m_ci0 (m_rV S hK hW (m_szH hbs hS) (c_X12_here l ) h lk_X12_196 (m_recv hK hW (ci_10 (Nat.le_of_ble_eq_true rfl)) (rc_10 G) rfl) rfl hl.1 rfl ⟨Nat.le_of_ble_eq_true rfl, Nat.le_of_ble_eq_true rfl⟩ (Nat.le_of_ble_eq_true rfl) ⟨Nat.zero_le _, Nat.zero_le _⟩ dX12_readAct_71) hS rfl rfl (fun rr71 Mm71 H locs h hW hS => ?_)
      refine lv_bipush hx hb dX12_readAct_74 kb_58 ?_
      refine lv_icmp_eq (tgt := 83) hx hb dX12_readAct_76 (by decide) (fun c76 => ?_) (fun c76 => ?_)
      · replace h := h.1 c76
        refine lv_iconst hx hb dX12_readAct_83 ki_0 ?_
        exact b84 _ _ H locs ls hW hS (lv_sub hl [0] rfl) h
      · replace h := h.2 c76
        refine lv_iconst hx hb dX12_readAct_79 ki_1 ?_
        refine lv_goto (tgt := 84) hx hb dX12_readAct_80 (by decide) ?_
        exact b84 _ _ H locs ls hW hS (lv_sub hl [0] rfl) h
  have b38 : ∀ (M : Mem) (y0 : Int32) (H : Heap) (locs : List Loc) (ls : Array Slot), WPm G M H → va_S (fun q => bs G ≤ q) s.heap H locs → lv_has ls 3 [(0, .ref (ad G 10 0))] → s_X12_readAct_38 P M y0 → W p l e rm_X12_readAct s m AV below meth c H locs 0 0 (MQ below (va_Qi P (WS G) (fun q => bs G ≤ q)) AV s 0 0 (fun q => bs G ≤ q)) (F0 m 38 ls [.int y0, .ref (ad G 10 0)]) := by
    intro M y0 H locs ls hW hS hl h
    unfold s_X12_readAct_38 at h
    obtain ⟨hn38, h⟩ := h
    refine m_put S hK fk_X12_206 tyX12_ok nmX12 rfl pf_X12_27 (pv_10_27 G) hW hS (ci_10 (Nat.le_of_ble_eq_true rfl)) (isB_n hn38) (isB_f hn38) dX12_readAct_38 (fun Mm38 eMm38 H locs hW hS => ?_)
    replace h := h Mm38 eMm38
    refine lv_aload_n hx hb dX12_readAct_41 rfl (lv_at hl 0 rfl) ?_
    refine lv_dup hx hb dX12_readAct_42 rfl ?_
    refine m_geti S hK fk_X12_167 (gi_10_26 G) hW (ci_10 (Nat.le_of_ble_eq_true rfl)) dX12_readAct_43 ?_
    refine lv_aload_n hx hb dX12_readAct_46 rfl (lv_at hl 0 rfl) ?_
    refine m_geti S hK fk_X12_206 (gi_10_27 G) hW (ci_10 (Nat.le_of_ble_eq_true rfl)) dX12_readAct_47 ?_
    refine lv_if_eq (tgt := 57) hx hb dX12_readAct_50 (by decide) (fun c50 => ?_) (fun c50 => ?_)
    · replace h := h.1 c50
      refine lv_iconst hx hb dX12_readAct_57 ki_1 ?_
      exact b58 _ _ _ H locs ls hW hS (lv_sub hl [0] rfl) h
    · replace h := h.2 c50
      refine lv_iconst hx hb dX12_readAct_53 ki_0 ?_
      refine lv_goto (tgt := 58) hx hb dX12_readAct_54 (by decide) ?_
      exact b58 _ _ _ H locs ls hW hS (lv_sub hl [0] rfl) h
  unfold s_X12_readAct at h
  refine lv_aload_n hx hb dX12_readAct_0 rfl (lv_at hl 0 rfl) ?_
  refine lv_iconst hx hb dX12_readAct_1 ki_0 ?_
  refine m_put S hK fk_X12_167 tyX12_ok nmX12 rfl pf_X12_26 (pv_10_26 G) hW hS (ci_10 (Nat.le_of_ble_eq_true rfl)) rfl rfl dX12_readAct_2 (fun Mm2 eMm2 H locs hW hS => ?_)
  replace h := h Mm2 eMm2
  refine lv_aload_n hx hb dX12_readAct_5 rfl (lv_at hl 0 rfl) ?_
  refine lv_aload_n hx hb dX12_readAct_6 rfl (lv_at hl 0 rfl) ?_
  refine m_ci0 (m_rV S hK hW (m_szH hbs hS) (c_X12_here l ) h lk_X12_196 (m_recv hK hW (ci_10 (Nat.le_of_ble_eq_true rfl)) (rc_10 G) rfl) rfl hl.1 rfl ⟨Nat.le_of_ble_eq_true rfl, Nat.le_of_ble_eq_true rfl⟩ (Nat.le_of_ble_eq_true rfl) ⟨Nat.zero_le _, Nat.zero_le _⟩ dX12_readAct_7) hS rfl rfl (fun rr7 Mm7 H locs h hW hS => ?_)
  refine lv_bipush hx hb dX12_readAct_10 kb_101 ?_
  refine lv_icmp_eq (tgt := 37) hx hb dX12_readAct_12 (by decide) (fun c12 => ?_) (fun c12 => ?_)
  · replace h := h.1 c12
    refine lv_iconst hx hb dX12_readAct_37 ki_0 ?_
    exact b38 _ _ H locs ls hW hS (lv_sub hl [0] rfl) h
  · replace h := h.2 c12
    refine lv_aload_n hx hb dX12_readAct_15 rfl (lv_at hl 0 rfl) ?_
    refine m_ci0 (m_rV S hK hW (m_szH hbs hS) (c_X12_here l ) h lk_X12_196 (m_recv hK hW (ci_10 (Nat.le_of_ble_eq_true rfl)) (rc_10 G) rfl) rfl hl.1 rfl ⟨Nat.le_of_ble_eq_true rfl, Nat.le_of_ble_eq_true rfl⟩ (Nat.le_of_ble_eq_true rfl) ⟨Nat.zero_le _, Nat.zero_le _⟩ dX12_readAct_16) hS rfl rfl (fun rr16 Mm16 H locs h hW hS => ?_)
    refine lv_bipush hx hb dX12_readAct_19 kb_114 ?_
    refine lv_icmp_eq (tgt := 37) hx hb dX12_readAct_21 (by decide) (fun c21 => ?_) (fun c21 => ?_)
    · replace h := h.1 c21
      refine lv_iconst hx hb dX12_readAct_37 ki_0 ?_
      exact b38 _ _ H locs ls hW hS (lv_sub hl [0] rfl) h
    · replace h := h.2 c21
      refine lv_aload_n hx hb dX12_readAct_24 rfl (lv_at hl 0 rfl) ?_
      refine m_ci0 (m_rV S hK hW (m_szH hbs hS) (c_X12_here l ) h lk_X12_196 (m_recv hK hW (ci_10 (Nat.le_of_ble_eq_true rfl)) (rc_10 G) rfl) rfl hl.1 rfl ⟨Nat.le_of_ble_eq_true rfl, Nat.le_of_ble_eq_true rfl⟩ (Nat.le_of_ble_eq_true rfl) ⟨Nat.zero_le _, Nat.zero_le _⟩ dX12_readAct_25) hS rfl rfl (fun rr25 Mm25 H locs h hW hS => ?_)
      refine lv_bipush hx hb dX12_readAct_28 kb_111 ?_
      refine lv_icmp_eq (tgt := 37) hx hb dX12_readAct_30 (by decide) (fun c30 => ?_) (fun c30 => ?_)
      · replace h := h.1 c30
        refine lv_iconst hx hb dX12_readAct_37 ki_0 ?_
        exact b38 _ _ H locs ls hW hS (lv_sub hl [0] rfl) h
      · replace h := h.2 c30
        refine lv_iconst hx hb dX12_readAct_33 ki_1 ?_
        refine lv_goto (tgt := 38) hx hb dX12_readAct_34 (by decide) ?_
        exact b38 _ _ H locs ls hW hS (lv_sub hl [0] rfl) h
def s_X12_lacks (M : Mem) (x1 : Int32) (x2 : Int32) (P : Int32 → Mem → Prop) : Prop :=
  s_X12_in M x1 (0 : Int32) (7 : Int32) (fun rr4 Mm4 => (¬ rr4 = 0 → vp_in x1 8 ∧ ((¬ (Mm4.1 72 0 x1.toNatClampNeg) = 0 → vp_in x1 8 ∧ ((¬ (Mm4.1 72 0 x1.toNatClampNeg) = (2 : Int32) → P (-12 : Int32) Mm4) ∧ ((Mm4.1 72 0 x1.toNatClampNeg) = (2 : Int32) → vp_in x1 8 ∧ (((Mm4.1 76 0 x1.toNatClampNeg) = x2 → P (0 : Int32) Mm4) ∧ (¬ (Mm4.1 76 0 x1.toNatClampNeg) = x2 → P (-12 : Int32) Mm4))))) ∧ ((Mm4.1 72 0 x1.toNatClampNeg) = 0 → P (-11 : Int32) Mm4))) ∧ (rr4 = 0 → P (-1 : Int32) Mm4))
abbrev rm_X12_lacks : Room := { frames := 1, cells := 0, slots := 0, locals := 22 }
set_option maxHeartbeats 4000000 in
set_option maxRecDepth 100000 in
theorem c_X12_lacks (l : Launch) {G : Gn} {M : Mem} {x1 : Int32} {x2 : Int32} {P : Int32 → Mem → Prop} : MQi l yX12_lacks cX12_lacks 3 (some .int) rm_X12_lacks [.ref (ad G 10 0), .int x1, .int x2] G M (s_X12_lacks M x1 x2 P) P := by
  refine m_enter (by decide +kernel) (Nat.le_of_ble_eq_true rfl) ?_
  intro p e s m below meth c ls H locs S hret hlocks hname hK hbs hW hS hl h
  obtain ⟨AV, hAV⟩ : ∃ z : Array Value, z = ([.ref (ad G 10 0), .int x1, .int x2] : List Value).toArray := ⟨_, rfl⟩
  rw [← hAV] at S ⊢
  replace S : CallFix p m c cX12_lacks 3 s AV lw_G "MilkDeskModel" := S
  have hx := S.1
  have hb := S.2.1
  have hml := S.2.2.1
  have hown := S.2.2.2.1
  have hts := S.2.2.2.2
  replace hl : lv_has ls 3 [(0, .ref (ad G 10 0)), (1, .int x1), (2, .int x2)] := hl
  unfold s_X12_lacks at h
  refine lv_iload_n hx hb dX12_lacks_0 rfl (lv_at hl 1 rfl) ?_
  refine lv_iconst hx hb dX12_lacks_1 ki_0 ?_
  refine lv_bipush hx hb dX12_lacks_2 kb_7 ?_
  refine m_ci0 (m_rS S hK hW (m_szH hbs hS) (c_X12_in l ) h lk_X12_131 rfl hl.1 rfl ⟨Nat.le_of_ble_eq_true rfl, Nat.le_of_ble_eq_true rfl⟩ (Nat.le_of_ble_eq_true rfl) ⟨Nat.zero_le _, Nat.zero_le _⟩ dX12_lacks_4) hS rfl rfl (fun rr4 Mm4 H locs h hW hS => ?_)
  refine lv_if_ne (tgt := 12) hx hb dX12_lacks_7 (by decide) (fun c7 => ?_) (fun c7 => ?_)
  · replace h := h.1 c7
    refine lv_aload_n hx hb dX12_lacks_12 rfl (lv_at hl 0 rfl) ?_
    refine m_getr S hK fk_X12_102 (gr_10_45 G 0) hW (ci_10 (Nat.le_of_ble_eq_true rfl)) dX12_lacks_13 ?_
    refine lv_iload_n hx hb dX12_lacks_16 rfl (lv_at hl 1 rfl) ?_
    obtain ⟨hb17, h⟩ := h
    refine m_ald S hK (ar_72 G) hW (ci_72 (Nat.le_of_ble_eq_true rfl)) hb17 dX12_lacks_17 ?_
    refine lv_if_ne (tgt := 26) hx hb dX12_lacks_18 (by decide) (fun c18 => ?_) (fun c18 => ?_)
    · replace h := h.1 c18
      refine lv_aload_n hx hb dX12_lacks_26 rfl (lv_at hl 0 rfl) ?_
      refine m_getr S hK fk_X12_102 (gr_10_45 G 0) hW (ci_10 (Nat.le_of_ble_eq_true rfl)) dX12_lacks_27 ?_
      refine lv_iload_n hx hb dX12_lacks_30 rfl (lv_at hl 1 rfl) ?_
      obtain ⟨hb31, h⟩ := h
      refine m_ald S hK (ar_72 G) hW (ci_72 (Nat.le_of_ble_eq_true rfl)) hb31 dX12_lacks_31 ?_
      refine lv_iconst hx hb dX12_lacks_32 ki_2 ?_
      refine lv_icmp_ne (tgt := 46) hx hb dX12_lacks_33 (by decide) (fun c33 => ?_) (fun c33 => ?_)
      · replace h := h.1 c33
        refine lv_bipush hx hb dX12_lacks_46 kb_m12 ?_
        refine lv_goto (tgt := 52) hx hb dX12_lacks_48 (by decide) ?_
        exact m_iret S hret hlocks hK hW hbs hS rfl h dX12_lacks_52
      · replace h := h.2 c33
        refine lv_aload_n hx hb dX12_lacks_36 rfl (lv_at hl 0 rfl) ?_
        refine m_getr S hK fk_X12_114 (gr_10_49 G 0) hW (ci_10 (Nat.le_of_ble_eq_true rfl)) dX12_lacks_37 ?_
        refine lv_iload_n hx hb dX12_lacks_40 rfl (lv_at hl 1 rfl) ?_
        obtain ⟨hb41, h⟩ := h
        refine m_ald S hK (ar_76 G) hW (ci_76 (Nat.le_of_ble_eq_true rfl)) hb41 dX12_lacks_41 ?_
        refine lv_iload_n hx hb dX12_lacks_42 rfl (lv_at hl 2 rfl) ?_
        refine lv_icmp_eq (tgt := 51) hx hb dX12_lacks_43 (by decide) (fun c43 => ?_) (fun c43 => ?_)
        · replace h := h.1 c43
          refine lv_iconst hx hb dX12_lacks_51 ki_0 ?_
          exact m_iret S hret hlocks hK hW hbs hS rfl h dX12_lacks_52
        · replace h := h.2 c43
          refine lv_bipush hx hb dX12_lacks_46 kb_m12 ?_
          refine lv_goto (tgt := 52) hx hb dX12_lacks_48 (by decide) ?_
          exact m_iret S hret hlocks hK hW hbs hS rfl h dX12_lacks_52
    · replace h := h.2 c18
      refine lv_bipush hx hb dX12_lacks_21 kb_m11 ?_
      refine lv_goto (tgt := 52) hx hb dX12_lacks_23 (by decide) ?_
      exact m_iret S hret hlocks hK hW hbs hS rfl h dX12_lacks_52
  · replace h := h.2 c7
    refine lv_iconst hx hb dX12_lacks_10 ki_m1 ?_
    exact m_iret S hret hlocks hK hW hbs hS rfl h dX12_lacks_11
def s_X12_faultOf (M : Mem) (x1 : Int32) (P : Int32 → Mem → Prop) : Prop :=
  ∀ Mm2 : Mem, Mm2 = wI M 10 0 23 (1 : Int32) → ∀ Mm10 : Mem, Mm10 = wI Mm2 10 0 24 ((80 : Int32) * x1) → vp_in x1 8 ∧ (∀ Mm20 : Mem, Mm20 = wI Mm10 10 0 25 (Mm10.1 77 0 x1.toNatClampNeg) → s_X12_readAct Mm20 (fun rr24 Mm24 => ((Mm24.1 10 0 27) = 0 → P (-1 : Int32) Mm24) ∧ (¬ (Mm24.1 10 0 27) = 0 → P (Mm24.1 10 0 26) Mm24)))
abbrev rm_X12_faultOf : Room := { frames := 8, cells := 0, slots := 0, locals := 184 }
set_option maxHeartbeats 4000000 in
set_option maxRecDepth 100000 in
theorem c_X12_faultOf (l : Launch) {G : Gn} {M : Mem} {x1 : Int32} {P : Int32 → Mem → Prop} : MQi l yX12_faultOf cX12_faultOf 2 (some .int) rm_X12_faultOf [.ref (ad G 10 0), .int x1] G M (s_X12_faultOf M x1 P) P := by
  refine m_enter (by decide +kernel) (Nat.le_of_ble_eq_true rfl) ?_
  intro p e s m below meth c ls H locs S hret hlocks hname hK hbs hW hS hl h
  obtain ⟨AV, hAV⟩ : ∃ z : Array Value, z = ([.ref (ad G 10 0), .int x1] : List Value).toArray := ⟨_, rfl⟩
  rw [← hAV] at S ⊢
  replace S : CallFix p m c cX12_faultOf 2 s AV lw_G "MilkDeskModel" := S
  have hx := S.1
  have hb := S.2.1
  have hml := S.2.2.1
  have hown := S.2.2.2.1
  have hts := S.2.2.2.2
  replace hl : lv_has ls 2 [(0, .ref (ad G 10 0)), (1, .int x1)] := hl
  unfold s_X12_faultOf at h
  refine lv_aload_n hx hb dX12_faultOf_0 rfl (lv_at hl 0 rfl) ?_
  refine lv_iconst hx hb dX12_faultOf_1 ki_1 ?_
  refine m_put S hK fk_X12_173 tyX12_ok nmX12 rfl pf_X12_23 (pv_10_23 G) hW hS (ci_10 (Nat.le_of_ble_eq_true rfl)) (isB_n isB_1) (isB_f isB_1) dX12_faultOf_2 (fun Mm2 eMm2 H locs hW hS => ?_)
  replace h := h Mm2 eMm2
  refine lv_aload_n hx hb dX12_faultOf_5 rfl (lv_at hl 0 rfl) ?_
  refine lv_bipush hx hb dX12_faultOf_6 kb_80 ?_
  refine lv_iload_n hx hb dX12_faultOf_8 rfl (lv_at hl 1 rfl) ?_
  refine lv_imul hx hb dX12_faultOf_9 ?_
  refine m_put S hK fk_X12_177 tyX12_ok nmX12 rfl pf_X12_24 (pv_10_24 G) hW hS (ci_10 (Nat.le_of_ble_eq_true rfl)) rfl rfl dX12_faultOf_10 (fun Mm10 eMm10 H locs hW hS => ?_)
  replace h := h Mm10 eMm10
  refine lv_aload_n hx hb dX12_faultOf_13 rfl (lv_at hl 0 rfl) ?_
  refine lv_aload_n hx hb dX12_faultOf_14 rfl (lv_at hl 0 rfl) ?_
  refine m_getr S hK fk_X12_117 (gr_10_50 G 0) hW (ci_10 (Nat.le_of_ble_eq_true rfl)) dX12_faultOf_15 ?_
  refine lv_iload_n hx hb dX12_faultOf_18 rfl (lv_at hl 1 rfl) ?_
  obtain ⟨hb19, h⟩ := h
  refine m_ald S hK (ar_77 G) hW (ci_77 (Nat.le_of_ble_eq_true rfl)) hb19 dX12_faultOf_19 ?_
  refine m_put S hK fk_X12_170 tyX12_ok nmX12 rfl pf_X12_25 (pv_10_25 G) hW hS (ci_10 (Nat.le_of_ble_eq_true rfl)) rfl rfl dX12_faultOf_20 (fun Mm20 eMm20 H locs hW hS => ?_)
  replace h := h Mm20 eMm20
  refine lv_aload_n hx hb dX12_faultOf_23 rfl (lv_at hl 0 rfl) ?_
  refine m_ci0 (m_rV S hK hW (m_szH hbs hS) (c_X12_readAct l ) h lk_X12_242 (m_recv hK hW (ci_10 (Nat.le_of_ble_eq_true rfl)) (rc_10 G) rfl) rfl hl.1 rfl ⟨Nat.le_of_ble_eq_true rfl, Nat.le_of_ble_eq_true rfl⟩ (Nat.le_of_ble_eq_true rfl) ⟨Nat.zero_le _, Nat.zero_le _⟩ dX12_faultOf_24) hS rfl rfl (fun rr24 Mm24 H locs h hW hS => ?_)
  refine lv_pop hx hb dX12_faultOf_27 rfl ?_
  refine lv_aload_n hx hb dX12_faultOf_28 rfl (lv_at hl 0 rfl) ?_
  refine m_geti S hK fk_X12_206 (gi_10_27 G) hW (ci_10 (Nat.le_of_ble_eq_true rfl)) dX12_faultOf_29 ?_
  refine lv_if_eq (tgt := 42) hx hb dX12_faultOf_32 (by decide) (fun c32 => ?_) (fun c32 => ?_)
  · replace h := h.1 c32
    refine lv_iconst hx hb dX12_faultOf_42 ki_m1 ?_
    exact m_iret S hret hlocks hK hW hbs hS rfl h dX12_faultOf_43
  · replace h := h.2 c32
    refine lv_aload_n hx hb dX12_faultOf_35 rfl (lv_at hl 0 rfl) ?_
    refine m_geti S hK fk_X12_167 (gi_10_26 G) hW (ci_10 (Nat.le_of_ble_eq_true rfl)) dX12_faultOf_36 ?_
    refine lv_goto (tgt := 43) hx hb dX12_faultOf_39 (by decide) ?_
    exact m_iret S hret hlocks hK hW hbs hS rfl h dX12_faultOf_43
def s_X12_fault (M : Mem) (x1 : Int32) (P : Int32 → Mem → Prop) : Prop :=
  ∀ Mm2 : Mem, Mm2 = wI M 10 0 0 (0 : Int32) → s_X12_lacks Mm2 x1 (0 : Int32) (fun rr8 Mm8 => (0 ≤ rr8 → s_X12_faultOf Mm8 x1 (fun rr20 Mm20 => (0 ≤ rr20 → P rr20 Mm20) ∧ (¬ 0 ≤ rr20 → P (-4 : Int32) Mm20))) ∧ (¬ 0 ≤ rr8 → P rr8 Mm8))
abbrev rm_X12_fault : Room := { frames := 9, cells := 0, slots := 0, locals := 205 }
set_option maxHeartbeats 4000000 in
set_option maxRecDepth 100000 in
theorem c_X12_fault (l : Launch) {G : Gn} {M : Mem} {x1 : Int32} {P : Int32 → Mem → Prop} : MQi l yX12_fault cX12_fault 4 (some .int) rm_X12_fault [.ref (ad G 10 0), .int x1] G M (s_X12_fault M x1 P) P := by
  refine m_enter (by decide +kernel) (Nat.le_of_ble_eq_true rfl) ?_
  intro p e s m below meth c ls H locs S hret hlocks hname hK hbs hW hS hl h
  obtain ⟨AV, hAV⟩ : ∃ z : Array Value, z = ([.ref (ad G 10 0), .int x1] : List Value).toArray := ⟨_, rfl⟩
  rw [← hAV] at S ⊢
  replace S : CallFix p m c cX12_fault 4 s AV lw_G "MilkDeskModel" := S
  have hx := S.1
  have hb := S.2.1
  have hml := S.2.2.1
  have hown := S.2.2.2.1
  have hts := S.2.2.2.2
  replace hl : lv_has ls 4 [(0, .ref (ad G 10 0)), (1, .int x1)] := hl
  unfold s_X12_fault at h
  refine lv_aload_n hx hb dX12_fault_0 rfl (lv_at hl 0 rfl) ?_
  refine lv_iconst hx hb dX12_fault_1 ki_0 ?_
  refine m_put S hK fk_X12_128 tyX12_ok nmX12 rfl pf_X12_0 (pv_10_0 G) hW hS (ci_10 (Nat.le_of_ble_eq_true rfl)) rfl rfl dX12_fault_2 (fun Mm2 eMm2 H locs hW hS => ?_)
  replace h := h Mm2 eMm2
  refine lv_aload_n hx hb dX12_fault_5 rfl (lv_at hl 0 rfl) ?_
  refine lv_iload_n hx hb dX12_fault_6 rfl (lv_at hl 1 rfl) ?_
  refine lv_iconst hx hb dX12_fault_7 ki_0 ?_
  refine m_ci0 (m_rV S hK hW (m_szH hbs hS) (c_X12_lacks l ) h lk_X12_245 (m_recv hK hW (ci_10 (Nat.le_of_ble_eq_true rfl)) (rc_10 G) rfl) rfl hl.1 rfl ⟨Nat.le_of_ble_eq_true rfl, Nat.le_of_ble_eq_true rfl⟩ (Nat.le_of_ble_eq_true rfl) ⟨Nat.zero_le _, Nat.zero_le _⟩ dX12_fault_8) hS rfl rfl (fun rr8 Mm8 H locs h hW hS => ?_)
  refine lv_istore_n (lv' := [(2, .int rr8), (0, .ref (ad G 10 0)), (1, .int x1)]) hx hb dX12_fault_11 rfl hl (by decide) rfl (fun ls hl => ?_)
  refine lv_iload_n hx hb dX12_fault_12 rfl (lv_at hl 0 rfl) ?_
  refine lv_if_ge (tgt := 18) hx hb dX12_fault_13 (by decide) (fun c13 => ?_) (fun c13 => ?_)
  · replace h := h.1 c13
    refine lv_aload_n hx hb dX12_fault_18 rfl (lv_at hl 1 rfl) ?_
    refine lv_iload_n hx hb dX12_fault_19 rfl (lv_at hl 2 rfl) ?_
    refine m_ci0 (m_rV S hK hW (m_szH hbs hS) (c_X12_faultOf l ) h lk_X12_248 (m_recv hK hW (ci_10 (Nat.le_of_ble_eq_true rfl)) (rc_10 G) rfl) rfl hl.1 rfl ⟨Nat.le_of_ble_eq_true rfl, Nat.le_of_ble_eq_true rfl⟩ (Nat.le_of_ble_eq_true rfl) ⟨Nat.zero_le _, Nat.zero_le _⟩ dX12_fault_20) hS rfl rfl (fun rr20 Mm20 H locs h hW hS => ?_)
    refine lv_istore_n (lv' := [(3, .int rr20), (2, .int rr8), (0, .ref (ad G 10 0)), (1, .int x1)]) hx hb dX12_fault_23 rfl hl (by decide) rfl (fun ls hl => ?_)
    refine lv_iload_n hx hb dX12_fault_24 rfl (lv_at hl 0 rfl) ?_
    refine lv_if_ge (tgt := 33) hx hb dX12_fault_25 (by decide) (fun c25 => ?_) (fun c25 => ?_)
    · replace h := h.1 c25
      refine lv_iload_n hx hb dX12_fault_33 rfl (lv_at hl 0 rfl) ?_
      exact m_iret S hret hlocks hK hW hbs hS rfl h dX12_fault_34
    · replace h := h.2 c25
      refine lv_bipush hx hb dX12_fault_28 kb_m4 ?_
      refine lv_goto (tgt := 34) hx hb dX12_fault_30 (by decide) ?_
      exact m_iret S hret hlocks hK hW hbs hS rfl h dX12_fault_34
  · replace h := h.2 c13
    refine lv_iload_n hx hb dX12_fault_16 rfl (lv_at hl 0 rfl) ?_
    exact m_iret S hret hlocks hK hW hbs hS rfl h dX12_fault_17
def s_X12_act_101 (x1 : Int32) (x2 : Int32) (x3 : Int32) (x6 : Int32) (P : Int32 → Mem → Prop) (K101 : Mem × Int32 → Prop) (M : Mem) (x7 : Int32) : Prop :=
  vp_in x1 8 ∧ (((M.1 77 0 x1.toNatClampNeg) ≤ x7 → vp_in x1 8 ∧ (vp_in x6 16 ∧ (∀ Mm160 : Mem, Mm160 = wI M 58 0 (x6.toNatClampNeg) (M.1 77 0 x1.toNatClampNeg) → vp_in x6 16 ∧ (∀ Mm168 : Mem, Mm168 = wI Mm160 59 0 (x6.toNatClampNeg) x2 → vp_in x6 16 ∧ (∀ Mm176 : Mem, Mm176 = wI Mm168 60 0 (x6.toNatClampNeg) x3 → vp_in ((160 : Int32) + x6) 320 ∧ (∀ Mm189 : Mem, Mm189 = wI Mm176 44 0 (((160 : Int32) + x6).toNatClampNeg) (1000000 : Int32) → ∀ Mm199 : Mem, Mm199 = wI Mm189 44 0 2 ((Mm189.1 44 0 2) + (1 : Int32)) → ∀ Mm202 : Mem, Mm202 = wI Mm199 10 0 37 (-1 : Int32) → P x6 Mm202)))))) ∧ (¬ (M.1 77 0 x1.toNatClampNeg) ≤ x7 → vp_in (((80 : Int32) * x1) + x7) 640 ∧ (vp_in (((80 : Int32) * x6) + x7) 1280 ∧ (∀ Mm141 : Mem, Mm141 = wI M 57 0 ((((80 : Int32) * x6) + x7).toNatClampNeg) (((M.2.1 78 0 (((80 : Int32) * x1) + x7).toNatClampNeg).toInt32) &&& (255 : Int32)) → ∀ x7_142 : Int32, x7_142 = x7 + (1 : Int32) → K101 (Mm141, x7_142)))))
def s_X12_act (M : Mem) (x1 : Int32) (x2 : Int32) (x3 : Int32) (P : Int32 → Mem → Prop) : Prop :=
  ∀ Mm2 : Mem, Mm2 = wI M 10 0 0 (0 : Int32) → s_X12_in Mm2 x1 (0 : Int32) (7 : Int32) (fun rr9 Mm9 => (rr9 = 0 → P (-1 : Int32) Mm9) ∧ (¬ rr9 = 0 → s_X12_in Mm9 x2 (-1 : Int32) (3 : Int32) (fun rr18 Mm18 => (rr18 = 0 → P (-1 : Int32) Mm18) ∧ (¬ rr18 = 0 → s_X12_in Mm18 x3 (Mm18.1 44 0 3) (400 : Int32) (fun rr34 Mm34 => (¬ rr34 = 0 → (¬ (Mm34.1 44 0 2) = (16 : Int32) → s_X12_lacks Mm34 x1 (0 : Int32) (fun rr59 Mm59 => (0 ≤ rr59 → s_X12_faultOf Mm59 x1 (fun rr74 Mm74 => (rr74 < 0 → ∀ x6_96 : Int32, x6_96 = (Mm74.1 44 0 2) → ∃ n, Lz (fun (K101 : Mem × Int32 → Prop) (a : Mem × Int32) => s_X12_act_101 x1 x2 x3 x6_96 P K101 a.1 a.2) n (Mm74, (0 : Int32))) ∧ (¬ rr74 < 0 → P ((-100 : Int32) - rr74) Mm74))) ∧ (¬ 0 ≤ rr59 → P rr59 Mm59))) ∧ ((Mm34.1 44 0 2) = (16 : Int32) → P (-2 : Int32) Mm34)) ∧ (rr34 = 0 → P (-1 : Int32) Mm34))))))
abbrev rm_X12_act : Room := { frames := 9, cells := 0, slots := 0, locals := 205 }
set_option maxHeartbeats 4000000 in
set_option maxRecDepth 100000 in
theorem c_X12_act (l : Launch) {G : Gn} {M : Mem} {x1 : Int32} {x2 : Int32} {x3 : Int32} {P : Int32 → Mem → Prop} : MQi l yX12_act cX12_act 8 (some .int) rm_X12_act [.ref (ad G 10 0), .int x1, .int x2, .int x3] G M (s_X12_act M x1 x2 x3 P) P := by
  refine m_enter (by decide +kernel) (Nat.le_of_ble_eq_true rfl) ?_
  intro p e s m below meth c ls H locs S hret hlocks hname hK hbs hW hS hl h
  obtain ⟨AV, hAV⟩ : ∃ z : Array Value, z = ([.ref (ad G 10 0), .int x1, .int x2, .int x3] : List Value).toArray := ⟨_, rfl⟩
  rw [← hAV] at S ⊢
  replace S : CallFix p m c cX12_act 8 s AV lw_G "MilkDeskModel" := S
  have hx := S.1
  have hb := S.2.1
  have hml := S.2.2.1
  have hown := S.2.2.2.1
  have hts := S.2.2.2.2
  replace hl : lv_has ls 8 [(0, .ref (ad G 10 0)), (1, .int x1), (2, .int x2), (3, .int x3)] := hl
  have w101 : ∀ (x6 : Int32), ∀ (n : Nat) (a : Mem × Int32), Lz (fun (K101 : Mem × Int32 → Prop) (a : Mem × Int32) => s_X12_act_101 x1 x2 x3 x6 P K101 a.1 a.2) n a → ∀ (H : Heap) (locs : List Loc) (ls : Array Slot), WPm G a.1 H → va_S (fun q => bs G ≤ q) s.heap H locs → lv_has ls 8 [(0, .ref (ad G 10 0)), (1, .int x1), (2, .int x2), (3, .int x3), (6, .int x6), (7, .int a.2)] → W p l e rm_X12_act s m AV below meth c H locs 0 0 (MQ below (va_Qi P (WS G) (fun q => bs G ≤ q)) AV s 0 0 (fun q => bs G ≤ q)) (F0 m 101 ls []) := by
    intro x6
    refine Lz_walk ?_
    rintro K101 kk101 ⟨M, x7⟩ h H locs ls hW hS hl
    replace h : s_X12_act_101 x1 x2 x3 x6 P K101 M x7 := h
    replace hW : WPm G M H := hW
    replace hl : lv_has ls 8 [(0, .ref (ad G 10 0)), (1, .int x1), (2, .int x2), (3, .int x3), (6, .int x6), (7, .int x7)] := hl
    unfold s_X12_act_101 at h
    refine lv_iload hx hb dX12_act_101 (lv_at hl 5 rfl) ?_
    refine lv_aload_n hx hb dX12_act_103 rfl (lv_at hl 0 rfl) ?_
    refine m_getr S hK fk_X12_117 (gr_10_50 G 0) hW (ci_10 (Nat.le_of_ble_eq_true rfl)) dX12_act_104 ?_
    refine lv_iload_n hx hb dX12_act_107 rfl (lv_at hl 1 rfl) ?_
    obtain ⟨hb108, h⟩ := h
    refine m_ald S hK (ar_77 G) hW (ci_77 (Nat.le_of_ble_eq_true rfl)) hb108 dX12_act_108 ?_
    refine lv_icmp_ge (tgt := 148) hx hb dX12_act_109 (by decide) (fun c109 => ?_) (fun c109 => ?_)
    · replace h := h.1 c109
      refine lv_aload_n hx hb dX12_act_148 rfl (lv_at hl 0 rfl) ?_
      refine m_getr S hK fk_X12_52 (gr_10_16 G 0) hW (ci_10 (Nat.le_of_ble_eq_true rfl)) dX12_act_149 ?_
      refine lv_iload hx hb dX12_act_152 (lv_at hl 4 rfl) ?_
      refine lv_aload_n hx hb dX12_act_154 rfl (lv_at hl 0 rfl) ?_
      refine m_getr S hK fk_X12_117 (gr_10_50 G 0) hW (ci_10 (Nat.le_of_ble_eq_true rfl)) dX12_act_155 ?_
      refine lv_iload_n hx hb dX12_act_158 rfl (lv_at hl 1 rfl) ?_
      obtain ⟨hb159, h⟩ := h
      refine m_ald S hK (ar_77 G) hW (ci_77 (Nat.le_of_ble_eq_true rfl)) hb159 dX12_act_159 ?_
      obtain ⟨hb160, h⟩ := h
      refine m_ast S hK (ar_58 G) hW hS (ci_58 (Nat.le_of_ble_eq_true rfl)) hb160 dX12_act_160 (fun Mm160 eMm160 H locs hW hS => ?_)
      replace h := h Mm160 eMm160
      refine lv_aload_n hx hb dX12_act_161 rfl (lv_at hl 0 rfl) ?_
      refine m_getr S hK fk_X12_55 (gr_10_17 G 0) hW (ci_10 (Nat.le_of_ble_eq_true rfl)) dX12_act_162 ?_
      refine lv_iload hx hb dX12_act_165 (lv_at hl 4 rfl) ?_
      refine lv_iload_n hx hb dX12_act_167 rfl (lv_at hl 2 rfl) ?_
      obtain ⟨hb168, h⟩ := h
      refine m_ast S hK (ar_59 G) hW hS (ci_59 (Nat.le_of_ble_eq_true rfl)) hb168 dX12_act_168 (fun Mm168 eMm168 H locs hW hS => ?_)
      replace h := h Mm168 eMm168
      refine lv_aload_n hx hb dX12_act_169 rfl (lv_at hl 0 rfl) ?_
      refine m_getr S hK fk_X12_58 (gr_10_18 G 0) hW (ci_10 (Nat.le_of_ble_eq_true rfl)) dX12_act_170 ?_
      refine lv_iload hx hb dX12_act_173 (lv_at hl 4 rfl) ?_
      refine lv_iload_n hx hb dX12_act_175 rfl (lv_at hl 3 rfl) ?_
      obtain ⟨hb176, h⟩ := h
      refine m_ast S hK (ar_60 G) hW hS (ci_60 (Nat.le_of_ble_eq_true rfl)) hb176 dX12_act_176 (fun Mm176 eMm176 H locs hW hS => ?_)
      replace h := h Mm176 eMm176
      refine lv_aload_n hx hb dX12_act_177 rfl (lv_at hl 0 rfl) ?_
      refine m_getr S hK fk_X12_7 (gr_10_1 G 0) hW (ci_10 (Nat.le_of_ble_eq_true rfl)) dX12_act_178 ?_
      refine lv_sipush hx hb dX12_act_181 ks_160 ?_
      refine lv_iload hx hb dX12_act_184 (lv_at hl 4 rfl) ?_
      refine lv_iadd hx hb dX12_act_186 ?_
      refine lv_ldc hx hb hown (hts _ mw_1441) dX12_act_187 ?_
      obtain ⟨hb189, h⟩ := h
      refine m_ast S hK (ar_44 G) hW hS (ci_44 (Nat.le_of_ble_eq_true rfl)) hb189 dX12_act_189 (fun Mm189 eMm189 H locs hW hS => ?_)
      replace h := h Mm189 eMm189
      refine lv_aload_n hx hb dX12_act_190 rfl (lv_at hl 0 rfl) ?_
      refine m_getr S hK fk_X12_7 (gr_10_1 G 0) hW (ci_10 (Nat.le_of_ble_eq_true rfl)) dX12_act_191 ?_
      refine lv_iconst hx hb dX12_act_194 ki_2 ?_
      refine lv_dup2_11 hx hb dX12_act_195 rfl rfl ?_
      refine m_aldk S hK (ar_44 G) hW (ci_44 (Nat.le_of_ble_eq_true rfl)) kn_2 (Nat.le_of_ble_eq_true rfl) dX12_act_196 ?_
      refine lv_iconst hx hb dX12_act_197 ki_1 ?_
      refine lv_iadd hx hb dX12_act_198 ?_
      refine m_astk S hK (ar_44 G) hW hS (ci_44 (Nat.le_of_ble_eq_true rfl)) kn_2 (Nat.le_of_ble_eq_true rfl) dX12_act_199 (fun Mm199 eMm199 H locs hW hS => ?_)
      replace h := h Mm199 eMm199
      refine lv_aload_n hx hb dX12_act_200 rfl (lv_at hl 0 rfl) ?_
      refine lv_iconst hx hb dX12_act_201 ki_m1 ?_
      refine m_put S hK fk_X12_84 tyX12_ok nmX12 rfl pf_X12_37 (pv_10_37 G) hW hS (ci_10 (Nat.le_of_ble_eq_true rfl)) rfl rfl dX12_act_202 (fun Mm202 eMm202 H locs hW hS => ?_)
      replace h := h Mm202 eMm202
      refine lv_iload hx hb dX12_act_205 (lv_at hl 4 rfl) ?_
      exact m_iret S hret hlocks hK hW hbs hS rfl h dX12_act_207
    · replace h := h.2 c109
      refine lv_aload_n hx hb dX12_act_112 rfl (lv_at hl 0 rfl) ?_
      refine m_getr S hK fk_X12_49 (gr_10_15 G 0) hW (ci_10 (Nat.le_of_ble_eq_true rfl)) dX12_act_113 ?_
      refine lv_bipush hx hb dX12_act_116 kb_80 ?_
      refine lv_iload hx hb dX12_act_118 (lv_at hl 4 rfl) ?_
      refine lv_imul hx hb dX12_act_120 ?_
      refine lv_iload hx hb dX12_act_121 (lv_at hl 5 rfl) ?_
      refine lv_iadd hx hb dX12_act_123 ?_
      refine lv_aload_n hx hb dX12_act_124 rfl (lv_at hl 0 rfl) ?_
      refine m_getr S hK fk_X12_120 (gr_10_51 G 0) hW (ci_10 (Nat.le_of_ble_eq_true rfl)) dX12_act_125 ?_
      refine lv_bipush hx hb dX12_act_128 kb_80 ?_
      refine lv_iload_n hx hb dX12_act_130 rfl (lv_at hl 1 rfl) ?_
      refine lv_imul hx hb dX12_act_131 ?_
      refine lv_iload hx hb dX12_act_132 (lv_at hl 5 rfl) ?_
      refine lv_iadd hx hb dX12_act_134 ?_
      obtain ⟨hb135, h⟩ := h
      refine m_jald S hK (ar_78 G) hW (ci_78 (Nat.le_of_ble_eq_true rfl)) hb135 dX12_act_135 ?_
      refine lv_l2i hx hb dX12_act_136 rfl ?_
      refine lv_sipush hx hb dX12_act_137 ks_255 ?_
      refine lv_iand hx hb dX12_act_140 ?_
      obtain ⟨hb141, h⟩ := h
      refine m_ast S hK (ar_57 G) hW hS (ci_57 (Nat.le_of_ble_eq_true rfl)) hb141 dX12_act_141 (fun Mm141 eMm141 H locs hW hS => ?_)
      replace h := h Mm141 eMm141
      obtain ⟨x7_142, ex7_142⟩ : ∃ z : Int32, z = x7 + (1 : Int32) := ⟨_, rfl⟩
      replace h := h x7_142 ex7_142
      refine lv_iinc (v := x7_142) (lv' := [(7, .int x7_142), (0, .ref (ad G 10 0)), (1, .int x1), (2, .int x2), (3, .int x3), (6, .int x6)]) hx hb dX12_act_142 hl (k := 5) rfl (by rw [ex7_142, ki_1]) (by decide) rfl (fun ls hl => ?_)
      refine lv_goto (tgt := 101) hx hb dX12_act_145 (by decide) ?_
      exact kk101 _ h H locs ls hW hS (lv_sub hl [1, 2, 3, 4, 5, 0] rfl)
  unfold s_X12_act at h
  refine lv_aload_n hx hb dX12_act_0 rfl (lv_at hl 0 rfl) ?_
  refine lv_iconst hx hb dX12_act_1 ki_0 ?_
  refine m_put S hK fk_X12_128 tyX12_ok nmX12 rfl pf_X12_0 (pv_10_0 G) hW hS (ci_10 (Nat.le_of_ble_eq_true rfl)) rfl rfl dX12_act_2 (fun Mm2 eMm2 H locs hW hS => ?_)
  replace h := h Mm2 eMm2
  refine lv_iload_n hx hb dX12_act_5 rfl (lv_at hl 1 rfl) ?_
  refine lv_iconst hx hb dX12_act_6 ki_0 ?_
  refine lv_bipush hx hb dX12_act_7 kb_7 ?_
  refine m_ci0 (m_rS S hK hW (m_szH hbs hS) (c_X12_in l ) h lk_X12_131 rfl hl.1 rfl ⟨Nat.le_of_ble_eq_true rfl, Nat.le_of_ble_eq_true rfl⟩ (Nat.le_of_ble_eq_true rfl) ⟨Nat.zero_le _, Nat.zero_le _⟩ dX12_act_9) hS rfl rfl (fun rr9 Mm9 H locs h hW hS => ?_)
  refine lv_if_eq (tgt := 40) hx hb dX12_act_12 (by decide) (fun c12 => ?_) (fun c12 => ?_)
  · replace h := h.1 c12
    refine lv_iconst hx hb dX12_act_40 ki_m1 ?_
    exact m_iret S hret hlocks hK hW hbs hS rfl h dX12_act_41
  · replace h := h.2 c12
    refine lv_iload_n hx hb dX12_act_15 rfl (lv_at hl 2 rfl) ?_
    refine lv_iconst hx hb dX12_act_16 ki_m1 ?_
    refine lv_iconst hx hb dX12_act_17 ki_3 ?_
    refine m_ci0 (m_rS S hK hW (m_szH hbs hS) (c_X12_in l ) h lk_X12_131 rfl hl.1 rfl ⟨Nat.le_of_ble_eq_true rfl, Nat.le_of_ble_eq_true rfl⟩ (Nat.le_of_ble_eq_true rfl) ⟨Nat.zero_le _, Nat.zero_le _⟩ dX12_act_18) hS rfl rfl (fun rr18 Mm18 H locs h hW hS => ?_)
    refine lv_if_eq (tgt := 40) hx hb dX12_act_21 (by decide) (fun c21 => ?_) (fun c21 => ?_)
    · replace h := h.1 c21
      refine lv_iconst hx hb dX12_act_40 ki_m1 ?_
      exact m_iret S hret hlocks hK hW hbs hS rfl h dX12_act_41
    · replace h := h.2 c21
      refine lv_iload_n hx hb dX12_act_24 rfl (lv_at hl 3 rfl) ?_
      refine lv_aload_n hx hb dX12_act_25 rfl (lv_at hl 0 rfl) ?_
      refine m_getr S hK fk_X12_7 (gr_10_1 G 0) hW (ci_10 (Nat.le_of_ble_eq_true rfl)) dX12_act_26 ?_
      refine lv_iconst hx hb dX12_act_29 ki_3 ?_
      refine m_aldk S hK (ar_44 G) hW (ci_44 (Nat.le_of_ble_eq_true rfl)) kn_3 (Nat.le_of_ble_eq_true rfl) dX12_act_30 ?_
      refine lv_sipush hx hb dX12_act_31 ks_400 ?_
      refine m_ci0 (m_rS S hK hW (m_szH hbs hS) (c_X12_in l ) h lk_X12_131 rfl hl.1 rfl ⟨Nat.le_of_ble_eq_true rfl, Nat.le_of_ble_eq_true rfl⟩ (Nat.le_of_ble_eq_true rfl) ⟨Nat.zero_le _, Nat.zero_le _⟩ dX12_act_34) hS rfl rfl (fun rr34 Mm34 H locs h hW hS => ?_)
      refine lv_if_ne (tgt := 42) hx hb dX12_act_37 (by decide) (fun c37 => ?_) (fun c37 => ?_)
      · replace h := h.1 c37
        refine lv_aload_n hx hb dX12_act_42 rfl (lv_at hl 0 rfl) ?_
        refine m_getr S hK fk_X12_7 (gr_10_1 G 0) hW (ci_10 (Nat.le_of_ble_eq_true rfl)) dX12_act_43 ?_
        refine lv_iconst hx hb dX12_act_46 ki_2 ?_
        refine m_aldk S hK (ar_44 G) hW (ci_44 (Nat.le_of_ble_eq_true rfl)) kn_2 (Nat.le_of_ble_eq_true rfl) dX12_act_47 ?_
        refine lv_bipush hx hb dX12_act_48 kb_16 ?_
        refine lv_icmp_ne (tgt := 56) hx hb dX12_act_50 (by decide) (fun c50 => ?_) (fun c50 => ?_)
        · replace h := h.1 c50
          refine lv_aload_n hx hb dX12_act_56 rfl (lv_at hl 0 rfl) ?_
          refine lv_iload_n hx hb dX12_act_57 rfl (lv_at hl 1 rfl) ?_
          refine lv_iconst hx hb dX12_act_58 ki_0 ?_
          refine m_ci0 (m_rV S hK hW (m_szH hbs hS) (c_X12_lacks l ) h lk_X12_245 (m_recv hK hW (ci_10 (Nat.le_of_ble_eq_true rfl)) (rc_10 G) rfl) rfl hl.1 rfl ⟨Nat.le_of_ble_eq_true rfl, Nat.le_of_ble_eq_true rfl⟩ (Nat.le_of_ble_eq_true rfl) ⟨Nat.zero_le _, Nat.zero_le _⟩ dX12_act_59) hS rfl rfl (fun rr59 Mm59 H locs h hW hS => ?_)
          refine lv_istore (lv' := [(4, .int rr59), (0, .ref (ad G 10 0)), (1, .int x1), (2, .int x2), (3, .int x3)]) hx hb dX12_act_62 hl (by decide) rfl (fun ls hl => ?_)
          refine lv_iload hx hb dX12_act_64 (lv_at hl 0 rfl) ?_
          refine lv_if_ge (tgt := 72) hx hb dX12_act_66 (by decide) (fun c66 => ?_) (fun c66 => ?_)
          · replace h := h.1 c66
            refine lv_aload_n hx hb dX12_act_72 rfl (lv_at hl 1 rfl) ?_
            refine lv_iload_n hx hb dX12_act_73 rfl (lv_at hl 2 rfl) ?_
            refine m_ci0 (m_rV S hK hW (m_szH hbs hS) (c_X12_faultOf l ) h lk_X12_248 (m_recv hK hW (ci_10 (Nat.le_of_ble_eq_true rfl)) (rc_10 G) rfl) rfl hl.1 rfl ⟨Nat.le_of_ble_eq_true rfl, Nat.le_of_ble_eq_true rfl⟩ (Nat.le_of_ble_eq_true rfl) ⟨Nat.zero_le _, Nat.zero_le _⟩ dX12_act_74) hS rfl rfl (fun rr74 Mm74 H locs h hW hS => ?_)
            refine lv_istore (lv' := [(5, .int rr74), (4, .int rr59), (0, .ref (ad G 10 0)), (1, .int x1), (2, .int x2), (3, .int x3)]) hx hb dX12_act_77 hl (by decide) rfl (fun ls hl => ?_)
            refine lv_iload hx hb dX12_act_79 (lv_at hl 0 rfl) ?_
            refine lv_if_lt (tgt := 90) hx hb dX12_act_81 (by decide) (fun c81 => ?_) (fun c81 => ?_)
            · replace h := h.1 c81
              refine lv_aload_n hx hb dX12_act_90 rfl (lv_at hl 2 rfl) ?_
              refine m_getr S hK fk_X12_7 (gr_10_1 G 0) hW (ci_10 (Nat.le_of_ble_eq_true rfl)) dX12_act_91 ?_
              refine lv_iconst hx hb dX12_act_94 ki_2 ?_
              refine m_aldk S hK (ar_44 G) hW (ci_44 (Nat.le_of_ble_eq_true rfl)) kn_2 (Nat.le_of_ble_eq_true rfl) dX12_act_95 ?_
              refine lv_topi (fun x6_96 ex6_96 => ?_)
              replace h := h x6_96 ex6_96
              refine lv_istore (lv' := [(6, .int x6_96), (5, .int rr74), (4, .int rr59), (0, .ref (ad G 10 0)), (1, .int x1), (2, .int x2), (3, .int x3)]) hx hb dX12_act_96 hl (by decide) rfl (fun ls hl => ?_)
              refine lv_iconst hx hb dX12_act_98 ki_0 ?_
              refine lv_istore (lv' := [(7, .int (0 : Int32)), (6, .int x6_96), (5, .int rr74), (4, .int rr59), (0, .ref (ad G 10 0)), (1, .int x1), (2, .int x2), (3, .int x3)]) hx hb dX12_act_99 hl (by decide) rfl (fun ls hl => ?_)
              obtain ⟨n101, h⟩ := h
              exact w101 _ n101 _ h H locs ls hW hS (lv_sub hl [4, 5, 6, 7, 1, 0] rfl)
            · replace h := h.2 c81
              refine lv_bipush hx hb dX12_act_84 kb_m100 ?_
              refine lv_iload hx hb dX12_act_86 (lv_at hl 0 rfl) ?_
              refine lv_isub hx hb dX12_act_88 ?_
              exact m_iret S hret hlocks hK hW hbs hS rfl h dX12_act_89
          · replace h := h.2 c66
            refine lv_iload hx hb dX12_act_69 (lv_at hl 0 rfl) ?_
            exact m_iret S hret hlocks hK hW hbs hS rfl h dX12_act_71
        · replace h := h.2 c50
          refine lv_bipush hx hb dX12_act_53 kb_m2 ?_
          exact m_iret S hret hlocks hK hW hbs hS rfl h dX12_act_55
      · replace h := h.2 c37
        refine lv_iconst hx hb dX12_act_40 ki_m1 ?_
        exact m_iret S hret hlocks hK hW hbs hS rfl h dX12_act_41
def s_X12_strike (M : Mem) (x1 : Int32) (x2 : Int32) (P : Int32 → Mem → Prop) : Prop :=
  ∀ Mm2 : Mem, Mm2 = wI M 10 0 0 (0 : Int32) → s_X12_in Mm2 x1 (0 : Int32) ((Mm2.1 44 0 2) - (1 : Int32)) (fun rr15 Mm15 => (rr15 = 0 → P (-1 : Int32) Mm15) ∧ (¬ rr15 = 0 → s_X12_in Mm15 x2 (Mm15.1 44 0 3) (400 : Int32) (fun rr31 Mm31 => (¬ rr31 = 0 → vp_in ((160 : Int32) + x1) 320 ∧ (((1000000 : Int32) ≤ (Mm31.1 44 0 ((160 : Int32) + x1).toNatClampNeg) → vp_in ((160 : Int32) + x1) 320 ∧ (∀ Mm67 : Mem, Mm67 = wI Mm31 44 0 (((160 : Int32) + x1).toNatClampNeg) x2 → ∀ Mm70 : Mem, Mm70 = wI Mm67 10 0 37 (-1 : Int32) → P (1 : Int32) Mm70)) ∧ (¬ (1000000 : Int32) ≤ (Mm31.1 44 0 ((160 : Int32) + x1).toNatClampNeg) → P (-3 : Int32) Mm31))) ∧ (rr31 = 0 → P (-1 : Int32) Mm31))))
abbrev rm_X12_strike : Room := { frames := 1, cells := 0, slots := 0, locals := 22 }
set_option maxHeartbeats 4000000 in
set_option maxRecDepth 100000 in
theorem c_X12_strike (l : Launch) {G : Gn} {M : Mem} {x1 : Int32} {x2 : Int32} {P : Int32 → Mem → Prop} : MQi l yX12_strike cX12_strike 3 (some .int) rm_X12_strike [.ref (ad G 10 0), .int x1, .int x2] G M (s_X12_strike M x1 x2 P) P := by
  refine m_enter (by decide +kernel) (Nat.le_of_ble_eq_true rfl) ?_
  intro p e s m below meth c ls H locs S hret hlocks hname hK hbs hW hS hl h
  obtain ⟨AV, hAV⟩ : ∃ z : Array Value, z = ([.ref (ad G 10 0), .int x1, .int x2] : List Value).toArray := ⟨_, rfl⟩
  rw [← hAV] at S ⊢
  replace S : CallFix p m c cX12_strike 3 s AV lw_G "MilkDeskModel" := S
  have hx := S.1
  have hb := S.2.1
  have hml := S.2.2.1
  have hown := S.2.2.2.1
  have hts := S.2.2.2.2
  replace hl : lv_has ls 3 [(0, .ref (ad G 10 0)), (1, .int x1), (2, .int x2)] := hl
  unfold s_X12_strike at h
  refine lv_aload_n hx hb dX12_strike_0 rfl (lv_at hl 0 rfl) ?_
  refine lv_iconst hx hb dX12_strike_1 ki_0 ?_
  refine m_put S hK fk_X12_128 tyX12_ok nmX12 rfl pf_X12_0 (pv_10_0 G) hW hS (ci_10 (Nat.le_of_ble_eq_true rfl)) rfl rfl dX12_strike_2 (fun Mm2 eMm2 H locs hW hS => ?_)
  replace h := h Mm2 eMm2
  refine lv_iload_n hx hb dX12_strike_5 rfl (lv_at hl 1 rfl) ?_
  refine lv_iconst hx hb dX12_strike_6 ki_0 ?_
  refine lv_aload_n hx hb dX12_strike_7 rfl (lv_at hl 0 rfl) ?_
  refine m_getr S hK fk_X12_7 (gr_10_1 G 0) hW (ci_10 (Nat.le_of_ble_eq_true rfl)) dX12_strike_8 ?_
  refine lv_iconst hx hb dX12_strike_11 ki_2 ?_
  refine m_aldk S hK (ar_44 G) hW (ci_44 (Nat.le_of_ble_eq_true rfl)) kn_2 (Nat.le_of_ble_eq_true rfl) dX12_strike_12 ?_
  refine lv_iconst hx hb dX12_strike_13 ki_1 ?_
  refine lv_isub hx hb dX12_strike_14 ?_
  refine m_ci0 (m_rS S hK hW (m_szH hbs hS) (c_X12_in l ) h lk_X12_131 rfl hl.1 rfl ⟨Nat.le_of_ble_eq_true rfl, Nat.le_of_ble_eq_true rfl⟩ (Nat.le_of_ble_eq_true rfl) ⟨Nat.zero_le _, Nat.zero_le _⟩ dX12_strike_15) hS rfl rfl (fun rr15 Mm15 H locs h hW hS => ?_)
  refine lv_if_eq (tgt := 37) hx hb dX12_strike_18 (by decide) (fun c18 => ?_) (fun c18 => ?_)
  · replace h := h.1 c18
    refine lv_iconst hx hb dX12_strike_37 ki_m1 ?_
    exact m_iret S hret hlocks hK hW hbs hS rfl h dX12_strike_38
  · replace h := h.2 c18
    refine lv_iload_n hx hb dX12_strike_21 rfl (lv_at hl 2 rfl) ?_
    refine lv_aload_n hx hb dX12_strike_22 rfl (lv_at hl 0 rfl) ?_
    refine m_getr S hK fk_X12_7 (gr_10_1 G 0) hW (ci_10 (Nat.le_of_ble_eq_true rfl)) dX12_strike_23 ?_
    refine lv_iconst hx hb dX12_strike_26 ki_3 ?_
    refine m_aldk S hK (ar_44 G) hW (ci_44 (Nat.le_of_ble_eq_true rfl)) kn_3 (Nat.le_of_ble_eq_true rfl) dX12_strike_27 ?_
    refine lv_sipush hx hb dX12_strike_28 ks_400 ?_
    refine m_ci0 (m_rS S hK hW (m_szH hbs hS) (c_X12_in l ) h lk_X12_131 rfl hl.1 rfl ⟨Nat.le_of_ble_eq_true rfl, Nat.le_of_ble_eq_true rfl⟩ (Nat.le_of_ble_eq_true rfl) ⟨Nat.zero_le _, Nat.zero_le _⟩ dX12_strike_31) hS rfl rfl (fun rr31 Mm31 H locs h hW hS => ?_)
    refine lv_if_ne (tgt := 39) hx hb dX12_strike_34 (by decide) (fun c34 => ?_) (fun c34 => ?_)
    · replace h := h.1 c34
      refine lv_aload_n hx hb dX12_strike_39 rfl (lv_at hl 0 rfl) ?_
      refine m_getr S hK fk_X12_7 (gr_10_1 G 0) hW (ci_10 (Nat.le_of_ble_eq_true rfl)) dX12_strike_40 ?_
      refine lv_sipush hx hb dX12_strike_43 ks_160 ?_
      refine lv_iload_n hx hb dX12_strike_46 rfl (lv_at hl 1 rfl) ?_
      refine lv_iadd hx hb dX12_strike_47 ?_
      obtain ⟨hb48, h⟩ := h
      refine m_ald S hK (ar_44 G) hW (ci_44 (Nat.le_of_ble_eq_true rfl)) hb48 dX12_strike_48 ?_
      refine lv_ldc hx hb hown (hts _ mw_1441) dX12_strike_49 ?_
      refine lv_icmp_ge (tgt := 57) hx hb dX12_strike_51 (by decide) (fun c51 => ?_) (fun c51 => ?_)
      · replace h := h.1 c51
        refine lv_aload_n hx hb dX12_strike_57 rfl (lv_at hl 0 rfl) ?_
        refine m_getr S hK fk_X12_7 (gr_10_1 G 0) hW (ci_10 (Nat.le_of_ble_eq_true rfl)) dX12_strike_58 ?_
        refine lv_sipush hx hb dX12_strike_61 ks_160 ?_
        refine lv_iload_n hx hb dX12_strike_64 rfl (lv_at hl 1 rfl) ?_
        refine lv_iadd hx hb dX12_strike_65 ?_
        refine lv_iload_n hx hb dX12_strike_66 rfl (lv_at hl 2 rfl) ?_
        obtain ⟨hb67, h⟩ := h
        refine m_ast S hK (ar_44 G) hW hS (ci_44 (Nat.le_of_ble_eq_true rfl)) hb67 dX12_strike_67 (fun Mm67 eMm67 H locs hW hS => ?_)
        replace h := h Mm67 eMm67
        refine lv_aload_n hx hb dX12_strike_68 rfl (lv_at hl 0 rfl) ?_
        refine lv_iconst hx hb dX12_strike_69 ki_m1 ?_
        refine m_put S hK fk_X12_84 tyX12_ok nmX12 rfl pf_X12_37 (pv_10_37 G) hW hS (ci_10 (Nat.le_of_ble_eq_true rfl)) rfl rfl dX12_strike_70 (fun Mm70 eMm70 H locs hW hS => ?_)
        replace h := h Mm70 eMm70
        refine lv_iconst hx hb dX12_strike_73 ki_1 ?_
        exact m_iret S hret hlocks hK hW hbs hS rfl h dX12_strike_74
      · replace h := h.2 c51
        refine lv_bipush hx hb dX12_strike_54 kb_m3 ?_
        exact m_iret S hret hlocks hK hW hbs hS rfl h dX12_strike_56
    · replace h := h.2 c34
      refine lv_iconst hx hb dX12_strike_37 ki_m1 ?_
      exact m_iret S hret hlocks hK hW hbs hS rfl h dX12_strike_38
def s_X12_letterOf (M : Mem) (x0 : Int32) (P : Int32 → Mem → Prop) : Prop :=
  (¬ x0 = 0 → (¬ x0 = (1 : Int32) → P (111 : Int32) M) ∧ (x0 = (1 : Int32) → P (114 : Int32) M)) ∧ (x0 = 0 → P (101 : Int32) M)
abbrev rm_X12_letterOf : Room := { frames := 0, cells := 0, slots := 0, locals := 0 }
set_option maxHeartbeats 4000000 in
set_option maxRecDepth 100000 in
theorem c_X12_letterOf (l : Launch) {G : Gn} {M : Mem} {x0 : Int32} {P : Int32 → Mem → Prop} : MQi l yX12_letterOf cX12_letterOf 1 (some .int) rm_X12_letterOf [.int x0] G M (s_X12_letterOf M x0 P) P := by
  refine m_enter (by decide +kernel) (Nat.le_of_ble_eq_true rfl) ?_
  intro p e s m below meth c ls H locs S hret hlocks hname hK hbs hW hS hl h
  obtain ⟨AV, hAV⟩ : ∃ z : Array Value, z = ([.int x0] : List Value).toArray := ⟨_, rfl⟩
  rw [← hAV] at S ⊢
  replace S : CallFix p m c cX12_letterOf 1 s AV lw_G "MilkDeskModel" := S
  have hx := S.1
  have hb := S.2.1
  have hml := S.2.2.1
  have hown := S.2.2.2.1
  have hts := S.2.2.2.2
  replace hl : lv_has ls 1 [(0, .int x0)] := hl
  unfold s_X12_letterOf at h
  refine lv_iload_n hx hb dX12_letterOf_0 rfl (lv_at hl 0 rfl) ?_
  refine lv_if_ne (tgt := 9) hx hb dX12_letterOf_1 (by decide) (fun c1 => ?_) (fun c1 => ?_)
  · replace h := h.1 c1
    refine lv_iload_n hx hb dX12_letterOf_9 rfl (lv_at hl 0 rfl) ?_
    refine lv_iconst hx hb dX12_letterOf_10 ki_1 ?_
    refine lv_icmp_ne (tgt := 19) hx hb dX12_letterOf_11 (by decide) (fun c11 => ?_) (fun c11 => ?_)
    · replace h := h.1 c11
      refine lv_bipush hx hb dX12_letterOf_19 kb_111 ?_
      exact m_iret S hret hlocks hK hW hbs hS rfl h dX12_letterOf_21
    · replace h := h.2 c11
      refine lv_bipush hx hb dX12_letterOf_14 kb_114 ?_
      refine lv_goto (tgt := 21) hx hb dX12_letterOf_16 (by decide) ?_
      exact m_iret S hret hlocks hK hW hbs hS rfl h dX12_letterOf_21
  · replace h := h.2 c1
    refine lv_bipush hx hb dX12_letterOf_4 kb_101 ?_
    refine lv_goto (tgt := 21) hx hb dX12_letterOf_6 (by decide) ?_
    exact m_iret S hret hlocks hK hW hbs hS rfl h dX12_letterOf_21
def s_X12_isOf_36 (x1 : Int32) (x4 : Int32) (P : Int32 → Mem → Prop) (M : Mem) : Prop :=
  vp_in x1 16 ∧ ((x4 < (M.1 60 0 x1.toNatClampNeg) → P (0 : Int32) M) ∧ (¬ x4 < (M.1 60 0 x1.toNatClampNeg) → vp_in ((160 : Int32) + x1) 320 ∧ (((M.1 44 0 ((160 : Int32) + x1).toNatClampNeg) ≤ x4 → P (0 : Int32) M) ∧ (¬ (M.1 44 0 ((160 : Int32) + x1).toNatClampNeg) ≤ x4 → P (1 : Int32) M))))
def s_X12_isOf (M : Mem) (x1 : Int32) (x2 : Int32) (x3 : Int32) (x4 : Int32) (P : Int32 → Mem → Prop) : Prop :=
  vp_in ((80 : Int32) * x1) 1280 ∧ (s_X12_letterOf M x2 (fun rr10 Mm10 => (¬ (M.1 57 0 ((80 : Int32) * x1).toNatClampNeg) = rr10 → P (0 : Int32) Mm10) ∧ ((M.1 57 0 ((80 : Int32) * x1).toNatClampNeg) = rr10 → vp_in x1 16 ∧ (((Mm10.1 59 0 x1.toNatClampNeg) = (-1 : Int32) → s_X12_isOf_36 x1 x4 P Mm10) ∧ (¬ (Mm10.1 59 0 x1.toNatClampNeg) = (-1 : Int32) → vp_in x1 16 ∧ ((¬ (Mm10.1 59 0 x1.toNatClampNeg) = x3 → P (0 : Int32) Mm10) ∧ ((Mm10.1 59 0 x1.toNatClampNeg) = x3 → s_X12_isOf_36 x1 x4 P Mm10)))))))
abbrev rm_X12_isOf : Room := { frames := 1, cells := 0, slots := 0, locals := 20 }
set_option maxHeartbeats 4000000 in
set_option maxRecDepth 100000 in
theorem c_X12_isOf (l : Launch) {G : Gn} {M : Mem} {x1 : Int32} {x2 : Int32} {x3 : Int32} {x4 : Int32} {P : Int32 → Mem → Prop} : MQi l yX12_isOf cX12_isOf 5 (some .boolean) rm_X12_isOf [.ref (ad G 10 0), .int x1, .int x2, .int x3, .int x4] G M (s_X12_isOf M x1 x2 x3 x4 P) P := by
  refine m_enter (by decide +kernel) (Nat.le_of_ble_eq_true rfl) ?_
  intro p e s m below meth c ls H locs S hret hlocks hname hK hbs hW hS hl h
  obtain ⟨AV, hAV⟩ : ∃ z : Array Value, z = ([.ref (ad G 10 0), .int x1, .int x2, .int x3, .int x4] : List Value).toArray := ⟨_, rfl⟩
  rw [← hAV] at S ⊢
  replace S : CallFix p m c cX12_isOf 5 s AV lw_G "MilkDeskModel" := S
  have hx := S.1
  have hb := S.2.1
  have hml := S.2.2.1
  have hown := S.2.2.2.1
  have hts := S.2.2.2.2
  replace hl : lv_has ls 5 [(0, .ref (ad G 10 0)), (1, .int x1), (2, .int x2), (3, .int x3), (4, .int x4)] := hl
  have b36 : ∀ (M : Mem) (H : Heap) (locs : List Loc) (ls : Array Slot), WPm G M H → va_S (fun q => bs G ≤ q) s.heap H locs → lv_has ls 5 [(0, .ref (ad G 10 0)), (1, .int x1), (4, .int x4)] → s_X12_isOf_36 x1 x4 P M  → W p l e rm_X12_isOf s m AV below meth c H locs 0 0 (MQ below (va_Qi P (WS G) (fun q => bs G ≤ q)) AV s 0 0 (fun q => bs G ≤ q)) (F0 m 36 ls []) := by
    intro M H locs ls hW hS hl h
    unfold s_X12_isOf_36 at h
    refine lv_aload_n hx hb dX12_isOf_36 rfl (lv_at hl 0 rfl) ?_
    refine m_getr S hK fk_X12_58 (gr_10_18 G 0) hW (ci_10 (Nat.le_of_ble_eq_true rfl)) dX12_isOf_37 ?_
    refine lv_iload_n hx hb dX12_isOf_40 rfl (lv_at hl 1 rfl) ?_
    obtain ⟨hb41, h⟩ := h
    refine m_ald S hK (ar_60 G) hW (ci_60 (Nat.le_of_ble_eq_true rfl)) hb41 dX12_isOf_41 ?_
    refine lv_iload hx hb dX12_isOf_42 (lv_at hl 2 rfl) ?_
    refine lv_icmp_gt (tgt := 66) hx hb dX12_isOf_44 (by decide) (fun c44 => ?_) (fun c44 => ?_)
    · replace h := h.1 c44
      refine lv_iconst hx hb dX12_isOf_66 ki_0 ?_
      exact m_iret S hret hlocks hK hW hbs hS rfl h dX12_isOf_67
    · replace h := h.2 c44
      refine lv_iload hx hb dX12_isOf_47 (lv_at hl 2 rfl) ?_
      refine lv_aload_n hx hb dX12_isOf_49 rfl (lv_at hl 0 rfl) ?_
      refine m_getr S hK fk_X12_7 (gr_10_1 G 0) hW (ci_10 (Nat.le_of_ble_eq_true rfl)) dX12_isOf_50 ?_
      refine lv_sipush hx hb dX12_isOf_53 ks_160 ?_
      refine lv_iload_n hx hb dX12_isOf_56 rfl (lv_at hl 1 rfl) ?_
      refine lv_iadd hx hb dX12_isOf_57 ?_
      obtain ⟨hb58, h⟩ := h
      refine m_ald S hK (ar_44 G) hW (ci_44 (Nat.le_of_ble_eq_true rfl)) hb58 dX12_isOf_58 ?_
      refine lv_icmp_ge (tgt := 66) hx hb dX12_isOf_59 (by decide) (fun c59 => ?_) (fun c59 => ?_)
      · replace h := h.1 c59
        refine lv_iconst hx hb dX12_isOf_66 ki_0 ?_
        exact m_iret S hret hlocks hK hW hbs hS rfl h dX12_isOf_67
      · replace h := h.2 c59
        refine lv_iconst hx hb dX12_isOf_62 ki_1 ?_
        refine lv_goto (tgt := 67) hx hb dX12_isOf_63 (by decide) ?_
        exact m_iret S hret hlocks hK hW hbs hS rfl h dX12_isOf_67
  unfold s_X12_isOf at h
  refine lv_aload_n hx hb dX12_isOf_0 rfl (lv_at hl 0 rfl) ?_
  refine m_getr S hK fk_X12_49 (gr_10_15 G 0) hW (ci_10 (Nat.le_of_ble_eq_true rfl)) dX12_isOf_1 ?_
  refine lv_bipush hx hb dX12_isOf_4 kb_80 ?_
  refine lv_iload_n hx hb dX12_isOf_6 rfl (lv_at hl 1 rfl) ?_
  refine lv_imul hx hb dX12_isOf_7 ?_
  obtain ⟨hb8, h⟩ := h
  refine m_ald S hK (ar_57 G) hW (ci_57 (Nat.le_of_ble_eq_true rfl)) hb8 dX12_isOf_8 ?_
  refine lv_iload_n hx hb dX12_isOf_9 rfl (lv_at hl 2 rfl) ?_
  refine m_ci0 (m_rS S hK hW (m_szH hbs hS) (c_X12_letterOf l ) h lk_X12_256 rfl hl.1 rfl ⟨Nat.le_of_ble_eq_true rfl, Nat.le_of_ble_eq_true rfl⟩ (Nat.le_of_ble_eq_true rfl) ⟨Nat.zero_le _, Nat.zero_le _⟩ dX12_isOf_10) hS rfl rfl (fun rr10 Mm10 H locs h hW hS => ?_)
  refine lv_icmp_ne (tgt := 66) hx hb dX12_isOf_13 (by decide) (fun c13 => ?_) (fun c13 => ?_)
  · replace h := h.1 c13
    refine lv_iconst hx hb dX12_isOf_66 ki_0 ?_
    exact m_iret S hret hlocks hK hW hbs hS rfl h dX12_isOf_67
  · replace h := h.2 c13
    refine lv_aload_n hx hb dX12_isOf_16 rfl (lv_at hl 0 rfl) ?_
    refine m_getr S hK fk_X12_55 (gr_10_17 G 0) hW (ci_10 (Nat.le_of_ble_eq_true rfl)) dX12_isOf_17 ?_
    refine lv_iload_n hx hb dX12_isOf_20 rfl (lv_at hl 1 rfl) ?_
    obtain ⟨hb21, h⟩ := h
    refine m_ald S hK (ar_59 G) hW (ci_59 (Nat.le_of_ble_eq_true rfl)) hb21 dX12_isOf_21 ?_
    refine lv_iconst hx hb dX12_isOf_22 ki_m1 ?_
    refine lv_icmp_eq (tgt := 36) hx hb dX12_isOf_23 (by decide) (fun c23 => ?_) (fun c23 => ?_)
    · replace h := h.1 c23
      exact b36 _ H locs ls hW hS (lv_sub hl [0, 1, 4] rfl) h
    · replace h := h.2 c23
      refine lv_aload_n hx hb dX12_isOf_26 rfl (lv_at hl 0 rfl) ?_
      refine m_getr S hK fk_X12_55 (gr_10_17 G 0) hW (ci_10 (Nat.le_of_ble_eq_true rfl)) dX12_isOf_27 ?_
      refine lv_iload_n hx hb dX12_isOf_30 rfl (lv_at hl 1 rfl) ?_
      obtain ⟨hb31, h⟩ := h
      refine m_ald S hK (ar_59 G) hW (ci_59 (Nat.le_of_ble_eq_true rfl)) hb31 dX12_isOf_31 ?_
      refine lv_iload_n hx hb dX12_isOf_32 rfl (lv_at hl 3 rfl) ?_
      refine lv_icmp_ne (tgt := 66) hx hb dX12_isOf_33 (by decide) (fun c33 => ?_) (fun c33 => ?_)
      · replace h := h.1 c33
        refine lv_iconst hx hb dX12_isOf_66 ki_0 ?_
        exact m_iret S hret hlocks hK hW hbs hS rfl h dX12_isOf_67
      · replace h := h.2 c33
        exact b36 _ H locs ls hW hS (lv_sub hl [0, 1, 4] rfl) h
def s_X12_couldBe (M : Mem) (x1 : Int32) (x2 : Int32) (x3 : Int32) (x4 : Int32) (P : Int32 → Mem → Prop) : Prop :=
  vp_in x3 12 ∧ (s_X12_isOf M x1 x2 (M.1 47 0 x3.toNatClampNeg) x4 (fun rr11 Mm11 => isB rr11 ∧ P rr11 Mm11))
abbrev rm_X12_couldBe : Room := { frames := 2, cells := 0, slots := 0, locals := 44 }
set_option maxHeartbeats 4000000 in
set_option maxRecDepth 100000 in
theorem c_X12_couldBe (l : Launch) {G : Gn} {M : Mem} {x1 : Int32} {x2 : Int32} {x3 : Int32} {x4 : Int32} {P : Int32 → Mem → Prop} : MQi l yX12_couldBe cX12_couldBe 5 (some .boolean) rm_X12_couldBe [.ref (ad G 10 0), .int x1, .int x2, .int x3, .int x4] G M (s_X12_couldBe M x1 x2 x3 x4 P) P := by
  refine m_enter (by decide +kernel) (Nat.le_of_ble_eq_true rfl) ?_
  intro p e s m below meth c ls H locs S hret hlocks hname hK hbs hW hS hl h
  obtain ⟨AV, hAV⟩ : ∃ z : Array Value, z = ([.ref (ad G 10 0), .int x1, .int x2, .int x3, .int x4] : List Value).toArray := ⟨_, rfl⟩
  rw [← hAV] at S ⊢
  replace S : CallFix p m c cX12_couldBe 5 s AV lw_G "MilkDeskModel" := S
  have hx := S.1
  have hb := S.2.1
  have hml := S.2.2.1
  have hown := S.2.2.2.1
  have hts := S.2.2.2.2
  replace hl : lv_has ls 5 [(0, .ref (ad G 10 0)), (1, .int x1), (2, .int x2), (3, .int x3), (4, .int x4)] := hl
  unfold s_X12_couldBe at h
  refine lv_aload_n hx hb dX12_couldBe_0 rfl (lv_at hl 0 rfl) ?_
  refine lv_iload_n hx hb dX12_couldBe_1 rfl (lv_at hl 1 rfl) ?_
  refine lv_iload_n hx hb dX12_couldBe_2 rfl (lv_at hl 2 rfl) ?_
  refine lv_aload_n hx hb dX12_couldBe_3 rfl (lv_at hl 0 rfl) ?_
  refine m_getr S hK fk_X12_19 (gr_10_5 G 0) hW (ci_10 (Nat.le_of_ble_eq_true rfl)) dX12_couldBe_4 ?_
  refine lv_iload_n hx hb dX12_couldBe_7 rfl (lv_at hl 3 rfl) ?_
  obtain ⟨hb8, h⟩ := h
  refine m_ald S hK (ar_47 G) hW (ci_47 (Nat.le_of_ble_eq_true rfl)) hb8 dX12_couldBe_8 ?_
  refine lv_iload hx hb dX12_couldBe_9 (lv_at hl 4 rfl) ?_
  refine m_ci0 (m_rV S hK hW (m_szH hbs hS) (c_X12_isOf l ) h lk_X12_252 (m_recv hK hW (ci_10 (Nat.le_of_ble_eq_true rfl)) (rc_10 G) rfl) rfl hl.1 rfl ⟨Nat.le_of_ble_eq_true rfl, Nat.le_of_ble_eq_true rfl⟩ (Nat.le_of_ble_eq_true rfl) ⟨Nat.zero_le _, Nat.zero_le _⟩ dX12_couldBe_11) hS rfl rfl (fun rr11 Mm11 H locs h hW hS => ?_)
  obtain ⟨hn14, h⟩ := h
  exact m_iret S hret hlocks hK hW hbs hS (isB_n hn14) h dX12_couldBe_14
def s_X12_forceOf_106 (x1 : Int32) (x2 : Int32) (x3 : Int32) (P : Int32 → Mem → Prop) (M : Mem) : Prop :=
  ∀ Mm108 : Mem, Mm108 = wI M 10 0 37 x3 → vp_in x2 12 ∧ (vp_in (((4 : Int32) * x1) + (Mm108.1 47 0 x2.toNatClampNeg)) 12 ∧ (P (Mm108.1 66 0 (((4 : Int32) * x1) + (Mm108.1 47 0 x2.toNatClampNeg)).toNatClampNeg) Mm108))
def s_X12_forceOf_83 (x1 : Int32) (x2 : Int32) (x3 : Int32) (x4 : Int32) (P : Int32 → Mem → Prop) (K3 : Mem × Int32 → Prop) (K25 : Mem × Int32 × Int32 → Prop) (M : Mem) (x6 : Int32) (y0 : Int32) : Prop :=
  ∀ x6_85 : Int32, x6_85 = x6 + (1 : Int32) → K25 (M, y0, x6_85)
def s_X12_forceOf_25 (x1 : Int32) (x2 : Int32) (x3 : Int32) (x4 : Int32) (P : Int32 → Mem → Prop) (K3 : Mem × Int32 → Prop) (K25 : Mem × Int32 × Int32 → Prop) (M : Mem) (x5 : Int32) (x6 : Int32) : Prop :=
  ((M.1 44 0 2) ≤ x6 → vp_in x4 12 ∧ (∀ Mm99 : Mem, Mm99 = wI M 66 0 (x4.toNatClampNeg) x5 → ∀ x4_100 : Int32, x4_100 = x4 + (1 : Int32) → K3 (Mm99, x4_100))) ∧ (¬ (M.1 44 0 2) ≤ x6 → s_X12_isOf M x6 (x4 / (4 : Int32)) (x4 - x4 / (4 : Int32) * (4 : Int32)) x3 (fun rr48 Mm48 => (rr48 = 0 → s_X12_forceOf_83 x1 x2 x3 x4 P K3 K25 Mm48 x6 x5) ∧ (¬ rr48 = 0 → (x5 < 0 → s_X12_forceOf_83 x1 x2 x3 x4 P K3 K25 Mm48 x6 x6) ∧ (¬ x5 < 0 → vp_in x6 16 ∧ (vp_in x5 16 ∧ (((Mm48.1 60 0 x6.toNatClampNeg) < (Mm48.1 60 0 x5.toNatClampNeg) → s_X12_forceOf_83 x1 x2 x3 x4 P K3 K25 Mm48 x6 x5) ∧ (¬ (Mm48.1 60 0 x6.toNatClampNeg) < (Mm48.1 60 0 x5.toNatClampNeg) → s_X12_forceOf_83 x1 x2 x3 x4 P K3 K25 Mm48 x6 x6)))))))
def s_X12_forceOf_3 (x1 : Int32) (x2 : Int32) (x3 : Int32) (P : Int32 → Mem → Prop) (K3 : Mem × Int32 → Prop) (M : Mem) (x4 : Int32) : Prop :=
  ((12 : Int32) ≤ x4 → s_X12_forceOf_106 x1 x2 x3 P M) ∧ (¬ (12 : Int32) ≤ x4 → ((M.1 10 0 37) = x3 → s_X12_forceOf_106 x1 x2 x3 P M) ∧ (¬ (M.1 10 0 37) = x3 → ∃ n, Lz (fun (K25 : Mem × Int32 × Int32 → Prop) (a : Mem × Int32 × Int32) => s_X12_forceOf_25 x1 x2 x3 x4 P K3 K25 a.1 a.2.1 a.2.2) n (M, (-4 : Int32), (0 : Int32))))
def s_X12_forceOf (M : Mem) (x1 : Int32) (x2 : Int32) (x3 : Int32) (P : Int32 → Mem → Prop) : Prop :=
  ∃ n, Lz (fun (K3 : Mem × Int32 → Prop) (a : Mem × Int32) => s_X12_forceOf_3 x1 x2 x3 P K3 a.1 a.2) n (M, (0 : Int32))
abbrev rm_X12_forceOf : Room := { frames := 2, cells := 0, slots := 0, locals := 44 }
set_option maxHeartbeats 4000000 in
set_option maxRecDepth 100000 in
theorem c_X12_forceOf (l : Launch) {G : Gn} {M : Mem} {x1 : Int32} {x2 : Int32} {x3 : Int32} {P : Int32 → Mem → Prop} : MQi l yX12_forceOf cX12_forceOf 7 (some .int) rm_X12_forceOf [.ref (ad G 10 0), .int x1, .int x2, .int x3] G M (s_X12_forceOf M x1 x2 x3 P) P := by
  refine m_enter (by decide +kernel) (Nat.le_of_ble_eq_true rfl) ?_
  intro p e s m below meth c ls H locs S hret hlocks hname hK hbs hW hS hl h
  obtain ⟨AV, hAV⟩ : ∃ z : Array Value, z = ([.ref (ad G 10 0), .int x1, .int x2, .int x3] : List Value).toArray := ⟨_, rfl⟩
  rw [← hAV] at S ⊢
  replace S : CallFix p m c cX12_forceOf 7 s AV lw_G "MilkDeskModel" := S
  have hx := S.1
  have hb := S.2.1
  have hml := S.2.2.1
  have hown := S.2.2.2.1
  have hts := S.2.2.2.2
  replace hl : lv_has ls 7 [(0, .ref (ad G 10 0)), (1, .int x1), (2, .int x2), (3, .int x3)] := hl
  have b106 : ∀ (M : Mem) (H : Heap) (locs : List Loc) (ls : Array Slot), WPm G M H → va_S (fun q => bs G ≤ q) s.heap H locs → lv_has ls 7 [(0, .ref (ad G 10 0)), (1, .int x1), (2, .int x2), (3, .int x3)] → s_X12_forceOf_106 x1 x2 x3 P M  → W p l e rm_X12_forceOf s m AV below meth c H locs 0 0 (MQ below (va_Qi P (WS G) (fun q => bs G ≤ q)) AV s 0 0 (fun q => bs G ≤ q)) (F0 m 106 ls []) := by
    intro M H locs ls hW hS hl h
    unfold s_X12_forceOf_106 at h
    refine lv_aload_n hx hb dX12_forceOf_106 rfl (lv_at hl 0 rfl) ?_
    refine lv_iload_n hx hb dX12_forceOf_107 rfl (lv_at hl 3 rfl) ?_
    refine m_put S hK fk_X12_84 tyX12_ok nmX12 rfl pf_X12_37 (pv_10_37 G) hW hS (ci_10 (Nat.le_of_ble_eq_true rfl)) rfl rfl dX12_forceOf_108 (fun Mm108 eMm108 H locs hW hS => ?_)
    replace h := h Mm108 eMm108
    refine lv_aload_n hx hb dX12_forceOf_111 rfl (lv_at hl 0 rfl) ?_
    refine m_getr S hK fk_X12_81 (gr_10_36 G 0) hW (ci_10 (Nat.le_of_ble_eq_true rfl)) dX12_forceOf_112 ?_
    refine lv_iconst hx hb dX12_forceOf_115 ki_4 ?_
    refine lv_iload_n hx hb dX12_forceOf_116 rfl (lv_at hl 1 rfl) ?_
    refine lv_imul hx hb dX12_forceOf_117 ?_
    refine lv_aload_n hx hb dX12_forceOf_118 rfl (lv_at hl 0 rfl) ?_
    refine m_getr S hK fk_X12_19 (gr_10_5 G 0) hW (ci_10 (Nat.le_of_ble_eq_true rfl)) dX12_forceOf_119 ?_
    refine lv_iload_n hx hb dX12_forceOf_122 rfl (lv_at hl 2 rfl) ?_
    obtain ⟨hb123, h⟩ := h
    refine m_ald S hK (ar_47 G) hW (ci_47 (Nat.le_of_ble_eq_true rfl)) hb123 dX12_forceOf_123 ?_
    refine lv_iadd hx hb dX12_forceOf_124 ?_
    obtain ⟨hb125, h⟩ := h
    refine m_ald S hK (ar_66 G) hW (ci_66 (Nat.le_of_ble_eq_true rfl)) hb125 dX12_forceOf_125 ?_
    exact m_iret S hret hlocks hK hW hbs hS rfl h dX12_forceOf_126
  have w3 : ∀ (n : Nat) (a : Mem × Int32), Lz (fun (K3 : Mem × Int32 → Prop) (a : Mem × Int32) => s_X12_forceOf_3 x1 x2 x3 P K3 a.1 a.2) n a → ∀ (H : Heap) (locs : List Loc) (ls : Array Slot), WPm G a.1 H → va_S (fun q => bs G ≤ q) s.heap H locs → lv_has ls 7 [(0, .ref (ad G 10 0)), (1, .int x1), (2, .int x2), (3, .int x3), (4, .int a.2)] → W p l e rm_X12_forceOf s m AV below meth c H locs 0 0 (MQ below (va_Qi P (WS G) (fun q => bs G ≤ q)) AV s 0 0 (fun q => bs G ≤ q)) (F0 m 3 ls []) := by
    refine Lz_walk ?_
    rintro K3 kk3 ⟨M, x4⟩ h H locs ls hW hS hl
    replace h : s_X12_forceOf_3 x1 x2 x3 P K3 M x4 := h
    replace hW : WPm G M H := hW
    replace hl : lv_has ls 7 [(0, .ref (ad G 10 0)), (1, .int x1), (2, .int x2), (3, .int x3), (4, .int x4)] := hl
    have w25 : ∀ (x4 : Int32), ∀ (n : Nat) (a : Mem × Int32 × Int32), Lz (fun (K25 : Mem × Int32 × Int32 → Prop) (a : Mem × Int32 × Int32) => s_X12_forceOf_25 x1 x2 x3 x4 P K3 K25 a.1 a.2.1 a.2.2) n a → ∀ (H : Heap) (locs : List Loc) (ls : Array Slot), WPm G a.1 H → va_S (fun q => bs G ≤ q) s.heap H locs → lv_has ls 7 [(0, .ref (ad G 10 0)), (1, .int x1), (2, .int x2), (3, .int x3), (4, .int x4), (5, .int a.2.1), (6, .int a.2.2)] → W p l e rm_X12_forceOf s m AV below meth c H locs 0 0 (MQ below (va_Qi P (WS G) (fun q => bs G ≤ q)) AV s 0 0 (fun q => bs G ≤ q)) (F0 m 25 ls []) := by
      intro x4
      refine Lz_walk ?_
      rintro K25 kk25 ⟨M, x5, x6⟩ h H locs ls hW hS hl
      replace h : s_X12_forceOf_25 x1 x2 x3 x4 P K3 K25 M x5 x6 := h
      replace hW : WPm G M H := hW
      replace hl : lv_has ls 7 [(0, .ref (ad G 10 0)), (1, .int x1), (2, .int x2), (3, .int x3), (4, .int x4), (5, .int x5), (6, .int x6)] := hl
      have b83 : ∀ (M : Mem) (x6 : Int32) (y0 : Int32) (H : Heap) (locs : List Loc) (ls : Array Slot), WPm G M H → va_S (fun q => bs G ≤ q) s.heap H locs → lv_has ls 7 [(0, .ref (ad G 10 0)), (1, .int x1), (2, .int x2), (3, .int x3), (4, .int x4), (6, .int x6)] → s_X12_forceOf_83 x1 x2 x3 x4 P K3 K25 M x6 y0 → W p l e rm_X12_forceOf s m AV below meth c H locs 0 0 (MQ below (va_Qi P (WS G) (fun q => bs G ≤ q)) AV s 0 0 (fun q => bs G ≤ q)) (F0 m 83 ls [.int y0]) := by
        intro M x6 y0 H locs ls hW hS hl h
        unfold s_X12_forceOf_83 at h
        refine lv_istore (lv' := [(5, .int y0), (0, .ref (ad G 10 0)), (1, .int x1), (2, .int x2), (3, .int x3), (4, .int x4), (6, .int x6)]) hx hb dX12_forceOf_83 hl (by decide) rfl (fun ls hl => ?_)
        obtain ⟨x6_85, ex6_85⟩ : ∃ z : Int32, z = x6 + (1 : Int32) := ⟨_, rfl⟩
        replace h := h x6_85 ex6_85
        refine lv_iinc (v := x6_85) (lv' := [(6, .int x6_85), (5, .int y0), (0, .ref (ad G 10 0)), (1, .int x1), (2, .int x2), (3, .int x3), (4, .int x4)]) hx hb dX12_forceOf_85 hl (k := 6) rfl (by rw [ex6_85, ki_1]) (by decide) rfl (fun ls hl => ?_)
        refine lv_goto (tgt := 25) hx hb dX12_forceOf_88 (by decide) ?_
        exact kk25 _ h H locs ls hW hS (lv_sub hl [2, 3, 4, 5, 6, 1, 0] rfl)
      unfold s_X12_forceOf_25 at h
      refine lv_iload hx hb dX12_forceOf_25 (lv_at hl 6 rfl) ?_
      refine lv_aload_n hx hb dX12_forceOf_27 rfl (lv_at hl 0 rfl) ?_
      refine m_getr S hK fk_X12_7 (gr_10_1 G 0) hW (ci_10 (Nat.le_of_ble_eq_true rfl)) dX12_forceOf_28 ?_
      refine lv_iconst hx hb dX12_forceOf_31 ki_2 ?_
      refine m_aldk S hK (ar_44 G) hW (ci_44 (Nat.le_of_ble_eq_true rfl)) kn_2 (Nat.le_of_ble_eq_true rfl) dX12_forceOf_32 ?_
      refine lv_icmp_ge (tgt := 91) hx hb dX12_forceOf_33 (by decide) (fun c33 => ?_) (fun c33 => ?_)
      · replace h := h.1 c33
        refine lv_aload_n hx hb dX12_forceOf_91 rfl (lv_at hl 0 rfl) ?_
        refine m_getr S hK fk_X12_81 (gr_10_36 G 0) hW (ci_10 (Nat.le_of_ble_eq_true rfl)) dX12_forceOf_92 ?_
        refine lv_iload hx hb dX12_forceOf_95 (lv_at hl 4 rfl) ?_
        refine lv_iload hx hb dX12_forceOf_97 (lv_at hl 5 rfl) ?_
        obtain ⟨hb99, h⟩ := h
        refine m_ast S hK (ar_66 G) hW hS (ci_66 (Nat.le_of_ble_eq_true rfl)) hb99 dX12_forceOf_99 (fun Mm99 eMm99 H locs hW hS => ?_)
        replace h := h Mm99 eMm99
        obtain ⟨x4_100, ex4_100⟩ : ∃ z : Int32, z = x4 + (1 : Int32) := ⟨_, rfl⟩
        replace h := h x4_100 ex4_100
        refine lv_iinc (v := x4_100) (lv' := [(4, .int x4_100), (0, .ref (ad G 10 0)), (1, .int x1), (2, .int x2), (3, .int x3), (5, .int x5), (6, .int x6)]) hx hb dX12_forceOf_100 hl (k := 4) rfl (by rw [ex4_100, ki_1]) (by decide) rfl (fun ls hl => ?_)
        refine lv_goto (tgt := 3) hx hb dX12_forceOf_103 (by decide) ?_
        exact kk3 _ h H locs ls hW hS (lv_sub hl [1, 2, 3, 4, 0] rfl)
      · replace h := h.2 c33
        refine lv_aload_n hx hb dX12_forceOf_36 rfl (lv_at hl 0 rfl) ?_
        refine lv_iload hx hb dX12_forceOf_37 (lv_at hl 6 rfl) ?_
        refine lv_iload hx hb dX12_forceOf_39 (lv_at hl 4 rfl) ?_
        refine lv_iconst hx hb dX12_forceOf_41 ki_4 ?_
        refine lv_idiv hx hb dX12_forceOf_42 nz_4 ?_
        refine lv_iload hx hb dX12_forceOf_43 (lv_at hl 4 rfl) ?_
        refine lv_iconst hx hb dX12_forceOf_45 ki_4 ?_
        refine lv_irem hx hb dX12_forceOf_46 nz_4 ?_
        refine lv_iload_n hx hb dX12_forceOf_47 rfl (lv_at hl 3 rfl) ?_
        refine m_ci0 (m_rV S hK hW (m_szH hbs hS) (c_X12_isOf l ) h lk_X12_252 (m_recv hK hW (ci_10 (Nat.le_of_ble_eq_true rfl)) (rc_10 G) rfl) rfl hl.1 rfl ⟨Nat.le_of_ble_eq_true rfl, Nat.le_of_ble_eq_true rfl⟩ (Nat.le_of_ble_eq_true rfl) ⟨Nat.zero_le _, Nat.zero_le _⟩ dX12_forceOf_48) hS rfl rfl (fun rr48 Mm48 H locs h hW hS => ?_)
        refine lv_if_eq (tgt := 81) hx hb dX12_forceOf_51 (by decide) (fun c51 => ?_) (fun c51 => ?_)
        · replace h := h.1 c51
          refine lv_iload hx hb dX12_forceOf_81 (lv_at hl 5 rfl) ?_
          exact b83 _ _ _ H locs ls hW hS (lv_sub hl [0, 1, 2, 3, 4, 6] rfl) h
        · replace h := h.2 c51
          refine lv_iload hx hb dX12_forceOf_54 (lv_at hl 5 rfl) ?_
          refine lv_if_lt (tgt := 76) hx hb dX12_forceOf_56 (by decide) (fun c56 => ?_) (fun c56 => ?_)
          · replace h := h.1 c56
            refine lv_iload hx hb dX12_forceOf_76 (lv_at hl 6 rfl) ?_
            refine lv_goto (tgt := 83) hx hb dX12_forceOf_78 (by decide) ?_
            exact b83 _ _ _ H locs ls hW hS (lv_sub hl [0, 1, 2, 3, 4, 6] rfl) h
          · replace h := h.2 c56
            refine lv_aload_n hx hb dX12_forceOf_59 rfl (lv_at hl 0 rfl) ?_
            refine m_getr S hK fk_X12_58 (gr_10_18 G 0) hW (ci_10 (Nat.le_of_ble_eq_true rfl)) dX12_forceOf_60 ?_
            refine lv_iload hx hb dX12_forceOf_63 (lv_at hl 6 rfl) ?_
            obtain ⟨hb65, h⟩ := h
            refine m_ald S hK (ar_60 G) hW (ci_60 (Nat.le_of_ble_eq_true rfl)) hb65 dX12_forceOf_65 ?_
            refine lv_aload_n hx hb dX12_forceOf_66 rfl (lv_at hl 0 rfl) ?_
            refine m_getr S hK fk_X12_58 (gr_10_18 G 0) hW (ci_10 (Nat.le_of_ble_eq_true rfl)) dX12_forceOf_67 ?_
            refine lv_iload hx hb dX12_forceOf_70 (lv_at hl 5 rfl) ?_
            obtain ⟨hb72, h⟩ := h
            refine m_ald S hK (ar_60 G) hW (ci_60 (Nat.le_of_ble_eq_true rfl)) hb72 dX12_forceOf_72 ?_
            refine lv_icmp_lt (tgt := 81) hx hb dX12_forceOf_73 (by decide) (fun c73 => ?_) (fun c73 => ?_)
            · replace h := h.1 c73
              refine lv_iload hx hb dX12_forceOf_81 (lv_at hl 5 rfl) ?_
              exact b83 _ _ _ H locs ls hW hS (lv_sub hl [0, 1, 2, 3, 4, 6] rfl) h
            · replace h := h.2 c73
              refine lv_iload hx hb dX12_forceOf_76 (lv_at hl 6 rfl) ?_
              refine lv_goto (tgt := 83) hx hb dX12_forceOf_78 (by decide) ?_
              exact b83 _ _ _ H locs ls hW hS (lv_sub hl [0, 1, 2, 3, 4, 6] rfl) h
    unfold s_X12_forceOf_3 at h
    refine lv_iload hx hb dX12_forceOf_3 (lv_at hl 4 rfl) ?_
    refine lv_bipush hx hb dX12_forceOf_5 kb_12 ?_
    refine lv_icmp_ge (tgt := 106) hx hb dX12_forceOf_7 (by decide) (fun c7 => ?_) (fun c7 => ?_)
    · replace h := h.1 c7
      exact b106 _ H locs ls hW hS (lv_sub hl [0, 1, 2, 3] rfl) h
    · replace h := h.2 c7
      refine lv_aload_n hx hb dX12_forceOf_10 rfl (lv_at hl 0 rfl) ?_
      refine m_geti S hK fk_X12_84 (gi_10_37 G) hW (ci_10 (Nat.le_of_ble_eq_true rfl)) dX12_forceOf_11 ?_
      refine lv_iload_n hx hb dX12_forceOf_14 rfl (lv_at hl 3 rfl) ?_
      refine lv_icmp_eq (tgt := 106) hx hb dX12_forceOf_15 (by decide) (fun c15 => ?_) (fun c15 => ?_)
      · replace h := h.1 c15
        exact b106 _ H locs ls hW hS (lv_sub hl [0, 1, 2, 3] rfl) h
      · replace h := h.2 c15
        refine lv_bipush hx hb dX12_forceOf_18 kb_m4 ?_
        refine lv_istore (lv' := [(5, .int (-4 : Int32)), (0, .ref (ad G 10 0)), (1, .int x1), (2, .int x2), (3, .int x3), (4, .int x4)]) hx hb dX12_forceOf_20 hl (by decide) rfl (fun ls hl => ?_)
        refine lv_iconst hx hb dX12_forceOf_22 ki_0 ?_
        refine lv_istore (lv' := [(6, .int (0 : Int32)), (5, .int (-4 : Int32)), (0, .ref (ad G 10 0)), (1, .int x1), (2, .int x2), (3, .int x3), (4, .int x4)]) hx hb dX12_forceOf_23 hl (by decide) rfl (fun ls hl => ?_)
        obtain ⟨n25, h⟩ := h
        exact w25 _ n25 _ h H locs ls hW hS (lv_sub hl [2, 3, 4, 5, 6, 1, 0] rfl)
  unfold s_X12_forceOf at h
  refine lv_iconst hx hb dX12_forceOf_0 ki_0 ?_
  refine lv_istore (lv' := [(4, .int (0 : Int32)), (0, .ref (ad G 10 0)), (1, .int x1), (2, .int x2), (3, .int x3)]) hx hb dX12_forceOf_1 hl (by decide) rfl (fun ls hl => ?_)
  obtain ⟨n3, h⟩ := h
  exact w3 n3 _ h H locs ls hW hS (lv_sub hl [1, 2, 3, 4, 0] rfl)
def s_X12_force (M : Mem) (x1 : Int32) (x2 : Int32) (x3 : Int32) (P : Int32 → Mem → Prop) : Prop :=
  ∀ Mm2 : Mem, Mm2 = wI M 10 0 0 (0 : Int32) → s_X12_in Mm2 x1 (0 : Int32) (2 : Int32) (fun rr8 Mm8 => (rr8 = 0 → P (-1 : Int32) Mm8) ∧ (¬ rr8 = 0 → s_X12_isSchool Mm8 x2 (fun rr16 Mm16 => (rr16 = 0 → P (-1 : Int32) Mm16) ∧ (¬ rr16 = 0 → s_X12_isDay Mm16 x3 (fun rr23 Mm23 => (rr23 = 0 → P (-1 : Int32) Mm23) ∧ (¬ rr23 = 0 → s_X12_forceOf Mm23 x1 x2 x3 (fun rr33 Mm33 => P rr33 Mm33)))))))
abbrev rm_X12_force : Room := { frames := 3, cells := 0, slots := 0, locals := 70 }
set_option maxHeartbeats 4000000 in
set_option maxRecDepth 100000 in
theorem c_X12_force (l : Launch) {G : Gn} {M : Mem} {x1 : Int32} {x2 : Int32} {x3 : Int32} {P : Int32 → Mem → Prop} : MQi l yX12_force cX12_force 4 (some .int) rm_X12_force [.ref (ad G 10 0), .int x1, .int x2, .int x3] G M (s_X12_force M x1 x2 x3 P) P := by
  refine m_enter (by decide +kernel) (Nat.le_of_ble_eq_true rfl) ?_
  intro p e s m below meth c ls H locs S hret hlocks hname hK hbs hW hS hl h
  obtain ⟨AV, hAV⟩ : ∃ z : Array Value, z = ([.ref (ad G 10 0), .int x1, .int x2, .int x3] : List Value).toArray := ⟨_, rfl⟩
  rw [← hAV] at S ⊢
  replace S : CallFix p m c cX12_force 4 s AV lw_G "MilkDeskModel" := S
  have hx := S.1
  have hb := S.2.1
  have hml := S.2.2.1
  have hown := S.2.2.2.1
  have hts := S.2.2.2.2
  replace hl : lv_has ls 4 [(0, .ref (ad G 10 0)), (1, .int x1), (2, .int x2), (3, .int x3)] := hl
  unfold s_X12_force at h
  refine lv_aload_n hx hb dX12_force_0 rfl (lv_at hl 0 rfl) ?_
  refine lv_iconst hx hb dX12_force_1 ki_0 ?_
  refine m_put S hK fk_X12_128 tyX12_ok nmX12 rfl pf_X12_0 (pv_10_0 G) hW hS (ci_10 (Nat.le_of_ble_eq_true rfl)) rfl rfl dX12_force_2 (fun Mm2 eMm2 H locs hW hS => ?_)
  replace h := h Mm2 eMm2
  refine lv_iload_n hx hb dX12_force_5 rfl (lv_at hl 1 rfl) ?_
  refine lv_iconst hx hb dX12_force_6 ki_0 ?_
  refine lv_iconst hx hb dX12_force_7 ki_2 ?_
  refine m_ci0 (m_rS S hK hW (m_szH hbs hS) (c_X12_in l ) h lk_X12_131 rfl hl.1 rfl ⟨Nat.le_of_ble_eq_true rfl, Nat.le_of_ble_eq_true rfl⟩ (Nat.le_of_ble_eq_true rfl) ⟨Nat.zero_le _, Nat.zero_le _⟩ dX12_force_8) hS rfl rfl (fun rr8 Mm8 H locs h hW hS => ?_)
  refine lv_if_eq (tgt := 39) hx hb dX12_force_11 (by decide) (fun c11 => ?_) (fun c11 => ?_)
  · replace h := h.1 c11
    refine lv_iconst hx hb dX12_force_39 ki_m1 ?_
    exact m_iret S hret hlocks hK hW hbs hS rfl h dX12_force_40
  · replace h := h.2 c11
    refine lv_aload_n hx hb dX12_force_14 rfl (lv_at hl 0 rfl) ?_
    refine lv_iload_n hx hb dX12_force_15 rfl (lv_at hl 2 rfl) ?_
    refine m_ci0 (m_rV S hK hW (m_szH hbs hS) (c_X12_isSchool l ) h lk_X12_139 (m_recv hK hW (ci_10 (Nat.le_of_ble_eq_true rfl)) (rc_10 G) rfl) rfl hl.1 rfl ⟨Nat.le_of_ble_eq_true rfl, Nat.le_of_ble_eq_true rfl⟩ (Nat.le_of_ble_eq_true rfl) ⟨Nat.zero_le _, Nat.zero_le _⟩ dX12_force_16) hS rfl rfl (fun rr16 Mm16 H locs h hW hS => ?_)
    refine lv_if_eq (tgt := 39) hx hb dX12_force_19 (by decide) (fun c19 => ?_) (fun c19 => ?_)
    · replace h := h.1 c19
      refine lv_iconst hx hb dX12_force_39 ki_m1 ?_
      exact m_iret S hret hlocks hK hW hbs hS rfl h dX12_force_40
    · replace h := h.2 c19
      refine lv_iload_n hx hb dX12_force_22 rfl (lv_at hl 3 rfl) ?_
      refine m_ci0 (m_rS S hK hW (m_szH hbs hS) (c_X12_isDay l ) h lk_X12_164 rfl hl.1 rfl ⟨Nat.le_of_ble_eq_true rfl, Nat.le_of_ble_eq_true rfl⟩ (Nat.le_of_ble_eq_true rfl) ⟨Nat.zero_le _, Nat.zero_le _⟩ dX12_force_23) hS rfl rfl (fun rr23 Mm23 H locs h hW hS => ?_)
      refine lv_if_eq (tgt := 39) hx hb dX12_force_26 (by decide) (fun c26 => ?_) (fun c26 => ?_)
      · replace h := h.1 c26
        refine lv_iconst hx hb dX12_force_39 ki_m1 ?_
        exact m_iret S hret hlocks hK hW hbs hS rfl h dX12_force_40
      · replace h := h.2 c26
        refine lv_aload_n hx hb dX12_force_29 rfl (lv_at hl 0 rfl) ?_
        refine lv_iload_n hx hb dX12_force_30 rfl (lv_at hl 1 rfl) ?_
        refine lv_iload_n hx hb dX12_force_31 rfl (lv_at hl 2 rfl) ?_
        refine lv_iload_n hx hb dX12_force_32 rfl (lv_at hl 3 rfl) ?_
        refine m_ci0 (m_rV S hK hW (m_szH hbs hS) (c_X12_forceOf l ) h lk_X12_259 (m_recv hK hW (ci_10 (Nat.le_of_ble_eq_true rfl)) (rc_10 G) rfl) rfl hl.1 rfl ⟨Nat.le_of_ble_eq_true rfl, Nat.le_of_ble_eq_true rfl⟩ (Nat.le_of_ble_eq_true rfl) ⟨Nat.zero_le _, Nat.zero_le _⟩ dX12_force_33) hS rfl rfl (fun rr33 Mm33 H locs h hW hS => ?_)
        refine lv_goto (tgt := 40) hx hb dX12_force_36 (by decide) ?_
        exact m_iret S hret hlocks hK hW hbs hS rfl h dX12_force_40
def s_X12_doesHold_48 (x4 : Int32) (P : Int32 → Mem → Prop) (M : Mem) (y0 : Int32) : Prop :=
  ∀ Mm48 : Mem, Mm48 = wI M 10 0 30 y0 → ∀ Mm54 : Mem, Mm54 = wI Mm48 10 0 31 x4 → s_X12_readAct Mm54 (fun rr58 Mm58 => isB rr58 ∧ P rr58 Mm58)
def s_X12_doesHold (M : Mem) (x1 : Int32) (x2 : Int32) (x3 : Int32) (x4 : Int32) (P : Int32 → Mem → Prop) : Prop :=
  ∀ Mm2 : Mem, Mm2 = wI M 10 0 23 (0 : Int32) → ∀ Mm10 : Mem, Mm10 = wI Mm2 10 0 24 ((80 : Int32) * x1) → vp_in x1 16 ∧ (∀ Mm20 : Mem, Mm20 = wI Mm10 10 0 25 (Mm10.1 58 0 x1.toNatClampNeg) → ∀ Mm25 : Mem, Mm25 = wI Mm20 10 0 29 x2 → vp_in ((80 : Int32) * x1) 1280 ∧ ((¬ (Mm25.1 57 0 ((80 : Int32) * x1).toNatClampNeg) = (101 : Int32) → s_X12_doesHold_48 x4 P Mm25 (0 : Int32)) ∧ ((Mm25.1 57 0 ((80 : Int32) * x1).toNatClampNeg) = (101 : Int32) → s_X12_doesHold_48 x4 P Mm25 x3)))
abbrev rm_X12_doesHold : Room := { frames := 8, cells := 0, slots := 0, locals := 184 }
set_option maxHeartbeats 4000000 in
set_option maxRecDepth 100000 in
theorem c_X12_doesHold (l : Launch) {G : Gn} {M : Mem} {x1 : Int32} {x2 : Int32} {x3 : Int32} {x4 : Int32} {P : Int32 → Mem → Prop} : MQi l yX12_doesHold cX12_doesHold 5 (some .boolean) rm_X12_doesHold [.ref (ad G 10 0), .int x1, .int x2, .int x3, .int x4] G M (s_X12_doesHold M x1 x2 x3 x4 P) P := by
  refine m_enter (by decide +kernel) (Nat.le_of_ble_eq_true rfl) ?_
  intro p e s m below meth c ls H locs S hret hlocks hname hK hbs hW hS hl h
  obtain ⟨AV, hAV⟩ : ∃ z : Array Value, z = ([.ref (ad G 10 0), .int x1, .int x2, .int x3, .int x4] : List Value).toArray := ⟨_, rfl⟩
  rw [← hAV] at S ⊢
  replace S : CallFix p m c cX12_doesHold 5 s AV lw_G "MilkDeskModel" := S
  have hx := S.1
  have hb := S.2.1
  have hml := S.2.2.1
  have hown := S.2.2.2.1
  have hts := S.2.2.2.2
  replace hl : lv_has ls 5 [(0, .ref (ad G 10 0)), (1, .int x1), (2, .int x2), (3, .int x3), (4, .int x4)] := hl
  have b48 : ∀ (M : Mem) (y0 : Int32) (H : Heap) (locs : List Loc) (ls : Array Slot), WPm G M H → va_S (fun q => bs G ≤ q) s.heap H locs → lv_has ls 5 [(0, .ref (ad G 10 0)), (4, .int x4)] → s_X12_doesHold_48 x4 P M y0 → W p l e rm_X12_doesHold s m AV below meth c H locs 0 0 (MQ below (va_Qi P (WS G) (fun q => bs G ≤ q)) AV s 0 0 (fun q => bs G ≤ q)) (F0 m 48 ls [.int y0, .ref (ad G 10 0)]) := by
    intro M y0 H locs ls hW hS hl h
    unfold s_X12_doesHold_48 at h
    refine m_put S hK fk_X12_180 tyX12_ok nmX12 rfl pf_X12_30 (pv_10_30 G) hW hS (ci_10 (Nat.le_of_ble_eq_true rfl)) rfl rfl dX12_doesHold_48 (fun Mm48 eMm48 H locs hW hS => ?_)
    replace h := h Mm48 eMm48
    refine lv_aload_n hx hb dX12_doesHold_51 rfl (lv_at hl 0 rfl) ?_
    refine lv_iload hx hb dX12_doesHold_52 (lv_at hl 1 rfl) ?_
    refine m_put S hK fk_X12_186 tyX12_ok nmX12 rfl pf_X12_31 (pv_10_31 G) hW hS (ci_10 (Nat.le_of_ble_eq_true rfl)) rfl rfl dX12_doesHold_54 (fun Mm54 eMm54 H locs hW hS => ?_)
    replace h := h Mm54 eMm54
    refine lv_aload_n hx hb dX12_doesHold_57 rfl (lv_at hl 0 rfl) ?_
    refine m_ci0 (m_rV S hK hW (m_szH hbs hS) (c_X12_readAct l ) h lk_X12_242 (m_recv hK hW (ci_10 (Nat.le_of_ble_eq_true rfl)) (rc_10 G) rfl) rfl hl.1 rfl ⟨Nat.le_of_ble_eq_true rfl, Nat.le_of_ble_eq_true rfl⟩ (Nat.le_of_ble_eq_true rfl) ⟨Nat.zero_le _, Nat.zero_le _⟩ dX12_doesHold_58) hS rfl rfl (fun rr58 Mm58 H locs h hW hS => ?_)
    obtain ⟨hn61, h⟩ := h
    exact m_iret S hret hlocks hK hW hbs hS (isB_n hn61) h dX12_doesHold_61
  unfold s_X12_doesHold at h
  refine lv_aload_n hx hb dX12_doesHold_0 rfl (lv_at hl 0 rfl) ?_
  refine lv_iconst hx hb dX12_doesHold_1 ki_0 ?_
  refine m_put S hK fk_X12_173 tyX12_ok nmX12 rfl pf_X12_23 (pv_10_23 G) hW hS (ci_10 (Nat.le_of_ble_eq_true rfl)) (isB_n isB_0) (isB_f isB_0) dX12_doesHold_2 (fun Mm2 eMm2 H locs hW hS => ?_)
  replace h := h Mm2 eMm2
  refine lv_aload_n hx hb dX12_doesHold_5 rfl (lv_at hl 0 rfl) ?_
  refine lv_bipush hx hb dX12_doesHold_6 kb_80 ?_
  refine lv_iload_n hx hb dX12_doesHold_8 rfl (lv_at hl 1 rfl) ?_
  refine lv_imul hx hb dX12_doesHold_9 ?_
  refine m_put S hK fk_X12_177 tyX12_ok nmX12 rfl pf_X12_24 (pv_10_24 G) hW hS (ci_10 (Nat.le_of_ble_eq_true rfl)) rfl rfl dX12_doesHold_10 (fun Mm10 eMm10 H locs hW hS => ?_)
  replace h := h Mm10 eMm10
  refine lv_aload_n hx hb dX12_doesHold_13 rfl (lv_at hl 0 rfl) ?_
  refine lv_aload_n hx hb dX12_doesHold_14 rfl (lv_at hl 0 rfl) ?_
  refine m_getr S hK fk_X12_52 (gr_10_16 G 0) hW (ci_10 (Nat.le_of_ble_eq_true rfl)) dX12_doesHold_15 ?_
  refine lv_iload_n hx hb dX12_doesHold_18 rfl (lv_at hl 1 rfl) ?_
  obtain ⟨hb19, h⟩ := h
  refine m_ald S hK (ar_58 G) hW (ci_58 (Nat.le_of_ble_eq_true rfl)) hb19 dX12_doesHold_19 ?_
  refine m_put S hK fk_X12_170 tyX12_ok nmX12 rfl pf_X12_25 (pv_10_25 G) hW hS (ci_10 (Nat.le_of_ble_eq_true rfl)) rfl rfl dX12_doesHold_20 (fun Mm20 eMm20 H locs hW hS => ?_)
  replace h := h Mm20 eMm20
  refine lv_aload_n hx hb dX12_doesHold_23 rfl (lv_at hl 0 rfl) ?_
  refine lv_iload_n hx hb dX12_doesHold_24 rfl (lv_at hl 2 rfl) ?_
  refine m_put S hK fk_X12_183 tyX12_ok nmX12 rfl pf_X12_29 (pv_10_29 G) hW hS (ci_10 (Nat.le_of_ble_eq_true rfl)) rfl rfl dX12_doesHold_25 (fun Mm25 eMm25 H locs hW hS => ?_)
  replace h := h Mm25 eMm25
  refine lv_aload_n hx hb dX12_doesHold_28 rfl (lv_at hl 0 rfl) ?_
  refine lv_aload_n hx hb dX12_doesHold_29 rfl (lv_at hl 0 rfl) ?_
  refine m_getr S hK fk_X12_49 (gr_10_15 G 0) hW (ci_10 (Nat.le_of_ble_eq_true rfl)) dX12_doesHold_30 ?_
  refine lv_bipush hx hb dX12_doesHold_33 kb_80 ?_
  refine lv_iload_n hx hb dX12_doesHold_35 rfl (lv_at hl 1 rfl) ?_
  refine lv_imul hx hb dX12_doesHold_36 ?_
  obtain ⟨hb37, h⟩ := h
  refine m_ald S hK (ar_57 G) hW (ci_57 (Nat.le_of_ble_eq_true rfl)) hb37 dX12_doesHold_37 ?_
  refine lv_bipush hx hb dX12_doesHold_38 kb_101 ?_
  refine lv_icmp_ne (tgt := 47) hx hb dX12_doesHold_40 (by decide) (fun c40 => ?_) (fun c40 => ?_)
  · replace h := h.1 c40
    refine lv_iconst hx hb dX12_doesHold_47 ki_0 ?_
    exact b48 _ _ H locs ls hW hS (lv_sub hl [0, 4] rfl) h
  · replace h := h.2 c40
    refine lv_iload_n hx hb dX12_doesHold_43 rfl (lv_at hl 3 rfl) ?_
    refine lv_goto (tgt := 48) hx hb dX12_doesHold_44 (by decide) ?_
    exact b48 _ _ H locs ls hW hS (lv_sub hl [0, 4] rfl) h
def s_X12_holdsFor (M : Mem) (x1 : Int32) (x2 : Int32) (x3 : Int32) (x4 : Int32) (P : Int32 → Mem → Prop) : Prop :=
  s_X12_forceOf M x1 x2 x4 (fun rr5 Mm5 => (0 ≤ rr5 → s_X12_doesHold Mm5 rr5 x2 x3 x4 (fun rr34 Mm34 => isB rr34 ∧ P rr34 Mm34)) ∧ (¬ 0 ≤ rr5 → (¬ x1 = 0 → P (0 : Int32) Mm5) ∧ (x1 = 0 → P (1 : Int32) Mm5)))
abbrev rm_X12_holdsFor : Room := { frames := 9, cells := 0, slots := 0, locals := 208 }
set_option maxHeartbeats 4000000 in
set_option maxRecDepth 100000 in
theorem c_X12_holdsFor (l : Launch) {G : Gn} {M : Mem} {x1 : Int32} {x2 : Int32} {x3 : Int32} {x4 : Int32} {P : Int32 → Mem → Prop} : MQi l yX12_holdsFor cX12_holdsFor 6 (some .boolean) rm_X12_holdsFor [.ref (ad G 10 0), .int x1, .int x2, .int x3, .int x4] G M (s_X12_holdsFor M x1 x2 x3 x4 P) P := by
  refine m_enter (by decide +kernel) (Nat.le_of_ble_eq_true rfl) ?_
  intro p e s m below meth c ls H locs S hret hlocks hname hK hbs hW hS hl h
  obtain ⟨AV, hAV⟩ : ∃ z : Array Value, z = ([.ref (ad G 10 0), .int x1, .int x2, .int x3, .int x4] : List Value).toArray := ⟨_, rfl⟩
  rw [← hAV] at S ⊢
  replace S : CallFix p m c cX12_holdsFor 6 s AV lw_G "MilkDeskModel" := S
  have hx := S.1
  have hb := S.2.1
  have hml := S.2.2.1
  have hown := S.2.2.2.1
  have hts := S.2.2.2.2
  replace hl : lv_has ls 6 [(0, .ref (ad G 10 0)), (1, .int x1), (2, .int x2), (3, .int x3), (4, .int x4)] := hl
  unfold s_X12_holdsFor at h
  refine lv_aload_n hx hb dX12_holdsFor_0 rfl (lv_at hl 0 rfl) ?_
  refine lv_iload_n hx hb dX12_holdsFor_1 rfl (lv_at hl 1 rfl) ?_
  refine lv_iload_n hx hb dX12_holdsFor_2 rfl (lv_at hl 2 rfl) ?_
  refine lv_iload hx hb dX12_holdsFor_3 (lv_at hl 4 rfl) ?_
  refine m_ci0 (m_rV S hK hW (m_szH hbs hS) (c_X12_forceOf l ) h lk_X12_259 (m_recv hK hW (ci_10 (Nat.le_of_ble_eq_true rfl)) (rc_10 G) rfl) rfl hl.1 rfl ⟨Nat.le_of_ble_eq_true rfl, Nat.le_of_ble_eq_true rfl⟩ (Nat.le_of_ble_eq_true rfl) ⟨Nat.zero_le _, Nat.zero_le _⟩ dX12_holdsFor_5) hS rfl rfl (fun rr5 Mm5 H locs h hW hS => ?_)
  refine lv_istore (lv' := [(5, .int rr5), (0, .ref (ad G 10 0)), (1, .int x1), (2, .int x2), (3, .int x3), (4, .int x4)]) hx hb dX12_holdsFor_8 hl (by decide) rfl (fun ls hl => ?_)
  refine lv_iload hx hb dX12_holdsFor_10 (lv_at hl 0 rfl) ?_
  refine lv_if_ge (tgt := 27) hx hb dX12_holdsFor_12 (by decide) (fun c12 => ?_) (fun c12 => ?_)
  · replace h := h.1 c12
    refine lv_aload_n hx hb dX12_holdsFor_27 rfl (lv_at hl 1 rfl) ?_
    refine lv_iload hx hb dX12_holdsFor_28 (lv_at hl 0 rfl) ?_
    refine lv_iload_n hx hb dX12_holdsFor_30 rfl (lv_at hl 3 rfl) ?_
    refine lv_iload_n hx hb dX12_holdsFor_31 rfl (lv_at hl 4 rfl) ?_
    refine lv_iload hx hb dX12_holdsFor_32 (lv_at hl 5 rfl) ?_
    refine m_ci0 (m_rV S hK hW (m_szH hbs hS) (c_X12_doesHold l ) h lk_X12_263 (m_recv hK hW (ci_10 (Nat.le_of_ble_eq_true rfl)) (rc_10 G) rfl) rfl hl.1 rfl ⟨Nat.le_of_ble_eq_true rfl, Nat.le_of_ble_eq_true rfl⟩ (Nat.le_of_ble_eq_true rfl) ⟨Nat.zero_le _, Nat.zero_le _⟩ dX12_holdsFor_34) hS rfl rfl (fun rr34 Mm34 H locs h hW hS => ?_)
    obtain ⟨hn37, h⟩ := h
    exact m_iret S hret hlocks hK hW hbs hS (isB_n hn37) h dX12_holdsFor_37
  · replace h := h.2 c12
    refine lv_iload_n hx hb dX12_holdsFor_15 rfl (lv_at hl 2 rfl) ?_
    refine lv_if_ne (tgt := 23) hx hb dX12_holdsFor_16 (by decide) (fun c16 => ?_) (fun c16 => ?_)
    · replace h := h.1 c16
      refine lv_iconst hx hb dX12_holdsFor_23 ki_0 ?_
      refine lv_goto (tgt := 37) hx hb dX12_holdsFor_24 (by decide) ?_
      exact m_iret S hret hlocks hK hW hbs hS rfl h dX12_holdsFor_37
    · replace h := h.2 c16
      refine lv_iconst hx hb dX12_holdsFor_19 ki_1 ?_
      refine lv_goto (tgt := 37) hx hb dX12_holdsFor_20 (by decide) ?_
      exact m_iret S hret hlocks hK hW hbs hS rfl h dX12_holdsFor_37
def s_X12_holds (M : Mem) (x1 : Int32) (x2 : Int32) (x3 : Int32) (x4 : Int32) (P : Int32 → Mem → Prop) : Prop :=
  ∀ Mm2 : Mem, Mm2 = wI M 10 0 0 (0 : Int32) → s_X12_in Mm2 x1 (0 : Int32) (2 : Int32) (fun rr8 Mm8 => (rr8 = 0 → P (-1 : Int32) Mm8) ∧ (¬ rr8 = 0 → s_X12_isSchool Mm8 x2 (fun rr16 Mm16 => (rr16 = 0 → P (-1 : Int32) Mm16) ∧ (¬ rr16 = 0 → s_X12_isAge Mm16 x3 (fun rr23 Mm23 => (rr23 = 0 → P (-1 : Int32) Mm23) ∧ (¬ rr23 = 0 → s_X12_isDay Mm23 x4 (fun rr31 Mm31 => (¬ rr31 = 0 → s_X12_holdsFor Mm31 x1 x2 x3 x4 (fun rr45 Mm45 => (rr45 = 0 → P (0 : Int32) Mm45) ∧ (¬ rr45 = 0 → P (1 : Int32) Mm45))) ∧ (rr31 = 0 → P (-1 : Int32) Mm31))))))))
abbrev rm_X12_holds : Room := { frames := 10, cells := 0, slots := 0, locals := 233 }
set_option maxHeartbeats 4000000 in
set_option maxRecDepth 100000 in
theorem c_X12_holds (l : Launch) {G : Gn} {M : Mem} {x1 : Int32} {x2 : Int32} {x3 : Int32} {x4 : Int32} {P : Int32 → Mem → Prop} : MQi l yX12_holds cX12_holds 5 (some .int) rm_X12_holds [.ref (ad G 10 0), .int x1, .int x2, .int x3, .int x4] G M (s_X12_holds M x1 x2 x3 x4 P) P := by
  refine m_enter (by decide +kernel) (Nat.le_of_ble_eq_true rfl) ?_
  intro p e s m below meth c ls H locs S hret hlocks hname hK hbs hW hS hl h
  obtain ⟨AV, hAV⟩ : ∃ z : Array Value, z = ([.ref (ad G 10 0), .int x1, .int x2, .int x3, .int x4] : List Value).toArray := ⟨_, rfl⟩
  rw [← hAV] at S ⊢
  replace S : CallFix p m c cX12_holds 5 s AV lw_G "MilkDeskModel" := S
  have hx := S.1
  have hb := S.2.1
  have hml := S.2.2.1
  have hown := S.2.2.2.1
  have hts := S.2.2.2.2
  replace hl : lv_has ls 5 [(0, .ref (ad G 10 0)), (1, .int x1), (2, .int x2), (3, .int x3), (4, .int x4)] := hl
  unfold s_X12_holds at h
  refine lv_aload_n hx hb dX12_holds_0 rfl (lv_at hl 0 rfl) ?_
  refine lv_iconst hx hb dX12_holds_1 ki_0 ?_
  refine m_put S hK fk_X12_128 tyX12_ok nmX12 rfl pf_X12_0 (pv_10_0 G) hW hS (ci_10 (Nat.le_of_ble_eq_true rfl)) rfl rfl dX12_holds_2 (fun Mm2 eMm2 H locs hW hS => ?_)
  replace h := h Mm2 eMm2
  refine lv_iload_n hx hb dX12_holds_5 rfl (lv_at hl 1 rfl) ?_
  refine lv_iconst hx hb dX12_holds_6 ki_0 ?_
  refine lv_iconst hx hb dX12_holds_7 ki_2 ?_
  refine m_ci0 (m_rS S hK hW (m_szH hbs hS) (c_X12_in l ) h lk_X12_131 rfl hl.1 rfl ⟨Nat.le_of_ble_eq_true rfl, Nat.le_of_ble_eq_true rfl⟩ (Nat.le_of_ble_eq_true rfl) ⟨Nat.zero_le _, Nat.zero_le _⟩ dX12_holds_8) hS rfl rfl (fun rr8 Mm8 H locs h hW hS => ?_)
  refine lv_if_eq (tgt := 37) hx hb dX12_holds_11 (by decide) (fun c11 => ?_) (fun c11 => ?_)
  · replace h := h.1 c11
    refine lv_iconst hx hb dX12_holds_37 ki_m1 ?_
    exact m_iret S hret hlocks hK hW hbs hS rfl h dX12_holds_38
  · replace h := h.2 c11
    refine lv_aload_n hx hb dX12_holds_14 rfl (lv_at hl 0 rfl) ?_
    refine lv_iload_n hx hb dX12_holds_15 rfl (lv_at hl 2 rfl) ?_
    refine m_ci0 (m_rV S hK hW (m_szH hbs hS) (c_X12_isSchool l ) h lk_X12_139 (m_recv hK hW (ci_10 (Nat.le_of_ble_eq_true rfl)) (rc_10 G) rfl) rfl hl.1 rfl ⟨Nat.le_of_ble_eq_true rfl, Nat.le_of_ble_eq_true rfl⟩ (Nat.le_of_ble_eq_true rfl) ⟨Nat.zero_le _, Nat.zero_le _⟩ dX12_holds_16) hS rfl rfl (fun rr16 Mm16 H locs h hW hS => ?_)
    refine lv_if_eq (tgt := 37) hx hb dX12_holds_19 (by decide) (fun c19 => ?_) (fun c19 => ?_)
    · replace h := h.1 c19
      refine lv_iconst hx hb dX12_holds_37 ki_m1 ?_
      exact m_iret S hret hlocks hK hW hbs hS rfl h dX12_holds_38
    · replace h := h.2 c19
      refine lv_iload_n hx hb dX12_holds_22 rfl (lv_at hl 3 rfl) ?_
      refine m_ci0 (m_rS S hK hW (m_szH hbs hS) (c_X12_isAge l ) h lk_X12_149 rfl hl.1 rfl ⟨Nat.le_of_ble_eq_true rfl, Nat.le_of_ble_eq_true rfl⟩ (Nat.le_of_ble_eq_true rfl) ⟨Nat.zero_le _, Nat.zero_le _⟩ dX12_holds_23) hS rfl rfl (fun rr23 Mm23 H locs h hW hS => ?_)
      refine lv_if_eq (tgt := 37) hx hb dX12_holds_26 (by decide) (fun c26 => ?_) (fun c26 => ?_)
      · replace h := h.1 c26
        refine lv_iconst hx hb dX12_holds_37 ki_m1 ?_
        exact m_iret S hret hlocks hK hW hbs hS rfl h dX12_holds_38
      · replace h := h.2 c26
        refine lv_iload hx hb dX12_holds_29 (lv_at hl 4 rfl) ?_
        refine m_ci0 (m_rS S hK hW (m_szH hbs hS) (c_X12_isDay l ) h lk_X12_164 rfl hl.1 rfl ⟨Nat.le_of_ble_eq_true rfl, Nat.le_of_ble_eq_true rfl⟩ (Nat.le_of_ble_eq_true rfl) ⟨Nat.zero_le _, Nat.zero_le _⟩ dX12_holds_31) hS rfl rfl (fun rr31 Mm31 H locs h hW hS => ?_)
        refine lv_if_ne (tgt := 39) hx hb dX12_holds_34 (by decide) (fun c34 => ?_) (fun c34 => ?_)
        · replace h := h.1 c34
          refine lv_aload_n hx hb dX12_holds_39 rfl (lv_at hl 0 rfl) ?_
          refine lv_iload_n hx hb dX12_holds_40 rfl (lv_at hl 1 rfl) ?_
          refine lv_iload_n hx hb dX12_holds_41 rfl (lv_at hl 2 rfl) ?_
          refine lv_iload_n hx hb dX12_holds_42 rfl (lv_at hl 3 rfl) ?_
          refine lv_iload hx hb dX12_holds_43 (lv_at hl 4 rfl) ?_
          refine m_ci0 (m_rV S hK hW (m_szH hbs hS) (c_X12_holdsFor l ) h lk_X12_266 (m_recv hK hW (ci_10 (Nat.le_of_ble_eq_true rfl)) (rc_10 G) rfl) rfl hl.1 rfl ⟨Nat.le_of_ble_eq_true rfl, Nat.le_of_ble_eq_true rfl⟩ (Nat.le_of_ble_eq_true rfl) ⟨Nat.zero_le _, Nat.zero_le _⟩ dX12_holds_45) hS rfl rfl (fun rr45 Mm45 H locs h hW hS => ?_)
          refine lv_if_eq (tgt := 55) hx hb dX12_holds_48 (by decide) (fun c48 => ?_) (fun c48 => ?_)
          · replace h := h.1 c48
            refine lv_iconst hx hb dX12_holds_55 ki_0 ?_
            exact m_iret S hret hlocks hK hW hbs hS rfl h dX12_holds_56
          · replace h := h.2 c48
            refine lv_iconst hx hb dX12_holds_51 ki_1 ?_
            refine lv_goto (tgt := 56) hx hb dX12_holds_52 (by decide) ?_
            exact m_iret S hret hlocks hK hW hbs hS rfl h dX12_holds_56
        · replace h := h.2 c34
          refine lv_iconst hx hb dX12_holds_37 ki_m1 ?_
          exact m_iret S hret hlocks hK hW hbs hS rfl h dX12_holds_38
def s_X12_quarrel_113 (x1 : Int32) (x2 : Int32) (x3 : Int32) (x4 : Int32) (P : Int32 → Mem → Prop) (K57 : Mem × Int32 × Int32 × Int32 → Prop) (M : Mem) (x5 : Int32) (x7 : Int32) (y0 : Int32) : Prop :=
  ∀ x7_115 : Int32, x7_115 = x7 + (-1 : Int32) → K57 (M, x5, y0, x7_115)
def s_X12_quarrel_99 (x1 : Int32) (x2 : Int32) (x3 : Int32) (x4 : Int32) (P : Int32 → Mem → Prop) (K57 : Mem × Int32 × Int32 × Int32 → Prop) (M : Mem) (x6 : Int32) (x7 : Int32) (x8 : Int32) (y0 : Int32) : Prop :=
  (x8 = 0 → s_X12_quarrel_113 x1 x2 x3 x4 P K57 M y0 x7 x7) ∧ (¬ x8 = 0 → s_X12_quarrel_113 x1 x2 x3 x4 P K57 M y0 x7 x6)
def s_X12_quarrel_57 (x1 : Int32) (x2 : Int32) (x3 : Int32) (x4 : Int32) (P : Int32 → Mem → Prop) (K57 : Mem × Int32 × Int32 × Int32 → Prop) (M : Mem) (x5 : Int32) (x6 : Int32) (x7 : Int32) : Prop :=
  (x7 < 0 → (x5 < 0 → P (-4 : Int32) M) ∧ (¬ x5 < 0 → (0 ≤ x6 → P (((100 : Int32) * x5) + x6) M) ∧ (¬ 0 ≤ x6 → P (-4 : Int32) M))) ∧ (¬ x7 < 0 → s_X12_couldBe M x7 x1 x2 x4 (fun rr69 Mm69 => (rr69 = 0 → ∀ x7_115 : Int32, x7_115 = x7 + (-1 : Int32) → K57 (Mm69, x5, x6, x7_115)) ∧ (¬ rr69 = 0 → s_X12_doesHold Mm69 x7 x2 x3 x4 (fun rr82 Mm82 => (rr82 = 0 → s_X12_quarrel_99 x1 x2 x3 x4 P K57 Mm82 x6 x7 rr82 x5) ∧ (¬ rr82 = 0 → s_X12_quarrel_99 x1 x2 x3 x4 P K57 Mm82 x6 x7 rr82 x7)))))
def s_X12_quarrel (M : Mem) (x1 : Int32) (x2 : Int32) (x3 : Int32) (x4 : Int32) (P : Int32 → Mem → Prop) : Prop :=
  ∀ Mm2 : Mem, Mm2 = wI M 10 0 0 (0 : Int32) → s_X12_in Mm2 x1 (0 : Int32) (2 : Int32) (fun rr8 Mm8 => (rr8 = 0 → P (-1 : Int32) Mm8) ∧ (¬ rr8 = 0 → s_X12_isSchool Mm8 x2 (fun rr16 Mm16 => (rr16 = 0 → P (-1 : Int32) Mm16) ∧ (¬ rr16 = 0 → s_X12_isAge Mm16 x3 (fun rr23 Mm23 => (rr23 = 0 → P (-1 : Int32) Mm23) ∧ (¬ rr23 = 0 → s_X12_isDay Mm23 x4 (fun rr31 Mm31 => (¬ rr31 = 0 → ∀ x7_55 : Int32, x7_55 = ((Mm31.1 44 0 2) - (1 : Int32)) → ∃ n, Lz (fun (K57 : Mem × Int32 × Int32 × Int32 → Prop) (a : Mem × Int32 × Int32 × Int32) => s_X12_quarrel_57 x1 x2 x3 x4 P K57 a.1 a.2.1 a.2.2.1 a.2.2.2) n (Mm31, (-4 : Int32), (-4 : Int32), x7_55)) ∧ (rr31 = 0 → P (-1 : Int32) Mm31))))))))
abbrev rm_X12_quarrel : Room := { frames := 9, cells := 0, slots := 0, locals := 208 }
set_option maxHeartbeats 4000000 in
set_option maxRecDepth 100000 in
theorem c_X12_quarrel (l : Launch) {G : Gn} {M : Mem} {x1 : Int32} {x2 : Int32} {x3 : Int32} {x4 : Int32} {P : Int32 → Mem → Prop} : MQi l yX12_quarrel cX12_quarrel 9 (some .int) rm_X12_quarrel [.ref (ad G 10 0), .int x1, .int x2, .int x3, .int x4] G M (s_X12_quarrel M x1 x2 x3 x4 P) P := by
  refine m_enter (by decide +kernel) (Nat.le_of_ble_eq_true rfl) ?_
  intro p e s m below meth c ls H locs S hret hlocks hname hK hbs hW hS hl h
  obtain ⟨AV, hAV⟩ : ∃ z : Array Value, z = ([.ref (ad G 10 0), .int x1, .int x2, .int x3, .int x4] : List Value).toArray := ⟨_, rfl⟩
  rw [← hAV] at S ⊢
  replace S : CallFix p m c cX12_quarrel 9 s AV lw_G "MilkDeskModel" := S
  have hx := S.1
  have hb := S.2.1
  have hml := S.2.2.1
  have hown := S.2.2.2.1
  have hts := S.2.2.2.2
  replace hl : lv_has ls 9 [(0, .ref (ad G 10 0)), (1, .int x1), (2, .int x2), (3, .int x3), (4, .int x4)] := hl
  have w57 : ∀ (n : Nat) (a : Mem × Int32 × Int32 × Int32), Lz (fun (K57 : Mem × Int32 × Int32 × Int32 → Prop) (a : Mem × Int32 × Int32 × Int32) => s_X12_quarrel_57 x1 x2 x3 x4 P K57 a.1 a.2.1 a.2.2.1 a.2.2.2) n a → ∀ (H : Heap) (locs : List Loc) (ls : Array Slot), WPm G a.1 H → va_S (fun q => bs G ≤ q) s.heap H locs → lv_has ls 9 [(0, .ref (ad G 10 0)), (1, .int x1), (2, .int x2), (3, .int x3), (4, .int x4), (5, .int a.2.1), (6, .int a.2.2.1), (7, .int a.2.2.2)] → W p l e rm_X12_quarrel s m AV below meth c H locs 0 0 (MQ below (va_Qi P (WS G) (fun q => bs G ≤ q)) AV s 0 0 (fun q => bs G ≤ q)) (F0 m 57 ls []) := by
    refine Lz_walk ?_
    rintro K57 kk57 ⟨M, x5, x6, x7⟩ h H locs ls hW hS hl
    replace h : s_X12_quarrel_57 x1 x2 x3 x4 P K57 M x5 x6 x7 := h
    replace hW : WPm G M H := hW
    replace hl : lv_has ls 9 [(0, .ref (ad G 10 0)), (1, .int x1), (2, .int x2), (3, .int x3), (4, .int x4), (5, .int x5), (6, .int x6), (7, .int x7)] := hl
    have b113 : ∀ (M : Mem) (x5 : Int32) (x7 : Int32) (y0 : Int32) (H : Heap) (locs : List Loc) (ls : Array Slot), WPm G M H → va_S (fun q => bs G ≤ q) s.heap H locs → lv_has ls 9 [(0, .ref (ad G 10 0)), (1, .int x1), (2, .int x2), (3, .int x3), (4, .int x4), (5, .int x5), (7, .int x7)] → s_X12_quarrel_113 x1 x2 x3 x4 P K57 M x5 x7 y0 → W p l e rm_X12_quarrel s m AV below meth c H locs 0 0 (MQ below (va_Qi P (WS G) (fun q => bs G ≤ q)) AV s 0 0 (fun q => bs G ≤ q)) (F0 m 113 ls [.int y0]) := by
      intro M x5 x7 y0 H locs ls hW hS hl h
      unfold s_X12_quarrel_113 at h
      refine lv_istore (lv' := [(6, .int y0), (0, .ref (ad G 10 0)), (1, .int x1), (2, .int x2), (3, .int x3), (4, .int x4), (5, .int x5), (7, .int x7)]) hx hb dX12_quarrel_113 hl (by decide) rfl (fun ls hl => ?_)
      obtain ⟨x7_115, ex7_115⟩ : ∃ z : Int32, z = x7 + (-1 : Int32) := ⟨_, rfl⟩
      replace h := h x7_115 ex7_115
      refine lv_iinc (v := x7_115) (lv' := [(7, .int x7_115), (6, .int y0), (0, .ref (ad G 10 0)), (1, .int x1), (2, .int x2), (3, .int x3), (4, .int x4), (5, .int x5)]) hx hb dX12_quarrel_115 hl (k := 7) rfl (by rw [ex7_115, ki_m1]) (by decide) rfl (fun ls hl => ?_)
      refine lv_goto (tgt := 57) hx hb dX12_quarrel_118 (by decide) ?_
      exact kk57 _ h H locs ls hW hS (lv_sub hl [2, 3, 4, 5, 6, 7, 1, 0] rfl)
    have b99 : ∀ (M : Mem) (x6 : Int32) (x7 : Int32) (x8 : Int32) (y0 : Int32) (H : Heap) (locs : List Loc) (ls : Array Slot), WPm G M H → va_S (fun q => bs G ≤ q) s.heap H locs → lv_has ls 9 [(0, .ref (ad G 10 0)), (1, .int x1), (2, .int x2), (3, .int x3), (4, .int x4), (6, .int x6), (7, .int x7), (8, .int x8)] → s_X12_quarrel_99 x1 x2 x3 x4 P K57 M x6 x7 x8 y0 → W p l e rm_X12_quarrel s m AV below meth c H locs 0 0 (MQ below (va_Qi P (WS G) (fun q => bs G ≤ q)) AV s 0 0 (fun q => bs G ≤ q)) (F0 m 99 ls [.int y0]) := by
      intro M x6 x7 x8 y0 H locs ls hW hS hl h
      unfold s_X12_quarrel_99 at h
      refine lv_istore (lv' := [(5, .int y0), (0, .ref (ad G 10 0)), (1, .int x1), (2, .int x2), (3, .int x3), (4, .int x4), (6, .int x6), (7, .int x7), (8, .int x8)]) hx hb dX12_quarrel_99 hl (by decide) rfl (fun ls hl => ?_)
      refine lv_iload hx hb dX12_quarrel_101 (lv_at hl 8 rfl) ?_
      refine lv_if_eq (tgt := 111) hx hb dX12_quarrel_103 (by decide) (fun c103 => ?_) (fun c103 => ?_)
      · replace h := h.1 c103
        refine lv_iload hx hb dX12_quarrel_111 (lv_at hl 7 rfl) ?_
        exact b113 _ _ _ _ H locs ls hW hS (lv_sub hl [1, 2, 3, 4, 5, 0, 7] rfl) h
      · replace h := h.2 c103
        refine lv_iload hx hb dX12_quarrel_106 (lv_at hl 6 rfl) ?_
        refine lv_goto (tgt := 113) hx hb dX12_quarrel_108 (by decide) ?_
        exact b113 _ _ _ _ H locs ls hW hS (lv_sub hl [1, 2, 3, 4, 5, 0, 7] rfl) h
    unfold s_X12_quarrel_57 at h
    refine lv_iload hx hb dX12_quarrel_57 (lv_at hl 7 rfl) ?_
    refine lv_if_lt (tgt := 121) hx hb dX12_quarrel_59 (by decide) (fun c59 => ?_) (fun c59 => ?_)
    · replace h := h.1 c59
      refine lv_iload hx hb dX12_quarrel_121 (lv_at hl 5 rfl) ?_
      refine lv_if_lt (tgt := 131) hx hb dX12_quarrel_123 (by decide) (fun c123 => ?_) (fun c123 => ?_)
      · replace h := h.1 c123
        refine lv_bipush hx hb dX12_quarrel_131 kb_m4 ?_
        refine lv_goto (tgt := 144) hx hb dX12_quarrel_133 (by decide) ?_
        exact m_iret S hret hlocks hK hW hbs hS rfl h dX12_quarrel_144
      · replace h := h.2 c123
        refine lv_iload hx hb dX12_quarrel_126 (lv_at hl 6 rfl) ?_
        refine lv_if_ge (tgt := 136) hx hb dX12_quarrel_128 (by decide) (fun c128 => ?_) (fun c128 => ?_)
        · replace h := h.1 c128
          refine lv_bipush hx hb dX12_quarrel_136 kb_100 ?_
          refine lv_iload hx hb dX12_quarrel_138 (lv_at hl 5 rfl) ?_
          refine lv_imul hx hb dX12_quarrel_140 ?_
          refine lv_iload hx hb dX12_quarrel_141 (lv_at hl 6 rfl) ?_
          refine lv_iadd hx hb dX12_quarrel_143 ?_
          exact m_iret S hret hlocks hK hW hbs hS rfl h dX12_quarrel_144
        · replace h := h.2 c128
          refine lv_bipush hx hb dX12_quarrel_131 kb_m4 ?_
          refine lv_goto (tgt := 144) hx hb dX12_quarrel_133 (by decide) ?_
          exact m_iret S hret hlocks hK hW hbs hS rfl h dX12_quarrel_144
    · replace h := h.2 c59
      refine lv_aload_n hx hb dX12_quarrel_62 rfl (lv_at hl 0 rfl) ?_
      refine lv_iload hx hb dX12_quarrel_63 (lv_at hl 7 rfl) ?_
      refine lv_iload_n hx hb dX12_quarrel_65 rfl (lv_at hl 1 rfl) ?_
      refine lv_iload_n hx hb dX12_quarrel_66 rfl (lv_at hl 2 rfl) ?_
      refine lv_iload hx hb dX12_quarrel_67 (lv_at hl 4 rfl) ?_
      refine m_ci0 (m_rV S hK hW (m_szH hbs hS) (c_X12_couldBe l ) h lk_X12_269 (m_recv hK hW (ci_10 (Nat.le_of_ble_eq_true rfl)) (rc_10 G) rfl) rfl hl.1 rfl ⟨Nat.le_of_ble_eq_true rfl, Nat.le_of_ble_eq_true rfl⟩ (Nat.le_of_ble_eq_true rfl) ⟨Nat.zero_le _, Nat.zero_le _⟩ dX12_quarrel_69) hS rfl rfl (fun rr69 Mm69 H locs h hW hS => ?_)
      refine lv_if_eq (tgt := 115) hx hb dX12_quarrel_72 (by decide) (fun c72 => ?_) (fun c72 => ?_)
      · replace h := h.1 c72
        obtain ⟨x7_115, ex7_115⟩ : ∃ z : Int32, z = x7 + (-1 : Int32) := ⟨_, rfl⟩
        replace h := h x7_115 ex7_115
        refine lv_iinc (v := x7_115) (lv' := [(7, .int x7_115), (0, .ref (ad G 10 0)), (1, .int x1), (2, .int x2), (3, .int x3), (4, .int x4), (5, .int x5), (6, .int x6)]) hx hb dX12_quarrel_115 hl (k := 7) rfl (by rw [ex7_115, ki_m1]) (by decide) rfl (fun ls hl => ?_)
        refine lv_goto (tgt := 57) hx hb dX12_quarrel_118 (by decide) ?_
        exact kk57 _ h H locs ls hW hS (lv_sub hl [1, 2, 3, 4, 5, 6, 7, 0] rfl)
      · replace h := h.2 c72
        refine lv_aload_n hx hb dX12_quarrel_75 rfl (lv_at hl 0 rfl) ?_
        refine lv_iload hx hb dX12_quarrel_76 (lv_at hl 7 rfl) ?_
        refine lv_iload_n hx hb dX12_quarrel_78 rfl (lv_at hl 2 rfl) ?_
        refine lv_iload_n hx hb dX12_quarrel_79 rfl (lv_at hl 3 rfl) ?_
        refine lv_iload hx hb dX12_quarrel_80 (lv_at hl 4 rfl) ?_
        refine m_ci0 (m_rV S hK hW (m_szH hbs hS) (c_X12_doesHold l ) h lk_X12_263 (m_recv hK hW (ci_10 (Nat.le_of_ble_eq_true rfl)) (rc_10 G) rfl) rfl hl.1 rfl ⟨Nat.le_of_ble_eq_true rfl, Nat.le_of_ble_eq_true rfl⟩ (Nat.le_of_ble_eq_true rfl) ⟨Nat.zero_le _, Nat.zero_le _⟩ dX12_quarrel_82) hS rfl rfl (fun rr82 Mm82 H locs h hW hS => ?_)
        refine lv_istore (lv' := [(8, .int rr82), (0, .ref (ad G 10 0)), (1, .int x1), (2, .int x2), (3, .int x3), (4, .int x4), (5, .int x5), (6, .int x6), (7, .int x7)]) hx hb dX12_quarrel_85 hl (by decide) rfl (fun ls hl => ?_)
        refine lv_iload hx hb dX12_quarrel_87 (lv_at hl 0 rfl) ?_
        refine lv_if_eq (tgt := 97) hx hb dX12_quarrel_89 (by decide) (fun c89 => ?_) (fun c89 => ?_)
        · replace h := h.1 c89
          refine lv_iload hx hb dX12_quarrel_97 (lv_at hl 6 rfl) ?_
          exact b99 _ _ _ _ _ H locs ls hW hS (lv_sub hl [1, 2, 3, 4, 5, 7, 8, 0] rfl) h
        · replace h := h.2 c89
          refine lv_iload hx hb dX12_quarrel_92 (lv_at hl 8 rfl) ?_
          refine lv_goto (tgt := 99) hx hb dX12_quarrel_94 (by decide) ?_
          exact b99 _ _ _ _ _ H locs ls hW hS (lv_sub hl [1, 2, 3, 4, 5, 7, 8, 0] rfl) h
  unfold s_X12_quarrel at h
  refine lv_aload_n hx hb dX12_quarrel_0 rfl (lv_at hl 0 rfl) ?_
  refine lv_iconst hx hb dX12_quarrel_1 ki_0 ?_
  refine m_put S hK fk_X12_128 tyX12_ok nmX12 rfl pf_X12_0 (pv_10_0 G) hW hS (ci_10 (Nat.le_of_ble_eq_true rfl)) rfl rfl dX12_quarrel_2 (fun Mm2 eMm2 H locs hW hS => ?_)
  replace h := h Mm2 eMm2
  refine lv_iload_n hx hb dX12_quarrel_5 rfl (lv_at hl 1 rfl) ?_
  refine lv_iconst hx hb dX12_quarrel_6 ki_0 ?_
  refine lv_iconst hx hb dX12_quarrel_7 ki_2 ?_
  refine m_ci0 (m_rS S hK hW (m_szH hbs hS) (c_X12_in l ) h lk_X12_131 rfl hl.1 rfl ⟨Nat.le_of_ble_eq_true rfl, Nat.le_of_ble_eq_true rfl⟩ (Nat.le_of_ble_eq_true rfl) ⟨Nat.zero_le _, Nat.zero_le _⟩ dX12_quarrel_8) hS rfl rfl (fun rr8 Mm8 H locs h hW hS => ?_)
  refine lv_if_eq (tgt := 37) hx hb dX12_quarrel_11 (by decide) (fun c11 => ?_) (fun c11 => ?_)
  · replace h := h.1 c11
    refine lv_iconst hx hb dX12_quarrel_37 ki_m1 ?_
    exact m_iret S hret hlocks hK hW hbs hS rfl h dX12_quarrel_38
  · replace h := h.2 c11
    refine lv_aload_n hx hb dX12_quarrel_14 rfl (lv_at hl 0 rfl) ?_
    refine lv_iload_n hx hb dX12_quarrel_15 rfl (lv_at hl 2 rfl) ?_
    refine m_ci0 (m_rV S hK hW (m_szH hbs hS) (c_X12_isSchool l ) h lk_X12_139 (m_recv hK hW (ci_10 (Nat.le_of_ble_eq_true rfl)) (rc_10 G) rfl) rfl hl.1 rfl ⟨Nat.le_of_ble_eq_true rfl, Nat.le_of_ble_eq_true rfl⟩ (Nat.le_of_ble_eq_true rfl) ⟨Nat.zero_le _, Nat.zero_le _⟩ dX12_quarrel_16) hS rfl rfl (fun rr16 Mm16 H locs h hW hS => ?_)
    refine lv_if_eq (tgt := 37) hx hb dX12_quarrel_19 (by decide) (fun c19 => ?_) (fun c19 => ?_)
    · replace h := h.1 c19
      refine lv_iconst hx hb dX12_quarrel_37 ki_m1 ?_
      exact m_iret S hret hlocks hK hW hbs hS rfl h dX12_quarrel_38
    · replace h := h.2 c19
      refine lv_iload_n hx hb dX12_quarrel_22 rfl (lv_at hl 3 rfl) ?_
      refine m_ci0 (m_rS S hK hW (m_szH hbs hS) (c_X12_isAge l ) h lk_X12_149 rfl hl.1 rfl ⟨Nat.le_of_ble_eq_true rfl, Nat.le_of_ble_eq_true rfl⟩ (Nat.le_of_ble_eq_true rfl) ⟨Nat.zero_le _, Nat.zero_le _⟩ dX12_quarrel_23) hS rfl rfl (fun rr23 Mm23 H locs h hW hS => ?_)
      refine lv_if_eq (tgt := 37) hx hb dX12_quarrel_26 (by decide) (fun c26 => ?_) (fun c26 => ?_)
      · replace h := h.1 c26
        refine lv_iconst hx hb dX12_quarrel_37 ki_m1 ?_
        exact m_iret S hret hlocks hK hW hbs hS rfl h dX12_quarrel_38
      · replace h := h.2 c26
        refine lv_iload hx hb dX12_quarrel_29 (lv_at hl 4 rfl) ?_
        refine m_ci0 (m_rS S hK hW (m_szH hbs hS) (c_X12_isDay l ) h lk_X12_164 rfl hl.1 rfl ⟨Nat.le_of_ble_eq_true rfl, Nat.le_of_ble_eq_true rfl⟩ (Nat.le_of_ble_eq_true rfl) ⟨Nat.zero_le _, Nat.zero_le _⟩ dX12_quarrel_31) hS rfl rfl (fun rr31 Mm31 H locs h hW hS => ?_)
        refine lv_if_ne (tgt := 39) hx hb dX12_quarrel_34 (by decide) (fun c34 => ?_) (fun c34 => ?_)
        · replace h := h.1 c34
          refine lv_bipush hx hb dX12_quarrel_39 kb_m4 ?_
          refine lv_istore (lv' := [(5, .int (-4 : Int32)), (0, .ref (ad G 10 0)), (1, .int x1), (2, .int x2), (3, .int x3), (4, .int x4)]) hx hb dX12_quarrel_41 hl (by decide) rfl (fun ls hl => ?_)
          refine lv_bipush hx hb dX12_quarrel_43 kb_m4 ?_
          refine lv_istore (lv' := [(6, .int (-4 : Int32)), (5, .int (-4 : Int32)), (0, .ref (ad G 10 0)), (1, .int x1), (2, .int x2), (3, .int x3), (4, .int x4)]) hx hb dX12_quarrel_45 hl (by decide) rfl (fun ls hl => ?_)
          refine lv_aload_n hx hb dX12_quarrel_47 rfl (lv_at hl 2 rfl) ?_
          refine m_getr S hK fk_X12_7 (gr_10_1 G 0) hW (ci_10 (Nat.le_of_ble_eq_true rfl)) dX12_quarrel_48 ?_
          refine lv_iconst hx hb dX12_quarrel_51 ki_2 ?_
          refine m_aldk S hK (ar_44 G) hW (ci_44 (Nat.le_of_ble_eq_true rfl)) kn_2 (Nat.le_of_ble_eq_true rfl) dX12_quarrel_52 ?_
          refine lv_iconst hx hb dX12_quarrel_53 ki_1 ?_
          refine lv_isub hx hb dX12_quarrel_54 ?_
          refine lv_topi (fun x7_55 ex7_55 => ?_)
          replace h := h x7_55 ex7_55
          refine lv_istore (lv' := [(7, .int x7_55), (6, .int (-4 : Int32)), (5, .int (-4 : Int32)), (0, .ref (ad G 10 0)), (1, .int x1), (2, .int x2), (3, .int x3), (4, .int x4)]) hx hb dX12_quarrel_55 hl (by decide) rfl (fun ls hl => ?_)
          obtain ⟨n57, h⟩ := h
          exact w57 n57 _ h H locs ls hW hS (lv_sub hl [3, 4, 5, 6, 7, 2, 1, 0] rfl)
        · replace h := h.2 c34
          refine lv_iconst hx hb dX12_quarrel_37 ki_m1 ?_
          exact m_iret S hret hlocks hK hW hbs hS rfl h dX12_quarrel_38
def s_X12_hundreds (M : Mem) (x0 : Int32) (x1 : Int32) (P : Int32 → Mem → Prop) : Prop :=
  P ((x0 * x1) / (100 : Int32)) M
abbrev rm_X12_hundreds : Room := { frames := 0, cells := 0, slots := 0, locals := 0 }
set_option maxHeartbeats 4000000 in
set_option maxRecDepth 100000 in
theorem c_X12_hundreds (l : Launch) {G : Gn} {M : Mem} {x0 : Int32} {x1 : Int32} {P : Int32 → Mem → Prop} : MQi l yX12_hundreds cX12_hundreds 2 (some .int) rm_X12_hundreds [.int x0, .int x1] G M (s_X12_hundreds M x0 x1 P) P := by
  refine m_enter (by decide +kernel) (Nat.le_of_ble_eq_true rfl) ?_
  intro p e s m below meth c ls H locs S hret hlocks hname hK hbs hW hS hl h
  obtain ⟨AV, hAV⟩ : ∃ z : Array Value, z = ([.int x0, .int x1] : List Value).toArray := ⟨_, rfl⟩
  rw [← hAV] at S ⊢
  replace S : CallFix p m c cX12_hundreds 2 s AV lw_G "MilkDeskModel" := S
  have hx := S.1
  have hb := S.2.1
  have hml := S.2.2.1
  have hown := S.2.2.2.1
  have hts := S.2.2.2.2
  replace hl : lv_has ls 2 [(0, .int x0), (1, .int x1)] := hl
  unfold s_X12_hundreds at h
  refine lv_iload_n hx hb dX12_hundreds_0 rfl (lv_at hl 0 rfl) ?_
  refine lv_iload_n hx hb dX12_hundreds_1 rfl (lv_at hl 1 rfl) ?_
  refine lv_imul hx hb dX12_hundreds_2 ?_
  refine lv_bipush hx hb dX12_hundreds_3 kb_100 ?_
  refine lv_idiv hx hb dX12_hundreds_5 nz_100 ?_
  exact m_iret S hret hlocks hK hW hbs hS rfl h dX12_hundreds_6
def s_X12_paid_72 (P : Int32 → Mem → Prop) (M : Mem) (x3 : Int32) : Prop :=
  P (x3 / (2 : Int32)) M
def s_X12_paid_14 (x0 : Int32) (x1 : Int32) (x2 : Int32) (P : Int32 → Mem → Prop) (M : Mem) (y0 : Int32) (y1 : Int32) : Prop :=
  ∀ x3_15 : Int32, x3_15 = (y1 + y0) → (x0 = (0 : Int32) → s_X12_hundreds M x1 x2 (fun rr58 Mm58 => P rr58 Mm58)) ∧ ((x0 = (1 : Int32) → P x3_15 M) ∧ ((x0 = (2 : Int32) → s_X12_hundreds M x1 x2 (fun rr66 Mm66 => P (rr66 / (2 : Int32)) Mm66)) ∧ ((x0 = (3 : Int32) → P x3_15 M) ∧ ((x0 = (4 : Int32) → s_X12_paid_72 P M x3_15) ∧ ((x0 = (5 : Int32) → s_X12_paid_72 P M x3_15) ∧ ((¬ x0 = (0 : Int32) → ¬ x0 = (1 : Int32) → ¬ x0 = (2 : Int32) → ¬ x0 = (3 : Int32) → ¬ x0 = (4 : Int32) → ¬ x0 = (5 : Int32) → (x3_15 ≤ 0 → P (0 : Int32) M) ∧ (¬ x3_15 ≤ 0 → P (x3_15 - (1 : Int32)) M))))))))
def s_X12_paid (M : Mem) (x0 : Int32) (x1 : Int32) (x2 : Int32) (P : Int32 → Mem → Prop) : Prop :=
  s_X12_hundreds M x1 x2 (fun rr2 Mm2 => (x1 ≤ 0 → s_X12_paid_14 x0 x1 x2 P Mm2 (0 : Int32) rr2) ∧ (¬ x1 ≤ 0 → s_X12_paid_14 x0 x1 x2 P Mm2 (1 : Int32) rr2))
abbrev rm_X12_paid : Room := { frames := 1, cells := 0, slots := 0, locals := 21 }
set_option maxHeartbeats 4000000 in
set_option maxRecDepth 100000 in
theorem c_X12_paid (l : Launch) {G : Gn} {M : Mem} {x0 : Int32} {x1 : Int32} {x2 : Int32} {P : Int32 → Mem → Prop} : MQi l yX12_paid cX12_paid 4 (some .int) rm_X12_paid [.int x0, .int x1, .int x2] G M (s_X12_paid M x0 x1 x2 P) P := by
  refine m_enter (by decide +kernel) (Nat.le_of_ble_eq_true rfl) ?_
  intro p e s m below meth c ls H locs S hret hlocks hname hK hbs hW hS hl h
  obtain ⟨AV, hAV⟩ : ∃ z : Array Value, z = ([.int x0, .int x1, .int x2] : List Value).toArray := ⟨_, rfl⟩
  rw [← hAV] at S ⊢
  replace S : CallFix p m c cX12_paid 4 s AV lw_G "MilkDeskModel" := S
  have hx := S.1
  have hb := S.2.1
  have hml := S.2.2.1
  have hown := S.2.2.2.1
  have hts := S.2.2.2.2
  replace hl : lv_has ls 4 [(0, .int x0), (1, .int x1), (2, .int x2)] := hl
  have b72 : ∀ (M : Mem) (x3 : Int32) (H : Heap) (locs : List Loc) (ls : Array Slot), WPm G M H → va_S (fun q => bs G ≤ q) s.heap H locs → lv_has ls 4 [(3, .int x3)] → s_X12_paid_72 P M x3 → W p l e rm_X12_paid s m AV below meth c H locs 0 0 (MQ below (va_Qi P (WS G) (fun q => bs G ≤ q)) AV s 0 0 (fun q => bs G ≤ q)) (F0 m 72 ls []) := by
    intro M x3 H locs ls hW hS hl h
    unfold s_X12_paid_72 at h
    refine lv_iload_n hx hb dX12_paid_72 rfl (lv_at hl 0 rfl) ?_
    refine lv_iconst hx hb dX12_paid_73 ki_2 ?_
    refine lv_idiv hx hb dX12_paid_74 nz_2 ?_
    exact m_iret S hret hlocks hK hW hbs hS rfl h dX12_paid_75
  have b14 : ∀ (M : Mem) (y0 : Int32) (y1 : Int32) (H : Heap) (locs : List Loc) (ls : Array Slot), WPm G M H → va_S (fun q => bs G ≤ q) s.heap H locs → lv_has ls 4 [(0, .int x0), (1, .int x1), (2, .int x2)] → s_X12_paid_14 x0 x1 x2 P M y0 y1 → W p l e rm_X12_paid s m AV below meth c H locs 0 0 (MQ below (va_Qi P (WS G) (fun q => bs G ≤ q)) AV s 0 0 (fun q => bs G ≤ q)) (F0 m 14 ls [.int y0, .int y1]) := by
    intro M y0 y1 H locs ls hW hS hl h
    unfold s_X12_paid_14 at h
    refine lv_iadd hx hb dX12_paid_14 ?_
    refine lv_topi (fun x3_15 ex3_15 => ?_)
    replace h := h x3_15 ex3_15
    refine lv_istore_n (lv' := [(3, .int x3_15), (0, .int x0), (1, .int x1), (2, .int x2)]) hx hb dX12_paid_15 rfl hl (by decide) rfl (fun ls hl => ?_)
    refine lv_iload_n hx hb dX12_paid_16 rfl (lv_at hl 1 rfl) ?_
    by_cases c17_0 : x0 = (0 : Int32)
    · replace h := h.1 c17_0
      rw [c17_0]
      refine lv_tableIn (off := 39) (tgt := 56) hx hb dX12_paid_17 (by decide +kernel) (by decide +kernel) (by decide +kernel) (by decide) ?_
      refine lv_iload_n hx hb dX12_paid_56 rfl (lv_at hl 2 rfl) ?_
      refine lv_iload_n hx hb dX12_paid_57 rfl (lv_at hl 3 rfl) ?_
      refine m_ci0 (m_rS S hK hW (m_szH hbs hS) (c_X12_hundreds l ) h lk_X12_272 rfl hl.1 rfl ⟨Nat.le_of_ble_eq_true rfl, Nat.le_of_ble_eq_true rfl⟩ (Nat.le_of_ble_eq_true rfl) ⟨Nat.zero_le _, Nat.zero_le _⟩ dX12_paid_58) hS rfl rfl (fun rr58 Mm58 H locs h hW hS => ?_)
      exact m_iret S hret hlocks hK hW hbs hS rfl h dX12_paid_61
    · replace h := h.2
      by_cases c17_1 : x0 = (1 : Int32)
      · replace h := h.1 c17_1
        rw [c17_1]
        refine lv_tableIn (off := 45) (tgt := 62) hx hb dX12_paid_17 (by decide +kernel) (by decide +kernel) (by decide +kernel) (by decide) ?_
        refine lv_iload_n hx hb dX12_paid_62 rfl (lv_at hl 0 rfl) ?_
        exact m_iret S hret hlocks hK hW hbs hS rfl h dX12_paid_63
      · replace h := h.2
        by_cases c17_2 : x0 = (2 : Int32)
        · replace h := h.1 c17_2
          rw [c17_2]
          refine lv_tableIn (off := 47) (tgt := 64) hx hb dX12_paid_17 (by decide +kernel) (by decide +kernel) (by decide +kernel) (by decide) ?_
          refine lv_iload_n hx hb dX12_paid_64 rfl (lv_at hl 2 rfl) ?_
          refine lv_iload_n hx hb dX12_paid_65 rfl (lv_at hl 3 rfl) ?_
          refine m_ci0 (m_rS S hK hW (m_szH hbs hS) (c_X12_hundreds l ) h lk_X12_272 rfl hl.1 rfl ⟨Nat.le_of_ble_eq_true rfl, Nat.le_of_ble_eq_true rfl⟩ (Nat.le_of_ble_eq_true rfl) ⟨Nat.zero_le _, Nat.zero_le _⟩ dX12_paid_66) hS rfl rfl (fun rr66 Mm66 H locs h hW hS => ?_)
          refine lv_iconst hx hb dX12_paid_69 ki_2 ?_
          refine lv_idiv hx hb dX12_paid_70 nz_2 ?_
          exact m_iret S hret hlocks hK hW hbs hS rfl h dX12_paid_71
        · replace h := h.2
          by_cases c17_3 : x0 = (3 : Int32)
          · replace h := h.1 c17_3
            rw [c17_3]
            refine lv_tableIn (off := 45) (tgt := 62) hx hb dX12_paid_17 (by decide +kernel) (by decide +kernel) (by decide +kernel) (by decide) ?_
            refine lv_iload_n hx hb dX12_paid_62 rfl (lv_at hl 0 rfl) ?_
            exact m_iret S hret hlocks hK hW hbs hS rfl h dX12_paid_63
          · replace h := h.2
            by_cases c17_4 : x0 = (4 : Int32)
            · replace h := h.1 c17_4
              rw [c17_4]
              refine lv_tableIn (off := 55) (tgt := 72) hx hb dX12_paid_17 (by decide +kernel) (by decide +kernel) (by decide +kernel) (by decide) ?_
              exact b72 _ _ H locs ls hW hS (lv_sub hl [0] rfl) h
            · replace h := h.2
              by_cases c17_5 : x0 = (5 : Int32)
              · replace h := h.1 c17_5
                rw [c17_5]
                refine lv_tableIn (off := 55) (tgt := 72) hx hb dX12_paid_17 (by decide +kernel) (by decide +kernel) (by decide +kernel) (by decide) ?_
                exact b72 _ _ H locs ls hW hS (lv_sub hl [0] rfl) h
              · replace h := h.2
                replace h := h c17_0 c17_1 c17_2 c17_3 c17_4 c17_5
                refine lv_tableOut (tgt := 76) hx hb dX12_paid_17 (m_out 0 5 (fun z h1 h2 => ?_)) (by decide) ?_
                · have h3 : z = 0 ∨ z = 1 ∨ z = 2 ∨ z = 3 ∨ z = 4 ∨ z = 5 := by omega
                  rcases h3 with rfl | rfl | rfl | rfl | rfl | rfl
                  · exact lv_neT c17_0 (by decide +kernel)
                  · exact lv_neT c17_1 (by decide +kernel)
                  · exact lv_neT c17_2 (by decide +kernel)
                  · exact lv_neT c17_3 (by decide +kernel)
                  · exact lv_neT c17_4 (by decide +kernel)
                  · exact lv_neT c17_5 (by decide +kernel)
                · skip
                  refine lv_iload_n hx hb dX12_paid_76 rfl (lv_at hl 0 rfl) ?_
                  refine lv_if_le (tgt := 86) hx hb dX12_paid_77 (by decide) (fun c77 => ?_) (fun c77 => ?_)
                  · replace h := h.1 c77
                    refine lv_iconst hx hb dX12_paid_86 ki_0 ?_
                    exact m_iret S hret hlocks hK hW hbs hS rfl h dX12_paid_87
                  · replace h := h.2 c77
                    refine lv_iload_n hx hb dX12_paid_80 rfl (lv_at hl 0 rfl) ?_
                    refine lv_iconst hx hb dX12_paid_81 ki_1 ?_
                    refine lv_isub hx hb dX12_paid_82 ?_
                    refine lv_goto (tgt := 87) hx hb dX12_paid_83 (by decide) ?_
                    exact m_iret S hret hlocks hK hW hbs hS rfl h dX12_paid_87
  unfold s_X12_paid at h
  refine lv_iload_n hx hb dX12_paid_0 rfl (lv_at hl 1 rfl) ?_
  refine lv_iload_n hx hb dX12_paid_1 rfl (lv_at hl 2 rfl) ?_
  refine m_ci0 (m_rS S hK hW (m_szH hbs hS) (c_X12_hundreds l ) h lk_X12_272 rfl hl.1 rfl ⟨Nat.le_of_ble_eq_true rfl, Nat.le_of_ble_eq_true rfl⟩ (Nat.le_of_ble_eq_true rfl) ⟨Nat.zero_le _, Nat.zero_le _⟩ dX12_paid_2) hS rfl rfl (fun rr2 Mm2 H locs h hW hS => ?_)
  refine lv_iload_n hx hb dX12_paid_5 rfl (lv_at hl 1 rfl) ?_
  refine lv_if_le (tgt := 13) hx hb dX12_paid_6 (by decide) (fun c6 => ?_) (fun c6 => ?_)
  · replace h := h.1 c6
    refine lv_iconst hx hb dX12_paid_13 ki_0 ?_
    exact b14 _ _ _ H locs ls hW hS (lv_sub hl [0, 1, 2] rfl) h
  · replace h := h.2 c6
    refine lv_iconst hx hb dX12_paid_9 ki_1 ?_
    refine lv_goto (tgt := 14) hx hb dX12_paid_10 (by decide) ?_
    exact b14 _ _ _ H locs ls hW hS (lv_sub hl [0, 1, 2] rfl) h
def s_X12_orderOf_69 (x1 : Int32) (x2 : Int32) (P : Int32 → Mem → Prop) (K5 : Mem × Int32 × Int32 → Prop) (M : Mem) (x4 : Int32) (y0 : Int32) (y1 : Int32) : Prop :=
  ∀ x3_70 : Int32, x3_70 = (y1 + y0) → ∀ x4_71 : Int32, x4_71 = x4 + (1 : Int32) → K5 (M, x3_70, x4_71)
def s_X12_orderOf_43 (x1 : Int32) (x2 : Int32) (P : Int32 → Mem → Prop) (K5 : Mem × Int32 × Int32 → Prop) (M : Mem) (x3 : Int32) (x4 : Int32) (y0 : Int32) : Prop :=
  (y0 ≤ 0 → s_X12_orderOf_69 x1 x2 P K5 M x4 (0 : Int32) x3) ∧ (¬ y0 ≤ 0 → s_X12_holdsFor M (0 : Int32) x1 x4 x2 (fun rr57 Mm57 => (rr57 = 0 → s_X12_orderOf_69 x1 x2 P K5 Mm57 x4 (0 : Int32) x3) ∧ (¬ rr57 = 0 → s_X12_orderOf_69 x1 x2 P K5 Mm57 x4 y0 x3)))
def s_X12_orderOf_5 (x1 : Int32) (x2 : Int32) (P : Int32 → Mem → Prop) (K5 : Mem × Int32 × Int32 → Prop) (M : Mem) (x3 : Int32) (x4 : Int32) : Prop :=
  ((3 : Int32) ≤ x4 → P x3 M) ∧ (¬ (3 : Int32) ≤ x4 → ((5 : Int32) ≤ (x2 - x2 / (7 : Int32) * (7 : Int32)) → P x3 M) ∧ (¬ (5 : Int32) ≤ (x2 - x2 / (7 : Int32) * (7 : Int32)) → (¬ x4 = (M.1 10 0 22) → s_X12_headOf M x1 x4 x2 (400 : Int32) (fun rr40 Mm40 => s_X12_orderOf_43 x1 x2 P K5 Mm40 x3 x4 rr40)) ∧ (x4 = (M.1 10 0 22) → s_X12_orderOf_43 x1 x2 P K5 M x3 x4 (0 : Int32))))
def s_X12_orderOf (M : Mem) (x1 : Int32) (x2 : Int32) (P : Int32 → Mem → Prop) : Prop :=
  ∃ n, Lz (fun (K5 : Mem × Int32 × Int32 → Prop) (a : Mem × Int32 × Int32) => s_X12_orderOf_5 x1 x2 P K5 a.1 a.2.1 a.2.2) n (M, (0 : Int32), (0 : Int32))
abbrev rm_X12_orderOf : Room := { frames := 10, cells := 0, slots := 0, locals := 233 }
set_option maxHeartbeats 4000000 in
set_option maxRecDepth 100000 in
theorem c_X12_orderOf (l : Launch) {G : Gn} {M : Mem} {x1 : Int32} {x2 : Int32} {P : Int32 → Mem → Prop} : MQi l yX12_orderOf cX12_orderOf 6 (some .int) rm_X12_orderOf [.ref (ad G 10 0), .int x1, .int x2] G M (s_X12_orderOf M x1 x2 P) P := by
  refine m_enter (by decide +kernel) (Nat.le_of_ble_eq_true rfl) ?_
  intro p e s m below meth c ls H locs S hret hlocks hname hK hbs hW hS hl h
  obtain ⟨AV, hAV⟩ : ∃ z : Array Value, z = ([.ref (ad G 10 0), .int x1, .int x2] : List Value).toArray := ⟨_, rfl⟩
  rw [← hAV] at S ⊢
  replace S : CallFix p m c cX12_orderOf 6 s AV lw_G "MilkDeskModel" := S
  have hx := S.1
  have hb := S.2.1
  have hml := S.2.2.1
  have hown := S.2.2.2.1
  have hts := S.2.2.2.2
  replace hl : lv_has ls 6 [(0, .ref (ad G 10 0)), (1, .int x1), (2, .int x2)] := hl
  have w5 : ∀ (n : Nat) (a : Mem × Int32 × Int32), Lz (fun (K5 : Mem × Int32 × Int32 → Prop) (a : Mem × Int32 × Int32) => s_X12_orderOf_5 x1 x2 P K5 a.1 a.2.1 a.2.2) n a → ∀ (H : Heap) (locs : List Loc) (ls : Array Slot), WPm G a.1 H → va_S (fun q => bs G ≤ q) s.heap H locs → lv_has ls 6 [(0, .ref (ad G 10 0)), (1, .int x1), (2, .int x2), (3, .int a.2.1), (4, .int a.2.2)] → W p l e rm_X12_orderOf s m AV below meth c H locs 0 0 (MQ below (va_Qi P (WS G) (fun q => bs G ≤ q)) AV s 0 0 (fun q => bs G ≤ q)) (F0 m 5 ls []) := by
    refine Lz_walk ?_
    rintro K5 kk5 ⟨M, x3, x4⟩ h H locs ls hW hS hl
    replace h : s_X12_orderOf_5 x1 x2 P K5 M x3 x4 := h
    replace hW : WPm G M H := hW
    replace hl : lv_has ls 6 [(0, .ref (ad G 10 0)), (1, .int x1), (2, .int x2), (3, .int x3), (4, .int x4)] := hl
    have b69 : ∀ (M : Mem) (x4 : Int32) (y0 : Int32) (y1 : Int32) (H : Heap) (locs : List Loc) (ls : Array Slot), WPm G M H → va_S (fun q => bs G ≤ q) s.heap H locs → lv_has ls 6 [(0, .ref (ad G 10 0)), (1, .int x1), (2, .int x2), (4, .int x4)] → s_X12_orderOf_69 x1 x2 P K5 M x4 y0 y1 → W p l e rm_X12_orderOf s m AV below meth c H locs 0 0 (MQ below (va_Qi P (WS G) (fun q => bs G ≤ q)) AV s 0 0 (fun q => bs G ≤ q)) (F0 m 69 ls [.int y0, .int y1]) := by
      intro M x4 y0 y1 H locs ls hW hS hl h
      unfold s_X12_orderOf_69 at h
      refine lv_iadd hx hb dX12_orderOf_69 ?_
      refine lv_topi (fun x3_70 ex3_70 => ?_)
      replace h := h x3_70 ex3_70
      refine lv_istore_n (lv' := [(3, .int x3_70), (0, .ref (ad G 10 0)), (1, .int x1), (2, .int x2), (4, .int x4)]) hx hb dX12_orderOf_70 rfl hl (by decide) rfl (fun ls hl => ?_)
      obtain ⟨x4_71, ex4_71⟩ : ∃ z : Int32, z = x4 + (1 : Int32) := ⟨_, rfl⟩
      replace h := h x4_71 ex4_71
      refine lv_iinc (v := x4_71) (lv' := [(4, .int x4_71), (3, .int x3_70), (0, .ref (ad G 10 0)), (1, .int x1), (2, .int x2)]) hx hb dX12_orderOf_71 hl (k := 4) rfl (by rw [ex4_71, ki_1]) (by decide) rfl (fun ls hl => ?_)
      refine lv_goto (tgt := 5) hx hb dX12_orderOf_74 (by decide) ?_
      exact kk5 _ h H locs ls hW hS (lv_sub hl [2, 3, 4, 1, 0] rfl)
    have b43 : ∀ (M : Mem) (x3 : Int32) (x4 : Int32) (y0 : Int32) (H : Heap) (locs : List Loc) (ls : Array Slot), WPm G M H → va_S (fun q => bs G ≤ q) s.heap H locs → lv_has ls 6 [(0, .ref (ad G 10 0)), (1, .int x1), (2, .int x2), (3, .int x3), (4, .int x4)] → s_X12_orderOf_43 x1 x2 P K5 M x3 x4 y0 → W p l e rm_X12_orderOf s m AV below meth c H locs 0 0 (MQ below (va_Qi P (WS G) (fun q => bs G ≤ q)) AV s 0 0 (fun q => bs G ≤ q)) (F0 m 43 ls [.int y0]) := by
      intro M x3 x4 y0 H locs ls hW hS hl h
      unfold s_X12_orderOf_43 at h
      refine lv_istore (lv' := [(5, .int y0), (0, .ref (ad G 10 0)), (1, .int x1), (2, .int x2), (3, .int x3), (4, .int x4)]) hx hb dX12_orderOf_43 hl (by decide) rfl (fun ls hl => ?_)
      refine lv_iload_n hx hb dX12_orderOf_45 rfl (lv_at hl 4 rfl) ?_
      refine lv_iload hx hb dX12_orderOf_46 (lv_at hl 0 rfl) ?_
      refine lv_if_le (tgt := 68) hx hb dX12_orderOf_48 (by decide) (fun c48 => ?_) (fun c48 => ?_)
      · replace h := h.1 c48
        refine lv_iconst hx hb dX12_orderOf_68 ki_0 ?_
        exact b69 _ _ _ _ H locs ls hW hS (lv_sub hl [1, 2, 3, 5] rfl) h
      · replace h := h.2 c48
        refine lv_aload_n hx hb dX12_orderOf_51 rfl (lv_at hl 1 rfl) ?_
        refine lv_iconst hx hb dX12_orderOf_52 ki_0 ?_
        refine lv_iload_n hx hb dX12_orderOf_53 rfl (lv_at hl 2 rfl) ?_
        refine lv_iload hx hb dX12_orderOf_54 (lv_at hl 5 rfl) ?_
        refine lv_iload_n hx hb dX12_orderOf_56 rfl (lv_at hl 3 rfl) ?_
        refine m_ci0 (m_rV S hK hW (m_szH hbs hS) (c_X12_holdsFor l ) h lk_X12_266 (m_recv hK hW (ci_10 (Nat.le_of_ble_eq_true rfl)) (rc_10 G) rfl) rfl hl.1 rfl ⟨Nat.le_of_ble_eq_true rfl, Nat.le_of_ble_eq_true rfl⟩ (Nat.le_of_ble_eq_true rfl) ⟨Nat.zero_le _, Nat.zero_le _⟩ dX12_orderOf_57) hS rfl rfl (fun rr57 Mm57 H locs h hW hS => ?_)
        refine lv_if_eq (tgt := 68) hx hb dX12_orderOf_60 (by decide) (fun c60 => ?_) (fun c60 => ?_)
        · replace h := h.1 c60
          refine lv_iconst hx hb dX12_orderOf_68 ki_0 ?_
          exact b69 _ _ _ _ H locs ls hW hS (lv_sub hl [1, 2, 3, 5] rfl) h
        · replace h := h.2 c60
          refine lv_iload hx hb dX12_orderOf_63 (lv_at hl 0 rfl) ?_
          refine lv_goto (tgt := 69) hx hb dX12_orderOf_65 (by decide) ?_
          exact b69 _ _ _ _ H locs ls hW hS (lv_sub hl [1, 2, 3, 5] rfl) h
    unfold s_X12_orderOf_5 at h
    refine lv_iload hx hb dX12_orderOf_5 (lv_at hl 4 rfl) ?_
    refine lv_iconst hx hb dX12_orderOf_7 ki_3 ?_
    refine lv_icmp_ge (tgt := 77) hx hb dX12_orderOf_8 (by decide) (fun c8 => ?_) (fun c8 => ?_)
    · replace h := h.1 c8
      refine lv_iload_n hx hb dX12_orderOf_77 rfl (lv_at hl 3 rfl) ?_
      exact m_iret S hret hlocks hK hW hbs hS rfl h dX12_orderOf_78
    · replace h := h.2 c8
      refine lv_iload_n hx hb dX12_orderOf_11 rfl (lv_at hl 2 rfl) ?_
      refine lv_bipush hx hb dX12_orderOf_12 kb_7 ?_
      refine lv_irem hx hb dX12_orderOf_14 nz_7 ?_
      refine lv_iconst hx hb dX12_orderOf_15 ki_5 ?_
      refine lv_icmp_ge (tgt := 77) hx hb dX12_orderOf_16 (by decide) (fun c16 => ?_) (fun c16 => ?_)
      · replace h := h.1 c16
        refine lv_iload_n hx hb dX12_orderOf_77 rfl (lv_at hl 3 rfl) ?_
        exact m_iret S hret hlocks hK hW hbs hS rfl h dX12_orderOf_78
      · replace h := h.2 c16
        refine lv_iload hx hb dX12_orderOf_19 (lv_at hl 4 rfl) ?_
        refine lv_aload_n hx hb dX12_orderOf_21 rfl (lv_at hl 0 rfl) ?_
        refine m_geti S hK fk_X12_70 (gi_10_22 G) hW (ci_10 (Nat.le_of_ble_eq_true rfl)) dX12_orderOf_22 ?_
        refine lv_icmp_ne (tgt := 32) hx hb dX12_orderOf_25 (by decide) (fun c25 => ?_) (fun c25 => ?_)
        · replace h := h.1 c25
          refine lv_aload_n hx hb dX12_orderOf_32 rfl (lv_at hl 0 rfl) ?_
          refine lv_iload_n hx hb dX12_orderOf_33 rfl (lv_at hl 1 rfl) ?_
          refine lv_iload hx hb dX12_orderOf_34 (lv_at hl 4 rfl) ?_
          refine lv_iload_n hx hb dX12_orderOf_36 rfl (lv_at hl 2 rfl) ?_
          refine lv_sipush hx hb dX12_orderOf_37 ks_400 ?_
          refine m_ci0 (m_rV S hK hW (m_szH hbs hS) (c_X12_headOf l ) h lk_X12_160 (m_recv hK hW (ci_10 (Nat.le_of_ble_eq_true rfl)) (rc_10 G) rfl) rfl hl.1 rfl ⟨Nat.le_of_ble_eq_true rfl, Nat.le_of_ble_eq_true rfl⟩ (Nat.le_of_ble_eq_true rfl) ⟨Nat.zero_le _, Nat.zero_le _⟩ dX12_orderOf_40) hS rfl rfl (fun rr40 Mm40 H locs h hW hS => ?_)
          exact b43 _ _ _ _ H locs ls hW hS (lv_sub hl [0, 1, 2, 3, 4] rfl) h
        · replace h := h.2 c25
          refine lv_iconst hx hb dX12_orderOf_28 ki_0 ?_
          refine lv_goto (tgt := 43) hx hb dX12_orderOf_29 (by decide) ?_
          exact b43 _ _ _ _ H locs ls hW hS (lv_sub hl [0, 1, 2, 3, 4] rfl) h
  unfold s_X12_orderOf at h
  refine lv_iconst hx hb dX12_orderOf_0 ki_0 ?_
  refine lv_istore_n (lv' := [(3, .int (0 : Int32)), (0, .ref (ad G 10 0)), (1, .int x1), (2, .int x2)]) hx hb dX12_orderOf_1 rfl hl (by decide) rfl (fun ls hl => ?_)
  refine lv_iconst hx hb dX12_orderOf_2 ki_0 ?_
  refine lv_istore (lv' := [(4, .int (0 : Int32)), (3, .int (0 : Int32)), (0, .ref (ad G 10 0)), (1, .int x1), (2, .int x2)]) hx hb dX12_orderOf_3 hl (by decide) rfl (fun ls hl => ?_)
  obtain ⟨n5, h⟩ := h
  exact w5 n5 _ h H locs ls hW hS (lv_sub hl [2, 3, 4, 1, 0] rfl)
def s_X12_add (M : Mem) (x1 : Int32) (x2 : Int32) (x3 : Int32) (P : Mem → Prop) : Prop :=
  vp_in (((180 : Int32) + ((11 : Int32) * x1)) + x2) 320 ∧ (vp_in (((180 : Int32) + ((11 : Int32) * x1)) + x2) 320 ∧ (∀ Mm18 : Mem, Mm18 = wI M 44 0 ((((180 : Int32) + ((11 : Int32) * x1)) + x2).toNatClampNeg) ((M.1 44 0 (((180 : Int32) + ((11 : Int32) * x1)) + x2).toNatClampNeg) + x3) → P Mm18))
abbrev rm_X12_add : Room := { frames := 0, cells := 0, slots := 0, locals := 0 }
set_option maxHeartbeats 4000000 in
set_option maxRecDepth 100000 in
theorem c_X12_add (l : Launch) {G : Gn} {M : Mem} {x1 : Int32} {x2 : Int32} {x3 : Int32} {P : Mem → Prop} : MQv l yX12_add cX12_add 4 none rm_X12_add [.ref (ad G 10 0), .int x1, .int x2, .int x3] G M (s_X12_add M x1 x2 x3 P) P := by
  refine m_enter (by decide +kernel) (Nat.le_of_ble_eq_true rfl) ?_
  intro p e s m below meth c ls H locs S hret hlocks hname hK hbs hW hS hl h
  obtain ⟨AV, hAV⟩ : ∃ z : Array Value, z = ([.ref (ad G 10 0), .int x1, .int x2, .int x3] : List Value).toArray := ⟨_, rfl⟩
  rw [← hAV] at S ⊢
  replace S : CallFix p m c cX12_add 4 s AV lw_G "MilkDeskModel" := S
  have hx := S.1
  have hb := S.2.1
  have hml := S.2.2.1
  have hown := S.2.2.2.1
  have hts := S.2.2.2.2
  replace hl : lv_has ls 4 [(0, .ref (ad G 10 0)), (1, .int x1), (2, .int x2), (3, .int x3)] := hl
  unfold s_X12_add at h
  refine lv_aload_n hx hb dX12_add_0 rfl (lv_at hl 0 rfl) ?_
  refine m_getr S hK fk_X12_7 (gr_10_1 G 0) hW (ci_10 (Nat.le_of_ble_eq_true rfl)) dX12_add_1 ?_
  refine lv_sipush hx hb dX12_add_4 ks_180 ?_
  refine lv_bipush hx hb dX12_add_7 kb_11 ?_
  refine lv_iload_n hx hb dX12_add_9 rfl (lv_at hl 1 rfl) ?_
  refine lv_imul hx hb dX12_add_10 ?_
  refine lv_iadd hx hb dX12_add_11 ?_
  refine lv_iload_n hx hb dX12_add_12 rfl (lv_at hl 2 rfl) ?_
  refine lv_iadd hx hb dX12_add_13 ?_
  refine lv_dup2_11 hx hb dX12_add_14 rfl rfl ?_
  obtain ⟨hb15, h⟩ := h
  refine m_ald S hK (ar_44 G) hW (ci_44 (Nat.le_of_ble_eq_true rfl)) hb15 dX12_add_15 ?_
  refine lv_iload_n hx hb dX12_add_16 rfl (lv_at hl 3 rfl) ?_
  refine lv_iadd hx hb dX12_add_17 ?_
  obtain ⟨hb18, h⟩ := h
  refine m_ast S hK (ar_44 G) hW hS (ci_44 (Nat.le_of_ble_eq_true rfl)) hb18 dX12_add_18 (fun Mm18 eMm18 H locs hW hS => ?_)
  replace h := h Mm18 eMm18
  exact m_vret S hret hlocks hK hW hbs hS h dX12_add_19
def s_X12_serve_406 (x1 : Int32) (P : Mem → Prop) (M : Mem) (x3 : Int32) (x4 : Int32) (x5 : Int32) (x6 : Int32) (x7 : Int32) (x9 : Int32) (x10 : Int32) (x11 : Int32) (x12 : Int32) (y0 : Int32) (y1 : Int32) (y2 : Int32) : Prop :=
  s_X12_add M y2 y1 y0 (fun Mm406 => s_X12_paid Mm406 (1 : Int32) (x10 - x11) x4 (fun rr421 Mm421 => s_X12_paid Mm421 (3 : Int32) x11 x4 (fun rr429 Mm429 => s_X12_paid Mm429 (4 : Int32) x9 x4 (fun rr438 Mm438 => s_X12_paid Mm438 (5 : Int32) x7 x4 (fun rr447 Mm447 => s_X12_paid Mm447 (6 : Int32) (x5 - x6) x4 (fun rr460 Mm460 => s_X12_add Mm460 x1 (10 : Int32) ((((rr421 + rr429) + rr438) + rr447) + rr460) (fun Mm464 => (x3 < 0 → P Mm464) ∧ (¬ x3 < 0 → vp_in x3 5 ∧ (vp_in x3 5 ∧ (∀ Mm487 : Mem, Mm487 = wI Mm464 68 0 (x3.toNatClampNeg) ((Mm464.1 68 0 x3.toNatClampNeg) + ((x9 + x10) - x12)) → P Mm487))))))))))
def s_X12_serve_263 (x1 : Int32) (x2 : Int32) (P : Mem → Prop) (M : Mem) (x3 : Int32) (x4 : Int32) (x5 : Int32) (x6 : Int32) (x7 : Int32) (x9 : Int32) (y0 : Int32) : Prop :=
  vp_in ((10 : Int32) + x1) 320 ∧ (∀ x11_280 : Int32, x11_280 = ((y0 * (M.1 44 0 ((10 : Int32) + x1).toNatClampNeg)) / (100 : Int32)) → vp_in ((30 : Int32) + x1) 320 ∧ (∀ x12_297 : Int32, x12_297 = ((y0 * (M.1 44 0 ((30 : Int32) + x1).toNatClampNeg)) / (100 : Int32)) → s_X12_add M x1 (0 : Int32) x5 (fun Mm304 => s_X12_add Mm304 x1 (1 : Int32) x6 (fun Mm312 => s_X12_add Mm312 x1 (2 : Int32) (x5 - x6) (fun Mm323 => s_X12_add Mm323 x1 (3 : Int32) x7 (fun Mm331 => s_X12_add Mm331 x1 (4 : Int32) x9 (fun Mm339 => s_X12_add Mm339 x1 (5 : Int32) y0 (fun Mm347 => s_X12_add Mm347 x1 (6 : Int32) x11_280 (fun Mm356 => s_X12_add Mm356 x1 (7 : Int32) (y0 - x12_297) (fun Mm368 => s_X12_add Mm368 x1 (8 : Int32) x12_297 (fun Mm377 => (x12_297 ≤ 0 → s_X12_serve_406 x1 P Mm377 x3 x4 x5 x6 x7 x9 y0 x11_280 x12_297 (0 : Int32) (9 : Int32) x1) ∧ (¬ x12_297 ≤ 0 → s_X12_holdsFor Mm377 (2 : Int32) x1 (0 : Int32) x2 (fun rr394 Mm394 => (rr394 = 0 → s_X12_serve_406 x1 P Mm394 x3 x4 x5 x6 x7 x9 y0 x11_280 x12_297 (0 : Int32) (9 : Int32) x1) ∧ (¬ rr394 = 0 → s_X12_serve_406 x1 P Mm394 x3 x4 x5 x6 x7 x9 y0 x11_280 x12_297 x12_297 (9 : Int32) x1))))))))))))))
def s_X12_serve_247 (x1 : Int32) (x2 : Int32) (P : Mem → Prop) (M : Mem) (x3 : Int32) (x4 : Int32) (x5 : Int32) (x6 : Int32) (x7 : Int32) (x8 : Int32) (y0 : Int32) : Prop :=
  (x8 = 0 → s_X12_serve_263 x1 x2 P M x3 x4 x5 x6 x7 y0 (x6 - x7)) ∧ (¬ x8 = 0 → s_X12_serve_263 x1 x2 P M x3 x4 x5 x6 x7 y0 (0 : Int32))
def s_X12_serve_231 (x1 : Int32) (x2 : Int32) (P : Mem → Prop) (M : Mem) (x3 : Int32) (x4 : Int32) (x5 : Int32) (x6 : Int32) (x7 : Int32) (y0 : Int32) : Prop :=
  (y0 = 0 → s_X12_serve_247 x1 x2 P M x3 x4 x5 x6 x7 y0 (0 : Int32)) ∧ (¬ y0 = 0 → s_X12_serve_247 x1 x2 P M x3 x4 x5 x6 x7 y0 (x6 - x7))
def s_X12_serve_173 (x1 : Int32) (x2 : Int32) (P : Mem → Prop) (M : Mem) (x3 : Int32) (x4 : Int32) (x5 : Int32) (x6 : Int32) : Prop :=
  s_X12_monthOf M x2 (fun rr182 Mm182 => vp_in ((100 : Int32) + rr182) 320 ∧ (∀ x7_191 : Int32, x7_191 = ((x6 * (Mm182.1 44 0 ((100 : Int32) + rr182).toNatClampNeg)) / (100 : Int32)) → (x6 ≤ 0 → s_X12_serve_231 x1 x2 P Mm182 x3 x4 x5 x6 x7_191 (0 : Int32)) ∧ (¬ x6 ≤ 0 → s_X12_monthOf Mm182 x2 (fun rr205 Mm205 => vp_in ((120 : Int32) + rr205) 320 ∧ (((Mm205.1 44 0 ((120 : Int32) + rr205).toNatClampNeg) < (20 : Int32) → s_X12_serve_231 x1 x2 P Mm205 x3 x4 x5 x6 x7_191 (0 : Int32)) ∧ (¬ (Mm205.1 44 0 ((120 : Int32) + rr205).toNatClampNeg) < (20 : Int32) → s_X12_holdsFor Mm205 (1 : Int32) x1 (0 : Int32) x2 (fun rr220 Mm220 => (rr220 = 0 → s_X12_serve_231 x1 x2 P Mm220 x3 x4 x5 x6 x7_191 (0 : Int32)) ∧ (¬ rr220 = 0 → s_X12_serve_231 x1 x2 P Mm220 x3 x4 x5 x6 x7_191 (1 : Int32)))))))))
def s_X12_serve_135 (x1 : Int32) (x2 : Int32) (P : Mem → Prop) (M : Mem) (x3 : Int32) (x4 : Int32) (x5 : Int32) (y0 : Int32) : Prop :=
  vp_in x3 5 ∧ (vp_in x3 5 ∧ (∀ Mm147 : Mem, Mm147 = wI M 67 0 (x3.toNatClampNeg) ((M.1 67 0 x3.toNatClampNeg) - y0) → vp_in ((70 : Int32) + x3) 320 ∧ (vp_in ((70 : Int32) + x3) 320 ∧ (∀ Mm161 : Mem, Mm161 = wI Mm147 44 0 (((70 : Int32) + x3).toNatClampNeg) ((Mm147.1 44 0 ((70 : Int32) + x3).toNatClampNeg) - y0) → ∀ Mm170 : Mem, Mm170 = wI Mm161 10 0 40 ((Mm161.1 10 0 40) - y0) → s_X12_serve_173 x1 x2 P Mm170 x3 x4 x5 y0))))
def s_X12_serve_115 (x1 : Int32) (x2 : Int32) (P : Mem → Prop) (M : Mem) (x3 : Int32) (x4 : Int32) (x5 : Int32) (y0 : Int32) : Prop :=
  (y0 ≤ (M.1 10 0 40) → s_X12_serve_135 x1 x2 P M x3 x4 x5 y0) ∧ (¬ y0 ≤ (M.1 10 0 40) → s_X12_serve_135 x1 x2 P M x3 x4 x5 (M.1 10 0 40))
def s_X12_serve_85 (x1 : Int32) (x2 : Int32) (P : Mem → Prop) (M : Mem) (x3 : Int32) (x4 : Int32) (x5 : Int32) (y0 : Int32) : Prop :=
  vp_in ((70 : Int32) + x3) 320 ∧ ((y0 ≤ (M.1 44 0 ((70 : Int32) + x3).toNatClampNeg) → s_X12_serve_115 x1 x2 P M x3 x4 x5 y0) ∧ (¬ y0 ≤ (M.1 44 0 ((70 : Int32) + x3).toNatClampNeg) → vp_in ((70 : Int32) + x3) 320 ∧ (s_X12_serve_115 x1 x2 P M x3 x4 x5 (M.1 44 0 ((70 : Int32) + x3).toNatClampNeg))))
def s_X12_serve_57 (x1 : Int32) (x2 : Int32) (P : Mem → Prop) (M : Mem) (x3 : Int32) (x4 : Int32) (x5 : Int32) (y0 : Int32) : Prop :=
  (x3 < 0 → s_X12_serve_173 x1 x2 P M x3 x4 x5 y0) ∧ (¬ x3 < 0 → vp_in x3 5 ∧ ((y0 ≤ (M.1 67 0 x3.toNatClampNeg) → s_X12_serve_85 x1 x2 P M x3 x4 x5 y0) ∧ (¬ y0 ≤ (M.1 67 0 x3.toNatClampNeg) → vp_in x3 5 ∧ (s_X12_serve_85 x1 x2 P M x3 x4 x5 (M.1 67 0 x3.toNatClampNeg)))))
def s_X12_serve_37 (x1 : Int32) (x2 : Int32) (P : Mem → Prop) (M : Mem) (x3 : Int32) (y0 : Int32) : Prop :=
  s_X12_orderOf M x1 x2 (fun rr42 Mm42 => (0 ≤ x3 → s_X12_serve_57 x1 x2 P Mm42 x3 y0 rr42 rr42) ∧ (¬ 0 ≤ x3 → s_X12_serve_57 x1 x2 P Mm42 x3 y0 rr42 (0 : Int32)))
def s_X12_serve (M : Mem) (x1 : Int32) (x2 : Int32) (P : Mem → Prop) : Prop :=
  vp_in x1 12 ∧ (s_X12_wonBy M (M.1 47 0 x1.toNatClampNeg) (fun rr7 Mm7 => (0 ≤ rr7 → vp_in x1 12 ∧ (vp_in (((80 : Int32) + ((4 : Int32) * rr7)) + (Mm7.1 47 0 x1.toNatClampNeg)) 320 ∧ (s_X12_serve_37 x1 x2 P Mm7 rr7 (Mm7.1 44 0 (((80 : Int32) + ((4 : Int32) * rr7)) + (Mm7.1 47 0 x1.toNatClampNeg)).toNatClampNeg)))) ∧ (¬ 0 ≤ rr7 → s_X12_serve_37 x1 x2 P Mm7 rr7 (0 : Int32))))
abbrev rm_X12_serve : Room := { frames := 11, cells := 0, slots := 0, locals := 258 }
set_option maxHeartbeats 4000000 in
set_option maxRecDepth 100000 in
theorem c_X12_serve (l : Launch) {G : Gn} {M : Mem} {x1 : Int32} {x2 : Int32} {P : Mem → Prop} : MQv l yX12_serve cX12_serve 13 none rm_X12_serve [.ref (ad G 10 0), .int x1, .int x2] G M (s_X12_serve M x1 x2 P) P := by
  refine m_enter (by decide +kernel) (Nat.le_of_ble_eq_true rfl) ?_
  intro p e s m below meth c ls H locs S hret hlocks hname hK hbs hW hS hl h
  obtain ⟨AV, hAV⟩ : ∃ z : Array Value, z = ([.ref (ad G 10 0), .int x1, .int x2] : List Value).toArray := ⟨_, rfl⟩
  rw [← hAV] at S ⊢
  replace S : CallFix p m c cX12_serve 13 s AV lw_G "MilkDeskModel" := S
  have hx := S.1
  have hb := S.2.1
  have hml := S.2.2.1
  have hown := S.2.2.2.1
  have hts := S.2.2.2.2
  replace hl : lv_has ls 13 [(0, .ref (ad G 10 0)), (1, .int x1), (2, .int x2)] := hl
  have b406 : ∀ (M : Mem) (x3 : Int32) (x4 : Int32) (x5 : Int32) (x6 : Int32) (x7 : Int32) (x9 : Int32) (x10 : Int32) (x11 : Int32) (x12 : Int32) (y0 : Int32) (y1 : Int32) (y2 : Int32) (H : Heap) (locs : List Loc) (ls : Array Slot), WPm G M H → va_S (fun q => bs G ≤ q) s.heap H locs → lv_has ls 13 [(0, .ref (ad G 10 0)), (1, .int x1), (3, .int x3), (4, .int x4), (5, .int x5), (6, .int x6), (7, .int x7), (9, .int x9), (10, .int x10), (11, .int x11), (12, .int x12)] → s_X12_serve_406 x1 P M x3 x4 x5 x6 x7 x9 x10 x11 x12 y0 y1 y2 → W p l e rm_X12_serve s m AV below meth c H locs 0 0 (MQ below (va_Qv P (WS G) (fun q => bs G ≤ q)) AV s 0 0 (fun q => bs G ≤ q)) (F0 m 406 ls [.int y0, .int y1, .int y2, .ref (ad G 10 0)]) := by
    intro M x3 x4 x5 x6 x7 x9 x10 x11 x12 y0 y1 y2 H locs ls hW hS hl h
    unfold s_X12_serve_406 at h
    refine m_cv0 (m_rV S hK hW (m_szH hbs hS) (c_X12_add l ) h lk_X12_281 (m_recv hK hW (ci_10 (Nat.le_of_ble_eq_true rfl)) (rc_10 G) rfl) rfl hl.1 rfl ⟨Nat.le_of_ble_eq_true rfl, Nat.le_of_ble_eq_true rfl⟩ (Nat.le_of_ble_eq_true rfl) ⟨Nat.zero_le _, Nat.zero_le _⟩ dX12_serve_406) hS rfl rfl (fun Mm406 H locs h hW hS => ?_)
    refine lv_aload_n hx hb dX12_serve_409 rfl (lv_at hl 0 rfl) ?_
    refine lv_iload_n hx hb dX12_serve_410 rfl (lv_at hl 1 rfl) ?_
    refine lv_bipush hx hb dX12_serve_411 kb_10 ?_
    refine lv_iconst hx hb dX12_serve_413 ki_1 ?_
    refine lv_iload hx hb dX12_serve_414 (lv_at hl 8 rfl) ?_
    refine lv_iload hx hb dX12_serve_416 (lv_at hl 9 rfl) ?_
    refine lv_isub hx hb dX12_serve_418 ?_
    refine lv_iload hx hb dX12_serve_419 (lv_at hl 3 rfl) ?_
    refine m_ci0 (m_rS S hK hW (m_szH hbs hS) (c_X12_paid l ) h lk_X12_285 rfl hl.1 rfl ⟨Nat.le_of_ble_eq_true rfl, Nat.le_of_ble_eq_true rfl⟩ (Nat.le_of_ble_eq_true rfl) ⟨Nat.zero_le _, Nat.zero_le _⟩ dX12_serve_421) hS rfl rfl (fun rr421 Mm421 H locs h hW hS => ?_)
    refine lv_iconst hx hb dX12_serve_424 ki_3 ?_
    refine lv_iload hx hb dX12_serve_425 (lv_at hl 9 rfl) ?_
    refine lv_iload hx hb dX12_serve_427 (lv_at hl 3 rfl) ?_
    refine m_ci0 (m_rS S hK hW (m_szH hbs hS) (c_X12_paid l ) h lk_X12_285 rfl hl.1 rfl ⟨Nat.le_of_ble_eq_true rfl, Nat.le_of_ble_eq_true rfl⟩ (Nat.le_of_ble_eq_true rfl) ⟨Nat.zero_le _, Nat.zero_le _⟩ dX12_serve_429) hS rfl rfl (fun rr429 Mm429 H locs h hW hS => ?_)
    refine lv_iadd hx hb dX12_serve_432 ?_
    refine lv_iconst hx hb dX12_serve_433 ki_4 ?_
    refine lv_iload hx hb dX12_serve_434 (lv_at hl 7 rfl) ?_
    refine lv_iload hx hb dX12_serve_436 (lv_at hl 3 rfl) ?_
    refine m_ci0 (m_rS S hK hW (m_szH hbs hS) (c_X12_paid l ) h lk_X12_285 rfl hl.1 rfl ⟨Nat.le_of_ble_eq_true rfl, Nat.le_of_ble_eq_true rfl⟩ (Nat.le_of_ble_eq_true rfl) ⟨Nat.zero_le _, Nat.zero_le _⟩ dX12_serve_438) hS rfl rfl (fun rr438 Mm438 H locs h hW hS => ?_)
    refine lv_iadd hx hb dX12_serve_441 ?_
    refine lv_iconst hx hb dX12_serve_442 ki_5 ?_
    refine lv_iload hx hb dX12_serve_443 (lv_at hl 6 rfl) ?_
    refine lv_iload hx hb dX12_serve_445 (lv_at hl 3 rfl) ?_
    refine m_ci0 (m_rS S hK hW (m_szH hbs hS) (c_X12_paid l ) h lk_X12_285 rfl hl.1 rfl ⟨Nat.le_of_ble_eq_true rfl, Nat.le_of_ble_eq_true rfl⟩ (Nat.le_of_ble_eq_true rfl) ⟨Nat.zero_le _, Nat.zero_le _⟩ dX12_serve_447) hS rfl rfl (fun rr447 Mm447 H locs h hW hS => ?_)
    refine lv_iadd hx hb dX12_serve_450 ?_
    refine lv_bipush hx hb dX12_serve_451 kb_6 ?_
    refine lv_iload hx hb dX12_serve_453 (lv_at hl 4 rfl) ?_
    refine lv_iload hx hb dX12_serve_455 (lv_at hl 5 rfl) ?_
    refine lv_isub hx hb dX12_serve_457 ?_
    refine lv_iload hx hb dX12_serve_458 (lv_at hl 3 rfl) ?_
    refine m_ci0 (m_rS S hK hW (m_szH hbs hS) (c_X12_paid l ) h lk_X12_285 rfl hl.1 rfl ⟨Nat.le_of_ble_eq_true rfl, Nat.le_of_ble_eq_true rfl⟩ (Nat.le_of_ble_eq_true rfl) ⟨Nat.zero_le _, Nat.zero_le _⟩ dX12_serve_460) hS rfl rfl (fun rr460 Mm460 H locs h hW hS => ?_)
    refine lv_iadd hx hb dX12_serve_463 ?_
    refine m_cv0 (m_rV S hK hW (m_szH hbs hS) (c_X12_add l ) h lk_X12_281 (m_recv hK hW (ci_10 (Nat.le_of_ble_eq_true rfl)) (rc_10 G) rfl) rfl hl.1 rfl ⟨Nat.le_of_ble_eq_true rfl, Nat.le_of_ble_eq_true rfl⟩ (Nat.le_of_ble_eq_true rfl) ⟨Nat.zero_le _, Nat.zero_le _⟩ dX12_serve_464) hS rfl rfl (fun Mm464 H locs h hW hS => ?_)
    refine lv_iload_n hx hb dX12_serve_467 rfl (lv_at hl 2 rfl) ?_
    refine lv_if_lt (tgt := 488) hx hb dX12_serve_468 (by decide) (fun c468 => ?_) (fun c468 => ?_)
    · replace h := h.1 c468
      exact m_vret S hret hlocks hK hW hbs hS h dX12_serve_488
    · replace h := h.2 c468
      refine lv_aload_n hx hb dX12_serve_471 rfl (lv_at hl 0 rfl) ?_
      refine m_getr S hK fk_X12_90 (gr_10_39 G 0) hW (ci_10 (Nat.le_of_ble_eq_true rfl)) dX12_serve_472 ?_
      refine lv_iload_n hx hb dX12_serve_475 rfl (lv_at hl 2 rfl) ?_
      refine lv_dup2_11 hx hb dX12_serve_476 rfl rfl ?_
      obtain ⟨hb477, h⟩ := h
      refine m_ald S hK (ar_68 G) hW (ci_68 (Nat.le_of_ble_eq_true rfl)) hb477 dX12_serve_477 ?_
      refine lv_iload hx hb dX12_serve_478 (lv_at hl 7 rfl) ?_
      refine lv_iload hx hb dX12_serve_480 (lv_at hl 8 rfl) ?_
      refine lv_iadd hx hb dX12_serve_482 ?_
      refine lv_iload hx hb dX12_serve_483 (lv_at hl 10 rfl) ?_
      refine lv_isub hx hb dX12_serve_485 ?_
      refine lv_iadd hx hb dX12_serve_486 ?_
      obtain ⟨hb487, h⟩ := h
      refine m_ast S hK (ar_68 G) hW hS (ci_68 (Nat.le_of_ble_eq_true rfl)) hb487 dX12_serve_487 (fun Mm487 eMm487 H locs hW hS => ?_)
      replace h := h Mm487 eMm487
      exact m_vret S hret hlocks hK hW hbs hS h dX12_serve_488
  have b263 : ∀ (M : Mem) (x3 : Int32) (x4 : Int32) (x5 : Int32) (x6 : Int32) (x7 : Int32) (x9 : Int32) (y0 : Int32) (H : Heap) (locs : List Loc) (ls : Array Slot), WPm G M H → va_S (fun q => bs G ≤ q) s.heap H locs → lv_has ls 13 [(0, .ref (ad G 10 0)), (1, .int x1), (2, .int x2), (3, .int x3), (4, .int x4), (5, .int x5), (6, .int x6), (7, .int x7), (9, .int x9)] → s_X12_serve_263 x1 x2 P M x3 x4 x5 x6 x7 x9 y0 → W p l e rm_X12_serve s m AV below meth c H locs 0 0 (MQ below (va_Qv P (WS G) (fun q => bs G ≤ q)) AV s 0 0 (fun q => bs G ≤ q)) (F0 m 263 ls [.int y0]) := by
    intro M x3 x4 x5 x6 x7 x9 y0 H locs ls hW hS hl h
    unfold s_X12_serve_263 at h
    refine lv_istore (lv' := [(10, .int y0), (0, .ref (ad G 10 0)), (1, .int x1), (2, .int x2), (3, .int x3), (4, .int x4), (5, .int x5), (6, .int x6), (7, .int x7), (9, .int x9)]) hx hb dX12_serve_263 hl (by decide) rfl (fun ls hl => ?_)
    refine lv_iload hx hb dX12_serve_265 (lv_at hl 0 rfl) ?_
    refine lv_aload_n hx hb dX12_serve_267 rfl (lv_at hl 1 rfl) ?_
    refine m_getr S hK fk_X12_7 (gr_10_1 G 0) hW (ci_10 (Nat.le_of_ble_eq_true rfl)) dX12_serve_268 ?_
    refine lv_bipush hx hb dX12_serve_271 kb_10 ?_
    refine lv_iload_n hx hb dX12_serve_273 rfl (lv_at hl 2 rfl) ?_
    refine lv_iadd hx hb dX12_serve_274 ?_
    obtain ⟨hb275, h⟩ := h
    refine m_ald S hK (ar_44 G) hW (ci_44 (Nat.le_of_ble_eq_true rfl)) hb275 dX12_serve_275 ?_
    refine lv_imul hx hb dX12_serve_276 ?_
    refine lv_bipush hx hb dX12_serve_277 kb_100 ?_
    refine lv_idiv hx hb dX12_serve_279 nz_100 ?_
    refine lv_topi (fun x11_280 ex11_280 => ?_)
    replace h := h x11_280 ex11_280
    refine lv_istore (lv' := [(11, .int x11_280), (10, .int y0), (0, .ref (ad G 10 0)), (1, .int x1), (2, .int x2), (3, .int x3), (4, .int x4), (5, .int x5), (6, .int x6), (7, .int x7), (9, .int x9)]) hx hb dX12_serve_280 hl (by decide) rfl (fun ls hl => ?_)
    refine lv_iload hx hb dX12_serve_282 (lv_at hl 1 rfl) ?_
    refine lv_aload_n hx hb dX12_serve_284 rfl (lv_at hl 2 rfl) ?_
    refine m_getr S hK fk_X12_7 (gr_10_1 G 0) hW (ci_10 (Nat.le_of_ble_eq_true rfl)) dX12_serve_285 ?_
    refine lv_bipush hx hb dX12_serve_288 kb_30 ?_
    refine lv_iload_n hx hb dX12_serve_290 rfl (lv_at hl 3 rfl) ?_
    refine lv_iadd hx hb dX12_serve_291 ?_
    obtain ⟨hb292, h⟩ := h
    refine m_ald S hK (ar_44 G) hW (ci_44 (Nat.le_of_ble_eq_true rfl)) hb292 dX12_serve_292 ?_
    refine lv_imul hx hb dX12_serve_293 ?_
    refine lv_bipush hx hb dX12_serve_294 kb_100 ?_
    refine lv_idiv hx hb dX12_serve_296 nz_100 ?_
    refine lv_topi (fun x12_297 ex12_297 => ?_)
    replace h := h x12_297 ex12_297
    refine lv_istore (lv' := [(12, .int x12_297), (11, .int x11_280), (10, .int y0), (0, .ref (ad G 10 0)), (1, .int x1), (2, .int x2), (3, .int x3), (4, .int x4), (5, .int x5), (6, .int x6), (7, .int x7), (9, .int x9)]) hx hb dX12_serve_297 hl (by decide) rfl (fun ls hl => ?_)
    refine lv_aload_n hx hb dX12_serve_299 rfl (lv_at hl 3 rfl) ?_
    refine lv_iload_n hx hb dX12_serve_300 rfl (lv_at hl 4 rfl) ?_
    refine lv_iconst hx hb dX12_serve_301 ki_0 ?_
    refine lv_iload hx hb dX12_serve_302 (lv_at hl 8 rfl) ?_
    refine m_cv0 (m_rV S hK hW (m_szH hbs hS) (c_X12_add l ) h lk_X12_281 (m_recv hK hW (ci_10 (Nat.le_of_ble_eq_true rfl)) (rc_10 G) rfl) rfl hl.1 rfl ⟨Nat.le_of_ble_eq_true rfl, Nat.le_of_ble_eq_true rfl⟩ (Nat.le_of_ble_eq_true rfl) ⟨Nat.zero_le _, Nat.zero_le _⟩ dX12_serve_304) hS rfl rfl (fun Mm304 H locs h hW hS => ?_)
    refine lv_aload_n hx hb dX12_serve_307 rfl (lv_at hl 3 rfl) ?_
    refine lv_iload_n hx hb dX12_serve_308 rfl (lv_at hl 4 rfl) ?_
    refine lv_iconst hx hb dX12_serve_309 ki_1 ?_
    refine lv_iload hx hb dX12_serve_310 (lv_at hl 9 rfl) ?_
    refine m_cv0 (m_rV S hK hW (m_szH hbs hS) (c_X12_add l ) h lk_X12_281 (m_recv hK hW (ci_10 (Nat.le_of_ble_eq_true rfl)) (rc_10 G) rfl) rfl hl.1 rfl ⟨Nat.le_of_ble_eq_true rfl, Nat.le_of_ble_eq_true rfl⟩ (Nat.le_of_ble_eq_true rfl) ⟨Nat.zero_le _, Nat.zero_le _⟩ dX12_serve_312) hS rfl rfl (fun Mm312 H locs h hW hS => ?_)
    refine lv_aload_n hx hb dX12_serve_315 rfl (lv_at hl 3 rfl) ?_
    refine lv_iload_n hx hb dX12_serve_316 rfl (lv_at hl 4 rfl) ?_
    refine lv_iconst hx hb dX12_serve_317 ki_2 ?_
    refine lv_iload hx hb dX12_serve_318 (lv_at hl 8 rfl) ?_
    refine lv_iload hx hb dX12_serve_320 (lv_at hl 9 rfl) ?_
    refine lv_isub hx hb dX12_serve_322 ?_
    refine m_cv0 (m_rV S hK hW (m_szH hbs hS) (c_X12_add l ) h lk_X12_281 (m_recv hK hW (ci_10 (Nat.le_of_ble_eq_true rfl)) (rc_10 G) rfl) rfl hl.1 rfl ⟨Nat.le_of_ble_eq_true rfl, Nat.le_of_ble_eq_true rfl⟩ (Nat.le_of_ble_eq_true rfl) ⟨Nat.zero_le _, Nat.zero_le _⟩ dX12_serve_323) hS rfl rfl (fun Mm323 H locs h hW hS => ?_)
    refine lv_aload_n hx hb dX12_serve_326 rfl (lv_at hl 3 rfl) ?_
    refine lv_iload_n hx hb dX12_serve_327 rfl (lv_at hl 4 rfl) ?_
    refine lv_iconst hx hb dX12_serve_328 ki_3 ?_
    refine lv_iload hx hb dX12_serve_329 (lv_at hl 10 rfl) ?_
    refine m_cv0 (m_rV S hK hW (m_szH hbs hS) (c_X12_add l ) h lk_X12_281 (m_recv hK hW (ci_10 (Nat.le_of_ble_eq_true rfl)) (rc_10 G) rfl) rfl hl.1 rfl ⟨Nat.le_of_ble_eq_true rfl, Nat.le_of_ble_eq_true rfl⟩ (Nat.le_of_ble_eq_true rfl) ⟨Nat.zero_le _, Nat.zero_le _⟩ dX12_serve_331) hS rfl rfl (fun Mm331 H locs h hW hS => ?_)
    refine lv_aload_n hx hb dX12_serve_334 rfl (lv_at hl 3 rfl) ?_
    refine lv_iload_n hx hb dX12_serve_335 rfl (lv_at hl 4 rfl) ?_
    refine lv_iconst hx hb dX12_serve_336 ki_4 ?_
    refine lv_iload hx hb dX12_serve_337 (lv_at hl 11 rfl) ?_
    refine m_cv0 (m_rV S hK hW (m_szH hbs hS) (c_X12_add l ) h lk_X12_281 (m_recv hK hW (ci_10 (Nat.le_of_ble_eq_true rfl)) (rc_10 G) rfl) rfl hl.1 rfl ⟨Nat.le_of_ble_eq_true rfl, Nat.le_of_ble_eq_true rfl⟩ (Nat.le_of_ble_eq_true rfl) ⟨Nat.zero_le _, Nat.zero_le _⟩ dX12_serve_339) hS rfl rfl (fun Mm339 H locs h hW hS => ?_)
    refine lv_aload_n hx hb dX12_serve_342 rfl (lv_at hl 3 rfl) ?_
    refine lv_iload_n hx hb dX12_serve_343 rfl (lv_at hl 4 rfl) ?_
    refine lv_iconst hx hb dX12_serve_344 ki_5 ?_
    refine lv_iload hx hb dX12_serve_345 (lv_at hl 2 rfl) ?_
    refine m_cv0 (m_rV S hK hW (m_szH hbs hS) (c_X12_add l ) h lk_X12_281 (m_recv hK hW (ci_10 (Nat.le_of_ble_eq_true rfl)) (rc_10 G) rfl) rfl hl.1 rfl ⟨Nat.le_of_ble_eq_true rfl, Nat.le_of_ble_eq_true rfl⟩ (Nat.le_of_ble_eq_true rfl) ⟨Nat.zero_le _, Nat.zero_le _⟩ dX12_serve_347) hS rfl rfl (fun Mm347 H locs h hW hS => ?_)
    refine lv_aload_n hx hb dX12_serve_350 rfl (lv_at hl 3 rfl) ?_
    refine lv_iload_n hx hb dX12_serve_351 rfl (lv_at hl 4 rfl) ?_
    refine lv_bipush hx hb dX12_serve_352 kb_6 ?_
    refine lv_iload hx hb dX12_serve_354 (lv_at hl 1 rfl) ?_
    refine m_cv0 (m_rV S hK hW (m_szH hbs hS) (c_X12_add l ) h lk_X12_281 (m_recv hK hW (ci_10 (Nat.le_of_ble_eq_true rfl)) (rc_10 G) rfl) rfl hl.1 rfl ⟨Nat.le_of_ble_eq_true rfl, Nat.le_of_ble_eq_true rfl⟩ (Nat.le_of_ble_eq_true rfl) ⟨Nat.zero_le _, Nat.zero_le _⟩ dX12_serve_356) hS rfl rfl (fun Mm356 H locs h hW hS => ?_)
    refine lv_aload_n hx hb dX12_serve_359 rfl (lv_at hl 3 rfl) ?_
    refine lv_iload_n hx hb dX12_serve_360 rfl (lv_at hl 4 rfl) ?_
    refine lv_bipush hx hb dX12_serve_361 kb_7 ?_
    refine lv_iload hx hb dX12_serve_363 (lv_at hl 2 rfl) ?_
    refine lv_iload hx hb dX12_serve_365 (lv_at hl 0 rfl) ?_
    refine lv_isub hx hb dX12_serve_367 ?_
    refine m_cv0 (m_rV S hK hW (m_szH hbs hS) (c_X12_add l ) h lk_X12_281 (m_recv hK hW (ci_10 (Nat.le_of_ble_eq_true rfl)) (rc_10 G) rfl) rfl hl.1 rfl ⟨Nat.le_of_ble_eq_true rfl, Nat.le_of_ble_eq_true rfl⟩ (Nat.le_of_ble_eq_true rfl) ⟨Nat.zero_le _, Nat.zero_le _⟩ dX12_serve_368) hS rfl rfl (fun Mm368 H locs h hW hS => ?_)
    refine lv_aload_n hx hb dX12_serve_371 rfl (lv_at hl 3 rfl) ?_
    refine lv_iload_n hx hb dX12_serve_372 rfl (lv_at hl 4 rfl) ?_
    refine lv_bipush hx hb dX12_serve_373 kb_8 ?_
    refine lv_iload hx hb dX12_serve_375 (lv_at hl 0 rfl) ?_
    refine m_cv0 (m_rV S hK hW (m_szH hbs hS) (c_X12_add l ) h lk_X12_281 (m_recv hK hW (ci_10 (Nat.le_of_ble_eq_true rfl)) (rc_10 G) rfl) rfl hl.1 rfl ⟨Nat.le_of_ble_eq_true rfl, Nat.le_of_ble_eq_true rfl⟩ (Nat.le_of_ble_eq_true rfl) ⟨Nat.zero_le _, Nat.zero_le _⟩ dX12_serve_377) hS rfl rfl (fun Mm377 H locs h hW hS => ?_)
    refine lv_aload_n hx hb dX12_serve_380 rfl (lv_at hl 3 rfl) ?_
    refine lv_iload_n hx hb dX12_serve_381 rfl (lv_at hl 4 rfl) ?_
    refine lv_bipush hx hb dX12_serve_382 kb_9 ?_
    refine lv_iload hx hb dX12_serve_384 (lv_at hl 0 rfl) ?_
    refine lv_if_le (tgt := 405) hx hb dX12_serve_386 (by decide) (fun c386 => ?_) (fun c386 => ?_)
    · replace h := h.1 c386
      refine lv_iconst hx hb dX12_serve_405 ki_0 ?_
      exact b406 _ _ _ _ _ _ _ _ _ _ _ _ _ H locs ls hW hS (lv_sub hl [3, 4, 6, 7, 8, 9, 10, 11, 2, 1, 0] rfl) h
    · replace h := h.2 c386
      refine lv_aload_n hx hb dX12_serve_389 rfl (lv_at hl 3 rfl) ?_
      refine lv_iconst hx hb dX12_serve_390 ki_2 ?_
      refine lv_iload_n hx hb dX12_serve_391 rfl (lv_at hl 4 rfl) ?_
      refine lv_iconst hx hb dX12_serve_392 ki_0 ?_
      refine lv_iload_n hx hb dX12_serve_393 rfl (lv_at hl 5 rfl) ?_
      refine m_ci0 (m_rV S hK hW (m_szH hbs hS) (c_X12_holdsFor l ) h lk_X12_266 (m_recv hK hW (ci_10 (Nat.le_of_ble_eq_true rfl)) (rc_10 G) rfl) rfl hl.1 rfl ⟨Nat.le_of_ble_eq_true rfl, Nat.le_of_ble_eq_true rfl⟩ (Nat.le_of_ble_eq_true rfl) ⟨Nat.zero_le _, Nat.zero_le _⟩ dX12_serve_394) hS rfl rfl (fun rr394 Mm394 H locs h hW hS => ?_)
      refine lv_if_eq (tgt := 405) hx hb dX12_serve_397 (by decide) (fun c397 => ?_) (fun c397 => ?_)
      · replace h := h.1 c397
        refine lv_iconst hx hb dX12_serve_405 ki_0 ?_
        exact b406 _ _ _ _ _ _ _ _ _ _ _ _ _ H locs ls hW hS (lv_sub hl [3, 4, 6, 7, 8, 9, 10, 11, 2, 1, 0] rfl) h
      · replace h := h.2 c397
        refine lv_iload hx hb dX12_serve_400 (lv_at hl 0 rfl) ?_
        refine lv_goto (tgt := 406) hx hb dX12_serve_402 (by decide) ?_
        exact b406 _ _ _ _ _ _ _ _ _ _ _ _ _ H locs ls hW hS (lv_sub hl [3, 4, 6, 7, 8, 9, 10, 11, 2, 1, 0] rfl) h
  have b247 : ∀ (M : Mem) (x3 : Int32) (x4 : Int32) (x5 : Int32) (x6 : Int32) (x7 : Int32) (x8 : Int32) (y0 : Int32) (H : Heap) (locs : List Loc) (ls : Array Slot), WPm G M H → va_S (fun q => bs G ≤ q) s.heap H locs → lv_has ls 13 [(0, .ref (ad G 10 0)), (1, .int x1), (2, .int x2), (3, .int x3), (4, .int x4), (5, .int x5), (6, .int x6), (7, .int x7), (8, .int x8)] → s_X12_serve_247 x1 x2 P M x3 x4 x5 x6 x7 x8 y0 → W p l e rm_X12_serve s m AV below meth c H locs 0 0 (MQ below (va_Qv P (WS G) (fun q => bs G ≤ q)) AV s 0 0 (fun q => bs G ≤ q)) (F0 m 247 ls [.int y0]) := by
    intro M x3 x4 x5 x6 x7 x8 y0 H locs ls hW hS hl h
    unfold s_X12_serve_247 at h
    refine lv_istore (lv' := [(9, .int y0), (0, .ref (ad G 10 0)), (1, .int x1), (2, .int x2), (3, .int x3), (4, .int x4), (5, .int x5), (6, .int x6), (7, .int x7), (8, .int x8)]) hx hb dX12_serve_247 hl (by decide) rfl (fun ls hl => ?_)
    refine lv_iload hx hb dX12_serve_249 (lv_at hl 9 rfl) ?_
    refine lv_if_eq (tgt := 258) hx hb dX12_serve_251 (by decide) (fun c251 => ?_) (fun c251 => ?_)
    · replace h := h.1 c251
      refine lv_iload hx hb dX12_serve_258 (lv_at hl 7 rfl) ?_
      refine lv_iload hx hb dX12_serve_260 (lv_at hl 8 rfl) ?_
      refine lv_isub hx hb dX12_serve_262 ?_
      exact b263 _ _ _ _ _ _ _ _ H locs ls hW hS (lv_sub hl [1, 2, 3, 4, 5, 6, 7, 8, 0] rfl) h
    · replace h := h.2 c251
      refine lv_iconst hx hb dX12_serve_254 ki_0 ?_
      refine lv_goto (tgt := 263) hx hb dX12_serve_255 (by decide) ?_
      exact b263 _ _ _ _ _ _ _ _ H locs ls hW hS (lv_sub hl [1, 2, 3, 4, 5, 6, 7, 8, 0] rfl) h
  have b231 : ∀ (M : Mem) (x3 : Int32) (x4 : Int32) (x5 : Int32) (x6 : Int32) (x7 : Int32) (y0 : Int32) (H : Heap) (locs : List Loc) (ls : Array Slot), WPm G M H → va_S (fun q => bs G ≤ q) s.heap H locs → lv_has ls 13 [(0, .ref (ad G 10 0)), (1, .int x1), (2, .int x2), (3, .int x3), (4, .int x4), (5, .int x5), (6, .int x6), (7, .int x7)] → s_X12_serve_231 x1 x2 P M x3 x4 x5 x6 x7 y0 → W p l e rm_X12_serve s m AV below meth c H locs 0 0 (MQ below (va_Qv P (WS G) (fun q => bs G ≤ q)) AV s 0 0 (fun q => bs G ≤ q)) (F0 m 231 ls [.int y0]) := by
    intro M x3 x4 x5 x6 x7 y0 H locs ls hW hS hl h
    unfold s_X12_serve_231 at h
    refine lv_istore (lv' := [(8, .int y0), (0, .ref (ad G 10 0)), (1, .int x1), (2, .int x2), (3, .int x3), (4, .int x4), (5, .int x5), (6, .int x6), (7, .int x7)]) hx hb dX12_serve_231 hl (by decide) rfl (fun ls hl => ?_)
    refine lv_iload hx hb dX12_serve_233 (lv_at hl 0 rfl) ?_
    refine lv_if_eq (tgt := 246) hx hb dX12_serve_235 (by decide) (fun c235 => ?_) (fun c235 => ?_)
    · replace h := h.1 c235
      refine lv_iconst hx hb dX12_serve_246 ki_0 ?_
      exact b247 _ _ _ _ _ _ _ _ H locs ls hW hS (lv_sub hl [1, 2, 3, 4, 5, 6, 7, 8, 0] rfl) h
    · replace h := h.2 c235
      refine lv_iload hx hb dX12_serve_238 (lv_at hl 7 rfl) ?_
      refine lv_iload hx hb dX12_serve_240 (lv_at hl 8 rfl) ?_
      refine lv_isub hx hb dX12_serve_242 ?_
      refine lv_goto (tgt := 247) hx hb dX12_serve_243 (by decide) ?_
      exact b247 _ _ _ _ _ _ _ _ H locs ls hW hS (lv_sub hl [1, 2, 3, 4, 5, 6, 7, 8, 0] rfl) h
  have b173 : ∀ (M : Mem) (x3 : Int32) (x4 : Int32) (x5 : Int32) (x6 : Int32) (H : Heap) (locs : List Loc) (ls : Array Slot), WPm G M H → va_S (fun q => bs G ≤ q) s.heap H locs → lv_has ls 13 [(0, .ref (ad G 10 0)), (1, .int x1), (2, .int x2), (3, .int x3), (4, .int x4), (5, .int x5), (6, .int x6)] → s_X12_serve_173 x1 x2 P M x3 x4 x5 x6 → W p l e rm_X12_serve s m AV below meth c H locs 0 0 (MQ below (va_Qv P (WS G) (fun q => bs G ≤ q)) AV s 0 0 (fun q => bs G ≤ q)) (F0 m 173 ls []) := by
    intro M x3 x4 x5 x6 H locs ls hW hS hl h
    unfold s_X12_serve_173 at h
    refine lv_iload hx hb dX12_serve_173 (lv_at hl 6 rfl) ?_
    refine lv_aload_n hx hb dX12_serve_175 rfl (lv_at hl 0 rfl) ?_
    refine m_getr S hK fk_X12_7 (gr_10_1 G 0) hW (ci_10 (Nat.le_of_ble_eq_true rfl)) dX12_serve_176 ?_
    refine lv_bipush hx hb dX12_serve_179 kb_100 ?_
    refine lv_iload_n hx hb dX12_serve_181 rfl (lv_at hl 2 rfl) ?_
    refine m_ci0 (m_rS S hK hW (m_szH hbs hS) (c_X12_monthOf l ) h lk_X12_189 rfl hl.1 rfl ⟨Nat.le_of_ble_eq_true rfl, Nat.le_of_ble_eq_true rfl⟩ (Nat.le_of_ble_eq_true rfl) ⟨Nat.zero_le _, Nat.zero_le _⟩ dX12_serve_182) hS rfl rfl (fun rr182 Mm182 H locs h hW hS => ?_)
    refine lv_iadd hx hb dX12_serve_185 ?_
    obtain ⟨hb186, h⟩ := h
    refine m_ald S hK (ar_44 G) hW (ci_44 (Nat.le_of_ble_eq_true rfl)) hb186 dX12_serve_186 ?_
    refine lv_imul hx hb dX12_serve_187 ?_
    refine lv_bipush hx hb dX12_serve_188 kb_100 ?_
    refine lv_idiv hx hb dX12_serve_190 nz_100 ?_
    refine lv_topi (fun x7_191 ex7_191 => ?_)
    replace h := h x7_191 ex7_191
    refine lv_istore (lv' := [(7, .int x7_191), (0, .ref (ad G 10 0)), (1, .int x1), (2, .int x2), (3, .int x3), (4, .int x4), (5, .int x5), (6, .int x6)]) hx hb dX12_serve_191 hl (by decide) rfl (fun ls hl => ?_)
    refine lv_iload hx hb dX12_serve_193 (lv_at hl 7 rfl) ?_
    refine lv_if_le (tgt := 230) hx hb dX12_serve_195 (by decide) (fun c195 => ?_) (fun c195 => ?_)
    · replace h := h.1 c195
      refine lv_iconst hx hb dX12_serve_230 ki_0 ?_
      exact b231 _ _ _ _ _ _ _ H locs ls hW hS (lv_sub hl [1, 2, 3, 4, 5, 6, 7, 0] rfl) h
    · replace h := h.2 c195
      refine lv_aload_n hx hb dX12_serve_198 rfl (lv_at hl 1 rfl) ?_
      refine m_getr S hK fk_X12_7 (gr_10_1 G 0) hW (ci_10 (Nat.le_of_ble_eq_true rfl)) dX12_serve_199 ?_
      refine lv_bipush hx hb dX12_serve_202 kb_120 ?_
      refine lv_iload_n hx hb dX12_serve_204 rfl (lv_at hl 3 rfl) ?_
      refine m_ci0 (m_rS S hK hW (m_szH hbs hS) (c_X12_monthOf l ) h lk_X12_189 rfl hl.1 rfl ⟨Nat.le_of_ble_eq_true rfl, Nat.le_of_ble_eq_true rfl⟩ (Nat.le_of_ble_eq_true rfl) ⟨Nat.zero_le _, Nat.zero_le _⟩ dX12_serve_205) hS rfl rfl (fun rr205 Mm205 H locs h hW hS => ?_)
      refine lv_iadd hx hb dX12_serve_208 ?_
      obtain ⟨hb209, h⟩ := h
      refine m_ald S hK (ar_44 G) hW (ci_44 (Nat.le_of_ble_eq_true rfl)) hb209 dX12_serve_209 ?_
      refine lv_bipush hx hb dX12_serve_210 kb_20 ?_
      refine lv_icmp_lt (tgt := 230) hx hb dX12_serve_212 (by decide) (fun c212 => ?_) (fun c212 => ?_)
      · replace h := h.1 c212
        refine lv_iconst hx hb dX12_serve_230 ki_0 ?_
        exact b231 _ _ _ _ _ _ _ H locs ls hW hS (lv_sub hl [1, 2, 3, 4, 5, 6, 7, 0] rfl) h
      · replace h := h.2 c212
        refine lv_aload_n hx hb dX12_serve_215 rfl (lv_at hl 1 rfl) ?_
        refine lv_iconst hx hb dX12_serve_216 ki_1 ?_
        refine lv_iload_n hx hb dX12_serve_217 rfl (lv_at hl 2 rfl) ?_
        refine lv_iconst hx hb dX12_serve_218 ki_0 ?_
        refine lv_iload_n hx hb dX12_serve_219 rfl (lv_at hl 3 rfl) ?_
        refine m_ci0 (m_rV S hK hW (m_szH hbs hS) (c_X12_holdsFor l ) h lk_X12_266 (m_recv hK hW (ci_10 (Nat.le_of_ble_eq_true rfl)) (rc_10 G) rfl) rfl hl.1 rfl ⟨Nat.le_of_ble_eq_true rfl, Nat.le_of_ble_eq_true rfl⟩ (Nat.le_of_ble_eq_true rfl) ⟨Nat.zero_le _, Nat.zero_le _⟩ dX12_serve_220) hS rfl rfl (fun rr220 Mm220 H locs h hW hS => ?_)
        refine lv_if_eq (tgt := 230) hx hb dX12_serve_223 (by decide) (fun c223 => ?_) (fun c223 => ?_)
        · replace h := h.1 c223
          refine lv_iconst hx hb dX12_serve_230 ki_0 ?_
          exact b231 _ _ _ _ _ _ _ H locs ls hW hS (lv_sub hl [1, 2, 3, 4, 5, 6, 7, 0] rfl) h
        · replace h := h.2 c223
          refine lv_iconst hx hb dX12_serve_226 ki_1 ?_
          refine lv_goto (tgt := 231) hx hb dX12_serve_227 (by decide) ?_
          exact b231 _ _ _ _ _ _ _ H locs ls hW hS (lv_sub hl [1, 2, 3, 4, 5, 6, 7, 0] rfl) h
  have b135 : ∀ (M : Mem) (x3 : Int32) (x4 : Int32) (x5 : Int32) (y0 : Int32) (H : Heap) (locs : List Loc) (ls : Array Slot), WPm G M H → va_S (fun q => bs G ≤ q) s.heap H locs → lv_has ls 13 [(0, .ref (ad G 10 0)), (1, .int x1), (2, .int x2), (3, .int x3), (4, .int x4), (5, .int x5)] → s_X12_serve_135 x1 x2 P M x3 x4 x5 y0 → W p l e rm_X12_serve s m AV below meth c H locs 0 0 (MQ below (va_Qv P (WS G) (fun q => bs G ≤ q)) AV s 0 0 (fun q => bs G ≤ q)) (F0 m 135 ls [.int y0]) := by
    intro M x3 x4 x5 y0 H locs ls hW hS hl h
    unfold s_X12_serve_135 at h
    refine lv_istore (lv' := [(6, .int y0), (0, .ref (ad G 10 0)), (1, .int x1), (2, .int x2), (3, .int x3), (4, .int x4), (5, .int x5)]) hx hb dX12_serve_135 hl (by decide) rfl (fun ls hl => ?_)
    refine lv_aload_n hx hb dX12_serve_137 rfl (lv_at hl 1 rfl) ?_
    refine m_getr S hK fk_X12_87 (gr_10_38 G 0) hW (ci_10 (Nat.le_of_ble_eq_true rfl)) dX12_serve_138 ?_
    refine lv_iload_n hx hb dX12_serve_141 rfl (lv_at hl 4 rfl) ?_
    refine lv_dup2_11 hx hb dX12_serve_142 rfl rfl ?_
    obtain ⟨hb143, h⟩ := h
    refine m_ald S hK (ar_67 G) hW (ci_67 (Nat.le_of_ble_eq_true rfl)) hb143 dX12_serve_143 ?_
    refine lv_iload hx hb dX12_serve_144 (lv_at hl 0 rfl) ?_
    refine lv_isub hx hb dX12_serve_146 ?_
    obtain ⟨hb147, h⟩ := h
    refine m_ast S hK (ar_67 G) hW hS (ci_67 (Nat.le_of_ble_eq_true rfl)) hb147 dX12_serve_147 (fun Mm147 eMm147 H locs hW hS => ?_)
    replace h := h Mm147 eMm147
    refine lv_aload_n hx hb dX12_serve_148 rfl (lv_at hl 1 rfl) ?_
    refine m_getr S hK fk_X12_7 (gr_10_1 G 0) hW (ci_10 (Nat.le_of_ble_eq_true rfl)) dX12_serve_149 ?_
    refine lv_bipush hx hb dX12_serve_152 kb_70 ?_
    refine lv_iload_n hx hb dX12_serve_154 rfl (lv_at hl 4 rfl) ?_
    refine lv_iadd hx hb dX12_serve_155 ?_
    refine lv_dup2_11 hx hb dX12_serve_156 rfl rfl ?_
    obtain ⟨hb157, h⟩ := h
    refine m_ald S hK (ar_44 G) hW (ci_44 (Nat.le_of_ble_eq_true rfl)) hb157 dX12_serve_157 ?_
    refine lv_iload hx hb dX12_serve_158 (lv_at hl 0 rfl) ?_
    refine lv_isub hx hb dX12_serve_160 ?_
    obtain ⟨hb161, h⟩ := h
    refine m_ast S hK (ar_44 G) hW hS (ci_44 (Nat.le_of_ble_eq_true rfl)) hb161 dX12_serve_161 (fun Mm161 eMm161 H locs hW hS => ?_)
    replace h := h Mm161 eMm161
    refine lv_aload_n hx hb dX12_serve_162 rfl (lv_at hl 1 rfl) ?_
    refine lv_dup hx hb dX12_serve_163 rfl ?_
    refine m_geti S hK fk_X12_278 (gi_10_40 G) hW (ci_10 (Nat.le_of_ble_eq_true rfl)) dX12_serve_164 ?_
    refine lv_iload hx hb dX12_serve_167 (lv_at hl 0 rfl) ?_
    refine lv_isub hx hb dX12_serve_169 ?_
    refine m_put S hK fk_X12_278 tyX12_ok nmX12 rfl pf_X12_40 (pv_10_40 G) hW hS (ci_10 (Nat.le_of_ble_eq_true rfl)) rfl rfl dX12_serve_170 (fun Mm170 eMm170 H locs hW hS => ?_)
    replace h := h Mm170 eMm170
    exact b173 _ _ _ _ _ H locs ls hW hS (lv_sub hl [1, 2, 3, 4, 5, 6, 0] rfl) h
  have b115 : ∀ (M : Mem) (x3 : Int32) (x4 : Int32) (x5 : Int32) (y0 : Int32) (H : Heap) (locs : List Loc) (ls : Array Slot), WPm G M H → va_S (fun q => bs G ≤ q) s.heap H locs → lv_has ls 13 [(0, .ref (ad G 10 0)), (1, .int x1), (2, .int x2), (3, .int x3), (4, .int x4), (5, .int x5)] → s_X12_serve_115 x1 x2 P M x3 x4 x5 y0 → W p l e rm_X12_serve s m AV below meth c H locs 0 0 (MQ below (va_Qv P (WS G) (fun q => bs G ≤ q)) AV s 0 0 (fun q => bs G ≤ q)) (F0 m 115 ls [.int y0]) := by
    intro M x3 x4 x5 y0 H locs ls hW hS hl h
    unfold s_X12_serve_115 at h
    refine lv_istore (lv' := [(6, .int y0), (0, .ref (ad G 10 0)), (1, .int x1), (2, .int x2), (3, .int x3), (4, .int x4), (5, .int x5)]) hx hb dX12_serve_115 hl (by decide) rfl (fun ls hl => ?_)
    refine lv_aload_n hx hb dX12_serve_117 rfl (lv_at hl 1 rfl) ?_
    refine m_geti S hK fk_X12_278 (gi_10_40 G) hW (ci_10 (Nat.le_of_ble_eq_true rfl)) dX12_serve_118 ?_
    refine lv_iload hx hb dX12_serve_121 (lv_at hl 0 rfl) ?_
    refine lv_icmp_ge (tgt := 133) hx hb dX12_serve_123 (by decide) (fun c123 => ?_) (fun c123 => ?_)
    · replace h := h.1 c123
      refine lv_iload hx hb dX12_serve_133 (lv_at hl 0 rfl) ?_
      exact b135 _ _ _ _ _ H locs ls hW hS (lv_sub hl [1, 2, 3, 4, 5, 6] rfl) h
    · replace h := h.2 c123
      refine lv_aload_n hx hb dX12_serve_126 rfl (lv_at hl 1 rfl) ?_
      refine m_geti S hK fk_X12_278 (gi_10_40 G) hW (ci_10 (Nat.le_of_ble_eq_true rfl)) dX12_serve_127 ?_
      refine lv_goto (tgt := 135) hx hb dX12_serve_130 (by decide) ?_
      exact b135 _ _ _ _ _ H locs ls hW hS (lv_sub hl [1, 2, 3, 4, 5, 6] rfl) h
  have b85 : ∀ (M : Mem) (x3 : Int32) (x4 : Int32) (x5 : Int32) (y0 : Int32) (H : Heap) (locs : List Loc) (ls : Array Slot), WPm G M H → va_S (fun q => bs G ≤ q) s.heap H locs → lv_has ls 13 [(0, .ref (ad G 10 0)), (1, .int x1), (2, .int x2), (3, .int x3), (4, .int x4), (5, .int x5)] → s_X12_serve_85 x1 x2 P M x3 x4 x5 y0 → W p l e rm_X12_serve s m AV below meth c H locs 0 0 (MQ below (va_Qv P (WS G) (fun q => bs G ≤ q)) AV s 0 0 (fun q => bs G ≤ q)) (F0 m 85 ls [.int y0]) := by
    intro M x3 x4 x5 y0 H locs ls hW hS hl h
    unfold s_X12_serve_85 at h
    refine lv_istore (lv' := [(6, .int y0), (0, .ref (ad G 10 0)), (1, .int x1), (2, .int x2), (3, .int x3), (4, .int x4), (5, .int x5)]) hx hb dX12_serve_85 hl (by decide) rfl (fun ls hl => ?_)
    refine lv_aload_n hx hb dX12_serve_87 rfl (lv_at hl 1 rfl) ?_
    refine m_getr S hK fk_X12_7 (gr_10_1 G 0) hW (ci_10 (Nat.le_of_ble_eq_true rfl)) dX12_serve_88 ?_
    refine lv_bipush hx hb dX12_serve_91 kb_70 ?_
    refine lv_iload_n hx hb dX12_serve_93 rfl (lv_at hl 4 rfl) ?_
    refine lv_iadd hx hb dX12_serve_94 ?_
    obtain ⟨hb95, h⟩ := h
    refine m_ald S hK (ar_44 G) hW (ci_44 (Nat.le_of_ble_eq_true rfl)) hb95 dX12_serve_95 ?_
    refine lv_iload hx hb dX12_serve_96 (lv_at hl 0 rfl) ?_
    refine lv_icmp_ge (tgt := 113) hx hb dX12_serve_98 (by decide) (fun c98 => ?_) (fun c98 => ?_)
    · replace h := h.1 c98
      refine lv_iload hx hb dX12_serve_113 (lv_at hl 0 rfl) ?_
      exact b115 _ _ _ _ _ H locs ls hW hS (lv_sub hl [1, 2, 3, 4, 5, 6] rfl) h
    · replace h := h.2 c98
      refine lv_aload_n hx hb dX12_serve_101 rfl (lv_at hl 1 rfl) ?_
      refine m_getr S hK fk_X12_7 (gr_10_1 G 0) hW (ci_10 (Nat.le_of_ble_eq_true rfl)) dX12_serve_102 ?_
      refine lv_bipush hx hb dX12_serve_105 kb_70 ?_
      refine lv_iload_n hx hb dX12_serve_107 rfl (lv_at hl 4 rfl) ?_
      refine lv_iadd hx hb dX12_serve_108 ?_
      obtain ⟨hb109, h⟩ := h
      refine m_ald S hK (ar_44 G) hW (ci_44 (Nat.le_of_ble_eq_true rfl)) hb109 dX12_serve_109 ?_
      refine lv_goto (tgt := 115) hx hb dX12_serve_110 (by decide) ?_
      exact b115 _ _ _ _ _ H locs ls hW hS (lv_sub hl [1, 2, 3, 4, 5, 6] rfl) h
  have b57 : ∀ (M : Mem) (x3 : Int32) (x4 : Int32) (x5 : Int32) (y0 : Int32) (H : Heap) (locs : List Loc) (ls : Array Slot), WPm G M H → va_S (fun q => bs G ≤ q) s.heap H locs → lv_has ls 13 [(0, .ref (ad G 10 0)), (1, .int x1), (2, .int x2), (3, .int x3), (4, .int x4), (5, .int x5)] → s_X12_serve_57 x1 x2 P M x3 x4 x5 y0 → W p l e rm_X12_serve s m AV below meth c H locs 0 0 (MQ below (va_Qv P (WS G) (fun q => bs G ≤ q)) AV s 0 0 (fun q => bs G ≤ q)) (F0 m 57 ls [.int y0]) := by
    intro M x3 x4 x5 y0 H locs ls hW hS hl h
    unfold s_X12_serve_57 at h
    refine lv_istore (lv' := [(6, .int y0), (0, .ref (ad G 10 0)), (1, .int x1), (2, .int x2), (3, .int x3), (4, .int x4), (5, .int x5)]) hx hb dX12_serve_57 hl (by decide) rfl (fun ls hl => ?_)
    refine lv_iload_n hx hb dX12_serve_59 rfl (lv_at hl 4 rfl) ?_
    refine lv_if_lt (tgt := 173) hx hb dX12_serve_60 (by decide) (fun c60 => ?_) (fun c60 => ?_)
    · replace h := h.1 c60
      exact b173 _ _ _ _ _ H locs ls hW hS (lv_sub hl [1, 2, 3, 4, 5, 6, 0] rfl) h
    · replace h := h.2 c60
      refine lv_aload_n hx hb dX12_serve_63 rfl (lv_at hl 1 rfl) ?_
      refine m_getr S hK fk_X12_87 (gr_10_38 G 0) hW (ci_10 (Nat.le_of_ble_eq_true rfl)) dX12_serve_64 ?_
      refine lv_iload_n hx hb dX12_serve_67 rfl (lv_at hl 4 rfl) ?_
      obtain ⟨hb68, h⟩ := h
      refine m_ald S hK (ar_67 G) hW (ci_67 (Nat.le_of_ble_eq_true rfl)) hb68 dX12_serve_68 ?_
      refine lv_iload hx hb dX12_serve_69 (lv_at hl 0 rfl) ?_
      refine lv_icmp_ge (tgt := 83) hx hb dX12_serve_71 (by decide) (fun c71 => ?_) (fun c71 => ?_)
      · replace h := h.1 c71
        refine lv_iload hx hb dX12_serve_83 (lv_at hl 0 rfl) ?_
        exact b85 _ _ _ _ _ H locs ls hW hS (lv_sub hl [1, 2, 3, 4, 5, 6] rfl) h
      · replace h := h.2 c71
        refine lv_aload_n hx hb dX12_serve_74 rfl (lv_at hl 1 rfl) ?_
        refine m_getr S hK fk_X12_87 (gr_10_38 G 0) hW (ci_10 (Nat.le_of_ble_eq_true rfl)) dX12_serve_75 ?_
        refine lv_iload_n hx hb dX12_serve_78 rfl (lv_at hl 4 rfl) ?_
        obtain ⟨hb79, h⟩ := h
        refine m_ald S hK (ar_67 G) hW (ci_67 (Nat.le_of_ble_eq_true rfl)) hb79 dX12_serve_79 ?_
        refine lv_goto (tgt := 85) hx hb dX12_serve_80 (by decide) ?_
        exact b85 _ _ _ _ _ H locs ls hW hS (lv_sub hl [1, 2, 3, 4, 5, 6] rfl) h
  have b37 : ∀ (M : Mem) (x3 : Int32) (y0 : Int32) (H : Heap) (locs : List Loc) (ls : Array Slot), WPm G M H → va_S (fun q => bs G ≤ q) s.heap H locs → lv_has ls 13 [(0, .ref (ad G 10 0)), (1, .int x1), (2, .int x2), (3, .int x3)] → s_X12_serve_37 x1 x2 P M x3 y0 → W p l e rm_X12_serve s m AV below meth c H locs 0 0 (MQ below (va_Qv P (WS G) (fun q => bs G ≤ q)) AV s 0 0 (fun q => bs G ≤ q)) (F0 m 37 ls [.int y0]) := by
    intro M x3 y0 H locs ls hW hS hl h
    unfold s_X12_serve_37 at h
    refine lv_istore (lv' := [(4, .int y0), (0, .ref (ad G 10 0)), (1, .int x1), (2, .int x2), (3, .int x3)]) hx hb dX12_serve_37 hl (by decide) rfl (fun ls hl => ?_)
    refine lv_aload_n hx hb dX12_serve_39 rfl (lv_at hl 1 rfl) ?_
    refine lv_iload_n hx hb dX12_serve_40 rfl (lv_at hl 2 rfl) ?_
    refine lv_iload_n hx hb dX12_serve_41 rfl (lv_at hl 3 rfl) ?_
    refine m_ci0 (m_rV S hK hW (m_szH hbs hS) (c_X12_orderOf l ) h lk_X12_275 (m_recv hK hW (ci_10 (Nat.le_of_ble_eq_true rfl)) (rc_10 G) rfl) rfl hl.1 rfl ⟨Nat.le_of_ble_eq_true rfl, Nat.le_of_ble_eq_true rfl⟩ (Nat.le_of_ble_eq_true rfl) ⟨Nat.zero_le _, Nat.zero_le _⟩ dX12_serve_42) hS rfl rfl (fun rr42 Mm42 H locs h hW hS => ?_)
    refine lv_istore (lv' := [(5, .int rr42), (4, .int y0), (0, .ref (ad G 10 0)), (1, .int x1), (2, .int x2), (3, .int x3)]) hx hb dX12_serve_45 hl (by decide) rfl (fun ls hl => ?_)
    refine lv_iload_n hx hb dX12_serve_47 rfl (lv_at hl 5 rfl) ?_
    refine lv_if_ge (tgt := 55) hx hb dX12_serve_48 (by decide) (fun c48 => ?_) (fun c48 => ?_)
    · replace h := h.1 c48
      refine lv_iload hx hb dX12_serve_55 (lv_at hl 0 rfl) ?_
      exact b57 _ _ _ _ _ H locs ls hW hS (lv_sub hl [2, 3, 4, 5, 1, 0] rfl) h
    · replace h := h.2 c48
      refine lv_iconst hx hb dX12_serve_51 ki_0 ?_
      refine lv_goto (tgt := 57) hx hb dX12_serve_52 (by decide) ?_
      exact b57 _ _ _ _ _ H locs ls hW hS (lv_sub hl [2, 3, 4, 5, 1, 0] rfl) h
  unfold s_X12_serve at h
  refine lv_aload_n hx hb dX12_serve_0 rfl (lv_at hl 0 rfl) ?_
  refine lv_aload_n hx hb dX12_serve_1 rfl (lv_at hl 0 rfl) ?_
  refine m_getr S hK fk_X12_19 (gr_10_5 G 0) hW (ci_10 (Nat.le_of_ble_eq_true rfl)) dX12_serve_2 ?_
  refine lv_iload_n hx hb dX12_serve_5 rfl (lv_at hl 1 rfl) ?_
  obtain ⟨hb6, h⟩ := h
  refine m_ald S hK (ar_47 G) hW (ci_47 (Nat.le_of_ble_eq_true rfl)) hb6 dX12_serve_6 ?_
  refine m_ci0 (m_rV S hK hW (m_szH hbs hS) (c_X12_wonBy l ) h lk_X12_145 (m_recv hK hW (ci_10 (Nat.le_of_ble_eq_true rfl)) (rc_10 G) rfl) rfl hl.1 rfl ⟨Nat.le_of_ble_eq_true rfl, Nat.le_of_ble_eq_true rfl⟩ (Nat.le_of_ble_eq_true rfl) ⟨Nat.zero_le _, Nat.zero_le _⟩ dX12_serve_7) hS rfl rfl (fun rr7 Mm7 H locs h hW hS => ?_)
  refine lv_istore_n (lv' := [(3, .int rr7), (0, .ref (ad G 10 0)), (1, .int x1), (2, .int x2)]) hx hb dX12_serve_10 rfl hl (by decide) rfl (fun ls hl => ?_)
  refine lv_iload_n hx hb dX12_serve_11 rfl (lv_at hl 0 rfl) ?_
  refine lv_if_ge (tgt := 19) hx hb dX12_serve_12 (by decide) (fun c12 => ?_) (fun c12 => ?_)
  · replace h := h.1 c12
    refine lv_aload_n hx hb dX12_serve_19 rfl (lv_at hl 1 rfl) ?_
    refine m_getr S hK fk_X12_7 (gr_10_1 G 0) hW (ci_10 (Nat.le_of_ble_eq_true rfl)) dX12_serve_20 ?_
    refine lv_bipush hx hb dX12_serve_23 kb_80 ?_
    refine lv_iconst hx hb dX12_serve_25 ki_4 ?_
    refine lv_iload_n hx hb dX12_serve_26 rfl (lv_at hl 0 rfl) ?_
    refine lv_imul hx hb dX12_serve_27 ?_
    refine lv_iadd hx hb dX12_serve_28 ?_
    refine lv_aload_n hx hb dX12_serve_29 rfl (lv_at hl 1 rfl) ?_
    refine m_getr S hK fk_X12_19 (gr_10_5 G 0) hW (ci_10 (Nat.le_of_ble_eq_true rfl)) dX12_serve_30 ?_
    refine lv_iload_n hx hb dX12_serve_33 rfl (lv_at hl 2 rfl) ?_
    obtain ⟨hb34, h⟩ := h
    refine m_ald S hK (ar_47 G) hW (ci_47 (Nat.le_of_ble_eq_true rfl)) hb34 dX12_serve_34 ?_
    refine lv_iadd hx hb dX12_serve_35 ?_
    obtain ⟨hb36, h⟩ := h
    refine m_ald S hK (ar_44 G) hW (ci_44 (Nat.le_of_ble_eq_true rfl)) hb36 dX12_serve_36 ?_
    exact b37 _ _ _ H locs ls hW hS (lv_sub hl [1, 2, 3, 0] rfl) h
  · replace h := h.2 c12
    refine lv_iconst hx hb dX12_serve_15 ki_0 ?_
    refine lv_goto (tgt := 37) hx hb dX12_serve_16 (by decide) ?_
    exact b37 _ _ _ H locs ls hW hS (lv_sub hl [1, 2, 3, 0] rfl) h
def s_X12_pass_90 (P : Mem → Prop) (K90 : Mem × Int32 → Prop) (M : Mem) (x2 : Int32) : Prop :=
  ((M.1 44 0 1) ≤ x2 → ∀ Mm133 : Mem, Mm133 = wI M 44 0 3 ((M.1 44 0 3) + (1 : Int32)) → P Mm133) ∧ (¬ (M.1 44 0 1) ≤ x2 → vp_in ((70 : Int32) + x2) 320 ∧ (vp_in x2 5 ∧ (vp_in ((70 : Int32) + x2) 320 ∧ (∀ Mm117 : Mem, Mm117 = wI M 44 0 (((70 : Int32) + x2).toNatClampNeg) ((M.1 44 0 ((70 : Int32) + x2).toNatClampNeg) + (M.1 68 0 x2.toNatClampNeg)) → ∀ x2_118 : Int32, x2_118 = x2 + (1 : Int32) → K90 (Mm117, x2_118)))))
def s_X12_pass_88 (P : Mem → Prop) (M : Mem) : Prop :=
  ∃ n, Lz (fun (K90 : Mem × Int32 → Prop) (a : Mem × Int32) => s_X12_pass_90 P K90 a.1 a.2) n (M, (0 : Int32))
def s_X12_pass_58 (x1 : Int32) (P : Mem → Prop) (K58 : Mem × Int32 → Prop) (M : Mem) (x2 : Int32) : Prop :=
  ((M.1 44 0 0) ≤ x2 → s_X12_pass_88 P M) ∧ (¬ (M.1 44 0 0) ≤ x2 → ((5 : Int32) ≤ (x1 - x1 / (7 : Int32) * (7 : Int32)) → s_X12_pass_88 P M) ∧ (¬ (5 : Int32) ≤ (x1 - x1 / (7 : Int32) * (7 : Int32)) → s_X12_serve M x2 x1 (fun Mm79 => ∀ x2_82 : Int32, x2_82 = x2 + (1 : Int32) → K58 (Mm79, x2_82))))
def s_X12_pass_9 (x1 : Int32) (P : Mem → Prop) (K9 : Mem × Int32 → Prop) (M : Mem) (x2 : Int32) : Prop :=
  ((5 : Int32) ≤ x2 → s_X12_monthOf M x1 (fun rr48 Mm48 => vp_in ((140 : Int32) + rr48) 320 ∧ (∀ Mm53 : Mem, Mm53 = wI Mm48 10 0 40 (Mm48.1 44 0 ((140 : Int32) + rr48).toNatClampNeg) → ∃ n, Lz (fun (K58 : Mem × Int32 → Prop) (a : Mem × Int32) => s_X12_pass_58 x1 P K58 a.1 a.2) n (Mm53, (0 : Int32))))) ∧ (¬ (5 : Int32) ≤ x2 → vp_in x2 5 ∧ (vp_in x2 5 ∧ (∀ Mm25 : Mem, Mm25 = wI M 67 0 (x2.toNatClampNeg) (M.1 52 0 x2.toNatClampNeg) → vp_in x2 5 ∧ (∀ Mm32 : Mem, Mm32 = wI Mm25 68 0 (x2.toNatClampNeg) (0 : Int32) → ∀ x2_33 : Int32, x2_33 = x2 + (1 : Int32) → K9 (Mm32, x2_33)))))
def s_X12_pass (M : Mem) (P : Mem → Prop) : Prop :=
  ∀ x1_6 : Int32, x1_6 = (M.1 44 0 3) → ∃ n, Lz (fun (K9 : Mem × Int32 → Prop) (a : Mem × Int32) => s_X12_pass_9 x1_6 P K9 a.1 a.2) n (M, (0 : Int32))
abbrev rm_X12_pass : Room := { frames := 12, cells := 0, slots := 0, locals := 290 }
set_option maxHeartbeats 4000000 in
set_option maxRecDepth 100000 in
theorem c_X12_pass (l : Launch) {G : Gn} {M : Mem} {P : Mem → Prop} : MQv l yX12_pass cX12_pass 3 none rm_X12_pass [.ref (ad G 10 0)] G M (s_X12_pass M P) P := by
  refine m_enter (by decide +kernel) (Nat.le_of_ble_eq_true rfl) ?_
  intro p e s m below meth c ls H locs S hret hlocks hname hK hbs hW hS hl h
  obtain ⟨AV, hAV⟩ : ∃ z : Array Value, z = ([.ref (ad G 10 0)] : List Value).toArray := ⟨_, rfl⟩
  rw [← hAV] at S ⊢
  replace S : CallFix p m c cX12_pass 3 s AV lw_G "MilkDeskModel" := S
  have hx := S.1
  have hb := S.2.1
  have hml := S.2.2.1
  have hown := S.2.2.2.1
  have hts := S.2.2.2.2
  replace hl : lv_has ls 3 [(0, .ref (ad G 10 0))] := hl
  have w90 : ∀ (n : Nat) (a : Mem × Int32), Lz (fun (K90 : Mem × Int32 → Prop) (a : Mem × Int32) => s_X12_pass_90 P K90 a.1 a.2) n a → ∀ (H : Heap) (locs : List Loc) (ls : Array Slot), WPm G a.1 H → va_S (fun q => bs G ≤ q) s.heap H locs → lv_has ls 3 [(0, .ref (ad G 10 0)), (2, .int a.2)] → W p l e rm_X12_pass s m AV below meth c H locs 0 0 (MQ below (va_Qv P (WS G) (fun q => bs G ≤ q)) AV s 0 0 (fun q => bs G ≤ q)) (F0 m 90 ls []) := by
    refine Lz_walk ?_
    rintro K90 kk90 ⟨M, x2⟩ h H locs ls hW hS hl
    replace h : s_X12_pass_90 P K90 M x2 := h
    replace hW : WPm G M H := hW
    replace hl : lv_has ls 3 [(0, .ref (ad G 10 0)), (2, .int x2)] := hl
    unfold s_X12_pass_90 at h
    refine lv_iload_n hx hb dX12_pass_90 rfl (lv_at hl 1 rfl) ?_
    refine lv_aload_n hx hb dX12_pass_91 rfl (lv_at hl 0 rfl) ?_
    refine m_getr S hK fk_X12_7 (gr_10_1 G 0) hW (ci_10 (Nat.le_of_ble_eq_true rfl)) dX12_pass_92 ?_
    refine lv_iconst hx hb dX12_pass_95 ki_1 ?_
    refine m_aldk S hK (ar_44 G) hW (ci_44 (Nat.le_of_ble_eq_true rfl)) kn_1 (Nat.le_of_ble_eq_true rfl) dX12_pass_96 ?_
    refine lv_icmp_ge (tgt := 124) hx hb dX12_pass_97 (by decide) (fun c97 => ?_) (fun c97 => ?_)
    · replace h := h.1 c97
      refine lv_aload_n hx hb dX12_pass_124 rfl (lv_at hl 0 rfl) ?_
      refine m_getr S hK fk_X12_7 (gr_10_1 G 0) hW (ci_10 (Nat.le_of_ble_eq_true rfl)) dX12_pass_125 ?_
      refine lv_iconst hx hb dX12_pass_128 ki_3 ?_
      refine lv_dup2_11 hx hb dX12_pass_129 rfl rfl ?_
      refine m_aldk S hK (ar_44 G) hW (ci_44 (Nat.le_of_ble_eq_true rfl)) kn_3 (Nat.le_of_ble_eq_true rfl) dX12_pass_130 ?_
      refine lv_iconst hx hb dX12_pass_131 ki_1 ?_
      refine lv_iadd hx hb dX12_pass_132 ?_
      refine m_astk S hK (ar_44 G) hW hS (ci_44 (Nat.le_of_ble_eq_true rfl)) kn_3 (Nat.le_of_ble_eq_true rfl) dX12_pass_133 (fun Mm133 eMm133 H locs hW hS => ?_)
      replace h := h Mm133 eMm133
      exact m_vret S hret hlocks hK hW hbs hS h dX12_pass_134
    · replace h := h.2 c97
      refine lv_aload_n hx hb dX12_pass_100 rfl (lv_at hl 0 rfl) ?_
      refine m_getr S hK fk_X12_7 (gr_10_1 G 0) hW (ci_10 (Nat.le_of_ble_eq_true rfl)) dX12_pass_101 ?_
      refine lv_bipush hx hb dX12_pass_104 kb_70 ?_
      refine lv_iload_n hx hb dX12_pass_106 rfl (lv_at hl 1 rfl) ?_
      refine lv_iadd hx hb dX12_pass_107 ?_
      refine lv_dup2_11 hx hb dX12_pass_108 rfl rfl ?_
      obtain ⟨hb109, h⟩ := h
      refine m_ald S hK (ar_44 G) hW (ci_44 (Nat.le_of_ble_eq_true rfl)) hb109 dX12_pass_109 ?_
      refine lv_aload_n hx hb dX12_pass_110 rfl (lv_at hl 0 rfl) ?_
      refine m_getr S hK fk_X12_90 (gr_10_39 G 0) hW (ci_10 (Nat.le_of_ble_eq_true rfl)) dX12_pass_111 ?_
      refine lv_iload_n hx hb dX12_pass_114 rfl (lv_at hl 1 rfl) ?_
      obtain ⟨hb115, h⟩ := h
      refine m_ald S hK (ar_68 G) hW (ci_68 (Nat.le_of_ble_eq_true rfl)) hb115 dX12_pass_115 ?_
      refine lv_iadd hx hb dX12_pass_116 ?_
      obtain ⟨hb117, h⟩ := h
      refine m_ast S hK (ar_44 G) hW hS (ci_44 (Nat.le_of_ble_eq_true rfl)) hb117 dX12_pass_117 (fun Mm117 eMm117 H locs hW hS => ?_)
      replace h := h Mm117 eMm117
      obtain ⟨x2_118, ex2_118⟩ : ∃ z : Int32, z = x2 + (1 : Int32) := ⟨_, rfl⟩
      replace h := h x2_118 ex2_118
      refine lv_iinc (v := x2_118) (lv' := [(2, .int x2_118), (0, .ref (ad G 10 0))]) hx hb dX12_pass_118 hl (k := 1) rfl (by rw [ex2_118, ki_1]) (by decide) rfl (fun ls hl => ?_)
      refine lv_goto (tgt := 90) hx hb dX12_pass_121 (by decide) ?_
      exact kk90 _ h H locs ls hW hS (lv_sub hl [1, 0] rfl)
  have b88 : ∀ (M : Mem) (H : Heap) (locs : List Loc) (ls : Array Slot), WPm G M H → va_S (fun q => bs G ≤ q) s.heap H locs → lv_has ls 3 [(0, .ref (ad G 10 0))] → s_X12_pass_88 P M  → W p l e rm_X12_pass s m AV below meth c H locs 0 0 (MQ below (va_Qv P (WS G) (fun q => bs G ≤ q)) AV s 0 0 (fun q => bs G ≤ q)) (F0 m 88 ls []) := by
    intro M H locs ls hW hS hl h
    unfold s_X12_pass_88 at h
    refine lv_iconst hx hb dX12_pass_88 ki_0 ?_
    refine lv_istore_n (lv' := [(2, .int (0 : Int32)), (0, .ref (ad G 10 0))]) hx hb dX12_pass_89 rfl hl (by decide) rfl (fun ls hl => ?_)
    obtain ⟨n90, h⟩ := h
    exact w90 n90 _ h H locs ls hW hS (lv_sub hl [1, 0] rfl)
  have w58 : ∀ (x1 : Int32), ∀ (n : Nat) (a : Mem × Int32), Lz (fun (K58 : Mem × Int32 → Prop) (a : Mem × Int32) => s_X12_pass_58 x1 P K58 a.1 a.2) n a → ∀ (H : Heap) (locs : List Loc) (ls : Array Slot), WPm G a.1 H → va_S (fun q => bs G ≤ q) s.heap H locs → lv_has ls 3 [(0, .ref (ad G 10 0)), (1, .int x1), (2, .int a.2)] → W p l e rm_X12_pass s m AV below meth c H locs 0 0 (MQ below (va_Qv P (WS G) (fun q => bs G ≤ q)) AV s 0 0 (fun q => bs G ≤ q)) (F0 m 58 ls []) := by
    intro x1
    refine Lz_walk ?_
    rintro K58 kk58 ⟨M, x2⟩ h H locs ls hW hS hl
    replace h : s_X12_pass_58 x1 P K58 M x2 := h
    replace hW : WPm G M H := hW
    replace hl : lv_has ls 3 [(0, .ref (ad G 10 0)), (1, .int x1), (2, .int x2)] := hl
    unfold s_X12_pass_58 at h
    refine lv_iload_n hx hb dX12_pass_58 rfl (lv_at hl 2 rfl) ?_
    refine lv_aload_n hx hb dX12_pass_59 rfl (lv_at hl 0 rfl) ?_
    refine m_getr S hK fk_X12_7 (gr_10_1 G 0) hW (ci_10 (Nat.le_of_ble_eq_true rfl)) dX12_pass_60 ?_
    refine lv_iconst hx hb dX12_pass_63 ki_0 ?_
    refine m_aldk S hK (ar_44 G) hW (ci_44 (Nat.le_of_ble_eq_true rfl)) kn_0 (Nat.le_of_ble_eq_true rfl) dX12_pass_64 ?_
    refine lv_icmp_ge (tgt := 88) hx hb dX12_pass_65 (by decide) (fun c65 => ?_) (fun c65 => ?_)
    · replace h := h.1 c65
      exact b88 _ H locs ls hW hS (lv_sub hl [0] rfl) h
    · replace h := h.2 c65
      refine lv_iload_n hx hb dX12_pass_68 rfl (lv_at hl 1 rfl) ?_
      refine lv_bipush hx hb dX12_pass_69 kb_7 ?_
      refine lv_irem hx hb dX12_pass_71 nz_7 ?_
      refine lv_iconst hx hb dX12_pass_72 ki_5 ?_
      refine lv_icmp_ge (tgt := 88) hx hb dX12_pass_73 (by decide) (fun c73 => ?_) (fun c73 => ?_)
      · replace h := h.1 c73
        exact b88 _ H locs ls hW hS (lv_sub hl [0] rfl) h
      · replace h := h.2 c73
        refine lv_aload_n hx hb dX12_pass_76 rfl (lv_at hl 0 rfl) ?_
        refine lv_iload_n hx hb dX12_pass_77 rfl (lv_at hl 2 rfl) ?_
        refine lv_iload_n hx hb dX12_pass_78 rfl (lv_at hl 1 rfl) ?_
        refine m_cv0 (m_rV S hK hW (m_szH hbs hS) (c_X12_serve l ) h lk_X12_288 (m_recv hK hW (ci_10 (Nat.le_of_ble_eq_true rfl)) (rc_10 G) rfl) rfl hl.1 rfl ⟨Nat.le_of_ble_eq_true rfl, Nat.le_of_ble_eq_true rfl⟩ (Nat.le_of_ble_eq_true rfl) ⟨Nat.zero_le _, Nat.zero_le _⟩ dX12_pass_79) hS rfl rfl (fun Mm79 H locs h hW hS => ?_)
        obtain ⟨x2_82, ex2_82⟩ : ∃ z : Int32, z = x2 + (1 : Int32) := ⟨_, rfl⟩
        replace h := h x2_82 ex2_82
        refine lv_iinc (v := x2_82) (lv' := [(2, .int x2_82), (0, .ref (ad G 10 0)), (1, .int x1)]) hx hb dX12_pass_82 hl (k := 2) rfl (by rw [ex2_82, ki_1]) (by decide) rfl (fun ls hl => ?_)
        refine lv_goto (tgt := 58) hx hb dX12_pass_85 (by decide) ?_
        exact kk58 _ h H locs ls hW hS (lv_sub hl [1, 2, 0] rfl)
  have w9 : ∀ (x1 : Int32), ∀ (n : Nat) (a : Mem × Int32), Lz (fun (K9 : Mem × Int32 → Prop) (a : Mem × Int32) => s_X12_pass_9 x1 P K9 a.1 a.2) n a → ∀ (H : Heap) (locs : List Loc) (ls : Array Slot), WPm G a.1 H → va_S (fun q => bs G ≤ q) s.heap H locs → lv_has ls 3 [(0, .ref (ad G 10 0)), (1, .int x1), (2, .int a.2)] → W p l e rm_X12_pass s m AV below meth c H locs 0 0 (MQ below (va_Qv P (WS G) (fun q => bs G ≤ q)) AV s 0 0 (fun q => bs G ≤ q)) (F0 m 9 ls []) := by
    intro x1
    refine Lz_walk ?_
    rintro K9 kk9 ⟨M, x2⟩ h H locs ls hW hS hl
    replace h : s_X12_pass_9 x1 P K9 M x2 := h
    replace hW : WPm G M H := hW
    replace hl : lv_has ls 3 [(0, .ref (ad G 10 0)), (1, .int x1), (2, .int x2)] := hl
    unfold s_X12_pass_9 at h
    refine lv_iload_n hx hb dX12_pass_9 rfl (lv_at hl 2 rfl) ?_
    refine lv_iconst hx hb dX12_pass_10 ki_5 ?_
    refine lv_icmp_ge (tgt := 39) hx hb dX12_pass_11 (by decide) (fun c11 => ?_) (fun c11 => ?_)
    · replace h := h.1 c11
      refine lv_aload_n hx hb dX12_pass_39 rfl (lv_at hl 0 rfl) ?_
      refine lv_aload_n hx hb dX12_pass_40 rfl (lv_at hl 0 rfl) ?_
      refine m_getr S hK fk_X12_7 (gr_10_1 G 0) hW (ci_10 (Nat.le_of_ble_eq_true rfl)) dX12_pass_41 ?_
      refine lv_sipush hx hb dX12_pass_44 ks_140 ?_
      refine lv_iload_n hx hb dX12_pass_47 rfl (lv_at hl 1 rfl) ?_
      refine m_ci0 (m_rS S hK hW (m_szH hbs hS) (c_X12_monthOf l ) h lk_X12_189 rfl hl.1 rfl ⟨Nat.le_of_ble_eq_true rfl, Nat.le_of_ble_eq_true rfl⟩ (Nat.le_of_ble_eq_true rfl) ⟨Nat.zero_le _, Nat.zero_le _⟩ dX12_pass_48) hS rfl rfl (fun rr48 Mm48 H locs h hW hS => ?_)
      refine lv_iadd hx hb dX12_pass_51 ?_
      obtain ⟨hb52, h⟩ := h
      refine m_ald S hK (ar_44 G) hW (ci_44 (Nat.le_of_ble_eq_true rfl)) hb52 dX12_pass_52 ?_
      refine m_put S hK fk_X12_278 tyX12_ok nmX12 rfl pf_X12_40 (pv_10_40 G) hW hS (ci_10 (Nat.le_of_ble_eq_true rfl)) rfl rfl dX12_pass_53 (fun Mm53 eMm53 H locs hW hS => ?_)
      replace h := h Mm53 eMm53
      refine lv_iconst hx hb dX12_pass_56 ki_0 ?_
      refine lv_istore_n (lv' := [(2, .int (0 : Int32)), (0, .ref (ad G 10 0)), (1, .int x1)]) hx hb dX12_pass_57 rfl hl (by decide) rfl (fun ls hl => ?_)
      obtain ⟨n58, h⟩ := h
      exact w58 _ n58 _ h H locs ls hW hS (lv_sub hl [1, 2, 0] rfl)
    · replace h := h.2 c11
      refine lv_aload_n hx hb dX12_pass_14 rfl (lv_at hl 0 rfl) ?_
      refine m_getr S hK fk_X12_87 (gr_10_38 G 0) hW (ci_10 (Nat.le_of_ble_eq_true rfl)) dX12_pass_15 ?_
      refine lv_iload_n hx hb dX12_pass_18 rfl (lv_at hl 2 rfl) ?_
      refine lv_aload_n hx hb dX12_pass_19 rfl (lv_at hl 0 rfl) ?_
      refine m_getr S hK fk_X12_34 (gr_10_10 G 0) hW (ci_10 (Nat.le_of_ble_eq_true rfl)) dX12_pass_20 ?_
      refine lv_iload_n hx hb dX12_pass_23 rfl (lv_at hl 2 rfl) ?_
      obtain ⟨hb24, h⟩ := h
      refine m_ald S hK (ar_52 G) hW (ci_52 (Nat.le_of_ble_eq_true rfl)) hb24 dX12_pass_24 ?_
      obtain ⟨hb25, h⟩ := h
      refine m_ast S hK (ar_67 G) hW hS (ci_67 (Nat.le_of_ble_eq_true rfl)) hb25 dX12_pass_25 (fun Mm25 eMm25 H locs hW hS => ?_)
      replace h := h Mm25 eMm25
      refine lv_aload_n hx hb dX12_pass_26 rfl (lv_at hl 0 rfl) ?_
      refine m_getr S hK fk_X12_90 (gr_10_39 G 0) hW (ci_10 (Nat.le_of_ble_eq_true rfl)) dX12_pass_27 ?_
      refine lv_iload_n hx hb dX12_pass_30 rfl (lv_at hl 2 rfl) ?_
      refine lv_iconst hx hb dX12_pass_31 ki_0 ?_
      obtain ⟨hb32, h⟩ := h
      refine m_ast S hK (ar_68 G) hW hS (ci_68 (Nat.le_of_ble_eq_true rfl)) hb32 dX12_pass_32 (fun Mm32 eMm32 H locs hW hS => ?_)
      replace h := h Mm32 eMm32
      obtain ⟨x2_33, ex2_33⟩ : ∃ z : Int32, z = x2 + (1 : Int32) := ⟨_, rfl⟩
      replace h := h x2_33 ex2_33
      refine lv_iinc (v := x2_33) (lv' := [(2, .int x2_33), (0, .ref (ad G 10 0)), (1, .int x1)]) hx hb dX12_pass_33 hl (k := 2) rfl (by rw [ex2_33, ki_1]) (by decide) rfl (fun ls hl => ?_)
      refine lv_goto (tgt := 9) hx hb dX12_pass_36 (by decide) ?_
      exact kk9 _ h H locs ls hW hS (lv_sub hl [1, 2, 0] rfl)
  unfold s_X12_pass at h
  refine lv_aload_n hx hb dX12_pass_0 rfl (lv_at hl 0 rfl) ?_
  refine m_getr S hK fk_X12_7 (gr_10_1 G 0) hW (ci_10 (Nat.le_of_ble_eq_true rfl)) dX12_pass_1 ?_
  refine lv_iconst hx hb dX12_pass_4 ki_3 ?_
  refine m_aldk S hK (ar_44 G) hW (ci_44 (Nat.le_of_ble_eq_true rfl)) kn_3 (Nat.le_of_ble_eq_true rfl) dX12_pass_5 ?_
  refine lv_topi (fun x1_6 ex1_6 => ?_)
  replace h := h x1_6 ex1_6
  refine lv_istore_n (lv' := [(1, .int x1_6), (0, .ref (ad G 10 0))]) hx hb dX12_pass_6 rfl hl (by decide) rfl (fun ls hl => ?_)
  refine lv_iconst hx hb dX12_pass_7 ki_0 ?_
  refine lv_istore_n (lv' := [(2, .int (0 : Int32)), (1, .int x1_6), (0, .ref (ad G 10 0))]) hx hb dX12_pass_8 rfl hl (by decide) rfl (fun ls hl => ?_)
  obtain ⟨n9, h⟩ := h
  exact w9 _ n9 _ h H locs ls hW hS (lv_sub hl [2, 1, 0] rfl)
def s_X12_wrongDays (M : Mem) (x1 : Int32) (x2 : Int32) (P : Int32 → Mem → Prop) : Prop :=
  s_X12_in M x1 (1 : Int32) x2 (fun rr3 Mm3 => (¬ rr3 = 0 → (((Mm3.1 44 0 3) + x1) ≤ (400 : Int32) → P (0 : Int32) Mm3) ∧ (¬ ((Mm3.1 44 0 3) + x1) ≤ (400 : Int32) → P (-2 : Int32) Mm3)) ∧ (rr3 = 0 → P (-1 : Int32) Mm3))
abbrev rm_X12_wrongDays : Room := { frames := 1, cells := 0, slots := 0, locals := 22 }
set_option maxHeartbeats 4000000 in
set_option maxRecDepth 100000 in
theorem c_X12_wrongDays (l : Launch) {G : Gn} {M : Mem} {x1 : Int32} {x2 : Int32} {P : Int32 → Mem → Prop} : MQi l yX12_wrongDays cX12_wrongDays 3 (some .int) rm_X12_wrongDays [.ref (ad G 10 0), .int x1, .int x2] G M (s_X12_wrongDays M x1 x2 P) P := by
  refine m_enter (by decide +kernel) (Nat.le_of_ble_eq_true rfl) ?_
  intro p e s m below meth c ls H locs S hret hlocks hname hK hbs hW hS hl h
  obtain ⟨AV, hAV⟩ : ∃ z : Array Value, z = ([.ref (ad G 10 0), .int x1, .int x2] : List Value).toArray := ⟨_, rfl⟩
  rw [← hAV] at S ⊢
  replace S : CallFix p m c cX12_wrongDays 3 s AV lw_G "MilkDeskModel" := S
  have hx := S.1
  have hb := S.2.1
  have hml := S.2.2.1
  have hown := S.2.2.2.1
  have hts := S.2.2.2.2
  replace hl : lv_has ls 3 [(0, .ref (ad G 10 0)), (1, .int x1), (2, .int x2)] := hl
  unfold s_X12_wrongDays at h
  refine lv_iload_n hx hb dX12_wrongDays_0 rfl (lv_at hl 1 rfl) ?_
  refine lv_iconst hx hb dX12_wrongDays_1 ki_1 ?_
  refine lv_iload_n hx hb dX12_wrongDays_2 rfl (lv_at hl 2 rfl) ?_
  refine m_ci0 (m_rS S hK hW (m_szH hbs hS) (c_X12_in l ) h lk_X12_131 rfl hl.1 rfl ⟨Nat.le_of_ble_eq_true rfl, Nat.le_of_ble_eq_true rfl⟩ (Nat.le_of_ble_eq_true rfl) ⟨Nat.zero_le _, Nat.zero_le _⟩ dX12_wrongDays_3) hS rfl rfl (fun rr3 Mm3 H locs h hW hS => ?_)
  refine lv_if_ne (tgt := 13) hx hb dX12_wrongDays_6 (by decide) (fun c6 => ?_) (fun c6 => ?_)
  · replace h := h.1 c6
    refine lv_aload_n hx hb dX12_wrongDays_13 rfl (lv_at hl 0 rfl) ?_
    refine m_getr S hK fk_X12_7 (gr_10_1 G 0) hW (ci_10 (Nat.le_of_ble_eq_true rfl)) dX12_wrongDays_14 ?_
    refine lv_iconst hx hb dX12_wrongDays_17 ki_3 ?_
    refine m_aldk S hK (ar_44 G) hW (ci_44 (Nat.le_of_ble_eq_true rfl)) kn_3 (Nat.le_of_ble_eq_true rfl) dX12_wrongDays_18 ?_
    refine lv_iload_n hx hb dX12_wrongDays_19 rfl (lv_at hl 1 rfl) ?_
    refine lv_iadd hx hb dX12_wrongDays_20 ?_
    refine lv_sipush hx hb dX12_wrongDays_21 ks_400 ?_
    refine lv_icmp_le (tgt := 32) hx hb dX12_wrongDays_24 (by decide) (fun c24 => ?_) (fun c24 => ?_)
    · replace h := h.1 c24
      refine lv_iconst hx hb dX12_wrongDays_32 ki_0 ?_
      exact m_iret S hret hlocks hK hW hbs hS rfl h dX12_wrongDays_33
    · replace h := h.2 c24
      refine lv_bipush hx hb dX12_wrongDays_27 kb_m2 ?_
      refine lv_goto (tgt := 33) hx hb dX12_wrongDays_29 (by decide) ?_
      exact m_iret S hret hlocks hK hW hbs hS rfl h dX12_wrongDays_33
  · replace h := h.2 c6
    refine lv_iconst hx hb dX12_wrongDays_9 ki_m1 ?_
    refine lv_goto (tgt := 33) hx hb dX12_wrongDays_10 (by decide) ?_
    exact m_iret S hret hlocks hK hW hbs hS rfl h dX12_wrongDays_33
def s_X12_go_34 (P : Int32 → Mem → Prop) (M : Mem) (x2 : Int32) : Prop :=
  (0 ≤ x2 → P (M.1 44 0 3) M) ∧ (¬ 0 ≤ x2 → P x2 M)
def s_X12_go_15 (x1 : Int32) (x2 : Int32) (P : Int32 → Mem → Prop) (K15 : Mem × Int32 → Prop) (M : Mem) (x3 : Int32) : Prop :=
  (x1 ≤ x3 → s_X12_go_34 P M x2) ∧ (¬ x1 ≤ x3 → (¬ x2 = 0 → s_X12_go_34 P M x2) ∧ (x2 = 0 → s_X12_pass M (fun Mm25 => ∀ x3_28 : Int32, x3_28 = x3 + (1 : Int32) → K15 (Mm25, x3_28))))
def s_X12_go (M : Mem) (x1 : Int32) (P : Int32 → Mem → Prop) : Prop :=
  ∀ Mm2 : Mem, Mm2 = wI M 10 0 0 (0 : Int32) → s_X12_wrongDays Mm2 x1 (60 : Int32) (fun rr9 Mm9 => ∃ n, Lz (fun (K15 : Mem × Int32 → Prop) (a : Mem × Int32) => s_X12_go_15 x1 rr9 P K15 a.1 a.2) n (Mm9, (0 : Int32)))
abbrev rm_X12_go : Room := { frames := 13, cells := 0, slots := 0, locals := 312 }
set_option maxHeartbeats 4000000 in
set_option maxRecDepth 100000 in
theorem c_X12_go (l : Launch) {G : Gn} {M : Mem} {x1 : Int32} {P : Int32 → Mem → Prop} : MQi l yX12_go cX12_go 4 (some .int) rm_X12_go [.ref (ad G 10 0), .int x1] G M (s_X12_go M x1 P) P := by
  refine m_enter (by decide +kernel) (Nat.le_of_ble_eq_true rfl) ?_
  intro p e s m below meth c ls H locs S hret hlocks hname hK hbs hW hS hl h
  obtain ⟨AV, hAV⟩ : ∃ z : Array Value, z = ([.ref (ad G 10 0), .int x1] : List Value).toArray := ⟨_, rfl⟩
  rw [← hAV] at S ⊢
  replace S : CallFix p m c cX12_go 4 s AV lw_G "MilkDeskModel" := S
  have hx := S.1
  have hb := S.2.1
  have hml := S.2.2.1
  have hown := S.2.2.2.1
  have hts := S.2.2.2.2
  replace hl : lv_has ls 4 [(0, .ref (ad G 10 0)), (1, .int x1)] := hl
  have b34 : ∀ (M : Mem) (x2 : Int32) (H : Heap) (locs : List Loc) (ls : Array Slot), WPm G M H → va_S (fun q => bs G ≤ q) s.heap H locs → lv_has ls 4 [(0, .ref (ad G 10 0)), (2, .int x2)] → s_X12_go_34 P M x2 → W p l e rm_X12_go s m AV below meth c H locs 0 0 (MQ below (va_Qi P (WS G) (fun q => bs G ≤ q)) AV s 0 0 (fun q => bs G ≤ q)) (F0 m 34 ls []) := by
    intro M x2 H locs ls hW hS hl h
    unfold s_X12_go_34 at h
    refine lv_iload_n hx hb dX12_go_34 rfl (lv_at hl 1 rfl) ?_
    refine lv_if_ge (tgt := 42) hx hb dX12_go_35 (by decide) (fun c35 => ?_) (fun c35 => ?_)
    · replace h := h.1 c35
      refine lv_aload_n hx hb dX12_go_42 rfl (lv_at hl 0 rfl) ?_
      refine m_getr S hK fk_X12_7 (gr_10_1 G 0) hW (ci_10 (Nat.le_of_ble_eq_true rfl)) dX12_go_43 ?_
      refine lv_iconst hx hb dX12_go_46 ki_3 ?_
      refine m_aldk S hK (ar_44 G) hW (ci_44 (Nat.le_of_ble_eq_true rfl)) kn_3 (Nat.le_of_ble_eq_true rfl) dX12_go_47 ?_
      exact m_iret S hret hlocks hK hW hbs hS rfl h dX12_go_48
    · replace h := h.2 c35
      refine lv_iload_n hx hb dX12_go_38 rfl (lv_at hl 1 rfl) ?_
      refine lv_goto (tgt := 48) hx hb dX12_go_39 (by decide) ?_
      exact m_iret S hret hlocks hK hW hbs hS rfl h dX12_go_48
  have w15 : ∀ (x2 : Int32), ∀ (n : Nat) (a : Mem × Int32), Lz (fun (K15 : Mem × Int32 → Prop) (a : Mem × Int32) => s_X12_go_15 x1 x2 P K15 a.1 a.2) n a → ∀ (H : Heap) (locs : List Loc) (ls : Array Slot), WPm G a.1 H → va_S (fun q => bs G ≤ q) s.heap H locs → lv_has ls 4 [(0, .ref (ad G 10 0)), (1, .int x1), (2, .int x2), (3, .int a.2)] → W p l e rm_X12_go s m AV below meth c H locs 0 0 (MQ below (va_Qi P (WS G) (fun q => bs G ≤ q)) AV s 0 0 (fun q => bs G ≤ q)) (F0 m 15 ls []) := by
    intro x2
    refine Lz_walk ?_
    rintro K15 kk15 ⟨M, x3⟩ h H locs ls hW hS hl
    replace h : s_X12_go_15 x1 x2 P K15 M x3 := h
    replace hW : WPm G M H := hW
    replace hl : lv_has ls 4 [(0, .ref (ad G 10 0)), (1, .int x1), (2, .int x2), (3, .int x3)] := hl
    unfold s_X12_go_15 at h
    refine lv_iload_n hx hb dX12_go_15 rfl (lv_at hl 3 rfl) ?_
    refine lv_iload_n hx hb dX12_go_16 rfl (lv_at hl 1 rfl) ?_
    refine lv_icmp_ge (tgt := 34) hx hb dX12_go_17 (by decide) (fun c17 => ?_) (fun c17 => ?_)
    · replace h := h.1 c17
      exact b34 _ _ H locs ls hW hS (lv_sub hl [0, 2] rfl) h
    · replace h := h.2 c17
      refine lv_iload_n hx hb dX12_go_20 rfl (lv_at hl 2 rfl) ?_
      refine lv_if_ne (tgt := 34) hx hb dX12_go_21 (by decide) (fun c21 => ?_) (fun c21 => ?_)
      · replace h := h.1 c21
        exact b34 _ _ H locs ls hW hS (lv_sub hl [0, 2] rfl) h
      · replace h := h.2 c21
        refine lv_aload_n hx hb dX12_go_24 rfl (lv_at hl 0 rfl) ?_
        refine m_cv0 (m_rV S hK hW (m_szH hbs hS) (c_X12_pass l ) h lk_X12_295 (m_recv hK hW (ci_10 (Nat.le_of_ble_eq_true rfl)) (rc_10 G) rfl) rfl hl.1 rfl ⟨Nat.le_of_ble_eq_true rfl, Nat.le_of_ble_eq_true rfl⟩ (Nat.le_of_ble_eq_true rfl) ⟨Nat.zero_le _, Nat.zero_le _⟩ dX12_go_25) hS rfl rfl (fun Mm25 H locs h hW hS => ?_)
        obtain ⟨x3_28, ex3_28⟩ : ∃ z : Int32, z = x3 + (1 : Int32) := ⟨_, rfl⟩
        replace h := h x3_28 ex3_28
        refine lv_iinc (v := x3_28) (lv' := [(3, .int x3_28), (0, .ref (ad G 10 0)), (1, .int x1), (2, .int x2)]) hx hb dX12_go_28 hl (k := 3) rfl (by rw [ex3_28, ki_1]) (by decide) rfl (fun ls hl => ?_)
        refine lv_goto (tgt := 15) hx hb dX12_go_31 (by decide) ?_
        exact kk15 _ h H locs ls hW hS (lv_sub hl [1, 2, 3, 0] rfl)
  unfold s_X12_go at h
  refine lv_aload_n hx hb dX12_go_0 rfl (lv_at hl 0 rfl) ?_
  refine lv_iconst hx hb dX12_go_1 ki_0 ?_
  refine m_put S hK fk_X12_128 tyX12_ok nmX12 rfl pf_X12_0 (pv_10_0 G) hW hS (ci_10 (Nat.le_of_ble_eq_true rfl)) rfl rfl dX12_go_2 (fun Mm2 eMm2 H locs hW hS => ?_)
  replace h := h Mm2 eMm2
  refine lv_aload_n hx hb dX12_go_5 rfl (lv_at hl 0 rfl) ?_
  refine lv_iload_n hx hb dX12_go_6 rfl (lv_at hl 1 rfl) ?_
  refine lv_bipush hx hb dX12_go_7 kb_60 ?_
  refine m_ci0 (m_rV S hK hW (m_szH hbs hS) (c_X12_wrongDays l ) h lk_X12_292 (m_recv hK hW (ci_10 (Nat.le_of_ble_eq_true rfl)) (rc_10 G) rfl) rfl hl.1 rfl ⟨Nat.le_of_ble_eq_true rfl, Nat.le_of_ble_eq_true rfl⟩ (Nat.le_of_ble_eq_true rfl) ⟨Nat.zero_le _, Nat.zero_le _⟩ dX12_go_9) hS rfl rfl (fun rr9 Mm9 H locs h hW hS => ?_)
  refine lv_istore_n (lv' := [(2, .int rr9), (0, .ref (ad G 10 0)), (1, .int x1)]) hx hb dX12_go_12 rfl hl (by decide) rfl (fun ls hl => ?_)
  refine lv_iconst hx hb dX12_go_13 ki_0 ?_
  refine lv_istore_n (lv' := [(3, .int (0 : Int32)), (2, .int rr9), (0, .ref (ad G 10 0)), (1, .int x1)]) hx hb dX12_go_14 rfl hl (by decide) rfl (fun ls hl => ?_)
  obtain ⟨n15, h⟩ := h
  exact w15 _ n15 _ h H locs ls hW hS (lv_sub hl [2, 3, 1, 0] rfl)
def s_X12_of (M : Mem) (x1 : Int32) (x2 : Int32) (P : Int32 → Mem → Prop) : Prop :=
  ∀ Mm2 : Mem, Mm2 = wI M 10 0 0 (0 : Int32) → s_X12_isSchool Mm2 x1 (fun rr7 Mm7 => (rr7 = 0 → P (-1 : Int32) Mm7) ∧ (¬ rr7 = 0 → s_X12_in Mm7 x2 (0 : Int32) (10 : Int32) (fun rr17 Mm17 => (rr17 = 0 → P (-1 : Int32) Mm17) ∧ (¬ rr17 = 0 → vp_in (((180 : Int32) + ((11 : Int32) * x1)) + x2) 320 ∧ (P (Mm17.1 44 0 (((180 : Int32) + ((11 : Int32) * x1)) + x2).toNatClampNeg) Mm17)))))
abbrev rm_X12_of : Room := { frames := 2, cells := 0, slots := 0, locals := 43 }
set_option maxHeartbeats 4000000 in
set_option maxRecDepth 100000 in
theorem c_X12_of (l : Launch) {G : Gn} {M : Mem} {x1 : Int32} {x2 : Int32} {P : Int32 → Mem → Prop} : MQi l yX12_of cX12_of 3 (some .int) rm_X12_of [.ref (ad G 10 0), .int x1, .int x2] G M (s_X12_of M x1 x2 P) P := by
  refine m_enter (by decide +kernel) (Nat.le_of_ble_eq_true rfl) ?_
  intro p e s m below meth c ls H locs S hret hlocks hname hK hbs hW hS hl h
  obtain ⟨AV, hAV⟩ : ∃ z : Array Value, z = ([.ref (ad G 10 0), .int x1, .int x2] : List Value).toArray := ⟨_, rfl⟩
  rw [← hAV] at S ⊢
  replace S : CallFix p m c cX12_of 3 s AV lw_G "MilkDeskModel" := S
  have hx := S.1
  have hb := S.2.1
  have hml := S.2.2.1
  have hown := S.2.2.2.1
  have hts := S.2.2.2.2
  replace hl : lv_has ls 3 [(0, .ref (ad G 10 0)), (1, .int x1), (2, .int x2)] := hl
  unfold s_X12_of at h
  refine lv_aload_n hx hb dX12_of_0 rfl (lv_at hl 0 rfl) ?_
  refine lv_iconst hx hb dX12_of_1 ki_0 ?_
  refine m_put S hK fk_X12_128 tyX12_ok nmX12 rfl pf_X12_0 (pv_10_0 G) hW hS (ci_10 (Nat.le_of_ble_eq_true rfl)) rfl rfl dX12_of_2 (fun Mm2 eMm2 H locs hW hS => ?_)
  replace h := h Mm2 eMm2
  refine lv_aload_n hx hb dX12_of_5 rfl (lv_at hl 0 rfl) ?_
  refine lv_iload_n hx hb dX12_of_6 rfl (lv_at hl 1 rfl) ?_
  refine m_ci0 (m_rV S hK hW (m_szH hbs hS) (c_X12_isSchool l ) h lk_X12_139 (m_recv hK hW (ci_10 (Nat.le_of_ble_eq_true rfl)) (rc_10 G) rfl) rfl hl.1 rfl ⟨Nat.le_of_ble_eq_true rfl, Nat.le_of_ble_eq_true rfl⟩ (Nat.le_of_ble_eq_true rfl) ⟨Nat.zero_le _, Nat.zero_le _⟩ dX12_of_7) hS rfl rfl (fun rr7 Mm7 H locs h hW hS => ?_)
  refine lv_if_eq (tgt := 41) hx hb dX12_of_10 (by decide) (fun c10 => ?_) (fun c10 => ?_)
  · replace h := h.1 c10
    refine lv_iconst hx hb dX12_of_41 ki_m1 ?_
    exact m_iret S hret hlocks hK hW hbs hS rfl h dX12_of_42
  · replace h := h.2 c10
    refine lv_iload_n hx hb dX12_of_13 rfl (lv_at hl 2 rfl) ?_
    refine lv_iconst hx hb dX12_of_14 ki_0 ?_
    refine lv_bipush hx hb dX12_of_15 kb_10 ?_
    refine m_ci0 (m_rS S hK hW (m_szH hbs hS) (c_X12_in l ) h lk_X12_131 rfl hl.1 rfl ⟨Nat.le_of_ble_eq_true rfl, Nat.le_of_ble_eq_true rfl⟩ (Nat.le_of_ble_eq_true rfl) ⟨Nat.zero_le _, Nat.zero_le _⟩ dX12_of_17) hS rfl rfl (fun rr17 Mm17 H locs h hW hS => ?_)
    refine lv_if_eq (tgt := 41) hx hb dX12_of_20 (by decide) (fun c20 => ?_) (fun c20 => ?_)
    · replace h := h.1 c20
      refine lv_iconst hx hb dX12_of_41 ki_m1 ?_
      exact m_iret S hret hlocks hK hW hbs hS rfl h dX12_of_42
    · replace h := h.2 c20
      refine lv_aload_n hx hb dX12_of_23 rfl (lv_at hl 0 rfl) ?_
      refine m_getr S hK fk_X12_7 (gr_10_1 G 0) hW (ci_10 (Nat.le_of_ble_eq_true rfl)) dX12_of_24 ?_
      refine lv_sipush hx hb dX12_of_27 ks_180 ?_
      refine lv_bipush hx hb dX12_of_30 kb_11 ?_
      refine lv_iload_n hx hb dX12_of_32 rfl (lv_at hl 1 rfl) ?_
      refine lv_imul hx hb dX12_of_33 ?_
      refine lv_iadd hx hb dX12_of_34 ?_
      refine lv_iload_n hx hb dX12_of_35 rfl (lv_at hl 2 rfl) ?_
      refine lv_iadd hx hb dX12_of_36 ?_
      obtain ⟨hb37, h⟩ := h
      refine m_ald S hK (ar_44 G) hW (ci_44 (Nat.le_of_ble_eq_true rfl)) hb37 dX12_of_37 ?_
      refine lv_goto (tgt := 42) hx hb dX12_of_38 (by decide) ?_
      exact m_iret S hret hlocks hK hW hbs hS rfl h dX12_of_42
def s_X12_order (M : Mem) (x1 : Int32) (P : Int32 → Mem → Prop) : Prop :=
  ∀ Mm2 : Mem, Mm2 = wI M 10 0 0 (0 : Int32) → s_X12_isSchool Mm2 x1 (fun rr7 Mm7 => (rr7 = 0 → P (-1 : Int32) Mm7) ∧ (¬ rr7 = 0 → s_X12_orderOf Mm7 x1 (Mm7.1 44 0 3) (fun rr21 Mm21 => P rr21 Mm21)))
abbrev rm_X12_order : Room := { frames := 11, cells := 0, slots := 0, locals := 258 }
set_option maxHeartbeats 4000000 in
set_option maxRecDepth 100000 in
theorem c_X12_order (l : Launch) {G : Gn} {M : Mem} {x1 : Int32} {P : Int32 → Mem → Prop} : MQi l yX12_order cX12_order 2 (some .int) rm_X12_order [.ref (ad G 10 0), .int x1] G M (s_X12_order M x1 P) P := by
  refine m_enter (by decide +kernel) (Nat.le_of_ble_eq_true rfl) ?_
  intro p e s m below meth c ls H locs S hret hlocks hname hK hbs hW hS hl h
  obtain ⟨AV, hAV⟩ : ∃ z : Array Value, z = ([.ref (ad G 10 0), .int x1] : List Value).toArray := ⟨_, rfl⟩
  rw [← hAV] at S ⊢
  replace S : CallFix p m c cX12_order 2 s AV lw_G "MilkDeskModel" := S
  have hx := S.1
  have hb := S.2.1
  have hml := S.2.2.1
  have hown := S.2.2.2.1
  have hts := S.2.2.2.2
  replace hl : lv_has ls 2 [(0, .ref (ad G 10 0)), (1, .int x1)] := hl
  unfold s_X12_order at h
  refine lv_aload_n hx hb dX12_order_0 rfl (lv_at hl 0 rfl) ?_
  refine lv_iconst hx hb dX12_order_1 ki_0 ?_
  refine m_put S hK fk_X12_128 tyX12_ok nmX12 rfl pf_X12_0 (pv_10_0 G) hW hS (ci_10 (Nat.le_of_ble_eq_true rfl)) rfl rfl dX12_order_2 (fun Mm2 eMm2 H locs hW hS => ?_)
  replace h := h Mm2 eMm2
  refine lv_aload_n hx hb dX12_order_5 rfl (lv_at hl 0 rfl) ?_
  refine lv_iload_n hx hb dX12_order_6 rfl (lv_at hl 1 rfl) ?_
  refine m_ci0 (m_rV S hK hW (m_szH hbs hS) (c_X12_isSchool l ) h lk_X12_139 (m_recv hK hW (ci_10 (Nat.le_of_ble_eq_true rfl)) (rc_10 G) rfl) rfl hl.1 rfl ⟨Nat.le_of_ble_eq_true rfl, Nat.le_of_ble_eq_true rfl⟩ (Nat.le_of_ble_eq_true rfl) ⟨Nat.zero_le _, Nat.zero_le _⟩ dX12_order_7) hS rfl rfl (fun rr7 Mm7 H locs h hW hS => ?_)
  refine lv_if_eq (tgt := 27) hx hb dX12_order_10 (by decide) (fun c10 => ?_) (fun c10 => ?_)
  · replace h := h.1 c10
    refine lv_iconst hx hb dX12_order_27 ki_m1 ?_
    exact m_iret S hret hlocks hK hW hbs hS rfl h dX12_order_28
  · replace h := h.2 c10
    refine lv_aload_n hx hb dX12_order_13 rfl (lv_at hl 0 rfl) ?_
    refine lv_iload_n hx hb dX12_order_14 rfl (lv_at hl 1 rfl) ?_
    refine lv_aload_n hx hb dX12_order_15 rfl (lv_at hl 0 rfl) ?_
    refine m_getr S hK fk_X12_7 (gr_10_1 G 0) hW (ci_10 (Nat.le_of_ble_eq_true rfl)) dX12_order_16 ?_
    refine lv_iconst hx hb dX12_order_19 ki_3 ?_
    refine m_aldk S hK (ar_44 G) hW (ci_44 (Nat.le_of_ble_eq_true rfl)) kn_3 (Nat.le_of_ble_eq_true rfl) dX12_order_20 ?_
    refine m_ci0 (m_rV S hK hW (m_szH hbs hS) (c_X12_orderOf l ) h lk_X12_275 (m_recv hK hW (ci_10 (Nat.le_of_ble_eq_true rfl)) (rc_10 G) rfl) rfl hl.1 rfl ⟨Nat.le_of_ble_eq_true rfl, Nat.le_of_ble_eq_true rfl⟩ (Nat.le_of_ble_eq_true rfl) ⟨Nat.zero_le _, Nat.zero_le _⟩ dX12_order_21) hS rfl rfl (fun rr21 Mm21 H locs h hW hS => ?_)
    refine lv_goto (tgt := 28) hx hb dX12_order_24 (by decide) ?_
    exact m_iret S hret hlocks hK hW hbs hS rfl h dX12_order_28
def s_X12_look (M : Mem) (x1 : Int32) (x2 : Int32) (x3 : Int32) (P : Int32 → Mem → Prop) : Prop :=
  ∀ Mm2 : Mem, Mm2 = wI M 10 0 0 (0 : Int32) → s_X12_isSchool Mm2 x1 (fun rr7 Mm7 => (rr7 = 0 → P (-1 : Int32) Mm7) ∧ (¬ rr7 = 0 → s_X12_in Mm7 x2 (0 : Int32) ((Mm7.1 44 0 3) - (1 : Int32)) (fun rr23 Mm23 => (rr23 = 0 → P (-1 : Int32) Mm23) ∧ (¬ rr23 = 0 → s_X12_in Mm23 x3 (0 : Int32) (999 : Int32) (fun rr34 Mm34 => (¬ rr34 = 0 → (¬ (Mm34.1 44 0 4) = (30 : Int32) → vp_in (Mm34.1 44 0 4) 30 ∧ (∀ Mm67 : Mem, Mm67 = wI Mm34 61 0 ((Mm34.1 44 0 4).toNatClampNeg) x1 → vp_in (Mm67.1 44 0 4) 30 ∧ (∀ Mm79 : Mem, Mm79 = wI Mm67 62 0 ((Mm67.1 44 0 4).toNatClampNeg) x2 → vp_in (Mm79.1 44 0 4) 30 ∧ (∀ Mm91 : Mem, Mm91 = wI Mm79 63 0 ((Mm79.1 44 0 4).toNatClampNeg) x3 → ∀ Mm101 : Mem, Mm101 = wI Mm91 44 0 4 ((Mm91.1 44 0 4) + (1 : Int32)) → P (Mm101.1 44 0 4) Mm101)))) ∧ ((Mm34.1 44 0 4) = (30 : Int32) → P (-2 : Int32) Mm34)) ∧ (rr34 = 0 → P (-1 : Int32) Mm34))))))
abbrev rm_X12_look : Room := { frames := 2, cells := 0, slots := 0, locals := 43 }
set_option maxHeartbeats 4000000 in
set_option maxRecDepth 100000 in
theorem c_X12_look (l : Launch) {G : Gn} {M : Mem} {x1 : Int32} {x2 : Int32} {x3 : Int32} {P : Int32 → Mem → Prop} : MQi l yX12_look cX12_look 4 (some .int) rm_X12_look [.ref (ad G 10 0), .int x1, .int x2, .int x3] G M (s_X12_look M x1 x2 x3 P) P := by
  refine m_enter (by decide +kernel) (Nat.le_of_ble_eq_true rfl) ?_
  intro p e s m below meth c ls H locs S hret hlocks hname hK hbs hW hS hl h
  obtain ⟨AV, hAV⟩ : ∃ z : Array Value, z = ([.ref (ad G 10 0), .int x1, .int x2, .int x3] : List Value).toArray := ⟨_, rfl⟩
  rw [← hAV] at S ⊢
  replace S : CallFix p m c cX12_look 4 s AV lw_G "MilkDeskModel" := S
  have hx := S.1
  have hb := S.2.1
  have hml := S.2.2.1
  have hown := S.2.2.2.1
  have hts := S.2.2.2.2
  replace hl : lv_has ls 4 [(0, .ref (ad G 10 0)), (1, .int x1), (2, .int x2), (3, .int x3)] := hl
  unfold s_X12_look at h
  refine lv_aload_n hx hb dX12_look_0 rfl (lv_at hl 0 rfl) ?_
  refine lv_iconst hx hb dX12_look_1 ki_0 ?_
  refine m_put S hK fk_X12_128 tyX12_ok nmX12 rfl pf_X12_0 (pv_10_0 G) hW hS (ci_10 (Nat.le_of_ble_eq_true rfl)) rfl rfl dX12_look_2 (fun Mm2 eMm2 H locs hW hS => ?_)
  replace h := h Mm2 eMm2
  refine lv_aload_n hx hb dX12_look_5 rfl (lv_at hl 0 rfl) ?_
  refine lv_iload_n hx hb dX12_look_6 rfl (lv_at hl 1 rfl) ?_
  refine m_ci0 (m_rV S hK hW (m_szH hbs hS) (c_X12_isSchool l ) h lk_X12_139 (m_recv hK hW (ci_10 (Nat.le_of_ble_eq_true rfl)) (rc_10 G) rfl) rfl hl.1 rfl ⟨Nat.le_of_ble_eq_true rfl, Nat.le_of_ble_eq_true rfl⟩ (Nat.le_of_ble_eq_true rfl) ⟨Nat.zero_le _, Nat.zero_le _⟩ dX12_look_7) hS rfl rfl (fun rr7 Mm7 H locs h hW hS => ?_)
  refine lv_if_eq (tgt := 40) hx hb dX12_look_10 (by decide) (fun c10 => ?_) (fun c10 => ?_)
  · replace h := h.1 c10
    refine lv_iconst hx hb dX12_look_40 ki_m1 ?_
    exact m_iret S hret hlocks hK hW hbs hS rfl h dX12_look_41
  · replace h := h.2 c10
    refine lv_iload_n hx hb dX12_look_13 rfl (lv_at hl 2 rfl) ?_
    refine lv_iconst hx hb dX12_look_14 ki_0 ?_
    refine lv_aload_n hx hb dX12_look_15 rfl (lv_at hl 0 rfl) ?_
    refine m_getr S hK fk_X12_7 (gr_10_1 G 0) hW (ci_10 (Nat.le_of_ble_eq_true rfl)) dX12_look_16 ?_
    refine lv_iconst hx hb dX12_look_19 ki_3 ?_
    refine m_aldk S hK (ar_44 G) hW (ci_44 (Nat.le_of_ble_eq_true rfl)) kn_3 (Nat.le_of_ble_eq_true rfl) dX12_look_20 ?_
    refine lv_iconst hx hb dX12_look_21 ki_1 ?_
    refine lv_isub hx hb dX12_look_22 ?_
    refine m_ci0 (m_rS S hK hW (m_szH hbs hS) (c_X12_in l ) h lk_X12_131 rfl hl.1 rfl ⟨Nat.le_of_ble_eq_true rfl, Nat.le_of_ble_eq_true rfl⟩ (Nat.le_of_ble_eq_true rfl) ⟨Nat.zero_le _, Nat.zero_le _⟩ dX12_look_23) hS rfl rfl (fun rr23 Mm23 H locs h hW hS => ?_)
    refine lv_if_eq (tgt := 40) hx hb dX12_look_26 (by decide) (fun c26 => ?_) (fun c26 => ?_)
    · replace h := h.1 c26
      refine lv_iconst hx hb dX12_look_40 ki_m1 ?_
      exact m_iret S hret hlocks hK hW hbs hS rfl h dX12_look_41
    · replace h := h.2 c26
      refine lv_iload_n hx hb dX12_look_29 rfl (lv_at hl 3 rfl) ?_
      refine lv_iconst hx hb dX12_look_30 ki_0 ?_
      refine lv_sipush hx hb dX12_look_31 ks_999 ?_
      refine m_ci0 (m_rS S hK hW (m_szH hbs hS) (c_X12_in l ) h lk_X12_131 rfl hl.1 rfl ⟨Nat.le_of_ble_eq_true rfl, Nat.le_of_ble_eq_true rfl⟩ (Nat.le_of_ble_eq_true rfl) ⟨Nat.zero_le _, Nat.zero_le _⟩ dX12_look_34) hS rfl rfl (fun rr34 Mm34 H locs h hW hS => ?_)
      refine lv_if_ne (tgt := 42) hx hb dX12_look_37 (by decide) (fun c37 => ?_) (fun c37 => ?_)
      · replace h := h.1 c37
        refine lv_aload_n hx hb dX12_look_42 rfl (lv_at hl 0 rfl) ?_
        refine m_getr S hK fk_X12_7 (gr_10_1 G 0) hW (ci_10 (Nat.le_of_ble_eq_true rfl)) dX12_look_43 ?_
        refine lv_iconst hx hb dX12_look_46 ki_4 ?_
        refine m_aldk S hK (ar_44 G) hW (ci_44 (Nat.le_of_ble_eq_true rfl)) kn_4 (Nat.le_of_ble_eq_true rfl) dX12_look_47 ?_
        refine lv_bipush hx hb dX12_look_48 kb_30 ?_
        refine lv_icmp_ne (tgt := 56) hx hb dX12_look_50 (by decide) (fun c50 => ?_) (fun c50 => ?_)
        · replace h := h.1 c50
          refine lv_aload_n hx hb dX12_look_56 rfl (lv_at hl 0 rfl) ?_
          refine m_getr S hK fk_X12_61 (gr_10_19 G 0) hW (ci_10 (Nat.le_of_ble_eq_true rfl)) dX12_look_57 ?_
          refine lv_aload_n hx hb dX12_look_60 rfl (lv_at hl 0 rfl) ?_
          refine m_getr S hK fk_X12_7 (gr_10_1 G 0) hW (ci_10 (Nat.le_of_ble_eq_true rfl)) dX12_look_61 ?_
          refine lv_iconst hx hb dX12_look_64 ki_4 ?_
          refine m_aldk S hK (ar_44 G) hW (ci_44 (Nat.le_of_ble_eq_true rfl)) kn_4 (Nat.le_of_ble_eq_true rfl) dX12_look_65 ?_
          refine lv_iload_n hx hb dX12_look_66 rfl (lv_at hl 1 rfl) ?_
          obtain ⟨hb67, h⟩ := h
          refine m_ast S hK (ar_61 G) hW hS (ci_61 (Nat.le_of_ble_eq_true rfl)) hb67 dX12_look_67 (fun Mm67 eMm67 H locs hW hS => ?_)
          replace h := h Mm67 eMm67
          refine lv_aload_n hx hb dX12_look_68 rfl (lv_at hl 0 rfl) ?_
          refine m_getr S hK fk_X12_64 (gr_10_20 G 0) hW (ci_10 (Nat.le_of_ble_eq_true rfl)) dX12_look_69 ?_
          refine lv_aload_n hx hb dX12_look_72 rfl (lv_at hl 0 rfl) ?_
          refine m_getr S hK fk_X12_7 (gr_10_1 G 0) hW (ci_10 (Nat.le_of_ble_eq_true rfl)) dX12_look_73 ?_
          refine lv_iconst hx hb dX12_look_76 ki_4 ?_
          refine m_aldk S hK (ar_44 G) hW (ci_44 (Nat.le_of_ble_eq_true rfl)) kn_4 (Nat.le_of_ble_eq_true rfl) dX12_look_77 ?_
          refine lv_iload_n hx hb dX12_look_78 rfl (lv_at hl 2 rfl) ?_
          obtain ⟨hb79, h⟩ := h
          refine m_ast S hK (ar_62 G) hW hS (ci_62 (Nat.le_of_ble_eq_true rfl)) hb79 dX12_look_79 (fun Mm79 eMm79 H locs hW hS => ?_)
          replace h := h Mm79 eMm79
          refine lv_aload_n hx hb dX12_look_80 rfl (lv_at hl 0 rfl) ?_
          refine m_getr S hK fk_X12_67 (gr_10_21 G 0) hW (ci_10 (Nat.le_of_ble_eq_true rfl)) dX12_look_81 ?_
          refine lv_aload_n hx hb dX12_look_84 rfl (lv_at hl 0 rfl) ?_
          refine m_getr S hK fk_X12_7 (gr_10_1 G 0) hW (ci_10 (Nat.le_of_ble_eq_true rfl)) dX12_look_85 ?_
          refine lv_iconst hx hb dX12_look_88 ki_4 ?_
          refine m_aldk S hK (ar_44 G) hW (ci_44 (Nat.le_of_ble_eq_true rfl)) kn_4 (Nat.le_of_ble_eq_true rfl) dX12_look_89 ?_
          refine lv_iload_n hx hb dX12_look_90 rfl (lv_at hl 3 rfl) ?_
          obtain ⟨hb91, h⟩ := h
          refine m_ast S hK (ar_63 G) hW hS (ci_63 (Nat.le_of_ble_eq_true rfl)) hb91 dX12_look_91 (fun Mm91 eMm91 H locs hW hS => ?_)
          replace h := h Mm91 eMm91
          refine lv_aload_n hx hb dX12_look_92 rfl (lv_at hl 0 rfl) ?_
          refine m_getr S hK fk_X12_7 (gr_10_1 G 0) hW (ci_10 (Nat.le_of_ble_eq_true rfl)) dX12_look_93 ?_
          refine lv_iconst hx hb dX12_look_96 ki_4 ?_
          refine lv_dup2_11 hx hb dX12_look_97 rfl rfl ?_
          refine m_aldk S hK (ar_44 G) hW (ci_44 (Nat.le_of_ble_eq_true rfl)) kn_4 (Nat.le_of_ble_eq_true rfl) dX12_look_98 ?_
          refine lv_iconst hx hb dX12_look_99 ki_1 ?_
          refine lv_iadd hx hb dX12_look_100 ?_
          refine m_astk S hK (ar_44 G) hW hS (ci_44 (Nat.le_of_ble_eq_true rfl)) kn_4 (Nat.le_of_ble_eq_true rfl) dX12_look_101 (fun Mm101 eMm101 H locs hW hS => ?_)
          replace h := h Mm101 eMm101
          refine lv_aload_n hx hb dX12_look_102 rfl (lv_at hl 0 rfl) ?_
          refine m_getr S hK fk_X12_7 (gr_10_1 G 0) hW (ci_10 (Nat.le_of_ble_eq_true rfl)) dX12_look_103 ?_
          refine lv_iconst hx hb dX12_look_106 ki_4 ?_
          refine m_aldk S hK (ar_44 G) hW (ci_44 (Nat.le_of_ble_eq_true rfl)) kn_4 (Nat.le_of_ble_eq_true rfl) dX12_look_107 ?_
          exact m_iret S hret hlocks hK hW hbs hS rfl h dX12_look_108
        · replace h := h.2 c50
          refine lv_bipush hx hb dX12_look_53 kb_m2 ?_
          exact m_iret S hret hlocks hK hW hbs hS rfl h dX12_look_55
      · replace h := h.2 c37
        refine lv_iconst hx hb dX12_look_40 ki_m1 ?_
        exact m_iret S hret hlocks hK hW hbs hS rfl h dX12_look_41
def s_X12_byHowMuch_139 (x1 : Int32) (x2 : Int32) (P : Int32 → Mem → Prop) (K39 : Mem × Int32 × Int32 × Int32 × Int32 × Int32 → Prop) (M : Mem) (x3 : Int32) (x4 : Int32) (x5 : Int32) (x7 : Int32) (y0 : Int32) : Prop :=
  ∀ x3_141 : Int32, x3_141 = x3 + (1 : Int32) → ∀ x7_144 : Int32, x7_144 = x7 + (1 : Int32) → K39 (M, x3_141, x4, x5, y0, x7_144)
def s_X12_byHowMuch_119 (x1 : Int32) (x2 : Int32) (P : Int32 → Mem → Prop) (K39 : Mem × Int32 × Int32 × Int32 × Int32 × Int32 → Prop) (M : Mem) (x3 : Int32) (x4 : Int32) (x6 : Int32) (x7 : Int32) (x8 : Int32) (y0 : Int32) : Prop :=
  (x3 = 0 → s_X12_byHowMuch_139 x1 x2 P K39 M x3 x4 y0 x7 x8) ∧ (¬ x3 = 0 → (x8 ≤ x6 → s_X12_byHowMuch_139 x1 x2 P K39 M x3 x4 y0 x7 x6) ∧ (¬ x8 ≤ x6 → s_X12_byHowMuch_139 x1 x2 P K39 M x3 x4 y0 x7 x8))
def s_X12_byHowMuch_39 (x1 : Int32) (x2 : Int32) (P : Int32 → Mem → Prop) (K39 : Mem × Int32 × Int32 × Int32 × Int32 × Int32 → Prop) (M : Mem) (x3 : Int32) (x4 : Int32) (x5 : Int32) (x6 : Int32) (x7 : Int32) : Prop :=
  ((M.1 44 0 4) ≤ x7 → (¬ x3 = 0 → (¬ x2 = 0 → (¬ x2 = (1 : Int32) → P x6 M) ∧ (x2 = (1 : Int32) → P x5 M)) ∧ (x2 = 0 → P x4 M)) ∧ (x3 = 0 → P (-1000000004 : Int32) M)) ∧ (¬ (M.1 44 0 4) ≤ x7 → vp_in x7 30 ∧ (vp_in (M.1 61 0 x7.toNatClampNeg) 12 ∧ ((¬ (M.1 47 0 (M.1 61 0 x7.toNatClampNeg).toNatClampNeg) = x1 → ∀ x7_144 : Int32, x7_144 = x7 + (1 : Int32) → K39 (M, x3, x4, x5, x6, x7_144)) ∧ ((M.1 47 0 (M.1 61 0 x7.toNatClampNeg).toNatClampNeg) = x1 → vp_in x7 30 ∧ (vp_in x7 30 ∧ (s_X12_headsOf M (M.1 61 0 x7.toNatClampNeg) (M.1 62 0 x7.toNatClampNeg) (fun rr81 Mm81 => vp_in x7 30 ∧ (∀ x8_92 : Int32, x8_92 = (rr81 - (Mm81.1 63 0 x7.toNatClampNeg)) → ∀ x4_99 : Int32, x4_99 = (x4 + x8_92) → (x3 = 0 → s_X12_byHowMuch_119 x1 x2 P K39 Mm81 x3 x4_99 x6 x7 x8_92 x8_92) ∧ (¬ x3 = 0 → (x5 ≤ x8_92 → s_X12_byHowMuch_119 x1 x2 P K39 Mm81 x3 x4_99 x6 x7 x8_92 x5) ∧ (¬ x5 ≤ x8_92 → s_X12_byHowMuch_119 x1 x2 P K39 Mm81 x3 x4_99 x6 x7 x8_92 x8_92))))))))))
def s_X12_byHowMuch (M : Mem) (x1 : Int32) (x2 : Int32) (P : Int32 → Mem → Prop) : Prop :=
  ∀ Mm2 : Mem, Mm2 = wI M 10 0 0 (0 : Int32) → s_X12_isShire Mm2 x1 (fun rr6 Mm6 => (rr6 = 0 → P (-1000000001 : Int32) Mm6) ∧ (¬ rr6 = 0 → s_X12_in Mm6 x2 (0 : Int32) (2 : Int32) (fun rr15 Mm15 => (¬ rr15 = 0 → ∃ n, Lz (fun (K39 : Mem × Int32 × Int32 × Int32 × Int32 × Int32 → Prop) (a : Mem × Int32 × Int32 × Int32 × Int32 × Int32) => s_X12_byHowMuch_39 x1 x2 P K39 a.1 a.2.1 a.2.2.1 a.2.2.2.1 a.2.2.2.2.1 a.2.2.2.2.2) n (Mm15, (0 : Int32), (0 : Int32), (0 : Int32), (0 : Int32), (0 : Int32))) ∧ (rr15 = 0 → P (-1000000001 : Int32) Mm15))))
abbrev rm_X12_byHowMuch : Room := { frames := 2, cells := 0, slots := 0, locals := 48 }
set_option maxHeartbeats 4000000 in
set_option maxRecDepth 100000 in
theorem c_X12_byHowMuch (l : Launch) {G : Gn} {M : Mem} {x1 : Int32} {x2 : Int32} {P : Int32 → Mem → Prop} : MQi l yX12_byHowMuch cX12_byHowMuch 9 (some .int) rm_X12_byHowMuch [.ref (ad G 10 0), .int x1, .int x2] G M (s_X12_byHowMuch M x1 x2 P) P := by
  refine m_enter (by decide +kernel) (Nat.le_of_ble_eq_true rfl) ?_
  intro p e s m below meth c ls H locs S hret hlocks hname hK hbs hW hS hl h
  obtain ⟨AV, hAV⟩ : ∃ z : Array Value, z = ([.ref (ad G 10 0), .int x1, .int x2] : List Value).toArray := ⟨_, rfl⟩
  rw [← hAV] at S ⊢
  replace S : CallFix p m c cX12_byHowMuch 9 s AV lw_G "MilkDeskModel" := S
  have hx := S.1
  have hb := S.2.1
  have hml := S.2.2.1
  have hown := S.2.2.2.1
  have hts := S.2.2.2.2
  replace hl : lv_has ls 9 [(0, .ref (ad G 10 0)), (1, .int x1), (2, .int x2)] := hl
  have w39 : ∀ (n : Nat) (a : Mem × Int32 × Int32 × Int32 × Int32 × Int32), Lz (fun (K39 : Mem × Int32 × Int32 × Int32 × Int32 × Int32 → Prop) (a : Mem × Int32 × Int32 × Int32 × Int32 × Int32) => s_X12_byHowMuch_39 x1 x2 P K39 a.1 a.2.1 a.2.2.1 a.2.2.2.1 a.2.2.2.2.1 a.2.2.2.2.2) n a → ∀ (H : Heap) (locs : List Loc) (ls : Array Slot), WPm G a.1 H → va_S (fun q => bs G ≤ q) s.heap H locs → lv_has ls 9 [(0, .ref (ad G 10 0)), (1, .int x1), (2, .int x2), (3, .int a.2.1), (4, .int a.2.2.1), (5, .int a.2.2.2.1), (6, .int a.2.2.2.2.1), (7, .int a.2.2.2.2.2)] → W p l e rm_X12_byHowMuch s m AV below meth c H locs 0 0 (MQ below (va_Qi P (WS G) (fun q => bs G ≤ q)) AV s 0 0 (fun q => bs G ≤ q)) (F0 m 39 ls []) := by
    refine Lz_walk ?_
    rintro K39 kk39 ⟨M, x3, x4, x5, x6, x7⟩ h H locs ls hW hS hl
    replace h : s_X12_byHowMuch_39 x1 x2 P K39 M x3 x4 x5 x6 x7 := h
    replace hW : WPm G M H := hW
    replace hl : lv_has ls 9 [(0, .ref (ad G 10 0)), (1, .int x1), (2, .int x2), (3, .int x3), (4, .int x4), (5, .int x5), (6, .int x6), (7, .int x7)] := hl
    have b139 : ∀ (M : Mem) (x3 : Int32) (x4 : Int32) (x5 : Int32) (x7 : Int32) (y0 : Int32) (H : Heap) (locs : List Loc) (ls : Array Slot), WPm G M H → va_S (fun q => bs G ≤ q) s.heap H locs → lv_has ls 9 [(0, .ref (ad G 10 0)), (1, .int x1), (2, .int x2), (3, .int x3), (4, .int x4), (5, .int x5), (7, .int x7)] → s_X12_byHowMuch_139 x1 x2 P K39 M x3 x4 x5 x7 y0 → W p l e rm_X12_byHowMuch s m AV below meth c H locs 0 0 (MQ below (va_Qi P (WS G) (fun q => bs G ≤ q)) AV s 0 0 (fun q => bs G ≤ q)) (F0 m 139 ls [.int y0]) := by
      intro M x3 x4 x5 x7 y0 H locs ls hW hS hl h
      unfold s_X12_byHowMuch_139 at h
      refine lv_istore (lv' := [(6, .int y0), (0, .ref (ad G 10 0)), (1, .int x1), (2, .int x2), (3, .int x3), (4, .int x4), (5, .int x5), (7, .int x7)]) hx hb dX12_byHowMuch_139 hl (by decide) rfl (fun ls hl => ?_)
      obtain ⟨x3_141, ex3_141⟩ : ∃ z : Int32, z = x3 + (1 : Int32) := ⟨_, rfl⟩
      replace h := h x3_141 ex3_141
      refine lv_iinc (v := x3_141) (lv' := [(3, .int x3_141), (6, .int y0), (0, .ref (ad G 10 0)), (1, .int x1), (2, .int x2), (4, .int x4), (5, .int x5), (7, .int x7)]) hx hb dX12_byHowMuch_141 hl (k := 4) rfl (by rw [ex3_141, ki_1]) (by decide) rfl (fun ls hl => ?_)
      obtain ⟨x7_144, ex7_144⟩ : ∃ z : Int32, z = x7 + (1 : Int32) := ⟨_, rfl⟩
      replace h := h x7_144 ex7_144
      refine lv_iinc (v := x7_144) (lv' := [(7, .int x7_144), (3, .int x3_141), (6, .int y0), (0, .ref (ad G 10 0)), (1, .int x1), (2, .int x2), (4, .int x4), (5, .int x5)]) hx hb dX12_byHowMuch_144 hl (k := 7) rfl (by rw [ex7_144, ki_1]) (by decide) rfl (fun ls hl => ?_)
      refine lv_goto (tgt := 39) hx hb dX12_byHowMuch_147 (by decide) ?_
      exact kk39 _ h H locs ls hW hS (lv_sub hl [3, 4, 5, 1, 6, 7, 2, 0] rfl)
    have b119 : ∀ (M : Mem) (x3 : Int32) (x4 : Int32) (x6 : Int32) (x7 : Int32) (x8 : Int32) (y0 : Int32) (H : Heap) (locs : List Loc) (ls : Array Slot), WPm G M H → va_S (fun q => bs G ≤ q) s.heap H locs → lv_has ls 9 [(0, .ref (ad G 10 0)), (1, .int x1), (2, .int x2), (3, .int x3), (4, .int x4), (6, .int x6), (7, .int x7), (8, .int x8)] → s_X12_byHowMuch_119 x1 x2 P K39 M x3 x4 x6 x7 x8 y0 → W p l e rm_X12_byHowMuch s m AV below meth c H locs 0 0 (MQ below (va_Qi P (WS G) (fun q => bs G ≤ q)) AV s 0 0 (fun q => bs G ≤ q)) (F0 m 119 ls [.int y0]) := by
      intro M x3 x4 x6 x7 x8 y0 H locs ls hW hS hl h
      unfold s_X12_byHowMuch_119 at h
      refine lv_istore (lv' := [(5, .int y0), (0, .ref (ad G 10 0)), (1, .int x1), (2, .int x2), (3, .int x3), (4, .int x4), (6, .int x6), (7, .int x7), (8, .int x8)]) hx hb dX12_byHowMuch_119 hl (by decide) rfl (fun ls hl => ?_)
      refine lv_iload_n hx hb dX12_byHowMuch_121 rfl (lv_at hl 4 rfl) ?_
      refine lv_if_eq (tgt := 132) hx hb dX12_byHowMuch_122 (by decide) (fun c122 => ?_) (fun c122 => ?_)
      · replace h := h.1 c122
        refine lv_iload hx hb dX12_byHowMuch_132 (lv_at hl 8 rfl) ?_
        refine lv_goto (tgt := 139) hx hb dX12_byHowMuch_134 (by decide) ?_
        exact b139 _ _ _ _ _ _ H locs ls hW hS (lv_sub hl [1, 2, 3, 4, 5, 0, 7] rfl) h
      · replace h := h.2 c122
        refine lv_iload hx hb dX12_byHowMuch_125 (lv_at hl 8 rfl) ?_
        refine lv_iload hx hb dX12_byHowMuch_127 (lv_at hl 6 rfl) ?_
        refine lv_icmp_le (tgt := 137) hx hb dX12_byHowMuch_129 (by decide) (fun c129 => ?_) (fun c129 => ?_)
        · replace h := h.1 c129
          refine lv_iload hx hb dX12_byHowMuch_137 (lv_at hl 6 rfl) ?_
          exact b139 _ _ _ _ _ _ H locs ls hW hS (lv_sub hl [1, 2, 3, 4, 5, 0, 7] rfl) h
        · replace h := h.2 c129
          refine lv_iload hx hb dX12_byHowMuch_132 (lv_at hl 8 rfl) ?_
          refine lv_goto (tgt := 139) hx hb dX12_byHowMuch_134 (by decide) ?_
          exact b139 _ _ _ _ _ _ H locs ls hW hS (lv_sub hl [1, 2, 3, 4, 5, 0, 7] rfl) h
    unfold s_X12_byHowMuch_39 at h
    refine lv_iload hx hb dX12_byHowMuch_39 (lv_at hl 7 rfl) ?_
    refine lv_aload_n hx hb dX12_byHowMuch_41 rfl (lv_at hl 0 rfl) ?_
    refine m_getr S hK fk_X12_7 (gr_10_1 G 0) hW (ci_10 (Nat.le_of_ble_eq_true rfl)) dX12_byHowMuch_42 ?_
    refine lv_iconst hx hb dX12_byHowMuch_45 ki_4 ?_
    refine m_aldk S hK (ar_44 G) hW (ci_44 (Nat.le_of_ble_eq_true rfl)) kn_4 (Nat.le_of_ble_eq_true rfl) dX12_byHowMuch_46 ?_
    refine lv_icmp_ge (tgt := 150) hx hb dX12_byHowMuch_47 (by decide) (fun c47 => ?_) (fun c47 => ?_)
    · replace h := h.1 c47
      refine lv_iload_n hx hb dX12_byHowMuch_150 rfl (lv_at hl 3 rfl) ?_
      refine lv_if_ne (tgt := 160) hx hb dX12_byHowMuch_151 (by decide) (fun c151 => ?_) (fun c151 => ?_)
      · replace h := h.1 c151
        refine lv_iload_n hx hb dX12_byHowMuch_160 rfl (lv_at hl 2 rfl) ?_
        refine lv_if_ne (tgt := 169) hx hb dX12_byHowMuch_161 (by decide) (fun c161 => ?_) (fun c161 => ?_)
        · replace h := h.1 c161
          refine lv_iload_n hx hb dX12_byHowMuch_169 rfl (lv_at hl 2 rfl) ?_
          refine lv_iconst hx hb dX12_byHowMuch_170 ki_1 ?_
          refine lv_icmp_ne (tgt := 179) hx hb dX12_byHowMuch_171 (by decide) (fun c171 => ?_) (fun c171 => ?_)
          · replace h := h.1 c171
            refine lv_iload hx hb dX12_byHowMuch_179 (lv_at hl 6 rfl) ?_
            exact m_iret S hret hlocks hK hW hbs hS rfl h dX12_byHowMuch_181
          · replace h := h.2 c171
            refine lv_iload hx hb dX12_byHowMuch_174 (lv_at hl 5 rfl) ?_
            refine lv_goto (tgt := 181) hx hb dX12_byHowMuch_176 (by decide) ?_
            exact m_iret S hret hlocks hK hW hbs hS rfl h dX12_byHowMuch_181
        · replace h := h.2 c161
          refine lv_iload hx hb dX12_byHowMuch_164 (lv_at hl 4 rfl) ?_
          refine lv_goto (tgt := 181) hx hb dX12_byHowMuch_166 (by decide) ?_
          exact m_iret S hret hlocks hK hW hbs hS rfl h dX12_byHowMuch_181
      · replace h := h.2 c151
        refine lv_ldcw hx hb hown (hts _ mw_1528) dX12_byHowMuch_154 ?_
        refine lv_goto (tgt := 181) hx hb dX12_byHowMuch_157 (by decide) ?_
        exact m_iret S hret hlocks hK hW hbs hS rfl h dX12_byHowMuch_181
    · replace h := h.2 c47
      refine lv_aload_n hx hb dX12_byHowMuch_50 rfl (lv_at hl 0 rfl) ?_
      refine m_getr S hK fk_X12_19 (gr_10_5 G 0) hW (ci_10 (Nat.le_of_ble_eq_true rfl)) dX12_byHowMuch_51 ?_
      refine lv_aload_n hx hb dX12_byHowMuch_54 rfl (lv_at hl 0 rfl) ?_
      refine m_getr S hK fk_X12_61 (gr_10_19 G 0) hW (ci_10 (Nat.le_of_ble_eq_true rfl)) dX12_byHowMuch_55 ?_
      refine lv_iload hx hb dX12_byHowMuch_58 (lv_at hl 7 rfl) ?_
      obtain ⟨hb60, h⟩ := h
      refine m_ald S hK (ar_61 G) hW (ci_61 (Nat.le_of_ble_eq_true rfl)) hb60 dX12_byHowMuch_60 ?_
      obtain ⟨hb61, h⟩ := h
      refine m_ald S hK (ar_47 G) hW (ci_47 (Nat.le_of_ble_eq_true rfl)) hb61 dX12_byHowMuch_61 ?_
      refine lv_iload_n hx hb dX12_byHowMuch_62 rfl (lv_at hl 1 rfl) ?_
      refine lv_icmp_ne (tgt := 144) hx hb dX12_byHowMuch_63 (by decide) (fun c63 => ?_) (fun c63 => ?_)
      · replace h := h.1 c63
        obtain ⟨x7_144, ex7_144⟩ : ∃ z : Int32, z = x7 + (1 : Int32) := ⟨_, rfl⟩
        replace h := h x7_144 ex7_144
        refine lv_iinc (v := x7_144) (lv' := [(7, .int x7_144), (0, .ref (ad G 10 0)), (1, .int x1), (2, .int x2), (3, .int x3), (4, .int x4), (5, .int x5), (6, .int x6)]) hx hb dX12_byHowMuch_144 hl (k := 7) rfl (by rw [ex7_144, ki_1]) (by decide) rfl (fun ls hl => ?_)
        refine lv_goto (tgt := 39) hx hb dX12_byHowMuch_147 (by decide) ?_
        exact kk39 _ h H locs ls hW hS (lv_sub hl [1, 2, 3, 4, 5, 6, 7, 0] rfl)
      · replace h := h.2 c63
        refine lv_aload_n hx hb dX12_byHowMuch_66 rfl (lv_at hl 0 rfl) ?_
        refine lv_aload_n hx hb dX12_byHowMuch_67 rfl (lv_at hl 0 rfl) ?_
        refine m_getr S hK fk_X12_61 (gr_10_19 G 0) hW (ci_10 (Nat.le_of_ble_eq_true rfl)) dX12_byHowMuch_68 ?_
        refine lv_iload hx hb dX12_byHowMuch_71 (lv_at hl 7 rfl) ?_
        obtain ⟨hb73, h⟩ := h
        refine m_ald S hK (ar_61 G) hW (ci_61 (Nat.le_of_ble_eq_true rfl)) hb73 dX12_byHowMuch_73 ?_
        refine lv_aload_n hx hb dX12_byHowMuch_74 rfl (lv_at hl 0 rfl) ?_
        refine m_getr S hK fk_X12_64 (gr_10_20 G 0) hW (ci_10 (Nat.le_of_ble_eq_true rfl)) dX12_byHowMuch_75 ?_
        refine lv_iload hx hb dX12_byHowMuch_78 (lv_at hl 7 rfl) ?_
        obtain ⟨hb80, h⟩ := h
        refine m_ald S hK (ar_62 G) hW (ci_62 (Nat.le_of_ble_eq_true rfl)) hb80 dX12_byHowMuch_80 ?_
        refine m_ci0 (m_rV S hK hW (m_szH hbs hS) (c_X12_headsOf l ) h lk_X12_192 (m_recv hK hW (ci_10 (Nat.le_of_ble_eq_true rfl)) (rc_10 G) rfl) rfl hl.1 rfl ⟨Nat.le_of_ble_eq_true rfl, Nat.le_of_ble_eq_true rfl⟩ (Nat.le_of_ble_eq_true rfl) ⟨Nat.zero_le _, Nat.zero_le _⟩ dX12_byHowMuch_81) hS rfl rfl (fun rr81 Mm81 H locs h hW hS => ?_)
        refine lv_aload_n hx hb dX12_byHowMuch_84 rfl (lv_at hl 0 rfl) ?_
        refine m_getr S hK fk_X12_67 (gr_10_21 G 0) hW (ci_10 (Nat.le_of_ble_eq_true rfl)) dX12_byHowMuch_85 ?_
        refine lv_iload hx hb dX12_byHowMuch_88 (lv_at hl 7 rfl) ?_
        obtain ⟨hb90, h⟩ := h
        refine m_ald S hK (ar_63 G) hW (ci_63 (Nat.le_of_ble_eq_true rfl)) hb90 dX12_byHowMuch_90 ?_
        refine lv_isub hx hb dX12_byHowMuch_91 ?_
        refine lv_topi (fun x8_92 ex8_92 => ?_)
        replace h := h x8_92 ex8_92
        refine lv_istore (lv' := [(8, .int x8_92), (0, .ref (ad G 10 0)), (1, .int x1), (2, .int x2), (3, .int x3), (4, .int x4), (5, .int x5), (6, .int x6), (7, .int x7)]) hx hb dX12_byHowMuch_92 hl (by decide) rfl (fun ls hl => ?_)
        refine lv_iload hx hb dX12_byHowMuch_94 (lv_at hl 5 rfl) ?_
        refine lv_iload hx hb dX12_byHowMuch_96 (lv_at hl 0 rfl) ?_
        refine lv_iadd hx hb dX12_byHowMuch_98 ?_
        refine lv_topi (fun x4_99 ex4_99 => ?_)
        replace h := h x4_99 ex4_99
        refine lv_istore (lv' := [(4, .int x4_99), (8, .int x8_92), (0, .ref (ad G 10 0)), (1, .int x1), (2, .int x2), (3, .int x3), (5, .int x5), (6, .int x6), (7, .int x7)]) hx hb dX12_byHowMuch_99 hl (by decide) rfl (fun ls hl => ?_)
        refine lv_iload_n hx hb dX12_byHowMuch_101 rfl (lv_at hl 5 rfl) ?_
        refine lv_if_eq (tgt := 112) hx hb dX12_byHowMuch_102 (by decide) (fun c102 => ?_) (fun c102 => ?_)
        · replace h := h.1 c102
          refine lv_iload hx hb dX12_byHowMuch_112 (lv_at hl 1 rfl) ?_
          refine lv_goto (tgt := 119) hx hb dX12_byHowMuch_114 (by decide) ?_
          exact b119 _ _ _ _ _ _ _ H locs ls hW hS (lv_sub hl [2, 3, 4, 5, 0, 7, 8, 1] rfl) h
        · replace h := h.2 c102
          refine lv_iload hx hb dX12_byHowMuch_105 (lv_at hl 1 rfl) ?_
          refine lv_iload hx hb dX12_byHowMuch_107 (lv_at hl 6 rfl) ?_
          refine lv_icmp_ge (tgt := 117) hx hb dX12_byHowMuch_109 (by decide) (fun c109 => ?_) (fun c109 => ?_)
          · replace h := h.1 c109
            refine lv_iload hx hb dX12_byHowMuch_117 (lv_at hl 6 rfl) ?_
            exact b119 _ _ _ _ _ _ _ H locs ls hW hS (lv_sub hl [2, 3, 4, 5, 0, 7, 8, 1] rfl) h
          · replace h := h.2 c109
            refine lv_iload hx hb dX12_byHowMuch_112 (lv_at hl 1 rfl) ?_
            refine lv_goto (tgt := 119) hx hb dX12_byHowMuch_114 (by decide) ?_
            exact b119 _ _ _ _ _ _ _ H locs ls hW hS (lv_sub hl [2, 3, 4, 5, 0, 7, 8, 1] rfl) h
  unfold s_X12_byHowMuch at h
  refine lv_aload_n hx hb dX12_byHowMuch_0 rfl (lv_at hl 0 rfl) ?_
  refine lv_iconst hx hb dX12_byHowMuch_1 ki_0 ?_
  refine m_put S hK fk_X12_128 tyX12_ok nmX12 rfl pf_X12_0 (pv_10_0 G) hW hS (ci_10 (Nat.le_of_ble_eq_true rfl)) rfl rfl dX12_byHowMuch_2 (fun Mm2 eMm2 H locs hW hS => ?_)
  replace h := h Mm2 eMm2
  refine lv_iload_n hx hb dX12_byHowMuch_5 rfl (lv_at hl 1 rfl) ?_
  refine m_ci0 (m_rS S hK hW (m_szH hbs hS) (c_X12_isShire l ) h lk_X12_135 rfl hl.1 rfl ⟨Nat.le_of_ble_eq_true rfl, Nat.le_of_ble_eq_true rfl⟩ (Nat.le_of_ble_eq_true rfl) ⟨Nat.zero_le _, Nat.zero_le _⟩ dX12_byHowMuch_6) hS rfl rfl (fun rr6 Mm6 H locs h hW hS => ?_)
  refine lv_if_eq (tgt := 21) hx hb dX12_byHowMuch_9 (by decide) (fun c9 => ?_) (fun c9 => ?_)
  · replace h := h.1 c9
    refine lv_ldcw hx hb hown (hts _ mw_1527) dX12_byHowMuch_21 ?_
    exact m_iret S hret hlocks hK hW hbs hS rfl h dX12_byHowMuch_24
  · replace h := h.2 c9
    refine lv_iload_n hx hb dX12_byHowMuch_12 rfl (lv_at hl 2 rfl) ?_
    refine lv_iconst hx hb dX12_byHowMuch_13 ki_0 ?_
    refine lv_iconst hx hb dX12_byHowMuch_14 ki_2 ?_
    refine m_ci0 (m_rS S hK hW (m_szH hbs hS) (c_X12_in l ) h lk_X12_131 rfl hl.1 rfl ⟨Nat.le_of_ble_eq_true rfl, Nat.le_of_ble_eq_true rfl⟩ (Nat.le_of_ble_eq_true rfl) ⟨Nat.zero_le _, Nat.zero_le _⟩ dX12_byHowMuch_15) hS rfl rfl (fun rr15 Mm15 H locs h hW hS => ?_)
    refine lv_if_ne (tgt := 25) hx hb dX12_byHowMuch_18 (by decide) (fun c18 => ?_) (fun c18 => ?_)
    · replace h := h.1 c18
      refine lv_iconst hx hb dX12_byHowMuch_25 ki_0 ?_
      refine lv_istore_n (lv' := [(3, .int (0 : Int32)), (0, .ref (ad G 10 0)), (1, .int x1), (2, .int x2)]) hx hb dX12_byHowMuch_26 rfl hl (by decide) rfl (fun ls hl => ?_)
      refine lv_iconst hx hb dX12_byHowMuch_27 ki_0 ?_
      refine lv_istore (lv' := [(4, .int (0 : Int32)), (3, .int (0 : Int32)), (0, .ref (ad G 10 0)), (1, .int x1), (2, .int x2)]) hx hb dX12_byHowMuch_28 hl (by decide) rfl (fun ls hl => ?_)
      refine lv_iconst hx hb dX12_byHowMuch_30 ki_0 ?_
      refine lv_istore (lv' := [(5, .int (0 : Int32)), (4, .int (0 : Int32)), (3, .int (0 : Int32)), (0, .ref (ad G 10 0)), (1, .int x1), (2, .int x2)]) hx hb dX12_byHowMuch_31 hl (by decide) rfl (fun ls hl => ?_)
      refine lv_iconst hx hb dX12_byHowMuch_33 ki_0 ?_
      refine lv_istore (lv' := [(6, .int (0 : Int32)), (5, .int (0 : Int32)), (4, .int (0 : Int32)), (3, .int (0 : Int32)), (0, .ref (ad G 10 0)), (1, .int x1), (2, .int x2)]) hx hb dX12_byHowMuch_34 hl (by decide) rfl (fun ls hl => ?_)
      refine lv_iconst hx hb dX12_byHowMuch_36 ki_0 ?_
      refine lv_istore (lv' := [(7, .int (0 : Int32)), (6, .int (0 : Int32)), (5, .int (0 : Int32)), (4, .int (0 : Int32)), (3, .int (0 : Int32)), (0, .ref (ad G 10 0)), (1, .int x1), (2, .int x2)]) hx hb dX12_byHowMuch_37 hl (by decide) rfl (fun ls hl => ?_)
      obtain ⟨n39, h⟩ := h
      exact w39 n39 _ h H locs ls hW hS (lv_sub hl [5, 6, 7, 4, 3, 2, 1, 0] rfl)
    · replace h := h.2 c18
      refine lv_ldcw hx hb hown (hts _ mw_1527) dX12_byHowMuch_21 ?_
      exact m_iret S hret hlocks hK hW hbs hS rfl h dX12_byHowMuch_24
def s_X12_apart (M : Mem) (x0 : Int32) (x1 : Int32) (P : Int32 → Mem → Prop) : Prop :=
  (x1 ≤ x0 → P (x0 - x1) M) ∧ (¬ x1 ≤ x0 → P (x1 - x0) M)
abbrev rm_X12_apart : Room := { frames := 0, cells := 0, slots := 0, locals := 0 }
set_option maxHeartbeats 4000000 in
set_option maxRecDepth 100000 in
theorem c_X12_apart (l : Launch) {G : Gn} {M : Mem} {x0 : Int32} {x1 : Int32} {P : Int32 → Mem → Prop} : MQi l yX12_apart cX12_apart 2 (some .int) rm_X12_apart [.int x0, .int x1] G M (s_X12_apart M x0 x1 P) P := by
  refine m_enter (by decide +kernel) (Nat.le_of_ble_eq_true rfl) ?_
  intro p e s m below meth c ls H locs S hret hlocks hname hK hbs hW hS hl h
  obtain ⟨AV, hAV⟩ : ∃ z : Array Value, z = ([.int x0, .int x1] : List Value).toArray := ⟨_, rfl⟩
  rw [← hAV] at S ⊢
  replace S : CallFix p m c cX12_apart 2 s AV lw_G "MilkDeskModel" := S
  have hx := S.1
  have hb := S.2.1
  have hml := S.2.2.1
  have hown := S.2.2.2.1
  have hts := S.2.2.2.2
  replace hl : lv_has ls 2 [(0, .int x0), (1, .int x1)] := hl
  unfold s_X12_apart at h
  refine lv_iload_n hx hb dX12_apart_0 rfl (lv_at hl 0 rfl) ?_
  refine lv_iload_n hx hb dX12_apart_1 rfl (lv_at hl 1 rfl) ?_
  refine lv_icmp_ge (tgt := 11) hx hb dX12_apart_2 (by decide) (fun c2 => ?_) (fun c2 => ?_)
  · replace h := h.1 c2
    refine lv_iload_n hx hb dX12_apart_11 rfl (lv_at hl 0 rfl) ?_
    refine lv_iload_n hx hb dX12_apart_12 rfl (lv_at hl 1 rfl) ?_
    refine lv_isub hx hb dX12_apart_13 ?_
    exact m_iret S hret hlocks hK hW hbs hS rfl h dX12_apart_14
  · replace h := h.2 c2
    refine lv_iload_n hx hb dX12_apart_5 rfl (lv_at hl 1 rfl) ?_
    refine lv_iload_n hx hb dX12_apart_6 rfl (lv_at hl 0 rfl) ?_
    refine lv_isub hx hb dX12_apart_7 ?_
    refine lv_goto (tgt := 14) hx hb dX12_apart_8 (by decide) ?_
    exact m_iret S hret hlocks hK hW hbs hS rfl h dX12_apart_14
def s_X12_farOf_82 (P : Int32 → Mem → Prop) (M : Mem) (x4 : Int32) (x5 : Int32) (x6 : Int32) (y0 : Int32) : Prop :=
  s_X12_apart M x4 x6 (fun rr88 Mm88 => s_X12_apart Mm88 x5 y0 (fun rr95 Mm95 => P (rr88 + rr95) Mm95))
def s_X12_farOf_61 (x1 : Int32) (x3 : Int32) (P : Int32 → Mem → Prop) (M : Mem) (x4 : Int32) (x5 : Int32) (y0 : Int32) : Prop :=
  (0 ≤ x3 → vp_in x3 12 ∧ (s_X12_farOf_82 P M x4 x5 y0 (M.1 49 0 x3.toNatClampNeg))) ∧ (¬ 0 ≤ x3 → vp_in x1 5 ∧ (s_X12_farOf_82 P M x4 x5 y0 (M.1 51 0 x1.toNatClampNeg)))
def s_X12_farOf_40 (x1 : Int32) (x3 : Int32) (P : Int32 → Mem → Prop) (M : Mem) (x4 : Int32) (y0 : Int32) : Prop :=
  (0 ≤ x3 → vp_in x3 12 ∧ (s_X12_farOf_61 x1 x3 P M x4 y0 (M.1 48 0 x3.toNatClampNeg))) ∧ (¬ 0 ≤ x3 → vp_in x1 5 ∧ (s_X12_farOf_61 x1 x3 P M x4 y0 (M.1 50 0 x1.toNatClampNeg)))
def s_X12_farOf_19 (x1 : Int32) (x2 : Int32) (x3 : Int32) (P : Int32 → Mem → Prop) (M : Mem) (y0 : Int32) : Prop :=
  (0 ≤ x2 → vp_in x2 12 ∧ (s_X12_farOf_40 x1 x3 P M y0 (M.1 49 0 x2.toNatClampNeg))) ∧ (¬ 0 ≤ x2 → vp_in x1 5 ∧ (s_X12_farOf_40 x1 x3 P M y0 (M.1 51 0 x1.toNatClampNeg)))
def s_X12_farOf (M : Mem) (x1 : Int32) (x2 : Int32) (x3 : Int32) (P : Int32 → Mem → Prop) : Prop :=
  (0 ≤ x2 → vp_in x2 12 ∧ (s_X12_farOf_19 x1 x2 x3 P M (M.1 48 0 x2.toNatClampNeg))) ∧ (¬ 0 ≤ x2 → vp_in x1 5 ∧ (s_X12_farOf_19 x1 x2 x3 P M (M.1 50 0 x1.toNatClampNeg)))
abbrev rm_X12_farOf : Room := { frames := 1, cells := 0, slots := 0, locals := 21 }
set_option maxHeartbeats 4000000 in
set_option maxRecDepth 100000 in
theorem c_X12_farOf (l : Launch) {G : Gn} {M : Mem} {x1 : Int32} {x2 : Int32} {x3 : Int32} {P : Int32 → Mem → Prop} : MQi l yX12_farOf cX12_farOf 8 (some .int) rm_X12_farOf [.ref (ad G 10 0), .int x1, .int x2, .int x3] G M (s_X12_farOf M x1 x2 x3 P) P := by
  refine m_enter (by decide +kernel) (Nat.le_of_ble_eq_true rfl) ?_
  intro p e s m below meth c ls H locs S hret hlocks hname hK hbs hW hS hl h
  obtain ⟨AV, hAV⟩ : ∃ z : Array Value, z = ([.ref (ad G 10 0), .int x1, .int x2, .int x3] : List Value).toArray := ⟨_, rfl⟩
  rw [← hAV] at S ⊢
  replace S : CallFix p m c cX12_farOf 8 s AV lw_G "MilkDeskModel" := S
  have hx := S.1
  have hb := S.2.1
  have hml := S.2.2.1
  have hown := S.2.2.2.1
  have hts := S.2.2.2.2
  replace hl : lv_has ls 8 [(0, .ref (ad G 10 0)), (1, .int x1), (2, .int x2), (3, .int x3)] := hl
  have b82 : ∀ (M : Mem) (x4 : Int32) (x5 : Int32) (x6 : Int32) (y0 : Int32) (H : Heap) (locs : List Loc) (ls : Array Slot), WPm G M H → va_S (fun q => bs G ≤ q) s.heap H locs → lv_has ls 8 [(4, .int x4), (5, .int x5), (6, .int x6)] → s_X12_farOf_82 P M x4 x5 x6 y0 → W p l e rm_X12_farOf s m AV below meth c H locs 0 0 (MQ below (va_Qi P (WS G) (fun q => bs G ≤ q)) AV s 0 0 (fun q => bs G ≤ q)) (F0 m 82 ls [.int y0]) := by
    intro M x4 x5 x6 y0 H locs ls hW hS hl h
    unfold s_X12_farOf_82 at h
    refine lv_istore (lv' := [(7, .int y0), (4, .int x4), (5, .int x5), (6, .int x6)]) hx hb dX12_farOf_82 hl (by decide) rfl (fun ls hl => ?_)
    refine lv_iload hx hb dX12_farOf_84 (lv_at hl 1 rfl) ?_
    refine lv_iload hx hb dX12_farOf_86 (lv_at hl 3 rfl) ?_
    refine m_ci0 (m_rS S hK hW (m_szH hbs hS) (c_X12_apart l ) h lk_X12_300 rfl hl.1 rfl ⟨Nat.le_of_ble_eq_true rfl, Nat.le_of_ble_eq_true rfl⟩ (Nat.le_of_ble_eq_true rfl) ⟨Nat.zero_le _, Nat.zero_le _⟩ dX12_farOf_88) hS rfl rfl (fun rr88 Mm88 H locs h hW hS => ?_)
    refine lv_iload hx hb dX12_farOf_91 (lv_at hl 2 rfl) ?_
    refine lv_iload hx hb dX12_farOf_93 (lv_at hl 0 rfl) ?_
    refine m_ci0 (m_rS S hK hW (m_szH hbs hS) (c_X12_apart l ) h lk_X12_300 rfl hl.1 rfl ⟨Nat.le_of_ble_eq_true rfl, Nat.le_of_ble_eq_true rfl⟩ (Nat.le_of_ble_eq_true rfl) ⟨Nat.zero_le _, Nat.zero_le _⟩ dX12_farOf_95) hS rfl rfl (fun rr95 Mm95 H locs h hW hS => ?_)
    refine lv_iadd hx hb dX12_farOf_98 ?_
    exact m_iret S hret hlocks hK hW hbs hS rfl h dX12_farOf_99
  have b61 : ∀ (M : Mem) (x4 : Int32) (x5 : Int32) (y0 : Int32) (H : Heap) (locs : List Loc) (ls : Array Slot), WPm G M H → va_S (fun q => bs G ≤ q) s.heap H locs → lv_has ls 8 [(0, .ref (ad G 10 0)), (1, .int x1), (3, .int x3), (4, .int x4), (5, .int x5)] → s_X12_farOf_61 x1 x3 P M x4 x5 y0 → W p l e rm_X12_farOf s m AV below meth c H locs 0 0 (MQ below (va_Qi P (WS G) (fun q => bs G ≤ q)) AV s 0 0 (fun q => bs G ≤ q)) (F0 m 61 ls [.int y0]) := by
    intro M x4 x5 y0 H locs ls hW hS hl h
    unfold s_X12_farOf_61 at h
    refine lv_istore (lv' := [(6, .int y0), (0, .ref (ad G 10 0)), (1, .int x1), (3, .int x3), (4, .int x4), (5, .int x5)]) hx hb dX12_farOf_61 hl (by decide) rfl (fun ls hl => ?_)
    refine lv_iload_n hx hb dX12_farOf_63 rfl (lv_at hl 3 rfl) ?_
    refine lv_if_ge (tgt := 76) hx hb dX12_farOf_64 (by decide) (fun c64 => ?_) (fun c64 => ?_)
    · replace h := h.1 c64
      refine lv_aload_n hx hb dX12_farOf_76 rfl (lv_at hl 1 rfl) ?_
      refine m_getr S hK fk_X12_25 (gr_10_7 G 0) hW (ci_10 (Nat.le_of_ble_eq_true rfl)) dX12_farOf_77 ?_
      refine lv_iload_n hx hb dX12_farOf_80 rfl (lv_at hl 3 rfl) ?_
      obtain ⟨hb81, h⟩ := h
      refine m_ald S hK (ar_49 G) hW (ci_49 (Nat.le_of_ble_eq_true rfl)) hb81 dX12_farOf_81 ?_
      exact b82 _ _ _ _ _ H locs ls hW hS (lv_sub hl [4, 5, 0] rfl) h
    · replace h := h.2 c64
      refine lv_aload_n hx hb dX12_farOf_67 rfl (lv_at hl 1 rfl) ?_
      refine m_getr S hK fk_X12_31 (gr_10_9 G 0) hW (ci_10 (Nat.le_of_ble_eq_true rfl)) dX12_farOf_68 ?_
      refine lv_iload_n hx hb dX12_farOf_71 rfl (lv_at hl 2 rfl) ?_
      obtain ⟨hb72, h⟩ := h
      refine m_ald S hK (ar_51 G) hW (ci_51 (Nat.le_of_ble_eq_true rfl)) hb72 dX12_farOf_72 ?_
      refine lv_goto (tgt := 82) hx hb dX12_farOf_73 (by decide) ?_
      exact b82 _ _ _ _ _ H locs ls hW hS (lv_sub hl [4, 5, 0] rfl) h
  have b40 : ∀ (M : Mem) (x4 : Int32) (y0 : Int32) (H : Heap) (locs : List Loc) (ls : Array Slot), WPm G M H → va_S (fun q => bs G ≤ q) s.heap H locs → lv_has ls 8 [(0, .ref (ad G 10 0)), (1, .int x1), (3, .int x3), (4, .int x4)] → s_X12_farOf_40 x1 x3 P M x4 y0 → W p l e rm_X12_farOf s m AV below meth c H locs 0 0 (MQ below (va_Qi P (WS G) (fun q => bs G ≤ q)) AV s 0 0 (fun q => bs G ≤ q)) (F0 m 40 ls [.int y0]) := by
    intro M x4 y0 H locs ls hW hS hl h
    unfold s_X12_farOf_40 at h
    refine lv_istore (lv' := [(5, .int y0), (0, .ref (ad G 10 0)), (1, .int x1), (3, .int x3), (4, .int x4)]) hx hb dX12_farOf_40 hl (by decide) rfl (fun ls hl => ?_)
    refine lv_iload_n hx hb dX12_farOf_42 rfl (lv_at hl 3 rfl) ?_
    refine lv_if_ge (tgt := 55) hx hb dX12_farOf_43 (by decide) (fun c43 => ?_) (fun c43 => ?_)
    · replace h := h.1 c43
      refine lv_aload_n hx hb dX12_farOf_55 rfl (lv_at hl 1 rfl) ?_
      refine m_getr S hK fk_X12_22 (gr_10_6 G 0) hW (ci_10 (Nat.le_of_ble_eq_true rfl)) dX12_farOf_56 ?_
      refine lv_iload_n hx hb dX12_farOf_59 rfl (lv_at hl 3 rfl) ?_
      obtain ⟨hb60, h⟩ := h
      refine m_ald S hK (ar_48 G) hW (ci_48 (Nat.le_of_ble_eq_true rfl)) hb60 dX12_farOf_60 ?_
      exact b61 _ _ _ _ H locs ls hW hS (lv_sub hl [1, 2, 3, 4, 0] rfl) h
    · replace h := h.2 c43
      refine lv_aload_n hx hb dX12_farOf_46 rfl (lv_at hl 1 rfl) ?_
      refine m_getr S hK fk_X12_28 (gr_10_8 G 0) hW (ci_10 (Nat.le_of_ble_eq_true rfl)) dX12_farOf_47 ?_
      refine lv_iload_n hx hb dX12_farOf_50 rfl (lv_at hl 2 rfl) ?_
      obtain ⟨hb51, h⟩ := h
      refine m_ald S hK (ar_50 G) hW (ci_50 (Nat.le_of_ble_eq_true rfl)) hb51 dX12_farOf_51 ?_
      refine lv_goto (tgt := 61) hx hb dX12_farOf_52 (by decide) ?_
      exact b61 _ _ _ _ H locs ls hW hS (lv_sub hl [1, 2, 3, 4, 0] rfl) h
  have b19 : ∀ (M : Mem) (y0 : Int32) (H : Heap) (locs : List Loc) (ls : Array Slot), WPm G M H → va_S (fun q => bs G ≤ q) s.heap H locs → lv_has ls 8 [(0, .ref (ad G 10 0)), (1, .int x1), (2, .int x2), (3, .int x3)] → s_X12_farOf_19 x1 x2 x3 P M y0 → W p l e rm_X12_farOf s m AV below meth c H locs 0 0 (MQ below (va_Qi P (WS G) (fun q => bs G ≤ q)) AV s 0 0 (fun q => bs G ≤ q)) (F0 m 19 ls [.int y0]) := by
    intro M y0 H locs ls hW hS hl h
    unfold s_X12_farOf_19 at h
    refine lv_istore (lv' := [(4, .int y0), (0, .ref (ad G 10 0)), (1, .int x1), (2, .int x2), (3, .int x3)]) hx hb dX12_farOf_19 hl (by decide) rfl (fun ls hl => ?_)
    refine lv_iload_n hx hb dX12_farOf_21 rfl (lv_at hl 3 rfl) ?_
    refine lv_if_ge (tgt := 34) hx hb dX12_farOf_22 (by decide) (fun c22 => ?_) (fun c22 => ?_)
    · replace h := h.1 c22
      refine lv_aload_n hx hb dX12_farOf_34 rfl (lv_at hl 1 rfl) ?_
      refine m_getr S hK fk_X12_25 (gr_10_7 G 0) hW (ci_10 (Nat.le_of_ble_eq_true rfl)) dX12_farOf_35 ?_
      refine lv_iload_n hx hb dX12_farOf_38 rfl (lv_at hl 3 rfl) ?_
      obtain ⟨hb39, h⟩ := h
      refine m_ald S hK (ar_49 G) hW (ci_49 (Nat.le_of_ble_eq_true rfl)) hb39 dX12_farOf_39 ?_
      exact b40 _ _ _ H locs ls hW hS (lv_sub hl [1, 2, 4, 0] rfl) h
    · replace h := h.2 c22
      refine lv_aload_n hx hb dX12_farOf_25 rfl (lv_at hl 1 rfl) ?_
      refine m_getr S hK fk_X12_31 (gr_10_9 G 0) hW (ci_10 (Nat.le_of_ble_eq_true rfl)) dX12_farOf_26 ?_
      refine lv_iload_n hx hb dX12_farOf_29 rfl (lv_at hl 2 rfl) ?_
      obtain ⟨hb30, h⟩ := h
      refine m_ald S hK (ar_51 G) hW (ci_51 (Nat.le_of_ble_eq_true rfl)) hb30 dX12_farOf_30 ?_
      refine lv_goto (tgt := 40) hx hb dX12_farOf_31 (by decide) ?_
      exact b40 _ _ _ H locs ls hW hS (lv_sub hl [1, 2, 4, 0] rfl) h
  unfold s_X12_farOf at h
  refine lv_iload_n hx hb dX12_farOf_0 rfl (lv_at hl 2 rfl) ?_
  refine lv_if_ge (tgt := 13) hx hb dX12_farOf_1 (by decide) (fun c1 => ?_) (fun c1 => ?_)
  · replace h := h.1 c1
    refine lv_aload_n hx hb dX12_farOf_13 rfl (lv_at hl 0 rfl) ?_
    refine m_getr S hK fk_X12_22 (gr_10_6 G 0) hW (ci_10 (Nat.le_of_ble_eq_true rfl)) dX12_farOf_14 ?_
    refine lv_iload_n hx hb dX12_farOf_17 rfl (lv_at hl 2 rfl) ?_
    obtain ⟨hb18, h⟩ := h
    refine m_ald S hK (ar_48 G) hW (ci_48 (Nat.le_of_ble_eq_true rfl)) hb18 dX12_farOf_18 ?_
    exact b19 _ _ H locs ls hW hS (lv_sub hl [0, 1, 2, 3] rfl) h
  · replace h := h.2 c1
    refine lv_aload_n hx hb dX12_farOf_4 rfl (lv_at hl 0 rfl) ?_
    refine m_getr S hK fk_X12_28 (gr_10_8 G 0) hW (ci_10 (Nat.le_of_ble_eq_true rfl)) dX12_farOf_5 ?_
    refine lv_iload_n hx hb dX12_farOf_8 rfl (lv_at hl 1 rfl) ?_
    obtain ⟨hb9, h⟩ := h
    refine m_ald S hK (ar_50 G) hW (ci_50 (Nat.le_of_ble_eq_true rfl)) hb9 dX12_farOf_9 ?_
    refine lv_goto (tgt := 19) hx hb dX12_farOf_10 (by decide) ?_
    exact b19 _ _ H locs ls hW hS (lv_sub hl [0, 1, 2, 3] rfl) h
def s_X12_findRound_270 (x1 : Int32) (x2 : Int32) (x3 : Int32) (x4 : Int32) (x5 : Int32) (P : Int32 → Mem → Prop) (K36 : Mem × Int32 × Int32 → Prop) (K270 : Mem × Int32 → Prop) (M : Mem) (x11 : Int32) : Prop :=
  ((M.1 10 0 44) ≤ x11 → ∀ x5_299 : Int32, x5_299 = x5 + (1 : Int32) → K36 (M, x3, x5_299)) ∧ (¬ (M.1 10 0 44) ≤ x11 → vp_in x11 7 ∧ (vp_in x11 7 ∧ (∀ Mm292 : Mem, Mm292 = wI M 71 0 (x11.toNatClampNeg) (M.1 70 0 x11.toNatClampNeg) → ∀ x11_293 : Int32, x11_293 = x11 + (1 : Int32) → K270 (Mm292, x11_293))))
def s_X12_findRound_264 (x1 : Int32) (x2 : Int32) (x4 : Int32) (P : Int32 → Mem → Prop) (K36 : Mem × Int32 × Int32 → Prop) (M : Mem) (x5 : Int32) (x9 : Int32) : Prop :=
  ∃ n, Lz (fun (K270 : Mem × Int32 → Prop) (a : Mem × Int32) => s_X12_findRound_270 x1 x2 x9 x4 x5 P K36 K270 a.1 a.2) n (M, (0 : Int32))
def s_X12_findRound_246 (x1 : Int32) (x2 : Int32) (x4 : Int32) (P : Int32 → Mem → Prop) (K36 : Mem × Int32 × Int32 → Prop) (M : Mem) (x3 : Int32) (x5 : Int32) (x8 : Int32) (y0 : Int32) (y1 : Int32) : Prop :=
  ∀ x9_247 : Int32, x9_247 = (y1 + y0) → (x8 = 0 → ∀ x5_299 : Int32, x5_299 = x5 + (1 : Int32) → K36 (M, x3, x5_299)) ∧ (¬ x8 = 0 → (x3 < 0 → s_X12_findRound_264 x1 x2 x4 P K36 M x5 x9_247) ∧ (¬ x3 < 0 → (x3 ≤ x9_247 → ∀ x5_299 : Int32, x5_299 = x5 + (1 : Int32) → K36 (M, x3, x5_299)) ∧ (¬ x3 ≤ x9_247 → s_X12_findRound_264 x1 x2 x4 P K36 M x5 x9_247)))
def s_X12_findRound_227 (x1 : Int32) (x2 : Int32) (x4 : Int32) (P : Int32 → Mem → Prop) (K36 : Mem × Int32 × Int32 → Prop) (M : Mem) (x3 : Int32) (x5 : Int32) (x8 : Int32) (x9 : Int32) (x10 : Int32) : Prop :=
  (x8 = 0 → s_X12_findRound_246 x1 x2 x4 P K36 M x3 x5 x8 (0 : Int32) x9) ∧ (¬ x8 = 0 → s_X12_farOf M x1 x10 (-1 : Int32) (fun rr239 Mm239 => s_X12_findRound_246 x1 x2 x4 P K36 Mm239 x3 x5 x8 rr239 x9))
def s_X12_findRound_219 (x1 : Int32) (x2 : Int32) (x3 : Int32) (x4 : Int32) (x5 : Int32) (P : Int32 → Mem → Prop) (K36 : Mem × Int32 × Int32 → Prop) (K150 : Mem × Int32 × Int32 × Int32 × Int32 → Prop) (M : Mem) (x9 : Int32) (x10 : Int32) (x11 : Int32) (y0 : Int32) : Prop :=
  ∀ x11_221 : Int32, x11_221 = x11 + (1 : Int32) → K150 (M, y0, x9, x10, x11_221)
def s_X12_findRound_150 (x1 : Int32) (x2 : Int32) (x3 : Int32) (x4 : Int32) (x5 : Int32) (P : Int32 → Mem → Prop) (K36 : Mem × Int32 × Int32 → Prop) (K150 : Mem × Int32 × Int32 × Int32 × Int32 → Prop) (M : Mem) (x8 : Int32) (x9 : Int32) (x10 : Int32) (x11 : Int32) : Prop :=
  ((M.1 10 0 44) ≤ x11 → s_X12_findRound_227 x1 x2 x4 P K36 M x3 x5 x8 x9 x10) ∧ (¬ (M.1 10 0 44) ≤ x11 → (x8 = 0 → s_X12_findRound_227 x1 x2 x4 P K36 M x3 x5 x8 x9 x10) ∧ (¬ x8 = 0 → vp_in x11 7 ∧ (s_X12_farOf M x1 x10 (M.1 70 0 x11.toNatClampNeg) (fun rr177 Mm177 => ∀ x9_181 : Int32, x9_181 = (x9 + rr177) → vp_in x11 7 ∧ (∀ x10_190 : Int32, x10_190 = (Mm177.1 70 0 x11.toNatClampNeg) → vp_in x11 7 ∧ (vp_in ((50 : Int32) + (Mm177.1 70 0 x11.toNatClampNeg)) 320 ∧ (((Mm177.1 44 0 ((50 : Int32) + (Mm177.1 70 0 x11.toNatClampNeg)).toNatClampNeg) < (x2 + x9_181) → s_X12_findRound_219 x1 x2 x3 x4 x5 P K36 K150 Mm177 x9_181 x10_190 x11 (0 : Int32)) ∧ (¬ (Mm177.1 44 0 ((50 : Int32) + (Mm177.1 70 0 x11.toNatClampNeg)).toNatClampNeg) < (x2 + x9_181) → s_X12_findRound_219 x1 x2 x3 x4 x5 P K36 K150 Mm177 x9_181 x10_190 x11 (1 : Int32)))))))))
def s_X12_findRound_110 (x1 : Int32) (x2 : Int32) (x3 : Int32) (x4 : Int32) (x5 : Int32) (P : Int32 → Mem → Prop) (K36 : Mem × Int32 × Int32 → Prop) (K61 : Mem × Int32 × Int32 × Int32 × Int32 → Prop) (M : Mem) (x6 : Int32) (x7 : Int32) (x9 : Int32) (y0 : Int32) : Prop :=
  ¬ (M.1 10 0 44) = 0 ∧ (∀ x7_124 : Int32, x7_124 = (x7 ||| ((1 : Int32) <<< ((x6 - x6 / (M.1 10 0 44) * (M.1 10 0 44)) &&& 31))) → ¬ (M.1 10 0 44) = 0 ∧ (∀ x6_133 : Int32, x6_133 = (x6 / (M.1 10 0 44)) → ∀ x9_135 : Int32, x9_135 = x9 + (-1 : Int32) → K61 (M, x6_133, x7_124, y0, x9_135)))
def s_X12_findRound_61 (x1 : Int32) (x2 : Int32) (x3 : Int32) (x4 : Int32) (x5 : Int32) (P : Int32 → Mem → Prop) (K36 : Mem × Int32 × Int32 → Prop) (K61 : Mem × Int32 × Int32 × Int32 × Int32 → Prop) (M : Mem) (x6 : Int32) (x7 : Int32) (x8 : Int32) (x9 : Int32) : Prop :=
  (x9 < 0 → ∃ n, Lz (fun (K150 : Mem × Int32 × Int32 × Int32 × Int32 → Prop) (a : Mem × Int32 × Int32 × Int32 × Int32) => s_X12_findRound_150 x1 x2 x3 x4 x5 P K36 K150 a.1 a.2.1 a.2.2.1 a.2.2.2.1 a.2.2.2.2) n (M, x8, (0 : Int32), (-1 : Int32), (0 : Int32))) ∧ (¬ x9 < 0 → ¬ (M.1 10 0 44) = 0 ∧ (vp_in (x6 - x6 / (M.1 10 0 44) * (M.1 10 0 44)) 7 ∧ (vp_in x9 7 ∧ (∀ Mm84 : Mem, Mm84 = wI M 70 0 (x9.toNatClampNeg) (M.1 69 0 (x6 - x6 / (M.1 10 0 44) * (M.1 10 0 44)).toNatClampNeg) → (x8 = 0 → s_X12_findRound_110 x1 x2 x3 x4 x5 P K36 K61 Mm84 x6 x7 x9 (0 : Int32)) ∧ (¬ x8 = 0 → ¬ (Mm84.1 10 0 44) = 0 ∧ ((¬ ((x7 >>> ((x6 - x6 / (Mm84.1 10 0 44) * (Mm84.1 10 0 44)) &&& 31)) &&& (1 : Int32)) = 0 → s_X12_findRound_110 x1 x2 x3 x4 x5 P K36 K61 Mm84 x6 x7 x9 (0 : Int32)) ∧ (((x7 >>> ((x6 - x6 / (Mm84.1 10 0 44) * (Mm84.1 10 0 44)) &&& 31)) &&& (1 : Int32)) = 0 → s_X12_findRound_110 x1 x2 x3 x4 x5 P K36 K61 Mm84 x6 x7 x9 (1 : Int32))))))))
def s_X12_findRound_36 (x1 : Int32) (x2 : Int32) (x4 : Int32) (P : Int32 → Mem → Prop) (K36 : Mem × Int32 × Int32 → Prop) (M : Mem) (x3 : Int32) (x5 : Int32) : Prop :=
  (x4 ≤ x5 → P x3 M) ∧ (¬ x4 ≤ x5 → ∀ x9_59 : Int32, x9_59 = ((M.1 10 0 44) - (1 : Int32)) → ∃ n, Lz (fun (K61 : Mem × Int32 × Int32 × Int32 × Int32 → Prop) (a : Mem × Int32 × Int32 × Int32 × Int32) => s_X12_findRound_61 x1 x2 x3 x4 x5 P K36 K61 a.1 a.2.1 a.2.2.1 a.2.2.2.1 a.2.2.2.2) n (M, x5, (0 : Int32), (1 : Int32), x9_59))
def s_X12_findRound_9 (x1 : Int32) (x2 : Int32) (x3 : Int32) (P : Int32 → Mem → Prop) (K9 : Mem × Int32 × Int32 → Prop) (M : Mem) (x4 : Int32) (x5 : Int32) : Prop :=
  ((M.1 10 0 44) ≤ x5 → ∃ n, Lz (fun (K36 : Mem × Int32 × Int32 → Prop) (a : Mem × Int32 × Int32) => s_X12_findRound_36 x1 x2 x4 P K36 a.1 a.2.1 a.2.2) n (M, x3, (0 : Int32))) ∧ (¬ (M.1 10 0 44) ≤ x5 → ∀ x4_25 : Int32, x4_25 = (x4 * (M.1 10 0 44)) → ∀ x5_27 : Int32, x5_27 = x5 + (1 : Int32) → K9 (M, x4_25, x5_27))
def s_X12_findRound (M : Mem) (x1 : Int32) (x2 : Int32) (P : Int32 → Mem → Prop) : Prop :=
  ∃ n, Lz (fun (K9 : Mem × Int32 × Int32 → Prop) (a : Mem × Int32 × Int32) => s_X12_findRound_9 x1 x2 (-4 : Int32) P K9 a.1 a.2.1 a.2.2) n (M, (1 : Int32), (0 : Int32))
abbrev rm_X12_findRound : Room := { frames := 2, cells := 0, slots := 0, locals := 48 }
set_option maxHeartbeats 4000000 in
set_option maxRecDepth 100000 in
theorem c_X12_findRound (l : Launch) {G : Gn} {M : Mem} {x1 : Int32} {x2 : Int32} {P : Int32 → Mem → Prop} : MQi l yX12_findRound cX12_findRound 12 (some .int) rm_X12_findRound [.ref (ad G 10 0), .int x1, .int x2] G M (s_X12_findRound M x1 x2 P) P := by
  refine m_enter (by decide +kernel) (Nat.le_of_ble_eq_true rfl) ?_
  intro p e s m below meth c ls H locs S hret hlocks hname hK hbs hW hS hl h
  obtain ⟨AV, hAV⟩ : ∃ z : Array Value, z = ([.ref (ad G 10 0), .int x1, .int x2] : List Value).toArray := ⟨_, rfl⟩
  rw [← hAV] at S ⊢
  replace S : CallFix p m c cX12_findRound 12 s AV lw_G "MilkDeskModel" := S
  have hx := S.1
  have hb := S.2.1
  have hml := S.2.2.1
  have hown := S.2.2.2.1
  have hts := S.2.2.2.2
  replace hl : lv_has ls 12 [(0, .ref (ad G 10 0)), (1, .int x1), (2, .int x2)] := hl
  have w36 : ∀ (x4 : Int32), ∀ (n : Nat) (a : Mem × Int32 × Int32), Lz (fun (K36 : Mem × Int32 × Int32 → Prop) (a : Mem × Int32 × Int32) => s_X12_findRound_36 x1 x2 x4 P K36 a.1 a.2.1 a.2.2) n a → ∀ (H : Heap) (locs : List Loc) (ls : Array Slot), WPm G a.1 H → va_S (fun q => bs G ≤ q) s.heap H locs → lv_has ls 12 [(0, .ref (ad G 10 0)), (1, .int x1), (2, .int x2), (3, .int a.2.1), (4, .int x4), (5, .int a.2.2)] → W p l e rm_X12_findRound s m AV below meth c H locs 0 0 (MQ below (va_Qi P (WS G) (fun q => bs G ≤ q)) AV s 0 0 (fun q => bs G ≤ q)) (F0 m 36 ls []) := by
    intro x4
    refine Lz_walk ?_
    rintro K36 kk36 ⟨M, x3, x5⟩ h H locs ls hW hS hl
    replace h : s_X12_findRound_36 x1 x2 x4 P K36 M x3 x5 := h
    replace hW : WPm G M H := hW
    replace hl : lv_has ls 12 [(0, .ref (ad G 10 0)), (1, .int x1), (2, .int x2), (3, .int x3), (4, .int x4), (5, .int x5)] := hl
    have w270 : ∀ (x3 : Int32) (x5 : Int32), ∀ (n : Nat) (a : Mem × Int32), Lz (fun (K270 : Mem × Int32 → Prop) (a : Mem × Int32) => s_X12_findRound_270 x1 x2 x3 x4 x5 P K36 K270 a.1 a.2) n a → ∀ (H : Heap) (locs : List Loc) (ls : Array Slot), WPm G a.1 H → va_S (fun q => bs G ≤ q) s.heap H locs → lv_has ls 12 [(0, .ref (ad G 10 0)), (1, .int x1), (2, .int x2), (3, .int x3), (4, .int x4), (5, .int x5), (11, .int a.2)] → W p l e rm_X12_findRound s m AV below meth c H locs 0 0 (MQ below (va_Qi P (WS G) (fun q => bs G ≤ q)) AV s 0 0 (fun q => bs G ≤ q)) (F0 m 270 ls []) := by
      intro x3 x5
      refine Lz_walk ?_
      rintro K270 kk270 ⟨M, x11⟩ h H locs ls hW hS hl
      replace h : s_X12_findRound_270 x1 x2 x3 x4 x5 P K36 K270 M x11 := h
      replace hW : WPm G M H := hW
      replace hl : lv_has ls 12 [(0, .ref (ad G 10 0)), (1, .int x1), (2, .int x2), (3, .int x3), (4, .int x4), (5, .int x5), (11, .int x11)] := hl
      unfold s_X12_findRound_270 at h
      refine lv_iload hx hb dX12_findRound_270 (lv_at hl 6 rfl) ?_
      refine lv_aload_n hx hb dX12_findRound_272 rfl (lv_at hl 0 rfl) ?_
      refine m_geti S hK fk_X12_303 (gi_10_44 G) hW (ci_10 (Nat.le_of_ble_eq_true rfl)) dX12_findRound_273 ?_
      refine lv_icmp_ge (tgt := 299) hx hb dX12_findRound_276 (by decide) (fun c276 => ?_) (fun c276 => ?_)
      · replace h := h.1 c276
        obtain ⟨x5_299, ex5_299⟩ : ∃ z : Int32, z = x5 + (1 : Int32) := ⟨_, rfl⟩
        replace h := h x5_299 ex5_299
        refine lv_iinc (v := x5_299) (lv' := [(5, .int x5_299), (0, .ref (ad G 10 0)), (1, .int x1), (2, .int x2), (3, .int x3), (4, .int x4), (11, .int x11)]) hx hb dX12_findRound_299 hl (k := 5) rfl (by rw [ex5_299, ki_1]) (by decide) rfl (fun ls hl => ?_)
        refine lv_goto (tgt := 36) hx hb dX12_findRound_302 (by decide) ?_
        exact kk36 _ h H locs ls hW hS (lv_sub hl [1, 2, 3, 4, 5, 0] rfl)
      · replace h := h.2 c276
        refine lv_aload_n hx hb dX12_findRound_279 rfl (lv_at hl 0 rfl) ?_
        refine m_getr S hK fk_X12_99 (gr_10_43 G 0) hW (ci_10 (Nat.le_of_ble_eq_true rfl)) dX12_findRound_280 ?_
        refine lv_iload hx hb dX12_findRound_283 (lv_at hl 6 rfl) ?_
        refine lv_aload_n hx hb dX12_findRound_285 rfl (lv_at hl 0 rfl) ?_
        refine m_getr S hK fk_X12_96 (gr_10_42 G 0) hW (ci_10 (Nat.le_of_ble_eq_true rfl)) dX12_findRound_286 ?_
        refine lv_iload hx hb dX12_findRound_289 (lv_at hl 6 rfl) ?_
        obtain ⟨hb291, h⟩ := h
        refine m_ald S hK (ar_70 G) hW (ci_70 (Nat.le_of_ble_eq_true rfl)) hb291 dX12_findRound_291 ?_
        obtain ⟨hb292, h⟩ := h
        refine m_ast S hK (ar_71 G) hW hS (ci_71 (Nat.le_of_ble_eq_true rfl)) hb292 dX12_findRound_292 (fun Mm292 eMm292 H locs hW hS => ?_)
        replace h := h Mm292 eMm292
        obtain ⟨x11_293, ex11_293⟩ : ∃ z : Int32, z = x11 + (1 : Int32) := ⟨_, rfl⟩
        replace h := h x11_293 ex11_293
        refine lv_iinc (v := x11_293) (lv' := [(11, .int x11_293), (0, .ref (ad G 10 0)), (1, .int x1), (2, .int x2), (3, .int x3), (4, .int x4), (5, .int x5)]) hx hb dX12_findRound_293 hl (k := 6) rfl (by rw [ex11_293, ki_1]) (by decide) rfl (fun ls hl => ?_)
        refine lv_goto (tgt := 270) hx hb dX12_findRound_296 (by decide) ?_
        exact kk270 _ h H locs ls hW hS (lv_sub hl [1, 2, 3, 4, 5, 6, 0] rfl)
    have b264 : ∀ (M : Mem) (x5 : Int32) (x9 : Int32) (H : Heap) (locs : List Loc) (ls : Array Slot), WPm G M H → va_S (fun q => bs G ≤ q) s.heap H locs → lv_has ls 12 [(0, .ref (ad G 10 0)), (1, .int x1), (2, .int x2), (4, .int x4), (5, .int x5), (9, .int x9)] → s_X12_findRound_264 x1 x2 x4 P K36 M x5 x9 → W p l e rm_X12_findRound s m AV below meth c H locs 0 0 (MQ below (va_Qi P (WS G) (fun q => bs G ≤ q)) AV s 0 0 (fun q => bs G ≤ q)) (F0 m 264 ls []) := by
      intro M x5 x9 H locs ls hW hS hl h
      unfold s_X12_findRound_264 at h
      refine lv_iload hx hb dX12_findRound_264 (lv_at hl 5 rfl) ?_
      refine lv_istore_n (lv' := [(3, .int x9), (0, .ref (ad G 10 0)), (1, .int x1), (2, .int x2), (4, .int x4), (5, .int x5), (9, .int x9)]) hx hb dX12_findRound_266 rfl hl (by decide) rfl (fun ls hl => ?_)
      refine lv_iconst hx hb dX12_findRound_267 ki_0 ?_
      refine lv_istore (lv' := [(11, .int (0 : Int32)), (3, .int x9), (0, .ref (ad G 10 0)), (1, .int x1), (2, .int x2), (4, .int x4), (5, .int x5), (9, .int x9)]) hx hb dX12_findRound_268 hl (by decide) rfl (fun ls hl => ?_)
      obtain ⟨n270, h⟩ := h
      exact w270 _ _ n270 _ h H locs ls hW hS (lv_sub hl [2, 3, 4, 1, 5, 6, 0] rfl)
    have b246 : ∀ (M : Mem) (x3 : Int32) (x5 : Int32) (x8 : Int32) (y0 : Int32) (y1 : Int32) (H : Heap) (locs : List Loc) (ls : Array Slot), WPm G M H → va_S (fun q => bs G ≤ q) s.heap H locs → lv_has ls 12 [(0, .ref (ad G 10 0)), (1, .int x1), (2, .int x2), (3, .int x3), (4, .int x4), (5, .int x5), (8, .int x8)] → s_X12_findRound_246 x1 x2 x4 P K36 M x3 x5 x8 y0 y1 → W p l e rm_X12_findRound s m AV below meth c H locs 0 0 (MQ below (va_Qi P (WS G) (fun q => bs G ≤ q)) AV s 0 0 (fun q => bs G ≤ q)) (F0 m 246 ls [.int y0, .int y1]) := by
      intro M x3 x5 x8 y0 y1 H locs ls hW hS hl h
      unfold s_X12_findRound_246 at h
      refine lv_iadd hx hb dX12_findRound_246 ?_
      refine lv_topi (fun x9_247 ex9_247 => ?_)
      replace h := h x9_247 ex9_247
      refine lv_istore (lv' := [(9, .int x9_247), (0, .ref (ad G 10 0)), (1, .int x1), (2, .int x2), (3, .int x3), (4, .int x4), (5, .int x5), (8, .int x8)]) hx hb dX12_findRound_247 hl (by decide) rfl (fun ls hl => ?_)
      refine lv_iload hx hb dX12_findRound_249 (lv_at hl 7 rfl) ?_
      refine lv_if_eq (tgt := 299) hx hb dX12_findRound_251 (by decide) (fun c251 => ?_) (fun c251 => ?_)
      · replace h := h.1 c251
        obtain ⟨x5_299, ex5_299⟩ : ∃ z : Int32, z = x5 + (1 : Int32) := ⟨_, rfl⟩
        replace h := h x5_299 ex5_299
        refine lv_iinc (v := x5_299) (lv' := [(5, .int x5_299), (9, .int x9_247), (0, .ref (ad G 10 0)), (1, .int x1), (2, .int x2), (3, .int x3), (4, .int x4), (8, .int x8)]) hx hb dX12_findRound_299 hl (k := 6) rfl (by rw [ex5_299, ki_1]) (by decide) rfl (fun ls hl => ?_)
        refine lv_goto (tgt := 36) hx hb dX12_findRound_302 (by decide) ?_
        exact kk36 _ h H locs ls hW hS (lv_sub hl [2, 3, 4, 5, 6, 0] rfl)
      · replace h := h.2 c251
        refine lv_iload_n hx hb dX12_findRound_254 rfl (lv_at hl 4 rfl) ?_
        refine lv_if_lt (tgt := 264) hx hb dX12_findRound_255 (by decide) (fun c255 => ?_) (fun c255 => ?_)
        · replace h := h.1 c255
          exact b264 _ _ _ H locs ls hW hS (lv_sub hl [1, 2, 3, 5, 6, 0] rfl) h
        · replace h := h.2 c255
          refine lv_iload hx hb dX12_findRound_258 (lv_at hl 0 rfl) ?_
          refine lv_iload_n hx hb dX12_findRound_260 rfl (lv_at hl 4 rfl) ?_
          refine lv_icmp_ge (tgt := 299) hx hb dX12_findRound_261 (by decide) (fun c261 => ?_) (fun c261 => ?_)
          · replace h := h.1 c261
            obtain ⟨x5_299, ex5_299⟩ : ∃ z : Int32, z = x5 + (1 : Int32) := ⟨_, rfl⟩
            replace h := h x5_299 ex5_299
            refine lv_iinc (v := x5_299) (lv' := [(5, .int x5_299), (9, .int x9_247), (0, .ref (ad G 10 0)), (1, .int x1), (2, .int x2), (3, .int x3), (4, .int x4), (8, .int x8)]) hx hb dX12_findRound_299 hl (k := 6) rfl (by rw [ex5_299, ki_1]) (by decide) rfl (fun ls hl => ?_)
            refine lv_goto (tgt := 36) hx hb dX12_findRound_302 (by decide) ?_
            exact kk36 _ h H locs ls hW hS (lv_sub hl [2, 3, 4, 5, 6, 0] rfl)
          · replace h := h.2 c261
            exact b264 _ _ _ H locs ls hW hS (lv_sub hl [1, 2, 3, 5, 6, 0] rfl) h
    have b227 : ∀ (M : Mem) (x3 : Int32) (x5 : Int32) (x8 : Int32) (x9 : Int32) (x10 : Int32) (H : Heap) (locs : List Loc) (ls : Array Slot), WPm G M H → va_S (fun q => bs G ≤ q) s.heap H locs → lv_has ls 12 [(0, .ref (ad G 10 0)), (1, .int x1), (2, .int x2), (3, .int x3), (4, .int x4), (5, .int x5), (8, .int x8), (9, .int x9), (10, .int x10)] → s_X12_findRound_227 x1 x2 x4 P K36 M x3 x5 x8 x9 x10 → W p l e rm_X12_findRound s m AV below meth c H locs 0 0 (MQ below (va_Qi P (WS G) (fun q => bs G ≤ q)) AV s 0 0 (fun q => bs G ≤ q)) (F0 m 227 ls []) := by
      intro M x3 x5 x8 x9 x10 H locs ls hW hS hl h
      unfold s_X12_findRound_227 at h
      refine lv_iload hx hb dX12_findRound_227 (lv_at hl 7 rfl) ?_
      refine lv_iload hx hb dX12_findRound_229 (lv_at hl 6 rfl) ?_
      refine lv_if_eq (tgt := 245) hx hb dX12_findRound_231 (by decide) (fun c231 => ?_) (fun c231 => ?_)
      · replace h := h.1 c231
        refine lv_iconst hx hb dX12_findRound_245 ki_0 ?_
        exact b246 _ _ _ _ _ _ H locs ls hW hS (lv_sub hl [0, 1, 2, 3, 4, 5, 6] rfl) h
      · replace h := h.2 c231
        refine lv_aload_n hx hb dX12_findRound_234 rfl (lv_at hl 0 rfl) ?_
        refine lv_iload_n hx hb dX12_findRound_235 rfl (lv_at hl 1 rfl) ?_
        refine lv_iload hx hb dX12_findRound_236 (lv_at hl 8 rfl) ?_
        refine lv_iconst hx hb dX12_findRound_238 ki_m1 ?_
        refine m_ci0 (m_rV S hK hW (m_szH hbs hS) (c_X12_farOf l ) h lk_X12_306 (m_recv hK hW (ci_10 (Nat.le_of_ble_eq_true rfl)) (rc_10 G) rfl) rfl hl.1 rfl ⟨Nat.le_of_ble_eq_true rfl, Nat.le_of_ble_eq_true rfl⟩ (Nat.le_of_ble_eq_true rfl) ⟨Nat.zero_le _, Nat.zero_le _⟩ dX12_findRound_239) hS rfl rfl (fun rr239 Mm239 H locs h hW hS => ?_)
        refine lv_goto (tgt := 246) hx hb dX12_findRound_242 (by decide) ?_
        exact b246 _ _ _ _ _ _ H locs ls hW hS (lv_sub hl [0, 1, 2, 3, 4, 5, 6] rfl) h
    have w150 : ∀ (x3 : Int32) (x5 : Int32), ∀ (n : Nat) (a : Mem × Int32 × Int32 × Int32 × Int32), Lz (fun (K150 : Mem × Int32 × Int32 × Int32 × Int32 → Prop) (a : Mem × Int32 × Int32 × Int32 × Int32) => s_X12_findRound_150 x1 x2 x3 x4 x5 P K36 K150 a.1 a.2.1 a.2.2.1 a.2.2.2.1 a.2.2.2.2) n a → ∀ (H : Heap) (locs : List Loc) (ls : Array Slot), WPm G a.1 H → va_S (fun q => bs G ≤ q) s.heap H locs → lv_has ls 12 [(0, .ref (ad G 10 0)), (1, .int x1), (2, .int x2), (3, .int x3), (4, .int x4), (5, .int x5), (8, .int a.2.1), (9, .int a.2.2.1), (10, .int a.2.2.2.1), (11, .int a.2.2.2.2)] → W p l e rm_X12_findRound s m AV below meth c H locs 0 0 (MQ below (va_Qi P (WS G) (fun q => bs G ≤ q)) AV s 0 0 (fun q => bs G ≤ q)) (F0 m 150 ls []) := by
      intro x3 x5
      refine Lz_walk ?_
      rintro K150 kk150 ⟨M, x8, x9, x10, x11⟩ h H locs ls hW hS hl
      replace h : s_X12_findRound_150 x1 x2 x3 x4 x5 P K36 K150 M x8 x9 x10 x11 := h
      replace hW : WPm G M H := hW
      replace hl : lv_has ls 12 [(0, .ref (ad G 10 0)), (1, .int x1), (2, .int x2), (3, .int x3), (4, .int x4), (5, .int x5), (8, .int x8), (9, .int x9), (10, .int x10), (11, .int x11)] := hl
      have b219 : ∀ (M : Mem) (x9 : Int32) (x10 : Int32) (x11 : Int32) (y0 : Int32) (H : Heap) (locs : List Loc) (ls : Array Slot), WPm G M H → va_S (fun q => bs G ≤ q) s.heap H locs → lv_has ls 12 [(0, .ref (ad G 10 0)), (1, .int x1), (2, .int x2), (3, .int x3), (4, .int x4), (5, .int x5), (9, .int x9), (10, .int x10), (11, .int x11)] → s_X12_findRound_219 x1 x2 x3 x4 x5 P K36 K150 M x9 x10 x11 y0 → W p l e rm_X12_findRound s m AV below meth c H locs 0 0 (MQ below (va_Qi P (WS G) (fun q => bs G ≤ q)) AV s 0 0 (fun q => bs G ≤ q)) (F0 m 219 ls [.int y0]) := by
        intro M x9 x10 x11 y0 H locs ls hW hS hl h
        unfold s_X12_findRound_219 at h
        refine lv_istore (lv' := [(8, .int y0), (0, .ref (ad G 10 0)), (1, .int x1), (2, .int x2), (3, .int x3), (4, .int x4), (5, .int x5), (9, .int x9), (10, .int x10), (11, .int x11)]) hx hb dX12_findRound_219 hl (by decide) rfl (fun ls hl => ?_)
        obtain ⟨x11_221, ex11_221⟩ : ∃ z : Int32, z = x11 + (1 : Int32) := ⟨_, rfl⟩
        replace h := h x11_221 ex11_221
        refine lv_iinc (v := x11_221) (lv' := [(11, .int x11_221), (8, .int y0), (0, .ref (ad G 10 0)), (1, .int x1), (2, .int x2), (3, .int x3), (4, .int x4), (5, .int x5), (9, .int x9), (10, .int x10)]) hx hb dX12_findRound_221 hl (k := 9) rfl (by rw [ex11_221, ki_1]) (by decide) rfl (fun ls hl => ?_)
        refine lv_goto (tgt := 150) hx hb dX12_findRound_224 (by decide) ?_
        exact kk150 _ h H locs ls hW hS (lv_sub hl [2, 3, 4, 5, 6, 7, 1, 8, 9, 0] rfl)
      unfold s_X12_findRound_150 at h
      refine lv_iload hx hb dX12_findRound_150 (lv_at hl 9 rfl) ?_
      refine lv_aload_n hx hb dX12_findRound_152 rfl (lv_at hl 0 rfl) ?_
      refine m_geti S hK fk_X12_303 (gi_10_44 G) hW (ci_10 (Nat.le_of_ble_eq_true rfl)) dX12_findRound_153 ?_
      refine lv_icmp_ge (tgt := 227) hx hb dX12_findRound_156 (by decide) (fun c156 => ?_) (fun c156 => ?_)
      · replace h := h.1 c156
        exact b227 _ _ _ _ _ _ H locs ls hW hS (lv_sub hl [0, 1, 2, 3, 4, 5, 6, 7, 8] rfl) h
      · replace h := h.2 c156
        refine lv_iload hx hb dX12_findRound_159 (lv_at hl 6 rfl) ?_
        refine lv_if_eq (tgt := 227) hx hb dX12_findRound_161 (by decide) (fun c161 => ?_) (fun c161 => ?_)
        · replace h := h.1 c161
          exact b227 _ _ _ _ _ _ H locs ls hW hS (lv_sub hl [0, 1, 2, 3, 4, 5, 6, 7, 8] rfl) h
        · replace h := h.2 c161
          refine lv_iload hx hb dX12_findRound_164 (lv_at hl 7 rfl) ?_
          refine lv_aload_n hx hb dX12_findRound_166 rfl (lv_at hl 0 rfl) ?_
          refine lv_iload_n hx hb dX12_findRound_167 rfl (lv_at hl 1 rfl) ?_
          refine lv_iload hx hb dX12_findRound_168 (lv_at hl 8 rfl) ?_
          refine lv_aload_n hx hb dX12_findRound_170 rfl (lv_at hl 0 rfl) ?_
          refine m_getr S hK fk_X12_96 (gr_10_42 G 0) hW (ci_10 (Nat.le_of_ble_eq_true rfl)) dX12_findRound_171 ?_
          refine lv_iload hx hb dX12_findRound_174 (lv_at hl 9 rfl) ?_
          obtain ⟨hb176, h⟩ := h
          refine m_ald S hK (ar_70 G) hW (ci_70 (Nat.le_of_ble_eq_true rfl)) hb176 dX12_findRound_176 ?_
          refine m_ci0 (m_rV S hK hW (m_szH hbs hS) (c_X12_farOf l ) h lk_X12_306 (m_recv hK hW (ci_10 (Nat.le_of_ble_eq_true rfl)) (rc_10 G) rfl) rfl hl.1 rfl ⟨Nat.le_of_ble_eq_true rfl, Nat.le_of_ble_eq_true rfl⟩ (Nat.le_of_ble_eq_true rfl) ⟨Nat.zero_le _, Nat.zero_le _⟩ dX12_findRound_177) hS rfl rfl (fun rr177 Mm177 H locs h hW hS => ?_)
          refine lv_iadd hx hb dX12_findRound_180 ?_
          refine lv_topi (fun x9_181 ex9_181 => ?_)
          replace h := h x9_181 ex9_181
          refine lv_istore (lv' := [(9, .int x9_181), (0, .ref (ad G 10 0)), (1, .int x1), (2, .int x2), (3, .int x3), (4, .int x4), (5, .int x5), (8, .int x8), (10, .int x10), (11, .int x11)]) hx hb dX12_findRound_181 hl (by decide) rfl (fun ls hl => ?_)
          refine lv_aload_n hx hb dX12_findRound_183 rfl (lv_at hl 1 rfl) ?_
          refine m_getr S hK fk_X12_96 (gr_10_42 G 0) hW (ci_10 (Nat.le_of_ble_eq_true rfl)) dX12_findRound_184 ?_
          refine lv_iload hx hb dX12_findRound_187 (lv_at hl 9 rfl) ?_
          obtain ⟨hb189, h⟩ := h
          refine m_ald S hK (ar_70 G) hW (ci_70 (Nat.le_of_ble_eq_true rfl)) hb189 dX12_findRound_189 ?_
          refine lv_topi (fun x10_190 ex10_190 => ?_)
          replace h := h x10_190 ex10_190
          refine lv_istore (lv' := [(10, .int x10_190), (9, .int x9_181), (0, .ref (ad G 10 0)), (1, .int x1), (2, .int x2), (3, .int x3), (4, .int x4), (5, .int x5), (8, .int x8), (11, .int x11)]) hx hb dX12_findRound_190 hl (by decide) rfl (fun ls hl => ?_)
          refine lv_iload_n hx hb dX12_findRound_192 rfl (lv_at hl 4 rfl) ?_
          refine lv_iload hx hb dX12_findRound_193 (lv_at hl 1 rfl) ?_
          refine lv_iadd hx hb dX12_findRound_195 ?_
          refine lv_aload_n hx hb dX12_findRound_196 rfl (lv_at hl 2 rfl) ?_
          refine m_getr S hK fk_X12_7 (gr_10_1 G 0) hW (ci_10 (Nat.le_of_ble_eq_true rfl)) dX12_findRound_197 ?_
          refine lv_bipush hx hb dX12_findRound_200 kb_50 ?_
          refine lv_aload_n hx hb dX12_findRound_202 rfl (lv_at hl 2 rfl) ?_
          refine m_getr S hK fk_X12_96 (gr_10_42 G 0) hW (ci_10 (Nat.le_of_ble_eq_true rfl)) dX12_findRound_203 ?_
          refine lv_iload hx hb dX12_findRound_206 (lv_at hl 9 rfl) ?_
          obtain ⟨hb208, h⟩ := h
          refine m_ald S hK (ar_70 G) hW (ci_70 (Nat.le_of_ble_eq_true rfl)) hb208 dX12_findRound_208 ?_
          refine lv_iadd hx hb dX12_findRound_209 ?_
          obtain ⟨hb210, h⟩ := h
          refine m_ald S hK (ar_44 G) hW (ci_44 (Nat.le_of_ble_eq_true rfl)) hb210 dX12_findRound_210 ?_
          refine lv_icmp_gt (tgt := 218) hx hb dX12_findRound_211 (by decide) (fun c211 => ?_) (fun c211 => ?_)
          · replace h := h.1 c211
            refine lv_iconst hx hb dX12_findRound_218 ki_0 ?_
            exact b219 _ _ _ _ _ H locs ls hW hS (lv_sub hl [2, 3, 4, 5, 6, 7, 1, 0, 9] rfl) h
          · replace h := h.2 c211
            refine lv_iconst hx hb dX12_findRound_214 ki_1 ?_
            refine lv_goto (tgt := 219) hx hb dX12_findRound_215 (by decide) ?_
            exact b219 _ _ _ _ _ H locs ls hW hS (lv_sub hl [2, 3, 4, 5, 6, 7, 1, 0, 9] rfl) h
    have w61 : ∀ (x3 : Int32) (x5 : Int32), ∀ (n : Nat) (a : Mem × Int32 × Int32 × Int32 × Int32), Lz (fun (K61 : Mem × Int32 × Int32 × Int32 × Int32 → Prop) (a : Mem × Int32 × Int32 × Int32 × Int32) => s_X12_findRound_61 x1 x2 x3 x4 x5 P K36 K61 a.1 a.2.1 a.2.2.1 a.2.2.2.1 a.2.2.2.2) n a → ∀ (H : Heap) (locs : List Loc) (ls : Array Slot), WPm G a.1 H → va_S (fun q => bs G ≤ q) s.heap H locs → lv_has ls 12 [(0, .ref (ad G 10 0)), (1, .int x1), (2, .int x2), (3, .int x3), (4, .int x4), (5, .int x5), (6, .int a.2.1), (7, .int a.2.2.1), (8, .int a.2.2.2.1), (9, .int a.2.2.2.2)] → W p l e rm_X12_findRound s m AV below meth c H locs 0 0 (MQ below (va_Qi P (WS G) (fun q => bs G ≤ q)) AV s 0 0 (fun q => bs G ≤ q)) (F0 m 61 ls []) := by
      intro x3 x5
      refine Lz_walk ?_
      rintro K61 kk61 ⟨M, x6, x7, x8, x9⟩ h H locs ls hW hS hl
      replace h : s_X12_findRound_61 x1 x2 x3 x4 x5 P K36 K61 M x6 x7 x8 x9 := h
      replace hW : WPm G M H := hW
      replace hl : lv_has ls 12 [(0, .ref (ad G 10 0)), (1, .int x1), (2, .int x2), (3, .int x3), (4, .int x4), (5, .int x5), (6, .int x6), (7, .int x7), (8, .int x8), (9, .int x9)] := hl
      have b110 : ∀ (M : Mem) (x6 : Int32) (x7 : Int32) (x9 : Int32) (y0 : Int32) (H : Heap) (locs : List Loc) (ls : Array Slot), WPm G M H → va_S (fun q => bs G ≤ q) s.heap H locs → lv_has ls 12 [(0, .ref (ad G 10 0)), (1, .int x1), (2, .int x2), (3, .int x3), (4, .int x4), (5, .int x5), (6, .int x6), (7, .int x7), (9, .int x9)] → s_X12_findRound_110 x1 x2 x3 x4 x5 P K36 K61 M x6 x7 x9 y0 → W p l e rm_X12_findRound s m AV below meth c H locs 0 0 (MQ below (va_Qi P (WS G) (fun q => bs G ≤ q)) AV s 0 0 (fun q => bs G ≤ q)) (F0 m 110 ls [.int y0]) := by
        intro M x6 x7 x9 y0 H locs ls hW hS hl h
        unfold s_X12_findRound_110 at h
        refine lv_istore (lv' := [(8, .int y0), (0, .ref (ad G 10 0)), (1, .int x1), (2, .int x2), (3, .int x3), (4, .int x4), (5, .int x5), (6, .int x6), (7, .int x7), (9, .int x9)]) hx hb dX12_findRound_110 hl (by decide) rfl (fun ls hl => ?_)
        refine lv_iload hx hb dX12_findRound_112 (lv_at hl 8 rfl) ?_
        refine lv_iconst hx hb dX12_findRound_114 ki_1 ?_
        refine lv_iload hx hb dX12_findRound_115 (lv_at hl 7 rfl) ?_
        refine lv_aload_n hx hb dX12_findRound_117 rfl (lv_at hl 1 rfl) ?_
        refine m_geti S hK fk_X12_303 (gi_10_44 G) hW (ci_10 (Nat.le_of_ble_eq_true rfl)) dX12_findRound_118 ?_
        obtain ⟨hz121, h⟩ := h
        refine lv_irem hx hb dX12_findRound_121 hz121 ?_
        refine lv_ishl hx hb dX12_findRound_122 ?_
        refine lv_ior hx hb dX12_findRound_123 ?_
        refine lv_topi (fun x7_124 ex7_124 => ?_)
        replace h := h x7_124 ex7_124
        refine lv_istore (lv' := [(7, .int x7_124), (8, .int y0), (0, .ref (ad G 10 0)), (1, .int x1), (2, .int x2), (3, .int x3), (4, .int x4), (5, .int x5), (6, .int x6), (9, .int x9)]) hx hb dX12_findRound_124 hl (by decide) rfl (fun ls hl => ?_)
        refine lv_iload hx hb dX12_findRound_126 (lv_at hl 8 rfl) ?_
        refine lv_aload_n hx hb dX12_findRound_128 rfl (lv_at hl 2 rfl) ?_
        refine m_geti S hK fk_X12_303 (gi_10_44 G) hW (ci_10 (Nat.le_of_ble_eq_true rfl)) dX12_findRound_129 ?_
        obtain ⟨hz132, h⟩ := h
        refine lv_idiv hx hb dX12_findRound_132 hz132 ?_
        refine lv_topi (fun x6_133 ex6_133 => ?_)
        replace h := h x6_133 ex6_133
        refine lv_istore (lv' := [(6, .int x6_133), (7, .int x7_124), (8, .int y0), (0, .ref (ad G 10 0)), (1, .int x1), (2, .int x2), (3, .int x3), (4, .int x4), (5, .int x5), (9, .int x9)]) hx hb dX12_findRound_133 hl (by decide) rfl (fun ls hl => ?_)
        obtain ⟨x9_135, ex9_135⟩ : ∃ z : Int32, z = x9 + (-1 : Int32) := ⟨_, rfl⟩
        replace h := h x9_135 ex9_135
        refine lv_iinc (v := x9_135) (lv' := [(9, .int x9_135), (6, .int x6_133), (7, .int x7_124), (8, .int y0), (0, .ref (ad G 10 0)), (1, .int x1), (2, .int x2), (3, .int x3), (4, .int x4), (5, .int x5)]) hx hb dX12_findRound_135 hl (k := 9) rfl (by rw [ex9_135, ki_m1]) (by decide) rfl (fun ls hl => ?_)
        refine lv_goto (tgt := 61) hx hb dX12_findRound_138 (by decide) ?_
        exact kk61 _ h H locs ls hW hS (lv_sub hl [4, 5, 6, 7, 8, 9, 1, 2, 3, 0] rfl)
      unfold s_X12_findRound_61 at h
      refine lv_iload hx hb dX12_findRound_61 (lv_at hl 9 rfl) ?_
      refine lv_if_lt (tgt := 141) hx hb dX12_findRound_63 (by decide) (fun c63 => ?_) (fun c63 => ?_)
      · replace h := h.1 c63
        refine lv_iconst hx hb dX12_findRound_141 ki_0 ?_
        refine lv_istore (lv' := [(9, .int (0 : Int32)), (0, .ref (ad G 10 0)), (1, .int x1), (2, .int x2), (3, .int x3), (4, .int x4), (5, .int x5), (6, .int x6), (7, .int x7), (8, .int x8)]) hx hb dX12_findRound_142 hl (by decide) rfl (fun ls hl => ?_)
        refine lv_iconst hx hb dX12_findRound_144 ki_m1 ?_
        refine lv_istore (lv' := [(10, .int (-1 : Int32)), (9, .int (0 : Int32)), (0, .ref (ad G 10 0)), (1, .int x1), (2, .int x2), (3, .int x3), (4, .int x4), (5, .int x5), (6, .int x6), (7, .int x7), (8, .int x8)]) hx hb dX12_findRound_145 hl (by decide) rfl (fun ls hl => ?_)
        refine lv_iconst hx hb dX12_findRound_147 ki_0 ?_
        refine lv_istore (lv' := [(11, .int (0 : Int32)), (10, .int (-1 : Int32)), (9, .int (0 : Int32)), (0, .ref (ad G 10 0)), (1, .int x1), (2, .int x2), (3, .int x3), (4, .int x4), (5, .int x5), (6, .int x6), (7, .int x7), (8, .int x8)]) hx hb dX12_findRound_148 hl (by decide) rfl (fun ls hl => ?_)
        obtain ⟨n150, h⟩ := h
        exact w150 _ _ n150 _ h H locs ls hW hS (lv_sub hl [3, 4, 5, 6, 7, 8, 11, 2, 1, 0] rfl)
      · replace h := h.2 c63
        refine lv_aload_n hx hb dX12_findRound_66 rfl (lv_at hl 0 rfl) ?_
        refine m_getr S hK fk_X12_96 (gr_10_42 G 0) hW (ci_10 (Nat.le_of_ble_eq_true rfl)) dX12_findRound_67 ?_
        refine lv_iload hx hb dX12_findRound_70 (lv_at hl 9 rfl) ?_
        refine lv_aload_n hx hb dX12_findRound_72 rfl (lv_at hl 0 rfl) ?_
        refine m_getr S hK fk_X12_93 (gr_10_41 G 0) hW (ci_10 (Nat.le_of_ble_eq_true rfl)) dX12_findRound_73 ?_
        refine lv_iload hx hb dX12_findRound_76 (lv_at hl 6 rfl) ?_
        refine lv_aload_n hx hb dX12_findRound_78 rfl (lv_at hl 0 rfl) ?_
        refine m_geti S hK fk_X12_303 (gi_10_44 G) hW (ci_10 (Nat.le_of_ble_eq_true rfl)) dX12_findRound_79 ?_
        obtain ⟨hz82, h⟩ := h
        refine lv_irem hx hb dX12_findRound_82 hz82 ?_
        obtain ⟨hb83, h⟩ := h
        refine m_ald S hK (ar_69 G) hW (ci_69 (Nat.le_of_ble_eq_true rfl)) hb83 dX12_findRound_83 ?_
        obtain ⟨hb84, h⟩ := h
        refine m_ast S hK (ar_70 G) hW hS (ci_70 (Nat.le_of_ble_eq_true rfl)) hb84 dX12_findRound_84 (fun Mm84 eMm84 H locs hW hS => ?_)
        replace h := h Mm84 eMm84
        refine lv_iload hx hb dX12_findRound_85 (lv_at hl 8 rfl) ?_
        refine lv_if_eq (tgt := 109) hx hb dX12_findRound_87 (by decide) (fun c87 => ?_) (fun c87 => ?_)
        · replace h := h.1 c87
          refine lv_iconst hx hb dX12_findRound_109 ki_0 ?_
          exact b110 _ _ _ _ _ H locs ls hW hS (lv_sub hl [0, 1, 2, 3, 4, 5, 6, 7, 9] rfl) h
        · replace h := h.2 c87
          refine lv_iload hx hb dX12_findRound_90 (lv_at hl 7 rfl) ?_
          refine lv_iload hx hb dX12_findRound_92 (lv_at hl 6 rfl) ?_
          refine lv_aload_n hx hb dX12_findRound_94 rfl (lv_at hl 0 rfl) ?_
          refine m_geti S hK fk_X12_303 (gi_10_44 G) hW (ci_10 (Nat.le_of_ble_eq_true rfl)) dX12_findRound_95 ?_
          obtain ⟨hz98, h⟩ := h
          refine lv_irem hx hb dX12_findRound_98 hz98 ?_
          refine lv_ishr hx hb dX12_findRound_99 ?_
          refine lv_iconst hx hb dX12_findRound_100 ki_1 ?_
          refine lv_iand hx hb dX12_findRound_101 ?_
          refine lv_if_ne (tgt := 109) hx hb dX12_findRound_102 (by decide) (fun c102 => ?_) (fun c102 => ?_)
          · replace h := h.1 c102
            refine lv_iconst hx hb dX12_findRound_109 ki_0 ?_
            exact b110 _ _ _ _ _ H locs ls hW hS (lv_sub hl [0, 1, 2, 3, 4, 5, 6, 7, 9] rfl) h
          · replace h := h.2 c102
            refine lv_iconst hx hb dX12_findRound_105 ki_1 ?_
            refine lv_goto (tgt := 110) hx hb dX12_findRound_106 (by decide) ?_
            exact b110 _ _ _ _ _ H locs ls hW hS (lv_sub hl [0, 1, 2, 3, 4, 5, 6, 7, 9] rfl) h
    unfold s_X12_findRound_36 at h
    refine lv_iload hx hb dX12_findRound_36 (lv_at hl 5 rfl) ?_
    refine lv_iload hx hb dX12_findRound_38 (lv_at hl 4 rfl) ?_
    refine lv_icmp_ge (tgt := 305) hx hb dX12_findRound_40 (by decide) (fun c40 => ?_) (fun c40 => ?_)
    · replace h := h.1 c40
      refine lv_iload_n hx hb dX12_findRound_305 rfl (lv_at hl 3 rfl) ?_
      exact m_iret S hret hlocks hK hW hbs hS rfl h dX12_findRound_306
    · replace h := h.2 c40
      refine lv_iload hx hb dX12_findRound_43 (lv_at hl 5 rfl) ?_
      refine lv_istore (lv' := [(6, .int x5), (0, .ref (ad G 10 0)), (1, .int x1), (2, .int x2), (3, .int x3), (4, .int x4), (5, .int x5)]) hx hb dX12_findRound_45 hl (by decide) rfl (fun ls hl => ?_)
      refine lv_iconst hx hb dX12_findRound_47 ki_0 ?_
      refine lv_istore (lv' := [(7, .int (0 : Int32)), (6, .int x5), (0, .ref (ad G 10 0)), (1, .int x1), (2, .int x2), (3, .int x3), (4, .int x4), (5, .int x5)]) hx hb dX12_findRound_48 hl (by decide) rfl (fun ls hl => ?_)
      refine lv_iconst hx hb dX12_findRound_50 ki_1 ?_
      refine lv_istore (lv' := [(8, .int (1 : Int32)), (7, .int (0 : Int32)), (6, .int x5), (0, .ref (ad G 10 0)), (1, .int x1), (2, .int x2), (3, .int x3), (4, .int x4), (5, .int x5)]) hx hb dX12_findRound_51 hl (by decide) rfl (fun ls hl => ?_)
      refine lv_aload_n hx hb dX12_findRound_53 rfl (lv_at hl 3 rfl) ?_
      refine m_geti S hK fk_X12_303 (gi_10_44 G) hW (ci_10 (Nat.le_of_ble_eq_true rfl)) dX12_findRound_54 ?_
      refine lv_iconst hx hb dX12_findRound_57 ki_1 ?_
      refine lv_isub hx hb dX12_findRound_58 ?_
      refine lv_topi (fun x9_59 ex9_59 => ?_)
      replace h := h x9_59 ex9_59
      refine lv_istore (lv' := [(9, .int x9_59), (8, .int (1 : Int32)), (7, .int (0 : Int32)), (6, .int x5), (0, .ref (ad G 10 0)), (1, .int x1), (2, .int x2), (3, .int x3), (4, .int x4), (5, .int x5)]) hx hb dX12_findRound_59 hl (by decide) rfl (fun ls hl => ?_)
      obtain ⟨n61, h⟩ := h
      exact w61 _ _ n61 _ h H locs ls hW hS (lv_sub hl [4, 5, 6, 7, 8, 9, 3, 2, 1, 0] rfl)
  have w9 : ∀ (x3 : Int32), ∀ (n : Nat) (a : Mem × Int32 × Int32), Lz (fun (K9 : Mem × Int32 × Int32 → Prop) (a : Mem × Int32 × Int32) => s_X12_findRound_9 x1 x2 x3 P K9 a.1 a.2.1 a.2.2) n a → ∀ (H : Heap) (locs : List Loc) (ls : Array Slot), WPm G a.1 H → va_S (fun q => bs G ≤ q) s.heap H locs → lv_has ls 12 [(0, .ref (ad G 10 0)), (1, .int x1), (2, .int x2), (3, .int x3), (4, .int a.2.1), (5, .int a.2.2)] → W p l e rm_X12_findRound s m AV below meth c H locs 0 0 (MQ below (va_Qi P (WS G) (fun q => bs G ≤ q)) AV s 0 0 (fun q => bs G ≤ q)) (F0 m 9 ls []) := by
    intro x3
    refine Lz_walk ?_
    rintro K9 kk9 ⟨M, x4, x5⟩ h H locs ls hW hS hl
    replace h : s_X12_findRound_9 x1 x2 x3 P K9 M x4 x5 := h
    replace hW : WPm G M H := hW
    replace hl : lv_has ls 12 [(0, .ref (ad G 10 0)), (1, .int x1), (2, .int x2), (3, .int x3), (4, .int x4), (5, .int x5)] := hl
    unfold s_X12_findRound_9 at h
    refine lv_iload hx hb dX12_findRound_9 (lv_at hl 5 rfl) ?_
    refine lv_aload_n hx hb dX12_findRound_11 rfl (lv_at hl 0 rfl) ?_
    refine m_geti S hK fk_X12_303 (gi_10_44 G) hW (ci_10 (Nat.le_of_ble_eq_true rfl)) dX12_findRound_12 ?_
    refine lv_icmp_ge (tgt := 33) hx hb dX12_findRound_15 (by decide) (fun c15 => ?_) (fun c15 => ?_)
    · replace h := h.1 c15
      refine lv_iconst hx hb dX12_findRound_33 ki_0 ?_
      refine lv_istore (lv' := [(5, .int (0 : Int32)), (0, .ref (ad G 10 0)), (1, .int x1), (2, .int x2), (3, .int x3), (4, .int x4)]) hx hb dX12_findRound_34 hl (by decide) rfl (fun ls hl => ?_)
      obtain ⟨n36, h⟩ := h
      exact w36 _ n36 _ h H locs ls hW hS (lv_sub hl [1, 2, 3, 4, 5, 0] rfl)
    · replace h := h.2 c15
      refine lv_iload hx hb dX12_findRound_18 (lv_at hl 4 rfl) ?_
      refine lv_aload_n hx hb dX12_findRound_20 rfl (lv_at hl 0 rfl) ?_
      refine m_geti S hK fk_X12_303 (gi_10_44 G) hW (ci_10 (Nat.le_of_ble_eq_true rfl)) dX12_findRound_21 ?_
      refine lv_imul hx hb dX12_findRound_24 ?_
      refine lv_topi (fun x4_25 ex4_25 => ?_)
      replace h := h x4_25 ex4_25
      refine lv_istore (lv' := [(4, .int x4_25), (0, .ref (ad G 10 0)), (1, .int x1), (2, .int x2), (3, .int x3), (5, .int x5)]) hx hb dX12_findRound_25 hl (by decide) rfl (fun ls hl => ?_)
      obtain ⟨x5_27, ex5_27⟩ : ∃ z : Int32, z = x5 + (1 : Int32) := ⟨_, rfl⟩
      replace h := h x5_27 ex5_27
      refine lv_iinc (v := x5_27) (lv' := [(5, .int x5_27), (4, .int x4_25), (0, .ref (ad G 10 0)), (1, .int x1), (2, .int x2), (3, .int x3)]) hx hb dX12_findRound_27 hl (k := 5) rfl (by rw [ex5_27, ki_1]) (by decide) rfl (fun ls hl => ?_)
      refine lv_goto (tgt := 9) hx hb dX12_findRound_30 (by decide) ?_
      exact kk9 _ h H locs ls hW hS (lv_sub hl [2, 3, 4, 5, 1, 0] rfl)
  unfold s_X12_findRound at h
  refine lv_bipush hx hb dX12_findRound_0 kb_m4 ?_
  refine lv_istore_n (lv' := [(3, .int (-4 : Int32)), (0, .ref (ad G 10 0)), (1, .int x1), (2, .int x2)]) hx hb dX12_findRound_2 rfl hl (by decide) rfl (fun ls hl => ?_)
  refine lv_iconst hx hb dX12_findRound_3 ki_1 ?_
  refine lv_istore (lv' := [(4, .int (1 : Int32)), (3, .int (-4 : Int32)), (0, .ref (ad G 10 0)), (1, .int x1), (2, .int x2)]) hx hb dX12_findRound_4 hl (by decide) rfl (fun ls hl => ?_)
  refine lv_iconst hx hb dX12_findRound_6 ki_0 ?_
  refine lv_istore (lv' := [(5, .int (0 : Int32)), (4, .int (1 : Int32)), (3, .int (-4 : Int32)), (0, .ref (ad G 10 0)), (1, .int x1), (2, .int x2)]) hx hb dX12_findRound_7 hl (by decide) rfl (fun ls hl => ?_)
  obtain ⟨n9, h⟩ := h
  exact w9 _ n9 _ h H locs ls hW hS (lv_sub hl [3, 4, 5, 2, 1, 0] rfl)
def s_X12_findStops_126 (x1 : Int32) (P : Int32 → Mem → Prop) (K25 : Mem × Int32 → Prop) (M : Mem) (x2 : Int32) (x3 : Int32) (x4 : Int32) : Prop :=
  vp_in x4 7 ∧ (∀ Mm133 : Mem, Mm133 = wI M 69 0 (x4.toNatClampNeg) x3 → ∀ Mm141 : Mem, Mm141 = wI Mm133 10 0 44 ((Mm133.1 10 0 44) + (1 : Int32)) → ∀ x2_144 : Int32, x2_144 = x2 + (1 : Int32) → K25 (Mm141, x2_144))
def s_X12_findStops_105 (x1 : Int32) (P : Int32 → Mem → Prop) (K25 : Mem × Int32 → Prop) (M : Mem) (x2 : Int32) (x3 : Int32) (x4 : Int32) : Prop :=
  (x4 ≤ 0 → s_X12_findStops_126 x1 P K25 M x2 x3 x4) ∧ (¬ x4 ≤ 0 → vp_in (x4 - (1 : Int32)) 7 ∧ ((¬ (M.1 69 0 (x4 - (1 : Int32)).toNatClampNeg) = x3 → s_X12_findStops_126 x1 P K25 M x2 x3 x4) ∧ ((M.1 69 0 (x4 - (1 : Int32)).toNatClampNeg) = x3 → P (-13 : Int32) M)))
def s_X12_findStops_65 (x1 : Int32) (x2 : Int32) (x3 : Int32) (P : Int32 → Mem → Prop) (K25 : Mem × Int32 → Prop) (K65 : Mem × Int32 → Prop) (M : Mem) (x4 : Int32) : Prop :=
  (x4 ≤ 0 → s_X12_findStops_105 x1 P K25 M x2 x3 x4) ∧ (¬ x4 ≤ 0 → vp_in (x4 - (1 : Int32)) 7 ∧ (((M.1 69 0 (x4 - (1 : Int32)).toNatClampNeg) ≤ x3 → s_X12_findStops_105 x1 P K25 M x2 x3 x4) ∧ (¬ (M.1 69 0 (x4 - (1 : Int32)).toNatClampNeg) ≤ x3 → vp_in (x4 - (1 : Int32)) 7 ∧ (vp_in x4 7 ∧ (∀ Mm98 : Mem, Mm98 = wI M 69 0 (x4.toNatClampNeg) (M.1 69 0 (x4 - (1 : Int32)).toNatClampNeg) → ∀ x4_99 : Int32, x4_99 = x4 + (-1 : Int32) → K65 (Mm98, x4_99))))))
def s_X12_findStops_25 (x1 : Int32) (P : Int32 → Mem → Prop) (K25 : Mem × Int32 → Prop) (M : Mem) (x2 : Int32) : Prop :=
  vp_in x1 8 ∧ (((M.1 77 0 x1.toNatClampNeg) ≤ x2 → P (0 : Int32) M) ∧ (¬ (M.1 77 0 x1.toNatClampNeg) ≤ x2 → vp_in (((80 : Int32) * x1) + x2) 640 ∧ (∀ x3_47 : Int32, x3_47 = ((M.2.1 78 0 (((80 : Int32) * x1) + x2).toNatClampNeg).toInt32) → s_X12_isSchool M x3_47 (fun rr50 Mm50 => (¬ rr50 = 0 → ∀ x4_63 : Int32, x4_63 = (Mm50.1 10 0 44) → ∃ n, Lz (fun (K65 : Mem × Int32 → Prop) (a : Mem × Int32) => s_X12_findStops_65 x1 x2 x3_47 P K25 K65 a.1 a.2) n (Mm50, x4_63)) ∧ (rr50 = 0 → P (-13 : Int32) Mm50)))))
def s_X12_findStops (M : Mem) (x1 : Int32) (P : Int32 → Mem → Prop) : Prop :=
  ∀ Mm2 : Mem, Mm2 = wI M 10 0 44 (0 : Int32) → vp_in x1 8 ∧ (s_X12_in Mm2 (Mm2.1 77 0 x1.toNatClampNeg) (1 : Int32) (7 : Int32) (fun rr14 Mm14 => (¬ rr14 = 0 → ∃ n, Lz (fun (K25 : Mem × Int32 → Prop) (a : Mem × Int32) => s_X12_findStops_25 x1 P K25 a.1 a.2) n (Mm14, (0 : Int32))) ∧ (rr14 = 0 → P (-13 : Int32) Mm14)))
abbrev rm_X12_findStops : Room := { frames := 2, cells := 0, slots := 0, locals := 43 }
set_option maxHeartbeats 4000000 in
set_option maxRecDepth 100000 in
theorem c_X12_findStops (l : Launch) {G : Gn} {M : Mem} {x1 : Int32} {P : Int32 → Mem → Prop} : MQi l yX12_findStops cX12_findStops 5 (some .int) rm_X12_findStops [.ref (ad G 10 0), .int x1] G M (s_X12_findStops M x1 P) P := by
  refine m_enter (by decide +kernel) (Nat.le_of_ble_eq_true rfl) ?_
  intro p e s m below meth c ls H locs S hret hlocks hname hK hbs hW hS hl h
  obtain ⟨AV, hAV⟩ : ∃ z : Array Value, z = ([.ref (ad G 10 0), .int x1] : List Value).toArray := ⟨_, rfl⟩
  rw [← hAV] at S ⊢
  replace S : CallFix p m c cX12_findStops 5 s AV lw_G "MilkDeskModel" := S
  have hx := S.1
  have hb := S.2.1
  have hml := S.2.2.1
  have hown := S.2.2.2.1
  have hts := S.2.2.2.2
  replace hl : lv_has ls 5 [(0, .ref (ad G 10 0)), (1, .int x1)] := hl
  have w25 : ∀ (n : Nat) (a : Mem × Int32), Lz (fun (K25 : Mem × Int32 → Prop) (a : Mem × Int32) => s_X12_findStops_25 x1 P K25 a.1 a.2) n a → ∀ (H : Heap) (locs : List Loc) (ls : Array Slot), WPm G a.1 H → va_S (fun q => bs G ≤ q) s.heap H locs → lv_has ls 5 [(0, .ref (ad G 10 0)), (1, .int x1), (2, .int a.2)] → W p l e rm_X12_findStops s m AV below meth c H locs 0 0 (MQ below (va_Qi P (WS G) (fun q => bs G ≤ q)) AV s 0 0 (fun q => bs G ≤ q)) (F0 m 25 ls []) := by
    refine Lz_walk ?_
    rintro K25 kk25 ⟨M, x2⟩ h H locs ls hW hS hl
    replace h : s_X12_findStops_25 x1 P K25 M x2 := h
    replace hW : WPm G M H := hW
    replace hl : lv_has ls 5 [(0, .ref (ad G 10 0)), (1, .int x1), (2, .int x2)] := hl
    have b126 : ∀ (M : Mem) (x2 : Int32) (x3 : Int32) (x4 : Int32) (H : Heap) (locs : List Loc) (ls : Array Slot), WPm G M H → va_S (fun q => bs G ≤ q) s.heap H locs → lv_has ls 5 [(0, .ref (ad G 10 0)), (1, .int x1), (2, .int x2), (3, .int x3), (4, .int x4)] → s_X12_findStops_126 x1 P K25 M x2 x3 x4 → W p l e rm_X12_findStops s m AV below meth c H locs 0 0 (MQ below (va_Qi P (WS G) (fun q => bs G ≤ q)) AV s 0 0 (fun q => bs G ≤ q)) (F0 m 126 ls []) := by
      intro M x2 x3 x4 H locs ls hW hS hl h
      unfold s_X12_findStops_126 at h
      refine lv_aload_n hx hb dX12_findStops_126 rfl (lv_at hl 0 rfl) ?_
      refine m_getr S hK fk_X12_93 (gr_10_41 G 0) hW (ci_10 (Nat.le_of_ble_eq_true rfl)) dX12_findStops_127 ?_
      refine lv_iload hx hb dX12_findStops_130 (lv_at hl 4 rfl) ?_
      refine lv_iload_n hx hb dX12_findStops_132 rfl (lv_at hl 3 rfl) ?_
      obtain ⟨hb133, h⟩ := h
      refine m_ast S hK (ar_69 G) hW hS (ci_69 (Nat.le_of_ble_eq_true rfl)) hb133 dX12_findStops_133 (fun Mm133 eMm133 H locs hW hS => ?_)
      replace h := h Mm133 eMm133
      refine lv_aload_n hx hb dX12_findStops_134 rfl (lv_at hl 0 rfl) ?_
      refine lv_dup hx hb dX12_findStops_135 rfl ?_
      refine m_geti S hK fk_X12_303 (gi_10_44 G) hW (ci_10 (Nat.le_of_ble_eq_true rfl)) dX12_findStops_136 ?_
      refine lv_iconst hx hb dX12_findStops_139 ki_1 ?_
      refine lv_iadd hx hb dX12_findStops_140 ?_
      refine m_put S hK fk_X12_303 tyX12_ok nmX12 rfl pf_X12_44 (pv_10_44 G) hW hS (ci_10 (Nat.le_of_ble_eq_true rfl)) rfl rfl dX12_findStops_141 (fun Mm141 eMm141 H locs hW hS => ?_)
      replace h := h Mm141 eMm141
      obtain ⟨x2_144, ex2_144⟩ : ∃ z : Int32, z = x2 + (1 : Int32) := ⟨_, rfl⟩
      replace h := h x2_144 ex2_144
      refine lv_iinc (v := x2_144) (lv' := [(2, .int x2_144), (0, .ref (ad G 10 0)), (1, .int x1), (3, .int x3), (4, .int x4)]) hx hb dX12_findStops_144 hl (k := 2) rfl (by rw [ex2_144, ki_1]) (by decide) rfl (fun ls hl => ?_)
      refine lv_goto (tgt := 25) hx hb dX12_findStops_147 (by decide) ?_
      exact kk25 _ h H locs ls hW hS (lv_sub hl [1, 2, 0] rfl)
    have b105 : ∀ (M : Mem) (x2 : Int32) (x3 : Int32) (x4 : Int32) (H : Heap) (locs : List Loc) (ls : Array Slot), WPm G M H → va_S (fun q => bs G ≤ q) s.heap H locs → lv_has ls 5 [(0, .ref (ad G 10 0)), (1, .int x1), (2, .int x2), (3, .int x3), (4, .int x4)] → s_X12_findStops_105 x1 P K25 M x2 x3 x4 → W p l e rm_X12_findStops s m AV below meth c H locs 0 0 (MQ below (va_Qi P (WS G) (fun q => bs G ≤ q)) AV s 0 0 (fun q => bs G ≤ q)) (F0 m 105 ls []) := by
      intro M x2 x3 x4 H locs ls hW hS hl h
      unfold s_X12_findStops_105 at h
      refine lv_iload hx hb dX12_findStops_105 (lv_at hl 4 rfl) ?_
      refine lv_if_le (tgt := 126) hx hb dX12_findStops_107 (by decide) (fun c107 => ?_) (fun c107 => ?_)
      · replace h := h.1 c107
        exact b126 _ _ _ _ H locs ls hW hS (lv_sub hl [0, 1, 2, 3, 4] rfl) h
      · replace h := h.2 c107
        refine lv_aload_n hx hb dX12_findStops_110 rfl (lv_at hl 0 rfl) ?_
        refine m_getr S hK fk_X12_93 (gr_10_41 G 0) hW (ci_10 (Nat.le_of_ble_eq_true rfl)) dX12_findStops_111 ?_
        refine lv_iload hx hb dX12_findStops_114 (lv_at hl 4 rfl) ?_
        refine lv_iconst hx hb dX12_findStops_116 ki_1 ?_
        refine lv_isub hx hb dX12_findStops_117 ?_
        obtain ⟨hb118, h⟩ := h
        refine m_ald S hK (ar_69 G) hW (ci_69 (Nat.le_of_ble_eq_true rfl)) hb118 dX12_findStops_118 ?_
        refine lv_iload_n hx hb dX12_findStops_119 rfl (lv_at hl 3 rfl) ?_
        refine lv_icmp_ne (tgt := 126) hx hb dX12_findStops_120 (by decide) (fun c120 => ?_) (fun c120 => ?_)
        · replace h := h.1 c120
          exact b126 _ _ _ _ H locs ls hW hS (lv_sub hl [0, 1, 2, 3, 4] rfl) h
        · replace h := h.2 c120
          refine lv_bipush hx hb dX12_findStops_123 kb_m13 ?_
          exact m_iret S hret hlocks hK hW hbs hS rfl h dX12_findStops_125
    have w65 : ∀ (x2 : Int32) (x3 : Int32), ∀ (n : Nat) (a : Mem × Int32), Lz (fun (K65 : Mem × Int32 → Prop) (a : Mem × Int32) => s_X12_findStops_65 x1 x2 x3 P K25 K65 a.1 a.2) n a → ∀ (H : Heap) (locs : List Loc) (ls : Array Slot), WPm G a.1 H → va_S (fun q => bs G ≤ q) s.heap H locs → lv_has ls 5 [(0, .ref (ad G 10 0)), (1, .int x1), (2, .int x2), (3, .int x3), (4, .int a.2)] → W p l e rm_X12_findStops s m AV below meth c H locs 0 0 (MQ below (va_Qi P (WS G) (fun q => bs G ≤ q)) AV s 0 0 (fun q => bs G ≤ q)) (F0 m 65 ls []) := by
      intro x2 x3
      refine Lz_walk ?_
      rintro K65 kk65 ⟨M, x4⟩ h H locs ls hW hS hl
      replace h : s_X12_findStops_65 x1 x2 x3 P K25 K65 M x4 := h
      replace hW : WPm G M H := hW
      replace hl : lv_has ls 5 [(0, .ref (ad G 10 0)), (1, .int x1), (2, .int x2), (3, .int x3), (4, .int x4)] := hl
      unfold s_X12_findStops_65 at h
      refine lv_iload hx hb dX12_findStops_65 (lv_at hl 4 rfl) ?_
      refine lv_if_le (tgt := 105) hx hb dX12_findStops_67 (by decide) (fun c67 => ?_) (fun c67 => ?_)
      · replace h := h.1 c67
        exact b105 _ _ _ _ H locs ls hW hS (lv_sub hl [0, 1, 2, 3, 4] rfl) h
      · replace h := h.2 c67
        refine lv_aload_n hx hb dX12_findStops_70 rfl (lv_at hl 0 rfl) ?_
        refine m_getr S hK fk_X12_93 (gr_10_41 G 0) hW (ci_10 (Nat.le_of_ble_eq_true rfl)) dX12_findStops_71 ?_
        refine lv_iload hx hb dX12_findStops_74 (lv_at hl 4 rfl) ?_
        refine lv_iconst hx hb dX12_findStops_76 ki_1 ?_
        refine lv_isub hx hb dX12_findStops_77 ?_
        obtain ⟨hb78, h⟩ := h
        refine m_ald S hK (ar_69 G) hW (ci_69 (Nat.le_of_ble_eq_true rfl)) hb78 dX12_findStops_78 ?_
        refine lv_iload_n hx hb dX12_findStops_79 rfl (lv_at hl 3 rfl) ?_
        refine lv_icmp_le (tgt := 105) hx hb dX12_findStops_80 (by decide) (fun c80 => ?_) (fun c80 => ?_)
        · replace h := h.1 c80
          exact b105 _ _ _ _ H locs ls hW hS (lv_sub hl [0, 1, 2, 3, 4] rfl) h
        · replace h := h.2 c80
          refine lv_aload_n hx hb dX12_findStops_83 rfl (lv_at hl 0 rfl) ?_
          refine m_getr S hK fk_X12_93 (gr_10_41 G 0) hW (ci_10 (Nat.le_of_ble_eq_true rfl)) dX12_findStops_84 ?_
          refine lv_iload hx hb dX12_findStops_87 (lv_at hl 4 rfl) ?_
          refine lv_aload_n hx hb dX12_findStops_89 rfl (lv_at hl 0 rfl) ?_
          refine m_getr S hK fk_X12_93 (gr_10_41 G 0) hW (ci_10 (Nat.le_of_ble_eq_true rfl)) dX12_findStops_90 ?_
          refine lv_iload hx hb dX12_findStops_93 (lv_at hl 4 rfl) ?_
          refine lv_iconst hx hb dX12_findStops_95 ki_1 ?_
          refine lv_isub hx hb dX12_findStops_96 ?_
          obtain ⟨hb97, h⟩ := h
          refine m_ald S hK (ar_69 G) hW (ci_69 (Nat.le_of_ble_eq_true rfl)) hb97 dX12_findStops_97 ?_
          obtain ⟨hb98, h⟩ := h
          refine m_ast S hK (ar_69 G) hW hS (ci_69 (Nat.le_of_ble_eq_true rfl)) hb98 dX12_findStops_98 (fun Mm98 eMm98 H locs hW hS => ?_)
          replace h := h Mm98 eMm98
          obtain ⟨x4_99, ex4_99⟩ : ∃ z : Int32, z = x4 + (-1 : Int32) := ⟨_, rfl⟩
          replace h := h x4_99 ex4_99
          refine lv_iinc (v := x4_99) (lv' := [(4, .int x4_99), (0, .ref (ad G 10 0)), (1, .int x1), (2, .int x2), (3, .int x3)]) hx hb dX12_findStops_99 hl (k := 4) rfl (by rw [ex4_99, ki_m1]) (by decide) rfl (fun ls hl => ?_)
          refine lv_goto (tgt := 65) hx hb dX12_findStops_102 (by decide) ?_
          exact kk65 _ h H locs ls hW hS (lv_sub hl [1, 2, 3, 4, 0] rfl)
    unfold s_X12_findStops_25 at h
    refine lv_iload_n hx hb dX12_findStops_25 rfl (lv_at hl 2 rfl) ?_
    refine lv_aload_n hx hb dX12_findStops_26 rfl (lv_at hl 0 rfl) ?_
    refine m_getr S hK fk_X12_117 (gr_10_50 G 0) hW (ci_10 (Nat.le_of_ble_eq_true rfl)) dX12_findStops_27 ?_
    refine lv_iload_n hx hb dX12_findStops_30 rfl (lv_at hl 1 rfl) ?_
    obtain ⟨hb31, h⟩ := h
    refine m_ald S hK (ar_77 G) hW (ci_77 (Nat.le_of_ble_eq_true rfl)) hb31 dX12_findStops_31 ?_
    refine lv_icmp_ge (tgt := 150) hx hb dX12_findStops_32 (by decide) (fun c32 => ?_) (fun c32 => ?_)
    · replace h := h.1 c32
      refine lv_iconst hx hb dX12_findStops_150 ki_0 ?_
      exact m_iret S hret hlocks hK hW hbs hS rfl h dX12_findStops_151
    · replace h := h.2 c32
      refine lv_aload_n hx hb dX12_findStops_35 rfl (lv_at hl 0 rfl) ?_
      refine m_getr S hK fk_X12_120 (gr_10_51 G 0) hW (ci_10 (Nat.le_of_ble_eq_true rfl)) dX12_findStops_36 ?_
      refine lv_bipush hx hb dX12_findStops_39 kb_80 ?_
      refine lv_iload_n hx hb dX12_findStops_41 rfl (lv_at hl 1 rfl) ?_
      refine lv_imul hx hb dX12_findStops_42 ?_
      refine lv_iload_n hx hb dX12_findStops_43 rfl (lv_at hl 2 rfl) ?_
      refine lv_iadd hx hb dX12_findStops_44 ?_
      obtain ⟨hb45, h⟩ := h
      refine m_jald S hK (ar_78 G) hW (ci_78 (Nat.le_of_ble_eq_true rfl)) hb45 dX12_findStops_45 ?_
      refine lv_l2i hx hb dX12_findStops_46 rfl ?_
      refine lv_topi (fun x3_47 ex3_47 => ?_)
      replace h := h x3_47 ex3_47
      refine lv_istore_n (lv' := [(3, .int x3_47), (0, .ref (ad G 10 0)), (1, .int x1), (2, .int x2)]) hx hb dX12_findStops_47 rfl hl (by decide) rfl (fun ls hl => ?_)
      refine lv_aload_n hx hb dX12_findStops_48 rfl (lv_at hl 1 rfl) ?_
      refine lv_iload_n hx hb dX12_findStops_49 rfl (lv_at hl 0 rfl) ?_
      refine m_ci0 (m_rV S hK hW (m_szH hbs hS) (c_X12_isSchool l ) h lk_X12_139 (m_recv hK hW (ci_10 (Nat.le_of_ble_eq_true rfl)) (rc_10 G) rfl) rfl hl.1 rfl ⟨Nat.le_of_ble_eq_true rfl, Nat.le_of_ble_eq_true rfl⟩ (Nat.le_of_ble_eq_true rfl) ⟨Nat.zero_le _, Nat.zero_le _⟩ dX12_findStops_50) hS rfl rfl (fun rr50 Mm50 H locs h hW hS => ?_)
      refine lv_if_ne (tgt := 59) hx hb dX12_findStops_53 (by decide) (fun c53 => ?_) (fun c53 => ?_)
      · replace h := h.1 c53
        refine lv_aload_n hx hb dX12_findStops_59 rfl (lv_at hl 1 rfl) ?_
        refine m_geti S hK fk_X12_303 (gi_10_44 G) hW (ci_10 (Nat.le_of_ble_eq_true rfl)) dX12_findStops_60 ?_
        refine lv_topi (fun x4_63 ex4_63 => ?_)
        replace h := h x4_63 ex4_63
        refine lv_istore (lv' := [(4, .int x4_63), (3, .int x3_47), (0, .ref (ad G 10 0)), (1, .int x1), (2, .int x2)]) hx hb dX12_findStops_63 hl (by decide) rfl (fun ls hl => ?_)
        obtain ⟨n65, h⟩ := h
        exact w65 _ _ n65 _ h H locs ls hW hS (lv_sub hl [2, 3, 4, 1, 0] rfl)
      · replace h := h.2 c53
        refine lv_bipush hx hb dX12_findStops_56 kb_m13 ?_
        exact m_iret S hret hlocks hK hW hbs hS rfl h dX12_findStops_58
  unfold s_X12_findStops at h
  refine lv_aload_n hx hb dX12_findStops_0 rfl (lv_at hl 0 rfl) ?_
  refine lv_iconst hx hb dX12_findStops_1 ki_0 ?_
  refine m_put S hK fk_X12_303 tyX12_ok nmX12 rfl pf_X12_44 (pv_10_44 G) hW hS (ci_10 (Nat.le_of_ble_eq_true rfl)) rfl rfl dX12_findStops_2 (fun Mm2 eMm2 H locs hW hS => ?_)
  replace h := h Mm2 eMm2
  refine lv_aload_n hx hb dX12_findStops_5 rfl (lv_at hl 0 rfl) ?_
  refine m_getr S hK fk_X12_117 (gr_10_50 G 0) hW (ci_10 (Nat.le_of_ble_eq_true rfl)) dX12_findStops_6 ?_
  refine lv_iload_n hx hb dX12_findStops_9 rfl (lv_at hl 1 rfl) ?_
  obtain ⟨hb10, h⟩ := h
  refine m_ald S hK (ar_77 G) hW (ci_77 (Nat.le_of_ble_eq_true rfl)) hb10 dX12_findStops_10 ?_
  refine lv_iconst hx hb dX12_findStops_11 ki_1 ?_
  refine lv_bipush hx hb dX12_findStops_12 kb_7 ?_
  refine m_ci0 (m_rS S hK hW (m_szH hbs hS) (c_X12_in l ) h lk_X12_131 rfl hl.1 rfl ⟨Nat.le_of_ble_eq_true rfl, Nat.le_of_ble_eq_true rfl⟩ (Nat.le_of_ble_eq_true rfl) ⟨Nat.zero_le _, Nat.zero_le _⟩ dX12_findStops_14) hS rfl rfl (fun rr14 Mm14 H locs h hW hS => ?_)
  refine lv_if_ne (tgt := 23) hx hb dX12_findStops_17 (by decide) (fun c17 => ?_) (fun c17 => ?_)
  · replace h := h.1 c17
    refine lv_iconst hx hb dX12_findStops_23 ki_0 ?_
    refine lv_istore_n (lv' := [(2, .int (0 : Int32)), (0, .ref (ad G 10 0)), (1, .int x1)]) hx hb dX12_findStops_24 rfl hl (by decide) rfl (fun ls hl => ?_)
    obtain ⟨n25, h⟩ := h
    exact w25 n25 _ h H locs ls hW hS (lv_sub hl [1, 2, 0] rfl)
  · replace h := h.2 c17
    refine lv_bipush hx hb dX12_findStops_20 kb_m13 ?_
    exact m_iret S hret hlocks hK hW hbs hS rfl h dX12_findStops_22
def s_X12_round_70 (x1 : Int32) (x2 : Int32) (x4 : Int32) (P : Int32 → Mem → Prop) (M : Mem) (y0 : Int32) : Prop :=
  (0 ≤ y0 → (x4 < (M.1 10 0 44) → s_X12_findRound M x1 x2 (fun rr95 Mm95 => (0 ≤ rr95 → (¬ x4 = (-1 : Int32) → vp_in x4 7 ∧ (P (Mm95.1 71 0 x4.toNatClampNeg) Mm95)) ∧ (x4 = (-1 : Int32) → P rr95 Mm95)) ∧ (¬ 0 ≤ rr95 → P (-4 : Int32) Mm95))) ∧ (¬ x4 < (M.1 10 0 44) → P (-4 : Int32) M)) ∧ (¬ 0 ≤ y0 → P y0 M)
def s_X12_round (M : Mem) (x1 : Int32) (x2 : Int32) (x3 : Int32) (x4 : Int32) (P : Int32 → Mem → Prop) : Prop :=
  ∀ Mm2 : Mem, Mm2 = wI M 10 0 0 (0 : Int32) → s_X12_isDairy Mm2 x1 (fun rr7 Mm7 => (rr7 = 0 → P (-1 : Int32) Mm7) ∧ (¬ rr7 = 0 → s_X12_in Mm7 x2 (0 : Int32) (600 : Int32) (fun rr18 Mm18 => (rr18 = 0 → P (-1 : Int32) Mm18) ∧ (¬ rr18 = 0 → s_X12_in Mm18 x3 (0 : Int32) (7 : Int32) (fun rr28 Mm28 => (rr28 = 0 → P (-1 : Int32) Mm28) ∧ (¬ rr28 = 0 → s_X12_in Mm28 x4 (-1 : Int32) (6 : Int32) (fun rr39 Mm39 => (¬ rr39 = 0 → s_X12_lacks Mm39 x3 (0 : Int32) (fun rr50 Mm50 => (¬ rr50 = 0 → s_X12_round_70 x1 x2 x4 P Mm50 rr50) ∧ (rr50 = 0 → s_X12_findStops Mm50 x3 (fun rr62 Mm62 => s_X12_round_70 x1 x2 x4 P Mm62 rr62)))) ∧ (rr39 = 0 → P (-1 : Int32) Mm39))))))))
abbrev rm_X12_round : Room := { frames := 3, cells := 0, slots := 0, locals := 79 }
set_option maxHeartbeats 4000000 in
set_option maxRecDepth 100000 in
theorem c_X12_round (l : Launch) {G : Gn} {M : Mem} {x1 : Int32} {x2 : Int32} {x3 : Int32} {x4 : Int32} {P : Int32 → Mem → Prop} : MQi l yX12_round cX12_round 7 (some .int) rm_X12_round [.ref (ad G 10 0), .int x1, .int x2, .int x3, .int x4] G M (s_X12_round M x1 x2 x3 x4 P) P := by
  refine m_enter (by decide +kernel) (Nat.le_of_ble_eq_true rfl) ?_
  intro p e s m below meth c ls H locs S hret hlocks hname hK hbs hW hS hl h
  obtain ⟨AV, hAV⟩ : ∃ z : Array Value, z = ([.ref (ad G 10 0), .int x1, .int x2, .int x3, .int x4] : List Value).toArray := ⟨_, rfl⟩
  rw [← hAV] at S ⊢
  replace S : CallFix p m c cX12_round 7 s AV lw_G "MilkDeskModel" := S
  have hx := S.1
  have hb := S.2.1
  have hml := S.2.2.1
  have hown := S.2.2.2.1
  have hts := S.2.2.2.2
  replace hl : lv_has ls 7 [(0, .ref (ad G 10 0)), (1, .int x1), (2, .int x2), (3, .int x3), (4, .int x4)] := hl
  have b70 : ∀ (M : Mem) (y0 : Int32) (H : Heap) (locs : List Loc) (ls : Array Slot), WPm G M H → va_S (fun q => bs G ≤ q) s.heap H locs → lv_has ls 7 [(0, .ref (ad G 10 0)), (1, .int x1), (2, .int x2), (4, .int x4)] → s_X12_round_70 x1 x2 x4 P M y0 → W p l e rm_X12_round s m AV below meth c H locs 0 0 (MQ below (va_Qi P (WS G) (fun q => bs G ≤ q)) AV s 0 0 (fun q => bs G ≤ q)) (F0 m 70 ls [.int y0]) := by
    intro M y0 H locs ls hW hS hl h
    unfold s_X12_round_70 at h
    refine lv_istore (lv' := [(5, .int y0), (0, .ref (ad G 10 0)), (1, .int x1), (2, .int x2), (4, .int x4)]) hx hb dX12_round_70 hl (by decide) rfl (fun ls hl => ?_)
    refine lv_iload hx hb dX12_round_72 (lv_at hl 0 rfl) ?_
    refine lv_if_ge (tgt := 80) hx hb dX12_round_74 (by decide) (fun c74 => ?_) (fun c74 => ?_)
    · replace h := h.1 c74
      refine lv_iload hx hb dX12_round_80 (lv_at hl 4 rfl) ?_
      refine lv_aload_n hx hb dX12_round_82 rfl (lv_at hl 1 rfl) ?_
      refine m_geti S hK fk_X12_303 (gi_10_44 G) hW (ci_10 (Nat.le_of_ble_eq_true rfl)) dX12_round_83 ?_
      refine lv_icmp_lt (tgt := 92) hx hb dX12_round_86 (by decide) (fun c86 => ?_) (fun c86 => ?_)
      · replace h := h.1 c86
        refine lv_aload_n hx hb dX12_round_92 rfl (lv_at hl 1 rfl) ?_
        refine lv_iload_n hx hb dX12_round_93 rfl (lv_at hl 2 rfl) ?_
        refine lv_iload_n hx hb dX12_round_94 rfl (lv_at hl 3 rfl) ?_
        refine m_ci0 (m_rV S hK hW (m_szH hbs hS) (c_X12_findRound l ) h lk_X12_312 (m_recv hK hW (ci_10 (Nat.le_of_ble_eq_true rfl)) (rc_10 G) rfl) rfl hl.1 rfl ⟨Nat.le_of_ble_eq_true rfl, Nat.le_of_ble_eq_true rfl⟩ (Nat.le_of_ble_eq_true rfl) ⟨Nat.zero_le _, Nat.zero_le _⟩ dX12_round_95) hS rfl rfl (fun rr95 Mm95 H locs h hW hS => ?_)
        refine lv_istore (lv' := [(6, .int rr95), (5, .int y0), (0, .ref (ad G 10 0)), (1, .int x1), (2, .int x2), (4, .int x4)]) hx hb dX12_round_98 hl (by decide) rfl (fun ls hl => ?_)
        refine lv_iload hx hb dX12_round_100 (lv_at hl 0 rfl) ?_
        refine lv_if_ge (tgt := 110) hx hb dX12_round_102 (by decide) (fun c102 => ?_) (fun c102 => ?_)
        · replace h := h.1 c102
          refine lv_iload hx hb dX12_round_110 (lv_at hl 5 rfl) ?_
          refine lv_iconst hx hb dX12_round_112 ki_m1 ?_
          refine lv_icmp_ne (tgt := 121) hx hb dX12_round_113 (by decide) (fun c113 => ?_) (fun c113 => ?_)
          · replace h := h.1 c113
            refine lv_aload_n hx hb dX12_round_121 rfl (lv_at hl 2 rfl) ?_
            refine m_getr S hK fk_X12_99 (gr_10_43 G 0) hW (ci_10 (Nat.le_of_ble_eq_true rfl)) dX12_round_122 ?_
            refine lv_iload hx hb dX12_round_125 (lv_at hl 5 rfl) ?_
            obtain ⟨hb127, h⟩ := h
            refine m_ald S hK (ar_71 G) hW (ci_71 (Nat.le_of_ble_eq_true rfl)) hb127 dX12_round_127 ?_
            exact m_iret S hret hlocks hK hW hbs hS rfl h dX12_round_128
          · replace h := h.2 c113
            refine lv_iload hx hb dX12_round_116 (lv_at hl 0 rfl) ?_
            refine lv_goto (tgt := 128) hx hb dX12_round_118 (by decide) ?_
            exact m_iret S hret hlocks hK hW hbs hS rfl h dX12_round_128
        · replace h := h.2 c102
          refine lv_bipush hx hb dX12_round_105 kb_m4 ?_
          refine lv_goto (tgt := 128) hx hb dX12_round_107 (by decide) ?_
          exact m_iret S hret hlocks hK hW hbs hS rfl h dX12_round_128
      · replace h := h.2 c86
        refine lv_bipush hx hb dX12_round_89 kb_m4 ?_
        exact m_iret S hret hlocks hK hW hbs hS rfl h dX12_round_91
    · replace h := h.2 c74
      refine lv_iload hx hb dX12_round_77 (lv_at hl 0 rfl) ?_
      exact m_iret S hret hlocks hK hW hbs hS rfl h dX12_round_79
  unfold s_X12_round at h
  refine lv_aload_n hx hb dX12_round_0 rfl (lv_at hl 0 rfl) ?_
  refine lv_iconst hx hb dX12_round_1 ki_0 ?_
  refine m_put S hK fk_X12_128 tyX12_ok nmX12 rfl pf_X12_0 (pv_10_0 G) hW hS (ci_10 (Nat.le_of_ble_eq_true rfl)) rfl rfl dX12_round_2 (fun Mm2 eMm2 H locs hW hS => ?_)
  replace h := h Mm2 eMm2
  refine lv_aload_n hx hb dX12_round_5 rfl (lv_at hl 0 rfl) ?_
  refine lv_iload_n hx hb dX12_round_6 rfl (lv_at hl 1 rfl) ?_
  refine m_ci0 (m_rV S hK hW (m_szH hbs hS) (c_X12_isDairy l ) h lk_X12_142 (m_recv hK hW (ci_10 (Nat.le_of_ble_eq_true rfl)) (rc_10 G) rfl) rfl hl.1 rfl ⟨Nat.le_of_ble_eq_true rfl, Nat.le_of_ble_eq_true rfl⟩ (Nat.le_of_ble_eq_true rfl) ⟨Nat.zero_le _, Nat.zero_le _⟩ dX12_round_7) hS rfl rfl (fun rr7 Mm7 H locs h hW hS => ?_)
  refine lv_if_eq (tgt := 45) hx hb dX12_round_10 (by decide) (fun c10 => ?_) (fun c10 => ?_)
  · replace h := h.1 c10
    refine lv_iconst hx hb dX12_round_45 ki_m1 ?_
    exact m_iret S hret hlocks hK hW hbs hS rfl h dX12_round_46
  · replace h := h.2 c10
    refine lv_iload_n hx hb dX12_round_13 rfl (lv_at hl 2 rfl) ?_
    refine lv_iconst hx hb dX12_round_14 ki_0 ?_
    refine lv_sipush hx hb dX12_round_15 ks_600 ?_
    refine m_ci0 (m_rS S hK hW (m_szH hbs hS) (c_X12_in l ) h lk_X12_131 rfl hl.1 rfl ⟨Nat.le_of_ble_eq_true rfl, Nat.le_of_ble_eq_true rfl⟩ (Nat.le_of_ble_eq_true rfl) ⟨Nat.zero_le _, Nat.zero_le _⟩ dX12_round_18) hS rfl rfl (fun rr18 Mm18 H locs h hW hS => ?_)
    refine lv_if_eq (tgt := 45) hx hb dX12_round_21 (by decide) (fun c21 => ?_) (fun c21 => ?_)
    · replace h := h.1 c21
      refine lv_iconst hx hb dX12_round_45 ki_m1 ?_
      exact m_iret S hret hlocks hK hW hbs hS rfl h dX12_round_46
    · replace h := h.2 c21
      refine lv_iload_n hx hb dX12_round_24 rfl (lv_at hl 3 rfl) ?_
      refine lv_iconst hx hb dX12_round_25 ki_0 ?_
      refine lv_bipush hx hb dX12_round_26 kb_7 ?_
      refine m_ci0 (m_rS S hK hW (m_szH hbs hS) (c_X12_in l ) h lk_X12_131 rfl hl.1 rfl ⟨Nat.le_of_ble_eq_true rfl, Nat.le_of_ble_eq_true rfl⟩ (Nat.le_of_ble_eq_true rfl) ⟨Nat.zero_le _, Nat.zero_le _⟩ dX12_round_28) hS rfl rfl (fun rr28 Mm28 H locs h hW hS => ?_)
      refine lv_if_eq (tgt := 45) hx hb dX12_round_31 (by decide) (fun c31 => ?_) (fun c31 => ?_)
      · replace h := h.1 c31
        refine lv_iconst hx hb dX12_round_45 ki_m1 ?_
        exact m_iret S hret hlocks hK hW hbs hS rfl h dX12_round_46
      · replace h := h.2 c31
        refine lv_iload hx hb dX12_round_34 (lv_at hl 4 rfl) ?_
        refine lv_iconst hx hb dX12_round_36 ki_m1 ?_
        refine lv_bipush hx hb dX12_round_37 kb_6 ?_
        refine m_ci0 (m_rS S hK hW (m_szH hbs hS) (c_X12_in l ) h lk_X12_131 rfl hl.1 rfl ⟨Nat.le_of_ble_eq_true rfl, Nat.le_of_ble_eq_true rfl⟩ (Nat.le_of_ble_eq_true rfl) ⟨Nat.zero_le _, Nat.zero_le _⟩ dX12_round_39) hS rfl rfl (fun rr39 Mm39 H locs h hW hS => ?_)
        refine lv_if_ne (tgt := 47) hx hb dX12_round_42 (by decide) (fun c42 => ?_) (fun c42 => ?_)
        · replace h := h.1 c42
          refine lv_aload_n hx hb dX12_round_47 rfl (lv_at hl 0 rfl) ?_
          refine lv_iload_n hx hb dX12_round_48 rfl (lv_at hl 3 rfl) ?_
          refine lv_iconst hx hb dX12_round_49 ki_0 ?_
          refine m_ci0 (m_rV S hK hW (m_szH hbs hS) (c_X12_lacks l ) h lk_X12_245 (m_recv hK hW (ci_10 (Nat.le_of_ble_eq_true rfl)) (rc_10 G) rfl) rfl hl.1 rfl ⟨Nat.le_of_ble_eq_true rfl, Nat.le_of_ble_eq_true rfl⟩ (Nat.le_of_ble_eq_true rfl) ⟨Nat.zero_le _, Nat.zero_le _⟩ dX12_round_50) hS rfl rfl (fun rr50 Mm50 H locs h hW hS => ?_)
          refine lv_istore (lv' := [(5, .int rr50), (0, .ref (ad G 10 0)), (1, .int x1), (2, .int x2), (3, .int x3), (4, .int x4)]) hx hb dX12_round_53 hl (by decide) rfl (fun ls hl => ?_)
          refine lv_iload hx hb dX12_round_55 (lv_at hl 0 rfl) ?_
          refine lv_if_ne (tgt := 68) hx hb dX12_round_57 (by decide) (fun c57 => ?_) (fun c57 => ?_)
          · replace h := h.1 c57
            refine lv_iload hx hb dX12_round_68 (lv_at hl 0 rfl) ?_
            exact b70 _ _ H locs ls hW hS (lv_sub hl [1, 2, 3, 5] rfl) h
          · replace h := h.2 c57
            refine lv_aload_n hx hb dX12_round_60 rfl (lv_at hl 1 rfl) ?_
            refine lv_iload_n hx hb dX12_round_61 rfl (lv_at hl 4 rfl) ?_
            refine m_ci0 (m_rV S hK hW (m_szH hbs hS) (c_X12_findStops l ) h lk_X12_309 (m_recv hK hW (ci_10 (Nat.le_of_ble_eq_true rfl)) (rc_10 G) rfl) rfl hl.1 rfl ⟨Nat.le_of_ble_eq_true rfl, Nat.le_of_ble_eq_true rfl⟩ (Nat.le_of_ble_eq_true rfl) ⟨Nat.zero_le _, Nat.zero_le _⟩ dX12_round_62) hS rfl rfl (fun rr62 Mm62 H locs h hW hS => ?_)
            refine lv_goto (tgt := 70) hx hb dX12_round_65 (by decide) ?_
            exact b70 _ _ H locs ls hW hS (lv_sub hl [1, 2, 3, 5] rfl) h
        · replace h := h.2 c42
          refine lv_iconst hx hb dX12_round_45 ki_m1 ?_
          exact m_iret S hret hlocks hK hW hbs hS rfl h dX12_round_46
def s_X12_judge_64 (x1 : Int32) (x3 : Int32) (P : Int32 → Mem → Prop) (K64 : Mem × Int32 × Int32 × Int32 × Int32 → Prop) (M : Mem) (x5 : Int32) (x6 : Int32) (x7 : Int32) (x8 : Int32) : Prop :=
  vp_in x3 8 ∧ (((M.1 77 0 x3.toNatClampNeg) ≤ x8 → P (-4 : Int32) M) ∧ (¬ (M.1 77 0 x3.toNatClampNeg) ≤ x8 → vp_in (((80 : Int32) * x3) + x8) 640 ∧ (∀ x9_88 : Int32, x9_88 = ((M.2.1 78 0 (((80 : Int32) * x3) + x8).toNatClampNeg).toInt32) → s_X12_isSchool M x9_88 (fun rr93 Mm93 => (rr93 = 0 → P x8 Mm93) ∧ (¬ rr93 = 0 → (¬ ((x5 >>> (x9_88 &&& 31)) &&& (1 : Int32)) = (1 : Int32) → s_X12_farOf Mm93 x1 x7 x9_88 (fun rr121 Mm121 => ∀ x6_125 : Int32, x6_125 = (x6 + rr121) → vp_in ((50 : Int32) + x9_88) 320 ∧ ((x6_125 ≤ (Mm121.1 44 0 ((50 : Int32) + x9_88).toNatClampNeg) → ∀ x5_152 : Int32, x5_152 = (x5 ||| ((1 : Int32) <<< (x9_88 &&& 31))) → ∀ x8_158 : Int32, x8_158 = x8 + (1 : Int32) → K64 (Mm121, x5_152, x6_125, x9_88, x8_158)) ∧ (¬ x6_125 ≤ (Mm121.1 44 0 ((50 : Int32) + x9_88).toNatClampNeg) → P x8 Mm121)))) ∧ (((x5 >>> (x9_88 &&& 31)) &&& (1 : Int32)) = (1 : Int32) → P x8 Mm93))))))
def s_X12_judge (M : Mem) (x1 : Int32) (x2 : Int32) (x3 : Int32) (P : Int32 → Mem → Prop) : Prop :=
  ∀ Mm2 : Mem, Mm2 = wI M 10 0 0 (0 : Int32) → s_X12_isDairy Mm2 x1 (fun rr7 Mm7 => (rr7 = 0 → P (-1 : Int32) Mm7) ∧ (¬ rr7 = 0 → s_X12_in Mm7 x2 (0 : Int32) (600 : Int32) (fun rr18 Mm18 => (rr18 = 0 → P (-1 : Int32) Mm18) ∧ (¬ rr18 = 0 → s_X12_in Mm18 x3 (0 : Int32) (7 : Int32) (fun rr28 Mm28 => (¬ rr28 = 0 → s_X12_lacks Mm28 x3 (0 : Int32) (fun rr39 Mm39 => (0 ≤ rr39 → ∃ n, Lz (fun (K64 : Mem × Int32 × Int32 × Int32 × Int32 → Prop) (a : Mem × Int32 × Int32 × Int32 × Int32) => s_X12_judge_64 x1 x3 P K64 a.1 a.2.1 a.2.2.1 a.2.2.2.1 a.2.2.2.2) n (Mm39, (0 : Int32), x2, (-1 : Int32), (0 : Int32))) ∧ (¬ 0 ≤ rr39 → P rr39 Mm39))) ∧ (rr28 = 0 → P (-1 : Int32) Mm28))))))
abbrev rm_X12_judge : Room := { frames := 2, cells := 0, slots := 0, locals := 48 }
set_option maxHeartbeats 4000000 in
set_option maxRecDepth 100000 in
theorem c_X12_judge (l : Launch) {G : Gn} {M : Mem} {x1 : Int32} {x2 : Int32} {x3 : Int32} {P : Int32 → Mem → Prop} : MQi l yX12_judge cX12_judge 10 (some .int) rm_X12_judge [.ref (ad G 10 0), .int x1, .int x2, .int x3] G M (s_X12_judge M x1 x2 x3 P) P := by
  refine m_enter (by decide +kernel) (Nat.le_of_ble_eq_true rfl) ?_
  intro p e s m below meth c ls H locs S hret hlocks hname hK hbs hW hS hl h
  obtain ⟨AV, hAV⟩ : ∃ z : Array Value, z = ([.ref (ad G 10 0), .int x1, .int x2, .int x3] : List Value).toArray := ⟨_, rfl⟩
  rw [← hAV] at S ⊢
  replace S : CallFix p m c cX12_judge 10 s AV lw_G "MilkDeskModel" := S
  have hx := S.1
  have hb := S.2.1
  have hml := S.2.2.1
  have hown := S.2.2.2.1
  have hts := S.2.2.2.2
  replace hl : lv_has ls 10 [(0, .ref (ad G 10 0)), (1, .int x1), (2, .int x2), (3, .int x3)] := hl
  have w64 : ∀ (n : Nat) (a : Mem × Int32 × Int32 × Int32 × Int32), Lz (fun (K64 : Mem × Int32 × Int32 × Int32 × Int32 → Prop) (a : Mem × Int32 × Int32 × Int32 × Int32) => s_X12_judge_64 x1 x3 P K64 a.1 a.2.1 a.2.2.1 a.2.2.2.1 a.2.2.2.2) n a → ∀ (H : Heap) (locs : List Loc) (ls : Array Slot), WPm G a.1 H → va_S (fun q => bs G ≤ q) s.heap H locs → lv_has ls 10 [(0, .ref (ad G 10 0)), (1, .int x1), (3, .int x3), (5, .int a.2.1), (6, .int a.2.2.1), (7, .int a.2.2.2.1), (8, .int a.2.2.2.2)] → W p l e rm_X12_judge s m AV below meth c H locs 0 0 (MQ below (va_Qi P (WS G) (fun q => bs G ≤ q)) AV s 0 0 (fun q => bs G ≤ q)) (F0 m 64 ls []) := by
    refine Lz_walk ?_
    rintro K64 kk64 ⟨M, x5, x6, x7, x8⟩ h H locs ls hW hS hl
    replace h : s_X12_judge_64 x1 x3 P K64 M x5 x6 x7 x8 := h
    replace hW : WPm G M H := hW
    replace hl : lv_has ls 10 [(0, .ref (ad G 10 0)), (1, .int x1), (3, .int x3), (5, .int x5), (6, .int x6), (7, .int x7), (8, .int x8)] := hl
    unfold s_X12_judge_64 at h
    refine lv_iload hx hb dX12_judge_64 (lv_at hl 6 rfl) ?_
    refine lv_aload_n hx hb dX12_judge_66 rfl (lv_at hl 0 rfl) ?_
    refine m_getr S hK fk_X12_117 (gr_10_50 G 0) hW (ci_10 (Nat.le_of_ble_eq_true rfl)) dX12_judge_67 ?_
    refine lv_iload_n hx hb dX12_judge_70 rfl (lv_at hl 2 rfl) ?_
    obtain ⟨hb71, h⟩ := h
    refine m_ald S hK (ar_77 G) hW (ci_77 (Nat.le_of_ble_eq_true rfl)) hb71 dX12_judge_71 ?_
    refine lv_icmp_ge (tgt := 164) hx hb dX12_judge_72 (by decide) (fun c72 => ?_) (fun c72 => ?_)
    · replace h := h.1 c72
      refine lv_bipush hx hb dX12_judge_164 kb_m4 ?_
      exact m_iret S hret hlocks hK hW hbs hS rfl h dX12_judge_166
    · replace h := h.2 c72
      refine lv_aload_n hx hb dX12_judge_75 rfl (lv_at hl 0 rfl) ?_
      refine m_getr S hK fk_X12_120 (gr_10_51 G 0) hW (ci_10 (Nat.le_of_ble_eq_true rfl)) dX12_judge_76 ?_
      refine lv_bipush hx hb dX12_judge_79 kb_80 ?_
      refine lv_iload_n hx hb dX12_judge_81 rfl (lv_at hl 2 rfl) ?_
      refine lv_imul hx hb dX12_judge_82 ?_
      refine lv_iload hx hb dX12_judge_83 (lv_at hl 6 rfl) ?_
      refine lv_iadd hx hb dX12_judge_85 ?_
      obtain ⟨hb86, h⟩ := h
      refine m_jald S hK (ar_78 G) hW (ci_78 (Nat.le_of_ble_eq_true rfl)) hb86 dX12_judge_86 ?_
      refine lv_l2i hx hb dX12_judge_87 rfl ?_
      refine lv_topi (fun x9_88 ex9_88 => ?_)
      replace h := h x9_88 ex9_88
      refine lv_istore (lv' := [(9, .int x9_88), (0, .ref (ad G 10 0)), (1, .int x1), (3, .int x3), (5, .int x5), (6, .int x6), (7, .int x7), (8, .int x8)]) hx hb dX12_judge_88 hl (by decide) rfl (fun ls hl => ?_)
      refine lv_aload_n hx hb dX12_judge_90 rfl (lv_at hl 1 rfl) ?_
      refine lv_iload hx hb dX12_judge_91 (lv_at hl 0 rfl) ?_
      refine m_ci0 (m_rV S hK hW (m_szH hbs hS) (c_X12_isSchool l ) h lk_X12_139 (m_recv hK hW (ci_10 (Nat.le_of_ble_eq_true rfl)) (rc_10 G) rfl) rfl hl.1 rfl ⟨Nat.le_of_ble_eq_true rfl, Nat.le_of_ble_eq_true rfl⟩ (Nat.le_of_ble_eq_true rfl) ⟨Nat.zero_le _, Nat.zero_le _⟩ dX12_judge_93) hS rfl rfl (fun rr93 Mm93 H locs h hW hS => ?_)
      refine lv_if_eq (tgt := 110) hx hb dX12_judge_96 (by decide) (fun c96 => ?_) (fun c96 => ?_)
      · replace h := h.1 c96
        refine lv_iload hx hb dX12_judge_110 (lv_at hl 7 rfl) ?_
        exact m_iret S hret hlocks hK hW hbs hS rfl h dX12_judge_112
      · replace h := h.2 c96
        refine lv_iload hx hb dX12_judge_99 (lv_at hl 4 rfl) ?_
        refine lv_iload hx hb dX12_judge_101 (lv_at hl 0 rfl) ?_
        refine lv_ishr hx hb dX12_judge_103 ?_
        refine lv_iconst hx hb dX12_judge_104 ki_1 ?_
        refine lv_iand hx hb dX12_judge_105 ?_
        refine lv_iconst hx hb dX12_judge_106 ki_1 ?_
        refine lv_icmp_ne (tgt := 113) hx hb dX12_judge_107 (by decide) (fun c107 => ?_) (fun c107 => ?_)
        · replace h := h.1 c107
          refine lv_iload hx hb dX12_judge_113 (lv_at hl 5 rfl) ?_
          refine lv_aload_n hx hb dX12_judge_115 rfl (lv_at hl 1 rfl) ?_
          refine lv_iload_n hx hb dX12_judge_116 rfl (lv_at hl 2 rfl) ?_
          refine lv_iload hx hb dX12_judge_117 (lv_at hl 6 rfl) ?_
          refine lv_iload hx hb dX12_judge_119 (lv_at hl 0 rfl) ?_
          refine m_ci0 (m_rV S hK hW (m_szH hbs hS) (c_X12_farOf l ) h lk_X12_306 (m_recv hK hW (ci_10 (Nat.le_of_ble_eq_true rfl)) (rc_10 G) rfl) rfl hl.1 rfl ⟨Nat.le_of_ble_eq_true rfl, Nat.le_of_ble_eq_true rfl⟩ (Nat.le_of_ble_eq_true rfl) ⟨Nat.zero_le _, Nat.zero_le _⟩ dX12_judge_121) hS rfl rfl (fun rr121 Mm121 H locs h hW hS => ?_)
          refine lv_iadd hx hb dX12_judge_124 ?_
          refine lv_topi (fun x6_125 ex6_125 => ?_)
          replace h := h x6_125 ex6_125
          refine lv_istore (lv' := [(6, .int x6_125), (9, .int x9_88), (0, .ref (ad G 10 0)), (1, .int x1), (3, .int x3), (5, .int x5), (7, .int x7), (8, .int x8)]) hx hb dX12_judge_125 hl (by decide) rfl (fun ls hl => ?_)
          refine lv_iload hx hb dX12_judge_127 (lv_at hl 0 rfl) ?_
          refine lv_aload_n hx hb dX12_judge_129 rfl (lv_at hl 2 rfl) ?_
          refine m_getr S hK fk_X12_7 (gr_10_1 G 0) hW (ci_10 (Nat.le_of_ble_eq_true rfl)) dX12_judge_130 ?_
          refine lv_bipush hx hb dX12_judge_133 kb_50 ?_
          refine lv_iload hx hb dX12_judge_135 (lv_at hl 1 rfl) ?_
          refine lv_iadd hx hb dX12_judge_137 ?_
          obtain ⟨hb138, h⟩ := h
          refine m_ald S hK (ar_44 G) hW (ci_44 (Nat.le_of_ble_eq_true rfl)) hb138 dX12_judge_138 ?_
          refine lv_icmp_le (tgt := 145) hx hb dX12_judge_139 (by decide) (fun c139 => ?_) (fun c139 => ?_)
          · replace h := h.1 c139
            refine lv_iload hx hb dX12_judge_145 (lv_at hl 5 rfl) ?_
            refine lv_iconst hx hb dX12_judge_147 ki_1 ?_
            refine lv_iload hx hb dX12_judge_148 (lv_at hl 1 rfl) ?_
            refine lv_ishl hx hb dX12_judge_150 ?_
            refine lv_ior hx hb dX12_judge_151 ?_
            refine lv_topi (fun x5_152 ex5_152 => ?_)
            replace h := h x5_152 ex5_152
            refine lv_istore (lv' := [(5, .int x5_152), (6, .int x6_125), (9, .int x9_88), (0, .ref (ad G 10 0)), (1, .int x1), (3, .int x3), (7, .int x7), (8, .int x8)]) hx hb dX12_judge_152 hl (by decide) rfl (fun ls hl => ?_)
            refine lv_iload hx hb dX12_judge_154 (lv_at hl 2 rfl) ?_
            refine lv_istore (lv' := [(7, .int x9_88), (5, .int x5_152), (6, .int x6_125), (9, .int x9_88), (0, .ref (ad G 10 0)), (1, .int x1), (3, .int x3), (8, .int x8)]) hx hb dX12_judge_156 hl (by decide) rfl (fun ls hl => ?_)
            obtain ⟨x8_158, ex8_158⟩ : ∃ z : Int32, z = x8 + (1 : Int32) := ⟨_, rfl⟩
            replace h := h x8_158 ex8_158
            refine lv_iinc (v := x8_158) (lv' := [(8, .int x8_158), (7, .int x9_88), (5, .int x5_152), (6, .int x6_125), (9, .int x9_88), (0, .ref (ad G 10 0)), (1, .int x1), (3, .int x3)]) hx hb dX12_judge_158 hl (k := 7) rfl (by rw [ex8_158, ki_1]) (by decide) rfl (fun ls hl => ?_)
            refine lv_goto (tgt := 64) hx hb dX12_judge_161 (by decide) ?_
            exact kk64 _ h H locs ls hW hS (lv_sub hl [5, 6, 7, 2, 3, 1, 0] rfl)
          · replace h := h.2 c139
            refine lv_iload hx hb dX12_judge_142 (lv_at hl 7 rfl) ?_
            exact m_iret S hret hlocks hK hW hbs hS rfl h dX12_judge_144
        · replace h := h.2 c107
          refine lv_iload hx hb dX12_judge_110 (lv_at hl 7 rfl) ?_
          exact m_iret S hret hlocks hK hW hbs hS rfl h dX12_judge_112
  unfold s_X12_judge at h
  refine lv_aload_n hx hb dX12_judge_0 rfl (lv_at hl 0 rfl) ?_
  refine lv_iconst hx hb dX12_judge_1 ki_0 ?_
  refine m_put S hK fk_X12_128 tyX12_ok nmX12 rfl pf_X12_0 (pv_10_0 G) hW hS (ci_10 (Nat.le_of_ble_eq_true rfl)) rfl rfl dX12_judge_2 (fun Mm2 eMm2 H locs hW hS => ?_)
  replace h := h Mm2 eMm2
  refine lv_aload_n hx hb dX12_judge_5 rfl (lv_at hl 0 rfl) ?_
  refine lv_iload_n hx hb dX12_judge_6 rfl (lv_at hl 1 rfl) ?_
  refine m_ci0 (m_rV S hK hW (m_szH hbs hS) (c_X12_isDairy l ) h lk_X12_142 (m_recv hK hW (ci_10 (Nat.le_of_ble_eq_true rfl)) (rc_10 G) rfl) rfl hl.1 rfl ⟨Nat.le_of_ble_eq_true rfl, Nat.le_of_ble_eq_true rfl⟩ (Nat.le_of_ble_eq_true rfl) ⟨Nat.zero_le _, Nat.zero_le _⟩ dX12_judge_7) hS rfl rfl (fun rr7 Mm7 H locs h hW hS => ?_)
  refine lv_if_eq (tgt := 34) hx hb dX12_judge_10 (by decide) (fun c10 => ?_) (fun c10 => ?_)
  · replace h := h.1 c10
    refine lv_iconst hx hb dX12_judge_34 ki_m1 ?_
    exact m_iret S hret hlocks hK hW hbs hS rfl h dX12_judge_35
  · replace h := h.2 c10
    refine lv_iload_n hx hb dX12_judge_13 rfl (lv_at hl 2 rfl) ?_
    refine lv_iconst hx hb dX12_judge_14 ki_0 ?_
    refine lv_sipush hx hb dX12_judge_15 ks_600 ?_
    refine m_ci0 (m_rS S hK hW (m_szH hbs hS) (c_X12_in l ) h lk_X12_131 rfl hl.1 rfl ⟨Nat.le_of_ble_eq_true rfl, Nat.le_of_ble_eq_true rfl⟩ (Nat.le_of_ble_eq_true rfl) ⟨Nat.zero_le _, Nat.zero_le _⟩ dX12_judge_18) hS rfl rfl (fun rr18 Mm18 H locs h hW hS => ?_)
    refine lv_if_eq (tgt := 34) hx hb dX12_judge_21 (by decide) (fun c21 => ?_) (fun c21 => ?_)
    · replace h := h.1 c21
      refine lv_iconst hx hb dX12_judge_34 ki_m1 ?_
      exact m_iret S hret hlocks hK hW hbs hS rfl h dX12_judge_35
    · replace h := h.2 c21
      refine lv_iload_n hx hb dX12_judge_24 rfl (lv_at hl 3 rfl) ?_
      refine lv_iconst hx hb dX12_judge_25 ki_0 ?_
      refine lv_bipush hx hb dX12_judge_26 kb_7 ?_
      refine m_ci0 (m_rS S hK hW (m_szH hbs hS) (c_X12_in l ) h lk_X12_131 rfl hl.1 rfl ⟨Nat.le_of_ble_eq_true rfl, Nat.le_of_ble_eq_true rfl⟩ (Nat.le_of_ble_eq_true rfl) ⟨Nat.zero_le _, Nat.zero_le _⟩ dX12_judge_28) hS rfl rfl (fun rr28 Mm28 H locs h hW hS => ?_)
      refine lv_if_ne (tgt := 36) hx hb dX12_judge_31 (by decide) (fun c31 => ?_) (fun c31 => ?_)
      · replace h := h.1 c31
        refine lv_aload_n hx hb dX12_judge_36 rfl (lv_at hl 0 rfl) ?_
        refine lv_iload_n hx hb dX12_judge_37 rfl (lv_at hl 3 rfl) ?_
        refine lv_iconst hx hb dX12_judge_38 ki_0 ?_
        refine m_ci0 (m_rV S hK hW (m_szH hbs hS) (c_X12_lacks l ) h lk_X12_245 (m_recv hK hW (ci_10 (Nat.le_of_ble_eq_true rfl)) (rc_10 G) rfl) rfl hl.1 rfl ⟨Nat.le_of_ble_eq_true rfl, Nat.le_of_ble_eq_true rfl⟩ (Nat.le_of_ble_eq_true rfl) ⟨Nat.zero_le _, Nat.zero_le _⟩ dX12_judge_39) hS rfl rfl (fun rr39 Mm39 H locs h hW hS => ?_)
        refine lv_istore (lv' := [(4, .int rr39), (0, .ref (ad G 10 0)), (1, .int x1), (2, .int x2), (3, .int x3)]) hx hb dX12_judge_42 hl (by decide) rfl (fun ls hl => ?_)
        refine lv_iload hx hb dX12_judge_44 (lv_at hl 0 rfl) ?_
        refine lv_if_ge (tgt := 52) hx hb dX12_judge_46 (by decide) (fun c46 => ?_) (fun c46 => ?_)
        · replace h := h.1 c46
          refine lv_iconst hx hb dX12_judge_52 ki_0 ?_
          refine lv_istore (lv' := [(5, .int (0 : Int32)), (4, .int rr39), (0, .ref (ad G 10 0)), (1, .int x1), (2, .int x2), (3, .int x3)]) hx hb dX12_judge_53 hl (by decide) rfl (fun ls hl => ?_)
          refine lv_iload_n hx hb dX12_judge_55 rfl (lv_at hl 4 rfl) ?_
          refine lv_istore (lv' := [(6, .int x2), (5, .int (0 : Int32)), (4, .int rr39), (0, .ref (ad G 10 0)), (1, .int x1), (2, .int x2), (3, .int x3)]) hx hb dX12_judge_56 hl (by decide) rfl (fun ls hl => ?_)
          refine lv_iconst hx hb dX12_judge_58 ki_m1 ?_
          refine lv_istore (lv' := [(7, .int (-1 : Int32)), (6, .int x2), (5, .int (0 : Int32)), (4, .int rr39), (0, .ref (ad G 10 0)), (1, .int x1), (2, .int x2), (3, .int x3)]) hx hb dX12_judge_59 hl (by decide) rfl (fun ls hl => ?_)
          refine lv_iconst hx hb dX12_judge_61 ki_0 ?_
          refine lv_istore (lv' := [(8, .int (0 : Int32)), (7, .int (-1 : Int32)), (6, .int x2), (5, .int (0 : Int32)), (4, .int rr39), (0, .ref (ad G 10 0)), (1, .int x1), (2, .int x2), (3, .int x3)]) hx hb dX12_judge_62 hl (by decide) rfl (fun ls hl => ?_)
          obtain ⟨n64, h⟩ := h
          exact w64 n64 _ h H locs ls hW hS (lv_sub hl [5, 6, 8, 3, 2, 1, 0] rfl)
        · replace h := h.2 c46
          refine lv_iload hx hb dX12_judge_49 (lv_at hl 0 rfl) ?_
          exact m_iret S hret hlocks hK hW hbs hS rfl h dX12_judge_51
      · replace h := h.2 c31
        refine lv_iconst hx hb dX12_judge_34 ki_m1 ?_
        exact m_iret S hret hlocks hK hW hbs hS rfl h dX12_judge_35
def s_X12_begin_2 (P : Mem → Prop) (K2 : Mem × Int32 → Prop) (M : Mem) (x1 : Int32) : Prop :=
  ((320 : Int32) ≤ x1 → P M) ∧ (¬ (320 : Int32) ≤ x1 → vp_in x1 320 ∧ (vp_in x1 320 ∧ (∀ Mm20 : Mem, Mm20 = wI M 46 0 (x1.toNatClampNeg) (M.1 44 0 x1.toNatClampNeg) → ∀ x1_21 : Int32, x1_21 = x1 + (1 : Int32) → K2 (Mm20, x1_21))))
def s_X12_begin (M : Mem) (P : Mem → Prop) : Prop :=
  ∃ n, Lz (fun (K2 : Mem × Int32 → Prop) (a : Mem × Int32) => s_X12_begin_2 P K2 a.1 a.2) n (M, (0 : Int32))
abbrev rm_X12_begin : Room := { frames := 0, cells := 0, slots := 0, locals := 0 }
set_option maxHeartbeats 4000000 in
set_option maxRecDepth 100000 in
theorem c_X12_begin (l : Launch) {G : Gn} {M : Mem} {P : Mem → Prop} : MQv l yX12_begin cX12_begin 2 none rm_X12_begin [.ref (ad G 10 0)] G M (s_X12_begin M P) P := by
  refine m_enter (by decide +kernel) (Nat.le_of_ble_eq_true rfl) ?_
  intro p e s m below meth c ls H locs S hret hlocks hname hK hbs hW hS hl h
  obtain ⟨AV, hAV⟩ : ∃ z : Array Value, z = ([.ref (ad G 10 0)] : List Value).toArray := ⟨_, rfl⟩
  rw [← hAV] at S ⊢
  replace S : CallFix p m c cX12_begin 2 s AV lw_G "MilkDeskModel" := S
  have hx := S.1
  have hb := S.2.1
  have hml := S.2.2.1
  have hown := S.2.2.2.1
  have hts := S.2.2.2.2
  replace hl : lv_has ls 2 [(0, .ref (ad G 10 0))] := hl
  have w2 : ∀ (n : Nat) (a : Mem × Int32), Lz (fun (K2 : Mem × Int32 → Prop) (a : Mem × Int32) => s_X12_begin_2 P K2 a.1 a.2) n a → ∀ (H : Heap) (locs : List Loc) (ls : Array Slot), WPm G a.1 H → va_S (fun q => bs G ≤ q) s.heap H locs → lv_has ls 2 [(0, .ref (ad G 10 0)), (1, .int a.2)] → W p l e rm_X12_begin s m AV below meth c H locs 0 0 (MQ below (va_Qv P (WS G) (fun q => bs G ≤ q)) AV s 0 0 (fun q => bs G ≤ q)) (F0 m 2 ls []) := by
    refine Lz_walk ?_
    rintro K2 kk2 ⟨M, x1⟩ h H locs ls hW hS hl
    replace h : s_X12_begin_2 P K2 M x1 := h
    replace hW : WPm G M H := hW
    replace hl : lv_has ls 2 [(0, .ref (ad G 10 0)), (1, .int x1)] := hl
    unfold s_X12_begin_2 at h
    refine lv_iload_n hx hb dX12_begin_2 rfl (lv_at hl 1 rfl) ?_
    refine lv_sipush hx hb dX12_begin_3 ks_320 ?_
    refine lv_icmp_ge (tgt := 27) hx hb dX12_begin_6 (by decide) (fun c6 => ?_) (fun c6 => ?_)
    · replace h := h.1 c6
      exact m_vret S hret hlocks hK hW hbs hS h dX12_begin_27
    · replace h := h.2 c6
      refine lv_aload_n hx hb dX12_begin_9 rfl (lv_at hl 0 rfl) ?_
      refine m_getr S hK fk_X12_16 (gr_10_3 G 0) hW (ci_10 (Nat.le_of_ble_eq_true rfl)) dX12_begin_10 ?_
      refine lv_iload_n hx hb dX12_begin_13 rfl (lv_at hl 1 rfl) ?_
      refine lv_aload_n hx hb dX12_begin_14 rfl (lv_at hl 0 rfl) ?_
      refine m_getr S hK fk_X12_7 (gr_10_1 G 0) hW (ci_10 (Nat.le_of_ble_eq_true rfl)) dX12_begin_15 ?_
      refine lv_iload_n hx hb dX12_begin_18 rfl (lv_at hl 1 rfl) ?_
      obtain ⟨hb19, h⟩ := h
      refine m_ald S hK (ar_44 G) hW (ci_44 (Nat.le_of_ble_eq_true rfl)) hb19 dX12_begin_19 ?_
      obtain ⟨hb20, h⟩ := h
      refine m_ast S hK (ar_46 G) hW hS (ci_46 (Nat.le_of_ble_eq_true rfl)) hb20 dX12_begin_20 (fun Mm20 eMm20 H locs hW hS => ?_)
      replace h := h Mm20 eMm20
      obtain ⟨x1_21, ex1_21⟩ : ∃ z : Int32, z = x1 + (1 : Int32) := ⟨_, rfl⟩
      replace h := h x1_21 ex1_21
      refine lv_iinc (v := x1_21) (lv' := [(1, .int x1_21), (0, .ref (ad G 10 0))]) hx hb dX12_begin_21 hl (k := 1) rfl (by rw [ex1_21, ki_1]) (by decide) rfl (fun ls hl => ?_)
      refine lv_goto (tgt := 2) hx hb dX12_begin_24 (by decide) ?_
      exact kk2 _ h H locs ls hW hS (lv_sub hl [1, 0] rfl)
  unfold s_X12_begin at h
  refine lv_iconst hx hb dX12_begin_0 ki_0 ?_
  refine lv_istore_n (lv' := [(1, .int (0 : Int32)), (0, .ref (ad G 10 0))]) hx hb dX12_begin_1 rfl hl (by decide) rfl (fun ls hl => ?_)
  obtain ⟨n2, h⟩ := h
  exact w2 n2 _ h H locs ls hW hS (lv_sub hl [1, 0] rfl)
def s_X12_comeBack_2 (P : Mem → Prop) (K2 : Mem × Int32 → Prop) (M : Mem) (x1 : Int32) : Prop :=
  ((320 : Int32) ≤ x1 → P M) ∧ (¬ (320 : Int32) ≤ x1 → vp_in x1 320 ∧ (vp_in x1 320 ∧ (∀ Mm20 : Mem, Mm20 = wI M 44 0 (x1.toNatClampNeg) (M.1 46 0 x1.toNatClampNeg) → ∀ x1_21 : Int32, x1_21 = x1 + (1 : Int32) → K2 (Mm20, x1_21))))
def s_X12_comeBack (M : Mem) (P : Mem → Prop) : Prop :=
  ∃ n, Lz (fun (K2 : Mem × Int32 → Prop) (a : Mem × Int32) => s_X12_comeBack_2 P K2 a.1 a.2) n (M, (0 : Int32))
abbrev rm_X12_comeBack : Room := { frames := 0, cells := 0, slots := 0, locals := 0 }
set_option maxHeartbeats 4000000 in
set_option maxRecDepth 100000 in
theorem c_X12_comeBack (l : Launch) {G : Gn} {M : Mem} {P : Mem → Prop} : MQv l yX12_comeBack cX12_comeBack 2 none rm_X12_comeBack [.ref (ad G 10 0)] G M (s_X12_comeBack M P) P := by
  refine m_enter (by decide +kernel) (Nat.le_of_ble_eq_true rfl) ?_
  intro p e s m below meth c ls H locs S hret hlocks hname hK hbs hW hS hl h
  obtain ⟨AV, hAV⟩ : ∃ z : Array Value, z = ([.ref (ad G 10 0)] : List Value).toArray := ⟨_, rfl⟩
  rw [← hAV] at S ⊢
  replace S : CallFix p m c cX12_comeBack 2 s AV lw_G "MilkDeskModel" := S
  have hx := S.1
  have hb := S.2.1
  have hml := S.2.2.1
  have hown := S.2.2.2.1
  have hts := S.2.2.2.2
  replace hl : lv_has ls 2 [(0, .ref (ad G 10 0))] := hl
  have w2 : ∀ (n : Nat) (a : Mem × Int32), Lz (fun (K2 : Mem × Int32 → Prop) (a : Mem × Int32) => s_X12_comeBack_2 P K2 a.1 a.2) n a → ∀ (H : Heap) (locs : List Loc) (ls : Array Slot), WPm G a.1 H → va_S (fun q => bs G ≤ q) s.heap H locs → lv_has ls 2 [(0, .ref (ad G 10 0)), (1, .int a.2)] → W p l e rm_X12_comeBack s m AV below meth c H locs 0 0 (MQ below (va_Qv P (WS G) (fun q => bs G ≤ q)) AV s 0 0 (fun q => bs G ≤ q)) (F0 m 2 ls []) := by
    refine Lz_walk ?_
    rintro K2 kk2 ⟨M, x1⟩ h H locs ls hW hS hl
    replace h : s_X12_comeBack_2 P K2 M x1 := h
    replace hW : WPm G M H := hW
    replace hl : lv_has ls 2 [(0, .ref (ad G 10 0)), (1, .int x1)] := hl
    unfold s_X12_comeBack_2 at h
    refine lv_iload_n hx hb dX12_comeBack_2 rfl (lv_at hl 1 rfl) ?_
    refine lv_sipush hx hb dX12_comeBack_3 ks_320 ?_
    refine lv_icmp_ge (tgt := 27) hx hb dX12_comeBack_6 (by decide) (fun c6 => ?_) (fun c6 => ?_)
    · replace h := h.1 c6
      exact m_vret S hret hlocks hK hW hbs hS h dX12_comeBack_27
    · replace h := h.2 c6
      refine lv_aload_n hx hb dX12_comeBack_9 rfl (lv_at hl 0 rfl) ?_
      refine m_getr S hK fk_X12_7 (gr_10_1 G 0) hW (ci_10 (Nat.le_of_ble_eq_true rfl)) dX12_comeBack_10 ?_
      refine lv_iload_n hx hb dX12_comeBack_13 rfl (lv_at hl 1 rfl) ?_
      refine lv_aload_n hx hb dX12_comeBack_14 rfl (lv_at hl 0 rfl) ?_
      refine m_getr S hK fk_X12_16 (gr_10_3 G 0) hW (ci_10 (Nat.le_of_ble_eq_true rfl)) dX12_comeBack_15 ?_
      refine lv_iload_n hx hb dX12_comeBack_18 rfl (lv_at hl 1 rfl) ?_
      obtain ⟨hb19, h⟩ := h
      refine m_ald S hK (ar_46 G) hW (ci_46 (Nat.le_of_ble_eq_true rfl)) hb19 dX12_comeBack_19 ?_
      obtain ⟨hb20, h⟩ := h
      refine m_ast S hK (ar_44 G) hW hS (ci_44 (Nat.le_of_ble_eq_true rfl)) hb20 dX12_comeBack_20 (fun Mm20 eMm20 H locs hW hS => ?_)
      replace h := h Mm20 eMm20
      obtain ⟨x1_21, ex1_21⟩ : ∃ z : Int32, z = x1 + (1 : Int32) := ⟨_, rfl⟩
      replace h := h x1_21 ex1_21
      refine lv_iinc (v := x1_21) (lv' := [(1, .int x1_21), (0, .ref (ad G 10 0))]) hx hb dX12_comeBack_21 hl (k := 1) rfl (by rw [ex1_21, ki_1]) (by decide) rfl (fun ls hl => ?_)
      refine lv_goto (tgt := 2) hx hb dX12_comeBack_24 (by decide) ?_
      exact kk2 _ h H locs ls hW hS (lv_sub hl [1, 0] rfl)
  unfold s_X12_comeBack at h
  refine lv_iconst hx hb dX12_comeBack_0 ki_0 ?_
  refine lv_istore_n (lv' := [(1, .int (0 : Int32)), (0, .ref (ad G 10 0))]) hx hb dX12_comeBack_1 rfl hl (by decide) rfl (fun ls hl => ?_)
  obtain ⟨n2, h⟩ := h
  exact w2 n2 _ h H locs ls hW hS (lv_sub hl [1, 0] rfl)
def s_X12_isEnough_113 (x1 : Int32) (P : Int32 → Mem → Prop) (K42 : Mem × Int32 × Int32 → Prop) (M : Mem) (x5 : Int32) (y0 : Int32) : Prop :=
  ∀ x5_115 : Int32, x5_115 = x5 + (1 : Int32) → K42 (M, y0, x5_115)
def s_X12_isEnough_42 (x1 : Int32) (P : Int32 → Mem → Prop) (K42 : Mem × Int32 × Int32 → Prop) (M : Mem) (x4 : Int32) (x5 : Int32) : Prop :=
  ((M.1 44 0 0) ≤ x5 → s_X12_comeBack M (fun Mm122 => isB x4 ∧ P x4 Mm122)) ∧ (¬ (M.1 44 0 0) ≤ x5 → (x4 = 0 → s_X12_isEnough_113 x1 P K42 M x5 (0 : Int32)) ∧ (¬ x4 = 0 → vp_in x5 12 ∧ (s_X12_wonBy M (M.1 47 0 x5.toNatClampNeg) (fun rr66 Mm66 => (¬ rr66 = x1 → s_X12_isEnough_113 x1 P K42 Mm66 x5 (1 : Int32)) ∧ (rr66 = x1 → vp_in (((180 : Int32) + ((11 : Int32) * x5)) + (2 : Int32)) 320 ∧ (vp_in (((180 : Int32) + ((11 : Int32) * x5)) + (2 : Int32)) 320 ∧ ((¬ (Mm66.1 44 0 (((180 : Int32) + ((11 : Int32) * x5)) + (2 : Int32)).toNatClampNeg) = (Mm66.1 46 0 (((180 : Int32) + ((11 : Int32) * x5)) + (2 : Int32)).toNatClampNeg) → s_X12_isEnough_113 x1 P K42 Mm66 x5 (0 : Int32)) ∧ ((Mm66.1 44 0 (((180 : Int32) + ((11 : Int32) * x5)) + (2 : Int32)).toNatClampNeg) = (Mm66.1 46 0 (((180 : Int32) + ((11 : Int32) * x5)) + (2 : Int32)).toNatClampNeg) → s_X12_isEnough_113 x1 P K42 Mm66 x5 (1 : Int32)))))))))
def s_X12_isEnough_20 (x1 : Int32) (x2 : Int32) (P : Int32 → Mem → Prop) (K20 : Mem × Int32 → Prop) (M : Mem) (x4 : Int32) : Prop :=
  (x2 ≤ x4 → ∃ n, Lz (fun (K42 : Mem × Int32 × Int32 → Prop) (a : Mem × Int32 × Int32) => s_X12_isEnough_42 x1 P K42 a.1 a.2.1 a.2.2) n (M, (1 : Int32), (0 : Int32))) ∧ (¬ x2 ≤ x4 → s_X12_pass M (fun Mm27 => ∀ x4_30 : Int32, x4_30 = x4 + (1 : Int32) → K20 (Mm27, x4_30)))
def s_X12_isEnough (M : Mem) (x1 : Int32) (x2 : Int32) (x3 : Int32) (P : Int32 → Mem → Prop) : Prop :=
  s_X12_begin M (fun Mm1 => vp_in ((70 : Int32) + x1) 320 ∧ (vp_in ((70 : Int32) + x1) 320 ∧ (∀ Mm16 : Mem, Mm16 = wI Mm1 44 0 (((70 : Int32) + x1).toNatClampNeg) ((Mm1.1 44 0 ((70 : Int32) + x1).toNatClampNeg) + x3) → ∃ n, Lz (fun (K20 : Mem × Int32 → Prop) (a : Mem × Int32) => s_X12_isEnough_20 x1 x2 P K20 a.1 a.2) n (Mm16, (0 : Int32)))))
abbrev rm_X12_isEnough : Room := { frames := 13, cells := 0, slots := 0, locals := 312 }
set_option maxHeartbeats 4000000 in
set_option maxRecDepth 100000 in
theorem c_X12_isEnough (l : Launch) {G : Gn} {M : Mem} {x1 : Int32} {x2 : Int32} {x3 : Int32} {P : Int32 → Mem → Prop} : MQi l yX12_isEnough cX12_isEnough 6 (some .boolean) rm_X12_isEnough [.ref (ad G 10 0), .int x1, .int x2, .int x3] G M (s_X12_isEnough M x1 x2 x3 P) P := by
  refine m_enter (by decide +kernel) (Nat.le_of_ble_eq_true rfl) ?_
  intro p e s m below meth c ls H locs S hret hlocks hname hK hbs hW hS hl h
  obtain ⟨AV, hAV⟩ : ∃ z : Array Value, z = ([.ref (ad G 10 0), .int x1, .int x2, .int x3] : List Value).toArray := ⟨_, rfl⟩
  rw [← hAV] at S ⊢
  replace S : CallFix p m c cX12_isEnough 6 s AV lw_G "MilkDeskModel" := S
  have hx := S.1
  have hb := S.2.1
  have hml := S.2.2.1
  have hown := S.2.2.2.1
  have hts := S.2.2.2.2
  replace hl : lv_has ls 6 [(0, .ref (ad G 10 0)), (1, .int x1), (2, .int x2), (3, .int x3)] := hl
  have w42 : ∀ (n : Nat) (a : Mem × Int32 × Int32), Lz (fun (K42 : Mem × Int32 × Int32 → Prop) (a : Mem × Int32 × Int32) => s_X12_isEnough_42 x1 P K42 a.1 a.2.1 a.2.2) n a → ∀ (H : Heap) (locs : List Loc) (ls : Array Slot), WPm G a.1 H → va_S (fun q => bs G ≤ q) s.heap H locs → lv_has ls 6 [(0, .ref (ad G 10 0)), (1, .int x1), (4, .int a.2.1), (5, .int a.2.2)] → W p l e rm_X12_isEnough s m AV below meth c H locs 0 0 (MQ below (va_Qi P (WS G) (fun q => bs G ≤ q)) AV s 0 0 (fun q => bs G ≤ q)) (F0 m 42 ls []) := by
    refine Lz_walk ?_
    rintro K42 kk42 ⟨M, x4, x5⟩ h H locs ls hW hS hl
    replace h : s_X12_isEnough_42 x1 P K42 M x4 x5 := h
    replace hW : WPm G M H := hW
    replace hl : lv_has ls 6 [(0, .ref (ad G 10 0)), (1, .int x1), (4, .int x4), (5, .int x5)] := hl
    have b113 : ∀ (M : Mem) (x5 : Int32) (y0 : Int32) (H : Heap) (locs : List Loc) (ls : Array Slot), WPm G M H → va_S (fun q => bs G ≤ q) s.heap H locs → lv_has ls 6 [(0, .ref (ad G 10 0)), (1, .int x1), (5, .int x5)] → s_X12_isEnough_113 x1 P K42 M x5 y0 → W p l e rm_X12_isEnough s m AV below meth c H locs 0 0 (MQ below (va_Qi P (WS G) (fun q => bs G ≤ q)) AV s 0 0 (fun q => bs G ≤ q)) (F0 m 113 ls [.int y0]) := by
      intro M x5 y0 H locs ls hW hS hl h
      unfold s_X12_isEnough_113 at h
      refine lv_istore (lv' := [(4, .int y0), (0, .ref (ad G 10 0)), (1, .int x1), (5, .int x5)]) hx hb dX12_isEnough_113 hl (by decide) rfl (fun ls hl => ?_)
      obtain ⟨x5_115, ex5_115⟩ : ∃ z : Int32, z = x5 + (1 : Int32) := ⟨_, rfl⟩
      replace h := h x5_115 ex5_115
      refine lv_iinc (v := x5_115) (lv' := [(5, .int x5_115), (4, .int y0), (0, .ref (ad G 10 0)), (1, .int x1)]) hx hb dX12_isEnough_115 hl (k := 3) rfl (by rw [ex5_115, ki_1]) (by decide) rfl (fun ls hl => ?_)
      refine lv_goto (tgt := 42) hx hb dX12_isEnough_118 (by decide) ?_
      exact kk42 _ h H locs ls hW hS (lv_sub hl [2, 3, 1, 0] rfl)
    unfold s_X12_isEnough_42 at h
    refine lv_iload hx hb dX12_isEnough_42 (lv_at hl 3 rfl) ?_
    refine lv_aload_n hx hb dX12_isEnough_44 rfl (lv_at hl 0 rfl) ?_
    refine m_getr S hK fk_X12_7 (gr_10_1 G 0) hW (ci_10 (Nat.le_of_ble_eq_true rfl)) dX12_isEnough_45 ?_
    refine lv_iconst hx hb dX12_isEnough_48 ki_0 ?_
    refine m_aldk S hK (ar_44 G) hW (ci_44 (Nat.le_of_ble_eq_true rfl)) kn_0 (Nat.le_of_ble_eq_true rfl) dX12_isEnough_49 ?_
    refine lv_icmp_ge (tgt := 121) hx hb dX12_isEnough_50 (by decide) (fun c50 => ?_) (fun c50 => ?_)
    · replace h := h.1 c50
      refine lv_aload_n hx hb dX12_isEnough_121 rfl (lv_at hl 0 rfl) ?_
      refine m_cv0 (m_rV S hK hW (m_szH hbs hS) (c_X12_comeBack l ) h lk_X12_318 (m_recv hK hW (ci_10 (Nat.le_of_ble_eq_true rfl)) (rc_10 G) rfl) rfl hl.1 rfl ⟨Nat.le_of_ble_eq_true rfl, Nat.le_of_ble_eq_true rfl⟩ (Nat.le_of_ble_eq_true rfl) ⟨Nat.zero_le _, Nat.zero_le _⟩ dX12_isEnough_122) hS rfl rfl (fun Mm122 H locs h hW hS => ?_)
      refine lv_iload hx hb dX12_isEnough_125 (lv_at hl 2 rfl) ?_
      obtain ⟨hn127, h⟩ := h
      exact m_iret S hret hlocks hK hW hbs hS (isB_n hn127) h dX12_isEnough_127
    · replace h := h.2 c50
      refine lv_iload hx hb dX12_isEnough_53 (lv_at hl 2 rfl) ?_
      refine lv_if_eq (tgt := 112) hx hb dX12_isEnough_55 (by decide) (fun c55 => ?_) (fun c55 => ?_)
      · replace h := h.1 c55
        refine lv_iconst hx hb dX12_isEnough_112 ki_0 ?_
        exact b113 _ _ _ H locs ls hW hS (lv_sub hl [0, 1, 3] rfl) h
      · replace h := h.2 c55
        refine lv_aload_n hx hb dX12_isEnough_58 rfl (lv_at hl 0 rfl) ?_
        refine lv_aload_n hx hb dX12_isEnough_59 rfl (lv_at hl 0 rfl) ?_
        refine m_getr S hK fk_X12_19 (gr_10_5 G 0) hW (ci_10 (Nat.le_of_ble_eq_true rfl)) dX12_isEnough_60 ?_
        refine lv_iload hx hb dX12_isEnough_63 (lv_at hl 3 rfl) ?_
        obtain ⟨hb65, h⟩ := h
        refine m_ald S hK (ar_47 G) hW (ci_47 (Nat.le_of_ble_eq_true rfl)) hb65 dX12_isEnough_65 ?_
        refine m_ci0 (m_rV S hK hW (m_szH hbs hS) (c_X12_wonBy l ) h lk_X12_145 (m_recv hK hW (ci_10 (Nat.le_of_ble_eq_true rfl)) (rc_10 G) rfl) rfl hl.1 rfl ⟨Nat.le_of_ble_eq_true rfl, Nat.le_of_ble_eq_true rfl⟩ (Nat.le_of_ble_eq_true rfl) ⟨Nat.zero_le _, Nat.zero_le _⟩ dX12_isEnough_66) hS rfl rfl (fun rr66 Mm66 H locs h hW hS => ?_)
        refine lv_iload_n hx hb dX12_isEnough_69 rfl (lv_at hl 1 rfl) ?_
        refine lv_icmp_ne (tgt := 108) hx hb dX12_isEnough_70 (by decide) (fun c70 => ?_) (fun c70 => ?_)
        · replace h := h.1 c70
          refine lv_iconst hx hb dX12_isEnough_108 ki_1 ?_
          refine lv_goto (tgt := 113) hx hb dX12_isEnough_109 (by decide) ?_
          exact b113 _ _ _ H locs ls hW hS (lv_sub hl [0, 1, 3] rfl) h
        · replace h := h.2 c70
          refine lv_aload_n hx hb dX12_isEnough_73 rfl (lv_at hl 0 rfl) ?_
          refine m_getr S hK fk_X12_7 (gr_10_1 G 0) hW (ci_10 (Nat.le_of_ble_eq_true rfl)) dX12_isEnough_74 ?_
          refine lv_sipush hx hb dX12_isEnough_77 ks_180 ?_
          refine lv_bipush hx hb dX12_isEnough_80 kb_11 ?_
          refine lv_iload hx hb dX12_isEnough_82 (lv_at hl 3 rfl) ?_
          refine lv_imul hx hb dX12_isEnough_84 ?_
          refine lv_iadd hx hb dX12_isEnough_85 ?_
          refine lv_iconst hx hb dX12_isEnough_86 ki_2 ?_
          refine lv_iadd hx hb dX12_isEnough_87 ?_
          obtain ⟨hb88, h⟩ := h
          refine m_ald S hK (ar_44 G) hW (ci_44 (Nat.le_of_ble_eq_true rfl)) hb88 dX12_isEnough_88 ?_
          refine lv_aload_n hx hb dX12_isEnough_89 rfl (lv_at hl 0 rfl) ?_
          refine m_getr S hK fk_X12_16 (gr_10_3 G 0) hW (ci_10 (Nat.le_of_ble_eq_true rfl)) dX12_isEnough_90 ?_
          refine lv_sipush hx hb dX12_isEnough_93 ks_180 ?_
          refine lv_bipush hx hb dX12_isEnough_96 kb_11 ?_
          refine lv_iload hx hb dX12_isEnough_98 (lv_at hl 3 rfl) ?_
          refine lv_imul hx hb dX12_isEnough_100 ?_
          refine lv_iadd hx hb dX12_isEnough_101 ?_
          refine lv_iconst hx hb dX12_isEnough_102 ki_2 ?_
          refine lv_iadd hx hb dX12_isEnough_103 ?_
          obtain ⟨hb104, h⟩ := h
          refine m_ald S hK (ar_46 G) hW (ci_46 (Nat.le_of_ble_eq_true rfl)) hb104 dX12_isEnough_104 ?_
          refine lv_icmp_ne (tgt := 112) hx hb dX12_isEnough_105 (by decide) (fun c105 => ?_) (fun c105 => ?_)
          · replace h := h.1 c105
            refine lv_iconst hx hb dX12_isEnough_112 ki_0 ?_
            exact b113 _ _ _ H locs ls hW hS (lv_sub hl [0, 1, 3] rfl) h
          · replace h := h.2 c105
            refine lv_iconst hx hb dX12_isEnough_108 ki_1 ?_
            refine lv_goto (tgt := 113) hx hb dX12_isEnough_109 (by decide) ?_
            exact b113 _ _ _ H locs ls hW hS (lv_sub hl [0, 1, 3] rfl) h
  have w20 : ∀ (n : Nat) (a : Mem × Int32), Lz (fun (K20 : Mem × Int32 → Prop) (a : Mem × Int32) => s_X12_isEnough_20 x1 x2 P K20 a.1 a.2) n a → ∀ (H : Heap) (locs : List Loc) (ls : Array Slot), WPm G a.1 H → va_S (fun q => bs G ≤ q) s.heap H locs → lv_has ls 6 [(0, .ref (ad G 10 0)), (1, .int x1), (2, .int x2), (4, .int a.2)] → W p l e rm_X12_isEnough s m AV below meth c H locs 0 0 (MQ below (va_Qi P (WS G) (fun q => bs G ≤ q)) AV s 0 0 (fun q => bs G ≤ q)) (F0 m 20 ls []) := by
    refine Lz_walk ?_
    rintro K20 kk20 ⟨M, x4⟩ h H locs ls hW hS hl
    replace h : s_X12_isEnough_20 x1 x2 P K20 M x4 := h
    replace hW : WPm G M H := hW
    replace hl : lv_has ls 6 [(0, .ref (ad G 10 0)), (1, .int x1), (2, .int x2), (4, .int x4)] := hl
    unfold s_X12_isEnough_20 at h
    refine lv_iload hx hb dX12_isEnough_20 (lv_at hl 3 rfl) ?_
    refine lv_iload_n hx hb dX12_isEnough_22 rfl (lv_at hl 2 rfl) ?_
    refine lv_icmp_ge (tgt := 36) hx hb dX12_isEnough_23 (by decide) (fun c23 => ?_) (fun c23 => ?_)
    · replace h := h.1 c23
      refine lv_iconst hx hb dX12_isEnough_36 ki_1 ?_
      refine lv_istore (lv' := [(4, .int (1 : Int32)), (0, .ref (ad G 10 0)), (1, .int x1), (2, .int x2)]) hx hb dX12_isEnough_37 hl (by decide) rfl (fun ls hl => ?_)
      refine lv_iconst hx hb dX12_isEnough_39 ki_0 ?_
      refine lv_istore (lv' := [(5, .int (0 : Int32)), (4, .int (1 : Int32)), (0, .ref (ad G 10 0)), (1, .int x1), (2, .int x2)]) hx hb dX12_isEnough_40 hl (by decide) rfl (fun ls hl => ?_)
      obtain ⟨n42, h⟩ := h
      exact w42 n42 _ h H locs ls hW hS (lv_sub hl [2, 3, 1, 0] rfl)
    · replace h := h.2 c23
      refine lv_aload_n hx hb dX12_isEnough_26 rfl (lv_at hl 0 rfl) ?_
      refine m_cv0 (m_rV S hK hW (m_szH hbs hS) (c_X12_pass l ) h lk_X12_295 (m_recv hK hW (ci_10 (Nat.le_of_ble_eq_true rfl)) (rc_10 G) rfl) rfl hl.1 rfl ⟨Nat.le_of_ble_eq_true rfl, Nat.le_of_ble_eq_true rfl⟩ (Nat.le_of_ble_eq_true rfl) ⟨Nat.zero_le _, Nat.zero_le _⟩ dX12_isEnough_27) hS rfl rfl (fun Mm27 H locs h hW hS => ?_)
      obtain ⟨x4_30, ex4_30⟩ : ∃ z : Int32, z = x4 + (1 : Int32) := ⟨_, rfl⟩
      replace h := h x4_30 ex4_30
      refine lv_iinc (v := x4_30) (lv' := [(4, .int x4_30), (0, .ref (ad G 10 0)), (1, .int x1), (2, .int x2)]) hx hb dX12_isEnough_30 hl (k := 3) rfl (by rw [ex4_30, ki_1]) (by decide) rfl (fun ls hl => ?_)
      refine lv_goto (tgt := 20) hx hb dX12_isEnough_33 (by decide) ?_
      exact kk20 _ h H locs ls hW hS (lv_sub hl [1, 2, 3, 0] rfl)
  unfold s_X12_isEnough at h
  refine lv_aload_n hx hb dX12_isEnough_0 rfl (lv_at hl 0 rfl) ?_
  refine m_cv0 (m_rV S hK hW (m_szH hbs hS) (c_X12_begin l ) h lk_X12_315 (m_recv hK hW (ci_10 (Nat.le_of_ble_eq_true rfl)) (rc_10 G) rfl) rfl hl.1 rfl ⟨Nat.le_of_ble_eq_true rfl, Nat.le_of_ble_eq_true rfl⟩ (Nat.le_of_ble_eq_true rfl) ⟨Nat.zero_le _, Nat.zero_le _⟩ dX12_isEnough_1) hS rfl rfl (fun Mm1 H locs h hW hS => ?_)
  refine lv_aload_n hx hb dX12_isEnough_4 rfl (lv_at hl 0 rfl) ?_
  refine m_getr S hK fk_X12_7 (gr_10_1 G 0) hW (ci_10 (Nat.le_of_ble_eq_true rfl)) dX12_isEnough_5 ?_
  refine lv_bipush hx hb dX12_isEnough_8 kb_70 ?_
  refine lv_iload_n hx hb dX12_isEnough_10 rfl (lv_at hl 1 rfl) ?_
  refine lv_iadd hx hb dX12_isEnough_11 ?_
  refine lv_dup2_11 hx hb dX12_isEnough_12 rfl rfl ?_
  obtain ⟨hb13, h⟩ := h
  refine m_ald S hK (ar_44 G) hW (ci_44 (Nat.le_of_ble_eq_true rfl)) hb13 dX12_isEnough_13 ?_
  refine lv_iload_n hx hb dX12_isEnough_14 rfl (lv_at hl 3 rfl) ?_
  refine lv_iadd hx hb dX12_isEnough_15 ?_
  obtain ⟨hb16, h⟩ := h
  refine m_ast S hK (ar_44 G) hW hS (ci_44 (Nat.le_of_ble_eq_true rfl)) hb16 dX12_isEnough_16 (fun Mm16 eMm16 H locs hW hS => ?_)
  replace h := h Mm16 eMm16
  refine lv_iconst hx hb dX12_isEnough_17 ki_0 ?_
  refine lv_istore (lv' := [(4, .int (0 : Int32)), (0, .ref (ad G 10 0)), (1, .int x1), (2, .int x2), (3, .int x3)]) hx hb dX12_isEnough_18 hl (by decide) rfl (fun ls hl => ?_)
  obtain ⟨n20, h⟩ := h
  exact w20 n20 _ h H locs ls hW hS (lv_sub hl [1, 2, 3, 0] rfl)
def s_X12_bought_64 (x1 : Int32) (x2 : Int32) (P : Int32 → Mem → Prop) (K64 : Mem × Int32 × Int32 → Prop) (M : Mem) (x4 : Int32) (x5 : Int32) : Prop :=
  (x5 ≤ (x4 + (1 : Int32)) → P x5 M) ∧ (¬ x5 ≤ (x4 + (1 : Int32)) → ∀ x6_80 : Int32, x6_80 = ((x4 + x5) / (2 : Int32)) → s_X12_isEnough M x1 x2 x6_80 (fun rr87 Mm87 => (rr87 = 0 → K64 (Mm87, x6_80, x5)) ∧ (¬ rr87 = 0 → K64 (Mm87, x4, x6_80))))
def s_X12_bought (M : Mem) (x1 : Int32) (x2 : Int32) (P : Int32 → Mem → Prop) : Prop :=
  ∀ Mm2 : Mem, Mm2 = wI M 10 0 0 (0 : Int32) → s_X12_isDairy Mm2 x1 (fun rr7 Mm7 => (¬ rr7 = 0 → s_X12_wrongDays Mm7 x2 (20 : Int32) (fun rr19 Mm19 => (0 ≤ rr19 → s_X12_isEnough Mm19 x1 x2 (0 : Int32) (fun rr33 Mm33 => (rr33 = 0 → s_X12_isEnough Mm33 x1 x2 (1000 : Int32) (fun rr47 Mm47 => (¬ rr47 = 0 → ∃ n, Lz (fun (K64 : Mem × Int32 × Int32 → Prop) (a : Mem × Int32 × Int32) => s_X12_bought_64 x1 x2 P K64 a.1 a.2.1 a.2.2) n (Mm47, (0 : Int32), (1000 : Int32))) ∧ (rr47 = 0 → P (-4 : Int32) Mm47))) ∧ (¬ rr33 = 0 → P (0 : Int32) Mm33))) ∧ (¬ 0 ≤ rr19 → P rr19 Mm19))) ∧ (rr7 = 0 → P (-1 : Int32) Mm7))
abbrev rm_X12_bought : Room := { frames := 14, cells := 0, slots := 0, locals := 337 }
set_option maxHeartbeats 4000000 in
set_option maxRecDepth 100000 in
theorem c_X12_bought (l : Launch) {G : Gn} {M : Mem} {x1 : Int32} {x2 : Int32} {P : Int32 → Mem → Prop} : MQi l yX12_bought cX12_bought 7 (some .int) rm_X12_bought [.ref (ad G 10 0), .int x1, .int x2] G M (s_X12_bought M x1 x2 P) P := by
  refine m_enter (by decide +kernel) (Nat.le_of_ble_eq_true rfl) ?_
  intro p e s m below meth c ls H locs S hret hlocks hname hK hbs hW hS hl h
  obtain ⟨AV, hAV⟩ : ∃ z : Array Value, z = ([.ref (ad G 10 0), .int x1, .int x2] : List Value).toArray := ⟨_, rfl⟩
  rw [← hAV] at S ⊢
  replace S : CallFix p m c cX12_bought 7 s AV lw_G "MilkDeskModel" := S
  have hx := S.1
  have hb := S.2.1
  have hml := S.2.2.1
  have hown := S.2.2.2.1
  have hts := S.2.2.2.2
  replace hl : lv_has ls 7 [(0, .ref (ad G 10 0)), (1, .int x1), (2, .int x2)] := hl
  have w64 : ∀ (n : Nat) (a : Mem × Int32 × Int32), Lz (fun (K64 : Mem × Int32 × Int32 → Prop) (a : Mem × Int32 × Int32) => s_X12_bought_64 x1 x2 P K64 a.1 a.2.1 a.2.2) n a → ∀ (H : Heap) (locs : List Loc) (ls : Array Slot), WPm G a.1 H → va_S (fun q => bs G ≤ q) s.heap H locs → lv_has ls 7 [(0, .ref (ad G 10 0)), (1, .int x1), (2, .int x2), (4, .int a.2.1), (5, .int a.2.2)] → W p l e rm_X12_bought s m AV below meth c H locs 0 0 (MQ below (va_Qi P (WS G) (fun q => bs G ≤ q)) AV s 0 0 (fun q => bs G ≤ q)) (F0 m 64 ls []) := by
    refine Lz_walk ?_
    rintro K64 kk64 ⟨M, x4, x5⟩ h H locs ls hW hS hl
    replace h : s_X12_bought_64 x1 x2 P K64 M x4 x5 := h
    replace hW : WPm G M H := hW
    replace hl : lv_has ls 7 [(0, .ref (ad G 10 0)), (1, .int x1), (2, .int x2), (4, .int x4), (5, .int x5)] := hl
    unfold s_X12_bought_64 at h
    refine lv_iload hx hb dX12_bought_64 (lv_at hl 4 rfl) ?_
    refine lv_iload hx hb dX12_bought_66 (lv_at hl 3 rfl) ?_
    refine lv_iconst hx hb dX12_bought_68 ki_1 ?_
    refine lv_iadd hx hb dX12_bought_69 ?_
    refine lv_icmp_le (tgt := 107) hx hb dX12_bought_70 (by decide) (fun c70 => ?_) (fun c70 => ?_)
    · replace h := h.1 c70
      refine lv_iload hx hb dX12_bought_107 (lv_at hl 4 rfl) ?_
      exact m_iret S hret hlocks hK hW hbs hS rfl h dX12_bought_109
    · replace h := h.2 c70
      refine lv_iload hx hb dX12_bought_73 (lv_at hl 3 rfl) ?_
      refine lv_iload hx hb dX12_bought_75 (lv_at hl 4 rfl) ?_
      refine lv_iadd hx hb dX12_bought_77 ?_
      refine lv_iconst hx hb dX12_bought_78 ki_2 ?_
      refine lv_idiv hx hb dX12_bought_79 nz_2 ?_
      refine lv_topi (fun x6_80 ex6_80 => ?_)
      replace h := h x6_80 ex6_80
      refine lv_istore (lv' := [(6, .int x6_80), (0, .ref (ad G 10 0)), (1, .int x1), (2, .int x2), (4, .int x4), (5, .int x5)]) hx hb dX12_bought_80 hl (by decide) rfl (fun ls hl => ?_)
      refine lv_aload_n hx hb dX12_bought_82 rfl (lv_at hl 1 rfl) ?_
      refine lv_iload_n hx hb dX12_bought_83 rfl (lv_at hl 2 rfl) ?_
      refine lv_iload_n hx hb dX12_bought_84 rfl (lv_at hl 3 rfl) ?_
      refine lv_iload hx hb dX12_bought_85 (lv_at hl 0 rfl) ?_
      refine m_ci0 (m_rV S hK hW (m_szH hbs hS) (c_X12_isEnough l ) h lk_X12_321 (m_recv hK hW (ci_10 (Nat.le_of_ble_eq_true rfl)) (rc_10 G) rfl) rfl hl.1 rfl ⟨Nat.le_of_ble_eq_true rfl, Nat.le_of_ble_eq_true rfl⟩ (Nat.le_of_ble_eq_true rfl) ⟨Nat.zero_le _, Nat.zero_le _⟩ dX12_bought_87) hS rfl rfl (fun rr87 Mm87 H locs h hW hS => ?_)
      refine lv_if_eq (tgt := 100) hx hb dX12_bought_90 (by decide) (fun c90 => ?_) (fun c90 => ?_)
      · replace h := h.1 c90
        refine lv_iload hx hb dX12_bought_100 (lv_at hl 0 rfl) ?_
        refine lv_istore (lv' := [(4, .int x6_80), (6, .int x6_80), (0, .ref (ad G 10 0)), (1, .int x1), (2, .int x2), (5, .int x5)]) hx hb dX12_bought_102 hl (by decide) rfl (fun ls hl => ?_)
        refine lv_goto (tgt := 64) hx hb dX12_bought_104 (by decide) ?_
        exact kk64 _ h H locs ls hW hS (lv_sub hl [2, 3, 4, 0, 5] rfl)
      · replace h := h.2 c90
        refine lv_iload hx hb dX12_bought_93 (lv_at hl 0 rfl) ?_
        refine lv_istore (lv' := [(5, .int x6_80), (6, .int x6_80), (0, .ref (ad G 10 0)), (1, .int x1), (2, .int x2), (4, .int x4)]) hx hb dX12_bought_95 hl (by decide) rfl (fun ls hl => ?_)
        refine lv_goto (tgt := 104) hx hb dX12_bought_97 (by decide) ?_
        refine lv_goto (tgt := 64) hx hb dX12_bought_104 (by decide) ?_
        exact kk64 _ h H locs ls hW hS (lv_sub hl [2, 3, 4, 5, 0] rfl)
  unfold s_X12_bought at h
  refine lv_aload_n hx hb dX12_bought_0 rfl (lv_at hl 0 rfl) ?_
  refine lv_iconst hx hb dX12_bought_1 ki_0 ?_
  refine m_put S hK fk_X12_128 tyX12_ok nmX12 rfl pf_X12_0 (pv_10_0 G) hW hS (ci_10 (Nat.le_of_ble_eq_true rfl)) rfl rfl dX12_bought_2 (fun Mm2 eMm2 H locs hW hS => ?_)
  replace h := h Mm2 eMm2
  refine lv_aload_n hx hb dX12_bought_5 rfl (lv_at hl 0 rfl) ?_
  refine lv_iload_n hx hb dX12_bought_6 rfl (lv_at hl 1 rfl) ?_
  refine m_ci0 (m_rV S hK hW (m_szH hbs hS) (c_X12_isDairy l ) h lk_X12_142 (m_recv hK hW (ci_10 (Nat.le_of_ble_eq_true rfl)) (rc_10 G) rfl) rfl hl.1 rfl ⟨Nat.le_of_ble_eq_true rfl, Nat.le_of_ble_eq_true rfl⟩ (Nat.le_of_ble_eq_true rfl) ⟨Nat.zero_le _, Nat.zero_le _⟩ dX12_bought_7) hS rfl rfl (fun rr7 Mm7 H locs h hW hS => ?_)
  refine lv_if_ne (tgt := 15) hx hb dX12_bought_10 (by decide) (fun c10 => ?_) (fun c10 => ?_)
  · replace h := h.1 c10
    refine lv_aload_n hx hb dX12_bought_15 rfl (lv_at hl 0 rfl) ?_
    refine lv_iload_n hx hb dX12_bought_16 rfl (lv_at hl 2 rfl) ?_
    refine lv_bipush hx hb dX12_bought_17 kb_20 ?_
    refine m_ci0 (m_rV S hK hW (m_szH hbs hS) (c_X12_wrongDays l ) h lk_X12_292 (m_recv hK hW (ci_10 (Nat.le_of_ble_eq_true rfl)) (rc_10 G) rfl) rfl hl.1 rfl ⟨Nat.le_of_ble_eq_true rfl, Nat.le_of_ble_eq_true rfl⟩ (Nat.le_of_ble_eq_true rfl) ⟨Nat.zero_le _, Nat.zero_le _⟩ dX12_bought_19) hS rfl rfl (fun rr19 Mm19 H locs h hW hS => ?_)
    refine lv_istore_n (lv' := [(3, .int rr19), (0, .ref (ad G 10 0)), (1, .int x1), (2, .int x2)]) hx hb dX12_bought_22 rfl hl (by decide) rfl (fun ls hl => ?_)
    refine lv_iload_n hx hb dX12_bought_23 rfl (lv_at hl 0 rfl) ?_
    refine lv_if_ge (tgt := 29) hx hb dX12_bought_24 (by decide) (fun c24 => ?_) (fun c24 => ?_)
    · replace h := h.1 c24
      refine lv_aload_n hx hb dX12_bought_29 rfl (lv_at hl 1 rfl) ?_
      refine lv_iload_n hx hb dX12_bought_30 rfl (lv_at hl 2 rfl) ?_
      refine lv_iload_n hx hb dX12_bought_31 rfl (lv_at hl 3 rfl) ?_
      refine lv_iconst hx hb dX12_bought_32 ki_0 ?_
      refine m_ci0 (m_rV S hK hW (m_szH hbs hS) (c_X12_isEnough l ) h lk_X12_321 (m_recv hK hW (ci_10 (Nat.le_of_ble_eq_true rfl)) (rc_10 G) rfl) rfl hl.1 rfl ⟨Nat.le_of_ble_eq_true rfl, Nat.le_of_ble_eq_true rfl⟩ (Nat.le_of_ble_eq_true rfl) ⟨Nat.zero_le _, Nat.zero_le _⟩ dX12_bought_33) hS rfl rfl (fun rr33 Mm33 H locs h hW hS => ?_)
      refine lv_if_eq (tgt := 41) hx hb dX12_bought_36 (by decide) (fun c36 => ?_) (fun c36 => ?_)
      · replace h := h.1 c36
        refine lv_aload_n hx hb dX12_bought_41 rfl (lv_at hl 1 rfl) ?_
        refine lv_iload_n hx hb dX12_bought_42 rfl (lv_at hl 2 rfl) ?_
        refine lv_iload_n hx hb dX12_bought_43 rfl (lv_at hl 3 rfl) ?_
        refine lv_sipush hx hb dX12_bought_44 ks_1000 ?_
        refine m_ci0 (m_rV S hK hW (m_szH hbs hS) (c_X12_isEnough l ) h lk_X12_321 (m_recv hK hW (ci_10 (Nat.le_of_ble_eq_true rfl)) (rc_10 G) rfl) rfl hl.1 rfl ⟨Nat.le_of_ble_eq_true rfl, Nat.le_of_ble_eq_true rfl⟩ (Nat.le_of_ble_eq_true rfl) ⟨Nat.zero_le _, Nat.zero_le _⟩ dX12_bought_47) hS rfl rfl (fun rr47 Mm47 H locs h hW hS => ?_)
        refine lv_if_ne (tgt := 56) hx hb dX12_bought_50 (by decide) (fun c50 => ?_) (fun c50 => ?_)
        · replace h := h.1 c50
          refine lv_iconst hx hb dX12_bought_56 ki_0 ?_
          refine lv_istore (lv' := [(4, .int (0 : Int32)), (3, .int rr19), (0, .ref (ad G 10 0)), (1, .int x1), (2, .int x2)]) hx hb dX12_bought_57 hl (by decide) rfl (fun ls hl => ?_)
          refine lv_sipush hx hb dX12_bought_59 ks_1000 ?_
          refine lv_istore (lv' := [(5, .int (1000 : Int32)), (4, .int (0 : Int32)), (3, .int rr19), (0, .ref (ad G 10 0)), (1, .int x1), (2, .int x2)]) hx hb dX12_bought_62 hl (by decide) rfl (fun ls hl => ?_)
          obtain ⟨n64, h⟩ := h
          exact w64 n64 _ h H locs ls hW hS (lv_sub hl [3, 4, 5, 1, 0] rfl)
        · replace h := h.2 c50
          refine lv_bipush hx hb dX12_bought_53 kb_m4 ?_
          exact m_iret S hret hlocks hK hW hbs hS rfl h dX12_bought_55
      · replace h := h.2 c36
        refine lv_iconst hx hb dX12_bought_39 ki_0 ?_
        exact m_iret S hret hlocks hK hW hbs hS rfl h dX12_bought_40
    · replace h := h.2 c24
      refine lv_iload_n hx hb dX12_bought_27 rfl (lv_at hl 0 rfl) ?_
      exact m_iret S hret hlocks hK hW hbs hS rfl h dX12_bought_28
  · replace h := h.2 c10
    refine lv_iconst hx hb dX12_bought_13 ki_m1 ?_
    exact m_iret S hret hlocks hK hW hbs hS rfl h dX12_bought_14
def s_X12_isPermutation_4 (x0 : Int32) (P : Int32 → Mem → Prop) (K4 : Mem × Int32 × Int32 → Prop) (M : Mem) (x1 : Int32) (x2 : Int32) : Prop :=
  ((4 : Int32) ≤ x2 → s_X12_in M x0 (0 : Int32) (255 : Int32) (fun rr32 Mm32 => (rr32 = 0 → P (0 : Int32) Mm32) ∧ (¬ rr32 = 0 → (¬ x1 = (15 : Int32) → P (0 : Int32) Mm32) ∧ (x1 = (15 : Int32) → P (1 : Int32) Mm32)))) ∧ (¬ (4 : Int32) ≤ x2 → ∀ x1_20 : Int32, x1_20 = (x1 ||| ((1 : Int32) <<< (((x0 >>> (((2 : Int32) * x2) &&& 31)) &&& (3 : Int32)) &&& 31))) → ∀ x2_21 : Int32, x2_21 = x2 + (1 : Int32) → K4 (M, x1_20, x2_21))
def s_X12_isPermutation (M : Mem) (x0 : Int32) (P : Int32 → Mem → Prop) : Prop :=
  ∃ n, Lz (fun (K4 : Mem × Int32 × Int32 → Prop) (a : Mem × Int32 × Int32) => s_X12_isPermutation_4 x0 P K4 a.1 a.2.1 a.2.2) n (M, (0 : Int32), (0 : Int32))
abbrev rm_X12_isPermutation : Room := { frames := 1, cells := 0, slots := 0, locals := 22 }
set_option maxHeartbeats 4000000 in
set_option maxRecDepth 100000 in
theorem c_X12_isPermutation (l : Launch) {G : Gn} {M : Mem} {x0 : Int32} {P : Int32 → Mem → Prop} : MQi l yX12_isPermutation cX12_isPermutation 3 (some .boolean) rm_X12_isPermutation [.int x0] G M (s_X12_isPermutation M x0 P) P := by
  refine m_enter (by decide +kernel) (Nat.le_of_ble_eq_true rfl) ?_
  intro p e s m below meth c ls H locs S hret hlocks hname hK hbs hW hS hl h
  obtain ⟨AV, hAV⟩ : ∃ z : Array Value, z = ([.int x0] : List Value).toArray := ⟨_, rfl⟩
  rw [← hAV] at S ⊢
  replace S : CallFix p m c cX12_isPermutation 3 s AV lw_G "MilkDeskModel" := S
  have hx := S.1
  have hb := S.2.1
  have hml := S.2.2.1
  have hown := S.2.2.2.1
  have hts := S.2.2.2.2
  replace hl : lv_has ls 3 [(0, .int x0)] := hl
  have w4 : ∀ (n : Nat) (a : Mem × Int32 × Int32), Lz (fun (K4 : Mem × Int32 × Int32 → Prop) (a : Mem × Int32 × Int32) => s_X12_isPermutation_4 x0 P K4 a.1 a.2.1 a.2.2) n a → ∀ (H : Heap) (locs : List Loc) (ls : Array Slot), WPm G a.1 H → va_S (fun q => bs G ≤ q) s.heap H locs → lv_has ls 3 [(0, .int x0), (1, .int a.2.1), (2, .int a.2.2)] → W p l e rm_X12_isPermutation s m AV below meth c H locs 0 0 (MQ below (va_Qi P (WS G) (fun q => bs G ≤ q)) AV s 0 0 (fun q => bs G ≤ q)) (F0 m 4 ls []) := by
    refine Lz_walk ?_
    rintro K4 kk4 ⟨M, x1, x2⟩ h H locs ls hW hS hl
    replace h : s_X12_isPermutation_4 x0 P K4 M x1 x2 := h
    replace hW : WPm G M H := hW
    replace hl : lv_has ls 3 [(0, .int x0), (1, .int x1), (2, .int x2)] := hl
    unfold s_X12_isPermutation_4 at h
    refine lv_iload_n hx hb dX12_isPermutation_4 rfl (lv_at hl 2 rfl) ?_
    refine lv_iconst hx hb dX12_isPermutation_5 ki_4 ?_
    refine lv_icmp_ge (tgt := 27) hx hb dX12_isPermutation_6 (by decide) (fun c6 => ?_) (fun c6 => ?_)
    · replace h := h.1 c6
      refine lv_iload_n hx hb dX12_isPermutation_27 rfl (lv_at hl 0 rfl) ?_
      refine lv_iconst hx hb dX12_isPermutation_28 ki_0 ?_
      refine lv_sipush hx hb dX12_isPermutation_29 ks_255 ?_
      refine m_ci0 (m_rS S hK hW (m_szH hbs hS) (c_X12_in l ) h lk_X12_131 rfl hl.1 rfl ⟨Nat.le_of_ble_eq_true rfl, Nat.le_of_ble_eq_true rfl⟩ (Nat.le_of_ble_eq_true rfl) ⟨Nat.zero_le _, Nat.zero_le _⟩ dX12_isPermutation_32) hS rfl rfl (fun rr32 Mm32 H locs h hW hS => ?_)
      refine lv_if_eq (tgt := 48) hx hb dX12_isPermutation_35 (by decide) (fun c35 => ?_) (fun c35 => ?_)
      · replace h := h.1 c35
        refine lv_iconst hx hb dX12_isPermutation_48 ki_0 ?_
        exact m_iret S hret hlocks hK hW hbs hS rfl h dX12_isPermutation_49
      · replace h := h.2 c35
        refine lv_iload_n hx hb dX12_isPermutation_38 rfl (lv_at hl 1 rfl) ?_
        refine lv_bipush hx hb dX12_isPermutation_39 kb_15 ?_
        refine lv_icmp_ne (tgt := 48) hx hb dX12_isPermutation_41 (by decide) (fun c41 => ?_) (fun c41 => ?_)
        · replace h := h.1 c41
          refine lv_iconst hx hb dX12_isPermutation_48 ki_0 ?_
          exact m_iret S hret hlocks hK hW hbs hS rfl h dX12_isPermutation_49
        · replace h := h.2 c41
          refine lv_iconst hx hb dX12_isPermutation_44 ki_1 ?_
          refine lv_goto (tgt := 49) hx hb dX12_isPermutation_45 (by decide) ?_
          exact m_iret S hret hlocks hK hW hbs hS rfl h dX12_isPermutation_49
    · replace h := h.2 c6
      refine lv_iload_n hx hb dX12_isPermutation_9 rfl (lv_at hl 1 rfl) ?_
      refine lv_iconst hx hb dX12_isPermutation_10 ki_1 ?_
      refine lv_iload_n hx hb dX12_isPermutation_11 rfl (lv_at hl 0 rfl) ?_
      refine lv_iconst hx hb dX12_isPermutation_12 ki_2 ?_
      refine lv_iload_n hx hb dX12_isPermutation_13 rfl (lv_at hl 2 rfl) ?_
      refine lv_imul hx hb dX12_isPermutation_14 ?_
      refine lv_ishr hx hb dX12_isPermutation_15 ?_
      refine lv_iconst hx hb dX12_isPermutation_16 ki_3 ?_
      refine lv_iand hx hb dX12_isPermutation_17 ?_
      refine lv_ishl hx hb dX12_isPermutation_18 ?_
      refine lv_ior hx hb dX12_isPermutation_19 ?_
      refine lv_topi (fun x1_20 ex1_20 => ?_)
      replace h := h x1_20 ex1_20
      refine lv_istore_n (lv' := [(1, .int x1_20), (0, .int x0), (2, .int x2)]) hx hb dX12_isPermutation_20 rfl hl (by decide) rfl (fun ls hl => ?_)
      obtain ⟨x2_21, ex2_21⟩ : ∃ z : Int32, z = x2 + (1 : Int32) := ⟨_, rfl⟩
      replace h := h x2_21 ex2_21
      refine lv_iinc (v := x2_21) (lv' := [(2, .int x2_21), (1, .int x1_20), (0, .int x0)]) hx hb dX12_isPermutation_21 hl (k := 2) rfl (by rw [ex2_21, ki_1]) (by decide) rfl (fun ls hl => ?_)
      refine lv_goto (tgt := 4) hx hb dX12_isPermutation_24 (by decide) ?_
      exact kk4 _ h H locs ls hW hS (lv_sub hl [2, 1, 0] rfl)
  unfold s_X12_isPermutation at h
  refine lv_iconst hx hb dX12_isPermutation_0 ki_0 ?_
  refine lv_istore_n (lv' := [(1, .int (0 : Int32)), (0, .int x0)]) hx hb dX12_isPermutation_1 rfl hl (by decide) rfl (fun ls hl => ?_)
  refine lv_iconst hx hb dX12_isPermutation_2 ki_0 ?_
  refine lv_istore_n (lv' := [(2, .int (0 : Int32)), (1, .int (0 : Int32)), (0, .int x0)]) hx hb dX12_isPermutation_3 rfl hl (by decide) rfl (fun ls hl => ?_)
  obtain ⟨n4, h⟩ := h
  exact w4 n4 _ h H locs ls hW hS (lv_sub hl [2, 1, 0] rfl)
def s_X12_parted_155 (x2 : Int32) (x3 : Int32) (x4 : Int32) (P : Int32 → Mem → Prop) (K58 : Mem × Int32 × Int32 × Int32 → Prop) (M : Mem) (x5 : Int32) (x7 : Int32) (x10 : Int32) (y0 : Int32) : Prop :=
  ∀ x5_162 : Int32, x5_162 = (x5 - x10) → ∀ x7_164 : Int32, x7_164 = x7 + (1 : Int32) → K58 (M, x5_162, y0, x7_164)
def s_X12_parted_139 (x2 : Int32) (x3 : Int32) (x4 : Int32) (P : Int32 → Mem → Prop) (K58 : Mem × Int32 × Int32 × Int32 → Prop) (M : Mem) (x5 : Int32) (x6 : Int32) (x7 : Int32) (x8 : Int32) (y0 : Int32) : Prop :=
  (¬ x8 = x4 → s_X12_parted_155 x2 x3 x4 P K58 M x5 x7 y0 x6) ∧ (x8 = x4 → s_X12_parted_155 x2 x3 x4 P K58 M x5 x7 y0 y0)
def s_X12_parted_116 (x2 : Int32) (x3 : Int32) (x4 : Int32) (x5 : Int32) (x6 : Int32) (x7 : Int32) (x8 : Int32) (P : Int32 → Mem → Prop) (K58 : Mem × Int32 × Int32 × Int32 → Prop) (K80 : Mem × Int32 × Int32 → Prop) (M : Mem) (x10 : Int32) (y0 : Int32) (y1 : Int32) : Prop :=
  ∀ x9_117 : Int32, x9_117 = (y1 + y0) → ∀ x10_119 : Int32, x10_119 = x10 + (1 : Int32) → K80 (M, x9_117, x10_119)
def s_X12_parted_80 (x2 : Int32) (x3 : Int32) (x4 : Int32) (x5 : Int32) (x6 : Int32) (x7 : Int32) (x8 : Int32) (P : Int32 → Mem → Prop) (K58 : Mem × Int32 × Int32 × Int32 → Prop) (K80 : Mem × Int32 × Int32 → Prop) (M : Mem) (x9 : Int32) (x10 : Int32) : Prop :=
  ((M.1 44 0 0) ≤ x10 → (x5 ≤ x9 → s_X12_parted_139 x2 x3 x4 P K58 M x5 x6 x7 x8 x5) ∧ (¬ x5 ≤ x9 → s_X12_parted_139 x2 x3 x4 P K58 M x5 x6 x7 x8 x9)) ∧ (¬ (M.1 44 0 0) ≤ x10 → vp_in x10 12 ∧ ((¬ (M.1 47 0 x10.toNatClampNeg) = x8 → s_X12_parted_116 x2 x3 x4 x5 x6 x7 x8 P K58 K80 M x10 (0 : Int32) x9) ∧ ((M.1 47 0 x10.toNatClampNeg) = x8 → s_X12_orderOf M x10 x2 (fun rr109 Mm109 => s_X12_parted_116 x2 x3 x4 x5 x6 x7 x8 P K58 K80 Mm109 x10 rr109 x9))))
def s_X12_parted_58 (x2 : Int32) (x3 : Int32) (x4 : Int32) (P : Int32 → Mem → Prop) (K58 : Mem × Int32 × Int32 × Int32 → Prop) (M : Mem) (x5 : Int32) (x6 : Int32) (x7 : Int32) : Prop :=
  ((4 : Int32) ≤ x7 → P x6 M) ∧ (¬ (4 : Int32) ≤ x7 → ∀ x8_72 : Int32, x8_72 = ((x3 >>> (((2 : Int32) * x7) &&& 31)) &&& (3 : Int32)) → ∃ n, Lz (fun (K80 : Mem × Int32 × Int32 → Prop) (a : Mem × Int32 × Int32) => s_X12_parted_80 x2 x3 x4 x5 x6 x7 x8_72 P K58 K80 a.1 a.2.1 a.2.2) n (M, (0 : Int32), (0 : Int32)))
def s_X12_parted (M : Mem) (x1 : Int32) (x2 : Int32) (x3 : Int32) (x4 : Int32) (P : Int32 → Mem → Prop) : Prop :=
  ∀ Mm2 : Mem, Mm2 = wI M 10 0 0 (0 : Int32) → s_X12_in Mm2 x1 (0 : Int32) (9999 : Int32) (fun rr10 Mm10 => (rr10 = 0 → P (-1 : Int32) Mm10) ∧ (¬ rr10 = 0 → s_X12_in Mm10 x2 (Mm10.1 44 0 3) (400 : Int32) (fun rr26 Mm26 => (rr26 = 0 → P (-1 : Int32) Mm26) ∧ (¬ rr26 = 0 → s_X12_isPermutation Mm26 x3 (fun rr33 Mm33 => (rr33 = 0 → P (-1 : Int32) Mm33) ∧ (¬ rr33 = 0 → s_X12_isShire Mm33 x4 (fun rr41 Mm41 => (¬ rr41 = 0 → ∃ n, Lz (fun (K58 : Mem × Int32 × Int32 × Int32 → Prop) (a : Mem × Int32 × Int32 × Int32) => s_X12_parted_58 x2 x3 x4 P K58 a.1 a.2.1 a.2.2.1 a.2.2.2) n (Mm41, x1, (0 : Int32), (0 : Int32))) ∧ (rr41 = 0 → P (-1 : Int32) Mm41))))))))
abbrev rm_X12_parted : Room := { frames := 11, cells := 0, slots := 0, locals := 258 }
set_option maxHeartbeats 4000000 in
set_option maxRecDepth 100000 in
theorem c_X12_parted (l : Launch) {G : Gn} {M : Mem} {x1 : Int32} {x2 : Int32} {x3 : Int32} {x4 : Int32} {P : Int32 → Mem → Prop} : MQi l yX12_parted cX12_parted 11 (some .int) rm_X12_parted [.ref (ad G 10 0), .int x1, .int x2, .int x3, .int x4] G M (s_X12_parted M x1 x2 x3 x4 P) P := by
  refine m_enter (by decide +kernel) (Nat.le_of_ble_eq_true rfl) ?_
  intro p e s m below meth c ls H locs S hret hlocks hname hK hbs hW hS hl h
  obtain ⟨AV, hAV⟩ : ∃ z : Array Value, z = ([.ref (ad G 10 0), .int x1, .int x2, .int x3, .int x4] : List Value).toArray := ⟨_, rfl⟩
  rw [← hAV] at S ⊢
  replace S : CallFix p m c cX12_parted 11 s AV lw_G "MilkDeskModel" := S
  have hx := S.1
  have hb := S.2.1
  have hml := S.2.2.1
  have hown := S.2.2.2.1
  have hts := S.2.2.2.2
  replace hl : lv_has ls 11 [(0, .ref (ad G 10 0)), (1, .int x1), (2, .int x2), (3, .int x3), (4, .int x4)] := hl
  have w58 : ∀ (n : Nat) (a : Mem × Int32 × Int32 × Int32), Lz (fun (K58 : Mem × Int32 × Int32 × Int32 → Prop) (a : Mem × Int32 × Int32 × Int32) => s_X12_parted_58 x2 x3 x4 P K58 a.1 a.2.1 a.2.2.1 a.2.2.2) n a → ∀ (H : Heap) (locs : List Loc) (ls : Array Slot), WPm G a.1 H → va_S (fun q => bs G ≤ q) s.heap H locs → lv_has ls 11 [(0, .ref (ad G 10 0)), (2, .int x2), (3, .int x3), (4, .int x4), (5, .int a.2.1), (6, .int a.2.2.1), (7, .int a.2.2.2)] → W p l e rm_X12_parted s m AV below meth c H locs 0 0 (MQ below (va_Qi P (WS G) (fun q => bs G ≤ q)) AV s 0 0 (fun q => bs G ≤ q)) (F0 m 58 ls []) := by
    refine Lz_walk ?_
    rintro K58 kk58 ⟨M, x5, x6, x7⟩ h H locs ls hW hS hl
    replace h : s_X12_parted_58 x2 x3 x4 P K58 M x5 x6 x7 := h
    replace hW : WPm G M H := hW
    replace hl : lv_has ls 11 [(0, .ref (ad G 10 0)), (2, .int x2), (3, .int x3), (4, .int x4), (5, .int x5), (6, .int x6), (7, .int x7)] := hl
    have b155 : ∀ (M : Mem) (x5 : Int32) (x7 : Int32) (x10 : Int32) (y0 : Int32) (H : Heap) (locs : List Loc) (ls : Array Slot), WPm G M H → va_S (fun q => bs G ≤ q) s.heap H locs → lv_has ls 11 [(0, .ref (ad G 10 0)), (2, .int x2), (3, .int x3), (4, .int x4), (5, .int x5), (7, .int x7), (10, .int x10)] → s_X12_parted_155 x2 x3 x4 P K58 M x5 x7 x10 y0 → W p l e rm_X12_parted s m AV below meth c H locs 0 0 (MQ below (va_Qi P (WS G) (fun q => bs G ≤ q)) AV s 0 0 (fun q => bs G ≤ q)) (F0 m 155 ls [.int y0]) := by
      intro M x5 x7 x10 y0 H locs ls hW hS hl h
      unfold s_X12_parted_155 at h
      refine lv_istore (lv' := [(6, .int y0), (0, .ref (ad G 10 0)), (2, .int x2), (3, .int x3), (4, .int x4), (5, .int x5), (7, .int x7), (10, .int x10)]) hx hb dX12_parted_155 hl (by decide) rfl (fun ls hl => ?_)
      refine lv_iload hx hb dX12_parted_157 (lv_at hl 5 rfl) ?_
      refine lv_iload hx hb dX12_parted_159 (lv_at hl 7 rfl) ?_
      refine lv_isub hx hb dX12_parted_161 ?_
      refine lv_topi (fun x5_162 ex5_162 => ?_)
      replace h := h x5_162 ex5_162
      refine lv_istore (lv' := [(5, .int x5_162), (6, .int y0), (0, .ref (ad G 10 0)), (2, .int x2), (3, .int x3), (4, .int x4), (7, .int x7), (10, .int x10)]) hx hb dX12_parted_162 hl (by decide) rfl (fun ls hl => ?_)
      obtain ⟨x7_164, ex7_164⟩ : ∃ z : Int32, z = x7 + (1 : Int32) := ⟨_, rfl⟩
      replace h := h x7_164 ex7_164
      refine lv_iinc (v := x7_164) (lv' := [(7, .int x7_164), (5, .int x5_162), (6, .int y0), (0, .ref (ad G 10 0)), (2, .int x2), (3, .int x3), (4, .int x4), (10, .int x10)]) hx hb dX12_parted_164 hl (k := 6) rfl (by rw [ex7_164, ki_1]) (by decide) rfl (fun ls hl => ?_)
      refine lv_goto (tgt := 58) hx hb dX12_parted_167 (by decide) ?_
      exact kk58 _ h H locs ls hW hS (lv_sub hl [3, 4, 5, 6, 1, 2, 0] rfl)
    have b139 : ∀ (M : Mem) (x5 : Int32) (x6 : Int32) (x7 : Int32) (x8 : Int32) (y0 : Int32) (H : Heap) (locs : List Loc) (ls : Array Slot), WPm G M H → va_S (fun q => bs G ≤ q) s.heap H locs → lv_has ls 11 [(0, .ref (ad G 10 0)), (2, .int x2), (3, .int x3), (4, .int x4), (5, .int x5), (6, .int x6), (7, .int x7), (8, .int x8)] → s_X12_parted_139 x2 x3 x4 P K58 M x5 x6 x7 x8 y0 → W p l e rm_X12_parted s m AV below meth c H locs 0 0 (MQ below (va_Qi P (WS G) (fun q => bs G ≤ q)) AV s 0 0 (fun q => bs G ≤ q)) (F0 m 139 ls [.int y0]) := by
      intro M x5 x6 x7 x8 y0 H locs ls hW hS hl h
      unfold s_X12_parted_139 at h
      refine lv_istore (lv' := [(10, .int y0), (0, .ref (ad G 10 0)), (2, .int x2), (3, .int x3), (4, .int x4), (5, .int x5), (6, .int x6), (7, .int x7), (8, .int x8)]) hx hb dX12_parted_139 hl (by decide) rfl (fun ls hl => ?_)
      refine lv_iload hx hb dX12_parted_141 (lv_at hl 8 rfl) ?_
      refine lv_iload hx hb dX12_parted_143 (lv_at hl 4 rfl) ?_
      refine lv_icmp_ne (tgt := 153) hx hb dX12_parted_145 (by decide) (fun c145 => ?_) (fun c145 => ?_)
      · replace h := h.1 c145
        refine lv_iload hx hb dX12_parted_153 (lv_at hl 6 rfl) ?_
        exact b155 _ _ _ _ _ H locs ls hW hS (lv_sub hl [1, 2, 3, 4, 5, 7, 0] rfl) h
      · replace h := h.2 c145
        refine lv_iload hx hb dX12_parted_148 (lv_at hl 0 rfl) ?_
        refine lv_goto (tgt := 155) hx hb dX12_parted_150 (by decide) ?_
        exact b155 _ _ _ _ _ H locs ls hW hS (lv_sub hl [1, 2, 3, 4, 5, 7, 0] rfl) h
    have w80 : ∀ (x5 : Int32) (x6 : Int32) (x7 : Int32) (x8 : Int32), ∀ (n : Nat) (a : Mem × Int32 × Int32), Lz (fun (K80 : Mem × Int32 × Int32 → Prop) (a : Mem × Int32 × Int32) => s_X12_parted_80 x2 x3 x4 x5 x6 x7 x8 P K58 K80 a.1 a.2.1 a.2.2) n a → ∀ (H : Heap) (locs : List Loc) (ls : Array Slot), WPm G a.1 H → va_S (fun q => bs G ≤ q) s.heap H locs → lv_has ls 11 [(0, .ref (ad G 10 0)), (2, .int x2), (3, .int x3), (4, .int x4), (5, .int x5), (6, .int x6), (7, .int x7), (8, .int x8), (9, .int a.2.1), (10, .int a.2.2)] → W p l e rm_X12_parted s m AV below meth c H locs 0 0 (MQ below (va_Qi P (WS G) (fun q => bs G ≤ q)) AV s 0 0 (fun q => bs G ≤ q)) (F0 m 80 ls []) := by
      intro x5 x6 x7 x8
      refine Lz_walk ?_
      rintro K80 kk80 ⟨M, x9, x10⟩ h H locs ls hW hS hl
      replace h : s_X12_parted_80 x2 x3 x4 x5 x6 x7 x8 P K58 K80 M x9 x10 := h
      replace hW : WPm G M H := hW
      replace hl : lv_has ls 11 [(0, .ref (ad G 10 0)), (2, .int x2), (3, .int x3), (4, .int x4), (5, .int x5), (6, .int x6), (7, .int x7), (8, .int x8), (9, .int x9), (10, .int x10)] := hl
      have b116 : ∀ (M : Mem) (x10 : Int32) (y0 : Int32) (y1 : Int32) (H : Heap) (locs : List Loc) (ls : Array Slot), WPm G M H → va_S (fun q => bs G ≤ q) s.heap H locs → lv_has ls 11 [(0, .ref (ad G 10 0)), (2, .int x2), (3, .int x3), (4, .int x4), (5, .int x5), (6, .int x6), (7, .int x7), (8, .int x8), (10, .int x10)] → s_X12_parted_116 x2 x3 x4 x5 x6 x7 x8 P K58 K80 M x10 y0 y1 → W p l e rm_X12_parted s m AV below meth c H locs 0 0 (MQ below (va_Qi P (WS G) (fun q => bs G ≤ q)) AV s 0 0 (fun q => bs G ≤ q)) (F0 m 116 ls [.int y0, .int y1]) := by
        intro M x10 y0 y1 H locs ls hW hS hl h
        unfold s_X12_parted_116 at h
        refine lv_iadd hx hb dX12_parted_116 ?_
        refine lv_topi (fun x9_117 ex9_117 => ?_)
        replace h := h x9_117 ex9_117
        refine lv_istore (lv' := [(9, .int x9_117), (0, .ref (ad G 10 0)), (2, .int x2), (3, .int x3), (4, .int x4), (5, .int x5), (6, .int x6), (7, .int x7), (8, .int x8), (10, .int x10)]) hx hb dX12_parted_117 hl (by decide) rfl (fun ls hl => ?_)
        obtain ⟨x10_119, ex10_119⟩ : ∃ z : Int32, z = x10 + (1 : Int32) := ⟨_, rfl⟩
        replace h := h x10_119 ex10_119
        refine lv_iinc (v := x10_119) (lv' := [(10, .int x10_119), (9, .int x9_117), (0, .ref (ad G 10 0)), (2, .int x2), (3, .int x3), (4, .int x4), (5, .int x5), (6, .int x6), (7, .int x7), (8, .int x8)]) hx hb dX12_parted_119 hl (k := 9) rfl (by rw [ex10_119, ki_1]) (by decide) rfl (fun ls hl => ?_)
        refine lv_goto (tgt := 80) hx hb dX12_parted_122 (by decide) ?_
        exact kk80 _ h H locs ls hW hS (lv_sub hl [2, 3, 4, 5, 6, 7, 8, 9, 1, 0] rfl)
      unfold s_X12_parted_80 at h
      refine lv_iload hx hb dX12_parted_80 (lv_at hl 9 rfl) ?_
      refine lv_aload_n hx hb dX12_parted_82 rfl (lv_at hl 0 rfl) ?_
      refine m_getr S hK fk_X12_7 (gr_10_1 G 0) hW (ci_10 (Nat.le_of_ble_eq_true rfl)) dX12_parted_83 ?_
      refine lv_iconst hx hb dX12_parted_86 ki_0 ?_
      refine m_aldk S hK (ar_44 G) hW (ci_44 (Nat.le_of_ble_eq_true rfl)) kn_0 (Nat.le_of_ble_eq_true rfl) dX12_parted_87 ?_
      refine lv_icmp_ge (tgt := 125) hx hb dX12_parted_88 (by decide) (fun c88 => ?_) (fun c88 => ?_)
      · replace h := h.1 c88
        refine lv_iload hx hb dX12_parted_125 (lv_at hl 8 rfl) ?_
        refine lv_iload hx hb dX12_parted_127 (lv_at hl 4 rfl) ?_
        refine lv_icmp_ge (tgt := 137) hx hb dX12_parted_129 (by decide) (fun c129 => ?_) (fun c129 => ?_)
        · replace h := h.1 c129
          refine lv_iload hx hb dX12_parted_137 (lv_at hl 4 rfl) ?_
          exact b139 _ _ _ _ _ _ H locs ls hW hS (lv_sub hl [0, 1, 2, 3, 4, 5, 6, 7] rfl) h
        · replace h := h.2 c129
          refine lv_iload hx hb dX12_parted_132 (lv_at hl 8 rfl) ?_
          refine lv_goto (tgt := 139) hx hb dX12_parted_134 (by decide) ?_
          exact b139 _ _ _ _ _ _ H locs ls hW hS (lv_sub hl [0, 1, 2, 3, 4, 5, 6, 7] rfl) h
      · replace h := h.2 c88
        refine lv_iload hx hb dX12_parted_91 (lv_at hl 8 rfl) ?_
        refine lv_aload_n hx hb dX12_parted_93 rfl (lv_at hl 0 rfl) ?_
        refine m_getr S hK fk_X12_19 (gr_10_5 G 0) hW (ci_10 (Nat.le_of_ble_eq_true rfl)) dX12_parted_94 ?_
        refine lv_iload hx hb dX12_parted_97 (lv_at hl 9 rfl) ?_
        obtain ⟨hb99, h⟩ := h
        refine m_ald S hK (ar_47 G) hW (ci_47 (Nat.le_of_ble_eq_true rfl)) hb99 dX12_parted_99 ?_
        refine lv_iload hx hb dX12_parted_100 (lv_at hl 7 rfl) ?_
        refine lv_icmp_ne (tgt := 115) hx hb dX12_parted_102 (by decide) (fun c102 => ?_) (fun c102 => ?_)
        · replace h := h.1 c102
          refine lv_iconst hx hb dX12_parted_115 ki_0 ?_
          exact b116 _ _ _ _ H locs ls hW hS (lv_sub hl [0, 1, 2, 3, 4, 5, 6, 7, 9] rfl) h
        · replace h := h.2 c102
          refine lv_aload_n hx hb dX12_parted_105 rfl (lv_at hl 0 rfl) ?_
          refine lv_iload hx hb dX12_parted_106 (lv_at hl 9 rfl) ?_
          refine lv_iload_n hx hb dX12_parted_108 rfl (lv_at hl 1 rfl) ?_
          refine m_ci0 (m_rV S hK hW (m_szH hbs hS) (c_X12_orderOf l ) h lk_X12_275 (m_recv hK hW (ci_10 (Nat.le_of_ble_eq_true rfl)) (rc_10 G) rfl) rfl hl.1 rfl ⟨Nat.le_of_ble_eq_true rfl, Nat.le_of_ble_eq_true rfl⟩ (Nat.le_of_ble_eq_true rfl) ⟨Nat.zero_le _, Nat.zero_le _⟩ dX12_parted_109) hS rfl rfl (fun rr109 Mm109 H locs h hW hS => ?_)
          refine lv_goto (tgt := 116) hx hb dX12_parted_112 (by decide) ?_
          exact b116 _ _ _ _ H locs ls hW hS (lv_sub hl [0, 1, 2, 3, 4, 5, 6, 7, 9] rfl) h
    unfold s_X12_parted_58 at h
    refine lv_iload hx hb dX12_parted_58 (lv_at hl 6 rfl) ?_
    refine lv_iconst hx hb dX12_parted_60 ki_4 ?_
    refine lv_icmp_ge (tgt := 170) hx hb dX12_parted_61 (by decide) (fun c61 => ?_) (fun c61 => ?_)
    · replace h := h.1 c61
      refine lv_iload hx hb dX12_parted_170 (lv_at hl 5 rfl) ?_
      exact m_iret S hret hlocks hK hW hbs hS rfl h dX12_parted_172
    · replace h := h.2 c61
      refine lv_iload_n hx hb dX12_parted_64 rfl (lv_at hl 2 rfl) ?_
      refine lv_iconst hx hb dX12_parted_65 ki_2 ?_
      refine lv_iload hx hb dX12_parted_66 (lv_at hl 6 rfl) ?_
      refine lv_imul hx hb dX12_parted_68 ?_
      refine lv_ishr hx hb dX12_parted_69 ?_
      refine lv_iconst hx hb dX12_parted_70 ki_3 ?_
      refine lv_iand hx hb dX12_parted_71 ?_
      refine lv_topi (fun x8_72 ex8_72 => ?_)
      replace h := h x8_72 ex8_72
      refine lv_istore (lv' := [(8, .int x8_72), (0, .ref (ad G 10 0)), (2, .int x2), (3, .int x3), (4, .int x4), (5, .int x5), (6, .int x6), (7, .int x7)]) hx hb dX12_parted_72 hl (by decide) rfl (fun ls hl => ?_)
      refine lv_iconst hx hb dX12_parted_74 ki_0 ?_
      refine lv_istore (lv' := [(9, .int (0 : Int32)), (8, .int x8_72), (0, .ref (ad G 10 0)), (2, .int x2), (3, .int x3), (4, .int x4), (5, .int x5), (6, .int x6), (7, .int x7)]) hx hb dX12_parted_75 hl (by decide) rfl (fun ls hl => ?_)
      refine lv_iconst hx hb dX12_parted_77 ki_0 ?_
      refine lv_istore (lv' := [(10, .int (0 : Int32)), (9, .int (0 : Int32)), (8, .int x8_72), (0, .ref (ad G 10 0)), (2, .int x2), (3, .int x3), (4, .int x4), (5, .int x5), (6, .int x6), (7, .int x7)]) hx hb dX12_parted_78 hl (by decide) rfl (fun ls hl => ?_)
      obtain ⟨n80, h⟩ := h
      exact w80 _ _ _ _ n80 _ h H locs ls hW hS (lv_sub hl [3, 4, 5, 6, 7, 8, 9, 2, 1, 0] rfl)
  unfold s_X12_parted at h
  refine lv_aload_n hx hb dX12_parted_0 rfl (lv_at hl 0 rfl) ?_
  refine lv_iconst hx hb dX12_parted_1 ki_0 ?_
  refine m_put S hK fk_X12_128 tyX12_ok nmX12 rfl pf_X12_0 (pv_10_0 G) hW hS (ci_10 (Nat.le_of_ble_eq_true rfl)) rfl rfl dX12_parted_2 (fun Mm2 eMm2 H locs hW hS => ?_)
  replace h := h Mm2 eMm2
  refine lv_iload_n hx hb dX12_parted_5 rfl (lv_at hl 1 rfl) ?_
  refine lv_iconst hx hb dX12_parted_6 ki_0 ?_
  refine lv_sipush hx hb dX12_parted_7 ks_9999 ?_
  refine m_ci0 (m_rS S hK hW (m_szH hbs hS) (c_X12_in l ) h lk_X12_131 rfl hl.1 rfl ⟨Nat.le_of_ble_eq_true rfl, Nat.le_of_ble_eq_true rfl⟩ (Nat.le_of_ble_eq_true rfl) ⟨Nat.zero_le _, Nat.zero_le _⟩ dX12_parted_10) hS rfl rfl (fun rr10 Mm10 H locs h hW hS => ?_)
  refine lv_if_eq (tgt := 47) hx hb dX12_parted_13 (by decide) (fun c13 => ?_) (fun c13 => ?_)
  · replace h := h.1 c13
    refine lv_iconst hx hb dX12_parted_47 ki_m1 ?_
    exact m_iret S hret hlocks hK hW hbs hS rfl h dX12_parted_48
  · replace h := h.2 c13
    refine lv_iload_n hx hb dX12_parted_16 rfl (lv_at hl 2 rfl) ?_
    refine lv_aload_n hx hb dX12_parted_17 rfl (lv_at hl 0 rfl) ?_
    refine m_getr S hK fk_X12_7 (gr_10_1 G 0) hW (ci_10 (Nat.le_of_ble_eq_true rfl)) dX12_parted_18 ?_
    refine lv_iconst hx hb dX12_parted_21 ki_3 ?_
    refine m_aldk S hK (ar_44 G) hW (ci_44 (Nat.le_of_ble_eq_true rfl)) kn_3 (Nat.le_of_ble_eq_true rfl) dX12_parted_22 ?_
    refine lv_sipush hx hb dX12_parted_23 ks_400 ?_
    refine m_ci0 (m_rS S hK hW (m_szH hbs hS) (c_X12_in l ) h lk_X12_131 rfl hl.1 rfl ⟨Nat.le_of_ble_eq_true rfl, Nat.le_of_ble_eq_true rfl⟩ (Nat.le_of_ble_eq_true rfl) ⟨Nat.zero_le _, Nat.zero_le _⟩ dX12_parted_26) hS rfl rfl (fun rr26 Mm26 H locs h hW hS => ?_)
    refine lv_if_eq (tgt := 47) hx hb dX12_parted_29 (by decide) (fun c29 => ?_) (fun c29 => ?_)
    · replace h := h.1 c29
      refine lv_iconst hx hb dX12_parted_47 ki_m1 ?_
      exact m_iret S hret hlocks hK hW hbs hS rfl h dX12_parted_48
    · replace h := h.2 c29
      refine lv_iload_n hx hb dX12_parted_32 rfl (lv_at hl 3 rfl) ?_
      refine m_ci0 (m_rS S hK hW (m_szH hbs hS) (c_X12_isPermutation l ) h lk_X12_324 rfl hl.1 rfl ⟨Nat.le_of_ble_eq_true rfl, Nat.le_of_ble_eq_true rfl⟩ (Nat.le_of_ble_eq_true rfl) ⟨Nat.zero_le _, Nat.zero_le _⟩ dX12_parted_33) hS rfl rfl (fun rr33 Mm33 H locs h hW hS => ?_)
      refine lv_if_eq (tgt := 47) hx hb dX12_parted_36 (by decide) (fun c36 => ?_) (fun c36 => ?_)
      · replace h := h.1 c36
        refine lv_iconst hx hb dX12_parted_47 ki_m1 ?_
        exact m_iret S hret hlocks hK hW hbs hS rfl h dX12_parted_48
      · replace h := h.2 c36
        refine lv_iload hx hb dX12_parted_39 (lv_at hl 4 rfl) ?_
        refine m_ci0 (m_rS S hK hW (m_szH hbs hS) (c_X12_isShire l ) h lk_X12_135 rfl hl.1 rfl ⟨Nat.le_of_ble_eq_true rfl, Nat.le_of_ble_eq_true rfl⟩ (Nat.le_of_ble_eq_true rfl) ⟨Nat.zero_le _, Nat.zero_le _⟩ dX12_parted_41) hS rfl rfl (fun rr41 Mm41 H locs h hW hS => ?_)
        refine lv_if_ne (tgt := 49) hx hb dX12_parted_44 (by decide) (fun c44 => ?_) (fun c44 => ?_)
        · replace h := h.1 c44
          refine lv_iload_n hx hb dX12_parted_49 rfl (lv_at hl 1 rfl) ?_
          refine lv_istore (lv' := [(5, .int x1), (0, .ref (ad G 10 0)), (1, .int x1), (2, .int x2), (3, .int x3), (4, .int x4)]) hx hb dX12_parted_50 hl (by decide) rfl (fun ls hl => ?_)
          refine lv_iconst hx hb dX12_parted_52 ki_0 ?_
          refine lv_istore (lv' := [(6, .int (0 : Int32)), (5, .int x1), (0, .ref (ad G 10 0)), (1, .int x1), (2, .int x2), (3, .int x3), (4, .int x4)]) hx hb dX12_parted_53 hl (by decide) rfl (fun ls hl => ?_)
          refine lv_iconst hx hb dX12_parted_55 ki_0 ?_
          refine lv_istore (lv' := [(7, .int (0 : Int32)), (6, .int (0 : Int32)), (5, .int x1), (0, .ref (ad G 10 0)), (1, .int x1), (2, .int x2), (3, .int x3), (4, .int x4)]) hx hb dX12_parted_56 hl (by decide) rfl (fun ls hl => ?_)
          obtain ⟨n58, h⟩ := h
          exact w58 n58 _ h H locs ls hW hS (lv_sub hl [3, 5, 6, 7, 2, 1, 0] rfl)
        · replace h := h.2 c44
          refine lv_iconst hx hb dX12_parted_47 ki_m1 ?_
          exact m_iret S hret hlocks hK hW hbs hS rfl h dX12_parted_48
def s_X12_sumAhead_39 (x2 : Int32) (P : Int32 → Mem → Prop) (K39 : Mem × Int32 × Int32 → Prop) (M : Mem) (x4 : Int32) (x5 : Int32) : Prop :=
  ((M.1 44 0 0) ≤ x5 → s_X12_comeBack M (fun Mm95 => P x4 Mm95)) ∧ (¬ (M.1 44 0 0) ≤ x5 → vp_in (((180 : Int32) + ((11 : Int32) * x5)) + x2) 320 ∧ (vp_in (((180 : Int32) + ((11 : Int32) * x5)) + x2) 320 ∧ (∀ x4_86 : Int32, x4_86 = (x4 + ((M.1 44 0 (((180 : Int32) + ((11 : Int32) * x5)) + x2).toNatClampNeg) - (M.1 46 0 (((180 : Int32) + ((11 : Int32) * x5)) + x2).toNatClampNeg))) → ∀ x5_88 : Int32, x5_88 = x5 + (1 : Int32) → K39 (M, x4_86, x5_88))))
def s_X12_sumAhead_12 (x1 : Int32) (x2 : Int32) (P : Int32 → Mem → Prop) (K12 : Mem × Int32 → Prop) (M : Mem) (x4 : Int32) : Prop :=
  (x1 ≤ x4 → ∀ Mm30 : Mem, Mm30 = wI M 10 0 22 (-1 : Int32) → ∃ n, Lz (fun (K39 : Mem × Int32 × Int32 → Prop) (a : Mem × Int32 × Int32) => s_X12_sumAhead_39 x2 P K39 a.1 a.2.1 a.2.2) n (Mm30, (0 : Int32), (0 : Int32))) ∧ (¬ x1 ≤ x4 → s_X12_pass M (fun Mm19 => ∀ x4_22 : Int32, x4_22 = x4 + (1 : Int32) → K12 (Mm19, x4_22)))
def s_X12_sumAhead (M : Mem) (x1 : Int32) (x2 : Int32) (x3 : Int32) (P : Int32 → Mem → Prop) : Prop :=
  s_X12_begin M (fun Mm1 => ∀ Mm6 : Mem, Mm6 = wI Mm1 10 0 22 x3 → ∃ n, Lz (fun (K12 : Mem × Int32 → Prop) (a : Mem × Int32) => s_X12_sumAhead_12 x1 x2 P K12 a.1 a.2) n (Mm6, (0 : Int32)))
abbrev rm_X12_sumAhead : Room := { frames := 13, cells := 0, slots := 0, locals := 312 }
set_option maxHeartbeats 4000000 in
set_option maxRecDepth 100000 in
theorem c_X12_sumAhead (l : Launch) {G : Gn} {M : Mem} {x1 : Int32} {x2 : Int32} {x3 : Int32} {P : Int32 → Mem → Prop} : MQi l yX12_sumAhead cX12_sumAhead 6 (some .int) rm_X12_sumAhead [.ref (ad G 10 0), .int x1, .int x2, .int x3] G M (s_X12_sumAhead M x1 x2 x3 P) P := by
  refine m_enter (by decide +kernel) (Nat.le_of_ble_eq_true rfl) ?_
  intro p e s m below meth c ls H locs S hret hlocks hname hK hbs hW hS hl h
  obtain ⟨AV, hAV⟩ : ∃ z : Array Value, z = ([.ref (ad G 10 0), .int x1, .int x2, .int x3] : List Value).toArray := ⟨_, rfl⟩
  rw [← hAV] at S ⊢
  replace S : CallFix p m c cX12_sumAhead 6 s AV lw_G "MilkDeskModel" := S
  have hx := S.1
  have hb := S.2.1
  have hml := S.2.2.1
  have hown := S.2.2.2.1
  have hts := S.2.2.2.2
  replace hl : lv_has ls 6 [(0, .ref (ad G 10 0)), (1, .int x1), (2, .int x2), (3, .int x3)] := hl
  have w39 : ∀ (n : Nat) (a : Mem × Int32 × Int32), Lz (fun (K39 : Mem × Int32 × Int32 → Prop) (a : Mem × Int32 × Int32) => s_X12_sumAhead_39 x2 P K39 a.1 a.2.1 a.2.2) n a → ∀ (H : Heap) (locs : List Loc) (ls : Array Slot), WPm G a.1 H → va_S (fun q => bs G ≤ q) s.heap H locs → lv_has ls 6 [(0, .ref (ad G 10 0)), (2, .int x2), (4, .int a.2.1), (5, .int a.2.2)] → W p l e rm_X12_sumAhead s m AV below meth c H locs 0 0 (MQ below (va_Qi P (WS G) (fun q => bs G ≤ q)) AV s 0 0 (fun q => bs G ≤ q)) (F0 m 39 ls []) := by
    refine Lz_walk ?_
    rintro K39 kk39 ⟨M, x4, x5⟩ h H locs ls hW hS hl
    replace h : s_X12_sumAhead_39 x2 P K39 M x4 x5 := h
    replace hW : WPm G M H := hW
    replace hl : lv_has ls 6 [(0, .ref (ad G 10 0)), (2, .int x2), (4, .int x4), (5, .int x5)] := hl
    unfold s_X12_sumAhead_39 at h
    refine lv_iload hx hb dX12_sumAhead_39 (lv_at hl 3 rfl) ?_
    refine lv_aload_n hx hb dX12_sumAhead_41 rfl (lv_at hl 0 rfl) ?_
    refine m_getr S hK fk_X12_7 (gr_10_1 G 0) hW (ci_10 (Nat.le_of_ble_eq_true rfl)) dX12_sumAhead_42 ?_
    refine lv_iconst hx hb dX12_sumAhead_45 ki_0 ?_
    refine m_aldk S hK (ar_44 G) hW (ci_44 (Nat.le_of_ble_eq_true rfl)) kn_0 (Nat.le_of_ble_eq_true rfl) dX12_sumAhead_46 ?_
    refine lv_icmp_ge (tgt := 94) hx hb dX12_sumAhead_47 (by decide) (fun c47 => ?_) (fun c47 => ?_)
    · replace h := h.1 c47
      refine lv_aload_n hx hb dX12_sumAhead_94 rfl (lv_at hl 0 rfl) ?_
      refine m_cv0 (m_rV S hK hW (m_szH hbs hS) (c_X12_comeBack l ) h lk_X12_318 (m_recv hK hW (ci_10 (Nat.le_of_ble_eq_true rfl)) (rc_10 G) rfl) rfl hl.1 rfl ⟨Nat.le_of_ble_eq_true rfl, Nat.le_of_ble_eq_true rfl⟩ (Nat.le_of_ble_eq_true rfl) ⟨Nat.zero_le _, Nat.zero_le _⟩ dX12_sumAhead_95) hS rfl rfl (fun Mm95 H locs h hW hS => ?_)
      refine lv_iload hx hb dX12_sumAhead_98 (lv_at hl 2 rfl) ?_
      exact m_iret S hret hlocks hK hW hbs hS rfl h dX12_sumAhead_100
    · replace h := h.2 c47
      refine lv_iload hx hb dX12_sumAhead_50 (lv_at hl 2 rfl) ?_
      refine lv_aload_n hx hb dX12_sumAhead_52 rfl (lv_at hl 0 rfl) ?_
      refine m_getr S hK fk_X12_7 (gr_10_1 G 0) hW (ci_10 (Nat.le_of_ble_eq_true rfl)) dX12_sumAhead_53 ?_
      refine lv_sipush hx hb dX12_sumAhead_56 ks_180 ?_
      refine lv_bipush hx hb dX12_sumAhead_59 kb_11 ?_
      refine lv_iload hx hb dX12_sumAhead_61 (lv_at hl 3 rfl) ?_
      refine lv_imul hx hb dX12_sumAhead_63 ?_
      refine lv_iadd hx hb dX12_sumAhead_64 ?_
      refine lv_iload_n hx hb dX12_sumAhead_65 rfl (lv_at hl 1 rfl) ?_
      refine lv_iadd hx hb dX12_sumAhead_66 ?_
      obtain ⟨hb67, h⟩ := h
      refine m_ald S hK (ar_44 G) hW (ci_44 (Nat.le_of_ble_eq_true rfl)) hb67 dX12_sumAhead_67 ?_
      refine lv_aload_n hx hb dX12_sumAhead_68 rfl (lv_at hl 0 rfl) ?_
      refine m_getr S hK fk_X12_16 (gr_10_3 G 0) hW (ci_10 (Nat.le_of_ble_eq_true rfl)) dX12_sumAhead_69 ?_
      refine lv_sipush hx hb dX12_sumAhead_72 ks_180 ?_
      refine lv_bipush hx hb dX12_sumAhead_75 kb_11 ?_
      refine lv_iload hx hb dX12_sumAhead_77 (lv_at hl 3 rfl) ?_
      refine lv_imul hx hb dX12_sumAhead_79 ?_
      refine lv_iadd hx hb dX12_sumAhead_80 ?_
      refine lv_iload_n hx hb dX12_sumAhead_81 rfl (lv_at hl 1 rfl) ?_
      refine lv_iadd hx hb dX12_sumAhead_82 ?_
      obtain ⟨hb83, h⟩ := h
      refine m_ald S hK (ar_46 G) hW (ci_46 (Nat.le_of_ble_eq_true rfl)) hb83 dX12_sumAhead_83 ?_
      refine lv_isub hx hb dX12_sumAhead_84 ?_
      refine lv_iadd hx hb dX12_sumAhead_85 ?_
      refine lv_topi (fun x4_86 ex4_86 => ?_)
      replace h := h x4_86 ex4_86
      refine lv_istore (lv' := [(4, .int x4_86), (0, .ref (ad G 10 0)), (2, .int x2), (5, .int x5)]) hx hb dX12_sumAhead_86 hl (by decide) rfl (fun ls hl => ?_)
      obtain ⟨x5_88, ex5_88⟩ : ∃ z : Int32, z = x5 + (1 : Int32) := ⟨_, rfl⟩
      replace h := h x5_88 ex5_88
      refine lv_iinc (v := x5_88) (lv' := [(5, .int x5_88), (4, .int x4_86), (0, .ref (ad G 10 0)), (2, .int x2)]) hx hb dX12_sumAhead_88 hl (k := 3) rfl (by rw [ex5_88, ki_1]) (by decide) rfl (fun ls hl => ?_)
      refine lv_goto (tgt := 39) hx hb dX12_sumAhead_91 (by decide) ?_
      exact kk39 _ h H locs ls hW hS (lv_sub hl [2, 3, 1, 0] rfl)
  have w12 : ∀ (n : Nat) (a : Mem × Int32), Lz (fun (K12 : Mem × Int32 → Prop) (a : Mem × Int32) => s_X12_sumAhead_12 x1 x2 P K12 a.1 a.2) n a → ∀ (H : Heap) (locs : List Loc) (ls : Array Slot), WPm G a.1 H → va_S (fun q => bs G ≤ q) s.heap H locs → lv_has ls 6 [(0, .ref (ad G 10 0)), (1, .int x1), (2, .int x2), (4, .int a.2)] → W p l e rm_X12_sumAhead s m AV below meth c H locs 0 0 (MQ below (va_Qi P (WS G) (fun q => bs G ≤ q)) AV s 0 0 (fun q => bs G ≤ q)) (F0 m 12 ls []) := by
    refine Lz_walk ?_
    rintro K12 kk12 ⟨M, x4⟩ h H locs ls hW hS hl
    replace h : s_X12_sumAhead_12 x1 x2 P K12 M x4 := h
    replace hW : WPm G M H := hW
    replace hl : lv_has ls 6 [(0, .ref (ad G 10 0)), (1, .int x1), (2, .int x2), (4, .int x4)] := hl
    unfold s_X12_sumAhead_12 at h
    refine lv_iload hx hb dX12_sumAhead_12 (lv_at hl 3 rfl) ?_
    refine lv_iload_n hx hb dX12_sumAhead_14 rfl (lv_at hl 1 rfl) ?_
    refine lv_icmp_ge (tgt := 28) hx hb dX12_sumAhead_15 (by decide) (fun c15 => ?_) (fun c15 => ?_)
    · replace h := h.1 c15
      refine lv_aload_n hx hb dX12_sumAhead_28 rfl (lv_at hl 0 rfl) ?_
      refine lv_iconst hx hb dX12_sumAhead_29 ki_m1 ?_
      refine m_put S hK fk_X12_70 tyX12_ok nmX12 rfl pf_X12_22 (pv_10_22 G) hW hS (ci_10 (Nat.le_of_ble_eq_true rfl)) rfl rfl dX12_sumAhead_30 (fun Mm30 eMm30 H locs hW hS => ?_)
      replace h := h Mm30 eMm30
      refine lv_iconst hx hb dX12_sumAhead_33 ki_0 ?_
      refine lv_istore (lv' := [(4, .int (0 : Int32)), (0, .ref (ad G 10 0)), (1, .int x1), (2, .int x2)]) hx hb dX12_sumAhead_34 hl (by decide) rfl (fun ls hl => ?_)
      refine lv_iconst hx hb dX12_sumAhead_36 ki_0 ?_
      refine lv_istore (lv' := [(5, .int (0 : Int32)), (4, .int (0 : Int32)), (0, .ref (ad G 10 0)), (1, .int x1), (2, .int x2)]) hx hb dX12_sumAhead_37 hl (by decide) rfl (fun ls hl => ?_)
      obtain ⟨n39, h⟩ := h
      exact w39 n39 _ h H locs ls hW hS (lv_sub hl [2, 4, 1, 0] rfl)
    · replace h := h.2 c15
      refine lv_aload_n hx hb dX12_sumAhead_18 rfl (lv_at hl 0 rfl) ?_
      refine m_cv0 (m_rV S hK hW (m_szH hbs hS) (c_X12_pass l ) h lk_X12_295 (m_recv hK hW (ci_10 (Nat.le_of_ble_eq_true rfl)) (rc_10 G) rfl) rfl hl.1 rfl ⟨Nat.le_of_ble_eq_true rfl, Nat.le_of_ble_eq_true rfl⟩ (Nat.le_of_ble_eq_true rfl) ⟨Nat.zero_le _, Nat.zero_le _⟩ dX12_sumAhead_19) hS rfl rfl (fun Mm19 H locs h hW hS => ?_)
      obtain ⟨x4_22, ex4_22⟩ : ∃ z : Int32, z = x4 + (1 : Int32) := ⟨_, rfl⟩
      replace h := h x4_22 ex4_22
      refine lv_iinc (v := x4_22) (lv' := [(4, .int x4_22), (0, .ref (ad G 10 0)), (1, .int x1), (2, .int x2)]) hx hb dX12_sumAhead_22 hl (k := 3) rfl (by rw [ex4_22, ki_1]) (by decide) rfl (fun ls hl => ?_)
      refine lv_goto (tgt := 12) hx hb dX12_sumAhead_25 (by decide) ?_
      exact kk12 _ h H locs ls hW hS (lv_sub hl [1, 2, 3, 0] rfl)
  unfold s_X12_sumAhead at h
  refine lv_aload_n hx hb dX12_sumAhead_0 rfl (lv_at hl 0 rfl) ?_
  refine m_cv0 (m_rV S hK hW (m_szH hbs hS) (c_X12_begin l ) h lk_X12_315 (m_recv hK hW (ci_10 (Nat.le_of_ble_eq_true rfl)) (rc_10 G) rfl) rfl hl.1 rfl ⟨Nat.le_of_ble_eq_true rfl, Nat.le_of_ble_eq_true rfl⟩ (Nat.le_of_ble_eq_true rfl) ⟨Nat.zero_le _, Nat.zero_le _⟩ dX12_sumAhead_1) hS rfl rfl (fun Mm1 H locs h hW hS => ?_)
  refine lv_aload_n hx hb dX12_sumAhead_4 rfl (lv_at hl 0 rfl) ?_
  refine lv_iload_n hx hb dX12_sumAhead_5 rfl (lv_at hl 3 rfl) ?_
  refine m_put S hK fk_X12_70 tyX12_ok nmX12 rfl pf_X12_22 (pv_10_22 G) hW hS (ci_10 (Nat.le_of_ble_eq_true rfl)) rfl rfl dX12_sumAhead_6 (fun Mm6 eMm6 H locs hW hS => ?_)
  replace h := h Mm6 eMm6
  refine lv_iconst hx hb dX12_sumAhead_9 ki_0 ?_
  refine lv_istore (lv' := [(4, .int (0 : Int32)), (0, .ref (ad G 10 0)), (1, .int x1), (2, .int x2), (3, .int x3)]) hx hb dX12_sumAhead_10 hl (by decide) rfl (fun ls hl => ?_)
  obtain ⟨n12, h⟩ := h
  exact w12 n12 _ h H locs ls hW hS (lv_sub hl [1, 2, 3, 0] rfl)
def s_X12_away_73 (x1 : Int32) (x2 : Int32) (P : Int32 → Mem → Prop) (M : Mem) (y0 : Int32) : Prop :=
  s_X12_sumAhead M x2 y0 (-1 : Int32) (fun rr80 Mm80 => s_X12_sumAhead Mm80 x2 y0 x1 (fun rr88 Mm88 => P (rr80 - rr88) Mm88))
def s_X12_away (M : Mem) (x1 : Int32) (x2 : Int32) (x3 : Int32) (P : Int32 → Mem → Prop) : Prop :=
  ∀ Mm2 : Mem, Mm2 = wI M 10 0 0 (0 : Int32) → s_X12_isAge Mm2 x1 (fun rr6 Mm6 => (rr6 = 0 → P (-1000000001 : Int32) Mm6) ∧ (¬ rr6 = 0 → s_X12_in Mm6 x3 (0 : Int32) (2 : Int32) (fun rr15 Mm15 => (rr15 = 0 → P (-1000000001 : Int32) Mm15) ∧ (¬ rr15 = 0 → s_X12_in Mm15 x2 (1 : Int32) (60 : Int32) (fun rr25 Mm25 => (¬ rr25 = 0 → (((Mm25.1 44 0 3) + x2) ≤ (400 : Int32) → (¬ x3 = 0 → (¬ x3 = (1 : Int32) → s_X12_away_73 x1 x2 P Mm25 (8 : Int32)) ∧ (x3 = (1 : Int32) → s_X12_away_73 x1 x2 P Mm25 (10 : Int32))) ∧ (x3 = 0 → s_X12_away_73 x1 x2 P Mm25 (5 : Int32))) ∧ (¬ ((Mm25.1 44 0 3) + x2) ≤ (400 : Int32) → P (-1000000002 : Int32) Mm25)) ∧ (rr25 = 0 → P (-1000000001 : Int32) Mm25))))))
abbrev rm_X12_away : Room := { frames := 14, cells := 0, slots := 0, locals := 337 }
set_option maxHeartbeats 4000000 in
set_option maxRecDepth 100000 in
theorem c_X12_away (l : Launch) {G : Gn} {M : Mem} {x1 : Int32} {x2 : Int32} {x3 : Int32} {P : Int32 → Mem → Prop} : MQi l yX12_away cX12_away 5 (some .int) rm_X12_away [.ref (ad G 10 0), .int x1, .int x2, .int x3] G M (s_X12_away M x1 x2 x3 P) P := by
  refine m_enter (by decide +kernel) (Nat.le_of_ble_eq_true rfl) ?_
  intro p e s m below meth c ls H locs S hret hlocks hname hK hbs hW hS hl h
  obtain ⟨AV, hAV⟩ : ∃ z : Array Value, z = ([.ref (ad G 10 0), .int x1, .int x2, .int x3] : List Value).toArray := ⟨_, rfl⟩
  rw [← hAV] at S ⊢
  replace S : CallFix p m c cX12_away 5 s AV lw_G "MilkDeskModel" := S
  have hx := S.1
  have hb := S.2.1
  have hml := S.2.2.1
  have hown := S.2.2.2.1
  have hts := S.2.2.2.2
  replace hl : lv_has ls 5 [(0, .ref (ad G 10 0)), (1, .int x1), (2, .int x2), (3, .int x3)] := hl
  have b73 : ∀ (M : Mem) (y0 : Int32) (H : Heap) (locs : List Loc) (ls : Array Slot), WPm G M H → va_S (fun q => bs G ≤ q) s.heap H locs → lv_has ls 5 [(0, .ref (ad G 10 0)), (1, .int x1), (2, .int x2)] → s_X12_away_73 x1 x2 P M y0 → W p l e rm_X12_away s m AV below meth c H locs 0 0 (MQ below (va_Qi P (WS G) (fun q => bs G ≤ q)) AV s 0 0 (fun q => bs G ≤ q)) (F0 m 73 ls [.int y0]) := by
    intro M y0 H locs ls hW hS hl h
    unfold s_X12_away_73 at h
    refine lv_istore (lv' := [(4, .int y0), (0, .ref (ad G 10 0)), (1, .int x1), (2, .int x2)]) hx hb dX12_away_73 hl (by decide) rfl (fun ls hl => ?_)
    refine lv_aload_n hx hb dX12_away_75 rfl (lv_at hl 1 rfl) ?_
    refine lv_iload_n hx hb dX12_away_76 rfl (lv_at hl 3 rfl) ?_
    refine lv_iload hx hb dX12_away_77 (lv_at hl 0 rfl) ?_
    refine lv_iconst hx hb dX12_away_79 ki_m1 ?_
    refine m_ci0 (m_rV S hK hW (m_szH hbs hS) (c_X12_sumAhead l ) h lk_X12_328 (m_recv hK hW (ci_10 (Nat.le_of_ble_eq_true rfl)) (rc_10 G) rfl) rfl hl.1 rfl ⟨Nat.le_of_ble_eq_true rfl, Nat.le_of_ble_eq_true rfl⟩ (Nat.le_of_ble_eq_true rfl) ⟨Nat.zero_le _, Nat.zero_le _⟩ dX12_away_80) hS rfl rfl (fun rr80 Mm80 H locs h hW hS => ?_)
    refine lv_aload_n hx hb dX12_away_83 rfl (lv_at hl 1 rfl) ?_
    refine lv_iload_n hx hb dX12_away_84 rfl (lv_at hl 3 rfl) ?_
    refine lv_iload hx hb dX12_away_85 (lv_at hl 0 rfl) ?_
    refine lv_iload_n hx hb dX12_away_87 rfl (lv_at hl 2 rfl) ?_
    refine m_ci0 (m_rV S hK hW (m_szH hbs hS) (c_X12_sumAhead l ) h lk_X12_328 (m_recv hK hW (ci_10 (Nat.le_of_ble_eq_true rfl)) (rc_10 G) rfl) rfl hl.1 rfl ⟨Nat.le_of_ble_eq_true rfl, Nat.le_of_ble_eq_true rfl⟩ (Nat.le_of_ble_eq_true rfl) ⟨Nat.zero_le _, Nat.zero_le _⟩ dX12_away_88) hS rfl rfl (fun rr88 Mm88 H locs h hW hS => ?_)
    refine lv_isub hx hb dX12_away_91 ?_
    exact m_iret S hret hlocks hK hW hbs hS rfl h dX12_away_92
  unfold s_X12_away at h
  refine lv_aload_n hx hb dX12_away_0 rfl (lv_at hl 0 rfl) ?_
  refine lv_iconst hx hb dX12_away_1 ki_0 ?_
  refine m_put S hK fk_X12_128 tyX12_ok nmX12 rfl pf_X12_0 (pv_10_0 G) hW hS (ci_10 (Nat.le_of_ble_eq_true rfl)) rfl rfl dX12_away_2 (fun Mm2 eMm2 H locs hW hS => ?_)
  replace h := h Mm2 eMm2
  refine lv_iload_n hx hb dX12_away_5 rfl (lv_at hl 1 rfl) ?_
  refine m_ci0 (m_rS S hK hW (m_szH hbs hS) (c_X12_isAge l ) h lk_X12_149 rfl hl.1 rfl ⟨Nat.le_of_ble_eq_true rfl, Nat.le_of_ble_eq_true rfl⟩ (Nat.le_of_ble_eq_true rfl) ⟨Nat.zero_le _, Nat.zero_le _⟩ dX12_away_6) hS rfl rfl (fun rr6 Mm6 H locs h hW hS => ?_)
  refine lv_if_eq (tgt := 31) hx hb dX12_away_9 (by decide) (fun c9 => ?_) (fun c9 => ?_)
  · replace h := h.1 c9
    refine lv_ldcw hx hb hown (hts _ mw_1527) dX12_away_31 ?_
    exact m_iret S hret hlocks hK hW hbs hS rfl h dX12_away_34
  · replace h := h.2 c9
    refine lv_iload_n hx hb dX12_away_12 rfl (lv_at hl 3 rfl) ?_
    refine lv_iconst hx hb dX12_away_13 ki_0 ?_
    refine lv_iconst hx hb dX12_away_14 ki_2 ?_
    refine m_ci0 (m_rS S hK hW (m_szH hbs hS) (c_X12_in l ) h lk_X12_131 rfl hl.1 rfl ⟨Nat.le_of_ble_eq_true rfl, Nat.le_of_ble_eq_true rfl⟩ (Nat.le_of_ble_eq_true rfl) ⟨Nat.zero_le _, Nat.zero_le _⟩ dX12_away_15) hS rfl rfl (fun rr15 Mm15 H locs h hW hS => ?_)
    refine lv_if_eq (tgt := 31) hx hb dX12_away_18 (by decide) (fun c18 => ?_) (fun c18 => ?_)
    · replace h := h.1 c18
      refine lv_ldcw hx hb hown (hts _ mw_1527) dX12_away_31 ?_
      exact m_iret S hret hlocks hK hW hbs hS rfl h dX12_away_34
    · replace h := h.2 c18
      refine lv_iload_n hx hb dX12_away_21 rfl (lv_at hl 2 rfl) ?_
      refine lv_iconst hx hb dX12_away_22 ki_1 ?_
      refine lv_bipush hx hb dX12_away_23 kb_60 ?_
      refine m_ci0 (m_rS S hK hW (m_szH hbs hS) (c_X12_in l ) h lk_X12_131 rfl hl.1 rfl ⟨Nat.le_of_ble_eq_true rfl, Nat.le_of_ble_eq_true rfl⟩ (Nat.le_of_ble_eq_true rfl) ⟨Nat.zero_le _, Nat.zero_le _⟩ dX12_away_25) hS rfl rfl (fun rr25 Mm25 H locs h hW hS => ?_)
      refine lv_if_ne (tgt := 35) hx hb dX12_away_28 (by decide) (fun c28 => ?_) (fun c28 => ?_)
      · replace h := h.1 c28
        refine lv_aload_n hx hb dX12_away_35 rfl (lv_at hl 0 rfl) ?_
        refine m_getr S hK fk_X12_7 (gr_10_1 G 0) hW (ci_10 (Nat.le_of_ble_eq_true rfl)) dX12_away_36 ?_
        refine lv_iconst hx hb dX12_away_39 ki_3 ?_
        refine m_aldk S hK (ar_44 G) hW (ci_44 (Nat.le_of_ble_eq_true rfl)) kn_3 (Nat.le_of_ble_eq_true rfl) dX12_away_40 ?_
        refine lv_iload_n hx hb dX12_away_41 rfl (lv_at hl 2 rfl) ?_
        refine lv_iadd hx hb dX12_away_42 ?_
        refine lv_sipush hx hb dX12_away_43 ks_400 ?_
        refine lv_icmp_le (tgt := 53) hx hb dX12_away_46 (by decide) (fun c46 => ?_) (fun c46 => ?_)
        · replace h := h.1 c46
          refine lv_iload_n hx hb dX12_away_53 rfl (lv_at hl 3 rfl) ?_
          refine lv_if_ne (tgt := 61) hx hb dX12_away_54 (by decide) (fun c54 => ?_) (fun c54 => ?_)
          · replace h := h.1 c54
            refine lv_iload_n hx hb dX12_away_61 rfl (lv_at hl 3 rfl) ?_
            refine lv_iconst hx hb dX12_away_62 ki_1 ?_
            refine lv_icmp_ne (tgt := 71) hx hb dX12_away_63 (by decide) (fun c63 => ?_) (fun c63 => ?_)
            · replace h := h.1 c63
              refine lv_bipush hx hb dX12_away_71 kb_8 ?_
              exact b73 _ _ H locs ls hW hS (lv_sub hl [0, 1, 2] rfl) h
            · replace h := h.2 c63
              refine lv_bipush hx hb dX12_away_66 kb_10 ?_
              refine lv_goto (tgt := 73) hx hb dX12_away_68 (by decide) ?_
              exact b73 _ _ H locs ls hW hS (lv_sub hl [0, 1, 2] rfl) h
          · replace h := h.2 c54
            refine lv_iconst hx hb dX12_away_57 ki_5 ?_
            refine lv_goto (tgt := 73) hx hb dX12_away_58 (by decide) ?_
            exact b73 _ _ H locs ls hW hS (lv_sub hl [0, 1, 2] rfl) h
        · replace h := h.2 c46
          refine lv_ldcw hx hb hown (hts _ mw_1579) dX12_away_49 ?_
          exact m_iret S hret hlocks hK hW hbs hS rfl h dX12_away_52
      · replace h := h.2 c28
        refine lv_ldcw hx hb hown (hts _ mw_1527) dX12_away_31 ?_
        exact m_iret S hret hlocks hK hW hbs hS rfl h dX12_away_34
def s_X12_markOf (M : Mem) (x1 : Int32) (x2 : Int32) (P : Int32 → Mem → Prop) : Prop :=
  vp_in x1 8 ∧ (((M.1 77 0 x1.toNatClampNeg) ≤ x2 → P (-1 : Int32) M) ∧ (¬ (M.1 77 0 x1.toNatClampNeg) ≤ x2 → vp_in (((80 : Int32) * x1) + x2) 640 ∧ (P ((M.2.1 78 0 (((80 : Int32) * x1) + x2).toNatClampNeg).toInt32) M)))
abbrev rm_X12_markOf : Room := { frames := 0, cells := 0, slots := 0, locals := 0 }
set_option maxHeartbeats 4000000 in
set_option maxRecDepth 100000 in
theorem c_X12_markOf (l : Launch) {G : Gn} {M : Mem} {x1 : Int32} {x2 : Int32} {P : Int32 → Mem → Prop} : MQi l yX12_markOf cX12_markOf 3 (some .int) rm_X12_markOf [.ref (ad G 10 0), .int x1, .int x2] G M (s_X12_markOf M x1 x2 P) P := by
  refine m_enter (by decide +kernel) (Nat.le_of_ble_eq_true rfl) ?_
  intro p e s m below meth c ls H locs S hret hlocks hname hK hbs hW hS hl h
  obtain ⟨AV, hAV⟩ : ∃ z : Array Value, z = ([.ref (ad G 10 0), .int x1, .int x2] : List Value).toArray := ⟨_, rfl⟩
  rw [← hAV] at S ⊢
  replace S : CallFix p m c cX12_markOf 3 s AV lw_G "MilkDeskModel" := S
  have hx := S.1
  have hb := S.2.1
  have hml := S.2.2.1
  have hown := S.2.2.2.1
  have hts := S.2.2.2.2
  replace hl : lv_has ls 3 [(0, .ref (ad G 10 0)), (1, .int x1), (2, .int x2)] := hl
  unfold s_X12_markOf at h
  refine lv_iload_n hx hb dX12_markOf_0 rfl (lv_at hl 2 rfl) ?_
  refine lv_aload_n hx hb dX12_markOf_1 rfl (lv_at hl 0 rfl) ?_
  refine m_getr S hK fk_X12_117 (gr_10_50 G 0) hW (ci_10 (Nat.le_of_ble_eq_true rfl)) dX12_markOf_2 ?_
  refine lv_iload_n hx hb dX12_markOf_5 rfl (lv_at hl 1 rfl) ?_
  obtain ⟨hb6, h⟩ := h
  refine m_ald S hK (ar_77 G) hW (ci_77 (Nat.le_of_ble_eq_true rfl)) hb6 dX12_markOf_6 ?_
  refine lv_icmp_ge (tgt := 25) hx hb dX12_markOf_7 (by decide) (fun c7 => ?_) (fun c7 => ?_)
  · replace h := h.1 c7
    refine lv_iconst hx hb dX12_markOf_25 ki_m1 ?_
    exact m_iret S hret hlocks hK hW hbs hS rfl h dX12_markOf_26
  · replace h := h.2 c7
    refine lv_aload_n hx hb dX12_markOf_10 rfl (lv_at hl 0 rfl) ?_
    refine m_getr S hK fk_X12_120 (gr_10_51 G 0) hW (ci_10 (Nat.le_of_ble_eq_true rfl)) dX12_markOf_11 ?_
    refine lv_bipush hx hb dX12_markOf_14 kb_80 ?_
    refine lv_iload_n hx hb dX12_markOf_16 rfl (lv_at hl 1 rfl) ?_
    refine lv_imul hx hb dX12_markOf_17 ?_
    refine lv_iload_n hx hb dX12_markOf_18 rfl (lv_at hl 2 rfl) ?_
    refine lv_iadd hx hb dX12_markOf_19 ?_
    obtain ⟨hb20, h⟩ := h
    refine m_jald S hK (ar_78 G) hW (ci_78 (Nat.le_of_ble_eq_true rfl)) hb20 dX12_markOf_20 ?_
    refine lv_l2i hx hb dX12_markOf_21 rfl ?_
    refine lv_goto (tgt := 26) hx hb dX12_markOf_22 (by decide) ?_
    exact m_iret S hret hlocks hK hW hbs hS rfl h dX12_markOf_26
def s_X12_beside_136 (x1 : Int32) (x2 : Int32) (x3 : Int32) (x7 : Int32) (P : Int32 → Mem → Prop) (K68 : Mem × Int32 × Int32 × Int32 → Prop) (K82 : Mem × Int32 × Int32 × Int32 → Prop) (M : Mem) (x5 : Int32) (x6 : Int32) (x8 : Int32) (y0 : Int32) : Prop :=
  (y0 = 0 → ∀ x8_215 : Int32, x8_215 = x8 + (1 : Int32) → K82 (M, x5, x6, x8_215)) ∧ (¬ y0 = 0 → s_X12_headsOf M x7 (M.1 44 0 3) (fun rr152 Mm152 => s_X12_headsOf Mm152 x8 (Mm152.1 44 0 3) (fun rr164 Mm164 => s_X12_apart Mm164 rr152 rr164 (fun rr167 Mm167 => (x2 < rr167 → ∀ x8_215 : Int32, x8_215 = x8 + (1 : Int32) → K82 (Mm167, x5, x6, x8_215)) ∧ (¬ x2 < rr167 → vp_in (((180 : Int32) + ((11 : Int32) * x7)) + (5 : Int32)) 320 ∧ (vp_in (((180 : Int32) + ((11 : Int32) * x8)) + (5 : Int32)) 320 ∧ (∀ x5_210 : Int32, x5_210 = (x5 + ((Mm167.1 44 0 (((180 : Int32) + ((11 : Int32) * x7)) + (5 : Int32)).toNatClampNeg) - (Mm167.1 44 0 (((180 : Int32) + ((11 : Int32) * x8)) + (5 : Int32)).toNatClampNeg))) → ∀ x6_212 : Int32, x6_212 = x6 + (1 : Int32) → ∀ x8_215 : Int32, x8_215 = x8 + (1 : Int32) → K82 (Mm167, x5_210, x6_212, x8_215))))))))
def s_X12_beside_82 (x1 : Int32) (x2 : Int32) (x3 : Int32) (x7 : Int32) (P : Int32 → Mem → Prop) (K68 : Mem × Int32 × Int32 × Int32 → Prop) (K82 : Mem × Int32 × Int32 × Int32 → Prop) (M : Mem) (x5 : Int32) (x6 : Int32) (x8 : Int32) : Prop :=
  ((M.1 44 0 0) ≤ x8 → ∀ x7_221 : Int32, x7_221 = x7 + (1 : Int32) → K68 (M, x5, x6, x7_221)) ∧ (¬ (M.1 44 0 0) ≤ x8 → s_X12_markOf M x1 x7 (fun rr97 Mm97 => (¬ rr97 = (1 : Int32) → s_X12_beside_136 x1 x2 x3 x7 P K68 K82 Mm97 x5 x6 x8 (0 : Int32)) ∧ (rr97 = (1 : Int32) → s_X12_markOf Mm97 x1 x8 (fun rr108 Mm108 => (¬ rr108 = 0 → s_X12_beside_136 x1 x2 x3 x7 P K68 K82 Mm108 x5 x6 x8 (0 : Int32)) ∧ (rr108 = 0 → vp_in x7 12 ∧ (vp_in x8 12 ∧ ((¬ (Mm108.1 47 0 x7.toNatClampNeg) = (Mm108.1 47 0 x8.toNatClampNeg) → s_X12_beside_136 x1 x2 x3 x7 P K68 K82 Mm108 x5 x6 x8 (0 : Int32)) ∧ ((Mm108.1 47 0 x7.toNatClampNeg) = (Mm108.1 47 0 x8.toNatClampNeg) → s_X12_beside_136 x1 x2 x3 x7 P K68 K82 Mm108 x5 x6 x8 (1 : Int32)))))))))
def s_X12_beside_68 (x1 : Int32) (x2 : Int32) (x3 : Int32) (P : Int32 → Mem → Prop) (K68 : Mem × Int32 × Int32 × Int32 → Prop) (M : Mem) (x5 : Int32) (x6 : Int32) (x7 : Int32) : Prop :=
  ((M.1 44 0 0) ≤ x7 → (¬ x3 = 0 → P x6 M) ∧ (x3 = 0 → P x5 M)) ∧ (¬ (M.1 44 0 0) ≤ x7 → ∃ n, Lz (fun (K82 : Mem × Int32 × Int32 × Int32 → Prop) (a : Mem × Int32 × Int32 × Int32) => s_X12_beside_82 x1 x2 x3 x7 P K68 K82 a.1 a.2.1 a.2.2.1 a.2.2.2) n (M, x5, x6, (0 : Int32)))
def s_X12_beside (M : Mem) (x1 : Int32) (x2 : Int32) (x3 : Int32) (P : Int32 → Mem → Prop) : Prop :=
  ∀ Mm2 : Mem, Mm2 = wI M 10 0 0 (0 : Int32) → s_X12_in Mm2 x1 (0 : Int32) (7 : Int32) (fun rr9 Mm9 => (rr9 = 0 → P (-1000000001 : Int32) Mm9) ∧ (¬ rr9 = 0 → s_X12_in Mm9 x2 (0 : Int32) (600 : Int32) (fun rr20 Mm20 => (rr20 = 0 → P (-1000000001 : Int32) Mm20) ∧ (¬ rr20 = 0 → s_X12_in Mm20 x3 (0 : Int32) (1 : Int32) (fun rr29 Mm29 => (¬ rr29 = 0 → s_X12_lacks Mm29 x1 (0 : Int32) (fun rr42 Mm42 => (0 ≤ rr42 → ∃ n, Lz (fun (K68 : Mem × Int32 × Int32 × Int32 → Prop) (a : Mem × Int32 × Int32 × Int32) => s_X12_beside_68 x1 x2 x3 P K68 a.1 a.2.1 a.2.2.1 a.2.2.2) n (Mm42, (0 : Int32), (0 : Int32), (0 : Int32))) ∧ (¬ 0 ≤ rr42 → P ((-1000000000 : Int32) + rr42) Mm42))) ∧ (rr29 = 0 → P (-1000000001 : Int32) Mm29))))))
abbrev rm_X12_beside : Room := { frames := 2, cells := 0, slots := 0, locals := 48 }
set_option maxHeartbeats 4000000 in
set_option maxRecDepth 100000 in
theorem c_X12_beside (l : Launch) {G : Gn} {M : Mem} {x1 : Int32} {x2 : Int32} {x3 : Int32} {P : Int32 → Mem → Prop} : MQi l yX12_beside cX12_beside 10 (some .int) rm_X12_beside [.ref (ad G 10 0), .int x1, .int x2, .int x3] G M (s_X12_beside M x1 x2 x3 P) P := by
  refine m_enter (by decide +kernel) (Nat.le_of_ble_eq_true rfl) ?_
  intro p e s m below meth c ls H locs S hret hlocks hname hK hbs hW hS hl h
  obtain ⟨AV, hAV⟩ : ∃ z : Array Value, z = ([.ref (ad G 10 0), .int x1, .int x2, .int x3] : List Value).toArray := ⟨_, rfl⟩
  rw [← hAV] at S ⊢
  replace S : CallFix p m c cX12_beside 10 s AV lw_G "MilkDeskModel" := S
  have hx := S.1
  have hb := S.2.1
  have hml := S.2.2.1
  have hown := S.2.2.2.1
  have hts := S.2.2.2.2
  replace hl : lv_has ls 10 [(0, .ref (ad G 10 0)), (1, .int x1), (2, .int x2), (3, .int x3)] := hl
  have w68 : ∀ (n : Nat) (a : Mem × Int32 × Int32 × Int32), Lz (fun (K68 : Mem × Int32 × Int32 × Int32 → Prop) (a : Mem × Int32 × Int32 × Int32) => s_X12_beside_68 x1 x2 x3 P K68 a.1 a.2.1 a.2.2.1 a.2.2.2) n a → ∀ (H : Heap) (locs : List Loc) (ls : Array Slot), WPm G a.1 H → va_S (fun q => bs G ≤ q) s.heap H locs → lv_has ls 10 [(0, .ref (ad G 10 0)), (1, .int x1), (2, .int x2), (3, .int x3), (5, .int a.2.1), (6, .int a.2.2.1), (7, .int a.2.2.2)] → W p l e rm_X12_beside s m AV below meth c H locs 0 0 (MQ below (va_Qi P (WS G) (fun q => bs G ≤ q)) AV s 0 0 (fun q => bs G ≤ q)) (F0 m 68 ls []) := by
    refine Lz_walk ?_
    rintro K68 kk68 ⟨M, x5, x6, x7⟩ h H locs ls hW hS hl
    replace h : s_X12_beside_68 x1 x2 x3 P K68 M x5 x6 x7 := h
    replace hW : WPm G M H := hW
    replace hl : lv_has ls 10 [(0, .ref (ad G 10 0)), (1, .int x1), (2, .int x2), (3, .int x3), (5, .int x5), (6, .int x6), (7, .int x7)] := hl
    have w82 : ∀ (x7 : Int32), ∀ (n : Nat) (a : Mem × Int32 × Int32 × Int32), Lz (fun (K82 : Mem × Int32 × Int32 × Int32 → Prop) (a : Mem × Int32 × Int32 × Int32) => s_X12_beside_82 x1 x2 x3 x7 P K68 K82 a.1 a.2.1 a.2.2.1 a.2.2.2) n a → ∀ (H : Heap) (locs : List Loc) (ls : Array Slot), WPm G a.1 H → va_S (fun q => bs G ≤ q) s.heap H locs → lv_has ls 10 [(0, .ref (ad G 10 0)), (1, .int x1), (2, .int x2), (3, .int x3), (5, .int a.2.1), (6, .int a.2.2.1), (7, .int x7), (8, .int a.2.2.2)] → W p l e rm_X12_beside s m AV below meth c H locs 0 0 (MQ below (va_Qi P (WS G) (fun q => bs G ≤ q)) AV s 0 0 (fun q => bs G ≤ q)) (F0 m 82 ls []) := by
      intro x7
      refine Lz_walk ?_
      rintro K82 kk82 ⟨M, x5, x6, x8⟩ h H locs ls hW hS hl
      replace h : s_X12_beside_82 x1 x2 x3 x7 P K68 K82 M x5 x6 x8 := h
      replace hW : WPm G M H := hW
      replace hl : lv_has ls 10 [(0, .ref (ad G 10 0)), (1, .int x1), (2, .int x2), (3, .int x3), (5, .int x5), (6, .int x6), (7, .int x7), (8, .int x8)] := hl
      have b136 : ∀ (M : Mem) (x5 : Int32) (x6 : Int32) (x8 : Int32) (y0 : Int32) (H : Heap) (locs : List Loc) (ls : Array Slot), WPm G M H → va_S (fun q => bs G ≤ q) s.heap H locs → lv_has ls 10 [(0, .ref (ad G 10 0)), (1, .int x1), (2, .int x2), (3, .int x3), (5, .int x5), (6, .int x6), (7, .int x7), (8, .int x8)] → s_X12_beside_136 x1 x2 x3 x7 P K68 K82 M x5 x6 x8 y0 → W p l e rm_X12_beside s m AV below meth c H locs 0 0 (MQ below (va_Qi P (WS G) (fun q => bs G ≤ q)) AV s 0 0 (fun q => bs G ≤ q)) (F0 m 136 ls [.int y0]) := by
        intro M x5 x6 x8 y0 H locs ls hW hS hl h
        unfold s_X12_beside_136 at h
        refine lv_istore (lv' := [(9, .int y0), (0, .ref (ad G 10 0)), (1, .int x1), (2, .int x2), (3, .int x3), (5, .int x5), (6, .int x6), (7, .int x7), (8, .int x8)]) hx hb dX12_beside_136 hl (by decide) rfl (fun ls hl => ?_)
        refine lv_iload hx hb dX12_beside_138 (lv_at hl 0 rfl) ?_
        refine lv_if_eq (tgt := 215) hx hb dX12_beside_140 (by decide) (fun c140 => ?_) (fun c140 => ?_)
        · replace h := h.1 c140
          obtain ⟨x8_215, ex8_215⟩ : ∃ z : Int32, z = x8 + (1 : Int32) := ⟨_, rfl⟩
          replace h := h x8_215 ex8_215
          refine lv_iinc (v := x8_215) (lv' := [(8, .int x8_215), (9, .int y0), (0, .ref (ad G 10 0)), (1, .int x1), (2, .int x2), (3, .int x3), (5, .int x5), (6, .int x6), (7, .int x7)]) hx hb dX12_beside_215 hl (k := 8) rfl (by rw [ex8_215, ki_1]) (by decide) rfl (fun ls hl => ?_)
          refine lv_goto (tgt := 82) hx hb dX12_beside_218 (by decide) ?_
          exact kk82 _ h H locs ls hW hS (lv_sub hl [2, 3, 4, 5, 6, 7, 8, 0] rfl)
        · replace h := h.2 c140
          refine lv_aload_n hx hb dX12_beside_143 rfl (lv_at hl 1 rfl) ?_
          refine lv_iload hx hb dX12_beside_144 (lv_at hl 7 rfl) ?_
          refine lv_aload_n hx hb dX12_beside_146 rfl (lv_at hl 1 rfl) ?_
          refine m_getr S hK fk_X12_7 (gr_10_1 G 0) hW (ci_10 (Nat.le_of_ble_eq_true rfl)) dX12_beside_147 ?_
          refine lv_iconst hx hb dX12_beside_150 ki_3 ?_
          refine m_aldk S hK (ar_44 G) hW (ci_44 (Nat.le_of_ble_eq_true rfl)) kn_3 (Nat.le_of_ble_eq_true rfl) dX12_beside_151 ?_
          refine m_ci0 (m_rV S hK hW (m_szH hbs hS) (c_X12_headsOf l ) h lk_X12_192 (m_recv hK hW (ci_10 (Nat.le_of_ble_eq_true rfl)) (rc_10 G) rfl) rfl hl.1 rfl ⟨Nat.le_of_ble_eq_true rfl, Nat.le_of_ble_eq_true rfl⟩ (Nat.le_of_ble_eq_true rfl) ⟨Nat.zero_le _, Nat.zero_le _⟩ dX12_beside_152) hS rfl rfl (fun rr152 Mm152 H locs h hW hS => ?_)
          refine lv_aload_n hx hb dX12_beside_155 rfl (lv_at hl 1 rfl) ?_
          refine lv_iload hx hb dX12_beside_156 (lv_at hl 8 rfl) ?_
          refine lv_aload_n hx hb dX12_beside_158 rfl (lv_at hl 1 rfl) ?_
          refine m_getr S hK fk_X12_7 (gr_10_1 G 0) hW (ci_10 (Nat.le_of_ble_eq_true rfl)) dX12_beside_159 ?_
          refine lv_iconst hx hb dX12_beside_162 ki_3 ?_
          refine m_aldk S hK (ar_44 G) hW (ci_44 (Nat.le_of_ble_eq_true rfl)) kn_3 (Nat.le_of_ble_eq_true rfl) dX12_beside_163 ?_
          refine m_ci0 (m_rV S hK hW (m_szH hbs hS) (c_X12_headsOf l ) h lk_X12_192 (m_recv hK hW (ci_10 (Nat.le_of_ble_eq_true rfl)) (rc_10 G) rfl) rfl hl.1 rfl ⟨Nat.le_of_ble_eq_true rfl, Nat.le_of_ble_eq_true rfl⟩ (Nat.le_of_ble_eq_true rfl) ⟨Nat.zero_le _, Nat.zero_le _⟩ dX12_beside_164) hS rfl rfl (fun rr164 Mm164 H locs h hW hS => ?_)
          refine m_ci0 (m_rS S hK hW (m_szH hbs hS) (c_X12_apart l ) h lk_X12_300 rfl hl.1 rfl ⟨Nat.le_of_ble_eq_true rfl, Nat.le_of_ble_eq_true rfl⟩ (Nat.le_of_ble_eq_true rfl) ⟨Nat.zero_le _, Nat.zero_le _⟩ dX12_beside_167) hS rfl rfl (fun rr167 Mm167 H locs h hW hS => ?_)
          refine lv_iload_n hx hb dX12_beside_170 rfl (lv_at hl 3 rfl) ?_
          refine lv_icmp_gt (tgt := 215) hx hb dX12_beside_171 (by decide) (fun c171 => ?_) (fun c171 => ?_)
          · replace h := h.1 c171
            obtain ⟨x8_215, ex8_215⟩ : ∃ z : Int32, z = x8 + (1 : Int32) := ⟨_, rfl⟩
            replace h := h x8_215 ex8_215
            refine lv_iinc (v := x8_215) (lv' := [(8, .int x8_215), (9, .int y0), (0, .ref (ad G 10 0)), (1, .int x1), (2, .int x2), (3, .int x3), (5, .int x5), (6, .int x6), (7, .int x7)]) hx hb dX12_beside_215 hl (k := 8) rfl (by rw [ex8_215, ki_1]) (by decide) rfl (fun ls hl => ?_)
            refine lv_goto (tgt := 82) hx hb dX12_beside_218 (by decide) ?_
            exact kk82 _ h H locs ls hW hS (lv_sub hl [2, 3, 4, 5, 6, 7, 8, 0] rfl)
          · replace h := h.2 c171
            refine lv_iload hx hb dX12_beside_174 (lv_at hl 5 rfl) ?_
            refine lv_aload_n hx hb dX12_beside_176 rfl (lv_at hl 1 rfl) ?_
            refine m_getr S hK fk_X12_7 (gr_10_1 G 0) hW (ci_10 (Nat.le_of_ble_eq_true rfl)) dX12_beside_177 ?_
            refine lv_sipush hx hb dX12_beside_180 ks_180 ?_
            refine lv_bipush hx hb dX12_beside_183 kb_11 ?_
            refine lv_iload hx hb dX12_beside_185 (lv_at hl 7 rfl) ?_
            refine lv_imul hx hb dX12_beside_187 ?_
            refine lv_iadd hx hb dX12_beside_188 ?_
            refine lv_iconst hx hb dX12_beside_189 ki_5 ?_
            refine lv_iadd hx hb dX12_beside_190 ?_
            obtain ⟨hb191, h⟩ := h
            refine m_ald S hK (ar_44 G) hW (ci_44 (Nat.le_of_ble_eq_true rfl)) hb191 dX12_beside_191 ?_
            refine lv_aload_n hx hb dX12_beside_192 rfl (lv_at hl 1 rfl) ?_
            refine m_getr S hK fk_X12_7 (gr_10_1 G 0) hW (ci_10 (Nat.le_of_ble_eq_true rfl)) dX12_beside_193 ?_
            refine lv_sipush hx hb dX12_beside_196 ks_180 ?_
            refine lv_bipush hx hb dX12_beside_199 kb_11 ?_
            refine lv_iload hx hb dX12_beside_201 (lv_at hl 8 rfl) ?_
            refine lv_imul hx hb dX12_beside_203 ?_
            refine lv_iadd hx hb dX12_beside_204 ?_
            refine lv_iconst hx hb dX12_beside_205 ki_5 ?_
            refine lv_iadd hx hb dX12_beside_206 ?_
            obtain ⟨hb207, h⟩ := h
            refine m_ald S hK (ar_44 G) hW (ci_44 (Nat.le_of_ble_eq_true rfl)) hb207 dX12_beside_207 ?_
            refine lv_isub hx hb dX12_beside_208 ?_
            refine lv_iadd hx hb dX12_beside_209 ?_
            refine lv_topi (fun x5_210 ex5_210 => ?_)
            replace h := h x5_210 ex5_210
            refine lv_istore (lv' := [(5, .int x5_210), (9, .int y0), (0, .ref (ad G 10 0)), (1, .int x1), (2, .int x2), (3, .int x3), (6, .int x6), (7, .int x7), (8, .int x8)]) hx hb dX12_beside_210 hl (by decide) rfl (fun ls hl => ?_)
            obtain ⟨x6_212, ex6_212⟩ : ∃ z : Int32, z = x6 + (1 : Int32) := ⟨_, rfl⟩
            replace h := h x6_212 ex6_212
            refine lv_iinc (v := x6_212) (lv' := [(6, .int x6_212), (5, .int x5_210), (9, .int y0), (0, .ref (ad G 10 0)), (1, .int x1), (2, .int x2), (3, .int x3), (7, .int x7), (8, .int x8)]) hx hb dX12_beside_212 hl (k := 6) rfl (by rw [ex6_212, ki_1]) (by decide) rfl (fun ls hl => ?_)
            obtain ⟨x8_215, ex8_215⟩ : ∃ z : Int32, z = x8 + (1 : Int32) := ⟨_, rfl⟩
            replace h := h x8_215 ex8_215
            refine lv_iinc (v := x8_215) (lv' := [(8, .int x8_215), (6, .int x6_212), (5, .int x5_210), (9, .int y0), (0, .ref (ad G 10 0)), (1, .int x1), (2, .int x2), (3, .int x3), (7, .int x7)]) hx hb dX12_beside_215 hl (k := 8) rfl (by rw [ex8_215, ki_1]) (by decide) rfl (fun ls hl => ?_)
            refine lv_goto (tgt := 82) hx hb dX12_beside_218 (by decide) ?_
            exact kk82 _ h H locs ls hW hS (lv_sub hl [4, 5, 6, 7, 2, 1, 8, 0] rfl)
      unfold s_X12_beside_82 at h
      refine lv_iload hx hb dX12_beside_82 (lv_at hl 7 rfl) ?_
      refine lv_aload_n hx hb dX12_beside_84 rfl (lv_at hl 0 rfl) ?_
      refine m_getr S hK fk_X12_7 (gr_10_1 G 0) hW (ci_10 (Nat.le_of_ble_eq_true rfl)) dX12_beside_85 ?_
      refine lv_iconst hx hb dX12_beside_88 ki_0 ?_
      refine m_aldk S hK (ar_44 G) hW (ci_44 (Nat.le_of_ble_eq_true rfl)) kn_0 (Nat.le_of_ble_eq_true rfl) dX12_beside_89 ?_
      refine lv_icmp_ge (tgt := 221) hx hb dX12_beside_90 (by decide) (fun c90 => ?_) (fun c90 => ?_)
      · replace h := h.1 c90
        obtain ⟨x7_221, ex7_221⟩ : ∃ z : Int32, z = x7 + (1 : Int32) := ⟨_, rfl⟩
        replace h := h x7_221 ex7_221
        refine lv_iinc (v := x7_221) (lv' := [(7, .int x7_221), (0, .ref (ad G 10 0)), (1, .int x1), (2, .int x2), (3, .int x3), (5, .int x5), (6, .int x6), (8, .int x8)]) hx hb dX12_beside_221 hl (k := 6) rfl (by rw [ex7_221, ki_1]) (by decide) rfl (fun ls hl => ?_)
        refine lv_goto (tgt := 68) hx hb dX12_beside_224 (by decide) ?_
        exact kk68 _ h H locs ls hW hS (lv_sub hl [1, 2, 3, 4, 5, 6, 0] rfl)
      · replace h := h.2 c90
        refine lv_aload_n hx hb dX12_beside_93 rfl (lv_at hl 0 rfl) ?_
        refine lv_iload_n hx hb dX12_beside_94 rfl (lv_at hl 1 rfl) ?_
        refine lv_iload hx hb dX12_beside_95 (lv_at hl 6 rfl) ?_
        refine m_ci0 (m_rV S hK hW (m_szH hbs hS) (c_X12_markOf l ) h lk_X12_332 (m_recv hK hW (ci_10 (Nat.le_of_ble_eq_true rfl)) (rc_10 G) rfl) rfl hl.1 rfl ⟨Nat.le_of_ble_eq_true rfl, Nat.le_of_ble_eq_true rfl⟩ (Nat.le_of_ble_eq_true rfl) ⟨Nat.zero_le _, Nat.zero_le _⟩ dX12_beside_97) hS rfl rfl (fun rr97 Mm97 H locs h hW hS => ?_)
        refine lv_iconst hx hb dX12_beside_100 ki_1 ?_
        refine lv_icmp_ne (tgt := 135) hx hb dX12_beside_101 (by decide) (fun c101 => ?_) (fun c101 => ?_)
        · replace h := h.1 c101
          refine lv_iconst hx hb dX12_beside_135 ki_0 ?_
          exact b136 _ _ _ _ _ H locs ls hW hS (lv_sub hl [0, 1, 2, 3, 4, 5, 6, 7] rfl) h
        · replace h := h.2 c101
          refine lv_aload_n hx hb dX12_beside_104 rfl (lv_at hl 0 rfl) ?_
          refine lv_iload_n hx hb dX12_beside_105 rfl (lv_at hl 1 rfl) ?_
          refine lv_iload hx hb dX12_beside_106 (lv_at hl 7 rfl) ?_
          refine m_ci0 (m_rV S hK hW (m_szH hbs hS) (c_X12_markOf l ) h lk_X12_332 (m_recv hK hW (ci_10 (Nat.le_of_ble_eq_true rfl)) (rc_10 G) rfl) rfl hl.1 rfl ⟨Nat.le_of_ble_eq_true rfl, Nat.le_of_ble_eq_true rfl⟩ (Nat.le_of_ble_eq_true rfl) ⟨Nat.zero_le _, Nat.zero_le _⟩ dX12_beside_108) hS rfl rfl (fun rr108 Mm108 H locs h hW hS => ?_)
          refine lv_if_ne (tgt := 135) hx hb dX12_beside_111 (by decide) (fun c111 => ?_) (fun c111 => ?_)
          · replace h := h.1 c111
            refine lv_iconst hx hb dX12_beside_135 ki_0 ?_
            exact b136 _ _ _ _ _ H locs ls hW hS (lv_sub hl [0, 1, 2, 3, 4, 5, 6, 7] rfl) h
          · replace h := h.2 c111
            refine lv_aload_n hx hb dX12_beside_114 rfl (lv_at hl 0 rfl) ?_
            refine m_getr S hK fk_X12_19 (gr_10_5 G 0) hW (ci_10 (Nat.le_of_ble_eq_true rfl)) dX12_beside_115 ?_
            refine lv_iload hx hb dX12_beside_118 (lv_at hl 6 rfl) ?_
            obtain ⟨hb120, h⟩ := h
            refine m_ald S hK (ar_47 G) hW (ci_47 (Nat.le_of_ble_eq_true rfl)) hb120 dX12_beside_120 ?_
            refine lv_aload_n hx hb dX12_beside_121 rfl (lv_at hl 0 rfl) ?_
            refine m_getr S hK fk_X12_19 (gr_10_5 G 0) hW (ci_10 (Nat.le_of_ble_eq_true rfl)) dX12_beside_122 ?_
            refine lv_iload hx hb dX12_beside_125 (lv_at hl 7 rfl) ?_
            obtain ⟨hb127, h⟩ := h
            refine m_ald S hK (ar_47 G) hW (ci_47 (Nat.le_of_ble_eq_true rfl)) hb127 dX12_beside_127 ?_
            refine lv_icmp_ne (tgt := 135) hx hb dX12_beside_128 (by decide) (fun c128 => ?_) (fun c128 => ?_)
            · replace h := h.1 c128
              refine lv_iconst hx hb dX12_beside_135 ki_0 ?_
              exact b136 _ _ _ _ _ H locs ls hW hS (lv_sub hl [0, 1, 2, 3, 4, 5, 6, 7] rfl) h
            · replace h := h.2 c128
              refine lv_iconst hx hb dX12_beside_131 ki_1 ?_
              refine lv_goto (tgt := 136) hx hb dX12_beside_132 (by decide) ?_
              exact b136 _ _ _ _ _ H locs ls hW hS (lv_sub hl [0, 1, 2, 3, 4, 5, 6, 7] rfl) h
    unfold s_X12_beside_68 at h
    refine lv_iload hx hb dX12_beside_68 (lv_at hl 6 rfl) ?_
    refine lv_aload_n hx hb dX12_beside_70 rfl (lv_at hl 0 rfl) ?_
    refine m_getr S hK fk_X12_7 (gr_10_1 G 0) hW (ci_10 (Nat.le_of_ble_eq_true rfl)) dX12_beside_71 ?_
    refine lv_iconst hx hb dX12_beside_74 ki_0 ?_
    refine m_aldk S hK (ar_44 G) hW (ci_44 (Nat.le_of_ble_eq_true rfl)) kn_0 (Nat.le_of_ble_eq_true rfl) dX12_beside_75 ?_
    refine lv_icmp_ge (tgt := 227) hx hb dX12_beside_76 (by decide) (fun c76 => ?_) (fun c76 => ?_)
    · replace h := h.1 c76
      refine lv_iload_n hx hb dX12_beside_227 rfl (lv_at hl 3 rfl) ?_
      refine lv_if_ne (tgt := 236) hx hb dX12_beside_228 (by decide) (fun c228 => ?_) (fun c228 => ?_)
      · replace h := h.1 c228
        refine lv_iload hx hb dX12_beside_236 (lv_at hl 5 rfl) ?_
        exact m_iret S hret hlocks hK hW hbs hS rfl h dX12_beside_238
      · replace h := h.2 c228
        refine lv_iload hx hb dX12_beside_231 (lv_at hl 4 rfl) ?_
        refine lv_goto (tgt := 238) hx hb dX12_beside_233 (by decide) ?_
        exact m_iret S hret hlocks hK hW hbs hS rfl h dX12_beside_238
    · replace h := h.2 c76
      refine lv_iconst hx hb dX12_beside_79 ki_0 ?_
      refine lv_istore (lv' := [(8, .int (0 : Int32)), (0, .ref (ad G 10 0)), (1, .int x1), (2, .int x2), (3, .int x3), (5, .int x5), (6, .int x6), (7, .int x7)]) hx hb dX12_beside_80 hl (by decide) rfl (fun ls hl => ?_)
      obtain ⟨n82, h⟩ := h
      exact w82 _ n82 _ h H locs ls hW hS (lv_sub hl [1, 2, 3, 4, 5, 6, 7, 0] rfl)
  unfold s_X12_beside at h
  refine lv_aload_n hx hb dX12_beside_0 rfl (lv_at hl 0 rfl) ?_
  refine lv_iconst hx hb dX12_beside_1 ki_0 ?_
  refine m_put S hK fk_X12_128 tyX12_ok nmX12 rfl pf_X12_0 (pv_10_0 G) hW hS (ci_10 (Nat.le_of_ble_eq_true rfl)) rfl rfl dX12_beside_2 (fun Mm2 eMm2 H locs hW hS => ?_)
  replace h := h Mm2 eMm2
  refine lv_iload_n hx hb dX12_beside_5 rfl (lv_at hl 1 rfl) ?_
  refine lv_iconst hx hb dX12_beside_6 ki_0 ?_
  refine lv_bipush hx hb dX12_beside_7 kb_7 ?_
  refine m_ci0 (m_rS S hK hW (m_szH hbs hS) (c_X12_in l ) h lk_X12_131 rfl hl.1 rfl ⟨Nat.le_of_ble_eq_true rfl, Nat.le_of_ble_eq_true rfl⟩ (Nat.le_of_ble_eq_true rfl) ⟨Nat.zero_le _, Nat.zero_le _⟩ dX12_beside_9) hS rfl rfl (fun rr9 Mm9 H locs h hW hS => ?_)
  refine lv_if_eq (tgt := 35) hx hb dX12_beside_12 (by decide) (fun c12 => ?_) (fun c12 => ?_)
  · replace h := h.1 c12
    refine lv_ldcw hx hb hown (hts _ mw_1527) dX12_beside_35 ?_
    exact m_iret S hret hlocks hK hW hbs hS rfl h dX12_beside_38
  · replace h := h.2 c12
    refine lv_iload_n hx hb dX12_beside_15 rfl (lv_at hl 2 rfl) ?_
    refine lv_iconst hx hb dX12_beside_16 ki_0 ?_
    refine lv_sipush hx hb dX12_beside_17 ks_600 ?_
    refine m_ci0 (m_rS S hK hW (m_szH hbs hS) (c_X12_in l ) h lk_X12_131 rfl hl.1 rfl ⟨Nat.le_of_ble_eq_true rfl, Nat.le_of_ble_eq_true rfl⟩ (Nat.le_of_ble_eq_true rfl) ⟨Nat.zero_le _, Nat.zero_le _⟩ dX12_beside_20) hS rfl rfl (fun rr20 Mm20 H locs h hW hS => ?_)
    refine lv_if_eq (tgt := 35) hx hb dX12_beside_23 (by decide) (fun c23 => ?_) (fun c23 => ?_)
    · replace h := h.1 c23
      refine lv_ldcw hx hb hown (hts _ mw_1527) dX12_beside_35 ?_
      exact m_iret S hret hlocks hK hW hbs hS rfl h dX12_beside_38
    · replace h := h.2 c23
      refine lv_iload_n hx hb dX12_beside_26 rfl (lv_at hl 3 rfl) ?_
      refine lv_iconst hx hb dX12_beside_27 ki_0 ?_
      refine lv_iconst hx hb dX12_beside_28 ki_1 ?_
      refine m_ci0 (m_rS S hK hW (m_szH hbs hS) (c_X12_in l ) h lk_X12_131 rfl hl.1 rfl ⟨Nat.le_of_ble_eq_true rfl, Nat.le_of_ble_eq_true rfl⟩ (Nat.le_of_ble_eq_true rfl) ⟨Nat.zero_le _, Nat.zero_le _⟩ dX12_beside_29) hS rfl rfl (fun rr29 Mm29 H locs h hW hS => ?_)
      refine lv_if_ne (tgt := 39) hx hb dX12_beside_32 (by decide) (fun c32 => ?_) (fun c32 => ?_)
      · replace h := h.1 c32
        refine lv_aload_n hx hb dX12_beside_39 rfl (lv_at hl 0 rfl) ?_
        refine lv_iload_n hx hb dX12_beside_40 rfl (lv_at hl 1 rfl) ?_
        refine lv_iconst hx hb dX12_beside_41 ki_0 ?_
        refine m_ci0 (m_rV S hK hW (m_szH hbs hS) (c_X12_lacks l ) h lk_X12_245 (m_recv hK hW (ci_10 (Nat.le_of_ble_eq_true rfl)) (rc_10 G) rfl) rfl hl.1 rfl ⟨Nat.le_of_ble_eq_true rfl, Nat.le_of_ble_eq_true rfl⟩ (Nat.le_of_ble_eq_true rfl) ⟨Nat.zero_le _, Nat.zero_le _⟩ dX12_beside_42) hS rfl rfl (fun rr42 Mm42 H locs h hW hS => ?_)
        refine lv_istore (lv' := [(4, .int rr42), (0, .ref (ad G 10 0)), (1, .int x1), (2, .int x2), (3, .int x3)]) hx hb dX12_beside_45 hl (by decide) rfl (fun ls hl => ?_)
        refine lv_iload hx hb dX12_beside_47 (lv_at hl 0 rfl) ?_
        refine lv_if_ge (tgt := 59) hx hb dX12_beside_49 (by decide) (fun c49 => ?_) (fun c49 => ?_)
        · replace h := h.1 c49
          refine lv_iconst hx hb dX12_beside_59 ki_0 ?_
          refine lv_istore (lv' := [(5, .int (0 : Int32)), (4, .int rr42), (0, .ref (ad G 10 0)), (1, .int x1), (2, .int x2), (3, .int x3)]) hx hb dX12_beside_60 hl (by decide) rfl (fun ls hl => ?_)
          refine lv_iconst hx hb dX12_beside_62 ki_0 ?_
          refine lv_istore (lv' := [(6, .int (0 : Int32)), (5, .int (0 : Int32)), (4, .int rr42), (0, .ref (ad G 10 0)), (1, .int x1), (2, .int x2), (3, .int x3)]) hx hb dX12_beside_63 hl (by decide) rfl (fun ls hl => ?_)
          refine lv_iconst hx hb dX12_beside_65 ki_0 ?_
          refine lv_istore (lv' := [(7, .int (0 : Int32)), (6, .int (0 : Int32)), (5, .int (0 : Int32)), (4, .int rr42), (0, .ref (ad G 10 0)), (1, .int x1), (2, .int x2), (3, .int x3)]) hx hb dX12_beside_66 hl (by decide) rfl (fun ls hl => ?_)
          obtain ⟨n68, h⟩ := h
          exact w68 n68 _ h H locs ls hW hS (lv_sub hl [4, 5, 6, 7, 2, 1, 0] rfl)
        · replace h := h.2 c49
          refine lv_ldcw hx hb hown (hts _ mw_1588) dX12_beside_52 ?_
          refine lv_iload hx hb dX12_beside_55 (lv_at hl 0 rfl) ?_
          refine lv_iadd hx hb dX12_beside_57 ?_
          exact m_iret S hret hlocks hK hW hbs hS rfl h dX12_beside_58
      · replace h := h.2 c32
        refine lv_ldcw hx hb hown (hts _ mw_1527) dX12_beside_35 ?_
        exact m_iret S hret hlocks hK hW hbs hS rfl h dX12_beside_38
def s_X12_image_12 (P : Int32 → Mem → Prop) (K12 : Mem × Int32 → Prop) (M : Mem) (x1 : Int32) : Prop :=
  ((320 : Int32) ≤ x1 → P (M.1 44 0 3) M) ∧ (¬ (320 : Int32) ≤ x1 → vp_in x1 320 ∧ (vp_in x1 320 ∧ (∀ Mm30 : Mem, Mm30 = wI M 45 0 (x1.toNatClampNeg) (M.1 44 0 x1.toNatClampNeg) → ∀ x1_31 : Int32, x1_31 = x1 + (1 : Int32) → K12 (Mm30, x1_31))))
def s_X12_image (M : Mem) (P : Int32 → Mem → Prop) : Prop :=
  ∀ Mm2 : Mem, Mm2 = wI M 10 0 0 (0 : Int32) → ∀ Mm7 : Mem, Mm7 = wI Mm2 10 0 4 (1 : Int32) → ∃ n, Lz (fun (K12 : Mem × Int32 → Prop) (a : Mem × Int32) => s_X12_image_12 P K12 a.1 a.2) n (Mm7, (0 : Int32))
abbrev rm_X12_image : Room := { frames := 0, cells := 0, slots := 0, locals := 0 }
set_option maxHeartbeats 4000000 in
set_option maxRecDepth 100000 in
theorem c_X12_image (l : Launch) {G : Gn} {M : Mem} {P : Int32 → Mem → Prop} : MQi l yX12_image cX12_image 2 (some .int) rm_X12_image [.ref (ad G 10 0)] G M (s_X12_image M P) P := by
  refine m_enter (by decide +kernel) (Nat.le_of_ble_eq_true rfl) ?_
  intro p e s m below meth c ls H locs S hret hlocks hname hK hbs hW hS hl h
  obtain ⟨AV, hAV⟩ : ∃ z : Array Value, z = ([.ref (ad G 10 0)] : List Value).toArray := ⟨_, rfl⟩
  rw [← hAV] at S ⊢
  replace S : CallFix p m c cX12_image 2 s AV lw_G "MilkDeskModel" := S
  have hx := S.1
  have hb := S.2.1
  have hml := S.2.2.1
  have hown := S.2.2.2.1
  have hts := S.2.2.2.2
  replace hl : lv_has ls 2 [(0, .ref (ad G 10 0))] := hl
  have w12 : ∀ (n : Nat) (a : Mem × Int32), Lz (fun (K12 : Mem × Int32 → Prop) (a : Mem × Int32) => s_X12_image_12 P K12 a.1 a.2) n a → ∀ (H : Heap) (locs : List Loc) (ls : Array Slot), WPm G a.1 H → va_S (fun q => bs G ≤ q) s.heap H locs → lv_has ls 2 [(0, .ref (ad G 10 0)), (1, .int a.2)] → W p l e rm_X12_image s m AV below meth c H locs 0 0 (MQ below (va_Qi P (WS G) (fun q => bs G ≤ q)) AV s 0 0 (fun q => bs G ≤ q)) (F0 m 12 ls []) := by
    refine Lz_walk ?_
    rintro K12 kk12 ⟨M, x1⟩ h H locs ls hW hS hl
    replace h : s_X12_image_12 P K12 M x1 := h
    replace hW : WPm G M H := hW
    replace hl : lv_has ls 2 [(0, .ref (ad G 10 0)), (1, .int x1)] := hl
    unfold s_X12_image_12 at h
    refine lv_iload_n hx hb dX12_image_12 rfl (lv_at hl 1 rfl) ?_
    refine lv_sipush hx hb dX12_image_13 ks_320 ?_
    refine lv_icmp_ge (tgt := 37) hx hb dX12_image_16 (by decide) (fun c16 => ?_) (fun c16 => ?_)
    · replace h := h.1 c16
      refine lv_aload_n hx hb dX12_image_37 rfl (lv_at hl 0 rfl) ?_
      refine m_getr S hK fk_X12_7 (gr_10_1 G 0) hW (ci_10 (Nat.le_of_ble_eq_true rfl)) dX12_image_38 ?_
      refine lv_iconst hx hb dX12_image_41 ki_3 ?_
      refine m_aldk S hK (ar_44 G) hW (ci_44 (Nat.le_of_ble_eq_true rfl)) kn_3 (Nat.le_of_ble_eq_true rfl) dX12_image_42 ?_
      exact m_iret S hret hlocks hK hW hbs hS rfl h dX12_image_43
    · replace h := h.2 c16
      refine lv_aload_n hx hb dX12_image_19 rfl (lv_at hl 0 rfl) ?_
      refine m_getr S hK fk_X12_13 (gr_10_2 G 0) hW (ci_10 (Nat.le_of_ble_eq_true rfl)) dX12_image_20 ?_
      refine lv_iload_n hx hb dX12_image_23 rfl (lv_at hl 1 rfl) ?_
      refine lv_aload_n hx hb dX12_image_24 rfl (lv_at hl 0 rfl) ?_
      refine m_getr S hK fk_X12_7 (gr_10_1 G 0) hW (ci_10 (Nat.le_of_ble_eq_true rfl)) dX12_image_25 ?_
      refine lv_iload_n hx hb dX12_image_28 rfl (lv_at hl 1 rfl) ?_
      obtain ⟨hb29, h⟩ := h
      refine m_ald S hK (ar_44 G) hW (ci_44 (Nat.le_of_ble_eq_true rfl)) hb29 dX12_image_29 ?_
      obtain ⟨hb30, h⟩ := h
      refine m_ast S hK (ar_45 G) hW hS (ci_45 (Nat.le_of_ble_eq_true rfl)) hb30 dX12_image_30 (fun Mm30 eMm30 H locs hW hS => ?_)
      replace h := h Mm30 eMm30
      obtain ⟨x1_31, ex1_31⟩ : ∃ z : Int32, z = x1 + (1 : Int32) := ⟨_, rfl⟩
      replace h := h x1_31 ex1_31
      refine lv_iinc (v := x1_31) (lv' := [(1, .int x1_31), (0, .ref (ad G 10 0))]) hx hb dX12_image_31 hl (k := 1) rfl (by rw [ex1_31, ki_1]) (by decide) rfl (fun ls hl => ?_)
      refine lv_goto (tgt := 12) hx hb dX12_image_34 (by decide) ?_
      exact kk12 _ h H locs ls hW hS (lv_sub hl [1, 0] rfl)
  unfold s_X12_image at h
  refine lv_aload_n hx hb dX12_image_0 rfl (lv_at hl 0 rfl) ?_
  refine lv_iconst hx hb dX12_image_1 ki_0 ?_
  refine m_put S hK fk_X12_128 tyX12_ok nmX12 rfl pf_X12_0 (pv_10_0 G) hW hS (ci_10 (Nat.le_of_ble_eq_true rfl)) rfl rfl dX12_image_2 (fun Mm2 eMm2 H locs hW hS => ?_)
  replace h := h Mm2 eMm2
  refine lv_aload_n hx hb dX12_image_5 rfl (lv_at hl 0 rfl) ?_
  refine lv_iconst hx hb dX12_image_6 ki_1 ?_
  refine m_put S hK fk_X12_335 tyX12_ok nmX12 rfl pf_X12_4 (pv_10_4 G) hW hS (ci_10 (Nat.le_of_ble_eq_true rfl)) (isB_n isB_1) (isB_f isB_1) dX12_image_7 (fun Mm7 eMm7 H locs hW hS => ?_)
  replace h := h Mm7 eMm7
  refine lv_iconst hx hb dX12_image_10 ki_0 ?_
  refine lv_istore_n (lv' := [(1, .int (0 : Int32)), (0, .ref (ad G 10 0))]) hx hb dX12_image_11 rfl hl (by decide) rfl (fun ls hl => ?_)
  obtain ⟨n12, h⟩ := h
  exact w12 n12 _ h H locs ls hW hS (lv_sub hl [1, 0] rfl)
def s_X12_restore_17 (P : Int32 → Mem → Prop) (K17 : Mem × Int32 → Prop) (M : Mem) (x1 : Int32) : Prop :=
  ((320 : Int32) ≤ x1 → ∀ Mm44 : Mem, Mm44 = wI M 10 0 37 (-1 : Int32) → P (Mm44.1 44 0 3) Mm44) ∧ (¬ (320 : Int32) ≤ x1 → vp_in x1 320 ∧ (vp_in x1 320 ∧ (∀ Mm35 : Mem, Mm35 = wI M 44 0 (x1.toNatClampNeg) (M.1 45 0 x1.toNatClampNeg) → ∀ x1_36 : Int32, x1_36 = x1 + (1 : Int32) → K17 (Mm35, x1_36))))
def s_X12_restore (M : Mem) (P : Int32 → Mem → Prop) : Prop :=
  ∀ Mm2 : Mem, Mm2 = wI M 10 0 0 (0 : Int32) → (¬ (Mm2.1 10 0 4) = 0 → ∃ n, Lz (fun (K17 : Mem × Int32 → Prop) (a : Mem × Int32) => s_X12_restore_17 P K17 a.1 a.2) n (Mm2, (0 : Int32))) ∧ ((Mm2.1 10 0 4) = 0 → P (-3 : Int32) Mm2)
abbrev rm_X12_restore : Room := { frames := 0, cells := 0, slots := 0, locals := 0 }
set_option maxHeartbeats 4000000 in
set_option maxRecDepth 100000 in
theorem c_X12_restore (l : Launch) {G : Gn} {M : Mem} {P : Int32 → Mem → Prop} : MQi l yX12_restore cX12_restore 2 (some .int) rm_X12_restore [.ref (ad G 10 0)] G M (s_X12_restore M P) P := by
  refine m_enter (by decide +kernel) (Nat.le_of_ble_eq_true rfl) ?_
  intro p e s m below meth c ls H locs S hret hlocks hname hK hbs hW hS hl h
  obtain ⟨AV, hAV⟩ : ∃ z : Array Value, z = ([.ref (ad G 10 0)] : List Value).toArray := ⟨_, rfl⟩
  rw [← hAV] at S ⊢
  replace S : CallFix p m c cX12_restore 2 s AV lw_G "MilkDeskModel" := S
  have hx := S.1
  have hb := S.2.1
  have hml := S.2.2.1
  have hown := S.2.2.2.1
  have hts := S.2.2.2.2
  replace hl : lv_has ls 2 [(0, .ref (ad G 10 0))] := hl
  have w17 : ∀ (n : Nat) (a : Mem × Int32), Lz (fun (K17 : Mem × Int32 → Prop) (a : Mem × Int32) => s_X12_restore_17 P K17 a.1 a.2) n a → ∀ (H : Heap) (locs : List Loc) (ls : Array Slot), WPm G a.1 H → va_S (fun q => bs G ≤ q) s.heap H locs → lv_has ls 2 [(0, .ref (ad G 10 0)), (1, .int a.2)] → W p l e rm_X12_restore s m AV below meth c H locs 0 0 (MQ below (va_Qi P (WS G) (fun q => bs G ≤ q)) AV s 0 0 (fun q => bs G ≤ q)) (F0 m 17 ls []) := by
    refine Lz_walk ?_
    rintro K17 kk17 ⟨M, x1⟩ h H locs ls hW hS hl
    replace h : s_X12_restore_17 P K17 M x1 := h
    replace hW : WPm G M H := hW
    replace hl : lv_has ls 2 [(0, .ref (ad G 10 0)), (1, .int x1)] := hl
    unfold s_X12_restore_17 at h
    refine lv_iload_n hx hb dX12_restore_17 rfl (lv_at hl 1 rfl) ?_
    refine lv_sipush hx hb dX12_restore_18 ks_320 ?_
    refine lv_icmp_ge (tgt := 42) hx hb dX12_restore_21 (by decide) (fun c21 => ?_) (fun c21 => ?_)
    · replace h := h.1 c21
      refine lv_aload_n hx hb dX12_restore_42 rfl (lv_at hl 0 rfl) ?_
      refine lv_iconst hx hb dX12_restore_43 ki_m1 ?_
      refine m_put S hK fk_X12_84 tyX12_ok nmX12 rfl pf_X12_37 (pv_10_37 G) hW hS (ci_10 (Nat.le_of_ble_eq_true rfl)) rfl rfl dX12_restore_44 (fun Mm44 eMm44 H locs hW hS => ?_)
      replace h := h Mm44 eMm44
      refine lv_aload_n hx hb dX12_restore_47 rfl (lv_at hl 0 rfl) ?_
      refine m_getr S hK fk_X12_7 (gr_10_1 G 0) hW (ci_10 (Nat.le_of_ble_eq_true rfl)) dX12_restore_48 ?_
      refine lv_iconst hx hb dX12_restore_51 ki_3 ?_
      refine m_aldk S hK (ar_44 G) hW (ci_44 (Nat.le_of_ble_eq_true rfl)) kn_3 (Nat.le_of_ble_eq_true rfl) dX12_restore_52 ?_
      exact m_iret S hret hlocks hK hW hbs hS rfl h dX12_restore_53
    · replace h := h.2 c21
      refine lv_aload_n hx hb dX12_restore_24 rfl (lv_at hl 0 rfl) ?_
      refine m_getr S hK fk_X12_7 (gr_10_1 G 0) hW (ci_10 (Nat.le_of_ble_eq_true rfl)) dX12_restore_25 ?_
      refine lv_iload_n hx hb dX12_restore_28 rfl (lv_at hl 1 rfl) ?_
      refine lv_aload_n hx hb dX12_restore_29 rfl (lv_at hl 0 rfl) ?_
      refine m_getr S hK fk_X12_13 (gr_10_2 G 0) hW (ci_10 (Nat.le_of_ble_eq_true rfl)) dX12_restore_30 ?_
      refine lv_iload_n hx hb dX12_restore_33 rfl (lv_at hl 1 rfl) ?_
      obtain ⟨hb34, h⟩ := h
      refine m_ald S hK (ar_45 G) hW (ci_45 (Nat.le_of_ble_eq_true rfl)) hb34 dX12_restore_34 ?_
      obtain ⟨hb35, h⟩ := h
      refine m_ast S hK (ar_44 G) hW hS (ci_44 (Nat.le_of_ble_eq_true rfl)) hb35 dX12_restore_35 (fun Mm35 eMm35 H locs hW hS => ?_)
      replace h := h Mm35 eMm35
      obtain ⟨x1_36, ex1_36⟩ : ∃ z : Int32, z = x1 + (1 : Int32) := ⟨_, rfl⟩
      replace h := h x1_36 ex1_36
      refine lv_iinc (v := x1_36) (lv' := [(1, .int x1_36), (0, .ref (ad G 10 0))]) hx hb dX12_restore_36 hl (k := 1) rfl (by rw [ex1_36, ki_1]) (by decide) rfl (fun ls hl => ?_)
      refine lv_goto (tgt := 17) hx hb dX12_restore_39 (by decide) ?_
      exact kk17 _ h H locs ls hW hS (lv_sub hl [1, 0] rfl)
  unfold s_X12_restore at h
  refine lv_aload_n hx hb dX12_restore_0 rfl (lv_at hl 0 rfl) ?_
  refine lv_iconst hx hb dX12_restore_1 ki_0 ?_
  refine m_put S hK fk_X12_128 tyX12_ok nmX12 rfl pf_X12_0 (pv_10_0 G) hW hS (ci_10 (Nat.le_of_ble_eq_true rfl)) rfl rfl dX12_restore_2 (fun Mm2 eMm2 H locs hW hS => ?_)
  replace h := h Mm2 eMm2
  refine lv_aload_n hx hb dX12_restore_5 rfl (lv_at hl 0 rfl) ?_
  refine m_geti S hK fk_X12_335 (gi_10_4 G) hW (ci_10 (Nat.le_of_ble_eq_true rfl)) dX12_restore_6 ?_
  refine lv_if_ne (tgt := 15) hx hb dX12_restore_9 (by decide) (fun c9 => ?_) (fun c9 => ?_)
  · replace h := h.1 c9
    refine lv_iconst hx hb dX12_restore_15 ki_0 ?_
    refine lv_istore_n (lv' := [(1, .int (0 : Int32)), (0, .ref (ad G 10 0))]) hx hb dX12_restore_16 rfl hl (by decide) rfl (fun ls hl => ?_)
    obtain ⟨n17, h⟩ := h
    exact w17 n17 _ h H locs ls hW hS (lv_sub hl [1, 0] rfl)
  · replace h := h.2 c9
    refine lv_bipush hx hb dX12_restore_12 kb_m3 ?_
    exact m_iret S hret hlocks hK hW hbs hS rfl h dX12_restore_14
def s_X12_allOf_4 (x1 : Int32) (P : Int32 → Mem → Prop) (K4 : Mem × Int32 × Int32 → Prop) (M : Mem) (x2 : Int32) (x3 : Int32) : Prop :=
  ((M.1 44 0 0) ≤ x3 → P x2 M) ∧ (¬ (M.1 44 0 0) ≤ x3 → vp_in (((180 : Int32) + ((11 : Int32) * x3)) + x1) 320 ∧ (∀ x2_31 : Int32, x2_31 = (x2 + (M.1 44 0 (((180 : Int32) + ((11 : Int32) * x3)) + x1).toNatClampNeg)) → ∀ x3_32 : Int32, x3_32 = x3 + (1 : Int32) → K4 (M, x2_31, x3_32)))
def s_X12_allOf (M : Mem) (x1 : Int32) (P : Int32 → Mem → Prop) : Prop :=
  ∃ n, Lz (fun (K4 : Mem × Int32 × Int32 → Prop) (a : Mem × Int32 × Int32) => s_X12_allOf_4 x1 P K4 a.1 a.2.1 a.2.2) n (M, (0 : Int32), (0 : Int32))
abbrev rm_X12_allOf : Room := { frames := 0, cells := 0, slots := 0, locals := 0 }
set_option maxHeartbeats 4000000 in
set_option maxRecDepth 100000 in
theorem c_X12_allOf (l : Launch) {G : Gn} {M : Mem} {x1 : Int32} {P : Int32 → Mem → Prop} : MQi l yX12_allOf cX12_allOf 4 (some .int) rm_X12_allOf [.ref (ad G 10 0), .int x1] G M (s_X12_allOf M x1 P) P := by
  refine m_enter (by decide +kernel) (Nat.le_of_ble_eq_true rfl) ?_
  intro p e s m below meth c ls H locs S hret hlocks hname hK hbs hW hS hl h
  obtain ⟨AV, hAV⟩ : ∃ z : Array Value, z = ([.ref (ad G 10 0), .int x1] : List Value).toArray := ⟨_, rfl⟩
  rw [← hAV] at S ⊢
  replace S : CallFix p m c cX12_allOf 4 s AV lw_G "MilkDeskModel" := S
  have hx := S.1
  have hb := S.2.1
  have hml := S.2.2.1
  have hown := S.2.2.2.1
  have hts := S.2.2.2.2
  replace hl : lv_has ls 4 [(0, .ref (ad G 10 0)), (1, .int x1)] := hl
  have w4 : ∀ (n : Nat) (a : Mem × Int32 × Int32), Lz (fun (K4 : Mem × Int32 × Int32 → Prop) (a : Mem × Int32 × Int32) => s_X12_allOf_4 x1 P K4 a.1 a.2.1 a.2.2) n a → ∀ (H : Heap) (locs : List Loc) (ls : Array Slot), WPm G a.1 H → va_S (fun q => bs G ≤ q) s.heap H locs → lv_has ls 4 [(0, .ref (ad G 10 0)), (1, .int x1), (2, .int a.2.1), (3, .int a.2.2)] → W p l e rm_X12_allOf s m AV below meth c H locs 0 0 (MQ below (va_Qi P (WS G) (fun q => bs G ≤ q)) AV s 0 0 (fun q => bs G ≤ q)) (F0 m 4 ls []) := by
    refine Lz_walk ?_
    rintro K4 kk4 ⟨M, x2, x3⟩ h H locs ls hW hS hl
    replace h : s_X12_allOf_4 x1 P K4 M x2 x3 := h
    replace hW : WPm G M H := hW
    replace hl : lv_has ls 4 [(0, .ref (ad G 10 0)), (1, .int x1), (2, .int x2), (3, .int x3)] := hl
    unfold s_X12_allOf_4 at h
    refine lv_iload_n hx hb dX12_allOf_4 rfl (lv_at hl 3 rfl) ?_
    refine lv_aload_n hx hb dX12_allOf_5 rfl (lv_at hl 0 rfl) ?_
    refine m_getr S hK fk_X12_7 (gr_10_1 G 0) hW (ci_10 (Nat.le_of_ble_eq_true rfl)) dX12_allOf_6 ?_
    refine lv_iconst hx hb dX12_allOf_9 ki_0 ?_
    refine m_aldk S hK (ar_44 G) hW (ci_44 (Nat.le_of_ble_eq_true rfl)) kn_0 (Nat.le_of_ble_eq_true rfl) dX12_allOf_10 ?_
    refine lv_icmp_ge (tgt := 38) hx hb dX12_allOf_11 (by decide) (fun c11 => ?_) (fun c11 => ?_)
    · replace h := h.1 c11
      refine lv_iload_n hx hb dX12_allOf_38 rfl (lv_at hl 2 rfl) ?_
      exact m_iret S hret hlocks hK hW hbs hS rfl h dX12_allOf_39
    · replace h := h.2 c11
      refine lv_iload_n hx hb dX12_allOf_14 rfl (lv_at hl 2 rfl) ?_
      refine lv_aload_n hx hb dX12_allOf_15 rfl (lv_at hl 0 rfl) ?_
      refine m_getr S hK fk_X12_7 (gr_10_1 G 0) hW (ci_10 (Nat.le_of_ble_eq_true rfl)) dX12_allOf_16 ?_
      refine lv_sipush hx hb dX12_allOf_19 ks_180 ?_
      refine lv_bipush hx hb dX12_allOf_22 kb_11 ?_
      refine lv_iload_n hx hb dX12_allOf_24 rfl (lv_at hl 3 rfl) ?_
      refine lv_imul hx hb dX12_allOf_25 ?_
      refine lv_iadd hx hb dX12_allOf_26 ?_
      refine lv_iload_n hx hb dX12_allOf_27 rfl (lv_at hl 1 rfl) ?_
      refine lv_iadd hx hb dX12_allOf_28 ?_
      obtain ⟨hb29, h⟩ := h
      refine m_ald S hK (ar_44 G) hW (ci_44 (Nat.le_of_ble_eq_true rfl)) hb29 dX12_allOf_29 ?_
      refine lv_iadd hx hb dX12_allOf_30 ?_
      refine lv_topi (fun x2_31 ex2_31 => ?_)
      replace h := h x2_31 ex2_31
      refine lv_istore_n (lv' := [(2, .int x2_31), (0, .ref (ad G 10 0)), (1, .int x1), (3, .int x3)]) hx hb dX12_allOf_31 rfl hl (by decide) rfl (fun ls hl => ?_)
      obtain ⟨x3_32, ex3_32⟩ : ∃ z : Int32, z = x3 + (1 : Int32) := ⟨_, rfl⟩
      replace h := h x3_32 ex3_32
      refine lv_iinc (v := x3_32) (lv' := [(3, .int x3_32), (2, .int x2_31), (0, .ref (ad G 10 0)), (1, .int x1)]) hx hb dX12_allOf_32 hl (k := 3) rfl (by rw [ex3_32, ki_1]) (by decide) rfl (fun ls hl => ?_)
      refine lv_goto (tgt := 4) hx hb dX12_allOf_35 (by decide) ?_
      exact kk4 _ h H locs ls hW hS (lv_sub hl [2, 3, 1, 0] rfl)
  unfold s_X12_allOf at h
  refine lv_iconst hx hb dX12_allOf_0 ki_0 ?_
  refine lv_istore_n (lv' := [(2, .int (0 : Int32)), (0, .ref (ad G 10 0)), (1, .int x1)]) hx hb dX12_allOf_1 rfl hl (by decide) rfl (fun ls hl => ?_)
  refine lv_iconst hx hb dX12_allOf_2 ki_0 ?_
  refine lv_istore_n (lv' := [(3, .int (0 : Int32)), (2, .int (0 : Int32)), (0, .ref (ad G 10 0)), (1, .int x1)]) hx hb dX12_allOf_3 rfl hl (by decide) rfl (fun ls hl => ?_)
  obtain ⟨n4, h⟩ := h
  exact w4 n4 _ h H locs ls hW hS (lv_sub hl [2, 3, 1, 0] rfl)
def s_X12_count_97 (P : Int32 → Mem → Prop) (K97 : Mem × Int32 × Int32 → Prop) (M : Mem) (x2 : Int32) (x3 : Int32) : Prop :=
  ((M.1 44 0 1) ≤ x3 → P x2 M) ∧ (¬ (M.1 44 0 1) ≤ x3 → vp_in ((70 : Int32) + x3) 320 ∧ (∀ x2_118 : Int32, x2_118 = (x2 + (M.1 44 0 ((70 : Int32) + x3).toNatClampNeg)) → ∀ x3_119 : Int32, x3_119 = x3 + (1 : Int32) → K97 (M, x2_118, x3_119)))
def s_X12_count (M : Mem) (x1 : Int32) (P : Int32 → Mem → Prop) : Prop :=
  ∀ Mm2 : Mem, Mm2 = wI M 10 0 0 (0 : Int32) → (x1 = (0 : Int32) → P (Mm2.1 44 0 0) Mm2) ∧ ((x1 = (1 : Int32) → P (Mm2.1 44 0 1) Mm2) ∧ ((x1 = (2 : Int32) → P (Mm2.1 44 0 2) Mm2) ∧ ((x1 = (3 : Int32) → P (Mm2.1 44 0 3) Mm2) ∧ ((x1 = (4 : Int32) → P (Mm2.1 44 0 4) Mm2) ∧ ((x1 = (5 : Int32) → ∃ n, Lz (fun (K97 : Mem × Int32 × Int32 → Prop) (a : Mem × Int32 × Int32) => s_X12_count_97 P K97 a.1 a.2.1 a.2.2) n (Mm2, (0 : Int32), (0 : Int32))) ∧ ((x1 = (6 : Int32) → s_X12_allOf Mm2 (8 : Int32) (fun rr130 Mm130 => P rr130 Mm130)) ∧ ((x1 = (7 : Int32) → s_X12_allOf Mm2 (3 : Int32) (fun rr136 Mm136 => P rr136 Mm136)) ∧ ((x1 = (8 : Int32) → P (Mm2.1 44 0 5) Mm2) ∧ ((¬ x1 = (0 : Int32) → ¬ x1 = (1 : Int32) → ¬ x1 = (2 : Int32) → ¬ x1 = (3 : Int32) → ¬ x1 = (4 : Int32) → ¬ x1 = (5 : Int32) → ¬ x1 = (6 : Int32) → ¬ x1 = (7 : Int32) → ¬ x1 = (8 : Int32) → P (-1 : Int32) Mm2))))))))))
abbrev rm_X12_count : Room := { frames := 1, cells := 0, slots := 0, locals := 23 }
set_option maxHeartbeats 4000000 in
set_option maxRecDepth 100000 in
theorem c_X12_count (l : Launch) {G : Gn} {M : Mem} {x1 : Int32} {P : Int32 → Mem → Prop} : MQi l yX12_count cX12_count 4 (some .int) rm_X12_count [.ref (ad G 10 0), .int x1] G M (s_X12_count M x1 P) P := by
  refine m_enter (by decide +kernel) (Nat.le_of_ble_eq_true rfl) ?_
  intro p e s m below meth c ls H locs S hret hlocks hname hK hbs hW hS hl h
  obtain ⟨AV, hAV⟩ : ∃ z : Array Value, z = ([.ref (ad G 10 0), .int x1] : List Value).toArray := ⟨_, rfl⟩
  rw [← hAV] at S ⊢
  replace S : CallFix p m c cX12_count 4 s AV lw_G "MilkDeskModel" := S
  have hx := S.1
  have hb := S.2.1
  have hml := S.2.2.1
  have hown := S.2.2.2.1
  have hts := S.2.2.2.2
  replace hl : lv_has ls 4 [(0, .ref (ad G 10 0)), (1, .int x1)] := hl
  have w97 : ∀ (n : Nat) (a : Mem × Int32 × Int32), Lz (fun (K97 : Mem × Int32 × Int32 → Prop) (a : Mem × Int32 × Int32) => s_X12_count_97 P K97 a.1 a.2.1 a.2.2) n a → ∀ (H : Heap) (locs : List Loc) (ls : Array Slot), WPm G a.1 H → va_S (fun q => bs G ≤ q) s.heap H locs → lv_has ls 4 [(0, .ref (ad G 10 0)), (2, .int a.2.1), (3, .int a.2.2)] → W p l e rm_X12_count s m AV below meth c H locs 0 0 (MQ below (va_Qi P (WS G) (fun q => bs G ≤ q)) AV s 0 0 (fun q => bs G ≤ q)) (F0 m 97 ls []) := by
    refine Lz_walk ?_
    rintro K97 kk97 ⟨M, x2, x3⟩ h H locs ls hW hS hl
    replace h : s_X12_count_97 P K97 M x2 x3 := h
    replace hW : WPm G M H := hW
    replace hl : lv_has ls 4 [(0, .ref (ad G 10 0)), (2, .int x2), (3, .int x3)] := hl
    unfold s_X12_count_97 at h
    refine lv_iload_n hx hb dX12_count_97 rfl (lv_at hl 2 rfl) ?_
    refine lv_aload_n hx hb dX12_count_98 rfl (lv_at hl 0 rfl) ?_
    refine m_getr S hK fk_X12_7 (gr_10_1 G 0) hW (ci_10 (Nat.le_of_ble_eq_true rfl)) dX12_count_99 ?_
    refine lv_iconst hx hb dX12_count_102 ki_1 ?_
    refine m_aldk S hK (ar_44 G) hW (ci_44 (Nat.le_of_ble_eq_true rfl)) kn_1 (Nat.le_of_ble_eq_true rfl) dX12_count_103 ?_
    refine lv_icmp_ge (tgt := 125) hx hb dX12_count_104 (by decide) (fun c104 => ?_) (fun c104 => ?_)
    · replace h := h.1 c104
      refine lv_iload_n hx hb dX12_count_125 rfl (lv_at hl 1 rfl) ?_
      exact m_iret S hret hlocks hK hW hbs hS rfl h dX12_count_126
    · replace h := h.2 c104
      refine lv_iload_n hx hb dX12_count_107 rfl (lv_at hl 1 rfl) ?_
      refine lv_aload_n hx hb dX12_count_108 rfl (lv_at hl 0 rfl) ?_
      refine m_getr S hK fk_X12_7 (gr_10_1 G 0) hW (ci_10 (Nat.le_of_ble_eq_true rfl)) dX12_count_109 ?_
      refine lv_bipush hx hb dX12_count_112 kb_70 ?_
      refine lv_iload_n hx hb dX12_count_114 rfl (lv_at hl 2 rfl) ?_
      refine lv_iadd hx hb dX12_count_115 ?_
      obtain ⟨hb116, h⟩ := h
      refine m_ald S hK (ar_44 G) hW (ci_44 (Nat.le_of_ble_eq_true rfl)) hb116 dX12_count_116 ?_
      refine lv_iadd hx hb dX12_count_117 ?_
      refine lv_topi (fun x2_118 ex2_118 => ?_)
      replace h := h x2_118 ex2_118
      refine lv_istore_n (lv' := [(2, .int x2_118), (0, .ref (ad G 10 0)), (3, .int x3)]) hx hb dX12_count_118 rfl hl (by decide) rfl (fun ls hl => ?_)
      obtain ⟨x3_119, ex3_119⟩ : ∃ z : Int32, z = x3 + (1 : Int32) := ⟨_, rfl⟩
      replace h := h x3_119 ex3_119
      refine lv_iinc (v := x3_119) (lv' := [(3, .int x3_119), (2, .int x2_118), (0, .ref (ad G 10 0))]) hx hb dX12_count_119 hl (k := 2) rfl (by rw [ex3_119, ki_1]) (by decide) rfl (fun ls hl => ?_)
      refine lv_goto (tgt := 97) hx hb dX12_count_122 (by decide) ?_
      exact kk97 _ h H locs ls hW hS (lv_sub hl [2, 1, 0] rfl)
  unfold s_X12_count at h
  refine lv_aload_n hx hb dX12_count_0 rfl (lv_at hl 0 rfl) ?_
  refine lv_iconst hx hb dX12_count_1 ki_0 ?_
  refine m_put S hK fk_X12_128 tyX12_ok nmX12 rfl pf_X12_0 (pv_10_0 G) hW hS (ci_10 (Nat.le_of_ble_eq_true rfl)) rfl rfl dX12_count_2 (fun Mm2 eMm2 H locs hW hS => ?_)
  replace h := h Mm2 eMm2
  refine lv_iconst hx hb dX12_count_5 ki_0 ?_
  refine lv_istore_n (lv' := [(2, .int (0 : Int32)), (0, .ref (ad G 10 0)), (1, .int x1)]) hx hb dX12_count_6 rfl hl (by decide) rfl (fun ls hl => ?_)
  refine lv_iload_n hx hb dX12_count_7 rfl (lv_at hl 2 rfl) ?_
  by_cases c8_0 : x1 = (0 : Int32)
  · replace h := h.1 c8_0
    rw [c8_0]
    refine lv_tableIn (off := 52) (tgt := 60) hx hb dX12_count_8 (by decide +kernel) (by decide +kernel) (by decide +kernel) (by decide) ?_
    refine lv_aload_n hx hb dX12_count_60 rfl (lv_at hl 1 rfl) ?_
    refine m_getr S hK fk_X12_7 (gr_10_1 G 0) hW (ci_10 (Nat.le_of_ble_eq_true rfl)) dX12_count_61 ?_
    refine lv_iconst hx hb dX12_count_64 ki_0 ?_
    refine m_aldk S hK (ar_44 G) hW (ci_44 (Nat.le_of_ble_eq_true rfl)) kn_0 (Nat.le_of_ble_eq_true rfl) dX12_count_65 ?_
    exact m_iret S hret hlocks hK hW hbs hS rfl h dX12_count_66
  · replace h := h.2
    by_cases c8_1 : x1 = (1 : Int32)
    · replace h := h.1 c8_1
      rw [c8_1]
      refine lv_tableIn (off := 59) (tgt := 67) hx hb dX12_count_8 (by decide +kernel) (by decide +kernel) (by decide +kernel) (by decide) ?_
      refine lv_aload_n hx hb dX12_count_67 rfl (lv_at hl 1 rfl) ?_
      refine m_getr S hK fk_X12_7 (gr_10_1 G 0) hW (ci_10 (Nat.le_of_ble_eq_true rfl)) dX12_count_68 ?_
      refine lv_iconst hx hb dX12_count_71 ki_1 ?_
      refine m_aldk S hK (ar_44 G) hW (ci_44 (Nat.le_of_ble_eq_true rfl)) kn_1 (Nat.le_of_ble_eq_true rfl) dX12_count_72 ?_
      exact m_iret S hret hlocks hK hW hbs hS rfl h dX12_count_73
    · replace h := h.2
      by_cases c8_2 : x1 = (2 : Int32)
      · replace h := h.1 c8_2
        rw [c8_2]
        refine lv_tableIn (off := 66) (tgt := 74) hx hb dX12_count_8 (by decide +kernel) (by decide +kernel) (by decide +kernel) (by decide) ?_
        refine lv_aload_n hx hb dX12_count_74 rfl (lv_at hl 1 rfl) ?_
        refine m_getr S hK fk_X12_7 (gr_10_1 G 0) hW (ci_10 (Nat.le_of_ble_eq_true rfl)) dX12_count_75 ?_
        refine lv_iconst hx hb dX12_count_78 ki_2 ?_
        refine m_aldk S hK (ar_44 G) hW (ci_44 (Nat.le_of_ble_eq_true rfl)) kn_2 (Nat.le_of_ble_eq_true rfl) dX12_count_79 ?_
        exact m_iret S hret hlocks hK hW hbs hS rfl h dX12_count_80
      · replace h := h.2
        by_cases c8_3 : x1 = (3 : Int32)
        · replace h := h.1 c8_3
          rw [c8_3]
          refine lv_tableIn (off := 73) (tgt := 81) hx hb dX12_count_8 (by decide +kernel) (by decide +kernel) (by decide +kernel) (by decide) ?_
          refine lv_aload_n hx hb dX12_count_81 rfl (lv_at hl 1 rfl) ?_
          refine m_getr S hK fk_X12_7 (gr_10_1 G 0) hW (ci_10 (Nat.le_of_ble_eq_true rfl)) dX12_count_82 ?_
          refine lv_iconst hx hb dX12_count_85 ki_3 ?_
          refine m_aldk S hK (ar_44 G) hW (ci_44 (Nat.le_of_ble_eq_true rfl)) kn_3 (Nat.le_of_ble_eq_true rfl) dX12_count_86 ?_
          exact m_iret S hret hlocks hK hW hbs hS rfl h dX12_count_87
        · replace h := h.2
          by_cases c8_4 : x1 = (4 : Int32)
          · replace h := h.1 c8_4
            rw [c8_4]
            refine lv_tableIn (off := 80) (tgt := 88) hx hb dX12_count_8 (by decide +kernel) (by decide +kernel) (by decide +kernel) (by decide) ?_
            refine lv_aload_n hx hb dX12_count_88 rfl (lv_at hl 1 rfl) ?_
            refine m_getr S hK fk_X12_7 (gr_10_1 G 0) hW (ci_10 (Nat.le_of_ble_eq_true rfl)) dX12_count_89 ?_
            refine lv_iconst hx hb dX12_count_92 ki_4 ?_
            refine m_aldk S hK (ar_44 G) hW (ci_44 (Nat.le_of_ble_eq_true rfl)) kn_4 (Nat.le_of_ble_eq_true rfl) dX12_count_93 ?_
            exact m_iret S hret hlocks hK hW hbs hS rfl h dX12_count_94
          · replace h := h.2
            by_cases c8_5 : x1 = (5 : Int32)
            · replace h := h.1 c8_5
              rw [c8_5]
              refine lv_tableIn (off := 87) (tgt := 95) hx hb dX12_count_8 (by decide +kernel) (by decide +kernel) (by decide +kernel) (by decide) ?_
              refine lv_iconst hx hb dX12_count_95 ki_0 ?_
              refine lv_istore_n (lv' := [(3, .int (0 : Int32)), (2, .int (0 : Int32)), (0, .ref (ad G 10 0)), (1, .int x1)]) hx hb dX12_count_96 rfl hl (by decide) rfl (fun ls hl => ?_)
              obtain ⟨n97, h⟩ := h
              exact w97 n97 _ h H locs ls hW hS (lv_sub hl [2, 1, 0] rfl)
            · replace h := h.2
              by_cases c8_6 : x1 = (6 : Int32)
              · replace h := h.1 c8_6
                rw [c8_6]
                refine lv_tableIn (off := 119) (tgt := 127) hx hb dX12_count_8 (by decide +kernel) (by decide +kernel) (by decide +kernel) (by decide) ?_
                refine lv_aload_n hx hb dX12_count_127 rfl (lv_at hl 1 rfl) ?_
                refine lv_bipush hx hb dX12_count_128 kb_8 ?_
                refine m_ci0 (m_rV S hK hW (m_szH hbs hS) (c_X12_allOf l ) h lk_X12_338 (m_recv hK hW (ci_10 (Nat.le_of_ble_eq_true rfl)) (rc_10 G) rfl) rfl hl.1 rfl ⟨Nat.le_of_ble_eq_true rfl, Nat.le_of_ble_eq_true rfl⟩ (Nat.le_of_ble_eq_true rfl) ⟨Nat.zero_le _, Nat.zero_le _⟩ dX12_count_130) hS rfl rfl (fun rr130 Mm130 H locs h hW hS => ?_)
                exact m_iret S hret hlocks hK hW hbs hS rfl h dX12_count_133
              · replace h := h.2
                by_cases c8_7 : x1 = (7 : Int32)
                · replace h := h.1 c8_7
                  rw [c8_7]
                  refine lv_tableIn (off := 126) (tgt := 134) hx hb dX12_count_8 (by decide +kernel) (by decide +kernel) (by decide +kernel) (by decide) ?_
                  refine lv_aload_n hx hb dX12_count_134 rfl (lv_at hl 1 rfl) ?_
                  refine lv_iconst hx hb dX12_count_135 ki_3 ?_
                  refine m_ci0 (m_rV S hK hW (m_szH hbs hS) (c_X12_allOf l ) h lk_X12_338 (m_recv hK hW (ci_10 (Nat.le_of_ble_eq_true rfl)) (rc_10 G) rfl) rfl hl.1 rfl ⟨Nat.le_of_ble_eq_true rfl, Nat.le_of_ble_eq_true rfl⟩ (Nat.le_of_ble_eq_true rfl) ⟨Nat.zero_le _, Nat.zero_le _⟩ dX12_count_136) hS rfl rfl (fun rr136 Mm136 H locs h hW hS => ?_)
                  exact m_iret S hret hlocks hK hW hbs hS rfl h dX12_count_139
                · replace h := h.2
                  by_cases c8_8 : x1 = (8 : Int32)
                  · replace h := h.1 c8_8
                    rw [c8_8]
                    refine lv_tableIn (off := 132) (tgt := 140) hx hb dX12_count_8 (by decide +kernel) (by decide +kernel) (by decide +kernel) (by decide) ?_
                    refine lv_aload_n hx hb dX12_count_140 rfl (lv_at hl 1 rfl) ?_
                    refine m_getr S hK fk_X12_7 (gr_10_1 G 0) hW (ci_10 (Nat.le_of_ble_eq_true rfl)) dX12_count_141 ?_
                    refine lv_iconst hx hb dX12_count_144 ki_5 ?_
                    refine m_aldk S hK (ar_44 G) hW (ci_44 (Nat.le_of_ble_eq_true rfl)) kn_5 (Nat.le_of_ble_eq_true rfl) dX12_count_145 ?_
                    exact m_iret S hret hlocks hK hW hbs hS rfl h dX12_count_146
                  · replace h := h.2
                    replace h := h c8_0 c8_1 c8_2 c8_3 c8_4 c8_5 c8_6 c8_7 c8_8
                    refine lv_tableOut (tgt := 147) hx hb dX12_count_8 (m_out 0 8 (fun z h1 h2 => ?_)) (by decide) ?_
                    · have h3 : z = 0 ∨ z = 1 ∨ z = 2 ∨ z = 3 ∨ z = 4 ∨ z = 5 ∨ z = 6 ∨ z = 7 ∨ z = 8 := by omega
                      rcases h3 with rfl | rfl | rfl | rfl | rfl | rfl | rfl | rfl | rfl
                      · exact lv_neT c8_0 (by decide +kernel)
                      · exact lv_neT c8_1 (by decide +kernel)
                      · exact lv_neT c8_2 (by decide +kernel)
                      · exact lv_neT c8_3 (by decide +kernel)
                      · exact lv_neT c8_4 (by decide +kernel)
                      · exact lv_neT c8_5 (by decide +kernel)
                      · exact lv_neT c8_6 (by decide +kernel)
                      · exact lv_neT c8_7 (by decide +kernel)
                      · exact lv_neT c8_8 (by decide +kernel)
                    · skip
                      refine lv_iconst hx hb dX12_count_147 ki_m1 ?_
                      exact m_iret S hret hlocks hK hW hbs hS rfl h dX12_count_148
def s_X12_keep_64 (x1 : Int32) (x2 : Int32) (x3 : Int32) (x4 : Int32) (x5 : Int32) (P : Int32 → Mem → Prop) (M : Mem) : Prop :=
  vp_in x1 8 ∧ (∀ Mm70 : Mem, Mm70 = wI M 72 0 (x1.toNatClampNeg) x2 → vp_in x1 8 ∧ (∀ Mm77 : Mem, Mm77 = wI Mm70 73 0 (x1.toNatClampNeg) x3 → vp_in x1 8 ∧ (∀ Mm85 : Mem, Mm85 = wI Mm77 74 0 (x1.toNatClampNeg) x4 → vp_in x1 8 ∧ (∀ Mm93 : Mem, Mm93 = wI Mm85 75 0 (x1.toNatClampNeg) x5 → P (0 : Int32) Mm93))))
def s_X12_keep (M : Mem) (x1 : Int32) (x2 : Int32) (x3 : Int32) (x4 : Int32) (x5 : Int32) (P : Int32 → Mem → Prop) : Prop :=
  ∀ Mm2 : Mem, Mm2 = wI M 10 0 0 (0 : Int32) → s_X12_in Mm2 x1 (0 : Int32) (7 : Int32) (fun rr9 Mm9 => (rr9 = 0 → P (-1 : Int32) Mm9) ∧ (¬ rr9 = 0 → s_X12_in Mm9 x2 (0 : Int32) (1 : Int32) (fun rr18 Mm18 => (rr18 = 0 → P (-1 : Int32) Mm18) ∧ (¬ rr18 = 0 → (¬ x2 = (1 : Int32) → s_X12_keep_64 x1 x2 x3 x4 x5 P Mm18) ∧ (x2 = (1 : Int32) → s_X12_in Mm18 x3 (0 : Int32) (6 : Int32) (fun rr33 Mm33 => (rr33 = 0 → P (-1 : Int32) Mm33) ∧ (¬ rr33 = 0 → s_X12_in Mm33 x4 (0 : Int32) (9999 : Int32) (fun rr45 Mm45 => (rr45 = 0 → P (-1 : Int32) Mm45) ∧ (¬ rr45 = 0 → s_X12_in Mm45 x5 (0 : Int32) (11 : Int32) (fun rr56 Mm56 => (¬ rr56 = 0 → s_X12_keep_64 x1 x2 x3 x4 x5 P Mm56) ∧ (rr56 = 0 → P (-1 : Int32) Mm56)))))))))))
abbrev rm_X12_keep : Room := { frames := 1, cells := 0, slots := 0, locals := 22 }
set_option maxHeartbeats 4000000 in
set_option maxRecDepth 100000 in
theorem c_X12_keep (l : Launch) {G : Gn} {M : Mem} {x1 : Int32} {x2 : Int32} {x3 : Int32} {x4 : Int32} {x5 : Int32} {P : Int32 → Mem → Prop} : MQi l yX12_keep cX12_keep 6 (some .int) rm_X12_keep [.ref (ad G 10 0), .int x1, .int x2, .int x3, .int x4, .int x5] G M (s_X12_keep M x1 x2 x3 x4 x5 P) P := by
  refine m_enter (by decide +kernel) (Nat.le_of_ble_eq_true rfl) ?_
  intro p e s m below meth c ls H locs S hret hlocks hname hK hbs hW hS hl h
  obtain ⟨AV, hAV⟩ : ∃ z : Array Value, z = ([.ref (ad G 10 0), .int x1, .int x2, .int x3, .int x4, .int x5] : List Value).toArray := ⟨_, rfl⟩
  rw [← hAV] at S ⊢
  replace S : CallFix p m c cX12_keep 6 s AV lw_G "MilkDeskModel" := S
  have hx := S.1
  have hb := S.2.1
  have hml := S.2.2.1
  have hown := S.2.2.2.1
  have hts := S.2.2.2.2
  replace hl : lv_has ls 6 [(0, .ref (ad G 10 0)), (1, .int x1), (2, .int x2), (3, .int x3), (4, .int x4), (5, .int x5)] := hl
  have b64 : ∀ (M : Mem) (H : Heap) (locs : List Loc) (ls : Array Slot), WPm G M H → va_S (fun q => bs G ≤ q) s.heap H locs → lv_has ls 6 [(0, .ref (ad G 10 0)), (1, .int x1), (2, .int x2), (3, .int x3), (4, .int x4), (5, .int x5)] → s_X12_keep_64 x1 x2 x3 x4 x5 P M  → W p l e rm_X12_keep s m AV below meth c H locs 0 0 (MQ below (va_Qi P (WS G) (fun q => bs G ≤ q)) AV s 0 0 (fun q => bs G ≤ q)) (F0 m 64 ls []) := by
    intro M H locs ls hW hS hl h
    unfold s_X12_keep_64 at h
    refine lv_aload_n hx hb dX12_keep_64 rfl (lv_at hl 0 rfl) ?_
    refine m_getr S hK fk_X12_102 (gr_10_45 G 0) hW (ci_10 (Nat.le_of_ble_eq_true rfl)) dX12_keep_65 ?_
    refine lv_iload_n hx hb dX12_keep_68 rfl (lv_at hl 1 rfl) ?_
    refine lv_iload_n hx hb dX12_keep_69 rfl (lv_at hl 2 rfl) ?_
    obtain ⟨hb70, h⟩ := h
    refine m_ast S hK (ar_72 G) hW hS (ci_72 (Nat.le_of_ble_eq_true rfl)) hb70 dX12_keep_70 (fun Mm70 eMm70 H locs hW hS => ?_)
    replace h := h Mm70 eMm70
    refine lv_aload_n hx hb dX12_keep_71 rfl (lv_at hl 0 rfl) ?_
    refine m_getr S hK fk_X12_105 (gr_10_46 G 0) hW (ci_10 (Nat.le_of_ble_eq_true rfl)) dX12_keep_72 ?_
    refine lv_iload_n hx hb dX12_keep_75 rfl (lv_at hl 1 rfl) ?_
    refine lv_iload_n hx hb dX12_keep_76 rfl (lv_at hl 3 rfl) ?_
    obtain ⟨hb77, h⟩ := h
    refine m_ast S hK (ar_73 G) hW hS (ci_73 (Nat.le_of_ble_eq_true rfl)) hb77 dX12_keep_77 (fun Mm77 eMm77 H locs hW hS => ?_)
    replace h := h Mm77 eMm77
    refine lv_aload_n hx hb dX12_keep_78 rfl (lv_at hl 0 rfl) ?_
    refine m_getr S hK fk_X12_108 (gr_10_47 G 0) hW (ci_10 (Nat.le_of_ble_eq_true rfl)) dX12_keep_79 ?_
    refine lv_iload_n hx hb dX12_keep_82 rfl (lv_at hl 1 rfl) ?_
    refine lv_iload hx hb dX12_keep_83 (lv_at hl 4 rfl) ?_
    obtain ⟨hb85, h⟩ := h
    refine m_ast S hK (ar_74 G) hW hS (ci_74 (Nat.le_of_ble_eq_true rfl)) hb85 dX12_keep_85 (fun Mm85 eMm85 H locs hW hS => ?_)
    replace h := h Mm85 eMm85
    refine lv_aload_n hx hb dX12_keep_86 rfl (lv_at hl 0 rfl) ?_
    refine m_getr S hK fk_X12_111 (gr_10_48 G 0) hW (ci_10 (Nat.le_of_ble_eq_true rfl)) dX12_keep_87 ?_
    refine lv_iload_n hx hb dX12_keep_90 rfl (lv_at hl 1 rfl) ?_
    refine lv_iload hx hb dX12_keep_91 (lv_at hl 5 rfl) ?_
    obtain ⟨hb93, h⟩ := h
    refine m_ast S hK (ar_75 G) hW hS (ci_75 (Nat.le_of_ble_eq_true rfl)) hb93 dX12_keep_93 (fun Mm93 eMm93 H locs hW hS => ?_)
    replace h := h Mm93 eMm93
    refine lv_iconst hx hb dX12_keep_94 ki_0 ?_
    exact m_iret S hret hlocks hK hW hbs hS rfl h dX12_keep_95
  unfold s_X12_keep at h
  refine lv_aload_n hx hb dX12_keep_0 rfl (lv_at hl 0 rfl) ?_
  refine lv_iconst hx hb dX12_keep_1 ki_0 ?_
  refine m_put S hK fk_X12_128 tyX12_ok nmX12 rfl pf_X12_0 (pv_10_0 G) hW hS (ci_10 (Nat.le_of_ble_eq_true rfl)) rfl rfl dX12_keep_2 (fun Mm2 eMm2 H locs hW hS => ?_)
  replace h := h Mm2 eMm2
  refine lv_iload_n hx hb dX12_keep_5 rfl (lv_at hl 1 rfl) ?_
  refine lv_iconst hx hb dX12_keep_6 ki_0 ?_
  refine lv_bipush hx hb dX12_keep_7 kb_7 ?_
  refine m_ci0 (m_rS S hK hW (m_szH hbs hS) (c_X12_in l ) h lk_X12_131 rfl hl.1 rfl ⟨Nat.le_of_ble_eq_true rfl, Nat.le_of_ble_eq_true rfl⟩ (Nat.le_of_ble_eq_true rfl) ⟨Nat.zero_le _, Nat.zero_le _⟩ dX12_keep_9) hS rfl rfl (fun rr9 Mm9 H locs h hW hS => ?_)
  refine lv_if_eq (tgt := 62) hx hb dX12_keep_12 (by decide) (fun c12 => ?_) (fun c12 => ?_)
  · replace h := h.1 c12
    refine lv_iconst hx hb dX12_keep_62 ki_m1 ?_
    exact m_iret S hret hlocks hK hW hbs hS rfl h dX12_keep_63
  · replace h := h.2 c12
    refine lv_iload_n hx hb dX12_keep_15 rfl (lv_at hl 2 rfl) ?_
    refine lv_iconst hx hb dX12_keep_16 ki_0 ?_
    refine lv_iconst hx hb dX12_keep_17 ki_1 ?_
    refine m_ci0 (m_rS S hK hW (m_szH hbs hS) (c_X12_in l ) h lk_X12_131 rfl hl.1 rfl ⟨Nat.le_of_ble_eq_true rfl, Nat.le_of_ble_eq_true rfl⟩ (Nat.le_of_ble_eq_true rfl) ⟨Nat.zero_le _, Nat.zero_le _⟩ dX12_keep_18) hS rfl rfl (fun rr18 Mm18 H locs h hW hS => ?_)
    refine lv_if_eq (tgt := 62) hx hb dX12_keep_21 (by decide) (fun c21 => ?_) (fun c21 => ?_)
    · replace h := h.1 c21
      refine lv_iconst hx hb dX12_keep_62 ki_m1 ?_
      exact m_iret S hret hlocks hK hW hbs hS rfl h dX12_keep_63
    · replace h := h.2 c21
      refine lv_iload_n hx hb dX12_keep_24 rfl (lv_at hl 2 rfl) ?_
      refine lv_iconst hx hb dX12_keep_25 ki_1 ?_
      refine lv_icmp_ne (tgt := 64) hx hb dX12_keep_26 (by decide) (fun c26 => ?_) (fun c26 => ?_)
      · replace h := h.1 c26
        exact b64 _ H locs ls hW hS (lv_sub hl [0, 1, 2, 3, 4, 5] rfl) h
      · replace h := h.2 c26
        refine lv_iload_n hx hb dX12_keep_29 rfl (lv_at hl 3 rfl) ?_
        refine lv_iconst hx hb dX12_keep_30 ki_0 ?_
        refine lv_bipush hx hb dX12_keep_31 kb_6 ?_
        refine m_ci0 (m_rS S hK hW (m_szH hbs hS) (c_X12_in l ) h lk_X12_131 rfl hl.1 rfl ⟨Nat.le_of_ble_eq_true rfl, Nat.le_of_ble_eq_true rfl⟩ (Nat.le_of_ble_eq_true rfl) ⟨Nat.zero_le _, Nat.zero_le _⟩ dX12_keep_33) hS rfl rfl (fun rr33 Mm33 H locs h hW hS => ?_)
        refine lv_if_eq (tgt := 62) hx hb dX12_keep_36 (by decide) (fun c36 => ?_) (fun c36 => ?_)
        · replace h := h.1 c36
          refine lv_iconst hx hb dX12_keep_62 ki_m1 ?_
          exact m_iret S hret hlocks hK hW hbs hS rfl h dX12_keep_63
        · replace h := h.2 c36
          refine lv_iload hx hb dX12_keep_39 (lv_at hl 4 rfl) ?_
          refine lv_iconst hx hb dX12_keep_41 ki_0 ?_
          refine lv_sipush hx hb dX12_keep_42 ks_9999 ?_
          refine m_ci0 (m_rS S hK hW (m_szH hbs hS) (c_X12_in l ) h lk_X12_131 rfl hl.1 rfl ⟨Nat.le_of_ble_eq_true rfl, Nat.le_of_ble_eq_true rfl⟩ (Nat.le_of_ble_eq_true rfl) ⟨Nat.zero_le _, Nat.zero_le _⟩ dX12_keep_45) hS rfl rfl (fun rr45 Mm45 H locs h hW hS => ?_)
          refine lv_if_eq (tgt := 62) hx hb dX12_keep_48 (by decide) (fun c48 => ?_) (fun c48 => ?_)
          · replace h := h.1 c48
            refine lv_iconst hx hb dX12_keep_62 ki_m1 ?_
            exact m_iret S hret hlocks hK hW hbs hS rfl h dX12_keep_63
          · replace h := h.2 c48
            refine lv_iload hx hb dX12_keep_51 (lv_at hl 5 rfl) ?_
            refine lv_iconst hx hb dX12_keep_53 ki_0 ?_
            refine lv_bipush hx hb dX12_keep_54 kb_11 ?_
            refine m_ci0 (m_rS S hK hW (m_szH hbs hS) (c_X12_in l ) h lk_X12_131 rfl hl.1 rfl ⟨Nat.le_of_ble_eq_true rfl, Nat.le_of_ble_eq_true rfl⟩ (Nat.le_of_ble_eq_true rfl) ⟨Nat.zero_le _, Nat.zero_le _⟩ dX12_keep_56) hS rfl rfl (fun rr56 Mm56 H locs h hW hS => ?_)
            refine lv_if_ne (tgt := 64) hx hb dX12_keep_59 (by decide) (fun c59 => ?_) (fun c59 => ?_)
            · replace h := h.1 c59
              exact b64 _ H locs ls hW hS (lv_sub hl [0, 1, 2, 3, 4, 5] rfl) h
            · replace h := h.2 c59
              refine lv_iconst hx hb dX12_keep_62 ki_m1 ?_
              exact m_iret S hret hlocks hK hW hbs hS rfl h dX12_keep_63
def s_X12_row_63 (x1 : Int32) (P : Int32 → Mem → Prop) (K63 : Mem × Int32 → Prop) (M : Mem) (x4 : Int32) : Prop :=
  ((80 : Int32) ≤ x4 → P (0 : Int32) M) ∧ (¬ (80 : Int32) ≤ x4 → vp_in (((80 : Int32) * x1) + x4) 640 ∧ (∀ Mm82 : Mem, Mm82 = wJ M 78 0 ((((80 : Int32) * x1) + x4).toNatClampNeg) (0 : Int64) → ∀ x4_83 : Int32, x4_83 = x4 + (1 : Int32) → K63 (Mm82, x4_83)))
def s_X12_row (M : Mem) (x1 : Int32) (x2 : Int32) (x3 : Int32) (P : Int32 → Mem → Prop) : Prop :=
  ∀ Mm2 : Mem, Mm2 = wI M 10 0 0 (0 : Int32) → s_X12_in Mm2 x1 (0 : Int32) (7 : Int32) (fun rr9 Mm9 => (rr9 = 0 → P (-1 : Int32) Mm9) ∧ (¬ rr9 = 0 → s_X12_in Mm9 x2 (0 : Int32) (2 : Int32) (fun rr18 Mm18 => (rr18 = 0 → P (-1 : Int32) Mm18) ∧ (¬ rr18 = 0 → (x3 ≤ (80 : Int32) → (0 ≤ x3 → vp_in x1 8 ∧ (∀ Mm45 : Mem, Mm45 = wI Mm18 72 0 (x1.toNatClampNeg) (2 : Int32) → vp_in x1 8 ∧ (∀ Mm52 : Mem, Mm52 = wI Mm45 76 0 (x1.toNatClampNeg) x2 → vp_in x1 8 ∧ (∀ Mm59 : Mem, Mm59 = wI Mm52 77 0 (x1.toNatClampNeg) x3 → ∃ n, Lz (fun (K63 : Mem × Int32 → Prop) (a : Mem × Int32) => s_X12_row_63 x1 P K63 a.1 a.2) n (Mm59, (0 : Int32)))))) ∧ (¬ 0 ≤ x3 → P (-14 : Int32) Mm18)) ∧ (¬ x3 ≤ (80 : Int32) → P (-1 : Int32) Mm18)))))
abbrev rm_X12_row : Room := { frames := 1, cells := 0, slots := 0, locals := 22 }
set_option maxHeartbeats 4000000 in
set_option maxRecDepth 100000 in
theorem c_X12_row (l : Launch) {G : Gn} {M : Mem} {x1 : Int32} {x2 : Int32} {x3 : Int32} {P : Int32 → Mem → Prop} : MQi l yX12_row cX12_row 5 (some .int) rm_X12_row [.ref (ad G 10 0), .int x1, .int x2, .int x3] G M (s_X12_row M x1 x2 x3 P) P := by
  refine m_enter (by decide +kernel) (Nat.le_of_ble_eq_true rfl) ?_
  intro p e s m below meth c ls H locs S hret hlocks hname hK hbs hW hS hl h
  obtain ⟨AV, hAV⟩ : ∃ z : Array Value, z = ([.ref (ad G 10 0), .int x1, .int x2, .int x3] : List Value).toArray := ⟨_, rfl⟩
  rw [← hAV] at S ⊢
  replace S : CallFix p m c cX12_row 5 s AV lw_G "MilkDeskModel" := S
  have hx := S.1
  have hb := S.2.1
  have hml := S.2.2.1
  have hown := S.2.2.2.1
  have hts := S.2.2.2.2
  replace hl : lv_has ls 5 [(0, .ref (ad G 10 0)), (1, .int x1), (2, .int x2), (3, .int x3)] := hl
  have w63 : ∀ (n : Nat) (a : Mem × Int32), Lz (fun (K63 : Mem × Int32 → Prop) (a : Mem × Int32) => s_X12_row_63 x1 P K63 a.1 a.2) n a → ∀ (H : Heap) (locs : List Loc) (ls : Array Slot), WPm G a.1 H → va_S (fun q => bs G ≤ q) s.heap H locs → lv_has ls 5 [(0, .ref (ad G 10 0)), (1, .int x1), (4, .int a.2)] → W p l e rm_X12_row s m AV below meth c H locs 0 0 (MQ below (va_Qi P (WS G) (fun q => bs G ≤ q)) AV s 0 0 (fun q => bs G ≤ q)) (F0 m 63 ls []) := by
    refine Lz_walk ?_
    rintro K63 kk63 ⟨M, x4⟩ h H locs ls hW hS hl
    replace h : s_X12_row_63 x1 P K63 M x4 := h
    replace hW : WPm G M H := hW
    replace hl : lv_has ls 5 [(0, .ref (ad G 10 0)), (1, .int x1), (4, .int x4)] := hl
    unfold s_X12_row_63 at h
    refine lv_iload hx hb dX12_row_63 (lv_at hl 2 rfl) ?_
    refine lv_bipush hx hb dX12_row_65 kb_80 ?_
    refine lv_icmp_ge (tgt := 89) hx hb dX12_row_67 (by decide) (fun c67 => ?_) (fun c67 => ?_)
    · replace h := h.1 c67
      refine lv_iconst hx hb dX12_row_89 ki_0 ?_
      exact m_iret S hret hlocks hK hW hbs hS rfl h dX12_row_90
    · replace h := h.2 c67
      refine lv_aload_n hx hb dX12_row_70 rfl (lv_at hl 0 rfl) ?_
      refine m_getr S hK fk_X12_120 (gr_10_51 G 0) hW (ci_10 (Nat.le_of_ble_eq_true rfl)) dX12_row_71 ?_
      refine lv_bipush hx hb dX12_row_74 kb_80 ?_
      refine lv_iload_n hx hb dX12_row_76 rfl (lv_at hl 1 rfl) ?_
      refine lv_imul hx hb dX12_row_77 ?_
      refine lv_iload hx hb dX12_row_78 (lv_at hl 2 rfl) ?_
      refine lv_iadd hx hb dX12_row_80 ?_
      refine lv_lconst (v := (0 : Int64)) hx hb dX12_row_81 (by decide +kernel) ?_
      obtain ⟨hb82, h⟩ := h
      refine m_jast S hK (ar_78 G) hW hS (ci_78 (Nat.le_of_ble_eq_true rfl)) hb82 dX12_row_82 (fun Mm82 eMm82 H locs hW hS => ?_)
      replace h := h Mm82 eMm82
      obtain ⟨x4_83, ex4_83⟩ : ∃ z : Int32, z = x4 + (1 : Int32) := ⟨_, rfl⟩
      replace h := h x4_83 ex4_83
      refine lv_iinc (v := x4_83) (lv' := [(4, .int x4_83), (0, .ref (ad G 10 0)), (1, .int x1)]) hx hb dX12_row_83 hl (k := 2) rfl (by rw [ex4_83, ki_1]) (by decide) rfl (fun ls hl => ?_)
      refine lv_goto (tgt := 63) hx hb dX12_row_86 (by decide) ?_
      exact kk63 _ h H locs ls hW hS (lv_sub hl [1, 2, 0] rfl)
  unfold s_X12_row at h
  refine lv_aload_n hx hb dX12_row_0 rfl (lv_at hl 0 rfl) ?_
  refine lv_iconst hx hb dX12_row_1 ki_0 ?_
  refine m_put S hK fk_X12_128 tyX12_ok nmX12 rfl pf_X12_0 (pv_10_0 G) hW hS (ci_10 (Nat.le_of_ble_eq_true rfl)) rfl rfl dX12_row_2 (fun Mm2 eMm2 H locs hW hS => ?_)
  replace h := h Mm2 eMm2
  refine lv_iload_n hx hb dX12_row_5 rfl (lv_at hl 1 rfl) ?_
  refine lv_iconst hx hb dX12_row_6 ki_0 ?_
  refine lv_bipush hx hb dX12_row_7 kb_7 ?_
  refine m_ci0 (m_rS S hK hW (m_szH hbs hS) (c_X12_in l ) h lk_X12_131 rfl hl.1 rfl ⟨Nat.le_of_ble_eq_true rfl, Nat.le_of_ble_eq_true rfl⟩ (Nat.le_of_ble_eq_true rfl) ⟨Nat.zero_le _, Nat.zero_le _⟩ dX12_row_9) hS rfl rfl (fun rr9 Mm9 H locs h hW hS => ?_)
  refine lv_if_eq (tgt := 30) hx hb dX12_row_12 (by decide) (fun c12 => ?_) (fun c12 => ?_)
  · replace h := h.1 c12
    refine lv_iconst hx hb dX12_row_30 ki_m1 ?_
    exact m_iret S hret hlocks hK hW hbs hS rfl h dX12_row_31
  · replace h := h.2 c12
    refine lv_iload_n hx hb dX12_row_15 rfl (lv_at hl 2 rfl) ?_
    refine lv_iconst hx hb dX12_row_16 ki_0 ?_
    refine lv_iconst hx hb dX12_row_17 ki_2 ?_
    refine m_ci0 (m_rS S hK hW (m_szH hbs hS) (c_X12_in l ) h lk_X12_131 rfl hl.1 rfl ⟨Nat.le_of_ble_eq_true rfl, Nat.le_of_ble_eq_true rfl⟩ (Nat.le_of_ble_eq_true rfl) ⟨Nat.zero_le _, Nat.zero_le _⟩ dX12_row_18) hS rfl rfl (fun rr18 Mm18 H locs h hW hS => ?_)
    refine lv_if_eq (tgt := 30) hx hb dX12_row_21 (by decide) (fun c21 => ?_) (fun c21 => ?_)
    · replace h := h.1 c21
      refine lv_iconst hx hb dX12_row_30 ki_m1 ?_
      exact m_iret S hret hlocks hK hW hbs hS rfl h dX12_row_31
    · replace h := h.2 c21
      refine lv_iload_n hx hb dX12_row_24 rfl (lv_at hl 3 rfl) ?_
      refine lv_bipush hx hb dX12_row_25 kb_80 ?_
      refine lv_icmp_le (tgt := 32) hx hb dX12_row_27 (by decide) (fun c27 => ?_) (fun c27 => ?_)
      · replace h := h.1 c27
        refine lv_iload_n hx hb dX12_row_32 rfl (lv_at hl 3 rfl) ?_
        refine lv_if_ge (tgt := 39) hx hb dX12_row_33 (by decide) (fun c33 => ?_) (fun c33 => ?_)
        · replace h := h.1 c33
          refine lv_aload_n hx hb dX12_row_39 rfl (lv_at hl 0 rfl) ?_
          refine m_getr S hK fk_X12_102 (gr_10_45 G 0) hW (ci_10 (Nat.le_of_ble_eq_true rfl)) dX12_row_40 ?_
          refine lv_iload_n hx hb dX12_row_43 rfl (lv_at hl 1 rfl) ?_
          refine lv_iconst hx hb dX12_row_44 ki_2 ?_
          obtain ⟨hb45, h⟩ := h
          refine m_ast S hK (ar_72 G) hW hS (ci_72 (Nat.le_of_ble_eq_true rfl)) hb45 dX12_row_45 (fun Mm45 eMm45 H locs hW hS => ?_)
          replace h := h Mm45 eMm45
          refine lv_aload_n hx hb dX12_row_46 rfl (lv_at hl 0 rfl) ?_
          refine m_getr S hK fk_X12_114 (gr_10_49 G 0) hW (ci_10 (Nat.le_of_ble_eq_true rfl)) dX12_row_47 ?_
          refine lv_iload_n hx hb dX12_row_50 rfl (lv_at hl 1 rfl) ?_
          refine lv_iload_n hx hb dX12_row_51 rfl (lv_at hl 2 rfl) ?_
          obtain ⟨hb52, h⟩ := h
          refine m_ast S hK (ar_76 G) hW hS (ci_76 (Nat.le_of_ble_eq_true rfl)) hb52 dX12_row_52 (fun Mm52 eMm52 H locs hW hS => ?_)
          replace h := h Mm52 eMm52
          refine lv_aload_n hx hb dX12_row_53 rfl (lv_at hl 0 rfl) ?_
          refine m_getr S hK fk_X12_117 (gr_10_50 G 0) hW (ci_10 (Nat.le_of_ble_eq_true rfl)) dX12_row_54 ?_
          refine lv_iload_n hx hb dX12_row_57 rfl (lv_at hl 1 rfl) ?_
          refine lv_iload_n hx hb dX12_row_58 rfl (lv_at hl 3 rfl) ?_
          obtain ⟨hb59, h⟩ := h
          refine m_ast S hK (ar_77 G) hW hS (ci_77 (Nat.le_of_ble_eq_true rfl)) hb59 dX12_row_59 (fun Mm59 eMm59 H locs hW hS => ?_)
          replace h := h Mm59 eMm59
          refine lv_iconst hx hb dX12_row_60 ki_0 ?_
          refine lv_istore (lv' := [(4, .int (0 : Int32)), (0, .ref (ad G 10 0)), (1, .int x1), (2, .int x2), (3, .int x3)]) hx hb dX12_row_61 hl (by decide) rfl (fun ls hl => ?_)
          obtain ⟨n63, h⟩ := h
          exact w63 n63 _ h H locs ls hW hS (lv_sub hl [1, 2, 0] rfl)
        · replace h := h.2 c33
          refine lv_bipush hx hb dX12_row_36 kb_m14 ?_
          exact m_iret S hret hlocks hK hW hbs hS rfl h dX12_row_38
      · replace h := h.2 c27
        refine lv_iconst hx hb dX12_row_30 ki_m1 ?_
        exact m_iret S hret hlocks hK hW hbs hS rfl h dX12_row_31
def s_X12_wrongRow (M : Mem) (x1 : Int32) (P : Int32 → Mem → Prop) : Prop :=
  s_X12_in M x1 (0 : Int32) (7 : Int32) (fun rr4 Mm4 => (¬ rr4 = 0 → vp_in x1 8 ∧ ((¬ (Mm4.1 72 0 x1.toNatClampNeg) = 0 → vp_in x1 8 ∧ (((Mm4.1 72 0 x1.toNatClampNeg) = (2 : Int32) → P (0 : Int32) Mm4) ∧ (¬ (Mm4.1 72 0 x1.toNatClampNeg) = (2 : Int32) → P (-12 : Int32) Mm4))) ∧ ((Mm4.1 72 0 x1.toNatClampNeg) = 0 → P (-11 : Int32) Mm4))) ∧ (rr4 = 0 → P (-1 : Int32) Mm4))
abbrev rm_X12_wrongRow : Room := { frames := 1, cells := 0, slots := 0, locals := 22 }
set_option maxHeartbeats 4000000 in
set_option maxRecDepth 100000 in
theorem c_X12_wrongRow (l : Launch) {G : Gn} {M : Mem} {x1 : Int32} {P : Int32 → Mem → Prop} : MQi l yX12_wrongRow cX12_wrongRow 2 (some .int) rm_X12_wrongRow [.ref (ad G 10 0), .int x1] G M (s_X12_wrongRow M x1 P) P := by
  refine m_enter (by decide +kernel) (Nat.le_of_ble_eq_true rfl) ?_
  intro p e s m below meth c ls H locs S hret hlocks hname hK hbs hW hS hl h
  obtain ⟨AV, hAV⟩ : ∃ z : Array Value, z = ([.ref (ad G 10 0), .int x1] : List Value).toArray := ⟨_, rfl⟩
  rw [← hAV] at S ⊢
  replace S : CallFix p m c cX12_wrongRow 2 s AV lw_G "MilkDeskModel" := S
  have hx := S.1
  have hb := S.2.1
  have hml := S.2.2.1
  have hown := S.2.2.2.1
  have hts := S.2.2.2.2
  replace hl : lv_has ls 2 [(0, .ref (ad G 10 0)), (1, .int x1)] := hl
  unfold s_X12_wrongRow at h
  refine lv_iload_n hx hb dX12_wrongRow_0 rfl (lv_at hl 1 rfl) ?_
  refine lv_iconst hx hb dX12_wrongRow_1 ki_0 ?_
  refine lv_bipush hx hb dX12_wrongRow_2 kb_7 ?_
  refine m_ci0 (m_rS S hK hW (m_szH hbs hS) (c_X12_in l ) h lk_X12_131 rfl hl.1 rfl ⟨Nat.le_of_ble_eq_true rfl, Nat.le_of_ble_eq_true rfl⟩ (Nat.le_of_ble_eq_true rfl) ⟨Nat.zero_le _, Nat.zero_le _⟩ dX12_wrongRow_4) hS rfl rfl (fun rr4 Mm4 H locs h hW hS => ?_)
  refine lv_if_ne (tgt := 14) hx hb dX12_wrongRow_7 (by decide) (fun c7 => ?_) (fun c7 => ?_)
  · replace h := h.1 c7
    refine lv_aload_n hx hb dX12_wrongRow_14 rfl (lv_at hl 0 rfl) ?_
    refine m_getr S hK fk_X12_102 (gr_10_45 G 0) hW (ci_10 (Nat.le_of_ble_eq_true rfl)) dX12_wrongRow_15 ?_
    refine lv_iload_n hx hb dX12_wrongRow_18 rfl (lv_at hl 1 rfl) ?_
    obtain ⟨hb19, h⟩ := h
    refine m_ald S hK (ar_72 G) hW (ci_72 (Nat.le_of_ble_eq_true rfl)) hb19 dX12_wrongRow_19 ?_
    refine lv_if_ne (tgt := 28) hx hb dX12_wrongRow_20 (by decide) (fun c20 => ?_) (fun c20 => ?_)
    · replace h := h.1 c20
      refine lv_aload_n hx hb dX12_wrongRow_28 rfl (lv_at hl 0 rfl) ?_
      refine m_getr S hK fk_X12_102 (gr_10_45 G 0) hW (ci_10 (Nat.le_of_ble_eq_true rfl)) dX12_wrongRow_29 ?_
      refine lv_iload_n hx hb dX12_wrongRow_32 rfl (lv_at hl 1 rfl) ?_
      obtain ⟨hb33, h⟩ := h
      refine m_ald S hK (ar_72 G) hW (ci_72 (Nat.le_of_ble_eq_true rfl)) hb33 dX12_wrongRow_33 ?_
      refine lv_iconst hx hb dX12_wrongRow_34 ki_2 ?_
      refine lv_icmp_eq (tgt := 43) hx hb dX12_wrongRow_35 (by decide) (fun c35 => ?_) (fun c35 => ?_)
      · replace h := h.1 c35
        refine lv_iconst hx hb dX12_wrongRow_43 ki_0 ?_
        exact m_iret S hret hlocks hK hW hbs hS rfl h dX12_wrongRow_44
      · replace h := h.2 c35
        refine lv_bipush hx hb dX12_wrongRow_38 kb_m12 ?_
        refine lv_goto (tgt := 44) hx hb dX12_wrongRow_40 (by decide) ?_
        exact m_iret S hret hlocks hK hW hbs hS rfl h dX12_wrongRow_44
    · replace h := h.2 c20
      refine lv_bipush hx hb dX12_wrongRow_23 kb_m11 ?_
      refine lv_goto (tgt := 44) hx hb dX12_wrongRow_25 (by decide) ?_
      exact m_iret S hret hlocks hK hW hbs hS rfl h dX12_wrongRow_44
  · replace h := h.2 c7
    refine lv_iconst hx hb dX12_wrongRow_10 ki_m1 ?_
    refine lv_goto (tgt := 44) hx hb dX12_wrongRow_11 (by decide) ?_
    exact m_iret S hret hlocks hK hW hbs hS rfl h dX12_wrongRow_44
def s_X12_narrowed (M : Mem) (x0 : Int32) (x1 : Int32) (P : Int64 → Mem → Prop) : Prop :=
  (¬ x1 = 0 → (¬ x1 = (1 : Int32) → P (x0.toInt64) M) ∧ (x1 = (1 : Int32) → P ((x0.toInt16.toInt32).toInt64) M)) ∧ (x1 = 0 → P ((x0.toInt8.toInt32).toInt64) M)
abbrev rm_X12_narrowed : Room := { frames := 0, cells := 0, slots := 0, locals := 0 }
set_option maxHeartbeats 4000000 in
set_option maxRecDepth 100000 in
theorem c_X12_narrowed (l : Launch) {G : Gn} {M : Mem} {x0 : Int32} {x1 : Int32} {P : Int64 → Mem → Prop} : MQl l yX12_narrowed cX12_narrowed 2 (some .long) rm_X12_narrowed [.int x0, .int x1] G M (s_X12_narrowed M x0 x1 P) P := by
  refine m_enter (by decide +kernel) (Nat.le_of_ble_eq_true rfl) ?_
  intro p e s m below meth c ls H locs S hret hlocks hname hK hbs hW hS hl h
  obtain ⟨AV, hAV⟩ : ∃ z : Array Value, z = ([.int x0, .int x1] : List Value).toArray := ⟨_, rfl⟩
  rw [← hAV] at S ⊢
  replace S : CallFix p m c cX12_narrowed 2 s AV lw_G "MilkDeskModel" := S
  have hx := S.1
  have hb := S.2.1
  have hml := S.2.2.1
  have hown := S.2.2.2.1
  have hts := S.2.2.2.2
  replace hl : lv_has ls 2 [(0, .int x0), (1, .int x1)] := hl
  unfold s_X12_narrowed at h
  refine lv_iload_n hx hb dX12_narrowed_0 rfl (lv_at hl 1 rfl) ?_
  refine lv_if_ne (tgt := 10) hx hb dX12_narrowed_1 (by decide) (fun c1 => ?_) (fun c1 => ?_)
  · replace h := h.1 c1
    refine lv_iload_n hx hb dX12_narrowed_10 rfl (lv_at hl 1 rfl) ?_
    refine lv_iconst hx hb dX12_narrowed_11 ki_1 ?_
    refine lv_icmp_ne (tgt := 21) hx hb dX12_narrowed_12 (by decide) (fun c12 => ?_) (fun c12 => ?_)
    · replace h := h.1 c12
      refine lv_iload_n hx hb dX12_narrowed_21 rfl (lv_at hl 0 rfl) ?_
      refine lv_i2l hx hb dX12_narrowed_22 rfl ?_
      exact m_lret S hret hlocks hK hW hbs hS h dX12_narrowed_23
    · replace h := h.2 c12
      refine lv_iload_n hx hb dX12_narrowed_15 rfl (lv_at hl 0 rfl) ?_
      refine lv_i2s hx hb dX12_narrowed_16 rfl ?_
      refine lv_i2l hx hb dX12_narrowed_17 rfl ?_
      refine lv_goto (tgt := 23) hx hb dX12_narrowed_18 (by decide) ?_
      exact m_lret S hret hlocks hK hW hbs hS h dX12_narrowed_23
  · replace h := h.2 c1
    refine lv_iload_n hx hb dX12_narrowed_4 rfl (lv_at hl 0 rfl) ?_
    refine lv_i2b hx hb dX12_narrowed_5 rfl ?_
    refine lv_i2l hx hb dX12_narrowed_6 rfl ?_
    refine lv_goto (tgt := 23) hx hb dX12_narrowed_7 (by decide) ?_
    exact m_lret S hret hlocks hK hW hbs hS h dX12_narrowed_23
def s_X12_put (M : Mem) (x1 : Int32) (x2 : Int32) (x3 : Int32) (P : Int32 → Mem → Prop) : Prop :=
  ∀ Mm2 : Mem, Mm2 = wI M 10 0 0 (0 : Int32) → s_X12_wrongRow Mm2 x1 (fun rr7 Mm7 => (0 ≤ rr7 → vp_in x1 8 ∧ (s_X12_in Mm7 x2 (0 : Int32) ((Mm7.1 77 0 x1.toNatClampNeg) - (1 : Int32)) (fun rr30 Mm30 => (¬ rr30 = 0 → vp_in x1 8 ∧ (s_X12_narrowed Mm30 x3 (Mm30.1 76 0 x1.toNatClampNeg) (fun rr56 Mm56 => vp_in (((80 : Int32) * x1) + x2) 640 ∧ (∀ Mm59 : Mem, Mm59 = wJ Mm56 78 0 ((((80 : Int32) * x1) + x2).toNatClampNeg) rr56 → P (0 : Int32) Mm59)))) ∧ (rr30 = 0 → P (-13 : Int32) Mm30)))) ∧ (¬ 0 ≤ rr7 → P rr7 Mm7))
abbrev rm_X12_put : Room := { frames := 2, cells := 0, slots := 0, locals := 43 }
set_option maxHeartbeats 4000000 in
set_option maxRecDepth 100000 in
theorem c_X12_put (l : Launch) {G : Gn} {M : Mem} {x1 : Int32} {x2 : Int32} {x3 : Int32} {P : Int32 → Mem → Prop} : MQi l yX12_put cX12_put 5 (some .int) rm_X12_put [.ref (ad G 10 0), .int x1, .int x2, .int x3] G M (s_X12_put M x1 x2 x3 P) P := by
  refine m_enter (by decide +kernel) (Nat.le_of_ble_eq_true rfl) ?_
  intro p e s m below meth c ls H locs S hret hlocks hname hK hbs hW hS hl h
  obtain ⟨AV, hAV⟩ : ∃ z : Array Value, z = ([.ref (ad G 10 0), .int x1, .int x2, .int x3] : List Value).toArray := ⟨_, rfl⟩
  rw [← hAV] at S ⊢
  replace S : CallFix p m c cX12_put 5 s AV lw_G "MilkDeskModel" := S
  have hx := S.1
  have hb := S.2.1
  have hml := S.2.2.1
  have hown := S.2.2.2.1
  have hts := S.2.2.2.2
  replace hl : lv_has ls 5 [(0, .ref (ad G 10 0)), (1, .int x1), (2, .int x2), (3, .int x3)] := hl
  unfold s_X12_put at h
  refine lv_aload_n hx hb dX12_put_0 rfl (lv_at hl 0 rfl) ?_
  refine lv_iconst hx hb dX12_put_1 ki_0 ?_
  refine m_put S hK fk_X12_128 tyX12_ok nmX12 rfl pf_X12_0 (pv_10_0 G) hW hS (ci_10 (Nat.le_of_ble_eq_true rfl)) rfl rfl dX12_put_2 (fun Mm2 eMm2 H locs hW hS => ?_)
  replace h := h Mm2 eMm2
  refine lv_aload_n hx hb dX12_put_5 rfl (lv_at hl 0 rfl) ?_
  refine lv_iload_n hx hb dX12_put_6 rfl (lv_at hl 1 rfl) ?_
  refine m_ci0 (m_rV S hK hW (m_szH hbs hS) (c_X12_wrongRow l ) h lk_X12_341 (m_recv hK hW (ci_10 (Nat.le_of_ble_eq_true rfl)) (rc_10 G) rfl) rfl hl.1 rfl ⟨Nat.le_of_ble_eq_true rfl, Nat.le_of_ble_eq_true rfl⟩ (Nat.le_of_ble_eq_true rfl) ⟨Nat.zero_le _, Nat.zero_le _⟩ dX12_put_7) hS rfl rfl (fun rr7 Mm7 H locs h hW hS => ?_)
  refine lv_istore (lv' := [(4, .int rr7), (0, .ref (ad G 10 0)), (1, .int x1), (2, .int x2), (3, .int x3)]) hx hb dX12_put_10 hl (by decide) rfl (fun ls hl => ?_)
  refine lv_iload hx hb dX12_put_12 (lv_at hl 0 rfl) ?_
  refine lv_if_ge (tgt := 20) hx hb dX12_put_14 (by decide) (fun c14 => ?_) (fun c14 => ?_)
  · replace h := h.1 c14
    refine lv_iload_n hx hb dX12_put_20 rfl (lv_at hl 3 rfl) ?_
    refine lv_iconst hx hb dX12_put_21 ki_0 ?_
    refine lv_aload_n hx hb dX12_put_22 rfl (lv_at hl 1 rfl) ?_
    refine m_getr S hK fk_X12_117 (gr_10_50 G 0) hW (ci_10 (Nat.le_of_ble_eq_true rfl)) dX12_put_23 ?_
    refine lv_iload_n hx hb dX12_put_26 rfl (lv_at hl 2 rfl) ?_
    obtain ⟨hb27, h⟩ := h
    refine m_ald S hK (ar_77 G) hW (ci_77 (Nat.le_of_ble_eq_true rfl)) hb27 dX12_put_27 ?_
    refine lv_iconst hx hb dX12_put_28 ki_1 ?_
    refine lv_isub hx hb dX12_put_29 ?_
    refine m_ci0 (m_rS S hK hW (m_szH hbs hS) (c_X12_in l ) h lk_X12_131 rfl hl.1 rfl ⟨Nat.le_of_ble_eq_true rfl, Nat.le_of_ble_eq_true rfl⟩ (Nat.le_of_ble_eq_true rfl) ⟨Nat.zero_le _, Nat.zero_le _⟩ dX12_put_30) hS rfl rfl (fun rr30 Mm30 H locs h hW hS => ?_)
    refine lv_if_ne (tgt := 39) hx hb dX12_put_33 (by decide) (fun c33 => ?_) (fun c33 => ?_)
    · replace h := h.1 c33
      refine lv_aload_n hx hb dX12_put_39 rfl (lv_at hl 1 rfl) ?_
      refine m_getr S hK fk_X12_120 (gr_10_51 G 0) hW (ci_10 (Nat.le_of_ble_eq_true rfl)) dX12_put_40 ?_
      refine lv_bipush hx hb dX12_put_43 kb_80 ?_
      refine lv_iload_n hx hb dX12_put_45 rfl (lv_at hl 2 rfl) ?_
      refine lv_imul hx hb dX12_put_46 ?_
      refine lv_iload_n hx hb dX12_put_47 rfl (lv_at hl 3 rfl) ?_
      refine lv_iadd hx hb dX12_put_48 ?_
      refine lv_iload_n hx hb dX12_put_49 rfl (lv_at hl 4 rfl) ?_
      refine lv_aload_n hx hb dX12_put_50 rfl (lv_at hl 1 rfl) ?_
      refine m_getr S hK fk_X12_114 (gr_10_49 G 0) hW (ci_10 (Nat.le_of_ble_eq_true rfl)) dX12_put_51 ?_
      refine lv_iload_n hx hb dX12_put_54 rfl (lv_at hl 2 rfl) ?_
      obtain ⟨hb55, h⟩ := h
      refine m_ald S hK (ar_76 G) hW (ci_76 (Nat.le_of_ble_eq_true rfl)) hb55 dX12_put_55 ?_
      refine m_cl0 (m_rS S hK hW (m_szH hbs hS) (c_X12_narrowed l ) h lk_X12_344 rfl hl.1 rfl ⟨Nat.le_of_ble_eq_true rfl, Nat.le_of_ble_eq_true rfl⟩ (Nat.le_of_ble_eq_true rfl) ⟨Nat.zero_le _, Nat.zero_le _⟩ dX12_put_56) hS rfl rfl (fun rr56 Mm56 H locs h hW hS => ?_)
      obtain ⟨hb59, h⟩ := h
      refine m_jast S hK (ar_78 G) hW hS (ci_78 (Nat.le_of_ble_eq_true rfl)) hb59 dX12_put_59 (fun Mm59 eMm59 H locs hW hS => ?_)
      replace h := h Mm59 eMm59
      refine lv_iconst hx hb dX12_put_60 ki_0 ?_
      exact m_iret S hret hlocks hK hW hbs hS rfl h dX12_put_61
    · replace h := h.2 c33
      refine lv_bipush hx hb dX12_put_36 kb_m13 ?_
      exact m_iret S hret hlocks hK hW hbs hS rfl h dX12_put_38
  · replace h := h.2 c14
    refine lv_iload hx hb dX12_put_17 (lv_at hl 0 rfl) ?_
    exact m_iret S hret hlocks hK hW hbs hS rfl h dX12_put_19
def s_X12_element_41 (x1 : Int32) (x2 : Int32) (P : Int64 → Mem → Prop) (M : Mem) (y0 : Int32) : Prop :=
  ∀ Mm41 : Mem, Mm41 = wI M 10 0 0 y0 → ((Mm41.1 10 0 0) ≤ 0 → vp_in (((80 : Int32) * x1) + x2) 640 ∧ (P (Mm41.2.1 78 0 (((80 : Int32) * x1) + x2).toNatClampNeg) Mm41)) ∧ (¬ (Mm41.1 10 0 0) ≤ 0 → P (0 : Int64) Mm41)
def s_X12_element (M : Mem) (x1 : Int32) (x2 : Int32) (P : Int64 → Mem → Prop) : Prop :=
  s_X12_wrongRow M x1 (fun rr2 Mm2 => (¬ rr2 = (-1 : Int32) → (rr2 < 0 → s_X12_element_41 x1 x2 P Mm2 (2 : Int32)) ∧ (¬ rr2 < 0 → vp_in x1 8 ∧ (s_X12_in Mm2 x2 (0 : Int32) ((Mm2.1 77 0 x1.toNatClampNeg) - (1 : Int32)) (fun rr30 Mm30 => (¬ rr30 = 0 → s_X12_element_41 x1 x2 P Mm30 (0 : Int32)) ∧ (rr30 = 0 → s_X12_element_41 x1 x2 P Mm30 (2 : Int32)))))) ∧ (rr2 = (-1 : Int32) → s_X12_element_41 x1 x2 P Mm2 (1 : Int32)))
abbrev rm_X12_element : Room := { frames := 2, cells := 0, slots := 0, locals := 43 }
set_option maxHeartbeats 4000000 in
set_option maxRecDepth 100000 in
theorem c_X12_element (l : Launch) {G : Gn} {M : Mem} {x1 : Int32} {x2 : Int32} {P : Int64 → Mem → Prop} : MQl l yX12_element cX12_element 4 (some .long) rm_X12_element [.ref (ad G 10 0), .int x1, .int x2] G M (s_X12_element M x1 x2 P) P := by
  refine m_enter (by decide +kernel) (Nat.le_of_ble_eq_true rfl) ?_
  intro p e s m below meth c ls H locs S hret hlocks hname hK hbs hW hS hl h
  obtain ⟨AV, hAV⟩ : ∃ z : Array Value, z = ([.ref (ad G 10 0), .int x1, .int x2] : List Value).toArray := ⟨_, rfl⟩
  rw [← hAV] at S ⊢
  replace S : CallFix p m c cX12_element 4 s AV lw_G "MilkDeskModel" := S
  have hx := S.1
  have hb := S.2.1
  have hml := S.2.2.1
  have hown := S.2.2.2.1
  have hts := S.2.2.2.2
  replace hl : lv_has ls 4 [(0, .ref (ad G 10 0)), (1, .int x1), (2, .int x2)] := hl
  have b41 : ∀ (M : Mem) (y0 : Int32) (H : Heap) (locs : List Loc) (ls : Array Slot), WPm G M H → va_S (fun q => bs G ≤ q) s.heap H locs → lv_has ls 4 [(0, .ref (ad G 10 0)), (1, .int x1), (2, .int x2)] → s_X12_element_41 x1 x2 P M y0 → W p l e rm_X12_element s m AV below meth c H locs 0 0 (MQ below (va_Ql P (WS G) (fun q => bs G ≤ q)) AV s 0 0 (fun q => bs G ≤ q)) (F0 m 41 ls [.int y0, .ref (ad G 10 0)]) := by
    intro M y0 H locs ls hW hS hl h
    unfold s_X12_element_41 at h
    refine m_put S hK fk_X12_128 tyX12_ok nmX12 rfl pf_X12_0 (pv_10_0 G) hW hS (ci_10 (Nat.le_of_ble_eq_true rfl)) rfl rfl dX12_element_41 (fun Mm41 eMm41 H locs hW hS => ?_)
    replace h := h Mm41 eMm41
    refine lv_aload_n hx hb dX12_element_44 rfl (lv_at hl 0 rfl) ?_
    refine m_geti S hK fk_X12_128 (gi_10_0 G) hW (ci_10 (Nat.le_of_ble_eq_true rfl)) dX12_element_45 ?_
    refine lv_if_le (tgt := 55) hx hb dX12_element_48 (by decide) (fun c48 => ?_) (fun c48 => ?_)
    · replace h := h.1 c48
      refine lv_aload_n hx hb dX12_element_55 rfl (lv_at hl 0 rfl) ?_
      refine m_getr S hK fk_X12_120 (gr_10_51 G 0) hW (ci_10 (Nat.le_of_ble_eq_true rfl)) dX12_element_56 ?_
      refine lv_bipush hx hb dX12_element_59 kb_80 ?_
      refine lv_iload_n hx hb dX12_element_61 rfl (lv_at hl 1 rfl) ?_
      refine lv_imul hx hb dX12_element_62 ?_
      refine lv_iload_n hx hb dX12_element_63 rfl (lv_at hl 2 rfl) ?_
      refine lv_iadd hx hb dX12_element_64 ?_
      obtain ⟨hb65, h⟩ := h
      refine m_jald S hK (ar_78 G) hW (ci_78 (Nat.le_of_ble_eq_true rfl)) hb65 dX12_element_65 ?_
      exact m_lret S hret hlocks hK hW hbs hS h dX12_element_66
    · replace h := h.2 c48
      refine lv_lconst (v := (0 : Int64)) hx hb dX12_element_51 (by decide +kernel) ?_
      refine lv_goto (tgt := 66) hx hb dX12_element_52 (by decide) ?_
      exact m_lret S hret hlocks hK hW hbs hS h dX12_element_66
  unfold s_X12_element at h
  refine lv_aload_n hx hb dX12_element_0 rfl (lv_at hl 0 rfl) ?_
  refine lv_iload_n hx hb dX12_element_1 rfl (lv_at hl 1 rfl) ?_
  refine m_ci0 (m_rV S hK hW (m_szH hbs hS) (c_X12_wrongRow l ) h lk_X12_341 (m_recv hK hW (ci_10 (Nat.le_of_ble_eq_true rfl)) (rc_10 G) rfl) rfl hl.1 rfl ⟨Nat.le_of_ble_eq_true rfl, Nat.le_of_ble_eq_true rfl⟩ (Nat.le_of_ble_eq_true rfl) ⟨Nat.zero_le _, Nat.zero_le _⟩ dX12_element_2) hS rfl rfl (fun rr2 Mm2 H locs h hW hS => ?_)
  refine lv_istore_n (lv' := [(3, .int rr2), (0, .ref (ad G 10 0)), (1, .int x1), (2, .int x2)]) hx hb dX12_element_5 rfl hl (by decide) rfl (fun ls hl => ?_)
  refine lv_aload_n hx hb dX12_element_6 rfl (lv_at hl 1 rfl) ?_
  refine lv_iload_n hx hb dX12_element_7 rfl (lv_at hl 0 rfl) ?_
  refine lv_iconst hx hb dX12_element_8 ki_m1 ?_
  refine lv_icmp_ne (tgt := 16) hx hb dX12_element_9 (by decide) (fun c9 => ?_) (fun c9 => ?_)
  · replace h := h.1 c9
    refine lv_iload_n hx hb dX12_element_16 rfl (lv_at hl 0 rfl) ?_
    refine lv_if_lt (tgt := 36) hx hb dX12_element_17 (by decide) (fun c17 => ?_) (fun c17 => ?_)
    · replace h := h.1 c17
      refine lv_iconst hx hb dX12_element_36 ki_2 ?_
      refine lv_goto (tgt := 41) hx hb dX12_element_37 (by decide) ?_
      exact b41 _ _ H locs ls hW hS (lv_sub hl [1, 2, 3] rfl) h
    · replace h := h.2 c17
      refine lv_iload_n hx hb dX12_element_20 rfl (lv_at hl 3 rfl) ?_
      refine lv_iconst hx hb dX12_element_21 ki_0 ?_
      refine lv_aload_n hx hb dX12_element_22 rfl (lv_at hl 1 rfl) ?_
      refine m_getr S hK fk_X12_117 (gr_10_50 G 0) hW (ci_10 (Nat.le_of_ble_eq_true rfl)) dX12_element_23 ?_
      refine lv_iload_n hx hb dX12_element_26 rfl (lv_at hl 2 rfl) ?_
      obtain ⟨hb27, h⟩ := h
      refine m_ald S hK (ar_77 G) hW (ci_77 (Nat.le_of_ble_eq_true rfl)) hb27 dX12_element_27 ?_
      refine lv_iconst hx hb dX12_element_28 ki_1 ?_
      refine lv_isub hx hb dX12_element_29 ?_
      refine m_ci0 (m_rS S hK hW (m_szH hbs hS) (c_X12_in l ) h lk_X12_131 rfl hl.1 rfl ⟨Nat.le_of_ble_eq_true rfl, Nat.le_of_ble_eq_true rfl⟩ (Nat.le_of_ble_eq_true rfl) ⟨Nat.zero_le _, Nat.zero_le _⟩ dX12_element_30) hS rfl rfl (fun rr30 Mm30 H locs h hW hS => ?_)
      refine lv_if_ne (tgt := 40) hx hb dX12_element_33 (by decide) (fun c33 => ?_) (fun c33 => ?_)
      · replace h := h.1 c33
        refine lv_iconst hx hb dX12_element_40 ki_0 ?_
        exact b41 _ _ H locs ls hW hS (lv_sub hl [1, 2, 3] rfl) h
      · replace h := h.2 c33
        refine lv_iconst hx hb dX12_element_36 ki_2 ?_
        refine lv_goto (tgt := 41) hx hb dX12_element_37 (by decide) ?_
        exact b41 _ _ H locs ls hW hS (lv_sub hl [1, 2, 3] rfl) h
  · replace h := h.2 c9
    refine lv_iconst hx hb dX12_element_12 ki_1 ?_
    refine lv_goto (tgt := 41) hx hb dX12_element_13 (by decide) ?_
    exact b41 _ _ H locs ls hW hS (lv_sub hl [1, 2, 3] rfl) h
def s_X12_copy_170 (x3 : Int32) (x4 : Int32) (x5 : Int32) (P : Int32 → Mem → Prop) (K170 : Mem × Int32 → Prop) (M : Mem) (x6 : Int32) : Prop :=
  (x5 ≤ x6 → P x5 M) ∧ (¬ x5 ≤ x6 → vp_in x6 80 ∧ (vp_in ((((80 : Int32) * x3) + x4) + x6) 640 ∧ (∀ Mm198 : Mem, Mm198 = wJ M 78 0 (((((80 : Int32) * x3) + x4) + x6).toNatClampNeg) (M.2.1 79 0 x6.toNatClampNeg) → ∀ x6_199 : Int32, x6_199 = x6 + (1 : Int32) → K170 (Mm198, x6_199))))
def s_X12_copy_133 (x1 : Int32) (x2 : Int32) (x3 : Int32) (x4 : Int32) (x5 : Int32) (P : Int32 → Mem → Prop) (K133 : Mem × Int32 → Prop) (M : Mem) (x6 : Int32) : Prop :=
  (x5 ≤ x6 → ∃ n, Lz (fun (K170 : Mem × Int32 → Prop) (a : Mem × Int32) => s_X12_copy_170 x3 x4 x5 P K170 a.1 a.2) n (M, (0 : Int32))) ∧ (¬ x5 ≤ x6 → vp_in ((((80 : Int32) * x1) + x2) + x6) 640 ∧ (vp_in x6 80 ∧ (∀ Mm160 : Mem, Mm160 = wJ M 79 0 (x6.toNatClampNeg) (M.2.1 78 0 ((((80 : Int32) * x1) + x2) + x6).toNatClampNeg) → ∀ x6_161 : Int32, x6_161 = x6 + (1 : Int32) → K133 (Mm160, x6_161))))
def s_X12_copy (M : Mem) (x1 : Int32) (x2 : Int32) (x3 : Int32) (x4 : Int32) (x5 : Int32) (P : Int32 → Mem → Prop) : Prop :=
  ∀ Mm2 : Mem, Mm2 = wI M 10 0 0 (0 : Int32) → s_X12_in Mm2 x1 (0 : Int32) (7 : Int32) (fun rr9 Mm9 => (rr9 = 0 → P (-1 : Int32) Mm9) ∧ (¬ rr9 = 0 → s_X12_in Mm9 x3 (0 : Int32) (7 : Int32) (fun rr19 Mm19 => (¬ rr19 = 0 → vp_in x1 8 ∧ (((Mm19.1 72 0 x1.toNatClampNeg) = 0 → P (-11 : Int32) Mm19) ∧ (¬ (Mm19.1 72 0 x1.toNatClampNeg) = 0 → vp_in x3 8 ∧ ((¬ (Mm19.1 72 0 x3.toNatClampNeg) = 0 → vp_in x1 8 ∧ ((¬ (Mm19.1 72 0 x1.toNatClampNeg) = (2 : Int32) → P (-12 : Int32) Mm19) ∧ ((Mm19.1 72 0 x1.toNatClampNeg) = (2 : Int32) → vp_in x3 8 ∧ ((¬ (Mm19.1 72 0 x3.toNatClampNeg) = (2 : Int32) → P (-12 : Int32) Mm19) ∧ ((Mm19.1 72 0 x3.toNatClampNeg) = (2 : Int32) → vp_in x1 8 ∧ (vp_in x3 8 ∧ (((Mm19.1 76 0 x1.toNatClampNeg) = (Mm19.1 76 0 x3.toNatClampNeg) → (x5 < 0 → P (-13 : Int32) Mm19) ∧ (¬ x5 < 0 → (x2 < 0 → P (-13 : Int32) Mm19) ∧ (¬ x2 < 0 → (x4 < 0 → P (-13 : Int32) Mm19) ∧ (¬ x4 < 0 → vp_in x1 8 ∧ ((((Mm19.1 77 0 x1.toNatClampNeg) - x5) < x2 → P (-13 : Int32) Mm19) ∧ (¬ ((Mm19.1 77 0 x1.toNatClampNeg) - x5) < x2 → vp_in x3 8 ∧ ((x4 ≤ ((Mm19.1 77 0 x3.toNatClampNeg) - x5) → ∃ n, Lz (fun (K133 : Mem × Int32 → Prop) (a : Mem × Int32) => s_X12_copy_133 x1 x2 x3 x4 x5 P K133 a.1 a.2) n (Mm19, (0 : Int32))) ∧ (¬ x4 ≤ ((Mm19.1 77 0 x3.toNatClampNeg) - x5) → P (-13 : Int32) Mm19)))))))) ∧ (¬ (Mm19.1 76 0 x1.toNatClampNeg) = (Mm19.1 76 0 x3.toNatClampNeg) → P (-12 : Int32) Mm19)))))))) ∧ ((Mm19.1 72 0 x3.toNatClampNeg) = 0 → P (-11 : Int32) Mm19))))) ∧ (rr19 = 0 → P (-1 : Int32) Mm19))))
abbrev rm_X12_copy : Room := { frames := 1, cells := 0, slots := 0, locals := 22 }
set_option maxHeartbeats 4000000 in
set_option maxRecDepth 100000 in
theorem c_X12_copy (l : Launch) {G : Gn} {M : Mem} {x1 : Int32} {x2 : Int32} {x3 : Int32} {x4 : Int32} {x5 : Int32} {P : Int32 → Mem → Prop} : MQi l yX12_copy cX12_copy 7 (some .int) rm_X12_copy [.ref (ad G 10 0), .int x1, .int x2, .int x3, .int x4, .int x5] G M (s_X12_copy M x1 x2 x3 x4 x5 P) P := by
  refine m_enter (by decide +kernel) (Nat.le_of_ble_eq_true rfl) ?_
  intro p e s m below meth c ls H locs S hret hlocks hname hK hbs hW hS hl h
  obtain ⟨AV, hAV⟩ : ∃ z : Array Value, z = ([.ref (ad G 10 0), .int x1, .int x2, .int x3, .int x4, .int x5] : List Value).toArray := ⟨_, rfl⟩
  rw [← hAV] at S ⊢
  replace S : CallFix p m c cX12_copy 7 s AV lw_G "MilkDeskModel" := S
  have hx := S.1
  have hb := S.2.1
  have hml := S.2.2.1
  have hown := S.2.2.2.1
  have hts := S.2.2.2.2
  replace hl : lv_has ls 7 [(0, .ref (ad G 10 0)), (1, .int x1), (2, .int x2), (3, .int x3), (4, .int x4), (5, .int x5)] := hl
  have w170 : ∀ (n : Nat) (a : Mem × Int32), Lz (fun (K170 : Mem × Int32 → Prop) (a : Mem × Int32) => s_X12_copy_170 x3 x4 x5 P K170 a.1 a.2) n a → ∀ (H : Heap) (locs : List Loc) (ls : Array Slot), WPm G a.1 H → va_S (fun q => bs G ≤ q) s.heap H locs → lv_has ls 7 [(0, .ref (ad G 10 0)), (3, .int x3), (4, .int x4), (5, .int x5), (6, .int a.2)] → W p l e rm_X12_copy s m AV below meth c H locs 0 0 (MQ below (va_Qi P (WS G) (fun q => bs G ≤ q)) AV s 0 0 (fun q => bs G ≤ q)) (F0 m 170 ls []) := by
    refine Lz_walk ?_
    rintro K170 kk170 ⟨M, x6⟩ h H locs ls hW hS hl
    replace h : s_X12_copy_170 x3 x4 x5 P K170 M x6 := h
    replace hW : WPm G M H := hW
    replace hl : lv_has ls 7 [(0, .ref (ad G 10 0)), (3, .int x3), (4, .int x4), (5, .int x5), (6, .int x6)] := hl
    unfold s_X12_copy_170 at h
    refine lv_iload hx hb dX12_copy_170 (lv_at hl 4 rfl) ?_
    refine lv_iload hx hb dX12_copy_172 (lv_at hl 3 rfl) ?_
    refine lv_icmp_ge (tgt := 205) hx hb dX12_copy_174 (by decide) (fun c174 => ?_) (fun c174 => ?_)
    · replace h := h.1 c174
      refine lv_iload hx hb dX12_copy_205 (lv_at hl 3 rfl) ?_
      exact m_iret S hret hlocks hK hW hbs hS rfl h dX12_copy_207
    · replace h := h.2 c174
      refine lv_aload_n hx hb dX12_copy_177 rfl (lv_at hl 0 rfl) ?_
      refine m_getr S hK fk_X12_120 (gr_10_51 G 0) hW (ci_10 (Nat.le_of_ble_eq_true rfl)) dX12_copy_178 ?_
      refine lv_bipush hx hb dX12_copy_181 kb_80 ?_
      refine lv_iload_n hx hb dX12_copy_183 rfl (lv_at hl 1 rfl) ?_
      refine lv_imul hx hb dX12_copy_184 ?_
      refine lv_iload hx hb dX12_copy_185 (lv_at hl 2 rfl) ?_
      refine lv_iadd hx hb dX12_copy_187 ?_
      refine lv_iload hx hb dX12_copy_188 (lv_at hl 4 rfl) ?_
      refine lv_iadd hx hb dX12_copy_190 ?_
      refine lv_aload_n hx hb dX12_copy_191 rfl (lv_at hl 0 rfl) ?_
      refine m_getr S hK fk_X12_124 (gr_10_52 G 0) hW (ci_10 (Nat.le_of_ble_eq_true rfl)) dX12_copy_192 ?_
      refine lv_iload hx hb dX12_copy_195 (lv_at hl 4 rfl) ?_
      obtain ⟨hb197, h⟩ := h
      refine m_jald S hK (ar_79 G) hW (ci_79 (Nat.le_of_ble_eq_true rfl)) hb197 dX12_copy_197 ?_
      obtain ⟨hb198, h⟩ := h
      refine m_jast S hK (ar_78 G) hW hS (ci_78 (Nat.le_of_ble_eq_true rfl)) hb198 dX12_copy_198 (fun Mm198 eMm198 H locs hW hS => ?_)
      replace h := h Mm198 eMm198
      obtain ⟨x6_199, ex6_199⟩ : ∃ z : Int32, z = x6 + (1 : Int32) := ⟨_, rfl⟩
      replace h := h x6_199 ex6_199
      refine lv_iinc (v := x6_199) (lv' := [(6, .int x6_199), (0, .ref (ad G 10 0)), (3, .int x3), (4, .int x4), (5, .int x5)]) hx hb dX12_copy_199 hl (k := 4) rfl (by rw [ex6_199, ki_1]) (by decide) rfl (fun ls hl => ?_)
      refine lv_goto (tgt := 170) hx hb dX12_copy_202 (by decide) ?_
      exact kk170 _ h H locs ls hW hS (lv_sub hl [1, 2, 3, 4, 0] rfl)
  have w133 : ∀ (n : Nat) (a : Mem × Int32), Lz (fun (K133 : Mem × Int32 → Prop) (a : Mem × Int32) => s_X12_copy_133 x1 x2 x3 x4 x5 P K133 a.1 a.2) n a → ∀ (H : Heap) (locs : List Loc) (ls : Array Slot), WPm G a.1 H → va_S (fun q => bs G ≤ q) s.heap H locs → lv_has ls 7 [(0, .ref (ad G 10 0)), (1, .int x1), (2, .int x2), (3, .int x3), (4, .int x4), (5, .int x5), (6, .int a.2)] → W p l e rm_X12_copy s m AV below meth c H locs 0 0 (MQ below (va_Qi P (WS G) (fun q => bs G ≤ q)) AV s 0 0 (fun q => bs G ≤ q)) (F0 m 133 ls []) := by
    refine Lz_walk ?_
    rintro K133 kk133 ⟨M, x6⟩ h H locs ls hW hS hl
    replace h : s_X12_copy_133 x1 x2 x3 x4 x5 P K133 M x6 := h
    replace hW : WPm G M H := hW
    replace hl : lv_has ls 7 [(0, .ref (ad G 10 0)), (1, .int x1), (2, .int x2), (3, .int x3), (4, .int x4), (5, .int x5), (6, .int x6)] := hl
    unfold s_X12_copy_133 at h
    refine lv_iload hx hb dX12_copy_133 (lv_at hl 6 rfl) ?_
    refine lv_iload hx hb dX12_copy_135 (lv_at hl 5 rfl) ?_
    refine lv_icmp_ge (tgt := 167) hx hb dX12_copy_137 (by decide) (fun c137 => ?_) (fun c137 => ?_)
    · replace h := h.1 c137
      refine lv_iconst hx hb dX12_copy_167 ki_0 ?_
      refine lv_istore (lv' := [(6, .int (0 : Int32)), (0, .ref (ad G 10 0)), (1, .int x1), (2, .int x2), (3, .int x3), (4, .int x4), (5, .int x5)]) hx hb dX12_copy_168 hl (by decide) rfl (fun ls hl => ?_)
      obtain ⟨n170, h⟩ := h
      exact w170 n170 _ h H locs ls hW hS (lv_sub hl [1, 4, 5, 6, 0] rfl)
    · replace h := h.2 c137
      refine lv_aload_n hx hb dX12_copy_140 rfl (lv_at hl 0 rfl) ?_
      refine m_getr S hK fk_X12_124 (gr_10_52 G 0) hW (ci_10 (Nat.le_of_ble_eq_true rfl)) dX12_copy_141 ?_
      refine lv_iload hx hb dX12_copy_144 (lv_at hl 6 rfl) ?_
      refine lv_aload_n hx hb dX12_copy_146 rfl (lv_at hl 0 rfl) ?_
      refine m_getr S hK fk_X12_120 (gr_10_51 G 0) hW (ci_10 (Nat.le_of_ble_eq_true rfl)) dX12_copy_147 ?_
      refine lv_bipush hx hb dX12_copy_150 kb_80 ?_
      refine lv_iload_n hx hb dX12_copy_152 rfl (lv_at hl 1 rfl) ?_
      refine lv_imul hx hb dX12_copy_153 ?_
      refine lv_iload_n hx hb dX12_copy_154 rfl (lv_at hl 2 rfl) ?_
      refine lv_iadd hx hb dX12_copy_155 ?_
      refine lv_iload hx hb dX12_copy_156 (lv_at hl 6 rfl) ?_
      refine lv_iadd hx hb dX12_copy_158 ?_
      obtain ⟨hb159, h⟩ := h
      refine m_jald S hK (ar_78 G) hW (ci_78 (Nat.le_of_ble_eq_true rfl)) hb159 dX12_copy_159 ?_
      obtain ⟨hb160, h⟩ := h
      refine m_jast S hK (ar_79 G) hW hS (ci_79 (Nat.le_of_ble_eq_true rfl)) hb160 dX12_copy_160 (fun Mm160 eMm160 H locs hW hS => ?_)
      replace h := h Mm160 eMm160
      obtain ⟨x6_161, ex6_161⟩ : ∃ z : Int32, z = x6 + (1 : Int32) := ⟨_, rfl⟩
      replace h := h x6_161 ex6_161
      refine lv_iinc (v := x6_161) (lv' := [(6, .int x6_161), (0, .ref (ad G 10 0)), (1, .int x1), (2, .int x2), (3, .int x3), (4, .int x4), (5, .int x5)]) hx hb dX12_copy_161 hl (k := 6) rfl (by rw [ex6_161, ki_1]) (by decide) rfl (fun ls hl => ?_)
      refine lv_goto (tgt := 133) hx hb dX12_copy_164 (by decide) ?_
      exact kk133 _ h H locs ls hW hS (lv_sub hl [1, 2, 3, 4, 5, 6, 0] rfl)
  unfold s_X12_copy at h
  refine lv_aload_n hx hb dX12_copy_0 rfl (lv_at hl 0 rfl) ?_
  refine lv_iconst hx hb dX12_copy_1 ki_0 ?_
  refine m_put S hK fk_X12_128 tyX12_ok nmX12 rfl pf_X12_0 (pv_10_0 G) hW hS (ci_10 (Nat.le_of_ble_eq_true rfl)) rfl rfl dX12_copy_2 (fun Mm2 eMm2 H locs hW hS => ?_)
  replace h := h Mm2 eMm2
  refine lv_iload_n hx hb dX12_copy_5 rfl (lv_at hl 1 rfl) ?_
  refine lv_iconst hx hb dX12_copy_6 ki_0 ?_
  refine lv_bipush hx hb dX12_copy_7 kb_7 ?_
  refine m_ci0 (m_rS S hK hW (m_szH hbs hS) (c_X12_in l ) h lk_X12_131 rfl hl.1 rfl ⟨Nat.le_of_ble_eq_true rfl, Nat.le_of_ble_eq_true rfl⟩ (Nat.le_of_ble_eq_true rfl) ⟨Nat.zero_le _, Nat.zero_le _⟩ dX12_copy_9) hS rfl rfl (fun rr9 Mm9 H locs h hW hS => ?_)
  refine lv_if_eq (tgt := 25) hx hb dX12_copy_12 (by decide) (fun c12 => ?_) (fun c12 => ?_)
  · replace h := h.1 c12
    refine lv_iconst hx hb dX12_copy_25 ki_m1 ?_
    exact m_iret S hret hlocks hK hW hbs hS rfl h dX12_copy_26
  · replace h := h.2 c12
    refine lv_iload_n hx hb dX12_copy_15 rfl (lv_at hl 3 rfl) ?_
    refine lv_iconst hx hb dX12_copy_16 ki_0 ?_
    refine lv_bipush hx hb dX12_copy_17 kb_7 ?_
    refine m_ci0 (m_rS S hK hW (m_szH hbs hS) (c_X12_in l ) h lk_X12_131 rfl hl.1 rfl ⟨Nat.le_of_ble_eq_true rfl, Nat.le_of_ble_eq_true rfl⟩ (Nat.le_of_ble_eq_true rfl) ⟨Nat.zero_le _, Nat.zero_le _⟩ dX12_copy_19) hS rfl rfl (fun rr19 Mm19 H locs h hW hS => ?_)
    refine lv_if_ne (tgt := 27) hx hb dX12_copy_22 (by decide) (fun c22 => ?_) (fun c22 => ?_)
    · replace h := h.1 c22
      refine lv_aload_n hx hb dX12_copy_27 rfl (lv_at hl 0 rfl) ?_
      refine m_getr S hK fk_X12_102 (gr_10_45 G 0) hW (ci_10 (Nat.le_of_ble_eq_true rfl)) dX12_copy_28 ?_
      refine lv_iload_n hx hb dX12_copy_31 rfl (lv_at hl 1 rfl) ?_
      obtain ⟨hb32, h⟩ := h
      refine m_ald S hK (ar_72 G) hW (ci_72 (Nat.le_of_ble_eq_true rfl)) hb32 dX12_copy_32 ?_
      refine lv_if_eq (tgt := 45) hx hb dX12_copy_33 (by decide) (fun c33 => ?_) (fun c33 => ?_)
      · replace h := h.1 c33
        refine lv_bipush hx hb dX12_copy_45 kb_m11 ?_
        exact m_iret S hret hlocks hK hW hbs hS rfl h dX12_copy_47
      · replace h := h.2 c33
        refine lv_aload_n hx hb dX12_copy_36 rfl (lv_at hl 0 rfl) ?_
        refine m_getr S hK fk_X12_102 (gr_10_45 G 0) hW (ci_10 (Nat.le_of_ble_eq_true rfl)) dX12_copy_37 ?_
        refine lv_iload_n hx hb dX12_copy_40 rfl (lv_at hl 3 rfl) ?_
        obtain ⟨hb41, h⟩ := h
        refine m_ald S hK (ar_72 G) hW (ci_72 (Nat.le_of_ble_eq_true rfl)) hb41 dX12_copy_41 ?_
        refine lv_if_ne (tgt := 48) hx hb dX12_copy_42 (by decide) (fun c42 => ?_) (fun c42 => ?_)
        · replace h := h.1 c42
          refine lv_aload_n hx hb dX12_copy_48 rfl (lv_at hl 0 rfl) ?_
          refine m_getr S hK fk_X12_102 (gr_10_45 G 0) hW (ci_10 (Nat.le_of_ble_eq_true rfl)) dX12_copy_49 ?_
          refine lv_iload_n hx hb dX12_copy_52 rfl (lv_at hl 1 rfl) ?_
          obtain ⟨hb53, h⟩ := h
          refine m_ald S hK (ar_72 G) hW (ci_72 (Nat.le_of_ble_eq_true rfl)) hb53 dX12_copy_53 ?_
          refine lv_iconst hx hb dX12_copy_54 ki_2 ?_
          refine lv_icmp_ne (tgt := 83) hx hb dX12_copy_55 (by decide) (fun c55 => ?_) (fun c55 => ?_)
          · replace h := h.1 c55
            refine lv_bipush hx hb dX12_copy_83 kb_m12 ?_
            exact m_iret S hret hlocks hK hW hbs hS rfl h dX12_copy_85
          · replace h := h.2 c55
            refine lv_aload_n hx hb dX12_copy_58 rfl (lv_at hl 0 rfl) ?_
            refine m_getr S hK fk_X12_102 (gr_10_45 G 0) hW (ci_10 (Nat.le_of_ble_eq_true rfl)) dX12_copy_59 ?_
            refine lv_iload_n hx hb dX12_copy_62 rfl (lv_at hl 3 rfl) ?_
            obtain ⟨hb63, h⟩ := h
            refine m_ald S hK (ar_72 G) hW (ci_72 (Nat.le_of_ble_eq_true rfl)) hb63 dX12_copy_63 ?_
            refine lv_iconst hx hb dX12_copy_64 ki_2 ?_
            refine lv_icmp_ne (tgt := 83) hx hb dX12_copy_65 (by decide) (fun c65 => ?_) (fun c65 => ?_)
            · replace h := h.1 c65
              refine lv_bipush hx hb dX12_copy_83 kb_m12 ?_
              exact m_iret S hret hlocks hK hW hbs hS rfl h dX12_copy_85
            · replace h := h.2 c65
              refine lv_aload_n hx hb dX12_copy_68 rfl (lv_at hl 0 rfl) ?_
              refine m_getr S hK fk_X12_114 (gr_10_49 G 0) hW (ci_10 (Nat.le_of_ble_eq_true rfl)) dX12_copy_69 ?_
              refine lv_iload_n hx hb dX12_copy_72 rfl (lv_at hl 1 rfl) ?_
              obtain ⟨hb73, h⟩ := h
              refine m_ald S hK (ar_76 G) hW (ci_76 (Nat.le_of_ble_eq_true rfl)) hb73 dX12_copy_73 ?_
              refine lv_aload_n hx hb dX12_copy_74 rfl (lv_at hl 0 rfl) ?_
              refine m_getr S hK fk_X12_114 (gr_10_49 G 0) hW (ci_10 (Nat.le_of_ble_eq_true rfl)) dX12_copy_75 ?_
              refine lv_iload_n hx hb dX12_copy_78 rfl (lv_at hl 3 rfl) ?_
              obtain ⟨hb79, h⟩ := h
              refine m_ald S hK (ar_76 G) hW (ci_76 (Nat.le_of_ble_eq_true rfl)) hb79 dX12_copy_79 ?_
              refine lv_icmp_eq (tgt := 86) hx hb dX12_copy_80 (by decide) (fun c80 => ?_) (fun c80 => ?_)
              · replace h := h.1 c80
                refine lv_iload hx hb dX12_copy_86 (lv_at hl 5 rfl) ?_
                refine lv_if_lt (tgt := 127) hx hb dX12_copy_88 (by decide) (fun c88 => ?_) (fun c88 => ?_)
                · replace h := h.1 c88
                  refine lv_bipush hx hb dX12_copy_127 kb_m13 ?_
                  exact m_iret S hret hlocks hK hW hbs hS rfl h dX12_copy_129
                · replace h := h.2 c88
                  refine lv_iload_n hx hb dX12_copy_91 rfl (lv_at hl 2 rfl) ?_
                  refine lv_if_lt (tgt := 127) hx hb dX12_copy_92 (by decide) (fun c92 => ?_) (fun c92 => ?_)
                  · replace h := h.1 c92
                    refine lv_bipush hx hb dX12_copy_127 kb_m13 ?_
                    exact m_iret S hret hlocks hK hW hbs hS rfl h dX12_copy_129
                  · replace h := h.2 c92
                    refine lv_iload hx hb dX12_copy_95 (lv_at hl 4 rfl) ?_
                    refine lv_if_lt (tgt := 127) hx hb dX12_copy_97 (by decide) (fun c97 => ?_) (fun c97 => ?_)
                    · replace h := h.1 c97
                      refine lv_bipush hx hb dX12_copy_127 kb_m13 ?_
                      exact m_iret S hret hlocks hK hW hbs hS rfl h dX12_copy_129
                    · replace h := h.2 c97
                      refine lv_iload_n hx hb dX12_copy_100 rfl (lv_at hl 2 rfl) ?_
                      refine lv_aload_n hx hb dX12_copy_101 rfl (lv_at hl 0 rfl) ?_
                      refine m_getr S hK fk_X12_117 (gr_10_50 G 0) hW (ci_10 (Nat.le_of_ble_eq_true rfl)) dX12_copy_102 ?_
                      refine lv_iload_n hx hb dX12_copy_105 rfl (lv_at hl 1 rfl) ?_
                      obtain ⟨hb106, h⟩ := h
                      refine m_ald S hK (ar_77 G) hW (ci_77 (Nat.le_of_ble_eq_true rfl)) hb106 dX12_copy_106 ?_
                      refine lv_iload hx hb dX12_copy_107 (lv_at hl 5 rfl) ?_
                      refine lv_isub hx hb dX12_copy_109 ?_
                      refine lv_icmp_gt (tgt := 127) hx hb dX12_copy_110 (by decide) (fun c110 => ?_) (fun c110 => ?_)
                      · replace h := h.1 c110
                        refine lv_bipush hx hb dX12_copy_127 kb_m13 ?_
                        exact m_iret S hret hlocks hK hW hbs hS rfl h dX12_copy_129
                      · replace h := h.2 c110
                        refine lv_iload hx hb dX12_copy_113 (lv_at hl 4 rfl) ?_
                        refine lv_aload_n hx hb dX12_copy_115 rfl (lv_at hl 0 rfl) ?_
                        refine m_getr S hK fk_X12_117 (gr_10_50 G 0) hW (ci_10 (Nat.le_of_ble_eq_true rfl)) dX12_copy_116 ?_
                        refine lv_iload_n hx hb dX12_copy_119 rfl (lv_at hl 3 rfl) ?_
                        obtain ⟨hb120, h⟩ := h
                        refine m_ald S hK (ar_77 G) hW (ci_77 (Nat.le_of_ble_eq_true rfl)) hb120 dX12_copy_120 ?_
                        refine lv_iload hx hb dX12_copy_121 (lv_at hl 5 rfl) ?_
                        refine lv_isub hx hb dX12_copy_123 ?_
                        refine lv_icmp_le (tgt := 130) hx hb dX12_copy_124 (by decide) (fun c124 => ?_) (fun c124 => ?_)
                        · replace h := h.1 c124
                          refine lv_iconst hx hb dX12_copy_130 ki_0 ?_
                          refine lv_istore (lv' := [(6, .int (0 : Int32)), (0, .ref (ad G 10 0)), (1, .int x1), (2, .int x2), (3, .int x3), (4, .int x4), (5, .int x5)]) hx hb dX12_copy_131 hl (by decide) rfl (fun ls hl => ?_)
                          obtain ⟨n133, h⟩ := h
                          exact w133 n133 _ h H locs ls hW hS (lv_sub hl [1, 2, 3, 4, 5, 6, 0] rfl)
                        · replace h := h.2 c124
                          refine lv_bipush hx hb dX12_copy_127 kb_m13 ?_
                          exact m_iret S hret hlocks hK hW hbs hS rfl h dX12_copy_129
              · replace h := h.2 c80
                refine lv_bipush hx hb dX12_copy_83 kb_m12 ?_
                exact m_iret S hret hlocks hK hW hbs hS rfl h dX12_copy_85
        · replace h := h.2 c42
          refine lv_bipush hx hb dX12_copy_45 kb_m11 ?_
          exact m_iret S hret hlocks hK hW hbs hS rfl h dX12_copy_47
    · replace h := h.2 c22
      refine lv_iconst hx hb dX12_copy_25 ki_m1 ?_
      exact m_iret S hret hlocks hK hW hbs hS rfl h dX12_copy_26
def s_X12_wrongShelf (M : Mem) (x1 : Int32) (P : Int32 → Mem → Prop) : Prop :=
  s_X12_in M x1 (0 : Int32) (7 : Int32) (fun rr4 Mm4 => (¬ rr4 = 0 → vp_in x1 8 ∧ ((¬ (Mm4.1 72 0 x1.toNatClampNeg) = 0 → vp_in x1 8 ∧ ((¬ (Mm4.1 72 0 x1.toNatClampNeg) = (2 : Int32) → P (0 : Int32) Mm4) ∧ ((Mm4.1 72 0 x1.toNatClampNeg) = (2 : Int32) → P (-12 : Int32) Mm4))) ∧ ((Mm4.1 72 0 x1.toNatClampNeg) = 0 → P (-11 : Int32) Mm4))) ∧ (rr4 = 0 → P (-1 : Int32) Mm4))
abbrev rm_X12_wrongShelf : Room := { frames := 1, cells := 0, slots := 0, locals := 22 }
set_option maxHeartbeats 4000000 in
set_option maxRecDepth 100000 in
theorem c_X12_wrongShelf (l : Launch) {G : Gn} {M : Mem} {x1 : Int32} {P : Int32 → Mem → Prop} : MQi l yX12_wrongShelf cX12_wrongShelf 2 (some .int) rm_X12_wrongShelf [.ref (ad G 10 0), .int x1] G M (s_X12_wrongShelf M x1 P) P := by
  refine m_enter (by decide +kernel) (Nat.le_of_ble_eq_true rfl) ?_
  intro p e s m below meth c ls H locs S hret hlocks hname hK hbs hW hS hl h
  obtain ⟨AV, hAV⟩ : ∃ z : Array Value, z = ([.ref (ad G 10 0), .int x1] : List Value).toArray := ⟨_, rfl⟩
  rw [← hAV] at S ⊢
  replace S : CallFix p m c cX12_wrongShelf 2 s AV lw_G "MilkDeskModel" := S
  have hx := S.1
  have hb := S.2.1
  have hml := S.2.2.1
  have hown := S.2.2.2.1
  have hts := S.2.2.2.2
  replace hl : lv_has ls 2 [(0, .ref (ad G 10 0)), (1, .int x1)] := hl
  unfold s_X12_wrongShelf at h
  refine lv_iload_n hx hb dX12_wrongShelf_0 rfl (lv_at hl 1 rfl) ?_
  refine lv_iconst hx hb dX12_wrongShelf_1 ki_0 ?_
  refine lv_bipush hx hb dX12_wrongShelf_2 kb_7 ?_
  refine m_ci0 (m_rS S hK hW (m_szH hbs hS) (c_X12_in l ) h lk_X12_131 rfl hl.1 rfl ⟨Nat.le_of_ble_eq_true rfl, Nat.le_of_ble_eq_true rfl⟩ (Nat.le_of_ble_eq_true rfl) ⟨Nat.zero_le _, Nat.zero_le _⟩ dX12_wrongShelf_4) hS rfl rfl (fun rr4 Mm4 H locs h hW hS => ?_)
  refine lv_if_ne (tgt := 14) hx hb dX12_wrongShelf_7 (by decide) (fun c7 => ?_) (fun c7 => ?_)
  · replace h := h.1 c7
    refine lv_aload_n hx hb dX12_wrongShelf_14 rfl (lv_at hl 0 rfl) ?_
    refine m_getr S hK fk_X12_102 (gr_10_45 G 0) hW (ci_10 (Nat.le_of_ble_eq_true rfl)) dX12_wrongShelf_15 ?_
    refine lv_iload_n hx hb dX12_wrongShelf_18 rfl (lv_at hl 1 rfl) ?_
    obtain ⟨hb19, h⟩ := h
    refine m_ald S hK (ar_72 G) hW (ci_72 (Nat.le_of_ble_eq_true rfl)) hb19 dX12_wrongShelf_19 ?_
    refine lv_if_ne (tgt := 28) hx hb dX12_wrongShelf_20 (by decide) (fun c20 => ?_) (fun c20 => ?_)
    · replace h := h.1 c20
      refine lv_aload_n hx hb dX12_wrongShelf_28 rfl (lv_at hl 0 rfl) ?_
      refine m_getr S hK fk_X12_102 (gr_10_45 G 0) hW (ci_10 (Nat.le_of_ble_eq_true rfl)) dX12_wrongShelf_29 ?_
      refine lv_iload_n hx hb dX12_wrongShelf_32 rfl (lv_at hl 1 rfl) ?_
      obtain ⟨hb33, h⟩ := h
      refine m_ald S hK (ar_72 G) hW (ci_72 (Nat.le_of_ble_eq_true rfl)) hb33 dX12_wrongShelf_33 ?_
      refine lv_iconst hx hb dX12_wrongShelf_34 ki_2 ?_
      refine lv_icmp_ne (tgt := 43) hx hb dX12_wrongShelf_35 (by decide) (fun c35 => ?_) (fun c35 => ?_)
      · replace h := h.1 c35
        refine lv_iconst hx hb dX12_wrongShelf_43 ki_0 ?_
        exact m_iret S hret hlocks hK hW hbs hS rfl h dX12_wrongShelf_44
      · replace h := h.2 c35
        refine lv_bipush hx hb dX12_wrongShelf_38 kb_m12 ?_
        refine lv_goto (tgt := 44) hx hb dX12_wrongShelf_40 (by decide) ?_
        exact m_iret S hret hlocks hK hW hbs hS rfl h dX12_wrongShelf_44
    · replace h := h.2 c20
      refine lv_bipush hx hb dX12_wrongShelf_23 kb_m11 ?_
      refine lv_goto (tgt := 44) hx hb dX12_wrongShelf_25 (by decide) ?_
      exact m_iret S hret hlocks hK hW hbs hS rfl h dX12_wrongShelf_44
  · replace h := h.2 c7
    refine lv_iconst hx hb dX12_wrongShelf_10 ki_m1 ?_
    refine lv_goto (tgt := 44) hx hb dX12_wrongShelf_11 (by decide) ?_
    exact m_iret S hret hlocks hK hW hbs hS rfl h dX12_wrongShelf_44
def s_X12_crate (M : Mem) (x1 : Int32) (x2 : Int32) (x3 : Int32) (P : Int32 → Mem → Prop) : Prop :=
  ∀ Mm2 : Mem, Mm2 = wI M 10 0 0 (0 : Int32) → s_X12_in Mm2 x1 (0 : Int32) (7 : Int32) (fun rr9 Mm9 => (rr9 = 0 → P (-1 : Int32) Mm9) ∧ (¬ rr9 = 0 → s_X12_in Mm9 x2 (0 : Int32) (1 : Int32) (fun rr18 Mm18 => (rr18 = 0 → P (-1 : Int32) Mm18) ∧ (¬ rr18 = 0 → s_X12_in Mm18 x3 (0 : Int32) (999 : Int32) (fun rr29 Mm29 => (¬ rr29 = 0 → s_X12_wrongShelf Mm29 x1 (fun rr39 Mm39 => (0 ≤ rr39 → vp_in x1 8 ∧ (∀ x5_58 : Int32, x5_58 = (Mm39.1 74 0 x1.toNatClampNeg) → (¬ x2 = (1 : Int32) → vp_in x1 8 ∧ (∀ z84 : Int32, z84 = (Mm39.1 73 0 x1.toNatClampNeg) → (z84 = (0 : Int32) → P ((3 : Int32) * x5_58) Mm39) ∧ ((z84 = (1 : Int32) → P x5_58 Mm39) ∧ ((z84 = (2 : Int32) → P ((2 : Int32) * x5_58) Mm39) ∧ ((z84 = (3 : Int32) → P (x5_58 / (2 : Int32)) Mm39) ∧ ((¬ z84 = (0 : Int32) → ¬ z84 = (1 : Int32) → ¬ z84 = (2 : Int32) → ¬ z84 = (3 : Int32) → P (0 : Int32) Mm39))))))) ∧ (x2 = (1 : Int32) → vp_in x1 8 ∧ (s_X12_paid Mm39 (Mm39.1 73 0 x1.toNatClampNeg) x5_58 x3 (fun rr74 Mm74 => P rr74 Mm74))))) ∧ (¬ 0 ≤ rr39 → P rr39 Mm39))) ∧ (rr29 = 0 → P (-1 : Int32) Mm29))))))
abbrev rm_X12_crate : Room := { frames := 2, cells := 0, slots := 0, locals := 44 }
set_option maxHeartbeats 4000000 in
set_option maxRecDepth 100000 in
theorem c_X12_crate (l : Launch) {G : Gn} {M : Mem} {x1 : Int32} {x2 : Int32} {x3 : Int32} {P : Int32 → Mem → Prop} : MQi l yX12_crate cX12_crate 6 (some .int) rm_X12_crate [.ref (ad G 10 0), .int x1, .int x2, .int x3] G M (s_X12_crate M x1 x2 x3 P) P := by
  refine m_enter (by decide +kernel) (Nat.le_of_ble_eq_true rfl) ?_
  intro p e s m below meth c ls H locs S hret hlocks hname hK hbs hW hS hl h
  obtain ⟨AV, hAV⟩ : ∃ z : Array Value, z = ([.ref (ad G 10 0), .int x1, .int x2, .int x3] : List Value).toArray := ⟨_, rfl⟩
  rw [← hAV] at S ⊢
  replace S : CallFix p m c cX12_crate 6 s AV lw_G "MilkDeskModel" := S
  have hx := S.1
  have hb := S.2.1
  have hml := S.2.2.1
  have hown := S.2.2.2.1
  have hts := S.2.2.2.2
  replace hl : lv_has ls 6 [(0, .ref (ad G 10 0)), (1, .int x1), (2, .int x2), (3, .int x3)] := hl
  unfold s_X12_crate at h
  refine lv_aload_n hx hb dX12_crate_0 rfl (lv_at hl 0 rfl) ?_
  refine lv_iconst hx hb dX12_crate_1 ki_0 ?_
  refine m_put S hK fk_X12_128 tyX12_ok nmX12 rfl pf_X12_0 (pv_10_0 G) hW hS (ci_10 (Nat.le_of_ble_eq_true rfl)) rfl rfl dX12_crate_2 (fun Mm2 eMm2 H locs hW hS => ?_)
  replace h := h Mm2 eMm2
  refine lv_iload_n hx hb dX12_crate_5 rfl (lv_at hl 1 rfl) ?_
  refine lv_iconst hx hb dX12_crate_6 ki_0 ?_
  refine lv_bipush hx hb dX12_crate_7 kb_7 ?_
  refine m_ci0 (m_rS S hK hW (m_szH hbs hS) (c_X12_in l ) h lk_X12_131 rfl hl.1 rfl ⟨Nat.le_of_ble_eq_true rfl, Nat.le_of_ble_eq_true rfl⟩ (Nat.le_of_ble_eq_true rfl) ⟨Nat.zero_le _, Nat.zero_le _⟩ dX12_crate_9) hS rfl rfl (fun rr9 Mm9 H locs h hW hS => ?_)
  refine lv_if_eq (tgt := 35) hx hb dX12_crate_12 (by decide) (fun c12 => ?_) (fun c12 => ?_)
  · replace h := h.1 c12
    refine lv_iconst hx hb dX12_crate_35 ki_m1 ?_
    exact m_iret S hret hlocks hK hW hbs hS rfl h dX12_crate_36
  · replace h := h.2 c12
    refine lv_iload_n hx hb dX12_crate_15 rfl (lv_at hl 2 rfl) ?_
    refine lv_iconst hx hb dX12_crate_16 ki_0 ?_
    refine lv_iconst hx hb dX12_crate_17 ki_1 ?_
    refine m_ci0 (m_rS S hK hW (m_szH hbs hS) (c_X12_in l ) h lk_X12_131 rfl hl.1 rfl ⟨Nat.le_of_ble_eq_true rfl, Nat.le_of_ble_eq_true rfl⟩ (Nat.le_of_ble_eq_true rfl) ⟨Nat.zero_le _, Nat.zero_le _⟩ dX12_crate_18) hS rfl rfl (fun rr18 Mm18 H locs h hW hS => ?_)
    refine lv_if_eq (tgt := 35) hx hb dX12_crate_21 (by decide) (fun c21 => ?_) (fun c21 => ?_)
    · replace h := h.1 c21
      refine lv_iconst hx hb dX12_crate_35 ki_m1 ?_
      exact m_iret S hret hlocks hK hW hbs hS rfl h dX12_crate_36
    · replace h := h.2 c21
      refine lv_iload_n hx hb dX12_crate_24 rfl (lv_at hl 3 rfl) ?_
      refine lv_iconst hx hb dX12_crate_25 ki_0 ?_
      refine lv_sipush hx hb dX12_crate_26 ks_999 ?_
      refine m_ci0 (m_rS S hK hW (m_szH hbs hS) (c_X12_in l ) h lk_X12_131 rfl hl.1 rfl ⟨Nat.le_of_ble_eq_true rfl, Nat.le_of_ble_eq_true rfl⟩ (Nat.le_of_ble_eq_true rfl) ⟨Nat.zero_le _, Nat.zero_le _⟩ dX12_crate_29) hS rfl rfl (fun rr29 Mm29 H locs h hW hS => ?_)
      refine lv_if_ne (tgt := 37) hx hb dX12_crate_32 (by decide) (fun c32 => ?_) (fun c32 => ?_)
      · replace h := h.1 c32
        refine lv_aload_n hx hb dX12_crate_37 rfl (lv_at hl 0 rfl) ?_
        refine lv_iload_n hx hb dX12_crate_38 rfl (lv_at hl 1 rfl) ?_
        refine m_ci0 (m_rV S hK hW (m_szH hbs hS) (c_X12_wrongShelf l ) h lk_X12_348 (m_recv hK hW (ci_10 (Nat.le_of_ble_eq_true rfl)) (rc_10 G) rfl) rfl hl.1 rfl ⟨Nat.le_of_ble_eq_true rfl, Nat.le_of_ble_eq_true rfl⟩ (Nat.le_of_ble_eq_true rfl) ⟨Nat.zero_le _, Nat.zero_le _⟩ dX12_crate_39) hS rfl rfl (fun rr39 Mm39 H locs h hW hS => ?_)
        refine lv_istore (lv' := [(4, .int rr39), (0, .ref (ad G 10 0)), (1, .int x1), (2, .int x2), (3, .int x3)]) hx hb dX12_crate_42 hl (by decide) rfl (fun ls hl => ?_)
        refine lv_iload hx hb dX12_crate_44 (lv_at hl 0 rfl) ?_
        refine lv_if_ge (tgt := 52) hx hb dX12_crate_46 (by decide) (fun c46 => ?_) (fun c46 => ?_)
        · replace h := h.1 c46
          refine lv_aload_n hx hb dX12_crate_52 rfl (lv_at hl 1 rfl) ?_
          refine m_getr S hK fk_X12_108 (gr_10_47 G 0) hW (ci_10 (Nat.le_of_ble_eq_true rfl)) dX12_crate_53 ?_
          refine lv_iload_n hx hb dX12_crate_56 rfl (lv_at hl 2 rfl) ?_
          obtain ⟨hb57, h⟩ := h
          refine m_ald S hK (ar_74 G) hW (ci_74 (Nat.le_of_ble_eq_true rfl)) hb57 dX12_crate_57 ?_
          refine lv_topi (fun x5_58 ex5_58 => ?_)
          replace h := h x5_58 ex5_58
          refine lv_istore (lv' := [(5, .int x5_58), (4, .int rr39), (0, .ref (ad G 10 0)), (1, .int x1), (2, .int x2), (3, .int x3)]) hx hb dX12_crate_58 hl (by decide) rfl (fun ls hl => ?_)
          refine lv_iload_n hx hb dX12_crate_60 rfl (lv_at hl 4 rfl) ?_
          refine lv_iconst hx hb dX12_crate_61 ki_1 ?_
          refine lv_icmp_ne (tgt := 78) hx hb dX12_crate_62 (by decide) (fun c62 => ?_) (fun c62 => ?_)
          · replace h := h.1 c62
            refine lv_aload_n hx hb dX12_crate_78 rfl (lv_at hl 2 rfl) ?_
            refine m_getr S hK fk_X12_105 (gr_10_46 G 0) hW (ci_10 (Nat.le_of_ble_eq_true rfl)) dX12_crate_79 ?_
            refine lv_iload_n hx hb dX12_crate_82 rfl (lv_at hl 3 rfl) ?_
            obtain ⟨hb83, h⟩ := h
            refine m_ald S hK (ar_73 G) hW (ci_73 (Nat.le_of_ble_eq_true rfl)) hb83 dX12_crate_83 ?_
            refine lv_topi (fun z84 ez84 => ?_)
            replace h := h z84 ez84
            by_cases c84_0 : z84 = (0 : Int32)
            · replace h := h.1 c84_0
              rw [c84_0]
              refine lv_tableIn (off := 32) (tgt := 116) hx hb dX12_crate_84 (by decide +kernel) (by decide +kernel) (by decide +kernel) (by decide) ?_
              refine lv_iconst hx hb dX12_crate_116 ki_3 ?_
              refine lv_iload hx hb dX12_crate_117 (lv_at hl 0 rfl) ?_
              refine lv_imul hx hb dX12_crate_119 ?_
              exact m_iret S hret hlocks hK hW hbs hS rfl h dX12_crate_120
            · replace h := h.2
              by_cases c84_1 : z84 = (1 : Int32)
              · replace h := h.1 c84_1
                rw [c84_1]
                refine lv_tableIn (off := 37) (tgt := 121) hx hb dX12_crate_84 (by decide +kernel) (by decide +kernel) (by decide +kernel) (by decide) ?_
                refine lv_iload hx hb dX12_crate_121 (lv_at hl 0 rfl) ?_
                exact m_iret S hret hlocks hK hW hbs hS rfl h dX12_crate_123
              · replace h := h.2
                by_cases c84_2 : z84 = (2 : Int32)
                · replace h := h.1 c84_2
                  rw [c84_2]
                  refine lv_tableIn (off := 40) (tgt := 124) hx hb dX12_crate_84 (by decide +kernel) (by decide +kernel) (by decide +kernel) (by decide) ?_
                  refine lv_iconst hx hb dX12_crate_124 ki_2 ?_
                  refine lv_iload hx hb dX12_crate_125 (lv_at hl 0 rfl) ?_
                  refine lv_imul hx hb dX12_crate_127 ?_
                  exact m_iret S hret hlocks hK hW hbs hS rfl h dX12_crate_128
                · replace h := h.2
                  by_cases c84_3 : z84 = (3 : Int32)
                  · replace h := h.1 c84_3
                    rw [c84_3]
                    refine lv_tableIn (off := 45) (tgt := 129) hx hb dX12_crate_84 (by decide +kernel) (by decide +kernel) (by decide +kernel) (by decide) ?_
                    refine lv_iload hx hb dX12_crate_129 (lv_at hl 0 rfl) ?_
                    refine lv_iconst hx hb dX12_crate_131 ki_2 ?_
                    refine lv_idiv hx hb dX12_crate_132 nz_2 ?_
                    exact m_iret S hret hlocks hK hW hbs hS rfl h dX12_crate_133
                  · replace h := h.2
                    replace h := h c84_0 c84_1 c84_2 c84_3
                    refine lv_tableOut (tgt := 134) hx hb dX12_crate_84 (m_out 0 3 (fun z h1 h2 => ?_)) (by decide) ?_
                    · have h3 : z = 0 ∨ z = 1 ∨ z = 2 ∨ z = 3 := by omega
                      rcases h3 with rfl | rfl | rfl | rfl
                      · exact lv_neT c84_0 (by decide +kernel)
                      · exact lv_neT c84_1 (by decide +kernel)
                      · exact lv_neT c84_2 (by decide +kernel)
                      · exact lv_neT c84_3 (by decide +kernel)
                    · skip
                      refine lv_iconst hx hb dX12_crate_134 ki_0 ?_
                      exact m_iret S hret hlocks hK hW hbs hS rfl h dX12_crate_135
          · replace h := h.2 c62
            refine lv_aload_n hx hb dX12_crate_65 rfl (lv_at hl 2 rfl) ?_
            refine m_getr S hK fk_X12_105 (gr_10_46 G 0) hW (ci_10 (Nat.le_of_ble_eq_true rfl)) dX12_crate_66 ?_
            refine lv_iload_n hx hb dX12_crate_69 rfl (lv_at hl 3 rfl) ?_
            obtain ⟨hb70, h⟩ := h
            refine m_ald S hK (ar_73 G) hW (ci_73 (Nat.le_of_ble_eq_true rfl)) hb70 dX12_crate_70 ?_
            refine lv_iload hx hb dX12_crate_71 (lv_at hl 0 rfl) ?_
            refine lv_iload_n hx hb dX12_crate_73 rfl (lv_at hl 5 rfl) ?_
            refine m_ci0 (m_rS S hK hW (m_szH hbs hS) (c_X12_paid l ) h lk_X12_285 rfl hl.1 rfl ⟨Nat.le_of_ble_eq_true rfl, Nat.le_of_ble_eq_true rfl⟩ (Nat.le_of_ble_eq_true rfl) ⟨Nat.zero_le _, Nat.zero_le _⟩ dX12_crate_74) hS rfl rfl (fun rr74 Mm74 H locs h hW hS => ?_)
            exact m_iret S hret hlocks hK hW hbs hS rfl h dX12_crate_77
        · replace h := h.2 c46
          refine lv_iload hx hb dX12_crate_49 (lv_at hl 0 rfl) ?_
          exact m_iret S hret hlocks hK hW hbs hS rfl h dX12_crate_51
      · replace h := h.2 c32
        refine lv_iconst hx hb dX12_crate_35 ki_m1 ?_
        exact m_iret S hret hlocks hK hW hbs hS rfl h dX12_crate_36
def s_X12_toss (M : Mem) (x1 : Int32) (P : Int32 → Mem → Prop) : Prop :=
  ∀ Mm2 : Mem, Mm2 = wI M 10 0 0 (0 : Int32) → s_X12_wrongShelf Mm2 x1 (fun rr7 Mm7 => (0 ≤ rr7 → vp_in x1 8 ∧ (((Mm7.1 73 0 x1.toNatClampNeg) = (2 : Int32) → P (-15 : Int32) Mm7) ∧ (¬ (Mm7.1 73 0 x1.toNatClampNeg) = (2 : Int32) → vp_in x1 8 ∧ ((¬ (Mm7.1 74 0 x1.toNatClampNeg) = 0 → vp_in x1 8 ∧ ((¬ (Mm7.1 73 0 x1.toNatClampNeg) = (6 : Int32) → vp_in x1 8 ∧ ((¬ (Mm7.1 73 0 x1.toNatClampNeg) = (5 : Int32) → vp_in x1 8 ∧ (P (Mm7.1 75 0 x1.toNatClampNeg) Mm7)) ∧ ((Mm7.1 73 0 x1.toNatClampNeg) = (5 : Int32) → vp_in x1 8 ∧ (P (Mm7.1 74 0 x1.toNatClampNeg) Mm7)))) ∧ ((Mm7.1 73 0 x1.toNatClampNeg) = (6 : Int32) → vp_in x1 8 ∧ (P ((100 : Int32) + (Mm7.1 75 0 x1.toNatClampNeg)) Mm7)))) ∧ ((Mm7.1 74 0 x1.toNatClampNeg) = 0 → P (-15 : Int32) Mm7))))) ∧ (¬ 0 ≤ rr7 → P rr7 Mm7))
abbrev rm_X12_toss : Room := { frames := 2, cells := 0, slots := 0, locals := 43 }
set_option maxHeartbeats 4000000 in
set_option maxRecDepth 100000 in
theorem c_X12_toss (l : Launch) {G : Gn} {M : Mem} {x1 : Int32} {P : Int32 → Mem → Prop} : MQi l yX12_toss cX12_toss 3 (some .int) rm_X12_toss [.ref (ad G 10 0), .int x1] G M (s_X12_toss M x1 P) P := by
  refine m_enter (by decide +kernel) (Nat.le_of_ble_eq_true rfl) ?_
  intro p e s m below meth c ls H locs S hret hlocks hname hK hbs hW hS hl h
  obtain ⟨AV, hAV⟩ : ∃ z : Array Value, z = ([.ref (ad G 10 0), .int x1] : List Value).toArray := ⟨_, rfl⟩
  rw [← hAV] at S ⊢
  replace S : CallFix p m c cX12_toss 3 s AV lw_G "MilkDeskModel" := S
  have hx := S.1
  have hb := S.2.1
  have hml := S.2.2.1
  have hown := S.2.2.2.1
  have hts := S.2.2.2.2
  replace hl : lv_has ls 3 [(0, .ref (ad G 10 0)), (1, .int x1)] := hl
  unfold s_X12_toss at h
  refine lv_aload_n hx hb dX12_toss_0 rfl (lv_at hl 0 rfl) ?_
  refine lv_iconst hx hb dX12_toss_1 ki_0 ?_
  refine m_put S hK fk_X12_128 tyX12_ok nmX12 rfl pf_X12_0 (pv_10_0 G) hW hS (ci_10 (Nat.le_of_ble_eq_true rfl)) rfl rfl dX12_toss_2 (fun Mm2 eMm2 H locs hW hS => ?_)
  replace h := h Mm2 eMm2
  refine lv_aload_n hx hb dX12_toss_5 rfl (lv_at hl 0 rfl) ?_
  refine lv_iload_n hx hb dX12_toss_6 rfl (lv_at hl 1 rfl) ?_
  refine m_ci0 (m_rV S hK hW (m_szH hbs hS) (c_X12_wrongShelf l ) h lk_X12_348 (m_recv hK hW (ci_10 (Nat.le_of_ble_eq_true rfl)) (rc_10 G) rfl) rfl hl.1 rfl ⟨Nat.le_of_ble_eq_true rfl, Nat.le_of_ble_eq_true rfl⟩ (Nat.le_of_ble_eq_true rfl) ⟨Nat.zero_le _, Nat.zero_le _⟩ dX12_toss_7) hS rfl rfl (fun rr7 Mm7 H locs h hW hS => ?_)
  refine lv_istore_n (lv' := [(2, .int rr7), (0, .ref (ad G 10 0)), (1, .int x1)]) hx hb dX12_toss_10 rfl hl (by decide) rfl (fun ls hl => ?_)
  refine lv_iload_n hx hb dX12_toss_11 rfl (lv_at hl 0 rfl) ?_
  refine lv_if_ge (tgt := 17) hx hb dX12_toss_12 (by decide) (fun c12 => ?_) (fun c12 => ?_)
  · replace h := h.1 c12
    refine lv_aload_n hx hb dX12_toss_17 rfl (lv_at hl 1 rfl) ?_
    refine m_getr S hK fk_X12_105 (gr_10_46 G 0) hW (ci_10 (Nat.le_of_ble_eq_true rfl)) dX12_toss_18 ?_
    refine lv_iload_n hx hb dX12_toss_21 rfl (lv_at hl 2 rfl) ?_
    obtain ⟨hb22, h⟩ := h
    refine m_ald S hK (ar_73 G) hW (ci_73 (Nat.le_of_ble_eq_true rfl)) hb22 dX12_toss_22 ?_
    refine lv_iconst hx hb dX12_toss_23 ki_2 ?_
    refine lv_icmp_eq (tgt := 36) hx hb dX12_toss_24 (by decide) (fun c24 => ?_) (fun c24 => ?_)
    · replace h := h.1 c24
      refine lv_bipush hx hb dX12_toss_36 kb_m15 ?_
      exact m_iret S hret hlocks hK hW hbs hS rfl h dX12_toss_38
    · replace h := h.2 c24
      refine lv_aload_n hx hb dX12_toss_27 rfl (lv_at hl 1 rfl) ?_
      refine m_getr S hK fk_X12_108 (gr_10_47 G 0) hW (ci_10 (Nat.le_of_ble_eq_true rfl)) dX12_toss_28 ?_
      refine lv_iload_n hx hb dX12_toss_31 rfl (lv_at hl 2 rfl) ?_
      obtain ⟨hb32, h⟩ := h
      refine m_ald S hK (ar_74 G) hW (ci_74 (Nat.le_of_ble_eq_true rfl)) hb32 dX12_toss_32 ?_
      refine lv_if_ne (tgt := 39) hx hb dX12_toss_33 (by decide) (fun c33 => ?_) (fun c33 => ?_)
      · replace h := h.1 c33
        refine lv_aload_n hx hb dX12_toss_39 rfl (lv_at hl 1 rfl) ?_
        refine m_getr S hK fk_X12_105 (gr_10_46 G 0) hW (ci_10 (Nat.le_of_ble_eq_true rfl)) dX12_toss_40 ?_
        refine lv_iload_n hx hb dX12_toss_43 rfl (lv_at hl 2 rfl) ?_
        obtain ⟨hb44, h⟩ := h
        refine m_ald S hK (ar_73 G) hW (ci_73 (Nat.le_of_ble_eq_true rfl)) hb44 dX12_toss_44 ?_
        refine lv_bipush hx hb dX12_toss_45 kb_6 ?_
        refine lv_icmp_ne (tgt := 62) hx hb dX12_toss_47 (by decide) (fun c47 => ?_) (fun c47 => ?_)
        · replace h := h.1 c47
          refine lv_aload_n hx hb dX12_toss_62 rfl (lv_at hl 1 rfl) ?_
          refine m_getr S hK fk_X12_105 (gr_10_46 G 0) hW (ci_10 (Nat.le_of_ble_eq_true rfl)) dX12_toss_63 ?_
          refine lv_iload_n hx hb dX12_toss_66 rfl (lv_at hl 2 rfl) ?_
          obtain ⟨hb67, h⟩ := h
          refine m_ald S hK (ar_73 G) hW (ci_73 (Nat.le_of_ble_eq_true rfl)) hb67 dX12_toss_67 ?_
          refine lv_iconst hx hb dX12_toss_68 ki_5 ?_
          refine lv_icmp_ne (tgt := 81) hx hb dX12_toss_69 (by decide) (fun c69 => ?_) (fun c69 => ?_)
          · replace h := h.1 c69
            refine lv_aload_n hx hb dX12_toss_81 rfl (lv_at hl 1 rfl) ?_
            refine m_getr S hK fk_X12_111 (gr_10_48 G 0) hW (ci_10 (Nat.le_of_ble_eq_true rfl)) dX12_toss_82 ?_
            refine lv_iload_n hx hb dX12_toss_85 rfl (lv_at hl 2 rfl) ?_
            obtain ⟨hb86, h⟩ := h
            refine m_ald S hK (ar_75 G) hW (ci_75 (Nat.le_of_ble_eq_true rfl)) hb86 dX12_toss_86 ?_
            exact m_iret S hret hlocks hK hW hbs hS rfl h dX12_toss_87
          · replace h := h.2 c69
            refine lv_aload_n hx hb dX12_toss_72 rfl (lv_at hl 1 rfl) ?_
            refine m_getr S hK fk_X12_108 (gr_10_47 G 0) hW (ci_10 (Nat.le_of_ble_eq_true rfl)) dX12_toss_73 ?_
            refine lv_iload_n hx hb dX12_toss_76 rfl (lv_at hl 2 rfl) ?_
            obtain ⟨hb77, h⟩ := h
            refine m_ald S hK (ar_74 G) hW (ci_74 (Nat.le_of_ble_eq_true rfl)) hb77 dX12_toss_77 ?_
            refine lv_goto (tgt := 87) hx hb dX12_toss_78 (by decide) ?_
            exact m_iret S hret hlocks hK hW hbs hS rfl h dX12_toss_87
        · replace h := h.2 c47
          refine lv_bipush hx hb dX12_toss_50 kb_100 ?_
          refine lv_aload_n hx hb dX12_toss_52 rfl (lv_at hl 1 rfl) ?_
          refine m_getr S hK fk_X12_111 (gr_10_48 G 0) hW (ci_10 (Nat.le_of_ble_eq_true rfl)) dX12_toss_53 ?_
          refine lv_iload_n hx hb dX12_toss_56 rfl (lv_at hl 2 rfl) ?_
          obtain ⟨hb57, h⟩ := h
          refine m_ald S hK (ar_75 G) hW (ci_75 (Nat.le_of_ble_eq_true rfl)) hb57 dX12_toss_57 ?_
          refine lv_iadd hx hb dX12_toss_58 ?_
          refine lv_goto (tgt := 87) hx hb dX12_toss_59 (by decide) ?_
          exact m_iret S hret hlocks hK hW hbs hS rfl h dX12_toss_87
      · replace h := h.2 c33
        refine lv_bipush hx hb dX12_toss_36 kb_m15 ?_
        exact m_iret S hret hlocks hK hW hbs hS rfl h dX12_toss_38
  · replace h := h.2 c12
    refine lv_iload_n hx hb dX12_toss_15 rfl (lv_at hl 0 rfl) ?_
    exact m_iret S hret hlocks hK hW hbs hS rfl h dX12_toss_16
