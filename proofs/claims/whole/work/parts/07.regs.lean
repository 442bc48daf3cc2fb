theorem ks_10000 : (Int16.ofInt 10000).toInt32 = (10000 : Int32) := by decide +kernel
theorem ar_13 (G : Gn) : AI G 13 10 := fun _ _ _ _ => rfl
theorem ci_13 {i : Nat} (h : i < 3) : i < cntK 13 := h
theorem al_10 : Int32.ofNat 10 = (10 : Int32) := by decide +kernel
theorem ki_0 : Int32.ofInt 0 = (0 : Int32) := by decide +kernel
theorem ki_1 : Int32.ofInt 1 = (1 : Int32) := by decide +kernel
theorem mw_653 : Cond.fieldLink "MilkDesk$Act" 28 "MilkDesk$Act" "steps" "[I" ∈ lw_G := lw_Gi 713 (by decide +kernel) rfl
theorem fk_X0_28 : FLK "MilkDesk$Act" 28 0 3 RX0 TX0 4 := ⟨rfl, Nat.le_of_ble_eq_true rfl, mw_653, in_wsX00⟩
theorem ar_14 (G : Gn) : AI G 14 80 := fun _ _ _ _ => rfl
theorem ci_14 {i : Nat} (h : i < 3) : i < cntK 14 := h
theorem kn_0 : (0 : Int32).toNatClampNeg = 0 ∧ ¬ (0 : Int32) < 0 := by decide +kernel
theorem al_80 : Int32.ofNat 80 = (80 : Int32) := by decide +kernel
theorem mw_727 : Cond.code yX0_valueOf cX0_valueOf 3 (some .int) ∈ lw_G := lw_Gi 787 (by decide +kernel) rfl
theorem mw_18 : Cond.initialized yX0_valueOf.cls ∈ lw_G := lw_Gi 78 (by decide +kernel) rfl
theorem mw_726 : Cond.static yX0_valueOf ∈ lw_G := lw_Gi 786 (by decide +kernel) rfl
theorem mw_725 : Cond.methodLink "MilkDesk$Act" 38 yX0_valueOf ∈ lw_G := lw_Gi 785 (by decide +kernel) rfl
theorem lk_X0_38 : LKS "MilkDesk$Act" 38 yX0_valueOf cX0_valueOf 3 (some .int) 2 := ⟨mw_725, mw_726, mw_18, mw_727, by decide +kernel, by decide +kernel, by decide +kernel⟩
theorem kb_m33 : (Int8.ofInt (-33)).toInt32 = (-33 : Int32) := by decide +kernel
theorem ki_2 : Int32.ofInt 2 = (2 : Int32) := by decide +kernel
theorem ki_m1 : Int32.ofInt (-1) = (-1 : Int32) := by decide +kernel
theorem mw_730 : Cond.code yX0_joined cX0_joined 3 (some .int) ∈ lw_G := lw_Gi 790 (by decide +kernel) rfl
theorem mw_729 : Cond.static yX0_joined ∈ lw_G := lw_Gi 789 (by decide +kernel) rfl
theorem mw_728 : Cond.methodLink "MilkDesk$Act" 42 yX0_joined ∈ lw_G := lw_Gi 788 (by decide +kernel) rfl
theorem lk_X0_42 : LKS "MilkDesk$Act" 42 yX0_joined cX0_joined 3 (some .int) 3 := ⟨mw_728, mw_729, mw_18, mw_730, by decide +kernel, by decide +kernel, by decide +kernel⟩
theorem mw_164 : Cond.fieldLink "MilkDesk$ActBook" 21 "MilkDesk$ActBook" "count" "I" ∈ lw_G := lw_Gi 224 (by decide +kernel) rfl
theorem fk_X1_21 : FLK "MilkDesk$ActBook" 21 1 0 RX1 TX1 3 := ⟨rfl, Nat.le_of_ble_eq_true rfl, mw_164, in_wsX10⟩
theorem gi_5_0 (G : Gn) : GVI G 5 1 0 := fun _ _ _ _ => ⟨_, rfl, rfl⟩
theorem ci_5 {i : Nat} (h : i < 3) : i < cntK 5 := h
theorem mw_167 : Cond.fieldLink "MilkDesk$ActBook" 11 "MilkDesk$ActBook" "told" "[LMilkDesk$Act;" ∈ lw_G := lw_Gi 227 (by decide +kernel) rfl
theorem fk_X1_11 : FLK "MilkDesk$ActBook" 11 1 1 RX1 TX1 3 := ⟨rfl, Nat.le_of_ble_eq_true rfl, mw_167, in_wsX10⟩
theorem gr_5_1 (G : Gn) (i : Nat) : GVR G 5 1 1 i (ad G 34 i) := fun _ _ _ => ⟨_, rfl, rfl⟩
theorem mw_168 : Cond.fieldLink "MilkDesk$ActBook" 17 "MilkDesk$ActBook" "struck" "[I" ∈ lw_G := lw_Gi 228 (by decide +kernel) rfl
theorem fk_X1_17 : FLK "MilkDesk$ActBook" 17 1 2 RX1 TX1 3 := ⟨rfl, Nat.le_of_ble_eq_true rfl, mw_168, in_wsX10⟩
theorem gr_5_2 (G : Gn) (i : Nat) : GVR G 5 1 2 i (ad G 35 i) := fun _ _ _ => ⟨_, rfl, rfl⟩
theorem ks_401 : (Int16.ofInt 401).toInt32 = (401 : Int32) := by decide +kernel
theorem ar_35 (G : Gn) : AI G 35 16 := fun _ _ _ _ => rfl
theorem ci_35 {i : Nat} (h : i < 3) : i < cntK 35 := h
theorem pf_X1_0 : parseFieldDescriptor (TX1 0).2.2.1 = some .int := by decide +kernel
theorem pv_5_0 (G : Gn) : PV G 5 1 0 := fun _ _ _ _ _ => ⟨_, rfl, Nat.le_of_ble_eq_true rfl, rfl⟩
theorem mw_674 : Cond.code yX1_has cX1_has 2 (some .boolean) ∈ lw_G := lw_Gi 734 (by decide +kernel) rfl
theorem mw_6 : Cond.initialized yX1_has.cls ∈ lw_G := lw_Gi 66 (by decide +kernel) rfl
theorem mw_672 : Cond.instanceMethod yX1_has ∈ lw_G := lw_Gi 732 (by decide +kernel) rfl
theorem mw_673 : Cond.selects yX1_has.cls yX1_has yX1_has ∈ lw_G := lw_Gi 733 (by decide +kernel) rfl
theorem mw_691 : Cond.methodLink "MilkDesk$ActBook" 25 yX1_has ∈ lw_G := lw_Gi 751 (by decide +kernel) rfl
theorem lk_X1_25 : LKV "MilkDesk$ActBook" 25 yX1_has.cls yX1_has cX1_has 2 (some .boolean) 1 := ⟨mw_691, mw_672, mw_673, mw_6, mw_674, by decide +kernel, by decide +kernel, by decide +kernel⟩
theorem rc_5 (G : Gn) : ∀ w i r q, ∃ fs, Esh G w 5 i r q = .inr (1, fs) := fun _ _ _ _ => ⟨_, rfl⟩
theorem mw_724 : Cond.code yX0_isMet cX0_isMet 6 (some .boolean) ∈ lw_G := lw_Gi 784 (by decide +kernel) rfl
theorem mw_722 : Cond.instanceMethod yX0_isMet ∈ lw_G := lw_Gi 782 (by decide +kernel) rfl
theorem mw_723 : Cond.selects yX0_isMet.cls yX0_isMet yX0_isMet ∈ lw_G := lw_Gi 783 (by decide +kernel) rfl
theorem mw_721 : Cond.methodLink "MilkDesk$ActBook" 29 yX0_isMet ∈ lw_G := lw_Gi 781 (by decide +kernel) rfl
theorem lk_X1_29 : LKV "MilkDesk$ActBook" 29 yX0_isMet.cls yX0_isMet cX0_isMet 6 (some .boolean) 2 := ⟨mw_721, mw_722, mw_723, mw_18, mw_724, by decide +kernel, by decide +kernel, by decide +kernel⟩
theorem mw_648 : Cond.fieldLink "MilkDesk$ActBook" 33 "MilkDesk$Act" "purpose" "I" ∈ lw_G := lw_Gi 708 (by decide +kernel) rfl
theorem fk_X1_33 : FLK "MilkDesk$ActBook" 33 0 0 RX0 TX0 4 := ⟨rfl, Nat.le_of_ble_eq_true rfl, mw_648, in_wsX00⟩
theorem mw_650 : Cond.fieldLink "MilkDesk$ActBook" 36 "MilkDesk$Act" "shire" "I" ∈ lw_G := lw_Gi 710 (by decide +kernel) rfl
theorem fk_X1_36 : FLK "MilkDesk$ActBook" 36 0 1 RX0 TX0 4 := ⟨rfl, Nat.le_of_ble_eq_true rfl, mw_650, in_wsX00⟩
theorem mw_652 : Cond.fieldLink "MilkDesk$ActBook" 39 "MilkDesk$Act" "from" "I" ∈ lw_G := lw_Gi 712 (by decide +kernel) rfl
theorem fk_X1_39 : FLK "MilkDesk$ActBook" 39 0 2 RX0 TX0 4 := ⟨rfl, Nat.le_of_ble_eq_true rfl, mw_652, in_wsX00⟩
theorem mw_690 : Cond.code yX1_couldBeInForce cX1_couldBeInForce 6 (some .boolean) ∈ lw_G := lw_Gi 750 (by decide +kernel) rfl
theorem mw_688 : Cond.instanceMethod yX1_couldBeInForce ∈ lw_G := lw_Gi 748 (by decide +kernel) rfl
theorem mw_689 : Cond.selects yX1_couldBeInForce.cls yX1_couldBeInForce yX1_couldBeInForce ∈ lw_G := lw_Gi 749 (by decide +kernel) rfl
theorem mw_687 : Cond.methodLink "MilkDesk$ActBook" 42 yX1_couldBeInForce ∈ lw_G := lw_Gi 747 (by decide +kernel) rfl
theorem lk_X1_42 : LKV "MilkDesk$ActBook" 42 yX1_couldBeInForce.cls yX1_couldBeInForce cX1_couldBeInForce 6 (some .boolean) 4 := ⟨mw_687, mw_688, mw_689, mw_6, mw_690, by decide +kernel, by decide +kernel, by decide +kernel⟩
theorem mw_817 : Cond.methodLink "MilkDesk" 196 Lib.Math.min.name ∈ lw_G := lw_Gi 877 (by decide +kernel) rfl
theorem mw_472 : Cond.static Lib.Math.min.name ∈ lw_G := lw_Gi 532 (by decide +kernel) rfl
theorem mw_13 : Cond.initialized "java/lang/Math" ∈ lw_G := lw_Gi 73 (by decide +kernel) rfl
theorem mw_473 : Cond.code Lib.Math.min.name Lib.Math.min.code 2 (some .int) ∈ lw_G := lw_Gi 533 (by decide +kernel) rfl
theorem mw_847 : Cond.methodLink "MilkDesk" 306 arraycopyName ∈ lw_G := lw_Gi 907 (by decide +kernel) rfl
theorem mw_645 : Cond.static arraycopyName ∈ lw_G := lw_Gi 705 (by decide +kernel) rfl
theorem mw_19 : Cond.initialized "java/lang/System" ∈ lw_G := lw_Gi 79 (by decide +kernel) rfl
theorem mw_646 : Cond.native arraycopyName ∈ lw_G := lw_Gi 706 (by decide +kernel) rfl
theorem kb_16 : (Int8.ofInt 16).toInt32 = (16 : Int32) := by decide +kernel
theorem mw_846 : Cond.code yX11_copyAll cX11_copyAll 2 none ∈ lw_G := lw_Gi 906 (by decide +kernel) rfl
theorem mw_1 : Cond.initialized yX11_copyAll.cls ∈ lw_G := lw_Gi 61 (by decide +kernel) rfl
theorem mw_845 : Cond.static yX11_copyAll ∈ lw_G := lw_Gi 905 (by decide +kernel) rfl
theorem mt_893 : Cond.methodLinkNest "MilkDesk$ActBook" 46 yX11_copyAll "MilkDesk" ∈ lw_tbl := List.mem_of_getElem? (i := 953) (by decide +kernel)
theorem lk_X1_46 : LKN "MilkDesk$ActBook" 46 "MilkDesk" yX11_copyAll cX11_copyAll 2 none 2 := ⟨mt_893, mw_845, mw_1, mw_846, by decide +kernel, by decide +kernel, by decide +kernel⟩
theorem mw_265 : Cond.fieldLink "MilkDesk$ActReader" 34 "MilkDesk$ActReader" "at" "I" ∈ lw_G := lw_Gi 325 (by decide +kernel) rfl
theorem fk_X2_34 : FLK "MilkDesk$ActReader" 34 2 5 RX2 TX2 7 := ⟨rfl, Nat.le_of_ble_eq_true rfl, mw_265, in_wsX20⟩
theorem gi_8_5 (G : Gn) : GVI G 8 2 5 := fun _ _ _ _ => ⟨_, rfl, rfl⟩
theorem ci_8 {i : Nat} (h : i < 1) : i < cntK 8 := h
theorem ks_m1000 : (Int16.ofInt (-1000)).toInt32 = (-1000 : Int32) := by decide +kernel
theorem mw_264 : Cond.fieldLink "MilkDesk$ActReader" 33 "MilkDesk$ActReader" "size" "I" ∈ lw_G := lw_Gi 324 (by decide +kernel) rfl
theorem fk_X2_33 : FLK "MilkDesk$ActReader" 33 2 4 RX2 TX2 7 := ⟨rfl, Nat.le_of_ble_eq_true rfl, mw_264, in_wsX20⟩
theorem gi_8_4 (G : Gn) : GVI G 8 2 4 := fun _ _ _ _ => ⟨_, rfl, rfl⟩
theorem mw_263 : Cond.fieldLink "MilkDesk$ActReader" 15 "MilkDesk$ActReader" "text" "[I" ∈ lw_G := lw_Gi 323 (by decide +kernel) rfl
theorem fk_X2_15 : FLK "MilkDesk$ActReader" 15 2 3 RX2 TX2 7 := ⟨rfl, Nat.le_of_ble_eq_true rfl, mw_263, in_wsX20⟩
theorem ar_39 (G : Gn) : AI G 39 80 := fun _ _ _ _ => rfl
theorem ci_39 {i : Nat} (h : i < 8) : i < cntK 39 := h
theorem mw_266 : Cond.fieldLink "MilkDesk$ActReader" 37 "MilkDesk$ActReader" "fault" "I" ∈ lw_G := lw_Gi 326 (by decide +kernel) rfl
theorem fk_X2_37 : FLK "MilkDesk$ActReader" 37 2 6 RX2 TX2 7 := ⟨rfl, Nat.le_of_ble_eq_true rfl, mw_266, in_wsX20⟩
theorem gi_8_6 (G : Gn) : GVI G 8 2 6 := fun _ _ _ _ => ⟨_, rfl, rfl⟩
theorem pf_X2_6 : parseFieldDescriptor (TX2 6).2.2.1 = some .int := by decide +kernel
theorem pv_8_6 (G : Gn) : PV G 8 2 6 := fun _ _ _ _ _ => ⟨_, rfl, Nat.le_of_ble_eq_true rfl, rfl⟩
theorem mw_500 : Cond.code yX2_here cX2_here 1 (some .int) ∈ lw_G := lw_Gi 560 (by decide +kernel) rfl
theorem mw_9 : Cond.initialized yX2_here.cls ∈ lw_G := lw_Gi 69 (by decide +kernel) rfl
theorem mw_499 : Cond.instanceMethod yX2_here ∈ lw_G := lw_Gi 559 (by decide +kernel) rfl
theorem mp_2 : Cond.selects yX2_here.cls yX2_here yX2_here ∈ lw_G := lw_Gi 2 (by decide +kernel) rfl
theorem mw_497 : Cond.methodLink "MilkDesk$ActReader" 43 yX2_here ∈ lw_G := lw_Gi 557 (by decide +kernel) rfl
theorem lk_X2_43 : LKV "MilkDesk$ActReader" 43 yX2_here.cls yX2_here cX2_here 1 (some .int) 0 := ⟨mw_497, mw_499, mp_2, mw_9, mw_500, by decide +kernel, by decide +kernel, by decide +kernel⟩
theorem rc_8 (G : Gn) : ∀ w i r q, ∃ fs, Esh G w 8 i r q = .inr (2, fs) := fun _ _ _ _ => ⟨_, rfl⟩
theorem pf_X2_5 : parseFieldDescriptor (TX2 5).2.2.1 = some .int := by decide +kernel
theorem pv_8_5 (G : Gn) : PV G 8 2 5 := fun _ _ _ _ _ => ⟨_, rfl, Nat.le_of_ble_eq_true rfl, rfl⟩
theorem mw_585 : Cond.code yX2_fail cX2_fail 1 none ∈ lw_G := lw_Gi 645 (by decide +kernel) rfl
theorem mw_584 : Cond.instanceMethod yX2_fail ∈ lw_G := lw_Gi 644 (by decide +kernel) rfl
theorem mp_4 : Cond.selects yX2_fail.cls yX2_fail yX2_fail ∈ lw_G := lw_Gi 4 (by decide +kernel) rfl
theorem mw_582 : Cond.methodLink "MilkDesk$ActReader" 77 yX2_fail ∈ lw_G := lw_Gi 642 (by decide +kernel) rfl
theorem lk_X2_77 : LKV "MilkDesk$ActReader" 77 yX2_fail.cls yX2_fail cX2_fail 1 none 0 := ⟨mw_582, mw_584, mp_4, mw_9, mw_585, by decide +kernel, by decide +kernel, by decide +kernel⟩
theorem kb_48 : (Int8.ofInt 48).toInt32 = (48 : Int32) := by decide +kernel
theorem kb_57 : (Int8.ofInt 57).toInt32 = (57 : Int32) := by decide +kernel
theorem mw_261 : Cond.fieldLink "MilkDesk$ActReader" 40 "MilkDesk$ActReader" "length" "I" ∈ lw_G := lw_Gi 321 (by decide +kernel) rfl
theorem fk_X2_40 : FLK "MilkDesk$ActReader" 40 2 1 RX2 TX2 7 := ⟨rfl, Nat.le_of_ble_eq_true rfl, mw_261, in_wsX20⟩
theorem gi_8_1 (G : Gn) : GVI G 8 2 1 := fun _ _ _ _ => ⟨_, rfl, rfl⟩
theorem mw_260 : Cond.fieldLink "MilkDesk$ActReader" 9 "MilkDesk$ActReader" "steps" "[I" ∈ lw_G := lw_Gi 320 (by decide +kernel) rfl
theorem fk_X2_9 : FLK "MilkDesk$ActReader" 9 2 0 RX2 TX2 7 := ⟨rfl, Nat.le_of_ble_eq_true rfl, mw_260, in_wsX20⟩
theorem gr_8_0 (G : Gn) (i : Nat) : GVR G 8 2 0 i (ad G 40 i) := fun _ _ _ => ⟨_, rfl, rfl⟩
theorem ar_40 (G : Gn) : AI G 40 80 := fun _ _ _ _ => rfl
theorem ci_40 {i : Nat} (h : i < 1) : i < cntK 40 := h
theorem pf_X2_1 : parseFieldDescriptor (TX2 1).2.2.1 = some .int := by decide +kernel
theorem pv_8_1 (G : Gn) : PV G 8 2 1 := fun _ _ _ _ _ => ⟨_, rfl, Nat.le_of_ble_eq_true rfl, rfl⟩
theorem ki_4 : Int32.ofInt 4 = (4 : Int32) := by decide +kernel
theorem mw_617 : Cond.code yX2_isDigit cX2_isDigit 1 (some .boolean) ∈ lw_G := lw_Gi 677 (by decide +kernel) rfl
theorem mw_616 : Cond.static yX2_isDigit ∈ lw_G := lw_Gi 676 (by decide +kernel) rfl
theorem mw_615 : Cond.methodLink "MilkDesk$ActReader" 104 yX2_isDigit ∈ lw_G := lw_Gi 675 (by decide +kernel) rfl
theorem lk_X2_104 : LKS "MilkDesk$ActReader" 104 yX2_isDigit cX2_isDigit 1 (some .boolean) 1 := ⟨mw_615, mw_616, mw_9, mw_617, by decide +kernel, by decide +kernel, by decide +kernel⟩
theorem kb_10 : (Int8.ofInt 10).toInt32 = (10 : Int32) := by decide +kernel
theorem mw_625 : Cond.code yX2_addStep cX2_addStep 2 none ∈ lw_G := lw_Gi 685 (by decide +kernel) rfl
theorem mw_624 : Cond.instanceMethod yX2_addStep ∈ lw_G := lw_Gi 684 (by decide +kernel) rfl
theorem mp_13 : Cond.selects yX2_addStep.cls yX2_addStep yX2_addStep ∈ lw_G := lw_Gi 13 (by decide +kernel) rfl
theorem mw_622 : Cond.methodLink "MilkDesk$ActReader" 63 yX2_addStep ∈ lw_G := lw_Gi 682 (by decide +kernel) rfl
theorem lk_X2_63 : LKV "MilkDesk$ActReader" 63 yX2_addStep.cls yX2_addStep cX2_addStep 2 none 1 := ⟨mw_622, mw_624, mp_13, mw_9, mw_625, by decide +kernel, by decide +kernel, by decide +kernel⟩
theorem mw_504 : Cond.code yX2_placeOf cX2_placeOf 2 (some .int) ∈ lw_G := lw_Gi 564 (by decide +kernel) rfl
theorem mw_503 : Cond.static yX2_placeOf ∈ lw_G := lw_Gi 563 (by decide +kernel) rfl
theorem mw_502 : Cond.methodLink "MilkDesk$ActReader" 49 yX2_placeOf ∈ lw_G := lw_Gi 562 (by decide +kernel) rfl
theorem lk_X2_49 : LKS "MilkDesk$ActReader" 49 yX2_placeOf cX2_placeOf 2 (some .int) 2 := ⟨mw_502, mw_503, mw_9, mw_504, by decide +kernel, by decide +kernel, by decide +kernel⟩
theorem mw_621 : Cond.code yX2_readNumber cX2_readNumber 4 none ∈ lw_G := lw_Gi 681 (by decide +kernel) rfl
theorem mw_620 : Cond.instanceMethod yX2_readNumber ∈ lw_G := lw_Gi 680 (by decide +kernel) rfl
theorem mp_12 : Cond.selects yX2_readNumber.cls yX2_readNumber yX2_readNumber ∈ lw_G := lw_Gi 12 (by decide +kernel) rfl
theorem mw_618 : Cond.methodLink "MilkDesk$ActReader" 108 yX2_readNumber ∈ lw_G := lw_Gi 678 (by decide +kernel) rfl
theorem lk_X2_108 : LKV "MilkDesk$ActReader" 108 yX2_readNumber.cls yX2_readNumber cX2_readNumber 4 none 0 := ⟨mw_618, mw_620, mp_12, mw_9, mw_621, by decide +kernel, by decide +kernel, by decide +kernel⟩
theorem mw_613 : Cond.code yX2_readAtom cX2_readAtom 2 none ∈ lw_G := lw_Gi 673 (by decide +kernel) rfl
theorem mw_612 : Cond.instanceMethod yX2_readAtom ∈ lw_G := lw_Gi 672 (by decide +kernel) rfl
theorem mp_11 : Cond.selects yX2_readAtom.cls yX2_readAtom yX2_readAtom ∈ lw_G := lw_Gi 11 (by decide +kernel) rfl
theorem mw_610 : Cond.methodLink "MilkDesk$ActReader" 97 yX2_readAtom ∈ lw_G := lw_Gi 670 (by decide +kernel) rfl
theorem lk_X2_97 : LKV "MilkDesk$ActReader" 97 yX2_readAtom.cls yX2_readAtom cX2_readAtom 2 none 0 := ⟨mw_610, mw_612, mp_11, mw_9, mw_613, by decide +kernel, by decide +kernel, by decide +kernel⟩
theorem mw_609 : Cond.code yX2_readSum cX2_readSum 3 none ∈ lw_G := lw_Gi 669 (by decide +kernel) rfl
theorem mw_608 : Cond.instanceMethod yX2_readSum ∈ lw_G := lw_Gi 668 (by decide +kernel) rfl
theorem mp_10 : Cond.selects yX2_readSum.cls yX2_readSum yX2_readSum ∈ lw_G := lw_Gi 10 (by decide +kernel) rfl
theorem mw_606 : Cond.methodLink "MilkDesk$ActReader" 92 yX2_readSum ∈ lw_G := lw_Gi 666 (by decide +kernel) rfl
theorem lk_X2_92 : LKV "MilkDesk$ActReader" 92 yX2_readSum.cls yX2_readSum cX2_readSum 3 none 0 := ⟨mw_606, mw_608, mp_10, mw_9, mw_609, by decide +kernel, by decide +kernel, by decide +kernel⟩
theorem kb_8 : (Int8.ofInt 8).toInt32 = (8 : Int32) := by decide +kernel
theorem mw_589 : Cond.code yX2_readOr cX2_readOr 3 none ∈ lw_G := lw_Gi 649 (by decide +kernel) rfl
theorem mw_588 : Cond.instanceMethod yX2_readOr ∈ lw_G := lw_Gi 648 (by decide +kernel) rfl
theorem mp_5 : Cond.selects yX2_readOr.cls yX2_readOr yX2_readOr ∈ lw_G := lw_Gi 5 (by decide +kernel) rfl
theorem mw_586 : Cond.methodLink "MilkDesk$ActReader" 60 yX2_readOr ∈ lw_G := lw_Gi 646 (by decide +kernel) rfl
theorem lk_X2_60 : LKV "MilkDesk$ActReader" 60 yX2_readOr.cls yX2_readOr cX2_readOr 3 none 1 := ⟨mw_586, mw_588, mp_5, mw_9, mw_589, by decide +kernel, by decide +kernel, by decide +kernel⟩
theorem kb_41 : (Int8.ofInt 41).toInt32 = (41 : Int32) := by decide +kernel
theorem mw_581 : Cond.code yX2_readSign cX2_readSign 2 none ∈ lw_G := lw_Gi 641 (by decide +kernel) rfl
theorem mw_580 : Cond.instanceMethod yX2_readSign ∈ lw_G := lw_Gi 640 (by decide +kernel) rfl
theorem mp_3 : Cond.selects yX2_readSign.cls yX2_readSign yX2_readSign ∈ lw_G := lw_Gi 3 (by decide +kernel) rfl
theorem mw_578 : Cond.methodLink "MilkDesk$ActReader" 56 yX2_readSign ∈ lw_G := lw_Gi 638 (by decide +kernel) rfl
theorem lk_X2_56 : LKV "MilkDesk$ActReader" 56 yX2_readSign.cls yX2_readSign cX2_readSign 2 none 1 := ⟨mw_578, mw_580, mp_3, mw_9, mw_581, by decide +kernel, by decide +kernel, by decide +kernel⟩
theorem kb_33 : (Int8.ofInt 33).toInt32 = (33 : Int32) := by decide +kernel
theorem kb_40 : (Int8.ofInt 40).toInt32 = (40 : Int32) := by decide +kernel
theorem mw_601 : Cond.code yX2_readBracket cX2_readBracket 2 none ∈ lw_G := lw_Gi 661 (by decide +kernel) rfl
theorem mw_600 : Cond.instanceMethod yX2_readBracket ∈ lw_G := lw_Gi 660 (by decide +kernel) rfl
theorem mp_8 : Cond.selects yX2_readBracket.cls yX2_readBracket yX2_readBracket ∈ lw_G := lw_Gi 8 (by decide +kernel) rfl
theorem mw_598 : Cond.methodLink "MilkDesk$ActReader" 86 yX2_readBracket ∈ lw_G := lw_Gi 658 (by decide +kernel) rfl
theorem lk_X2_86 : LKV "MilkDesk$ActReader" 86 yX2_readBracket.cls yX2_readBracket cX2_readBracket 2 none 1 := ⟨mw_598, mw_600, mp_8, mw_9, mw_601, by decide +kernel, by decide +kernel, by decide +kernel⟩
theorem mw_605 : Cond.code yX2_readComparison cX2_readComparison 2 none ∈ lw_G := lw_Gi 665 (by decide +kernel) rfl
theorem mw_604 : Cond.instanceMethod yX2_readComparison ∈ lw_G := lw_Gi 664 (by decide +kernel) rfl
theorem mp_9 : Cond.selects yX2_readComparison.cls yX2_readComparison yX2_readComparison ∈ lw_G := lw_Gi 9 (by decide +kernel) rfl
theorem mw_602 : Cond.methodLink "MilkDesk$ActReader" 89 yX2_readComparison ∈ lw_G := lw_Gi 662 (by decide +kernel) rfl
theorem lk_X2_89 : LKV "MilkDesk$ActReader" 89 yX2_readComparison.cls yX2_readComparison cX2_readComparison 2 none 0 := ⟨mw_602, mw_604, mp_9, mw_9, mw_605, by decide +kernel, by decide +kernel, by decide +kernel⟩
theorem mw_597 : Cond.code yX2_readTest cX2_readTest 4 none ∈ lw_G := lw_Gi 657 (by decide +kernel) rfl
theorem mw_596 : Cond.instanceMethod yX2_readTest ∈ lw_G := lw_Gi 656 (by decide +kernel) rfl
theorem mp_7 : Cond.selects yX2_readTest.cls yX2_readTest yX2_readTest ∈ lw_G := lw_Gi 7 (by decide +kernel) rfl
theorem mw_594 : Cond.methodLink "MilkDesk$ActReader" 83 yX2_readTest ∈ lw_G := lw_Gi 654 (by decide +kernel) rfl
theorem lk_X2_83 : LKV "MilkDesk$ActReader" 83 yX2_readTest.cls yX2_readTest cX2_readTest 4 none 1 := ⟨mw_594, mw_596, mp_7, mw_9, mw_597, by decide +kernel, by decide +kernel, by decide +kernel⟩
theorem kb_38 : (Int8.ofInt 38).toInt32 = (38 : Int32) := by decide +kernel
theorem kb_m38 : (Int8.ofInt (-38)).toInt32 = (-38 : Int32) := by decide +kernel
theorem mw_593 : Cond.code yX2_readAnd cX2_readAnd 3 none ∈ lw_G := lw_Gi 653 (by decide +kernel) rfl
theorem mw_592 : Cond.instanceMethod yX2_readAnd ∈ lw_G := lw_Gi 652 (by decide +kernel) rfl
theorem mp_6 : Cond.selects yX2_readAnd.cls yX2_readAnd yX2_readAnd ∈ lw_G := lw_Gi 6 (by decide +kernel) rfl
theorem mw_590 : Cond.methodLink "MilkDesk$ActReader" 80 yX2_readAnd ∈ lw_G := lw_Gi 650 (by decide +kernel) rfl
theorem lk_X2_80 : LKV "MilkDesk$ActReader" 80 yX2_readAnd.cls yX2_readAnd cX2_readAnd 3 none 1 := ⟨mw_590, mw_592, mp_6, mw_9, mw_593, by decide +kernel, by decide +kernel, by decide +kernel⟩
theorem kb_124 : (Int8.ofInt 124).toInt32 = (124 : Int32) := by decide +kernel
theorem kb_m124 : (Int8.ofInt (-124)).toInt32 = (-124 : Int32) := by decide +kernel
theorem mw_345 : Cond.fieldLink "MilkDesk$ActReader" 18 "MilkDesk$Shelf" "cells" "[I" ∈ lw_G := lw_Gi 405 (by decide +kernel) rfl
theorem fk_X2_18 : FLK "MilkDesk$ActReader" 18 8 6 RX9 TX9 7 := ⟨rfl, Nat.le_of_ble_eq_true rfl, mw_345, in_wsX90⟩
theorem gr_7_6 (G : Gn) (i : Nat) : GVR G 7 8 6 i (ad G 39 i) := fun _ _ _ => ⟨_, rfl, rfl⟩
theorem ci_7 {i : Nat} (h : i < 8) : i < cntK 7 := h
theorem mw_340 : Cond.fieldLink "MilkDesk$ActReader" 23 "MilkDesk$Shelf" "size" "I" ∈ lw_G := lw_Gi 400 (by decide +kernel) rfl
theorem fk_X2_23 : FLK "MilkDesk$ActReader" 23 8 5 RX9 TX9 7 := ⟨rfl, Nat.le_of_ble_eq_true rfl, mw_340, in_wsX90⟩
theorem gi_7_5 (G : Gn) : GVI G 7 8 5 := fun _ _ _ _ => ⟨_, rfl, rfl⟩
theorem mw_496 : Cond.methodLink "MilkDesk$ActReader" 27 Lib.Math.min.name ∈ lw_G := lw_Gi 556 (by decide +kernel) rfl
theorem pf_X2_4 : parseFieldDescriptor (TX2 4).2.2.1 = some .int := by decide +kernel
theorem pv_8_4 (G : Gn) : PV G 8 2 4 := fun _ _ _ _ _ => ⟨_, rfl, Nat.le_of_ble_eq_true rfl, rfl⟩
theorem mw_262 : Cond.fieldLink "MilkDesk$ActReader" 53 "MilkDesk$ActReader" "purpose" "I" ∈ lw_G := lw_Gi 322 (by decide +kernel) rfl
theorem fk_X2_53 : FLK "MilkDesk$ActReader" 53 2 2 RX2 TX2 7 := ⟨rfl, Nat.le_of_ble_eq_true rfl, mw_262, in_wsX20⟩
theorem pf_X2_2 : parseFieldDescriptor (TX2 2).2.2.1 = some .int := by decide +kernel
theorem pv_8_2 (G : Gn) : PV G 8 2 2 := fun _ _ _ _ _ => ⟨_, rfl, Nat.le_of_ble_eq_true rfl, rfl⟩
theorem gi_8_2 (G : Gn) : GVI G 8 2 2 := fun _ _ _ _ => ⟨_, rfl, rfl⟩
theorem kb_58 : (Int8.ofInt 58).toInt32 = (58 : Int32) := by decide +kernel
theorem kb_117 : (Int8.ofInt 117).toInt32 = (117 : Int32) := by decide +kernel
theorem ki_3 : Int32.ofInt 3 = (3 : Int32) := by decide +kernel
theorem nz_2 : ¬ (2 : Int32) = 0 := by decide +kernel
theorem kb_100 : (Int8.ofInt 100).toInt32 = (100 : Int32) := by decide +kernel
theorem nz_100 : ¬ (100 : Int32) = 0 := by decide +kernel
theorem mw_96 : Cond.fieldLink "MilkDesk$Dairies" 36 "MilkDesk$Dairies" "count" "I" ∈ lw_G := lw_Gi 156 (by decide +kernel) rfl
theorem fk_X4_36 : FLK "MilkDesk$Dairies" 36 3 0 RX4 TX4 9 := ⟨rfl, Nat.le_of_ble_eq_true rfl, mw_96, in_wsX40⟩
theorem gi_3_0 (G : Gn) : GVI G 3 3 0 := fun _ _ _ _ => ⟨_, rfl, rfl⟩
theorem ci_3 {i : Nat} (h : i < 3) : i < cntK 3 := h
theorem mw_98 : Cond.fieldLink "MilkDesk$Dairies" 9 "MilkDesk$Dairies" "x" "[I" ∈ lw_G := lw_Gi 158 (by decide +kernel) rfl
theorem fk_X4_9 : FLK "MilkDesk$Dairies" 9 3 1 RX4 TX4 9 := ⟨rfl, Nat.le_of_ble_eq_true rfl, mw_98, in_wsX40⟩
theorem gr_3_1 (G : Gn) (i : Nat) : GVR G 3 3 1 i (ad G 22 i) := fun _ _ _ => ⟨_, rfl, rfl⟩
theorem ar_22 (G : Gn) : AI G 22 5 := fun _ _ _ _ => rfl
theorem ci_22 {i : Nat} (h : i < 3) : i < cntK 22 := h
theorem mw_101 : Cond.fieldLink "MilkDesk$Dairies" 15 "MilkDesk$Dairies" "y" "[I" ∈ lw_G := lw_Gi 161 (by decide +kernel) rfl
theorem fk_X4_15 : FLK "MilkDesk$Dairies" 15 3 2 RX4 TX4 9 := ⟨rfl, Nat.le_of_ble_eq_true rfl, mw_101, in_wsX40⟩
theorem gr_3_2 (G : Gn) (i : Nat) : GVR G 3 3 2 i (ad G 23 i) := fun _ _ _ => ⟨_, rfl, rfl⟩
theorem ar_23 (G : Gn) : AI G 23 5 := fun _ _ _ _ => rfl
theorem ci_23 {i : Nat} (h : i < 3) : i < cntK 23 := h
theorem mw_104 : Cond.fieldLink "MilkDesk$Dairies" 18 "MilkDesk$Dairies" "bottles" "[I" ∈ lw_G := lw_Gi 164 (by decide +kernel) rfl
theorem fk_X4_18 : FLK "MilkDesk$Dairies" 18 3 3 RX4 TX4 9 := ⟨rfl, Nat.le_of_ble_eq_true rfl, mw_104, in_wsX40⟩
theorem gr_3_3 (G : Gn) (i : Nat) : GVR G 3 3 3 i (ad G 24 i) := fun _ _ _ => ⟨_, rfl, rfl⟩
theorem ar_24 (G : Gn) : AI G 24 5 := fun _ _ _ _ => rfl
theorem ci_24 {i : Nat} (h : i < 3) : i < cntK 24 := h
theorem mw_106 : Cond.fieldLink "MilkDesk$Dairies" 21 "MilkDesk$Dairies" "cap" "[I" ∈ lw_G := lw_Gi 166 (by decide +kernel) rfl
theorem fk_X4_21 : FLK "MilkDesk$Dairies" 21 3 4 RX4 TX4 9 := ⟨rfl, Nat.le_of_ble_eq_true rfl, mw_106, in_wsX40⟩
theorem gr_3_4 (G : Gn) (i : Nat) : GVR G 3 3 4 i (ad G 25 i) := fun _ _ _ => ⟨_, rfl, rfl⟩
theorem ar_25 (G : Gn) : AI G 25 5 := fun _ _ _ _ => rfl
theorem ci_25 {i : Nat} (h : i < 3) : i < cntK 25 := h
theorem pf_X4_0 : parseFieldDescriptor (TX4 0).2.2.1 = some .int := by decide +kernel
theorem pv_3_0 (G : Gn) : PV G 3 3 0 := fun _ _ _ _ _ => ⟨_, rfl, Nat.le_of_ble_eq_true rfl, rfl⟩
theorem mw_107 : Cond.fieldLink "MilkDesk$Dairies" 24 "MilkDesk$Dairies" "bids" "[I" ∈ lw_G := lw_Gi 167 (by decide +kernel) rfl
theorem fk_X4_24 : FLK "MilkDesk$Dairies" 24 3 5 RX4 TX4 9 := ⟨rfl, Nat.le_of_ble_eq_true rfl, mw_107, in_wsX40⟩
theorem gr_3_5 (G : Gn) (i : Nat) : GVR G 3 3 5 i (ad G 26 i) := fun _ _ _ => ⟨_, rfl, rfl⟩
theorem ar_26 (G : Gn) : AI G 26 20 := fun _ _ _ _ => rfl
theorem ci_26 {i : Nat} (h : i < 3) : i < cntK 26 := h
theorem mw_429 : Cond.code yX4_winner cX4_winner 6 (some .int) ∈ lw_G := lw_Gi 489 (by decide +kernel) rfl
theorem mw_4 : Cond.initialized yX4_winner.cls ∈ lw_G := lw_Gi 64 (by decide +kernel) rfl
theorem mw_427 : Cond.instanceMethod yX4_winner ∈ lw_G := lw_Gi 487 (by decide +kernel) rfl
theorem mw_428 : Cond.selects yX4_winner.cls yX4_winner yX4_winner ∈ lw_G := lw_Gi 488 (by decide +kernel) rfl
theorem mw_783 : Cond.methodLink "MilkDesk$Dairies" 40 yX4_winner ∈ lw_G := lw_Gi 843 (by decide +kernel) rfl
theorem lk_X4_40 : LKV "MilkDesk$Dairies" 40 yX4_winner.cls yX4_winner cX4_winner 6 (some .int) 1 := ⟨mw_783, mw_427, mw_428, mw_4, mw_429, by decide +kernel, by decide +kernel, by decide +kernel⟩
theorem rc_3 (G : Gn) : ∀ w i r q, ∃ fs, Esh G w 3 i r q = .inr (3, fs) := fun _ _ _ _ => ⟨_, rfl⟩
theorem mw_111 : Cond.fieldLink "MilkDesk$Dairies" 30 "MilkDesk$Dairies" "lowest" "[I" ∈ lw_G := lw_Gi 171 (by decide +kernel) rfl
theorem fk_X4_30 : FLK "MilkDesk$Dairies" 30 3 7 RX4 TX4 9 := ⟨rfl, Nat.le_of_ble_eq_true rfl, mw_111, in_wsX40⟩
theorem gr_3_7 (G : Gn) (i : Nat) : GVR G 3 3 7 i (ad G 28 i) := fun _ _ _ => ⟨_, rfl, rfl⟩
theorem ar_28 (G : Gn) : AI G 28 5 := fun _ _ _ _ => rfl
theorem ci_28 {i : Nat} (h : i < 3) : i < cntK 28 := h
theorem mw_113 : Cond.fieldLink "MilkDesk$Dairies" 33 "MilkDesk$Dairies" "capLeft" "[I" ∈ lw_G := lw_Gi 173 (by decide +kernel) rfl
theorem fk_X4_33 : FLK "MilkDesk$Dairies" 33 3 8 RX4 TX4 9 := ⟨rfl, Nat.le_of_ble_eq_true rfl, mw_113, in_wsX40⟩
theorem gr_3_8 (G : Gn) (i : Nat) : GVR G 3 3 8 i (ad G 29 i) := fun _ _ _ => ⟨_, rfl, rfl⟩
theorem ar_29 (G : Gn) : AI G 29 5 := fun _ _ _ _ => rfl
theorem ci_29 {i : Nat} (h : i < 3) : i < cntK 29 := h
theorem mw_109 : Cond.fieldLink "MilkDesk$Dairies" 27 "MilkDesk$Dairies" "returning" "[I" ∈ lw_G := lw_Gi 169 (by decide +kernel) rfl
theorem fk_X4_27 : FLK "MilkDesk$Dairies" 27 3 6 RX4 TX4 9 := ⟨rfl, Nat.le_of_ble_eq_true rfl, mw_109, in_wsX40⟩
theorem gr_3_6 (G : Gn) (i : Nat) : GVR G 3 3 6 i (ad G 27 i) := fun _ _ _ => ⟨_, rfl, rfl⟩
theorem ar_27 (G : Gn) : AI G 27 5 := fun _ _ _ _ => rfl
theorem ci_27 {i : Nat} (h : i < 3) : i < cntK 27 := h
theorem mw_769 : Cond.methodLink "MilkDesk$Dairies" 44 Lib.Math.min.name ∈ lw_G := lw_Gi 829 (by decide +kernel) rfl
theorem mt_883 : Cond.methodLinkNest "MilkDesk$Dairies" 50 yX11_copyAll "MilkDesk" ∈ lw_tbl := List.mem_of_getElem? (i := 943) (by decide +kernel)
theorem lk_X4_50 : LKN "MilkDesk$Dairies" 50 "MilkDesk" yX11_copyAll cX11_copyAll 2 none 2 := ⟨mt_883, mw_845, mw_1, mw_846, by decide +kernel, by decide +kernel, by decide +kernel⟩
theorem mw_139 : Cond.fieldLink "MilkDesk$HeadRows" 28 "MilkDesk$HeadRows" "count" "I" ∈ lw_G := lw_Gi 199 (by decide +kernel) rfl
theorem fk_X5_28 : FLK "MilkDesk$HeadRows" 28 4 0 RX5 TX5 5 := ⟨rfl, Nat.le_of_ble_eq_true rfl, mw_139, in_wsX50⟩
theorem gi_4_0 (G : Gn) : GVI G 4 4 0 := fun _ _ _ _ => ⟨_, rfl, rfl⟩
theorem ci_4 {i : Nat} (h : i < 3) : i < cntK 4 := h
theorem mw_141 : Cond.fieldLink "MilkDesk$HeadRows" 9 "MilkDesk$HeadRows" "age" "[I" ∈ lw_G := lw_Gi 201 (by decide +kernel) rfl
theorem fk_X5_9 : FLK "MilkDesk$HeadRows" 9 4 1 RX5 TX5 5 := ⟨rfl, Nat.le_of_ble_eq_true rfl, mw_141, in_wsX50⟩
theorem gr_4_1 (G : Gn) (i : Nat) : GVR G 4 4 1 i (ad G 30 i) := fun _ _ _ => ⟨_, rfl, rfl⟩
theorem ar_30 (G : Gn) : AI G 30 16 := fun _ _ _ _ => rfl
theorem ci_30 {i : Nat} (h : i < 3) : i < cntK 30 := h
theorem mw_337 : Cond.fieldLink "MilkDesk$Shelf" 28 "MilkDesk$Shelf" "sort" "I" ∈ lw_G := lw_Gi 397 (by decide +kernel) rfl
theorem fk_X9_28 : FLK "MilkDesk$Shelf" 28 8 4 RX9 TX9 7 := ⟨rfl, Nat.le_of_ble_eq_true rfl, mw_337, in_wsX90⟩
theorem gi_7_4 (G : Gn) : GVI G 7 8 4 := fun _ _ _ _ => ⟨_, rfl, rfl⟩
theorem mw_470 : Cond.constant "MilkDesk$Shelf" 38 (-2147483648) ∈ lw_G := lw_Gi 530 (by decide +kernel) rfl
theorem ks_m32768 : (Int16.ofInt (-32768)).toInt32 = (-32768 : Int32) := by decide +kernel
theorem kb_m128 : (Int8.ofInt (-128)).toInt32 = (-128 : Int32) := by decide +kernel
theorem mw_465 : Cond.code yX5_lastOf cX5_lastOf 3 (some .int) ∈ lw_G := lw_Gi 525 (by decide +kernel) rfl
theorem mw_5 : Cond.initialized yX5_lastOf.cls ∈ lw_G := lw_Gi 65 (by decide +kernel) rfl
theorem mw_464 : Cond.instanceMethod yX5_lastOf ∈ lw_G := lw_Gi 524 (by decide +kernel) rfl
theorem mp_1 : Cond.selects yX5_lastOf.cls yX5_lastOf yX5_lastOf ∈ lw_G := lw_Gi 1 (by decide +kernel) rfl
theorem mw_462 : Cond.methodLink "MilkDesk$HeadRows" 24 yX5_lastOf ∈ lw_G := lw_Gi 522 (by decide +kernel) rfl
theorem lk_X5_24 : LKV "MilkDesk$HeadRows" 24 yX5_lastOf.cls yX5_lastOf cX5_lastOf 3 (some .int) 1 := ⟨mw_462, mw_464, mp_1, mw_5, mw_465, by decide +kernel, by decide +kernel, by decide +kernel⟩
theorem rc_4 (G : Gn) : ∀ w i r q, ∃ fs, Esh G w 4 i r q = .inr (4, fs) := fun _ _ _ _ => ⟨_, rfl⟩
theorem kb_7 : (Int8.ofInt 7).toInt32 = (7 : Int32) := by decide +kernel
theorem nz_7 : ¬ (7 : Int32) = 0 := by decide +kernel
theorem mw_142 : Cond.fieldLink "MilkDesk$HeadRows" 15 "MilkDesk$HeadRows" "toldOn" "[I" ∈ lw_G := lw_Gi 202 (by decide +kernel) rfl
theorem fk_X5_15 : FLK "MilkDesk$HeadRows" 15 4 2 RX5 TX5 5 := ⟨rfl, Nat.le_of_ble_eq_true rfl, mw_142, in_wsX50⟩
theorem gr_4_2 (G : Gn) (i : Nat) : GVR G 4 4 2 i (ad G 31 i) := fun _ _ _ => ⟨_, rfl, rfl⟩
theorem ar_31 (G : Gn) : AI G 31 16 := fun _ _ _ _ => rfl
theorem ci_31 {i : Nat} (h : i < 3) : i < cntK 31 := h
theorem mw_143 : Cond.fieldLink "MilkDesk$HeadRows" 18 "MilkDesk$HeadRows" "from" "[I" ∈ lw_G := lw_Gi 203 (by decide +kernel) rfl
theorem fk_X5_18 : FLK "MilkDesk$HeadRows" 18 4 3 RX5 TX5 5 := ⟨rfl, Nat.le_of_ble_eq_true rfl, mw_143, in_wsX50⟩
theorem gr_4_3 (G : Gn) (i : Nat) : GVR G 4 4 3 i (ad G 32 i) := fun _ _ _ => ⟨_, rfl, rfl⟩
theorem ar_32 (G : Gn) : AI G 32 16 := fun _ _ _ _ => rfl
theorem ci_32 {i : Nat} (h : i < 3) : i < cntK 32 := h
theorem kb_12 : (Int8.ofInt 12).toInt32 = (12 : Int32) := by decide +kernel
theorem pf_X5_0 : parseFieldDescriptor (TX5 0).2.2.1 = some .int := by decide +kernel
theorem pv_4_0 (G : Gn) : PV G 4 4 0 := fun _ _ _ _ _ => ⟨_, rfl, Nat.le_of_ble_eq_true rfl, rfl⟩
theorem mw_144 : Cond.fieldLink "MilkDesk$HeadRows" 21 "MilkDesk$HeadRows" "many" "[I" ∈ lw_G := lw_Gi 204 (by decide +kernel) rfl
theorem fk_X5_21 : FLK "MilkDesk$HeadRows" 21 4 4 RX5 TX5 5 := ⟨rfl, Nat.le_of_ble_eq_true rfl, mw_144, in_wsX50⟩
theorem gr_4_4 (G : Gn) (i : Nat) : GVR G 4 4 4 i (ad G 33 i) := fun _ _ _ => ⟨_, rfl, rfl⟩
theorem ar_33 (G : Gn) : AI G 33 192 := fun _ _ _ _ => rfl
theorem ci_33 {i : Nat} (h : i < 3) : i < cntK 33 := h
theorem mw_341 : Cond.fieldLink "MilkDesk$HeadRows" 32 "MilkDesk$Shelf" "size" "I" ∈ lw_G := lw_Gi 401 (by decide +kernel) rfl
theorem fk_X5_32 : FLK "MilkDesk$HeadRows" 32 8 5 RX9 TX9 7 := ⟨rfl, Nat.le_of_ble_eq_true rfl, mw_341, in_wsX90⟩
theorem mw_347 : Cond.fieldLink "MilkDesk$HeadRows" 37 "MilkDesk$Shelf" "cells" "[I" ∈ lw_G := lw_Gi 407 (by decide +kernel) rfl
theorem fk_X5_37 : FLK "MilkDesk$HeadRows" 37 8 6 RX9 TX9 7 := ⟨rfl, Nat.le_of_ble_eq_true rfl, mw_347, in_wsX90⟩
theorem mw_469 : Cond.code yX9_leastOfSort cX9_leastOfSort 1 (some .int) ∈ lw_G := lw_Gi 529 (by decide +kernel) rfl
theorem mw_11 : Cond.initialized yX9_leastOfSort.cls ∈ lw_G := lw_Gi 71 (by decide +kernel) rfl
theorem mw_467 : Cond.instanceMethod yX9_leastOfSort ∈ lw_G := lw_Gi 527 (by decide +kernel) rfl
theorem mw_468 : Cond.selects yX9_leastOfSort.cls yX9_leastOfSort yX9_leastOfSort ∈ lw_G := lw_Gi 528 (by decide +kernel) rfl
theorem mw_466 : Cond.methodLink "MilkDesk$HeadRows" 40 yX9_leastOfSort ∈ lw_G := lw_Gi 526 (by decide +kernel) rfl
theorem lk_X5_40 : LKV "MilkDesk$HeadRows" 40 yX9_leastOfSort.cls yX9_leastOfSort cX9_leastOfSort 1 (some .int) 0 := ⟨mw_466, mw_467, mw_468, mw_11, mw_469, by decide +kernel, by decide +kernel, by decide +kernel⟩
theorem rc_7 (G : Gn) : ∀ w i r q, ∃ fs, Esh G w 7 i r q = .inr (8, fs) := fun _ _ _ _ => ⟨_, rfl⟩
theorem ks_200 : (Int16.ofInt 200).toInt32 = (200 : Int32) := by decide +kernel
theorem mw_471 : Cond.methodLink "MilkDesk$HeadRows" 44 Lib.Math.min.name ∈ lw_G := lw_Gi 531 (by decide +kernel) rfl
theorem mw_474 : Cond.methodLink "MilkDesk$HeadRows" 50 Lib.Math.max.name ∈ lw_G := lw_Gi 534 (by decide +kernel) rfl
theorem mw_475 : Cond.static Lib.Math.max.name ∈ lw_G := lw_Gi 535 (by decide +kernel) rfl
theorem mw_476 : Cond.code Lib.Math.max.name Lib.Math.max.code 2 (some .int) ∈ lw_G := lw_Gi 536 (by decide +kernel) rfl
theorem mt_888 : Cond.methodLinkNest "MilkDesk$HeadRows" 53 yX11_copyAll "MilkDesk" ∈ lw_tbl := List.mem_of_getElem? (i := 948) (by decide +kernel)
theorem lk_X5_53 : LKN "MilkDesk$HeadRows" 53 "MilkDesk" yX11_copyAll cX11_copyAll 2 none 2 := ⟨mt_888, mw_845, mw_1, mw_846, by decide +kernel, by decide +kernel, by decide +kernel⟩
theorem mw_185 : Cond.fieldLink "MilkDesk$Looks" 9 "MilkDesk$Looks" "school" "[I" ∈ lw_G := lw_Gi 245 (by decide +kernel) rfl
theorem fk_X6_9 : FLK "MilkDesk$Looks" 9 5 1 RX6 TX6 4 := ⟨rfl, Nat.le_of_ble_eq_true rfl, mw_185, in_wsX60⟩
theorem gr_6_1 (G : Gn) (i : Nat) : GVR G 6 5 1 i (ad G 36 i) := fun _ _ _ => ⟨_, rfl, rfl⟩
theorem ci_6 {i : Nat} (h : i < 3) : i < cntK 6 := h
theorem mw_183 : Cond.fieldLink "MilkDesk$Looks" 21 "MilkDesk$Looks" "count" "I" ∈ lw_G := lw_Gi 243 (by decide +kernel) rfl
theorem fk_X6_21 : FLK "MilkDesk$Looks" 21 5 0 RX6 TX6 4 := ⟨rfl, Nat.le_of_ble_eq_true rfl, mw_183, in_wsX60⟩
theorem gi_6_0 (G : Gn) : GVI G 6 5 0 := fun _ _ _ _ => ⟨_, rfl, rfl⟩
theorem ar_36 (G : Gn) : AI G 36 30 := fun _ _ _ _ => rfl
theorem ci_36 {i : Nat} (h : i < 3) : i < cntK 36 := h
theorem mw_188 : Cond.fieldLink "MilkDesk$Looks" 15 "MilkDesk$Looks" "day" "[I" ∈ lw_G := lw_Gi 248 (by decide +kernel) rfl
theorem fk_X6_15 : FLK "MilkDesk$Looks" 15 5 2 RX6 TX6 4 := ⟨rfl, Nat.le_of_ble_eq_true rfl, mw_188, in_wsX60⟩
theorem gr_6_2 (G : Gn) (i : Nat) : GVR G 6 5 2 i (ad G 37 i) := fun _ _ _ => ⟨_, rfl, rfl⟩
theorem ar_37 (G : Gn) : AI G 37 30 := fun _ _ _ _ => rfl
theorem ci_37 {i : Nat} (h : i < 3) : i < cntK 37 := h
theorem mw_190 : Cond.fieldLink "MilkDesk$Looks" 18 "MilkDesk$Looks" "really" "[I" ∈ lw_G := lw_Gi 250 (by decide +kernel) rfl
theorem fk_X6_18 : FLK "MilkDesk$Looks" 18 5 3 RX6 TX6 4 := ⟨rfl, Nat.le_of_ble_eq_true rfl, mw_190, in_wsX60⟩
theorem gr_6_3 (G : Gn) (i : Nat) : GVR G 6 5 3 i (ad G 38 i) := fun _ _ _ => ⟨_, rfl, rfl⟩
theorem ar_38 (G : Gn) : AI G 38 30 := fun _ _ _ _ => rfl
theorem ci_38 {i : Nat} (h : i < 3) : i < cntK 38 := h
theorem pf_X6_0 : parseFieldDescriptor (TX6 0).2.2.1 = some .int := by decide +kernel
theorem pv_6_0 (G : Gn) : PV G 6 5 0 := fun _ _ _ _ _ => ⟨_, rfl, Nat.le_of_ble_eq_true rfl, rfl⟩
theorem mt_898 : Cond.methodLinkNest "MilkDesk$Looks" 25 yX11_copyAll "MilkDesk" ∈ lw_tbl := List.mem_of_getElem? (i := 958) (by decide +kernel)
theorem lk_X6_25 : LKN "MilkDesk$Looks" 25 "MilkDesk" yX11_copyAll cX11_copyAll 2 none 2 := ⟨mt_898, mw_845, mw_1, mw_846, by decide +kernel, by decide +kernel, by decide +kernel⟩
theorem mw_47 : Cond.fieldLink "MilkDesk$Schools" 33 "MilkDesk$Schools" "count" "I" ∈ lw_G := lw_Gi 107 (by decide +kernel) rfl
theorem fk_X8_33 : FLK "MilkDesk$Schools" 33 7 0 RX8 TX8 8 := ⟨rfl, Nat.le_of_ble_eq_true rfl, mw_47, in_wsX80⟩
theorem gi_2_0 (G : Gn) : GVI G 2 7 0 := fun _ _ _ _ => ⟨_, rfl, rfl⟩
theorem ci_2 {i : Nat} (h : i < 3) : i < cntK 2 := h
theorem mw_293 : Cond.fieldLink "MilkDesk$RoundSearch" 33 "MilkDesk$RoundSearch" "count" "I" ∈ lw_G := lw_Gi 353 (by decide +kernel) rfl
theorem fk_X7_33 : FLK "MilkDesk$RoundSearch" 33 6 4 RX7 TX7 11 := ⟨rfl, Nat.le_of_ble_eq_true rfl, mw_293, in_wsX70⟩
theorem pf_X7_4 : parseFieldDescriptor (TX7 4).2.2.1 = some .int := by decide +kernel
theorem pv_9_4 (G : Gn) : PV G 9 6 4 := fun _ _ _ _ _ => ⟨_, rfl, Nat.le_of_ble_eq_true rfl, rfl⟩
theorem ci_9 {i : Nat} (h : i < 1) : i < cntK 9 := h
theorem mw_339 : Cond.fieldLink "MilkDesk$RoundSearch" 37 "MilkDesk$Shelf" "size" "I" ∈ lw_G := lw_Gi 399 (by decide +kernel) rfl
theorem fk_X7_37 : FLK "MilkDesk$RoundSearch" 37 8 5 RX9 TX9 7 := ⟨rfl, Nat.le_of_ble_eq_true rfl, mw_339, in_wsX90⟩
theorem mw_346 : Cond.fieldLink "MilkDesk$RoundSearch" 42 "MilkDesk$Shelf" "cells" "[I" ∈ lw_G := lw_Gi 406 (by decide +kernel) rfl
theorem fk_X7_42 : FLK "MilkDesk$RoundSearch" 42 8 6 RX9 TX9 7 := ⟨rfl, Nat.le_of_ble_eq_true rfl, mw_346, in_wsX90⟩
theorem mw_298 : Cond.fieldLink "MilkDesk$RoundSearch" 27 "MilkDesk$RoundSearch" "schools" "LMilkDesk$Schools;" ∈ lw_G := lw_Gi 358 (by decide +kernel) rfl
theorem fk_X7_27 : FLK "MilkDesk$RoundSearch" 27 6 9 RX7 TX7 11 := ⟨rfl, Nat.le_of_ble_eq_true rfl, mw_298, in_wsX70⟩
theorem gr_9_9 (G : Gn) (i : Nat) : GVR G 9 6 9 i (ad G 2 0) := fun _ _ _ => ⟨_, rfl, rfl⟩
theorem mw_405 : Cond.code yX8_has cX8_has 2 (some .boolean) ∈ lw_G := lw_Gi 465 (by decide +kernel) rfl
theorem mw_3 : Cond.initialized yX8_has.cls ∈ lw_G := lw_Gi 63 (by decide +kernel) rfl
theorem mw_403 : Cond.instanceMethod yX8_has ∈ lw_G := lw_Gi 463 (by decide +kernel) rfl
theorem mw_404 : Cond.selects yX8_has.cls yX8_has yX8_has ∈ lw_G := lw_Gi 464 (by decide +kernel) rfl
theorem mw_828 : Cond.methodLink "MilkDesk$RoundSearch" 45 yX8_has ∈ lw_G := lw_Gi 888 (by decide +kernel) rfl
theorem lk_X7_45 : LKV "MilkDesk$RoundSearch" 45 yX8_has.cls yX8_has cX8_has 2 (some .boolean) 1 := ⟨mw_828, mw_403, mw_404, mw_3, mw_405, by decide +kernel, by decide +kernel, by decide +kernel⟩
theorem rc_2 (G : Gn) : ∀ w i r q, ∃ fs, Esh G w 2 i r q = .inr (7, fs) := fun _ _ _ _ => ⟨_, rfl⟩
theorem mw_49 : Cond.fieldLink "MilkDesk$RoundSearch" 51 "MilkDesk$Schools" "count" "I" ∈ lw_G := lw_Gi 109 (by decide +kernel) rfl
theorem fk_X7_51 : FLK "MilkDesk$RoundSearch" 51 7 0 RX8 TX8 8 := ⟨rfl, Nat.le_of_ble_eq_true rfl, mw_49, in_wsX80⟩
theorem gi_9_4 (G : Gn) : GVI G 9 6 4 := fun _ _ _ _ => ⟨_, rfl, rfl⟩
theorem mw_292 : Cond.fieldLink "MilkDesk$RoundSearch" 18 "MilkDesk$RoundSearch" "stops" "[I" ∈ lw_G := lw_Gi 352 (by decide +kernel) rfl
theorem fk_X7_18 : FLK "MilkDesk$RoundSearch" 18 6 3 RX7 TX7 11 := ⟨rfl, Nat.le_of_ble_eq_true rfl, mw_292, in_wsX70⟩
theorem gr_9_3 (G : Gn) (i : Nat) : GVR G 9 6 3 i (ad G 43 i) := fun _ _ _ => ⟨_, rfl, rfl⟩
theorem ar_43 (G : Gn) : AI G 43 7 := fun _ _ _ _ => rfl
theorem ci_43 {i : Nat} (h : i < 1) : i < cntK 43 := h
theorem mw_841 : Cond.methodLink "MilkDesk" 337 Lib.Math.abs.name ∈ lw_G := lw_Gi 901 (by decide +kernel) rfl
theorem mw_842 : Cond.static Lib.Math.abs.name ∈ lw_G := lw_Gi 902 (by decide +kernel) rfl
theorem mw_843 : Cond.code Lib.Math.abs.name Lib.Math.abs.code 1 (some .int) ∈ lw_G := lw_Gi 903 (by decide +kernel) rfl
theorem mw_55 : Cond.fieldLink "MilkDesk$RoundSearch" 92 "MilkDesk$Schools" "x" "[I" ∈ lw_G := lw_Gi 115 (by decide +kernel) rfl
theorem fk_X7_92 : FLK "MilkDesk$RoundSearch" 92 7 2 RX8 TX8 8 := ⟨rfl, Nat.le_of_ble_eq_true rfl, mw_55, in_wsX80⟩
theorem gr_2_2 (G : Gn) (i : Nat) : GVR G 2 7 2 i (ad G 16 i) := fun _ _ _ => ⟨_, rfl, rfl⟩
theorem ar_16 (G : Gn) : AI G 16 12 := fun _ _ _ _ => rfl
theorem ci_16 {i : Nat} (h : i < 3) : i < cntK 16 := h
theorem mw_58 : Cond.fieldLink "MilkDesk$RoundSearch" 93 "MilkDesk$Schools" "y" "[I" ∈ lw_G := lw_Gi 118 (by decide +kernel) rfl
theorem fk_X7_93 : FLK "MilkDesk$RoundSearch" 93 7 3 RX8 TX8 8 := ⟨rfl, Nat.le_of_ble_eq_true rfl, mw_58, in_wsX80⟩
theorem gr_2_3 (G : Gn) (i : Nat) : GVR G 2 7 3 i (ad G 17 i) := fun _ _ _ => ⟨_, rfl, rfl⟩
theorem ar_17 (G : Gn) : AI G 17 12 := fun _ _ _ _ => rfl
theorem ci_17 {i : Nat} (h : i < 3) : i < cntK 17 := h
theorem mw_840 : Cond.code yX11_far cX11_far 4 (some .int) ∈ lw_G := lw_Gi 900 (by decide +kernel) rfl
theorem mw_839 : Cond.static yX11_far ∈ lw_G := lw_Gi 899 (by decide +kernel) rfl
theorem mt_838 : Cond.methodLinkNest "MilkDesk$RoundSearch" 80 yX11_far "MilkDesk" ∈ lw_tbl := List.mem_of_getElem? (i := 898) (by decide +kernel)
theorem lk_X7_80 : LKN "MilkDesk$RoundSearch" 80 "MilkDesk" yX11_far cX11_far 4 (some .int) 4 := ⟨mt_838, mw_839, mw_1, mw_840, by decide +kernel, by decide +kernel, by decide +kernel⟩
theorem mw_296 : Cond.fieldLink "MilkDesk$RoundSearch" 57 "MilkDesk$RoundSearch" "homeX" "I" ∈ lw_G := lw_Gi 356 (by decide +kernel) rfl
theorem fk_X7_57 : FLK "MilkDesk$RoundSearch" 57 6 7 RX7 TX7 11 := ⟨rfl, Nat.le_of_ble_eq_true rfl, mw_296, in_wsX70⟩
theorem gi_9_7 (G : Gn) : GVI G 9 6 7 := fun _ _ _ _ => ⟨_, rfl, rfl⟩
theorem mw_297 : Cond.fieldLink "MilkDesk$RoundSearch" 63 "MilkDesk$RoundSearch" "homeY" "I" ∈ lw_G := lw_Gi 357 (by decide +kernel) rfl
theorem fk_X7_63 : FLK "MilkDesk$RoundSearch" 63 6 8 RX7 TX7 11 := ⟨rfl, Nat.le_of_ble_eq_true rfl, mw_297, in_wsX70⟩
theorem gi_9_8 (G : Gn) : GVI G 9 6 8 := fun _ _ _ _ => ⟨_, rfl, rfl⟩
theorem mw_295 : Cond.fieldLink "MilkDesk$RoundSearch" 66 "MilkDesk$RoundSearch" "minute" "I" ∈ lw_G := lw_Gi 355 (by decide +kernel) rfl
theorem fk_X7_66 : FLK "MilkDesk$RoundSearch" 66 6 6 RX7 TX7 11 := ⟨rfl, Nat.le_of_ble_eq_true rfl, mw_295, in_wsX70⟩
theorem gi_9_6 (G : Gn) : GVI G 9 6 6 := fun _ _ _ _ => ⟨_, rfl, rfl⟩
theorem mw_68 : Cond.fieldLink "MilkDesk$RoundSearch" 94 "MilkDesk$Schools" "latest" "[I" ∈ lw_G := lw_Gi 128 (by decide +kernel) rfl
theorem fk_X7_94 : FLK "MilkDesk$RoundSearch" 94 7 6 RX8 TX8 8 := ⟨rfl, Nat.le_of_ble_eq_true rfl, mw_68, in_wsX80⟩
theorem gr_2_6 (G : Gn) (i : Nat) : GVR G 2 7 6 i (ad G 20 i) := fun _ _ _ => ⟨_, rfl, rfl⟩
theorem ar_20 (G : Gn) : AI G 20 12 := fun _ _ _ _ => rfl
theorem ci_20 {i : Nat} (h : i < 3) : i < cntK 20 := h
theorem mw_288 : Cond.fieldLink "MilkDesk$RoundSearch" 73 "MilkDesk$RoundSearch" "bestWay" "I" ∈ lw_G := lw_Gi 348 (by decide +kernel) rfl
theorem fk_X7_73 : FLK "MilkDesk$RoundSearch" 73 6 0 RX7 TX7 11 := ⟨rfl, Nat.le_of_ble_eq_true rfl, mw_288, in_wsX70⟩
theorem gi_9_0 (G : Gn) : GVI G 9 6 0 := fun _ _ _ _ => ⟨_, rfl, rfl⟩
theorem mw_291 : Cond.fieldLink "MilkDesk$RoundSearch" 15 "MilkDesk$RoundSearch" "trial" "[I" ∈ lw_G := lw_Gi 351 (by decide +kernel) rfl
theorem fk_X7_15 : FLK "MilkDesk$RoundSearch" 15 6 2 RX7 TX7 11 := ⟨rfl, Nat.le_of_ble_eq_true rfl, mw_291, in_wsX70⟩
theorem gr_9_2 (G : Gn) (i : Nat) : GVR G 9 6 2 i (ad G 42 i) := fun _ _ _ => ⟨_, rfl, rfl⟩
theorem ar_42 (G : Gn) : AI G 42 7 := fun _ _ _ _ => rfl
theorem ci_42 {i : Nat} (h : i < 1) : i < cntK 42 := h
theorem mw_294 : Cond.fieldLink "MilkDesk$RoundSearch" 69 "MilkDesk$RoundSearch" "used" "I" ∈ lw_G := lw_Gi 354 (by decide +kernel) rfl
theorem fk_X7_69 : FLK "MilkDesk$RoundSearch" 69 6 5 RX7 TX7 11 := ⟨rfl, Nat.le_of_ble_eq_true rfl, mw_294, in_wsX70⟩
theorem gi_9_5 (G : Gn) : GVI G 9 6 5 := fun _ _ _ _ => ⟨_, rfl, rfl⟩
theorem pf_X7_5 : parseFieldDescriptor (TX7 5).2.2.1 = some .int := by decide +kernel
theorem pv_9_5 (G : Gn) : PV G 9 6 5 := fun _ _ _ _ _ => ⟨_, rfl, Nat.le_of_ble_eq_true rfl, rfl⟩
theorem mw_837 : Cond.code yX7_goOn cX7_goOn 6 none ∈ lw_G := lw_Gi 897 (by decide +kernel) rfl
theorem mw_10 : Cond.initialized yX7_goOn.cls ∈ lw_G := lw_Gi 70 (by decide +kernel) rfl
theorem mw_836 : Cond.instanceMethod yX7_goOn ∈ lw_G := lw_Gi 896 (by decide +kernel) rfl
theorem mp_19 : Cond.selects yX7_goOn.cls yX7_goOn yX7_goOn ∈ lw_G := lw_Gi 19 (by decide +kernel) rfl
theorem mw_834 : Cond.methodLink "MilkDesk$RoundSearch" 76 yX7_goOn ∈ lw_G := lw_Gi 894 (by decide +kernel) rfl
theorem lk_X7_76 : LKV "MilkDesk$RoundSearch" 76 yX7_goOn.cls yX7_goOn cX7_goOn 6 none 4 := ⟨mw_834, mw_836, mp_19, mw_10, mw_837, by decide +kernel, by decide +kernel, by decide +kernel⟩
theorem rc_9 (G : Gn) : ∀ w i r q, ∃ fs, Esh G w 9 i r q = .inr (6, fs) := fun _ _ _ _ => ⟨_, rfl⟩
theorem pf_X7_0 : parseFieldDescriptor (TX7 0).2.2.1 = some .int := by decide +kernel
theorem pv_9_0 (G : Gn) : PV G 9 6 0 := fun _ _ _ _ _ => ⟨_, rfl, Nat.le_of_ble_eq_true rfl, rfl⟩
theorem mw_290 : Cond.fieldLink "MilkDesk$RoundSearch" 9 "MilkDesk$RoundSearch" "best" "[I" ∈ lw_G := lw_Gi 350 (by decide +kernel) rfl
theorem fk_X7_9 : FLK "MilkDesk$RoundSearch" 9 6 1 RX7 TX7 11 := ⟨rfl, Nat.le_of_ble_eq_true rfl, mw_290, in_wsX70⟩
theorem gr_9_1 (G : Gn) (i : Nat) : GVR G 9 6 1 i (ad G 41 i) := fun _ _ _ => ⟨_, rfl, rfl⟩
theorem mt_844 : Cond.methodLinkNest "MilkDesk$RoundSearch" 84 yX11_copyAll "MilkDesk" ∈ lw_tbl := List.mem_of_getElem? (i := 904) (by decide +kernel)
theorem lk_X7_84 : LKN "MilkDesk$RoundSearch" 84 "MilkDesk" yX11_copyAll cX11_copyAll 2 none 2 := ⟨mt_844, mw_845, mw_1, mw_846, by decide +kernel, by decide +kernel, by decide +kernel⟩
theorem ar_41 (G : Gn) : AI G 41 7 := fun _ _ _ _ => rfl
theorem ci_41 {i : Nat} (h : i < 1) : i < cntK 41 := h
theorem mw_851 : Cond.code yX7_visit cX7_visit 9 none ∈ lw_G := lw_Gi 911 (by decide +kernel) rfl
theorem mw_850 : Cond.instanceMethod yX7_visit ∈ lw_G := lw_Gi 910 (by decide +kernel) rfl
theorem mp_20 : Cond.selects yX7_visit.cls yX7_visit yX7_visit ∈ lw_G := lw_Gi 20 (by decide +kernel) rfl
theorem mw_848 : Cond.methodLink "MilkDesk$RoundSearch" 88 yX7_visit ∈ lw_G := lw_Gi 908 (by decide +kernel) rfl
theorem lk_X7_88 : LKV "MilkDesk$RoundSearch" 88 yX7_visit.cls yX7_visit cX7_visit 9 none 5 := ⟨mw_848, mw_850, mp_20, mw_10, mw_851, by decide +kernel, by decide +kernel, by decide +kernel⟩
theorem mw_299 : Cond.fieldLink "MilkDesk$RoundSearch" 32 "MilkDesk$RoundSearch" "dairies" "LMilkDesk$Dairies;" ∈ lw_G := lw_Gi 359 (by decide +kernel) rfl
theorem fk_X7_32 : FLK "MilkDesk$RoundSearch" 32 6 10 RX7 TX7 11 := ⟨rfl, Nat.le_of_ble_eq_true rfl, mw_299, in_wsX70⟩
theorem gr_9_10 (G : Gn) (i : Nat) : GVR G 9 6 10 i (ad G 3 0) := fun _ _ _ => ⟨_, rfl, rfl⟩
theorem mw_99 : Cond.fieldLink "MilkDesk$RoundSearch" 52 "MilkDesk$Dairies" "x" "[I" ∈ lw_G := lw_Gi 159 (by decide +kernel) rfl
theorem fk_X7_52 : FLK "MilkDesk$RoundSearch" 52 3 1 RX4 TX4 9 := ⟨rfl, Nat.le_of_ble_eq_true rfl, mw_99, in_wsX40⟩
theorem pf_X7_7 : parseFieldDescriptor (TX7 7).2.2.1 = some .int := by decide +kernel
theorem pv_9_7 (G : Gn) : PV G 9 6 7 := fun _ _ _ _ _ => ⟨_, rfl, Nat.le_of_ble_eq_true rfl, rfl⟩
theorem mw_102 : Cond.fieldLink "MilkDesk$RoundSearch" 60 "MilkDesk$Dairies" "y" "[I" ∈ lw_G := lw_Gi 162 (by decide +kernel) rfl
theorem fk_X7_60 : FLK "MilkDesk$RoundSearch" 60 3 2 RX4 TX4 9 := ⟨rfl, Nat.le_of_ble_eq_true rfl, mw_102, in_wsX40⟩
theorem pf_X7_8 : parseFieldDescriptor (TX7 8).2.2.1 = some .int := by decide +kernel
theorem pv_9_8 (G : Gn) : PV G 9 6 8 := fun _ _ _ _ _ => ⟨_, rfl, Nat.le_of_ble_eq_true rfl, rfl⟩
theorem pf_X7_6 : parseFieldDescriptor (TX7 6).2.2.1 = some .int := by decide +kernel
theorem pv_9_6 (G : Gn) : PV G 9 6 6 := fun _ _ _ _ _ => ⟨_, rfl, Nat.le_of_ble_eq_true rfl, rfl⟩
theorem mw_833 : Cond.constant "MilkDesk$RoundSearch" 72 (1000000) ∈ lw_G := lw_Gi 893 (by decide +kernel) rfl
theorem kb_m4 : (Int8.ofInt (-4)).toInt32 = (-4 : Int32) := by decide +kernel
theorem mw_51 : Cond.fieldLink "MilkDesk$Schools" 9 "MilkDesk$Schools" "shire" "[I" ∈ lw_G := lw_Gi 111 (by decide +kernel) rfl
theorem fk_X8_9 : FLK "MilkDesk$Schools" 9 7 1 RX8 TX8 8 := ⟨rfl, Nat.le_of_ble_eq_true rfl, mw_51, in_wsX80⟩
theorem gr_2_1 (G : Gn) (i : Nat) : GVR G 2 7 1 i (ad G 15 i) := fun _ _ _ => ⟨_, rfl, rfl⟩
theorem ar_15 (G : Gn) : AI G 15 12 := fun _ _ _ _ => rfl
theorem ci_15 {i : Nat} (h : i < 3) : i < cntK 15 := h
theorem mw_54 : Cond.fieldLink "MilkDesk$Schools" 15 "MilkDesk$Schools" "x" "[I" ∈ lw_G := lw_Gi 114 (by decide +kernel) rfl
theorem fk_X8_15 : FLK "MilkDesk$Schools" 15 7 2 RX8 TX8 8 := ⟨rfl, Nat.le_of_ble_eq_true rfl, mw_54, in_wsX80⟩
theorem mw_57 : Cond.fieldLink "MilkDesk$Schools" 18 "MilkDesk$Schools" "y" "[I" ∈ lw_G := lw_Gi 117 (by decide +kernel) rfl
theorem fk_X8_18 : FLK "MilkDesk$Schools" 18 7 3 RX8 TX8 8 := ⟨rfl, Nat.le_of_ble_eq_true rfl, mw_57, in_wsX80⟩
theorem mw_66 : Cond.fieldLink "MilkDesk$Schools" 27 "MilkDesk$Schools" "latest" "[I" ∈ lw_G := lw_Gi 126 (by decide +kernel) rfl
theorem fk_X8_27 : FLK "MilkDesk$Schools" 27 7 6 RX8 TX8 8 := ⟨rfl, Nat.le_of_ble_eq_true rfl, mw_66, in_wsX80⟩
theorem ks_660 : (Int16.ofInt 660).toInt32 = (660 : Int32) := by decide +kernel
theorem pf_X8_0 : parseFieldDescriptor (TX8 0).2.2.1 = some .int := by decide +kernel
theorem pv_2_0 (G : Gn) : PV G 2 7 0 := fun _ _ _ _ _ => ⟨_, rfl, Nat.le_of_ble_eq_true rfl, rfl⟩
theorem mw_70 : Cond.fieldLink "MilkDesk$Schools" 30 "MilkDesk$Schools" "sums" "[I" ∈ lw_G := lw_Gi 130 (by decide +kernel) rfl
theorem fk_X8_30 : FLK "MilkDesk$Schools" 30 7 7 RX8 TX8 8 := ⟨rfl, Nat.le_of_ble_eq_true rfl, mw_70, in_wsX80⟩
theorem gr_2_7 (G : Gn) (i : Nat) : GVR G 2 7 7 i (ad G 21 i) := fun _ _ _ => ⟨_, rfl, rfl⟩
theorem kb_11 : (Int8.ofInt 11).toInt32 = (11 : Int32) := by decide +kernel
theorem ar_21 (G : Gn) : AI G 21 132 := fun _ _ _ _ => rfl
theorem ci_21 {i : Nat} (h : i < 3) : i < cntK 21 := h
theorem mt_878 : Cond.methodLinkNest "MilkDesk$Schools" 37 yX11_copyAll "MilkDesk" ∈ lw_tbl := List.mem_of_getElem? (i := 938) (by decide +kernel)
theorem lk_X8_37 : LKN "MilkDesk$Schools" 37 "MilkDesk" yX11_copyAll cX11_copyAll 2 none 2 := ⟨mt_878, mw_845, mw_1, mw_846, by decide +kernel, by decide +kernel, by decide +kernel⟩
theorem mw_60 : Cond.fieldLink "MilkDesk$Schools" 21 "MilkDesk$Schools" "leaves" "[I" ∈ lw_G := lw_Gi 120 (by decide +kernel) rfl
theorem fk_X8_21 : FLK "MilkDesk$Schools" 21 7 4 RX8 TX8 8 := ⟨rfl, Nat.le_of_ble_eq_true rfl, mw_60, in_wsX80⟩
theorem gr_2_4 (G : Gn) (i : Nat) : GVR G 2 7 4 i (ad G 18 i) := fun _ _ _ => ⟨_, rfl, rfl⟩
theorem ar_18 (G : Gn) : AI G 18 12 := fun _ _ _ _ => rfl
theorem ci_18 {i : Nat} (h : i < 3) : i < cntK 18 := h
theorem mw_63 : Cond.fieldLink "MilkDesk$Schools" 24 "MilkDesk$Schools" "loses" "[I" ∈ lw_G := lw_Gi 123 (by decide +kernel) rfl
theorem fk_X8_24 : FLK "MilkDesk$Schools" 24 7 5 RX8 TX8 8 := ⟨rfl, Nat.le_of_ble_eq_true rfl, mw_63, in_wsX80⟩
theorem gr_2_5 (G : Gn) (i : Nat) : GVR G 2 7 5 i (ad G 19 i) := fun _ _ _ => ⟨_, rfl, rfl⟩
theorem ar_19 (G : Gn) : AI G 19 12 := fun _ _ _ _ => rfl
theorem ci_19 {i : Nat} (h : i < 3) : i < cntK 19 := h
theorem mw_330 : Cond.fieldLink "MilkDesk$Shelf" 15 "MilkDesk$Shelf" "held" "I" ∈ lw_G := lw_Gi 390 (by decide +kernel) rfl
theorem fk_X9_15 : FLK "MilkDesk$Shelf" 15 8 0 RX9 TX9 7 := ⟨rfl, Nat.le_of_ble_eq_true rfl, mw_330, in_wsX90⟩
theorem gi_7_0 (G : Gn) : GVI G 7 8 0 := fun _ _ _ _ => ⟨_, rfl, rfl⟩
theorem pf_X9_0 : parseFieldDescriptor (TX9 0).2.2.1 = some .int := by decide +kernel
theorem pv_7_0 (G : Gn) : PV G 7 8 0 := fun _ _ _ _ _ => ⟨_, rfl, Nat.le_of_ble_eq_true rfl, rfl⟩
theorem mw_331 : Cond.fieldLink "MilkDesk$Shelf" 19 "MilkDesk$Shelf" "kind" "I" ∈ lw_G := lw_Gi 391 (by decide +kernel) rfl
theorem fk_X9_19 : FLK "MilkDesk$Shelf" 19 8 1 RX9 TX9 7 := ⟨rfl, Nat.le_of_ble_eq_true rfl, mw_331, in_wsX90⟩
theorem pf_X9_1 : parseFieldDescriptor (TX9 1).2.2.1 = some .int := by decide +kernel
theorem pv_7_1 (G : Gn) : PV G 7 8 1 := fun _ _ _ _ _ => ⟨_, rfl, Nat.le_of_ble_eq_true rfl, rfl⟩
theorem mw_333 : Cond.fieldLink "MilkDesk$Shelf" 22 "MilkDesk$Shelf" "bottles" "I" ∈ lw_G := lw_Gi 393 (by decide +kernel) rfl
theorem fk_X9_22 : FLK "MilkDesk$Shelf" 22 8 2 RX9 TX9 7 := ⟨rfl, Nat.le_of_ble_eq_true rfl, mw_333, in_wsX90⟩
theorem pf_X9_2 : parseFieldDescriptor (TX9 2).2.2.1 = some .int := by decide +kernel
theorem pv_7_2 (G : Gn) : PV G 7 8 2 := fun _ _ _ _ _ => ⟨_, rfl, Nat.le_of_ble_eq_true rfl, rfl⟩
theorem mw_335 : Cond.fieldLink "MilkDesk$Shelf" 25 "MilkDesk$Shelf" "school" "I" ∈ lw_G := lw_Gi 395 (by decide +kernel) rfl
theorem fk_X9_25 : FLK "MilkDesk$Shelf" 25 8 3 RX9 TX9 7 := ⟨rfl, Nat.le_of_ble_eq_true rfl, mw_335, in_wsX90⟩
theorem pf_X9_3 : parseFieldDescriptor (TX9 3).2.2.1 = some .int := by decide +kernel
theorem pv_7_3 (G : Gn) : PV G 7 8 3 := fun _ _ _ _ _ => ⟨_, rfl, Nat.le_of_ble_eq_true rfl, rfl⟩
theorem pf_X9_4 : parseFieldDescriptor (TX9 4).2.2.1 = some .int := by decide +kernel
theorem pv_7_4 (G : Gn) : PV G 7 8 4 := fun _ _ _ _ _ => ⟨_, rfl, Nat.le_of_ble_eq_true rfl, rfl⟩
theorem mw_342 : Cond.fieldLink "MilkDesk$Shelf" 31 "MilkDesk$Shelf" "size" "I" ∈ lw_G := lw_Gi 402 (by decide +kernel) rfl
theorem fk_X9_31 : FLK "MilkDesk$Shelf" 31 8 5 RX9 TX9 7 := ⟨rfl, Nat.le_of_ble_eq_true rfl, mw_342, in_wsX90⟩
theorem pf_X9_5 : parseFieldDescriptor (TX9 5).2.2.1 = some .int := by decide +kernel
theorem pv_7_5 (G : Gn) : PV G 7 8 5 := fun _ _ _ _ _ => ⟨_, rfl, Nat.le_of_ble_eq_true rfl, rfl⟩
theorem mw_344 : Cond.fieldLink "MilkDesk$Shelf" 9 "MilkDesk$Shelf" "cells" "[I" ∈ lw_G := lw_Gi 404 (by decide +kernel) rfl
theorem fk_X9_9 : FLK "MilkDesk$Shelf" 9 8 6 RX9 TX9 7 := ⟨rfl, Nat.le_of_ble_eq_true rfl, mw_344, in_wsX90⟩
theorem mw_939 : Cond.code yX9_hasPlace cX9_hasPlace 2 (some .boolean) ∈ lw_G := lw_Gi 999 (by decide +kernel) rfl
theorem mw_937 : Cond.instanceMethod yX9_hasPlace ∈ lw_G := lw_Gi 997 (by decide +kernel) rfl
theorem mw_938 : Cond.selects yX9_hasPlace.cls yX9_hasPlace yX9_hasPlace ∈ lw_G := lw_Gi 998 (by decide +kernel) rfl
theorem mw_936 : Cond.methodLink "MilkDesk$Shelf" 34 yX9_hasPlace ∈ lw_G := lw_Gi 996 (by decide +kernel) rfl
theorem lk_X9_34 : LKV "MilkDesk$Shelf" 34 yX9_hasPlace.cls yX9_hasPlace cX9_hasPlace 2 (some .boolean) 1 := ⟨mw_936, mw_937, mw_938, mw_11, mw_939, by decide +kernel, by decide +kernel, by decide +kernel⟩
theorem mw_213 : Cond.fieldLink "MilkDesk$World" 67 "MilkDesk$World" "day" "I" ∈ lw_G := lw_Gi 273 (by decide +kernel) rfl
theorem fk_X10_67 : FLK "MilkDesk$World" 67 9 0 RX10 TX10 10 := ⟨rfl, Nat.le_of_ble_eq_true rfl, mw_213, in_wsX100⟩
theorem gi_1_0 (G : Gn) : GVI G 1 9 0 := fun _ _ _ _ => ⟨_, rfl, rfl⟩
theorem ci_1 {i : Nat} (h : i < 3) : i < cntK 1 := h
theorem pf_X10_0 : parseFieldDescriptor (TX10 0).2.2.1 = some .int := by decide +kernel
theorem pv_1_0 (G : Gn) : PV G 1 9 0 := fun _ _ _ _ _ => ⟨_, rfl, Nat.le_of_ble_eq_true rfl, rfl⟩
theorem mw_215 : Cond.fieldLink "MilkDesk$World" 12 "MilkDesk$World" "schools" "LMilkDesk$Schools;" ∈ lw_G := lw_Gi 275 (by decide +kernel) rfl
theorem fk_X10_12 : FLK "MilkDesk$World" 12 9 1 RX10 TX10 10 := ⟨rfl, Nat.le_of_ble_eq_true rfl, mw_215, in_wsX100⟩
theorem gr_1_1 (G : Gn) (i : Nat) : GVR G 1 9 1 i (ad G 2 i) := fun _ _ _ => ⟨_, rfl, rfl⟩
theorem mw_877 : Cond.code yX8_copyFrom cX8_copyFrom 2 none ∈ lw_G := lw_Gi 937 (by decide +kernel) rfl
theorem mw_875 : Cond.instanceMethod yX8_copyFrom ∈ lw_G := lw_Gi 935 (by decide +kernel) rfl
theorem mw_876 : Cond.selects yX8_copyFrom.cls yX8_copyFrom yX8_copyFrom ∈ lw_G := lw_Gi 936 (by decide +kernel) rfl
theorem mw_874 : Cond.methodLink "MilkDesk$World" 71 yX8_copyFrom ∈ lw_G := lw_Gi 934 (by decide +kernel) rfl
theorem lk_X10_71 : LKV "MilkDesk$World" 71 yX8_copyFrom.cls yX8_copyFrom cX8_copyFrom 2 none 1 := ⟨mw_874, mw_875, mw_876, mw_3, mw_877, by decide +kernel, by decide +kernel, by decide +kernel⟩
theorem mw_218 : Cond.fieldLink "MilkDesk$World" 21 "MilkDesk$World" "dairies" "LMilkDesk$Dairies;" ∈ lw_G := lw_Gi 278 (by decide +kernel) rfl
theorem fk_X10_21 : FLK "MilkDesk$World" 21 9 2 RX10 TX10 10 := ⟨rfl, Nat.le_of_ble_eq_true rfl, mw_218, in_wsX100⟩
theorem gr_1_2 (G : Gn) (i : Nat) : GVR G 1 9 2 i (ad G 3 i) := fun _ _ _ => ⟨_, rfl, rfl⟩
theorem mw_882 : Cond.code yX4_copyFrom cX4_copyFrom 2 none ∈ lw_G := lw_Gi 942 (by decide +kernel) rfl
theorem mw_880 : Cond.instanceMethod yX4_copyFrom ∈ lw_G := lw_Gi 940 (by decide +kernel) rfl
theorem mw_881 : Cond.selects yX4_copyFrom.cls yX4_copyFrom yX4_copyFrom ∈ lw_G := lw_Gi 941 (by decide +kernel) rfl
theorem mw_879 : Cond.methodLink "MilkDesk$World" 75 yX4_copyFrom ∈ lw_G := lw_Gi 939 (by decide +kernel) rfl
theorem lk_X10_75 : LKV "MilkDesk$World" 75 yX4_copyFrom.cls yX4_copyFrom cX4_copyFrom 2 none 1 := ⟨mw_879, mw_880, mw_881, mw_4, mw_882, by decide +kernel, by decide +kernel, by decide +kernel⟩
theorem mw_221 : Cond.fieldLink "MilkDesk$World" 28 "MilkDesk$World" "heads" "LMilkDesk$HeadRows;" ∈ lw_G := lw_Gi 281 (by decide +kernel) rfl
theorem fk_X10_28 : FLK "MilkDesk$World" 28 9 3 RX10 TX10 10 := ⟨rfl, Nat.le_of_ble_eq_true rfl, mw_221, in_wsX100⟩
theorem gr_1_3 (G : Gn) (i : Nat) : GVR G 1 9 3 i (ad G 4 i) := fun _ _ _ => ⟨_, rfl, rfl⟩
theorem mw_887 : Cond.code yX5_copyFrom cX5_copyFrom 2 none ∈ lw_G := lw_Gi 947 (by decide +kernel) rfl
theorem mw_885 : Cond.instanceMethod yX5_copyFrom ∈ lw_G := lw_Gi 945 (by decide +kernel) rfl
theorem mw_886 : Cond.selects yX5_copyFrom.cls yX5_copyFrom yX5_copyFrom ∈ lw_G := lw_Gi 946 (by decide +kernel) rfl
theorem mw_884 : Cond.methodLink "MilkDesk$World" 78 yX5_copyFrom ∈ lw_G := lw_Gi 944 (by decide +kernel) rfl
theorem lk_X10_78 : LKV "MilkDesk$World" 78 yX5_copyFrom.cls yX5_copyFrom cX5_copyFrom 2 none 1 := ⟨mw_884, mw_885, mw_886, mw_5, mw_887, by decide +kernel, by decide +kernel, by decide +kernel⟩
theorem mw_223 : Cond.fieldLink "MilkDesk$World" 35 "MilkDesk$World" "acts" "LMilkDesk$ActBook;" ∈ lw_G := lw_Gi 283 (by decide +kernel) rfl
theorem fk_X10_35 : FLK "MilkDesk$World" 35 9 4 RX10 TX10 10 := ⟨rfl, Nat.le_of_ble_eq_true rfl, mw_223, in_wsX100⟩
theorem gr_1_4 (G : Gn) (i : Nat) : GVR G 1 9 4 i (ad G 5 i) := fun _ _ _ => ⟨_, rfl, rfl⟩
theorem mw_892 : Cond.code yX1_copyFrom cX1_copyFrom 3 none ∈ lw_G := lw_Gi 952 (by decide +kernel) rfl
theorem mw_890 : Cond.instanceMethod yX1_copyFrom ∈ lw_G := lw_Gi 950 (by decide +kernel) rfl
theorem mw_891 : Cond.selects yX1_copyFrom.cls yX1_copyFrom yX1_copyFrom ∈ lw_G := lw_Gi 951 (by decide +kernel) rfl
theorem mw_889 : Cond.methodLink "MilkDesk$World" 81 yX1_copyFrom ∈ lw_G := lw_Gi 949 (by decide +kernel) rfl
theorem lk_X10_81 : LKV "MilkDesk$World" 81 yX1_copyFrom.cls yX1_copyFrom cX1_copyFrom 3 none 1 := ⟨mw_889, mw_890, mw_891, mw_6, mw_892, by decide +kernel, by decide +kernel, by decide +kernel⟩
theorem mw_225 : Cond.fieldLink "MilkDesk$World" 42 "MilkDesk$World" "looks" "LMilkDesk$Looks;" ∈ lw_G := lw_Gi 285 (by decide +kernel) rfl
theorem fk_X10_42 : FLK "MilkDesk$World" 42 9 5 RX10 TX10 10 := ⟨rfl, Nat.le_of_ble_eq_true rfl, mw_225, in_wsX100⟩
theorem gr_1_5 (G : Gn) (i : Nat) : GVR G 1 9 5 i (ad G 6 i) := fun _ _ _ => ⟨_, rfl, rfl⟩
theorem mw_897 : Cond.code yX6_copyFrom cX6_copyFrom 2 none ∈ lw_G := lw_Gi 957 (by decide +kernel) rfl
theorem mw_7 : Cond.initialized yX6_copyFrom.cls ∈ lw_G := lw_Gi 67 (by decide +kernel) rfl
theorem mw_895 : Cond.instanceMethod yX6_copyFrom ∈ lw_G := lw_Gi 955 (by decide +kernel) rfl
theorem mw_896 : Cond.selects yX6_copyFrom.cls yX6_copyFrom yX6_copyFrom ∈ lw_G := lw_Gi 956 (by decide +kernel) rfl
theorem mw_894 : Cond.methodLink "MilkDesk$World" 84 yX6_copyFrom ∈ lw_G := lw_Gi 954 (by decide +kernel) rfl
theorem lk_X10_84 : LKV "MilkDesk$World" 84 yX6_copyFrom.cls yX6_copyFrom cX6_copyFrom 2 none 1 := ⟨mw_894, mw_895, mw_896, mw_7, mw_897, by decide +kernel, by decide +kernel, by decide +kernel⟩
theorem rc_6 (G : Gn) : ∀ w i r q, ∃ fs, Esh G w 6 i r q = .inr (5, fs) := fun _ _ _ _ => ⟨_, rfl⟩
theorem mw_227 : Cond.fieldLink "MilkDesk$World" 46 "MilkDesk$World" "months" "[I" ∈ lw_G := lw_Gi 287 (by decide +kernel) rfl
theorem fk_X10_46 : FLK "MilkDesk$World" 46 9 6 RX10 TX10 10 := ⟨rfl, Nat.le_of_ble_eq_true rfl, mw_227, in_wsX100⟩
theorem gr_1_6 (G : Gn) (i : Nat) : GVR G 1 9 6 i (ad G 12 i) := fun _ _ _ => ⟨_, rfl, rfl⟩
theorem mt_899 : Cond.methodLinkNest "MilkDesk$World" 87 yX11_copyAll "MilkDesk" ∈ lw_tbl := List.mem_of_getElem? (i := 959) (by decide +kernel)
theorem lk_X10_87 : LKN "MilkDesk$World" 87 "MilkDesk" yX11_copyAll cX11_copyAll 2 none 2 := ⟨mt_899, mw_845, mw_1, mw_846, by decide +kernel, by decide +kernel, by decide +kernel⟩
theorem ar_12 (G : Gn) : AI G 12 36 := fun _ _ _ _ => rfl
theorem ci_12 {i : Nat} (h : i < 3) : i < cntK 12 := h
theorem ks_400 : (Int16.ofInt 400).toInt32 = (400 : Int32) := by decide +kernel
theorem mw_484 : Cond.code yX5_counting cX5_counting 6 (some .int) ∈ lw_G := lw_Gi 544 (by decide +kernel) rfl
theorem mw_482 : Cond.instanceMethod yX5_counting ∈ lw_G := lw_Gi 542 (by decide +kernel) rfl
theorem mw_483 : Cond.selects yX5_counting.cls yX5_counting yX5_counting ∈ lw_G := lw_Gi 543 (by decide +kernel) rfl
theorem mw_716 : Cond.methodLink "MilkDesk$World" 91 yX5_counting ∈ lw_G := lw_Gi 776 (by decide +kernel) rfl
theorem lk_X10_91 : LKV "MilkDesk$World" 91 yX5_counting.cls yX5_counting cX5_counting 6 (some .int) 4 := ⟨mw_716, mw_482, mw_483, mw_5, mw_484, by decide +kernel, by decide +kernel, by decide +kernel⟩
theorem mw_186 : Cond.fieldLink "MilkDesk$World" 95 "MilkDesk$Looks" "school" "[I" ∈ lw_G := lw_Gi 246 (by decide +kernel) rfl
theorem fk_X10_95 : FLK "MilkDesk$World" 95 5 1 RX6 TX6 4 := ⟨rfl, Nat.le_of_ble_eq_true rfl, mw_186, in_wsX60⟩
theorem mw_189 : Cond.fieldLink "MilkDesk$World" 98 "MilkDesk$Looks" "day" "[I" ∈ lw_G := lw_Gi 249 (by decide +kernel) rfl
theorem fk_X10_98 : FLK "MilkDesk$World" 98 5 2 RX6 TX6 4 := ⟨rfl, Nat.le_of_ble_eq_true rfl, mw_189, in_wsX60⟩
theorem mw_715 : Cond.code yX10_headsOfAll cX10_headsOfAll 5 (some .int) ∈ lw_G := lw_Gi 775 (by decide +kernel) rfl
theorem mw_2 : Cond.initialized yX10_headsOfAll.cls ∈ lw_G := lw_Gi 62 (by decide +kernel) rfl
theorem mw_713 : Cond.instanceMethod yX10_headsOfAll ∈ lw_G := lw_Gi 773 (by decide +kernel) rfl
theorem mw_714 : Cond.selects yX10_headsOfAll.cls yX10_headsOfAll yX10_headsOfAll ∈ lw_G := lw_Gi 774 (by decide +kernel) rfl
theorem mw_712 : Cond.methodLink "MilkDesk$World" 100 yX10_headsOfAll ∈ lw_G := lw_Gi 772 (by decide +kernel) rfl
theorem lk_X10_100 : LKV "MilkDesk$World" 100 yX10_headsOfAll.cls yX10_headsOfAll cX10_headsOfAll 5 (some .int) 2 := ⟨mw_712, mw_713, mw_714, mw_2, mw_715, by decide +kernel, by decide +kernel, by decide +kernel⟩
theorem rc_1 (G : Gn) : ∀ w i r q, ∃ fs, Esh G w 1 i r q = .inr (9, fs) := fun _ _ _ _ => ⟨_, rfl⟩
theorem mw_191 : Cond.fieldLink "MilkDesk$World" 104 "MilkDesk$Looks" "really" "[I" ∈ lw_G := lw_Gi 251 (by decide +kernel) rfl
theorem fk_X10_104 : FLK "MilkDesk$World" 104 5 3 RX6 TX6 4 := ⟨rfl, Nat.le_of_ble_eq_true rfl, mw_191, in_wsX60⟩
theorem mw_52 : Cond.fieldLink "MilkDesk$World" 107 "MilkDesk$Schools" "shire" "[I" ∈ lw_G := lw_Gi 112 (by decide +kernel) rfl
theorem fk_X10_107 : FLK "MilkDesk$World" 107 7 1 RX8 TX8 8 := ⟨rfl, Nat.le_of_ble_eq_true rfl, mw_52, in_wsX80⟩
theorem mw_944 : Cond.methodLink "MilkDesk$World" 110 Lib.Math.abs.name ∈ lw_G := lw_Gi 1004 (by decide +kernel) rfl
theorem kb_30 : (Int8.ofInt 30).toInt32 = (30 : Int32) := by decide +kernel
theorem nz_30 : ¬ (30 : Int32) = 0 := by decide +kernel
theorem nz_12 : ¬ (12 : Int32) = 0 := by decide +kernel
theorem mw_707 : Cond.code yX11_monthOf cX11_monthOf 1 (some .int) ∈ lw_G := lw_Gi 767 (by decide +kernel) rfl
theorem mw_706 : Cond.static yX11_monthOf ∈ lw_G := lw_Gi 766 (by decide +kernel) rfl
theorem mt_705 : Cond.methodLinkNest "MilkDesk$World" 116 yX11_monthOf "MilkDesk" ∈ lw_tbl := List.mem_of_getElem? (i := 765) (by decide +kernel)
theorem lk_X10_116 : LKN "MilkDesk$World" 116 "MilkDesk" yX11_monthOf cX11_monthOf 1 (some .int) 1 := ⟨mt_705, mw_706, mw_1, mw_707, by decide +kernel, by decide +kernel, by decide +kernel⟩
theorem mw_229 : Cond.fieldLink "MilkDesk$World" 60 "MilkDesk$World" "fields" "[I" ∈ lw_G := lw_Gi 289 (by decide +kernel) rfl
theorem fk_X10_60 : FLK "MilkDesk$World" 60 9 7 RX10 TX10 10 := ⟨rfl, Nat.le_of_ble_eq_true rfl, mw_229, in_wsX100⟩
theorem gr_1_7 (G : Gn) (i : Nat) : GVR G 1 9 7 i (ad G 13 i) := fun _ _ _ => ⟨_, rfl, rfl⟩
theorem kn_1 : (1 : Int32).toNatClampNeg = 1 ∧ ¬ (1 : Int32) < 0 := by decide +kernel
theorem kn_2 : (2 : Int32).toNatClampNeg = 2 ∧ ¬ (2 : Int32) < 0 := by decide +kernel
theorem kn_3 : (3 : Int32).toNatClampNeg = 3 ∧ ¬ (3 : Int32) < 0 := by decide +kernel
theorem kn_4 : (4 : Int32).toNatClampNeg = 4 ∧ ¬ (4 : Int32) < 0 := by decide +kernel
theorem ki_5 : Int32.ofInt 5 = (5 : Int32) := by decide +kernel
theorem mw_711 : Cond.code yX10_monthFact cX10_monthFact 3 (some .int) ∈ lw_G := lw_Gi 771 (by decide +kernel) rfl
theorem mw_710 : Cond.instanceMethod yX10_monthFact ∈ lw_G := lw_Gi 770 (by decide +kernel) rfl
theorem mp_16 : Cond.selects yX10_monthFact.cls yX10_monthFact yX10_monthFact ∈ lw_G := lw_Gi 16 (by decide +kernel) rfl
theorem mw_708 : Cond.methodLink "MilkDesk$World" 119 yX10_monthFact ∈ lw_G := lw_Gi 768 (by decide +kernel) rfl
theorem lk_X10_119 : LKV "MilkDesk$World" 119 yX10_monthFact.cls yX10_monthFact cX10_monthFact 3 (some .int) 2 := ⟨mw_708, mw_710, mp_16, mw_2, mw_711, by decide +kernel, by decide +kernel, by decide +kernel⟩
theorem kn_5 : (5 : Int32).toNatClampNeg = 5 ∧ ¬ (5 : Int32) < 0 := by decide +kernel
theorem kb_6 : (Int8.ofInt 6).toInt32 = (6 : Int32) := by decide +kernel
theorem kn_6 : (6 : Int32).toNatClampNeg = 6 ∧ ¬ (6 : Int32) < 0 := by decide +kernel
theorem mw_56 : Cond.fieldLink "MilkDesk$World" 122 "MilkDesk$Schools" "x" "[I" ∈ lw_G := lw_Gi 116 (by decide +kernel) rfl
theorem fk_X10_122 : FLK "MilkDesk$World" 122 7 2 RX8 TX8 8 := ⟨rfl, Nat.le_of_ble_eq_true rfl, mw_56, in_wsX80⟩
theorem kn_7 : (7 : Int32).toNatClampNeg = 7 ∧ ¬ (7 : Int32) < 0 := by decide +kernel
theorem mw_59 : Cond.fieldLink "MilkDesk$World" 125 "MilkDesk$Schools" "y" "[I" ∈ lw_G := lw_Gi 119 (by decide +kernel) rfl
theorem fk_X10_125 : FLK "MilkDesk$World" 125 7 3 RX8 TX8 8 := ⟨rfl, Nat.le_of_ble_eq_true rfl, mw_59, in_wsX80⟩
theorem kn_8 : (8 : Int32).toNatClampNeg = 8 ∧ ¬ (8 : Int32) < 0 := by decide +kernel
theorem kb_9 : (Int8.ofInt 9).toInt32 = (9 : Int32) := by decide +kernel
theorem kn_9 : (9 : Int32).toNatClampNeg = 9 ∧ ¬ (9 : Int32) < 0 := by decide +kernel
theorem mw_686 : Cond.code yX1_inForce cX1_inForce 8 (some .int) ∈ lw_G := lw_Gi 746 (by decide +kernel) rfl
theorem mw_684 : Cond.instanceMethod yX1_inForce ∈ lw_G := lw_Gi 744 (by decide +kernel) rfl
theorem mw_685 : Cond.selects yX1_inForce.cls yX1_inForce yX1_inForce ∈ lw_G := lw_Gi 745 (by decide +kernel) rfl
theorem mw_700 : Cond.methodLink "MilkDesk$World" 128 yX1_inForce ∈ lw_G := lw_Gi 760 (by decide +kernel) rfl
theorem lk_X10_128 : LKV "MilkDesk$World" 128 yX1_inForce.cls yX1_inForce cX1_inForce 8 (some .int) 3 := ⟨mw_700, mw_684, mw_685, mw_6, mw_686, by decide +kernel, by decide +kernel, by decide +kernel⟩
theorem mw_704 : Cond.code yX10_readFields cX10_readFields 4 none ∈ lw_G := lw_Gi 764 (by decide +kernel) rfl
theorem mw_703 : Cond.instanceMethod yX10_readFields ∈ lw_G := lw_Gi 763 (by decide +kernel) rfl
theorem mp_15 : Cond.selects yX10_readFields.cls yX10_readFields yX10_readFields ∈ lw_G := lw_Gi 15 (by decide +kernel) rfl
theorem mw_701 : Cond.methodLink "MilkDesk$World" 132 yX10_readFields ∈ lw_G := lw_Gi 761 (by decide +kernel) rfl
theorem lk_X10_132 : LKV "MilkDesk$World" 132 yX10_readFields.cls yX10_readFields cX10_readFields 4 none 3 := ⟨mw_701, mw_703, mp_15, mw_2, mw_704, by decide +kernel, by decide +kernel, by decide +kernel⟩
theorem mw_230 : Cond.fieldLink "MilkDesk$World" 63 "MilkDesk$World" "stack" "[I" ∈ lw_G := lw_Gi 290 (by decide +kernel) rfl
theorem fk_X10_63 : FLK "MilkDesk$World" 63 9 8 RX10 TX10 10 := ⟨rfl, Nat.le_of_ble_eq_true rfl, mw_230, in_wsX100⟩
theorem gr_1_8 (G : Gn) (i : Nat) : GVR G 1 9 8 i (ad G 14 i) := fun _ _ _ => ⟨_, rfl, rfl⟩
theorem mw_720 : Cond.code yX1_meets cX1_meets 5 (some .boolean) ∈ lw_G := lw_Gi 780 (by decide +kernel) rfl
theorem mw_718 : Cond.instanceMethod yX1_meets ∈ lw_G := lw_Gi 778 (by decide +kernel) rfl
theorem mw_719 : Cond.selects yX1_meets.cls yX1_meets yX1_meets ∈ lw_G := lw_Gi 779 (by decide +kernel) rfl
theorem mw_717 : Cond.methodLink "MilkDesk$World" 136 yX1_meets ∈ lw_G := lw_Gi 777 (by decide +kernel) rfl
theorem lk_X10_136 : LKV "MilkDesk$World" 136 yX1_meets.cls yX1_meets cX1_meets 5 (some .boolean) 3 := ⟨mw_717, mw_718, mw_719, mw_6, mw_720, by decide +kernel, by decide +kernel, by decide +kernel⟩
theorem mw_165 : Cond.fieldLink "MilkDesk$World" 140 "MilkDesk$ActBook" "count" "I" ∈ lw_G := lw_Gi 225 (by decide +kernel) rfl
theorem fk_X10_140 : FLK "MilkDesk$World" 140 1 0 RX1 TX1 3 := ⟨rfl, Nat.le_of_ble_eq_true rfl, mw_165, in_wsX10⟩
theorem mw_739 : Cond.methodLink "MilkDesk$World" 143 yX1_couldBeInForce ∈ lw_G := lw_Gi 799 (by decide +kernel) rfl
theorem lk_X10_143 : LKV "MilkDesk$World" 143 yX1_couldBeInForce.cls yX1_couldBeInForce cX1_couldBeInForce 6 (some .boolean) 4 := ⟨mw_739, mw_688, mw_689, mw_6, mw_690, by decide +kernel, by decide +kernel, by decide +kernel⟩
theorem mw_750 : Cond.code yX11_isSchoolDay cX11_isSchoolDay 1 (some .boolean) ∈ lw_G := lw_Gi 810 (by decide +kernel) rfl
theorem mw_749 : Cond.static yX11_isSchoolDay ∈ lw_G := lw_Gi 809 (by decide +kernel) rfl
theorem mt_748 : Cond.methodLinkNest "MilkDesk$World" 147 yX11_isSchoolDay "MilkDesk" ∈ lw_tbl := List.mem_of_getElem? (i := 808) (by decide +kernel)
theorem lk_X10_147 : LKN "MilkDesk$World" 147 "MilkDesk" yX11_isSchoolDay cX11_isSchoolDay 1 (some .boolean) 1 := ⟨mt_748, mw_749, mw_1, mw_750, by decide +kernel, by decide +kernel, by decide +kernel⟩
theorem mw_50 : Cond.fieldLink "MilkDesk$World" 151 "MilkDesk$Schools" "count" "I" ∈ lw_G := lw_Gi 110 (by decide +kernel) rfl
theorem fk_X10_151 : FLK "MilkDesk$World" 151 7 0 RX8 TX8 8 := ⟨rfl, Nat.le_of_ble_eq_true rfl, mw_50, in_wsX80⟩
theorem mw_762 : Cond.code yX10_ordered cX10_ordered 7 (some .int) ∈ lw_G := lw_Gi 822 (by decide +kernel) rfl
theorem mw_760 : Cond.instanceMethod yX10_ordered ∈ lw_G := lw_Gi 820 (by decide +kernel) rfl
theorem mw_761 : Cond.selects yX10_ordered.cls yX10_ordered yX10_ordered ∈ lw_G := lw_Gi 821 (by decide +kernel) rfl
theorem mw_759 : Cond.methodLink "MilkDesk$World" 152 yX10_ordered ∈ lw_G := lw_Gi 819 (by decide +kernel) rfl
theorem lk_X10_152 : LKV "MilkDesk$World" 152 yX10_ordered.cls yX10_ordered cX10_ordered 7 (some .int) 3 := ⟨mw_759, mw_760, mw_761, mw_2, mw_762, by decide +kernel, by decide +kernel, by decide +kernel⟩
theorem kb_20 : (Int8.ofInt 20).toInt32 = (20 : Int32) := by decide +kernel
theorem mw_699 : Cond.code yX10_purposeHolds cX10_purposeHolds 6 (some .boolean) ∈ lw_G := lw_Gi 759 (by decide +kernel) rfl
theorem mw_697 : Cond.instanceMethod yX10_purposeHolds ∈ lw_G := lw_Gi 757 (by decide +kernel) rfl
theorem mw_698 : Cond.selects yX10_purposeHolds.cls yX10_purposeHolds yX10_purposeHolds ∈ lw_G := lw_Gi 758 (by decide +kernel) rfl
theorem mw_778 : Cond.methodLink "MilkDesk$World" 186 yX10_purposeHolds ∈ lw_G := lw_Gi 838 (by decide +kernel) rfl
theorem lk_X10_186 : LKV "MilkDesk$World" 186 yX10_purposeHolds.cls yX10_purposeHolds cX10_purposeHolds 6 (some .boolean) 4 := ⟨mw_778, mw_697, mw_698, mw_2, mw_699, by decide +kernel, by decide +kernel, by decide +kernel⟩
theorem mw_62 : Cond.fieldLink "MilkDesk$World" 189 "MilkDesk$Schools" "leaves" "[I" ∈ lw_G := lw_Gi 122 (by decide +kernel) rfl
theorem fk_X10_189 : FLK "MilkDesk$World" 189 7 4 RX8 TX8 8 := ⟨rfl, Nat.le_of_ble_eq_true rfl, mw_62, in_wsX80⟩
theorem mw_65 : Cond.fieldLink "MilkDesk$World" 192 "MilkDesk$Schools" "loses" "[I" ∈ lw_G := lw_Gi 125 (by decide +kernel) rfl
theorem fk_X10_192 : FLK "MilkDesk$World" 192 7 5 RX8 TX8 8 := ⟨rfl, Nat.le_of_ble_eq_true rfl, mw_65, in_wsX80⟩
theorem mw_773 : Cond.code yX8_addTo cX8_addTo 4 none ∈ lw_G := lw_Gi 833 (by decide +kernel) rfl
theorem mw_771 : Cond.instanceMethod yX8_addTo ∈ lw_G := lw_Gi 831 (by decide +kernel) rfl
theorem mw_772 : Cond.selects yX8_addTo.cls yX8_addTo yX8_addTo ∈ lw_G := lw_Gi 832 (by decide +kernel) rfl
theorem mw_770 : Cond.methodLink "MilkDesk$World" 174 yX8_addTo ∈ lw_G := lw_Gi 830 (by decide +kernel) rfl
theorem lk_X10_174 : LKV "MilkDesk$World" 174 yX8_addTo.cls yX8_addTo cX8_addTo 4 none 3 := ⟨mw_770, mw_771, mw_772, mw_3, mw_773, by decide +kernel, by decide +kernel, by decide +kernel⟩
theorem mw_782 : Cond.code yX4_price cX4_price 3 (some .int) ∈ lw_G := lw_Gi 842 (by decide +kernel) rfl
theorem mw_780 : Cond.instanceMethod yX4_price ∈ lw_G := lw_Gi 840 (by decide +kernel) rfl
theorem mw_781 : Cond.selects yX4_price.cls yX4_price yX4_price ∈ lw_G := lw_Gi 841 (by decide +kernel) rfl
theorem mw_779 : Cond.methodLink "MilkDesk$World" 195 yX4_price ∈ lw_G := lw_Gi 839 (by decide +kernel) rfl
theorem lk_X10_195 : LKV "MilkDesk$World" 195 yX4_price.cls yX4_price cX4_price 3 (some .int) 1 := ⟨mw_779, mw_780, mw_781, mw_4, mw_782, by decide +kernel, by decide +kernel, by decide +kernel⟩
theorem mw_786 : Cond.code yX3_paid cX3_paid 5 (some .int) ∈ lw_G := lw_Gi 846 (by decide +kernel) rfl
theorem mw_20 : Cond.initialized yX3_paid.cls ∈ lw_G := lw_Gi 80 (by decide +kernel) rfl
theorem mw_785 : Cond.static yX3_paid ∈ lw_G := lw_Gi 845 (by decide +kernel) rfl
theorem mw_784 : Cond.methodLink "MilkDesk$World" 200 yX3_paid ∈ lw_G := lw_Gi 844 (by decide +kernel) rfl
theorem lk_X10_200 : LKS "MilkDesk$World" 200 yX3_paid cX3_paid 5 (some .int) 3 := ⟨mw_784, mw_785, mw_20, mw_786, by decide +kernel, by decide +kernel, by decide +kernel⟩
theorem mw_231 : Cond.fieldLink "MilkDesk$World" 159 "MilkDesk$World" "cowsLeft" "I" ∈ lw_G := lw_Gi 291 (by decide +kernel) rfl
theorem fk_X10_159 : FLK "MilkDesk$World" 159 9 9 RX10 TX10 10 := ⟨rfl, Nat.le_of_ble_eq_true rfl, mw_231, in_wsX100⟩
theorem pf_X10_9 : parseFieldDescriptor (TX10 9).2.2.1 = some .int := by decide +kernel
theorem pv_1_9 (G : Gn) : PV G 1 9 9 := fun _ _ _ _ _ => ⟨_, rfl, Nat.le_of_ble_eq_true rfl, rfl⟩
theorem mw_758 : Cond.code yX4_openDay cX4_openDay 2 none ∈ lw_G := lw_Gi 818 (by decide +kernel) rfl
theorem mw_756 : Cond.instanceMethod yX4_openDay ∈ lw_G := lw_Gi 816 (by decide +kernel) rfl
theorem mw_757 : Cond.selects yX4_openDay.cls yX4_openDay yX4_openDay ∈ lw_G := lw_Gi 817 (by decide +kernel) rfl
theorem mw_755 : Cond.methodLink "MilkDesk$World" 162 yX4_openDay ∈ lw_G := lw_Gi 815 (by decide +kernel) rfl
theorem lk_X10_162 : LKV "MilkDesk$World" 162 yX4_openDay.cls yX4_openDay cX4_openDay 2 none 0 := ⟨mw_755, mw_756, mw_757, mw_4, mw_758, by decide +kernel, by decide +kernel, by decide +kernel⟩
theorem mw_790 : Cond.code yX4_closeDay cX4_closeDay 2 none ∈ lw_G := lw_Gi 850 (by decide +kernel) rfl
theorem mw_788 : Cond.instanceMethod yX4_closeDay ∈ lw_G := lw_Gi 848 (by decide +kernel) rfl
theorem mw_789 : Cond.selects yX4_closeDay.cls yX4_closeDay yX4_closeDay ∈ lw_G := lw_Gi 849 (by decide +kernel) rfl
theorem mw_787 : Cond.methodLink "MilkDesk$World" 183 yX4_closeDay ∈ lw_G := lw_Gi 847 (by decide +kernel) rfl
theorem lk_X10_183 : LKV "MilkDesk$World" 183 yX4_closeDay.cls yX4_closeDay cX4_closeDay 2 none 0 := ⟨mw_787, mw_788, mw_789, mw_4, mw_790, by decide +kernel, by decide +kernel, by decide +kernel⟩
theorem mw_763 : Cond.methodLink "MilkDesk$World" 165 yX4_winner ∈ lw_G := lw_Gi 823 (by decide +kernel) rfl
theorem lk_X10_165 : LKV "MilkDesk$World" 165 yX4_winner.cls yX4_winner cX4_winner 6 (some .int) 1 := ⟨mw_763, mw_427, mw_428, mw_4, mw_429, by decide +kernel, by decide +kernel, by decide +kernel⟩
theorem gi_1_9 (G : Gn) : GVI G 1 9 9 := fun _ _ _ _ => ⟨_, rfl, rfl⟩
theorem mw_764 : Cond.methodLink "MilkDesk$World" 168 Lib.Math.min.name ∈ lw_G := lw_Gi 824 (by decide +kernel) rfl
theorem mw_768 : Cond.code yX4_send cX4_send 4 (some .int) ∈ lw_G := lw_Gi 828 (by decide +kernel) rfl
theorem mw_766 : Cond.instanceMethod yX4_send ∈ lw_G := lw_Gi 826 (by decide +kernel) rfl
theorem mw_767 : Cond.selects yX4_send.cls yX4_send yX4_send ∈ lw_G := lw_Gi 827 (by decide +kernel) rfl
theorem mw_765 : Cond.methodLink "MilkDesk$World" 171 yX4_send ∈ lw_G := lw_Gi 825 (by decide +kernel) rfl
theorem lk_X10_171 : LKV "MilkDesk$World" 171 yX4_send.cls yX4_send cX4_send 4 (some .int) 2 := ⟨mw_765, mw_766, mw_767, mw_4, mw_768, by decide +kernel, by decide +kernel, by decide +kernel⟩
theorem mw_777 : Cond.code yX10_handOut cX10_handOut 11 (some .int) ∈ lw_G := lw_Gi 837 (by decide +kernel) rfl
theorem mw_776 : Cond.instanceMethod yX10_handOut ∈ lw_G := lw_Gi 836 (by decide +kernel) rfl
theorem mp_18 : Cond.selects yX10_handOut.cls yX10_handOut yX10_handOut ∈ lw_G := lw_Gi 18 (by decide +kernel) rfl
theorem mw_774 : Cond.methodLink "MilkDesk$World" 177 yX10_handOut ∈ lw_G := lw_Gi 834 (by decide +kernel) rfl
theorem lk_X10_177 : LKV "MilkDesk$World" 177 yX10_handOut.cls yX10_handOut cX10_handOut 11 (some .int) 3 := ⟨mw_774, mw_776, mp_18, mw_2, mw_777, by decide +kernel, by decide +kernel, by decide +kernel⟩
theorem mw_110 : Cond.fieldLink "MilkDesk$World" 180 "MilkDesk$Dairies" "returning" "[I" ∈ lw_G := lw_Gi 170 (by decide +kernel) rfl
theorem fk_X10_180 : FLK "MilkDesk$World" 180 3 6 RX4 TX4 9 := ⟨rfl, Nat.le_of_ble_eq_true rfl, mw_110, in_wsX40⟩
theorem mw_754 : Cond.code yX10_passSchoolDay cX10_passSchoolDay 7 none ∈ lw_G := lw_Gi 814 (by decide +kernel) rfl
theorem mw_753 : Cond.instanceMethod yX10_passSchoolDay ∈ lw_G := lw_Gi 813 (by decide +kernel) rfl
theorem mp_17 : Cond.selects yX10_passSchoolDay.cls yX10_passSchoolDay yX10_passSchoolDay ∈ lw_G := lw_Gi 17 (by decide +kernel) rfl
theorem mw_751 : Cond.methodLink "MilkDesk$World" 155 yX10_passSchoolDay ∈ lw_G := lw_Gi 811 (by decide +kernel) rfl
theorem lk_X10_155 : LKV "MilkDesk$World" 155 yX10_passSchoolDay.cls yX10_passSchoolDay cX10_passSchoolDay 7 none 1 := ⟨mw_751, mw_753, mp_17, mw_2, mw_754, by decide +kernel, by decide +kernel, by decide +kernel⟩
theorem mw_100 : Cond.fieldLink "MilkDesk$World" 203 "MilkDesk$Dairies" "x" "[I" ∈ lw_G := lw_Gi 160 (by decide +kernel) rfl
theorem fk_X10_203 : FLK "MilkDesk$World" 203 3 1 RX4 TX4 9 := ⟨rfl, Nat.le_of_ble_eq_true rfl, mw_100, in_wsX40⟩
theorem mw_103 : Cond.fieldLink "MilkDesk$World" 204 "MilkDesk$Dairies" "y" "[I" ∈ lw_G := lw_Gi 163 (by decide +kernel) rfl
theorem fk_X10_204 : FLK "MilkDesk$World" 204 3 2 RX4 TX4 9 := ⟨rfl, Nat.le_of_ble_eq_true rfl, mw_103, in_wsX40⟩
theorem mw_343 : Cond.fieldLink "MilkDesk$World" 205 "MilkDesk$Shelf" "size" "I" ∈ lw_G := lw_Gi 403 (by decide +kernel) rfl
theorem fk_X10_205 : FLK "MilkDesk$World" 205 8 5 RX9 TX9 7 := ⟨rfl, Nat.le_of_ble_eq_true rfl, mw_343, in_wsX90⟩
theorem mw_348 : Cond.fieldLink "MilkDesk$World" 210 "MilkDesk$Shelf" "cells" "[I" ∈ lw_G := lw_Gi 408 (by decide +kernel) rfl
theorem fk_X10_210 : FLK "MilkDesk$World" 210 8 6 RX9 TX9 7 := ⟨rfl, Nat.le_of_ble_eq_true rfl, mw_348, in_wsX90⟩
theorem mw_864 : Cond.methodLink "MilkDesk$World" 213 yX8_has ∈ lw_G := lw_Gi 924 (by decide +kernel) rfl
theorem lk_X10_213 : LKV "MilkDesk$World" 213 yX8_has.cls yX8_has cX8_has 2 (some .boolean) 1 := ⟨mw_864, mw_403, mw_404, mw_3, mw_405, by decide +kernel, by decide +kernel, by decide +kernel⟩
theorem mt_865 : Cond.methodLinkNest "MilkDesk$World" 216 yX11_far "MilkDesk" ∈ lw_tbl := List.mem_of_getElem? (i := 925) (by decide +kernel)
theorem lk_X10_216 : LKN "MilkDesk$World" 216 "MilkDesk" yX11_far cX11_far 4 (some .int) 4 := ⟨mt_865, mw_839, mw_1, mw_840, by decide +kernel, by decide +kernel, by decide +kernel⟩
theorem mw_69 : Cond.fieldLink "MilkDesk$World" 219 "MilkDesk$Schools" "latest" "[I" ∈ lw_G := lw_Gi 129 (by decide +kernel) rfl
theorem fk_X10_219 : FLK "MilkDesk$World" 219 7 6 RX8 TX8 8 := ⟨rfl, Nat.le_of_ble_eq_true rfl, mw_69, in_wsX80⟩
theorem mw_393 : Cond.code yX11_within cX11_within 3 (some .boolean) ∈ lw_G := lw_Gi 453 (by decide +kernel) rfl
theorem mw_392 : Cond.static yX11_within ∈ lw_G := lw_Gi 452 (by decide +kernel) rfl
theorem mw_391 : Cond.methodLink "MilkDesk" 45 yX11_within ∈ lw_G := lw_Gi 451 (by decide +kernel) rfl
theorem lk_X11_45 : LKS "MilkDesk" 45 yX11_within cX11_within 3 (some .boolean) 3 := ⟨mw_391, mw_392, mw_1, mw_393, by decide +kernel, by decide +kernel, by decide +kernel⟩
theorem ks_9999 : (Int16.ofInt 9999).toInt32 = (9999 : Int32) := by decide +kernel
theorem mw_365 : Cond.fieldLink "MilkDesk" 12 "MilkDesk" "now" "LMilkDesk$World;" ∈ lw_G := lw_Gi 425 (by decide +kernel) rfl
theorem fk_X11_12 : FLK "MilkDesk" 12 10 0 RX11 TX11 7 := ⟨rfl, Nat.le_of_ble_eq_true rfl, mw_365, in_wsX110⟩
theorem gr_0_0 (G : Gn) (i : Nat) : GVR G 0 10 0 i (ad G 1 0) := fun _ _ _ => ⟨_, rfl, rfl⟩
theorem ci_0 {i : Nat} (h : i < 1) : i < cntK 0 := h
theorem mw_217 : Cond.fieldLink "MilkDesk" 49 "MilkDesk$World" "schools" "LMilkDesk$Schools;" ∈ lw_G := lw_Gi 277 (by decide +kernel) rfl
theorem fk_X11_49 : FLK "MilkDesk" 49 9 1 RX10 TX10 10 := ⟨rfl, Nat.le_of_ble_eq_true rfl, mw_217, in_wsX100⟩
theorem mw_48 : Cond.fieldLink "MilkDesk" 53 "MilkDesk$Schools" "count" "I" ∈ lw_G := lw_Gi 108 (by decide +kernel) rfl
theorem fk_X11_53 : FLK "MilkDesk" 53 7 0 RX8 TX8 8 := ⟨rfl, Nat.le_of_ble_eq_true rfl, mw_48, in_wsX80⟩
theorem mw_397 : Cond.code yX8_come cX8_come 4 (some .int) ∈ lw_G := lw_Gi 457 (by decide +kernel) rfl
theorem mw_395 : Cond.instanceMethod yX8_come ∈ lw_G := lw_Gi 455 (by decide +kernel) rfl
theorem mw_396 : Cond.selects yX8_come.cls yX8_come yX8_come ∈ lw_G := lw_Gi 456 (by decide +kernel) rfl
theorem mw_394 : Cond.methodLink "MilkDesk" 59 yX8_come ∈ lw_G := lw_Gi 454 (by decide +kernel) rfl
theorem lk_X11_59 : LKV "MilkDesk" 59 yX8_come.cls yX8_come cX8_come 4 (some .int) 2 := ⟨mw_394, mw_395, mw_396, mw_3, mw_397, by decide +kernel, by decide +kernel, by decide +kernel⟩
theorem kb_m2 : (Int8.ofInt (-2)).toInt32 = (-2 : Int32) := by decide +kernel
theorem ks_999 : (Int16.ofInt 999).toInt32 = (999 : Int32) := by decide +kernel
theorem mw_402 : Cond.methodLink "MilkDesk" 63 yX8_has ∈ lw_G := lw_Gi 462 (by decide +kernel) rfl
theorem lk_X11_63 : LKV "MilkDesk" 63 yX8_has.cls yX8_has cX8_has 2 (some .boolean) 1 := ⟨mw_402, mw_403, mw_404, mw_3, mw_405, by decide +kernel, by decide +kernel, by decide +kernel⟩
theorem mw_67 : Cond.fieldLink "MilkDesk" 74 "MilkDesk$Schools" "latest" "[I" ∈ lw_G := lw_Gi 127 (by decide +kernel) rfl
theorem fk_X11_74 : FLK "MilkDesk" 74 7 6 RX8 TX8 8 := ⟨rfl, Nat.le_of_ble_eq_true rfl, mw_67, in_wsX80⟩
theorem mw_64 : Cond.fieldLink "MilkDesk" 71 "MilkDesk$Schools" "loses" "[I" ∈ lw_G := lw_Gi 124 (by decide +kernel) rfl
theorem fk_X11_71 : FLK "MilkDesk" 71 7 5 RX8 TX8 8 := ⟨rfl, Nat.le_of_ble_eq_true rfl, mw_64, in_wsX80⟩
theorem mw_61 : Cond.fieldLink "MilkDesk" 67 "MilkDesk$Schools" "leaves" "[I" ∈ lw_G := lw_Gi 121 (by decide +kernel) rfl
theorem fk_X11_67 : FLK "MilkDesk" 67 7 4 RX8 TX8 8 := ⟨rfl, Nat.le_of_ble_eq_true rfl, mw_61, in_wsX80⟩
theorem mw_220 : Cond.fieldLink "MilkDesk" 77 "MilkDesk$World" "dairies" "LMilkDesk$Dairies;" ∈ lw_G := lw_Gi 280 (by decide +kernel) rfl
theorem fk_X11_77 : FLK "MilkDesk" 77 9 2 RX10 TX10 10 := ⟨rfl, Nat.le_of_ble_eq_true rfl, mw_220, in_wsX100⟩
theorem mw_97 : Cond.fieldLink "MilkDesk" 81 "MilkDesk$Dairies" "count" "I" ∈ lw_G := lw_Gi 157 (by decide +kernel) rfl
theorem fk_X11_81 : FLK "MilkDesk" 81 3 0 RX4 TX4 9 := ⟨rfl, Nat.le_of_ble_eq_true rfl, mw_97, in_wsX40⟩
theorem mw_413 : Cond.code yX4_come cX4_come 6 (some .int) ∈ lw_G := lw_Gi 473 (by decide +kernel) rfl
theorem mw_411 : Cond.instanceMethod yX4_come ∈ lw_G := lw_Gi 471 (by decide +kernel) rfl
theorem mw_412 : Cond.selects yX4_come.cls yX4_come yX4_come ∈ lw_G := lw_Gi 472 (by decide +kernel) rfl
theorem mw_410 : Cond.methodLink "MilkDesk" 84 yX4_come ∈ lw_G := lw_Gi 470 (by decide +kernel) rfl
theorem lk_X11_84 : LKV "MilkDesk" 84 yX4_come.cls yX4_come cX4_come 6 (some .int) 3 := ⟨mw_410, mw_411, mw_412, mw_4, mw_413, by decide +kernel, by decide +kernel, by decide +kernel⟩
theorem mw_421 : Cond.code yX4_has cX4_has 2 (some .boolean) ∈ lw_G := lw_Gi 481 (by decide +kernel) rfl
theorem mw_419 : Cond.instanceMethod yX4_has ∈ lw_G := lw_Gi 479 (by decide +kernel) rfl
theorem mw_420 : Cond.selects yX4_has.cls yX4_has yX4_has ∈ lw_G := lw_Gi 480 (by decide +kernel) rfl
theorem mw_418 : Cond.methodLink "MilkDesk" 87 yX4_has ∈ lw_G := lw_Gi 478 (by decide +kernel) rfl
theorem lk_X11_87 : LKV "MilkDesk" 87 yX4_has.cls yX4_has cX4_has 2 (some .boolean) 1 := ⟨mw_418, mw_419, mw_420, mw_4, mw_421, by decide +kernel, by decide +kernel, by decide +kernel⟩
theorem mw_108 : Cond.fieldLink "MilkDesk" 88 "MilkDesk$Dairies" "bids" "[I" ∈ lw_G := lw_Gi 168 (by decide +kernel) rfl
theorem fk_X11_88 : FLK "MilkDesk" 88 3 5 RX4 TX4 9 := ⟨rfl, Nat.le_of_ble_eq_true rfl, mw_108, in_wsX40⟩
theorem mw_426 : Cond.methodLink "MilkDesk" 91 yX4_winner ∈ lw_G := lw_Gi 486 (by decide +kernel) rfl
theorem lk_X11_91 : LKV "MilkDesk" 91 yX4_winner.cls yX4_winner cX4_winner 6 (some .int) 1 := ⟨mw_426, mw_427, mw_428, mw_4, mw_429, by decide +kernel, by decide +kernel, by decide +kernel⟩
theorem mw_105 : Cond.fieldLink "MilkDesk" 95 "MilkDesk$Dairies" "bottles" "[I" ∈ lw_G := lw_Gi 165 (by decide +kernel) rfl
theorem fk_X11_95 : FLK "MilkDesk" 95 3 3 RX4 TX4 9 := ⟨rfl, Nat.le_of_ble_eq_true rfl, mw_105, in_wsX40⟩
theorem mw_438 : Cond.constant "MilkDesk" 98 (99999) ∈ lw_G := lw_Gi 498 (by decide +kernel) rfl
theorem kb_99 : (Int8.ofInt 99).toInt32 = (99 : Int32) := by decide +kernel
theorem mw_228 : Cond.fieldLink "MilkDesk" 99 "MilkDesk$World" "months" "[I" ∈ lw_G := lw_Gi 288 (by decide +kernel) rfl
theorem fk_X11_99 : FLK "MilkDesk" 99 9 6 RX10 TX10 10 := ⟨rfl, Nat.le_of_ble_eq_true rfl, mw_228, in_wsX100⟩
theorem mw_369 : Cond.fieldLink "MilkDesk" 40 "MilkDesk" "shelves" "[LMilkDesk$Shelf;" ∈ lw_G := lw_Gi 429 (by decide +kernel) rfl
theorem fk_X11_40 : FLK "MilkDesk" 40 10 4 RX11 TX11 7 := ⟨rfl, Nat.le_of_ble_eq_true rfl, mw_369, in_wsX110⟩
theorem gr_0_4 (G : Gn) (i : Nat) : GVR G 0 10 4 i (ad G 11 i) := fun _ _ _ => ⟨_, rfl, rfl⟩
theorem al_8 : Int32.ofNat 8 = (8 : Int32) := by decide +kernel
theorem mw_453 : Cond.code yX9_isEmpty cX9_isEmpty 1 (some .boolean) ∈ lw_G := lw_Gi 513 (by decide +kernel) rfl
theorem mw_451 : Cond.instanceMethod yX9_isEmpty ∈ lw_G := lw_Gi 511 (by decide +kernel) rfl
theorem mw_452 : Cond.selects yX9_isEmpty.cls yX9_isEmpty yX9_isEmpty ∈ lw_G := lw_Gi 512 (by decide +kernel) rfl
theorem mw_450 : Cond.methodLink "MilkDesk" 293 yX9_isEmpty ∈ lw_G := lw_Gi 510 (by decide +kernel) rfl
theorem lk_X11_293 : LKV "MilkDesk" 293 yX9_isEmpty.cls yX9_isEmpty cX9_isEmpty 1 (some .boolean) 0 := ⟨mw_450, mw_451, mw_452, mw_11, mw_453, by decide +kernel, by decide +kernel, by decide +kernel⟩
theorem mw_457 : Cond.code yX9_isRow cX9_isRow 1 (some .boolean) ∈ lw_G := lw_Gi 517 (by decide +kernel) rfl
theorem mw_455 : Cond.instanceMethod yX9_isRow ∈ lw_G := lw_Gi 515 (by decide +kernel) rfl
theorem mw_456 : Cond.selects yX9_isRow.cls yX9_isRow yX9_isRow ∈ lw_G := lw_Gi 516 (by decide +kernel) rfl
theorem mw_454 : Cond.methodLink "MilkDesk" 297 yX9_isRow ∈ lw_G := lw_Gi 514 (by decide +kernel) rfl
theorem lk_X11_297 : LKV "MilkDesk" 297 yX9_isRow.cls yX9_isRow cX9_isRow 1 (some .boolean) 0 := ⟨mw_454, mw_455, mw_456, mw_11, mw_457, by decide +kernel, by decide +kernel, by decide +kernel⟩
theorem kb_m12 : (Int8.ofInt (-12)).toInt32 = (-12 : Int32) := by decide +kernel
theorem kb_m11 : (Int8.ofInt (-11)).toInt32 = (-11 : Int32) := by decide +kernel
theorem mw_446 : Cond.code yX11_shelfAt cX11_shelfAt 2 (some (.object "MilkDesk$Shelf")) ∈ lw_G := lw_Gi 506 (by decide +kernel) rfl
theorem mw_445 : Cond.instanceMethod yX11_shelfAt ∈ lw_G := lw_Gi 505 (by decide +kernel) rfl
theorem mp_0 : Cond.selects yX11_shelfAt.cls yX11_shelfAt yX11_shelfAt ∈ lw_G := lw_Gi 0 (by decide +kernel) rfl
theorem mw_443 : Cond.methodLink "MilkDesk" 102 yX11_shelfAt ∈ lw_G := lw_Gi 503 (by decide +kernel) rfl
theorem lk_X11_102 : LKV "MilkDesk" 102 yX11_shelfAt.cls yX11_shelfAt cX11_shelfAt 2 (some (.object "MilkDesk$Shelf")) 1 := ⟨mw_443, mw_445, mp_0, mw_1, mw_446, by decide +kernel, by decide +kernel, by decide +kernel⟩
theorem rc_0 (G : Gn) : ∀ w i r q, ∃ fs, Esh G w 0 i r q = .inr (10, fs) := fun _ _ _ _ => ⟨_, rfl⟩
theorem mw_222 : Cond.fieldLink "MilkDesk" 106 "MilkDesk$World" "heads" "LMilkDesk$HeadRows;" ∈ lw_G := lw_Gi 282 (by decide +kernel) rfl
theorem fk_X11_106 : FLK "MilkDesk" 106 9 3 RX10 TX10 10 := ⟨rfl, Nat.le_of_ble_eq_true rfl, mw_222, in_wsX100⟩
theorem mw_140 : Cond.fieldLink "MilkDesk" 110 "MilkDesk$HeadRows" "count" "I" ∈ lw_G := lw_Gi 200 (by decide +kernel) rfl
theorem fk_X11_110 : FLK "MilkDesk" 110 4 0 RX5 TX5 5 := ⟨rfl, Nat.le_of_ble_eq_true rfl, mw_140, in_wsX50⟩
theorem mw_449 : Cond.code yX11_rowRefusal cX11_rowRefusal 1 (some .int) ∈ lw_G := lw_Gi 509 (by decide +kernel) rfl
theorem mw_448 : Cond.static yX11_rowRefusal ∈ lw_G := lw_Gi 508 (by decide +kernel) rfl
theorem mw_447 : Cond.methodLink "MilkDesk" 113 yX11_rowRefusal ∈ lw_G := lw_Gi 507 (by decide +kernel) rfl
theorem lk_X11_113 : LKS "MilkDesk" 113 yX11_rowRefusal cX11_rowRefusal 1 (some .int) 1 := ⟨mw_447, mw_448, mw_1, mw_449, by decide +kernel, by decide +kernel, by decide +kernel⟩
theorem mw_214 : Cond.fieldLink "MilkDesk" 117 "MilkDesk$World" "day" "I" ∈ lw_G := lw_Gi 274 (by decide +kernel) rfl
theorem fk_X11_117 : FLK "MilkDesk" 117 9 0 RX10 TX10 10 := ⟨rfl, Nat.le_of_ble_eq_true rfl, mw_214, in_wsX100⟩
theorem mw_461 : Cond.code yX5_tell cX5_tell 9 (some .int) ∈ lw_G := lw_Gi 521 (by decide +kernel) rfl
theorem mw_459 : Cond.instanceMethod yX5_tell ∈ lw_G := lw_Gi 519 (by decide +kernel) rfl
theorem mw_460 : Cond.selects yX5_tell.cls yX5_tell yX5_tell ∈ lw_G := lw_Gi 520 (by decide +kernel) rfl
theorem mw_458 : Cond.methodLink "MilkDesk" 120 yX5_tell ∈ lw_G := lw_Gi 518 (by decide +kernel) rfl
theorem lk_X11_120 : LKV "MilkDesk" 120 yX5_tell.cls yX5_tell cX5_tell 9 (some .int) 3 := ⟨mw_458, mw_459, mw_460, mw_5, mw_461, by decide +kernel, by decide +kernel, by decide +kernel⟩
theorem mw_481 : Cond.methodLink "MilkDesk" 124 yX5_counting ∈ lw_G := lw_Gi 541 (by decide +kernel) rfl
theorem lk_X11_124 : LKV "MilkDesk" 124 yX5_counting.cls yX5_counting cX5_counting 6 (some .int) 4 := ⟨mw_481, mw_482, mw_483, mw_5, mw_484, by decide +kernel, by decide +kernel, by decide +kernel⟩
theorem mw_338 : Cond.fieldLink "MilkDesk" 300 "MilkDesk$Shelf" "sort" "I" ∈ lw_G := lw_Gi 398 (by decide +kernel) rfl
theorem fk_X11_300 : FLK "MilkDesk" 300 8 4 RX9 TX9 7 := ⟨rfl, Nat.le_of_ble_eq_true rfl, mw_338, in_wsX90⟩
theorem mw_491 : Cond.code yX11_byteRowRefusal cX11_byteRowRefusal 2 (some .int) ∈ lw_G := lw_Gi 551 (by decide +kernel) rfl
theorem mw_490 : Cond.static yX11_byteRowRefusal ∈ lw_G := lw_Gi 550 (by decide +kernel) rfl
theorem mw_489 : Cond.methodLink "MilkDesk" 128 yX11_byteRowRefusal ∈ lw_G := lw_Gi 549 (by decide +kernel) rfl
theorem lk_X11_128 : LKS "MilkDesk" 128 yX11_byteRowRefusal cX11_byteRowRefusal 2 (some .int) 1 := ⟨mw_489, mw_490, mw_1, mw_491, by decide +kernel, by decide +kernel, by decide +kernel⟩
theorem mw_370 : Cond.fieldLink "MilkDesk" 25 "MilkDesk" "reader" "LMilkDesk$ActReader;" ∈ lw_G := lw_Gi 430 (by decide +kernel) rfl
theorem fk_X11_25 : FLK "MilkDesk" 25 10 5 RX11 TX11 7 := ⟨rfl, Nat.le_of_ble_eq_true rfl, mw_370, in_wsX110⟩
theorem gr_0_5 (G : Gn) (i : Nat) : GVR G 0 10 5 i (ad G 8 0) := fun _ _ _ => ⟨_, rfl, rfl⟩
theorem mw_495 : Cond.code yX2_firstFault cX2_firstFault 2 (some .int) ∈ lw_G := lw_Gi 555 (by decide +kernel) rfl
theorem mw_493 : Cond.instanceMethod yX2_firstFault ∈ lw_G := lw_Gi 553 (by decide +kernel) rfl
theorem mw_494 : Cond.selects yX2_firstFault.cls yX2_firstFault yX2_firstFault ∈ lw_G := lw_Gi 554 (by decide +kernel) rfl
theorem mw_492 : Cond.methodLink "MilkDesk" 131 yX2_firstFault ∈ lw_G := lw_Gi 552 (by decide +kernel) rfl
theorem lk_X11_131 : LKV "MilkDesk" 131 yX2_firstFault.cls yX2_firstFault cX2_firstFault 2 (some .int) 1 := ⟨mw_492, mw_493, mw_494, mw_9, mw_495, by decide +kernel, by decide +kernel, by decide +kernel⟩
theorem mw_224 : Cond.fieldLink "MilkDesk" 134 "MilkDesk$World" "acts" "LMilkDesk$ActBook;" ∈ lw_G := lw_Gi 284 (by decide +kernel) rfl
theorem fk_X11_134 : FLK "MilkDesk" 134 9 4 RX10 TX10 10 := ⟨rfl, Nat.le_of_ble_eq_true rfl, mw_224, in_wsX100⟩
theorem mw_166 : Cond.fieldLink "MilkDesk" 138 "MilkDesk$ActBook" "count" "I" ∈ lw_G := lw_Gi 226 (by decide +kernel) rfl
theorem fk_X11_138 : FLK "MilkDesk" 138 1 0 RX1 TX1 3 := ⟨rfl, Nat.le_of_ble_eq_true rfl, mw_166, in_wsX10⟩
theorem kb_m100 : (Int8.ofInt (-100)).toInt32 = (-100 : Int32) := by decide +kernel
theorem mw_635 : Cond.code yX2_toAct cX2_toAct 3 (some (.object "MilkDesk$Act")) ∈ lw_G := lw_Gi 695 (by decide +kernel) rfl
theorem mw_633 : Cond.instanceMethod yX2_toAct ∈ lw_G := lw_Gi 693 (by decide +kernel) rfl
theorem mw_634 : Cond.selects yX2_toAct.cls yX2_toAct yX2_toAct ∈ lw_G := lw_Gi 694 (by decide +kernel) rfl
theorem mw_632 : Cond.methodLink "MilkDesk" 141 yX2_toAct ∈ lw_G := lw_Gi 692 (by decide +kernel) rfl
theorem lk_X11_141 : LKV "MilkDesk" 141 yX2_toAct.cls yX2_toAct cX2_toAct 3 (some (.object "MilkDesk$Act")) 2 := ⟨mw_632, mw_633, mw_634, mw_9, mw_635, by decide +kernel, by decide +kernel, by decide +kernel⟩
theorem mw_666 : Cond.code yX1_tell cX1_tell 2 (some .int) ∈ lw_G := lw_Gi 726 (by decide +kernel) rfl
theorem mw_664 : Cond.instanceMethod yX1_tell ∈ lw_G := lw_Gi 724 (by decide +kernel) rfl
theorem mw_665 : Cond.selects yX1_tell.cls yX1_tell yX1_tell ∈ lw_G := lw_Gi 725 (by decide +kernel) rfl
theorem mw_663 : Cond.methodLink "MilkDesk" 145 yX1_tell ∈ lw_G := lw_Gi 723 (by decide +kernel) rfl
theorem lk_X11_145 : LKV "MilkDesk" 145 yX1_tell.cls yX1_tell cX1_tell 2 (some .int) 1 := ⟨mw_663, mw_664, mw_665, mw_6, mw_666, by decide +kernel, by decide +kernel, by decide +kernel⟩
theorem mw_671 : Cond.methodLink "MilkDesk" 148 yX1_has ∈ lw_G := lw_Gi 731 (by decide +kernel) rfl
theorem lk_X11_148 : LKV "MilkDesk" 148 yX1_has.cls yX1_has cX1_has 2 (some .boolean) 1 := ⟨mw_671, mw_672, mw_673, mw_6, mw_674, by decide +kernel, by decide +kernel, by decide +kernel⟩
theorem mw_169 : Cond.fieldLink "MilkDesk" 149 "MilkDesk$ActBook" "struck" "[I" ∈ lw_G := lw_Gi 229 (by decide +kernel) rfl
theorem fk_X11_149 : FLK "MilkDesk" 149 1 2 RX1 TX1 3 := ⟨rfl, Nat.le_of_ble_eq_true rfl, mw_169, in_wsX10⟩
theorem kb_m3 : (Int8.ofInt (-3)).toInt32 = (-3 : Int32) := by decide +kernel
theorem mw_682 : Cond.code yX11_isCase cX11_isCase 5 (some .boolean) ∈ lw_G := lw_Gi 742 (by decide +kernel) rfl
theorem mw_681 : Cond.instanceMethod yX11_isCase ∈ lw_G := lw_Gi 741 (by decide +kernel) rfl
theorem mp_14 : Cond.selects yX11_isCase.cls yX11_isCase yX11_isCase ∈ lw_G := lw_Gi 14 (by decide +kernel) rfl
theorem mw_679 : Cond.methodLink "MilkDesk" 152 yX11_isCase ∈ lw_G := lw_Gi 739 (by decide +kernel) rfl
theorem lk_X11_152 : LKV "MilkDesk" 152 yX11_isCase.cls yX11_isCase cX11_isCase 5 (some .boolean) 4 := ⟨mw_679, mw_681, mp_14, mw_1, mw_682, by decide +kernel, by decide +kernel, by decide +kernel⟩
theorem mw_53 : Cond.fieldLink "MilkDesk" 156 "MilkDesk$Schools" "shire" "[I" ∈ lw_G := lw_Gi 113 (by decide +kernel) rfl
theorem fk_X11_156 : FLK "MilkDesk" 156 7 1 RX8 TX8 8 := ⟨rfl, Nat.le_of_ble_eq_true rfl, mw_53, in_wsX80⟩
theorem mw_683 : Cond.methodLink "MilkDesk" 159 yX1_inForce ∈ lw_G := lw_Gi 743 (by decide +kernel) rfl
theorem lk_X11_159 : LKV "MilkDesk" 159 yX1_inForce.cls yX1_inForce cX1_inForce 8 (some .int) 3 := ⟨mw_683, mw_684, mw_685, mw_6, mw_686, by decide +kernel, by decide +kernel, by decide +kernel⟩
theorem mw_696 : Cond.methodLink "MilkDesk" 162 yX10_purposeHolds ∈ lw_G := lw_Gi 756 (by decide +kernel) rfl
theorem lk_X11_162 : LKV "MilkDesk" 162 yX10_purposeHolds.cls yX10_purposeHolds cX10_purposeHolds 6 (some .boolean) 4 := ⟨mw_696, mw_697, mw_698, mw_2, mw_699, by decide +kernel, by decide +kernel, by decide +kernel⟩
theorem mw_738 : Cond.code yX10_firstThat cX10_firstThat 7 (some .int) ∈ lw_G := lw_Gi 798 (by decide +kernel) rfl
theorem mw_736 : Cond.instanceMethod yX10_firstThat ∈ lw_G := lw_Gi 796 (by decide +kernel) rfl
theorem mw_737 : Cond.selects yX10_firstThat.cls yX10_firstThat yX10_firstThat ∈ lw_G := lw_Gi 797 (by decide +kernel) rfl
theorem mw_735 : Cond.methodLink "MilkDesk" 165 yX10_firstThat ∈ lw_G := lw_Gi 795 (by decide +kernel) rfl
theorem lk_X11_165 : LKV "MilkDesk" 165 yX10_firstThat.cls yX10_firstThat cX10_firstThat 7 (some .int) 5 := ⟨mw_735, mw_736, mw_737, mw_2, mw_738, by decide +kernel, by decide +kernel, by decide +kernel⟩
theorem kb_60 : (Int8.ofInt 60).toInt32 = (60 : Int32) := by decide +kernel
theorem mw_747 : Cond.code yX10_passDays cX10_passDays 4 none ∈ lw_G := lw_Gi 807 (by decide +kernel) rfl
theorem mw_745 : Cond.instanceMethod yX10_passDays ∈ lw_G := lw_Gi 805 (by decide +kernel) rfl
theorem mw_746 : Cond.selects yX10_passDays.cls yX10_passDays yX10_passDays ∈ lw_G := lw_Gi 806 (by decide +kernel) rfl
theorem mw_744 : Cond.methodLink "MilkDesk" 169 yX10_passDays ∈ lw_G := lw_Gi 804 (by decide +kernel) rfl
theorem lk_X11_169 : LKV "MilkDesk" 169 yX10_passDays.cls yX10_passDays cX10_passDays 4 none 2 := ⟨mw_744, mw_745, mw_746, mw_2, mw_747, by decide +kernel, by decide +kernel, by decide +kernel⟩
theorem mw_71 : Cond.fieldLink "MilkDesk" 173 "MilkDesk$Schools" "sums" "[I" ∈ lw_G := lw_Gi 131 (by decide +kernel) rfl
theorem fk_X11_173 : FLK "MilkDesk" 173 7 7 RX8 TX8 8 := ⟨rfl, Nat.le_of_ble_eq_true rfl, mw_71, in_wsX80⟩
theorem mw_799 : Cond.methodLink "MilkDesk" 176 yX10_ordered ∈ lw_G := lw_Gi 859 (by decide +kernel) rfl
theorem lk_X11_176 : LKV "MilkDesk" 176 yX10_ordered.cls yX10_ordered cX10_ordered 7 (some .int) 3 := ⟨mw_799, mw_760, mw_761, mw_2, mw_762, by decide +kernel, by decide +kernel, by decide +kernel⟩
theorem mw_226 : Cond.fieldLink "MilkDesk" 179 "MilkDesk$World" "looks" "LMilkDesk$Looks;" ∈ lw_G := lw_Gi 286 (by decide +kernel) rfl
theorem fk_X11_179 : FLK "MilkDesk" 179 9 5 RX10 TX10 10 := ⟨rfl, Nat.le_of_ble_eq_true rfl, mw_226, in_wsX100⟩
theorem mw_184 : Cond.fieldLink "MilkDesk" 183 "MilkDesk$Looks" "count" "I" ∈ lw_G := lw_Gi 244 (by decide +kernel) rfl
theorem fk_X11_183 : FLK "MilkDesk" 183 5 0 RX6 TX6 4 := ⟨rfl, Nat.le_of_ble_eq_true rfl, mw_184, in_wsX60⟩
theorem mw_807 : Cond.code yX6_draw cX6_draw 4 (some .int) ∈ lw_G := lw_Gi 867 (by decide +kernel) rfl
theorem mw_805 : Cond.instanceMethod yX6_draw ∈ lw_G := lw_Gi 865 (by decide +kernel) rfl
theorem mw_806 : Cond.selects yX6_draw.cls yX6_draw yX6_draw ∈ lw_G := lw_Gi 866 (by decide +kernel) rfl
theorem mw_804 : Cond.methodLink "MilkDesk" 186 yX6_draw ∈ lw_G := lw_Gi 864 (by decide +kernel) rfl
theorem lk_X11_186 : LKV "MilkDesk" 186 yX6_draw.cls yX6_draw cX6_draw 4 (some .int) 3 := ⟨mw_804, mw_805, mw_806, mw_7, mw_807, by decide +kernel, by decide +kernel, by decide +kernel⟩
theorem mw_812 : Cond.constant "MilkDesk" 189 (-1000000001) ∈ lw_G := lw_Gi 872 (by decide +kernel) rfl
theorem mw_819 : Cond.constant "MilkDesk" 204 (-1000000004) ∈ lw_G := lw_Gi 879 (by decide +kernel) rfl
theorem mw_187 : Cond.fieldLink "MilkDesk" 190 "MilkDesk$Looks" "school" "[I" ∈ lw_G := lw_Gi 247 (by decide +kernel) rfl
theorem fk_X11_190 : FLK "MilkDesk" 190 5 1 RX6 TX6 4 := ⟨rfl, Nat.le_of_ble_eq_true rfl, mw_187, in_wsX60⟩
theorem mw_816 : Cond.code yX10_toldTooMany cX10_toldTooMany 2 (some .int) ∈ lw_G := lw_Gi 876 (by decide +kernel) rfl
theorem mw_814 : Cond.instanceMethod yX10_toldTooMany ∈ lw_G := lw_Gi 874 (by decide +kernel) rfl
theorem mw_815 : Cond.selects yX10_toldTooMany.cls yX10_toldTooMany yX10_toldTooMany ∈ lw_G := lw_Gi 875 (by decide +kernel) rfl
theorem mw_813 : Cond.methodLink "MilkDesk" 193 yX10_toldTooMany ∈ lw_G := lw_Gi 873 (by decide +kernel) rfl
theorem lk_X11_193 : LKV "MilkDesk" 193 yX10_toldTooMany.cls yX10_toldTooMany cX10_toldTooMany 2 (some .int) 1 := ⟨mw_813, mw_814, mw_815, mw_2, mw_816, by decide +kernel, by decide +kernel, by decide +kernel⟩
theorem mw_818 : Cond.methodLink "MilkDesk" 201 Lib.Math.max.name ∈ lw_G := lw_Gi 878 (by decide +kernel) rfl
theorem ks_600 : (Int16.ofInt 600).toInt32 = (600 : Int32) := by decide +kernel
theorem mw_371 : Cond.fieldLink "MilkDesk" 34 "MilkDesk" "search" "LMilkDesk$RoundSearch;" ∈ lw_G := lw_Gi 431 (by decide +kernel) rfl
theorem fk_X11_34 : FLK "MilkDesk" 34 10 6 RX11 TX11 7 := ⟨rfl, Nat.le_of_ble_eq_true rfl, mw_371, in_wsX110⟩
theorem gr_0_6 (G : Gn) (i : Nat) : GVR G 0 10 6 i (ad G 9 0) := fun _ _ _ => ⟨_, rfl, rfl⟩
theorem mw_827 : Cond.code yX7_takeStops cX7_takeStops 5 (some .boolean) ∈ lw_G := lw_Gi 887 (by decide +kernel) rfl
theorem mw_825 : Cond.instanceMethod yX7_takeStops ∈ lw_G := lw_Gi 885 (by decide +kernel) rfl
theorem mw_826 : Cond.selects yX7_takeStops.cls yX7_takeStops yX7_takeStops ∈ lw_G := lw_Gi 886 (by decide +kernel) rfl
theorem mw_824 : Cond.methodLink "MilkDesk" 205 yX7_takeStops ∈ lw_G := lw_Gi 884 (by decide +kernel) rfl
theorem lk_X11_205 : LKV "MilkDesk" 205 yX7_takeStops.cls yX7_takeStops cX7_takeStops 5 (some .boolean) 1 := ⟨mw_824, mw_825, mw_826, mw_10, mw_827, by decide +kernel, by decide +kernel, by decide +kernel⟩
theorem mw_832 : Cond.code yX7_find cX7_find 3 (some .boolean) ∈ lw_G := lw_Gi 892 (by decide +kernel) rfl
theorem mw_830 : Cond.instanceMethod yX7_find ∈ lw_G := lw_Gi 890 (by decide +kernel) rfl
theorem mw_831 : Cond.selects yX7_find.cls yX7_find yX7_find ∈ lw_G := lw_Gi 891 (by decide +kernel) rfl
theorem mw_829 : Cond.methodLink "MilkDesk" 209 yX7_find ∈ lw_G := lw_Gi 889 (by decide +kernel) rfl
theorem lk_X11_209 : LKV "MilkDesk" 209 yX7_find.cls yX7_find cX7_find 3 (some .boolean) 2 := ⟨mw_829, mw_830, mw_831, mw_10, mw_832, by decide +kernel, by decide +kernel, by decide +kernel⟩
theorem mw_855 : Cond.code yX7_bestStop cX7_bestStop 2 (some .int) ∈ lw_G := lw_Gi 915 (by decide +kernel) rfl
theorem mw_853 : Cond.instanceMethod yX7_bestStop ∈ lw_G := lw_Gi 913 (by decide +kernel) rfl
theorem mw_854 : Cond.selects yX7_bestStop.cls yX7_bestStop yX7_bestStop ∈ lw_G := lw_Gi 914 (by decide +kernel) rfl
theorem mw_852 : Cond.methodLink "MilkDesk" 216 yX7_bestStop ∈ lw_G := lw_Gi 912 (by decide +kernel) rfl
theorem lk_X11_216 : LKV "MilkDesk" 216 yX7_bestStop.cls yX7_bestStop cX7_bestStop 2 (some .int) 1 := ⟨mw_852, mw_853, mw_854, mw_10, mw_855, by decide +kernel, by decide +kernel, by decide +kernel⟩
theorem mw_289 : Cond.fieldLink "MilkDesk" 213 "MilkDesk$RoundSearch" "bestWay" "I" ∈ lw_G := lw_Gi 349 (by decide +kernel) rfl
theorem fk_X11_213 : FLK "MilkDesk" 213 6 0 RX7 TX7 11 := ⟨rfl, Nat.le_of_ble_eq_true rfl, mw_289, in_wsX70⟩
theorem kb_m13 : (Int8.ofInt (-13)).toInt32 = (-13 : Int32) := by decide +kernel
theorem mw_863 : Cond.code yX10_firstWrongStop cX10_firstWrongStop 10 (some .int) ∈ lw_G := lw_Gi 923 (by decide +kernel) rfl
theorem mw_861 : Cond.instanceMethod yX10_firstWrongStop ∈ lw_G := lw_Gi 921 (by decide +kernel) rfl
theorem mw_862 : Cond.selects yX10_firstWrongStop.cls yX10_firstWrongStop yX10_firstWrongStop ∈ lw_G := lw_Gi 922 (by decide +kernel) rfl
theorem mw_860 : Cond.methodLink "MilkDesk" 219 yX10_firstWrongStop ∈ lw_G := lw_Gi 920 (by decide +kernel) rfl
theorem lk_X11_219 : LKV "MilkDesk" 219 yX10_firstWrongStop.cls yX10_firstWrongStop cX10_firstWrongStop 10 (some .int) 3 := ⟨mw_860, mw_861, mw_862, mw_2, mw_863, by decide +kernel, by decide +kernel, by decide +kernel⟩
theorem mw_367 : Cond.fieldLink "MilkDesk" 19 "MilkDesk" "mind" "LMilkDesk$World;" ∈ lw_G := lw_Gi 427 (by decide +kernel) rfl
theorem fk_X11_19 : FLK "MilkDesk" 19 10 2 RX11 TX11 7 := ⟨rfl, Nat.le_of_ble_eq_true rfl, mw_367, in_wsX110⟩
theorem gr_0_2 (G : Gn) (i : Nat) : GVR G 0 10 2 i (ad G 1 2) := fun _ _ _ => ⟨_, rfl, rfl⟩
theorem mw_873 : Cond.code yX10_copyFrom cX10_copyFrom 2 none ∈ lw_G := lw_Gi 933 (by decide +kernel) rfl
theorem mw_871 : Cond.instanceMethod yX10_copyFrom ∈ lw_G := lw_Gi 931 (by decide +kernel) rfl
theorem mw_872 : Cond.selects yX10_copyFrom.cls yX10_copyFrom yX10_copyFrom ∈ lw_G := lw_Gi 932 (by decide +kernel) rfl
theorem mw_870 : Cond.methodLink "MilkDesk" 223 yX10_copyFrom ∈ lw_G := lw_Gi 930 (by decide +kernel) rfl
theorem lk_X11_223 : LKV "MilkDesk" 223 yX10_copyFrom.cls yX10_copyFrom cX10_copyFrom 2 none 1 := ⟨mw_870, mw_871, mw_872, mw_2, mw_873, by decide +kernel, by decide +kernel, by decide +kernel⟩
theorem ks_1000 : (Int16.ofInt 1000).toInt32 = (1000 : Int32) := by decide +kernel
theorem mw_903 : Cond.code yX4_stock cX4_stock 3 none ∈ lw_G := lw_Gi 963 (by decide +kernel) rfl
theorem mw_901 : Cond.instanceMethod yX4_stock ∈ lw_G := lw_Gi 961 (by decide +kernel) rfl
theorem mw_902 : Cond.selects yX4_stock.cls yX4_stock yX4_stock ∈ lw_G := lw_Gi 962 (by decide +kernel) rfl
theorem mw_900 : Cond.methodLink "MilkDesk" 226 yX4_stock ∈ lw_G := lw_Gi 960 (by decide +kernel) rfl
theorem lk_X11_226 : LKV "MilkDesk" 226 yX4_stock.cls yX4_stock cX4_stock 3 none 2 := ⟨mw_900, mw_901, mw_902, mw_4, mw_903, by decide +kernel, by decide +kernel, by decide +kernel⟩
theorem mw_112 : Cond.fieldLink "MilkDesk" 229 "MilkDesk$Dairies" "lowest" "[I" ∈ lw_G := lw_Gi 172 (by decide +kernel) rfl
theorem fk_X11_229 : FLK "MilkDesk" 229 3 7 RX4 TX4 9 := ⟨rfl, Nat.le_of_ble_eq_true rfl, mw_112, in_wsX40⟩
theorem ks_255 : (Int16.ofInt 255).toInt32 = (255 : Int32) := by decide +kernel
theorem kb_15 : (Int8.ofInt 15).toInt32 = (15 : Int32) := by decide +kernel
theorem mw_913 : Cond.code yX11_digit cX11_digit 2 (some .int) ∈ lw_G := lw_Gi 973 (by decide +kernel) rfl
theorem mw_912 : Cond.static yX11_digit ∈ lw_G := lw_Gi 972 (by decide +kernel) rfl
theorem mw_911 : Cond.methodLink "MilkDesk" 235 yX11_digit ∈ lw_G := lw_Gi 971 (by decide +kernel) rfl
theorem lk_X11_235 : LKS "MilkDesk" 235 yX11_digit cX11_digit 2 (some .int) 2 := ⟨mw_911, mw_912, mw_1, mw_913, by decide +kernel, by decide +kernel, by decide +kernel⟩
theorem mw_910 : Cond.code yX11_isShireOrder cX11_isShireOrder 3 (some .boolean) ∈ lw_G := lw_Gi 970 (by decide +kernel) rfl
theorem mw_909 : Cond.static yX11_isShireOrder ∈ lw_G := lw_Gi 969 (by decide +kernel) rfl
theorem mw_908 : Cond.methodLink "MilkDesk" 232 yX11_isShireOrder ∈ lw_G := lw_Gi 968 (by decide +kernel) rfl
theorem lk_X11_232 : LKS "MilkDesk" 232 yX11_isShireOrder cX11_isShireOrder 3 (some .boolean) 1 := ⟨mw_908, mw_909, mw_1, mw_910, by decide +kernel, by decide +kernel, by decide +kernel⟩
theorem mw_917 : Cond.code yX10_orderedInShire cX10_orderedInShire 5 (some .int) ∈ lw_G := lw_Gi 977 (by decide +kernel) rfl
theorem mw_915 : Cond.instanceMethod yX10_orderedInShire ∈ lw_G := lw_Gi 975 (by decide +kernel) rfl
theorem mw_916 : Cond.selects yX10_orderedInShire.cls yX10_orderedInShire yX10_orderedInShire ∈ lw_G := lw_Gi 976 (by decide +kernel) rfl
theorem mw_914 : Cond.methodLink "MilkDesk" 238 yX10_orderedInShire ∈ lw_G := lw_Gi 974 (by decide +kernel) rfl
theorem lk_X11_238 : LKV "MilkDesk" 238 yX10_orderedInShire.cls yX10_orderedInShire cX10_orderedInShire 5 (some .int) 2 := ⟨mw_914, mw_915, mw_916, mw_2, mw_917, by decide +kernel, by decide +kernel, by decide +kernel⟩
theorem mw_922 : Cond.constant "MilkDesk" 241 (-1000000002) ∈ lw_G := lw_Gi 982 (by decide +kernel) rfl
theorem mw_926 : Cond.code yX8_all cX8_all 4 (some .int) ∈ lw_G := lw_Gi 986 (by decide +kernel) rfl
theorem mw_924 : Cond.instanceMethod yX8_all ∈ lw_G := lw_Gi 984 (by decide +kernel) rfl
theorem mw_925 : Cond.selects yX8_all.cls yX8_all yX8_all ∈ lw_G := lw_Gi 985 (by decide +kernel) rfl
theorem mw_923 : Cond.methodLink "MilkDesk" 242 yX8_all ∈ lw_G := lw_Gi 983 (by decide +kernel) rfl
theorem lk_X11_242 : LKV "MilkDesk" 242 yX8_all.cls yX8_all cX8_all 4 (some .int) 1 := ⟨mw_923, mw_924, mw_925, mw_3, mw_926, by decide +kernel, by decide +kernel, by decide +kernel⟩
theorem mw_931 : Cond.constant "MilkDesk" 245 (-1000000000) ∈ lw_G := lw_Gi 991 (by decide +kernel) rfl
theorem mw_935 : Cond.code yX9_isAt cX9_isAt 3 (some .boolean) ∈ lw_G := lw_Gi 995 (by decide +kernel) rfl
theorem mw_933 : Cond.instanceMethod yX9_isAt ∈ lw_G := lw_Gi 993 (by decide +kernel) rfl
theorem mw_934 : Cond.selects yX9_isAt.cls yX9_isAt yX9_isAt ∈ lw_G := lw_Gi 994 (by decide +kernel) rfl
theorem mw_932 : Cond.methodLink "MilkDesk" 246 yX9_isAt ∈ lw_G := lw_Gi 992 (by decide +kernel) rfl
theorem lk_X11_246 : LKV "MilkDesk" 246 yX9_isAt.cls yX9_isAt cX9_isAt 3 (some .boolean) 2 := ⟨mw_932, mw_933, mw_934, mw_11, mw_935, by decide +kernel, by decide +kernel, by decide +kernel⟩
theorem mw_943 : Cond.code yX10_areLike cX10_areLike 4 (some .boolean) ∈ lw_G := lw_Gi 1003 (by decide +kernel) rfl
theorem mw_941 : Cond.instanceMethod yX10_areLike ∈ lw_G := lw_Gi 1001 (by decide +kernel) rfl
theorem mw_942 : Cond.selects yX10_areLike.cls yX10_areLike yX10_areLike ∈ lw_G := lw_Gi 1002 (by decide +kernel) rfl
theorem mw_940 : Cond.methodLink "MilkDesk" 249 yX10_areLike ∈ lw_G := lw_Gi 1000 (by decide +kernel) rfl
theorem lk_X11_249 : LKV "MilkDesk" 249 yX10_areLike.cls yX10_areLike cX10_areLike 4 (some .boolean) 3 := ⟨mw_940, mw_941, mw_942, mw_2, mw_943, by decide +kernel, by decide +kernel, by decide +kernel⟩
theorem mw_366 : Cond.fieldLink "MilkDesk" 16 "MilkDesk" "kept" "LMilkDesk$World;" ∈ lw_G := lw_Gi 426 (by decide +kernel) rfl
theorem fk_X11_16 : FLK "MilkDesk" 16 10 1 RX11 TX11 7 := ⟨rfl, Nat.le_of_ble_eq_true rfl, mw_366, in_wsX110⟩
theorem gr_0_1 (G : Gn) (i : Nat) : GVR G 0 10 1 i (ad G 1 1) := fun _ _ _ => ⟨_, rfl, rfl⟩
theorem mw_368 : Cond.fieldLink "MilkDesk" 252 "MilkDesk" "hasImage" "Z" ∈ lw_G := lw_Gi 428 (by decide +kernel) rfl
theorem fk_X11_252 : FLK "MilkDesk" 252 10 3 RX11 TX11 7 := ⟨rfl, Nat.le_of_ble_eq_true rfl, mw_368, in_wsX110⟩
theorem pf_X11_3 : parseFieldDescriptor (TX11 3).2.2.1 = some .boolean := by decide +kernel
theorem pv_0_3 (G : Gn) : PV G 0 10 3 := fun _ _ _ _ _ => ⟨_, rfl, Nat.le_of_ble_eq_true rfl, rfl⟩
theorem gi_0_3 (G : Gn) : GVI G 0 10 3 := fun _ _ _ _ => ⟨_, rfl, rfl⟩
theorem mw_960 : Cond.code yX4_allBottles cX4_allBottles 3 (some .int) ∈ lw_G := lw_Gi 1020 (by decide +kernel) rfl
theorem mw_958 : Cond.instanceMethod yX4_allBottles ∈ lw_G := lw_Gi 1018 (by decide +kernel) rfl
theorem mw_959 : Cond.selects yX4_allBottles.cls yX4_allBottles yX4_allBottles ∈ lw_G := lw_Gi 1019 (by decide +kernel) rfl
theorem mw_957 : Cond.methodLink "MilkDesk" 256 yX4_allBottles ∈ lw_G := lw_Gi 1017 (by decide +kernel) rfl
theorem lk_X11_256 : LKV "MilkDesk" 256 yX4_allBottles.cls yX4_allBottles cX4_allBottles 3 (some .int) 0 := ⟨mw_957, mw_958, mw_959, mw_4, mw_960, by decide +kernel, by decide +kernel, by decide +kernel⟩
theorem mw_972 : Cond.code yX9_holdCrate cX9_holdCrate 4 none ∈ lw_G := lw_Gi 1032 (by decide +kernel) rfl
theorem mw_970 : Cond.instanceMethod yX9_holdCrate ∈ lw_G := lw_Gi 1030 (by decide +kernel) rfl
theorem mw_971 : Cond.selects yX9_holdCrate.cls yX9_holdCrate yX9_holdCrate ∈ lw_G := lw_Gi 1031 (by decide +kernel) rfl
theorem mw_969 : Cond.methodLink "MilkDesk" 265 yX9_holdCrate ∈ lw_G := lw_Gi 1029 (by decide +kernel) rfl
theorem lk_X11_265 : LKV "MilkDesk" 265 yX9_holdCrate.cls yX9_holdCrate cX9_holdCrate 4 none 3 := ⟨mw_969, mw_970, mw_971, mw_11, mw_972, by decide +kernel, by decide +kernel, by decide +kernel⟩
theorem mw_968 : Cond.code yX9_clear cX9_clear 1 none ∈ lw_G := lw_Gi 1028 (by decide +kernel) rfl
theorem mw_966 : Cond.instanceMethod yX9_clear ∈ lw_G := lw_Gi 1026 (by decide +kernel) rfl
theorem mw_967 : Cond.selects yX9_clear.cls yX9_clear yX9_clear ∈ lw_G := lw_Gi 1027 (by decide +kernel) rfl
theorem mw_965 : Cond.methodLink "MilkDesk" 260 yX9_clear ∈ lw_G := lw_Gi 1025 (by decide +kernel) rfl
theorem lk_X11_260 : LKV "MilkDesk" 260 yX9_clear.cls yX9_clear cX9_clear 1 none 0 := ⟨mw_965, mw_966, mw_967, mw_11, mw_968, by decide +kernel, by decide +kernel, by decide +kernel⟩
theorem kb_80 : (Int8.ofInt 80).toInt32 = (80 : Int32) := by decide +kernel
theorem mw_980 : Cond.code yX9_holdRow cX9_holdRow 4 none ∈ lw_G := lw_Gi 1040 (by decide +kernel) rfl
theorem mw_978 : Cond.instanceMethod yX9_holdRow ∈ lw_G := lw_Gi 1038 (by decide +kernel) rfl
theorem mw_979 : Cond.selects yX9_holdRow.cls yX9_holdRow yX9_holdRow ∈ lw_G := lw_Gi 1039 (by decide +kernel) rfl
theorem mw_977 : Cond.methodLink "MilkDesk" 269 yX9_holdRow ∈ lw_G := lw_Gi 1037 (by decide +kernel) rfl
theorem lk_X11_269 : LKV "MilkDesk" 269 yX9_holdRow.cls yX9_holdRow cX9_holdRow 4 none 2 := ⟨mw_977, mw_978, mw_979, mw_11, mw_980, by decide +kernel, by decide +kernel, by decide +kernel⟩
theorem kb_m14 : (Int8.ofInt (-14)).toInt32 = (-14 : Int32) := by decide +kernel
theorem mw_985 : Cond.methodLink "MilkDesk" 272 yX9_hasPlace ∈ lw_G := lw_Gi 1045 (by decide +kernel) rfl
theorem lk_X11_272 : LKV "MilkDesk" 272 yX9_hasPlace.cls yX9_hasPlace cX9_hasPlace 2 (some .boolean) 1 := ⟨mw_985, mw_937, mw_938, mw_11, mw_939, by decide +kernel, by decide +kernel, by decide +kernel⟩
theorem mw_989 : Cond.code yX9_write cX9_write 3 none ∈ lw_G := lw_Gi 1049 (by decide +kernel) rfl
theorem mw_987 : Cond.instanceMethod yX9_write ∈ lw_G := lw_Gi 1047 (by decide +kernel) rfl
theorem mw_988 : Cond.selects yX9_write.cls yX9_write yX9_write ∈ lw_G := lw_Gi 1048 (by decide +kernel) rfl
theorem mw_986 : Cond.methodLink "MilkDesk" 275 yX9_write ∈ lw_G := lw_Gi 1046 (by decide +kernel) rfl
theorem lk_X11_275 : LKV "MilkDesk" 275 yX9_write.cls yX9_write cX9_write 3 none 2 := ⟨mw_986, mw_987, mw_988, mw_11, mw_989, by decide +kernel, by decide +kernel, by decide +kernel⟩
theorem mw_997 : Cond.code yX9_hasPlaces cX9_hasPlaces 3 (some .boolean) ∈ lw_G := lw_Gi 1057 (by decide +kernel) rfl
theorem mw_995 : Cond.instanceMethod yX9_hasPlaces ∈ lw_G := lw_Gi 1055 (by decide +kernel) rfl
theorem mw_996 : Cond.selects yX9_hasPlaces.cls yX9_hasPlaces yX9_hasPlaces ∈ lw_G := lw_Gi 1056 (by decide +kernel) rfl
theorem mw_994 : Cond.methodLink "MilkDesk" 303 yX9_hasPlaces ∈ lw_G := lw_Gi 1054 (by decide +kernel) rfl
theorem lk_X11_303 : LKV "MilkDesk" 303 yX9_hasPlaces.cls yX9_hasPlaces cX9_hasPlaces 3 (some .boolean) 2 := ⟨mw_994, mw_995, mw_996, mw_11, mw_997, by decide +kernel, by decide +kernel, by decide +kernel⟩
theorem mw_349 : Cond.fieldLink "MilkDesk" 290 "MilkDesk$Shelf" "cells" "[I" ∈ lw_G := lw_Gi 409 (by decide +kernel) rfl
theorem fk_X11_290 : FLK "MilkDesk" 290 8 6 RX9 TX9 7 := ⟨rfl, Nat.le_of_ble_eq_true rfl, mw_349, in_wsX90⟩
theorem mw_1004 : Cond.code yX11_crateRefusal cX11_crateRefusal 1 (some .int) ∈ lw_G := lw_Gi 1064 (by decide +kernel) rfl
theorem mw_1003 : Cond.static yX11_crateRefusal ∈ lw_G := lw_Gi 1063 (by decide +kernel) rfl
theorem mw_1002 : Cond.methodLink "MilkDesk" 312 yX11_crateRefusal ∈ lw_G := lw_Gi 1062 (by decide +kernel) rfl
theorem lk_X11_312 : LKS "MilkDesk" 312 yX11_crateRefusal cX11_crateRefusal 1 (some .int) 1 := ⟨mw_1002, mw_1003, mw_1, mw_1004, by decide +kernel, by decide +kernel, by decide +kernel⟩
theorem mw_332 : Cond.fieldLink "MilkDesk" 315 "MilkDesk$Shelf" "kind" "I" ∈ lw_G := lw_Gi 392 (by decide +kernel) rfl
theorem fk_X11_315 : FLK "MilkDesk" 315 8 1 RX9 TX9 7 := ⟨rfl, Nat.le_of_ble_eq_true rfl, mw_332, in_wsX90⟩
theorem gi_7_1 (G : Gn) : GVI G 7 8 1 := fun _ _ _ _ => ⟨_, rfl, rfl⟩
theorem mw_334 : Cond.fieldLink "MilkDesk" 318 "MilkDesk$Shelf" "bottles" "I" ∈ lw_G := lw_Gi 394 (by decide +kernel) rfl
theorem fk_X11_318 : FLK "MilkDesk" 318 8 2 RX9 TX9 7 := ⟨rfl, Nat.le_of_ble_eq_true rfl, mw_334, in_wsX90⟩
theorem gi_7_2 (G : Gn) : GVI G 7 8 2 := fun _ _ _ _ => ⟨_, rfl, rfl⟩
theorem mw_1008 : Cond.methodLink "MilkDesk" 323 yX3_paid ∈ lw_G := lw_Gi 1068 (by decide +kernel) rfl
theorem lk_X11_323 : LKS "MilkDesk" 323 yX3_paid cX3_paid 5 (some .int) 3 := ⟨mw_1008, mw_785, mw_20, mw_786, by decide +kernel, by decide +kernel, by decide +kernel⟩
theorem mw_1007 : Cond.code yX3_drunk cX3_drunk 2 (some .int) ∈ lw_G := lw_Gi 1067 (by decide +kernel) rfl
theorem mw_1006 : Cond.static yX3_drunk ∈ lw_G := lw_Gi 1066 (by decide +kernel) rfl
theorem mw_1005 : Cond.methodLink "MilkDesk" 320 yX3_drunk ∈ lw_G := lw_Gi 1065 (by decide +kernel) rfl
theorem lk_X11_320 : LKS "MilkDesk" 320 yX3_drunk cX3_drunk 2 (some .int) 2 := ⟨mw_1005, mw_1006, mw_20, mw_1007, by decide +kernel, by decide +kernel, by decide +kernel⟩
theorem mw_1141 : Cond.fieldLink "MilkDeskModel" 128 "MilkDeskModel" "thrown" "I" ∈ lw_G := lw_Gi 1201 (by decide +kernel) rfl
theorem fk_X12_128 : FLK "MilkDeskModel" 128 11 0 RX12 TX12 53 := ⟨rfl, Nat.le_of_ble_eq_true rfl, mw_1141, in_wsX120⟩
theorem gi_10_0 (G : Gn) : GVI G 10 11 0 := fun _ _ _ _ => ⟨_, rfl, rfl⟩
theorem ci_10 {i : Nat} (h : i < 1) : i < cntK 10 := h
theorem mw_1142 : Cond.fieldLink "MilkDeskModel" 7 "MilkDeskModel" "st" "[I" ∈ lw_G := lw_Gi 1202 (by decide +kernel) rfl
theorem fk_X12_7 : FLK "MilkDeskModel" 7 11 1 RX12 TX12 53 := ⟨rfl, Nat.le_of_ble_eq_true rfl, mw_1142, in_wsX120⟩
theorem gr_10_1 (G : Gn) (i : Nat) : GVR G 10 11 1 i (ad G 44 i) := fun _ _ _ => ⟨_, rfl, rfl⟩
theorem ar_44 (G : Gn) : AI G 44 320 := fun _ _ _ _ => rfl
theorem ci_44 {i : Nat} (h : i < 1) : i < cntK 44 := h
theorem mw_1316 : Cond.code yX12_in cX12_in 3 (some .boolean) ∈ lw_G := lw_Gi 1376 (by decide +kernel) rfl
theorem mw_12 : Cond.initialized yX12_in.cls ∈ lw_G := lw_Gi 72 (by decide +kernel) rfl
theorem mw_1315 : Cond.static yX12_in ∈ lw_G := lw_Gi 1375 (by decide +kernel) rfl
theorem mw_1314 : Cond.methodLink "MilkDeskModel" 131 yX12_in ∈ lw_G := lw_Gi 1374 (by decide +kernel) rfl
theorem lk_X12_131 : LKS "MilkDeskModel" 131 yX12_in cX12_in 3 (some .boolean) 3 := ⟨mw_1314, mw_1315, mw_12, mw_1316, by decide +kernel, by decide +kernel, by decide +kernel⟩
theorem pf_X12_0 : parseFieldDescriptor (TX12 0).2.2.1 = some .int := by decide +kernel
theorem pv_10_0 (G : Gn) : PV G 10 11 0 := fun _ _ _ _ _ => ⟨_, rfl, Nat.le_of_ble_eq_true rfl, rfl⟩
theorem mw_1313 : Cond.code yX12_isShire cX12_isShire 1 (some .boolean) ∈ lw_G := lw_Gi 1373 (by decide +kernel) rfl
theorem mw_1312 : Cond.static yX12_isShire ∈ lw_G := lw_Gi 1372 (by decide +kernel) rfl
theorem mw_1311 : Cond.methodLink "MilkDeskModel" 135 yX12_isShire ∈ lw_G := lw_Gi 1371 (by decide +kernel) rfl
theorem lk_X12_135 : LKS "MilkDeskModel" 135 yX12_isShire cX12_isShire 1 (some .boolean) 1 := ⟨mw_1311, mw_1312, mw_12, mw_1313, by decide +kernel, by decide +kernel, by decide +kernel⟩
theorem mw_1146 : Cond.fieldLink "MilkDeskModel" 19 "MilkDeskModel" "shire" "[I" ∈ lw_G := lw_Gi 1206 (by decide +kernel) rfl
theorem fk_X12_19 : FLK "MilkDeskModel" 19 11 5 RX12 TX12 53 := ⟨rfl, Nat.le_of_ble_eq_true rfl, mw_1146, in_wsX120⟩
theorem gr_10_5 (G : Gn) (i : Nat) : GVR G 10 11 5 i (ad G 47 i) := fun _ _ _ => ⟨_, rfl, rfl⟩
theorem ar_47 (G : Gn) : AI G 47 12 := fun _ _ _ _ => rfl
theorem ci_47 {i : Nat} (h : i < 1) : i < cntK 47 := h
theorem mw_1147 : Cond.fieldLink "MilkDeskModel" 22 "MilkDeskModel" "schoolX" "[I" ∈ lw_G := lw_Gi 1207 (by decide +kernel) rfl
theorem fk_X12_22 : FLK "MilkDeskModel" 22 11 6 RX12 TX12 53 := ⟨rfl, Nat.le_of_ble_eq_true rfl, mw_1147, in_wsX120⟩
theorem gr_10_6 (G : Gn) (i : Nat) : GVR G 10 11 6 i (ad G 48 i) := fun _ _ _ => ⟨_, rfl, rfl⟩
theorem ar_48 (G : Gn) : AI G 48 12 := fun _ _ _ _ => rfl
theorem ci_48 {i : Nat} (h : i < 1) : i < cntK 48 := h
theorem mw_1148 : Cond.fieldLink "MilkDeskModel" 25 "MilkDeskModel" "schoolY" "[I" ∈ lw_G := lw_Gi 1208 (by decide +kernel) rfl
theorem fk_X12_25 : FLK "MilkDeskModel" 25 11 7 RX12 TX12 53 := ⟨rfl, Nat.le_of_ble_eq_true rfl, mw_1148, in_wsX120⟩
theorem gr_10_7 (G : Gn) (i : Nat) : GVR G 10 11 7 i (ad G 49 i) := fun _ _ _ => ⟨_, rfl, rfl⟩
theorem ar_49 (G : Gn) : AI G 49 12 := fun _ _ _ _ => rfl
theorem ci_49 {i : Nat} (h : i < 1) : i < cntK 49 := h
theorem kb_50 : (Int8.ofInt 50).toInt32 = (50 : Int32) := by decide +kernel
theorem ks_180 : (Int16.ofInt 180).toInt32 = (180 : Int32) := by decide +kernel
theorem mw_1324 : Cond.code yX12_isSchool cX12_isSchool 2 (some .boolean) ∈ lw_G := lw_Gi 1384 (by decide +kernel) rfl
theorem mw_1323 : Cond.instanceMethod yX12_isSchool ∈ lw_G := lw_Gi 1383 (by decide +kernel) rfl
theorem mp_22 : Cond.selects yX12_isSchool.cls yX12_isSchool yX12_isSchool ∈ lw_G := lw_Gi 22 (by decide +kernel) rfl
theorem mw_1321 : Cond.methodLink "MilkDeskModel" 139 yX12_isSchool ∈ lw_G := lw_Gi 1381 (by decide +kernel) rfl
theorem lk_X12_139 : LKV "MilkDeskModel" 139 yX12_isSchool.cls yX12_isSchool cX12_isSchool 2 (some .boolean) 1 := ⟨mw_1321, mw_1323, mp_22, mw_12, mw_1324, by decide +kernel, by decide +kernel, by decide +kernel⟩
theorem rc_10 (G : Gn) : ∀ w i r q, ∃ fs, Esh G w 10 i r q = .inr (11, fs) := fun _ _ _ _ => ⟨_, rfl⟩
theorem mw_1149 : Cond.fieldLink "MilkDeskModel" 28 "MilkDeskModel" "dairyX" "[I" ∈ lw_G := lw_Gi 1209 (by decide +kernel) rfl
theorem fk_X12_28 : FLK "MilkDeskModel" 28 11 8 RX12 TX12 53 := ⟨rfl, Nat.le_of_ble_eq_true rfl, mw_1149, in_wsX120⟩
theorem gr_10_8 (G : Gn) (i : Nat) : GVR G 10 11 8 i (ad G 50 i) := fun _ _ _ => ⟨_, rfl, rfl⟩
theorem ar_50 (G : Gn) : AI G 50 5 := fun _ _ _ _ => rfl
theorem ci_50 {i : Nat} (h : i < 1) : i < cntK 50 := h
theorem mw_1150 : Cond.fieldLink "MilkDeskModel" 31 "MilkDeskModel" "dairyY" "[I" ∈ lw_G := lw_Gi 1210 (by decide +kernel) rfl
theorem fk_X12_31 : FLK "MilkDeskModel" 31 11 9 RX12 TX12 53 := ⟨rfl, Nat.le_of_ble_eq_true rfl, mw_1150, in_wsX120⟩
theorem gr_10_9 (G : Gn) (i : Nat) : GVR G 10 11 9 i (ad G 51 i) := fun _ _ _ => ⟨_, rfl, rfl⟩
theorem ar_51 (G : Gn) : AI G 51 5 := fun _ _ _ _ => rfl
theorem ci_51 {i : Nat} (h : i < 1) : i < cntK 51 := h
theorem mw_1151 : Cond.fieldLink "MilkDeskModel" 34 "MilkDeskModel" "cap" "[I" ∈ lw_G := lw_Gi 1211 (by decide +kernel) rfl
theorem fk_X12_34 : FLK "MilkDeskModel" 34 11 10 RX12 TX12 53 := ⟨rfl, Nat.le_of_ble_eq_true rfl, mw_1151, in_wsX120⟩
theorem gr_10_10 (G : Gn) (i : Nat) : GVR G 10 11 10 i (ad G 52 i) := fun _ _ _ => ⟨_, rfl, rfl⟩
theorem ar_52 (G : Gn) : AI G 52 5 := fun _ _ _ _ => rfl
theorem ci_52 {i : Nat} (h : i < 1) : i < cntK 52 := h
theorem kb_70 : (Int8.ofInt 70).toInt32 = (70 : Int32) := by decide +kernel
theorem mw_1336 : Cond.code yX12_isDairy cX12_isDairy 2 (some .boolean) ∈ lw_G := lw_Gi 1396 (by decide +kernel) rfl
theorem mw_1335 : Cond.instanceMethod yX12_isDairy ∈ lw_G := lw_Gi 1395 (by decide +kernel) rfl
theorem mp_23 : Cond.selects yX12_isDairy.cls yX12_isDairy yX12_isDairy ∈ lw_G := lw_Gi 23 (by decide +kernel) rfl
theorem mw_1333 : Cond.methodLink "MilkDeskModel" 142 yX12_isDairy ∈ lw_G := lw_Gi 1393 (by decide +kernel) rfl
theorem lk_X12_142 : LKV "MilkDeskModel" 142 yX12_isDairy.cls yX12_isDairy cX12_isDairy 2 (some .boolean) 1 := ⟨mw_1333, mw_1335, mp_23, mw_12, mw_1336, by decide +kernel, by decide +kernel, by decide +kernel⟩
theorem mw_1344 : Cond.code yX12_wonBy cX12_wonBy 5 (some .int) ∈ lw_G := lw_Gi 1404 (by decide +kernel) rfl
theorem mw_1343 : Cond.instanceMethod yX12_wonBy ∈ lw_G := lw_Gi 1403 (by decide +kernel) rfl
theorem mp_24 : Cond.selects yX12_wonBy.cls yX12_wonBy yX12_wonBy ∈ lw_G := lw_Gi 24 (by decide +kernel) rfl
theorem mw_1341 : Cond.methodLink "MilkDeskModel" 145 yX12_wonBy ∈ lw_G := lw_Gi 1401 (by decide +kernel) rfl
theorem lk_X12_145 : LKV "MilkDeskModel" 145 yX12_wonBy.cls yX12_wonBy cX12_wonBy 5 (some .int) 1 := ⟨mw_1341, mw_1343, mp_24, mw_12, mw_1344, by decide +kernel, by decide +kernel, by decide +kernel⟩
theorem mw_1140 : Cond.constant "MilkDeskModel" 127 (99999) ∈ lw_G := lw_Gi 1200 (by decide +kernel) rfl
theorem ks_140 : (Int16.ofInt 140).toInt32 = (140 : Int32) := by decide +kernel
theorem kb_120 : (Int8.ofInt 120).toInt32 = (120 : Int32) := by decide +kernel
theorem mw_1359 : Cond.code yX12_isAge cX12_isAge 1 (some .boolean) ∈ lw_G := lw_Gi 1419 (by decide +kernel) rfl
theorem mw_1358 : Cond.static yX12_isAge ∈ lw_G := lw_Gi 1418 (by decide +kernel) rfl
theorem mw_1357 : Cond.methodLink "MilkDeskModel" 149 yX12_isAge ∈ lw_G := lw_Gi 1417 (by decide +kernel) rfl
theorem lk_X12_149 : LKS "MilkDeskModel" 149 yX12_isAge cX12_isAge 1 (some .boolean) 1 := ⟨mw_1357, mw_1358, mw_12, mw_1359, by decide +kernel, by decide +kernel, by decide +kernel⟩
theorem mw_1186 : Cond.fieldLink "MilkDeskModel" 102 "MilkDeskModel" "holdsWhat" "[I" ∈ lw_G := lw_Gi 1246 (by decide +kernel) rfl
theorem fk_X12_102 : FLK "MilkDeskModel" 102 11 45 RX12 TX12 53 := ⟨rfl, Nat.le_of_ble_eq_true rfl, mw_1186, in_wsX120⟩
theorem gr_10_45 (G : Gn) (i : Nat) : GVR G 10 11 45 i (ad G 72 i) := fun _ _ _ => ⟨_, rfl, rfl⟩
theorem ar_72 (G : Gn) : AI G 72 8 := fun _ _ _ _ => rfl
theorem ci_72 {i : Nat} (h : i < 1) : i < cntK 72 := h
theorem mw_1190 : Cond.fieldLink "MilkDeskModel" 114 "MilkDeskModel" "rowSort" "[I" ∈ lw_G := lw_Gi 1250 (by decide +kernel) rfl
theorem fk_X12_114 : FLK "MilkDeskModel" 114 11 49 RX12 TX12 53 := ⟨rfl, Nat.le_of_ble_eq_true rfl, mw_1190, in_wsX120⟩
theorem gr_10_49 (G : Gn) (i : Nat) : GVR G 10 11 49 i (ad G 76 i) := fun _ _ _ => ⟨_, rfl, rfl⟩
theorem ar_76 (G : Gn) : AI G 76 8 := fun _ _ _ _ => rfl
theorem ci_76 {i : Nat} (h : i < 1) : i < cntK 76 := h
theorem mw_1362 : Cond.constantLong "MilkDeskModel" 156 (-2147483648) ∈ lw_G := lw_Gi 1422 (by decide +kernel) rfl
theorem mw_1361 : Cond.constantLong "MilkDeskModel" 154 (-32768) ∈ lw_G := lw_Gi 1421 (by decide +kernel) rfl
theorem mw_1360 : Cond.constantLong "MilkDeskModel" 152 (-128) ∈ lw_G := lw_Gi 1420 (by decide +kernel) rfl
theorem mw_1152 : Cond.fieldLink "MilkDeskModel" 37 "MilkDeskModel" "rAge" "[I" ∈ lw_G := lw_Gi 1212 (by decide +kernel) rfl
theorem fk_X12_37 : FLK "MilkDeskModel" 37 11 11 RX12 TX12 53 := ⟨rfl, Nat.le_of_ble_eq_true rfl, mw_1152, in_wsX120⟩
theorem gr_10_11 (G : Gn) (i : Nat) : GVR G 10 11 11 i (ad G 53 i) := fun _ _ _ => ⟨_, rfl, rfl⟩
theorem ar_53 (G : Gn) : AI G 53 16 := fun _ _ _ _ => rfl
theorem ci_53 {i : Nat} (h : i < 1) : i < cntK 53 := h
theorem mw_1153 : Cond.fieldLink "MilkDeskModel" 40 "MilkDeskModel" "rTold" "[I" ∈ lw_G := lw_Gi 1213 (by decide +kernel) rfl
theorem fk_X12_40 : FLK "MilkDeskModel" 40 11 12 RX12 TX12 53 := ⟨rfl, Nat.le_of_ble_eq_true rfl, mw_1153, in_wsX120⟩
theorem gr_10_12 (G : Gn) (i : Nat) : GVR G 10 11 12 i (ad G 54 i) := fun _ _ _ => ⟨_, rfl, rfl⟩
theorem ar_54 (G : Gn) : AI G 54 16 := fun _ _ _ _ => rfl
theorem ci_54 {i : Nat} (h : i < 1) : i < cntK 54 := h
theorem mw_1154 : Cond.fieldLink "MilkDeskModel" 43 "MilkDeskModel" "rFrom" "[I" ∈ lw_G := lw_Gi 1214 (by decide +kernel) rfl
theorem fk_X12_43 : FLK "MilkDeskModel" 43 11 13 RX12 TX12 53 := ⟨rfl, Nat.le_of_ble_eq_true rfl, mw_1154, in_wsX120⟩
theorem gr_10_13 (G : Gn) (i : Nat) : GVR G 10 11 13 i (ad G 55 i) := fun _ _ _ => ⟨_, rfl, rfl⟩
theorem ar_55 (G : Gn) : AI G 55 16 := fun _ _ _ _ => rfl
theorem ci_55 {i : Nat} (h : i < 1) : i < cntK 55 := h
theorem mw_1191 : Cond.fieldLink "MilkDeskModel" 117 "MilkDeskModel" "rowMany" "[I" ∈ lw_G := lw_Gi 1251 (by decide +kernel) rfl
theorem fk_X12_117 : FLK "MilkDeskModel" 117 11 50 RX12 TX12 53 := ⟨rfl, Nat.le_of_ble_eq_true rfl, mw_1191, in_wsX120⟩
theorem gr_10_50 (G : Gn) (i : Nat) : GVR G 10 11 50 i (ad G 77 i) := fun _ _ _ => ⟨_, rfl, rfl⟩
theorem ar_77 (G : Gn) : AI G 77 8 := fun _ _ _ _ => rfl
theorem ci_77 {i : Nat} (h : i < 1) : i < cntK 77 := h
theorem mw_1192 : Cond.fieldLink "MilkDeskModel" 120 "MilkDeskModel" "rows" "[J" ∈ lw_G := lw_Gi 1252 (by decide +kernel) rfl
theorem fk_X12_120 : FLK "MilkDeskModel" 120 11 51 RX12 TX12 53 := ⟨rfl, Nat.le_of_ble_eq_true rfl, mw_1192, in_wsX120⟩
theorem gr_10_51 (G : Gn) (i : Nat) : GVR G 10 11 51 i (ad G 78 i) := fun _ _ _ => ⟨_, rfl, rfl⟩
theorem ar_78 (G : Gn) : AJ G 78 640 := fun _ _ _ _ => rfl
theorem ci_78 {i : Nat} (h : i < 1) : i < cntK 78 := h
theorem mw_1155 : Cond.fieldLink "MilkDeskModel" 46 "MilkDeskModel" "rHeads" "[I" ∈ lw_G := lw_Gi 1215 (by decide +kernel) rfl
theorem fk_X12_46 : FLK "MilkDeskModel" 46 11 14 RX12 TX12 53 := ⟨rfl, Nat.le_of_ble_eq_true rfl, mw_1155, in_wsX120⟩
theorem gr_10_14 (G : Gn) (i : Nat) : GVR G 10 11 14 i (ad G 56 i) := fun _ _ _ => ⟨_, rfl, rfl⟩
theorem mw_1363 : Cond.constantLong "MilkDeskModel" 158 (200) ∈ lw_G := lw_Gi 1423 (by decide +kernel) rfl
theorem ar_56 (G : Gn) : AI G 56 192 := fun _ _ _ _ => rfl
theorem ci_56 {i : Nat} (h : i < 1) : i < cntK 56 := h
theorem mw_1374 : Cond.code yX12_headOf cX12_headOf 7 (some .int) ∈ lw_G := lw_Gi 1434 (by decide +kernel) rfl
theorem mw_1373 : Cond.instanceMethod yX12_headOf ∈ lw_G := lw_Gi 1433 (by decide +kernel) rfl
theorem mp_25 : Cond.selects yX12_headOf.cls yX12_headOf yX12_headOf ∈ lw_G := lw_Gi 25 (by decide +kernel) rfl
theorem mw_1371 : Cond.methodLink "MilkDeskModel" 160 yX12_headOf ∈ lw_G := lw_Gi 1431 (by decide +kernel) rfl
theorem lk_X12_160 : LKV "MilkDeskModel" 160 yX12_headOf.cls yX12_headOf cX12_headOf 7 (some .int) 4 := ⟨mw_1371, mw_1373, mp_25, mw_12, mw_1374, by decide +kernel, by decide +kernel, by decide +kernel⟩
theorem mw_1370 : Cond.code yX12_isDay cX12_isDay 1 (some .boolean) ∈ lw_G := lw_Gi 1430 (by decide +kernel) rfl
theorem mw_1369 : Cond.static yX12_isDay ∈ lw_G := lw_Gi 1429 (by decide +kernel) rfl
theorem mw_1368 : Cond.methodLink "MilkDeskModel" 164 yX12_isDay ∈ lw_G := lw_Gi 1428 (by decide +kernel) rfl
theorem lk_X12_164 : LKS "MilkDeskModel" 164 yX12_isDay cX12_isDay 1 (some .boolean) 1 := ⟨mw_1368, mw_1369, mw_12, mw_1370, by decide +kernel, by decide +kernel, by decide +kernel⟩
theorem mw_1167 : Cond.fieldLink "MilkDeskModel" 167 "MilkDeskModel" "at" "I" ∈ lw_G := lw_Gi 1227 (by decide +kernel) rfl
theorem fk_X12_167 : FLK "MilkDeskModel" 167 11 26 RX12 TX12 53 := ⟨rfl, Nat.le_of_ble_eq_true rfl, mw_1167, in_wsX120⟩
theorem gi_10_26 (G : Gn) : GVI G 10 11 26 := fun _ _ _ _ => ⟨_, rfl, rfl⟩
theorem mw_1166 : Cond.fieldLink "MilkDeskModel" 170 "MilkDeskModel" "end" "I" ∈ lw_G := lw_Gi 1226 (by decide +kernel) rfl
theorem fk_X12_170 : FLK "MilkDeskModel" 170 11 25 RX12 TX12 53 := ⟨rfl, Nat.le_of_ble_eq_true rfl, mw_1166, in_wsX120⟩
theorem gi_10_25 (G : Gn) : GVI G 10 11 25 := fun _ _ _ _ => ⟨_, rfl, rfl⟩
theorem mw_1164 : Cond.fieldLink "MilkDeskModel" 173 "MilkDeskModel" "isRow" "Z" ∈ lw_G := lw_Gi 1224 (by decide +kernel) rfl
theorem fk_X12_173 : FLK "MilkDeskModel" 173 11 23 RX12 TX12 53 := ⟨rfl, Nat.le_of_ble_eq_true rfl, mw_1164, in_wsX120⟩
theorem gi_10_23 (G : Gn) : GVI G 10 11 23 := fun _ _ _ _ => ⟨_, rfl, rfl⟩
theorem mw_1156 : Cond.fieldLink "MilkDeskModel" 49 "MilkDeskModel" "aBytes" "[I" ∈ lw_G := lw_Gi 1216 (by decide +kernel) rfl
theorem fk_X12_49 : FLK "MilkDeskModel" 49 11 15 RX12 TX12 53 := ⟨rfl, Nat.le_of_ble_eq_true rfl, mw_1156, in_wsX120⟩
theorem gr_10_15 (G : Gn) (i : Nat) : GVR G 10 11 15 i (ad G 57 i) := fun _ _ _ => ⟨_, rfl, rfl⟩
theorem mw_1165 : Cond.fieldLink "MilkDeskModel" 177 "MilkDeskModel" "base" "I" ∈ lw_G := lw_Gi 1225 (by decide +kernel) rfl
theorem fk_X12_177 : FLK "MilkDeskModel" 177 11 24 RX12 TX12 53 := ⟨rfl, Nat.le_of_ble_eq_true rfl, mw_1165, in_wsX120⟩
theorem gi_10_24 (G : Gn) : GVI G 10 11 24 := fun _ _ _ _ => ⟨_, rfl, rfl⟩
theorem ar_57 (G : Gn) : AI G 57 1280 := fun _ _ _ _ => rfl
theorem ci_57 {i : Nat} (h : i < 1) : i < cntK 57 := h
theorem mw_1171 : Cond.fieldLink "MilkDeskModel" 180 "MilkDeskModel" "forAge" "I" ∈ lw_G := lw_Gi 1231 (by decide +kernel) rfl
theorem fk_X12_180 : FLK "MilkDeskModel" 180 11 30 RX12 TX12 53 := ⟨rfl, Nat.le_of_ble_eq_true rfl, mw_1171, in_wsX120⟩
theorem gi_10_30 (G : Gn) : GVI G 10 11 30 := fun _ _ _ _ => ⟨_, rfl, rfl⟩
theorem mw_1172 : Cond.fieldLink "MilkDeskModel" 186 "MilkDeskModel" "forDay" "I" ∈ lw_G := lw_Gi 1232 (by decide +kernel) rfl
theorem fk_X12_186 : FLK "MilkDeskModel" 186 11 31 RX12 TX12 53 := ⟨rfl, Nat.le_of_ble_eq_true rfl, mw_1172, in_wsX120⟩
theorem gi_10_31 (G : Gn) : GVI G 10 11 31 := fun _ _ _ _ => ⟨_, rfl, rfl⟩
theorem mw_1420 : Cond.code yX12_monthOf cX12_monthOf 1 (some .int) ∈ lw_G := lw_Gi 1480 (by decide +kernel) rfl
theorem mw_1419 : Cond.static yX12_monthOf ∈ lw_G := lw_Gi 1479 (by decide +kernel) rfl
theorem mw_1418 : Cond.methodLink "MilkDeskModel" 189 yX12_monthOf ∈ lw_G := lw_Gi 1478 (by decide +kernel) rfl
theorem lk_X12_189 : LKS "MilkDeskModel" 189 yX12_monthOf cX12_monthOf 1 (some .int) 1 := ⟨mw_1418, mw_1419, mw_12, mw_1420, by decide +kernel, by decide +kernel, by decide +kernel⟩
theorem mw_1170 : Cond.fieldLink "MilkDeskModel" 183 "MilkDeskModel" "forSchool" "I" ∈ lw_G := lw_Gi 1230 (by decide +kernel) rfl
theorem fk_X12_183 : FLK "MilkDeskModel" 183 11 29 RX12 TX12 53 := ⟨rfl, Nat.le_of_ble_eq_true rfl, mw_1170, in_wsX120⟩
theorem gi_10_29 (G : Gn) : GVI G 10 11 29 := fun _ _ _ _ => ⟨_, rfl, rfl⟩
theorem mw_1424 : Cond.code yX12_headsOf cX12_headsOf 3 (some .int) ∈ lw_G := lw_Gi 1484 (by decide +kernel) rfl
theorem mw_1423 : Cond.instanceMethod yX12_headsOf ∈ lw_G := lw_Gi 1483 (by decide +kernel) rfl
theorem mp_35 : Cond.selects yX12_headsOf.cls yX12_headsOf yX12_headsOf ∈ lw_G := lw_Gi 35 (by decide +kernel) rfl
theorem mw_1421 : Cond.methodLink "MilkDeskModel" 192 yX12_headsOf ∈ lw_G := lw_Gi 1481 (by decide +kernel) rfl
theorem lk_X12_192 : LKV "MilkDeskModel" 192 yX12_headsOf.cls yX12_headsOf cX12_headsOf 3 (some .int) 2 := ⟨mw_1421, mw_1423, mp_35, mw_12, mw_1424, by decide +kernel, by decide +kernel, by decide +kernel⟩
theorem mw_1394 : Cond.code yX12_here cX12_here 1 (some .int) ∈ lw_G := lw_Gi 1454 (by decide +kernel) rfl
theorem mw_1393 : Cond.instanceMethod yX12_here ∈ lw_G := lw_Gi 1453 (by decide +kernel) rfl
theorem mp_29 : Cond.selects yX12_here.cls yX12_here yX12_here ∈ lw_G := lw_Gi 29 (by decide +kernel) rfl
theorem mw_1391 : Cond.methodLink "MilkDeskModel" 196 yX12_here ∈ lw_G := lw_Gi 1451 (by decide +kernel) rfl
theorem lk_X12_196 : LKV "MilkDeskModel" 196 yX12_here.cls yX12_here cX12_here 1 (some .int) 0 := ⟨mw_1391, mw_1393, mp_29, mw_12, mw_1394, by decide +kernel, by decide +kernel, by decide +kernel⟩
theorem mw_1413 : Cond.code yX12_isField cX12_isField 1 (some .boolean) ∈ lw_G := lw_Gi 1473 (by decide +kernel) rfl
theorem mw_1412 : Cond.static yX12_isField ∈ lw_G := lw_Gi 1472 (by decide +kernel) rfl
theorem mw_1411 : Cond.methodLink "MilkDeskModel" 200 yX12_isField ∈ lw_G := lw_Gi 1471 (by decide +kernel) rfl
theorem lk_X12_200 : LKS "MilkDeskModel" 200 yX12_isField cX12_isField 1 (some .boolean) 1 := ⟨mw_1411, mw_1412, mw_12, mw_1413, by decide +kernel, by decide +kernel, by decide +kernel⟩
theorem pf_X12_26 : parseFieldDescriptor (TX12 26).2.2.1 = some .int := by decide +kernel
theorem pv_10_26 (G : Gn) : PV G 10 11 26 := fun _ _ _ _ _ => ⟨_, rfl, Nat.le_of_ble_eq_true rfl, rfl⟩
theorem mw_1168 : Cond.fieldLink "MilkDeskModel" 206 "MilkDeskModel" "isBad" "Z" ∈ lw_G := lw_Gi 1228 (by decide +kernel) rfl
theorem fk_X12_206 : FLK "MilkDeskModel" 206 11 27 RX12 TX12 53 := ⟨rfl, Nat.le_of_ble_eq_true rfl, mw_1168, in_wsX120⟩
theorem pf_X12_27 : parseFieldDescriptor (TX12 27).2.2.1 = some .boolean := by decide +kernel
theorem pv_10_27 (G : Gn) : PV G 10 11 27 := fun _ _ _ _ _ => ⟨_, rfl, Nat.le_of_ble_eq_true rfl, rfl⟩
theorem mw_1417 : Cond.code yX12_field cX12_field 2 (some .int) ∈ lw_G := lw_Gi 1477 (by decide +kernel) rfl
theorem mw_1416 : Cond.instanceMethod yX12_field ∈ lw_G := lw_Gi 1476 (by decide +kernel) rfl
theorem mp_34 : Cond.selects yX12_field.cls yX12_field yX12_field ∈ lw_G := lw_Gi 34 (by decide +kernel) rfl
theorem mw_1414 : Cond.methodLink "MilkDeskModel" 203 yX12_field ∈ lw_G := lw_Gi 1474 (by decide +kernel) rfl
theorem lk_X12_203 : LKV "MilkDeskModel" 203 yX12_field.cls yX12_field cX12_field 2 (some .int) 1 := ⟨mw_1414, mw_1416, mp_34, mw_12, mw_1417, by decide +kernel, by decide +kernel, by decide +kernel⟩
theorem mw_1410 : Cond.code yX12_readAtom cX12_readAtom 4 (some .int) ∈ lw_G := lw_Gi 1470 (by decide +kernel) rfl
theorem mw_1409 : Cond.instanceMethod yX12_readAtom ∈ lw_G := lw_Gi 1469 (by decide +kernel) rfl
theorem mp_33 : Cond.selects yX12_readAtom.cls yX12_readAtom yX12_readAtom ∈ lw_G := lw_Gi 33 (by decide +kernel) rfl
theorem mw_1407 : Cond.methodLink "MilkDeskModel" 209 yX12_readAtom ∈ lw_G := lw_Gi 1467 (by decide +kernel) rfl
theorem lk_X12_209 : LKV "MilkDeskModel" 209 yX12_readAtom.cls yX12_readAtom cX12_readAtom 4 (some .int) 0 := ⟨mw_1407, mw_1409, mp_33, mw_12, mw_1410, by decide +kernel, by decide +kernel, by decide +kernel⟩
theorem gi_10_27 (G : Gn) : GVI G 10 11 27 := fun _ _ _ _ => ⟨_, rfl, rfl⟩
theorem kb_43 : (Int8.ofInt 43).toInt32 = (43 : Int32) := by decide +kernel
theorem kb_45 : (Int8.ofInt 45).toInt32 = (45 : Int32) := by decide +kernel
theorem mw_1406 : Cond.code yX12_readSum cX12_readSum 4 (some .int) ∈ lw_G := lw_Gi 1466 (by decide +kernel) rfl
theorem mw_1405 : Cond.instanceMethod yX12_readSum ∈ lw_G := lw_Gi 1465 (by decide +kernel) rfl
theorem mp_32 : Cond.selects yX12_readSum.cls yX12_readSum yX12_readSum ∈ lw_G := lw_Gi 32 (by decide +kernel) rfl
theorem mw_1403 : Cond.methodLink "MilkDeskModel" 212 yX12_readSum ∈ lw_G := lw_Gi 1463 (by decide +kernel) rfl
theorem lk_X12_212 : LKV "MilkDeskModel" 212 yX12_readSum.cls yX12_readSum cX12_readSum 4 (some .int) 0 := ⟨mw_1403, mw_1405, mp_32, mw_12, mw_1406, by decide +kernel, by decide +kernel, by decide +kernel⟩
theorem kb_62 : (Int8.ofInt 62).toInt32 = (62 : Int32) := by decide +kernel
theorem kb_61 : (Int8.ofInt 61).toInt32 = (61 : Int32) := by decide +kernel
theorem mw_1176 : Cond.fieldLink "MilkDeskModel" 215 "MilkDeskModel" "signMany" "I" ∈ lw_G := lw_Gi 1236 (by decide +kernel) rfl
theorem fk_X12_215 : FLK "MilkDeskModel" 215 11 35 RX12 TX12 53 := ⟨rfl, Nat.le_of_ble_eq_true rfl, mw_1176, in_wsX120⟩
theorem gi_10_35 (G : Gn) : GVI G 10 11 35 := fun _ _ _ _ => ⟨_, rfl, rfl⟩
theorem mw_1175 : Cond.fieldLink "MilkDeskModel" 78 "MilkDeskModel" "signs" "[I" ∈ lw_G := lw_Gi 1235 (by decide +kernel) rfl
theorem fk_X12_78 : FLK "MilkDeskModel" 78 11 34 RX12 TX12 53 := ⟨rfl, Nat.le_of_ble_eq_true rfl, mw_1175, in_wsX120⟩
theorem gr_10_34 (G : Gn) (i : Nat) : GVR G 10 11 34 i (ad G 65 i) := fun _ _ _ => ⟨_, rfl, rfl⟩
theorem ar_65 (G : Gn) : AI G 65 200 := fun _ _ _ _ => rfl
theorem ci_65 {i : Nat} (h : i < 1) : i < cntK 65 := h
theorem mw_1432 : Cond.code yX12_topSign cX12_topSign 1 (some .int) ∈ lw_G := lw_Gi 1492 (by decide +kernel) rfl
theorem mw_1431 : Cond.instanceMethod yX12_topSign ∈ lw_G := lw_Gi 1491 (by decide +kernel) rfl
theorem mp_37 : Cond.selects yX12_topSign.cls yX12_topSign yX12_topSign ∈ lw_G := lw_Gi 37 (by decide +kernel) rfl
theorem mw_1429 : Cond.methodLink "MilkDeskModel" 218 yX12_topSign ∈ lw_G := lw_Gi 1489 (by decide +kernel) rfl
theorem lk_X12_218 : LKV "MilkDeskModel" 218 yX12_topSign.cls yX12_topSign cX12_topSign 1 (some .int) 0 := ⟨mw_1429, mw_1431, mp_37, mw_12, mw_1432, by decide +kernel, by decide +kernel, by decide +kernel⟩
theorem mw_1173 : Cond.fieldLink "MilkDeskModel" 74 "MilkDeskModel" "values" "[Z" ∈ lw_G := lw_Gi 1233 (by decide +kernel) rfl
theorem fk_X12_74 : FLK "MilkDeskModel" 74 11 32 RX12 TX12 53 := ⟨rfl, Nat.le_of_ble_eq_true rfl, mw_1173, in_wsX120⟩
theorem gr_10_32 (G : Gn) (i : Nat) : GVR G 10 11 32 i (ad G 64 i) := fun _ _ _ => ⟨_, rfl, rfl⟩
theorem mw_1174 : Cond.fieldLink "MilkDeskModel" 221 "MilkDeskModel" "valueMany" "I" ∈ lw_G := lw_Gi 1234 (by decide +kernel) rfl
theorem fk_X12_221 : FLK "MilkDeskModel" 221 11 33 RX12 TX12 53 := ⟨rfl, Nat.le_of_ble_eq_true rfl, mw_1174, in_wsX120⟩
theorem gi_10_33 (G : Gn) : GVI G 10 11 33 := fun _ _ _ _ => ⟨_, rfl, rfl⟩
theorem ar_64 (G : Gn) : AZ G 64 100 := fun _ _ _ _ => rfl
theorem ci_64 {i : Nat} (h : i < 1) : i < cntK 64 := h
theorem pf_X12_35 : parseFieldDescriptor (TX12 35).2.2.1 = some .int := by decide +kernel
theorem pv_10_35 (G : Gn) : PV G 10 11 35 := fun _ _ _ _ _ => ⟨_, rfl, Nat.le_of_ble_eq_true rfl, rfl⟩
theorem pf_X12_33 : parseFieldDescriptor (TX12 33).2.2.1 = some .int := by decide +kernel
theorem pv_10_33 (G : Gn) : PV G 10 11 33 := fun _ _ _ _ _ => ⟨_, rfl, Nat.le_of_ble_eq_true rfl, rfl⟩
theorem mw_1169 : Cond.fieldLink "MilkDeskModel" 224 "MilkDeskModel" "deep" "I" ∈ lw_G := lw_Gi 1229 (by decide +kernel) rfl
theorem fk_X12_224 : FLK "MilkDeskModel" 224 11 28 RX12 TX12 53 := ⟨rfl, Nat.le_of_ble_eq_true rfl, mw_1169, in_wsX120⟩
theorem pf_X12_28 : parseFieldDescriptor (TX12 28).2.2.1 = some .int := by decide +kernel
theorem pv_10_28 (G : Gn) : PV G 10 11 28 := fun _ _ _ _ _ => ⟨_, rfl, Nat.le_of_ble_eq_true rfl, rfl⟩
theorem mw_1436 : Cond.code yX12_join cX12_join 2 none ∈ lw_G := lw_Gi 1496 (by decide +kernel) rfl
theorem mw_1435 : Cond.instanceMethod yX12_join ∈ lw_G := lw_Gi 1495 (by decide +kernel) rfl
theorem mp_38 : Cond.selects yX12_join.cls yX12_join yX12_join ∈ lw_G := lw_Gi 38 (by decide +kernel) rfl
theorem mw_1433 : Cond.methodLink "MilkDeskModel" 234 yX12_join ∈ lw_G := lw_Gi 1493 (by decide +kernel) rfl
theorem lk_X12_234 : LKV "MilkDeskModel" 234 yX12_join.cls yX12_join cX12_join 2 none 1 := ⟨mw_1433, mw_1435, mp_38, mw_12, mw_1436, by decide +kernel, by decide +kernel, by decide +kernel⟩
theorem mw_1402 : Cond.code yX12_readTest cX12_readTest 4 (some .boolean) ∈ lw_G := lw_Gi 1462 (by decide +kernel) rfl
theorem mw_1401 : Cond.instanceMethod yX12_readTest ∈ lw_G := lw_Gi 1461 (by decide +kernel) rfl
theorem mp_31 : Cond.selects yX12_readTest.cls yX12_readTest yX12_readTest ∈ lw_G := lw_Gi 31 (by decide +kernel) rfl
theorem mw_1399 : Cond.methodLink "MilkDeskModel" 227 yX12_readTest ∈ lw_G := lw_Gi 1459 (by decide +kernel) rfl
theorem lk_X12_227 : LKV "MilkDeskModel" 227 yX12_readTest.cls yX12_readTest cX12_readTest 4 (some .boolean) 0 := ⟨mw_1399, mw_1401, mp_31, mw_12, mw_1402, by decide +kernel, by decide +kernel, by decide +kernel⟩
theorem mw_1428 : Cond.code yX12_testEnds cX12_testEnds 1 none ∈ lw_G := lw_Gi 1488 (by decide +kernel) rfl
theorem mw_1427 : Cond.instanceMethod yX12_testEnds ∈ lw_G := lw_Gi 1487 (by decide +kernel) rfl
theorem mp_36 : Cond.selects yX12_testEnds.cls yX12_testEnds yX12_testEnds ∈ lw_G := lw_Gi 36 (by decide +kernel) rfl
theorem mw_1425 : Cond.methodLink "MilkDeskModel" 231 yX12_testEnds ∈ lw_G := lw_Gi 1485 (by decide +kernel) rfl
theorem lk_X12_231 : LKV "MilkDeskModel" 231 yX12_testEnds.cls yX12_testEnds cX12_testEnds 1 none 0 := ⟨mw_1425, mw_1427, mp_36, mw_12, mw_1428, by decide +kernel, by decide +kernel, by decide +kernel⟩
theorem gi_10_28 (G : Gn) : GVI G 10 11 28 := fun _ _ _ _ => ⟨_, rfl, rfl⟩
theorem kb_101 : (Int8.ofInt 101).toInt32 = (101 : Int32) := by decide +kernel
theorem kb_114 : (Int8.ofInt 114).toInt32 = (114 : Int32) := by decide +kernel
theorem kb_111 : (Int8.ofInt 111).toInt32 = (111 : Int32) := by decide +kernel
theorem mw_1398 : Cond.code yX12_readOr cX12_readOr 5 (some .boolean) ∈ lw_G := lw_Gi 1458 (by decide +kernel) rfl
theorem mw_1397 : Cond.instanceMethod yX12_readOr ∈ lw_G := lw_Gi 1457 (by decide +kernel) rfl
theorem mp_30 : Cond.selects yX12_readOr.cls yX12_readOr yX12_readOr ∈ lw_G := lw_Gi 30 (by decide +kernel) rfl
theorem mw_1395 : Cond.methodLink "MilkDeskModel" 238 yX12_readOr ∈ lw_G := lw_Gi 1455 (by decide +kernel) rfl
theorem lk_X12_238 : LKV "MilkDeskModel" 238 yX12_readOr.cls yX12_readOr cX12_readOr 5 (some .boolean) 1 := ⟨mw_1395, mw_1397, mp_30, mw_12, mw_1398, by decide +kernel, by decide +kernel, by decide +kernel⟩
theorem pf_X12_23 : parseFieldDescriptor (TX12 23).2.2.1 = some .boolean := by decide +kernel
theorem pv_10_23 (G : Gn) : PV G 10 11 23 := fun _ _ _ _ _ => ⟨_, rfl, Nat.le_of_ble_eq_true rfl, rfl⟩
theorem pf_X12_24 : parseFieldDescriptor (TX12 24).2.2.1 = some .int := by decide +kernel
theorem pv_10_24 (G : Gn) : PV G 10 11 24 := fun _ _ _ _ _ => ⟨_, rfl, Nat.le_of_ble_eq_true rfl, rfl⟩
theorem pf_X12_25 : parseFieldDescriptor (TX12 25).2.2.1 = some .int := by decide +kernel
theorem pv_10_25 (G : Gn) : PV G 10 11 25 := fun _ _ _ _ _ => ⟨_, rfl, Nat.le_of_ble_eq_true rfl, rfl⟩
theorem mw_1390 : Cond.code yX12_readAct cX12_readAct 3 (some .boolean) ∈ lw_G := lw_Gi 1450 (by decide +kernel) rfl
theorem mw_1389 : Cond.instanceMethod yX12_readAct ∈ lw_G := lw_Gi 1449 (by decide +kernel) rfl
theorem mp_28 : Cond.selects yX12_readAct.cls yX12_readAct yX12_readAct ∈ lw_G := lw_Gi 28 (by decide +kernel) rfl
theorem mw_1387 : Cond.methodLink "MilkDeskModel" 242 yX12_readAct ∈ lw_G := lw_Gi 1447 (by decide +kernel) rfl
theorem lk_X12_242 : LKV "MilkDeskModel" 242 yX12_readAct.cls yX12_readAct cX12_readAct 3 (some .boolean) 0 := ⟨mw_1387, mw_1389, mp_28, mw_12, mw_1390, by decide +kernel, by decide +kernel, by decide +kernel⟩
theorem mw_1382 : Cond.code yX12_lacks cX12_lacks 3 (some .int) ∈ lw_G := lw_Gi 1442 (by decide +kernel) rfl
theorem mw_1381 : Cond.instanceMethod yX12_lacks ∈ lw_G := lw_Gi 1441 (by decide +kernel) rfl
theorem mp_26 : Cond.selects yX12_lacks.cls yX12_lacks yX12_lacks ∈ lw_G := lw_Gi 26 (by decide +kernel) rfl
theorem mw_1379 : Cond.methodLink "MilkDeskModel" 245 yX12_lacks ∈ lw_G := lw_Gi 1439 (by decide +kernel) rfl
theorem lk_X12_245 : LKV "MilkDeskModel" 245 yX12_lacks.cls yX12_lacks cX12_lacks 3 (some .int) 2 := ⟨mw_1379, mw_1381, mp_26, mw_12, mw_1382, by decide +kernel, by decide +kernel, by decide +kernel⟩
theorem mw_1386 : Cond.code yX12_faultOf cX12_faultOf 2 (some .int) ∈ lw_G := lw_Gi 1446 (by decide +kernel) rfl
theorem mw_1385 : Cond.instanceMethod yX12_faultOf ∈ lw_G := lw_Gi 1445 (by decide +kernel) rfl
theorem mp_27 : Cond.selects yX12_faultOf.cls yX12_faultOf yX12_faultOf ∈ lw_G := lw_Gi 27 (by decide +kernel) rfl
theorem mw_1383 : Cond.methodLink "MilkDeskModel" 248 yX12_faultOf ∈ lw_G := lw_Gi 1443 (by decide +kernel) rfl
theorem lk_X12_248 : LKV "MilkDeskModel" 248 yX12_faultOf.cls yX12_faultOf cX12_faultOf 2 (some .int) 1 := ⟨mw_1383, mw_1385, mp_27, mw_12, mw_1386, by decide +kernel, by decide +kernel, by decide +kernel⟩
theorem mw_1157 : Cond.fieldLink "MilkDeskModel" 52 "MilkDeskModel" "aMany" "[I" ∈ lw_G := lw_Gi 1217 (by decide +kernel) rfl
theorem fk_X12_52 : FLK "MilkDeskModel" 52 11 16 RX12 TX12 53 := ⟨rfl, Nat.le_of_ble_eq_true rfl, mw_1157, in_wsX120⟩
theorem gr_10_16 (G : Gn) (i : Nat) : GVR G 10 11 16 i (ad G 58 i) := fun _ _ _ => ⟨_, rfl, rfl⟩
theorem ar_58 (G : Gn) : AI G 58 16 := fun _ _ _ _ => rfl
theorem ci_58 {i : Nat} (h : i < 1) : i < cntK 58 := h
theorem mw_1158 : Cond.fieldLink "MilkDeskModel" 55 "MilkDeskModel" "aShire" "[I" ∈ lw_G := lw_Gi 1218 (by decide +kernel) rfl
theorem fk_X12_55 : FLK "MilkDeskModel" 55 11 17 RX12 TX12 53 := ⟨rfl, Nat.le_of_ble_eq_true rfl, mw_1158, in_wsX120⟩
theorem gr_10_17 (G : Gn) (i : Nat) : GVR G 10 11 17 i (ad G 59 i) := fun _ _ _ => ⟨_, rfl, rfl⟩
theorem ar_59 (G : Gn) : AI G 59 16 := fun _ _ _ _ => rfl
theorem ci_59 {i : Nat} (h : i < 1) : i < cntK 59 := h
theorem mw_1159 : Cond.fieldLink "MilkDeskModel" 58 "MilkDeskModel" "aFrom" "[I" ∈ lw_G := lw_Gi 1219 (by decide +kernel) rfl
theorem fk_X12_58 : FLK "MilkDeskModel" 58 11 18 RX12 TX12 53 := ⟨rfl, Nat.le_of_ble_eq_true rfl, mw_1159, in_wsX120⟩
theorem gr_10_18 (G : Gn) (i : Nat) : GVR G 10 11 18 i (ad G 60 i) := fun _ _ _ => ⟨_, rfl, rfl⟩
theorem ar_60 (G : Gn) : AI G 60 16 := fun _ _ _ _ => rfl
theorem ci_60 {i : Nat} (h : i < 1) : i < cntK 60 := h
theorem ks_160 : (Int16.ofInt 160).toInt32 = (160 : Int32) := by decide +kernel
theorem mw_1441 : Cond.constant "MilkDeskModel" 251 (1000000) ∈ lw_G := lw_Gi 1501 (by decide +kernel) rfl
theorem mw_1178 : Cond.fieldLink "MilkDeskModel" 84 "MilkDeskModel" "forcesDay" "I" ∈ lw_G := lw_Gi 1238 (by decide +kernel) rfl
theorem fk_X12_84 : FLK "MilkDeskModel" 84 11 37 RX12 TX12 53 := ⟨rfl, Nat.le_of_ble_eq_true rfl, mw_1178, in_wsX120⟩
theorem pf_X12_37 : parseFieldDescriptor (TX12 37).2.2.1 = some .int := by decide +kernel
theorem pv_10_37 (G : Gn) : PV G 10 11 37 := fun _ _ _ _ _ => ⟨_, rfl, Nat.le_of_ble_eq_true rfl, rfl⟩
theorem mw_1460 : Cond.code yX12_letterOf cX12_letterOf 1 (some .int) ∈ lw_G := lw_Gi 1520 (by decide +kernel) rfl
theorem mw_1459 : Cond.static yX12_letterOf ∈ lw_G := lw_Gi 1519 (by decide +kernel) rfl
theorem mw_1458 : Cond.methodLink "MilkDeskModel" 256 yX12_letterOf ∈ lw_G := lw_Gi 1518 (by decide +kernel) rfl
theorem lk_X12_256 : LKS "MilkDeskModel" 256 yX12_letterOf cX12_letterOf 1 (some .int) 1 := ⟨mw_1458, mw_1459, mw_12, mw_1460, by decide +kernel, by decide +kernel, by decide +kernel⟩
theorem mw_1457 : Cond.code yX12_isOf cX12_isOf 5 (some .boolean) ∈ lw_G := lw_Gi 1517 (by decide +kernel) rfl
theorem mw_1456 : Cond.instanceMethod yX12_isOf ∈ lw_G := lw_Gi 1516 (by decide +kernel) rfl
theorem mp_40 : Cond.selects yX12_isOf.cls yX12_isOf yX12_isOf ∈ lw_G := lw_Gi 40 (by decide +kernel) rfl
theorem mw_1454 : Cond.methodLink "MilkDeskModel" 252 yX12_isOf ∈ lw_G := lw_Gi 1514 (by decide +kernel) rfl
theorem lk_X12_252 : LKV "MilkDeskModel" 252 yX12_isOf.cls yX12_isOf cX12_isOf 5 (some .boolean) 4 := ⟨mw_1454, mw_1456, mp_40, mw_12, mw_1457, by decide +kernel, by decide +kernel, by decide +kernel⟩
theorem gi_10_37 (G : Gn) : GVI G 10 11 37 := fun _ _ _ _ => ⟨_, rfl, rfl⟩
theorem mw_1177 : Cond.fieldLink "MilkDeskModel" 81 "MilkDeskModel" "forces" "[I" ∈ lw_G := lw_Gi 1237 (by decide +kernel) rfl
theorem fk_X12_81 : FLK "MilkDeskModel" 81 11 36 RX12 TX12 53 := ⟨rfl, Nat.le_of_ble_eq_true rfl, mw_1177, in_wsX120⟩
theorem gr_10_36 (G : Gn) (i : Nat) : GVR G 10 11 36 i (ad G 66 i) := fun _ _ _ => ⟨_, rfl, rfl⟩
theorem ar_66 (G : Gn) : AI G 66 12 := fun _ _ _ _ => rfl
theorem ci_66 {i : Nat} (h : i < 1) : i < cntK 66 := h
theorem nz_4 : ¬ (4 : Int32) = 0 := by decide +kernel
theorem mw_1453 : Cond.code yX12_forceOf cX12_forceOf 7 (some .int) ∈ lw_G := lw_Gi 1513 (by decide +kernel) rfl
theorem mw_1452 : Cond.instanceMethod yX12_forceOf ∈ lw_G := lw_Gi 1512 (by decide +kernel) rfl
theorem mp_39 : Cond.selects yX12_forceOf.cls yX12_forceOf yX12_forceOf ∈ lw_G := lw_Gi 39 (by decide +kernel) rfl
theorem mw_1450 : Cond.methodLink "MilkDeskModel" 259 yX12_forceOf ∈ lw_G := lw_Gi 1510 (by decide +kernel) rfl
theorem lk_X12_259 : LKV "MilkDeskModel" 259 yX12_forceOf.cls yX12_forceOf cX12_forceOf 7 (some .int) 3 := ⟨mw_1450, mw_1452, mp_39, mw_12, mw_1453, by decide +kernel, by decide +kernel, by decide +kernel⟩
theorem pf_X12_29 : parseFieldDescriptor (TX12 29).2.2.1 = some .int := by decide +kernel
theorem pv_10_29 (G : Gn) : PV G 10 11 29 := fun _ _ _ _ _ => ⟨_, rfl, Nat.le_of_ble_eq_true rfl, rfl⟩
theorem pf_X12_30 : parseFieldDescriptor (TX12 30).2.2.1 = some .int := by decide +kernel
theorem pv_10_30 (G : Gn) : PV G 10 11 30 := fun _ _ _ _ _ => ⟨_, rfl, Nat.le_of_ble_eq_true rfl, rfl⟩
theorem pf_X12_31 : parseFieldDescriptor (TX12 31).2.2.1 = some .int := by decide +kernel
theorem pv_10_31 (G : Gn) : PV G 10 11 31 := fun _ _ _ _ _ => ⟨_, rfl, Nat.le_of_ble_eq_true rfl, rfl⟩
theorem mw_1472 : Cond.code yX12_doesHold cX12_doesHold 5 (some .boolean) ∈ lw_G := lw_Gi 1532 (by decide +kernel) rfl
theorem mw_1471 : Cond.instanceMethod yX12_doesHold ∈ lw_G := lw_Gi 1531 (by decide +kernel) rfl
theorem mp_42 : Cond.selects yX12_doesHold.cls yX12_doesHold yX12_doesHold ∈ lw_G := lw_Gi 42 (by decide +kernel) rfl
theorem mw_1469 : Cond.methodLink "MilkDeskModel" 263 yX12_doesHold ∈ lw_G := lw_Gi 1529 (by decide +kernel) rfl
theorem lk_X12_263 : LKV "MilkDeskModel" 263 yX12_doesHold.cls yX12_doesHold cX12_doesHold 5 (some .boolean) 4 := ⟨mw_1469, mw_1471, mp_42, mw_12, mw_1472, by decide +kernel, by decide +kernel, by decide +kernel⟩
theorem mw_1468 : Cond.code yX12_holdsFor cX12_holdsFor 6 (some .boolean) ∈ lw_G := lw_Gi 1528 (by decide +kernel) rfl
theorem mw_1467 : Cond.instanceMethod yX12_holdsFor ∈ lw_G := lw_Gi 1527 (by decide +kernel) rfl
theorem mp_41 : Cond.selects yX12_holdsFor.cls yX12_holdsFor yX12_holdsFor ∈ lw_G := lw_Gi 41 (by decide +kernel) rfl
theorem mw_1465 : Cond.methodLink "MilkDeskModel" 266 yX12_holdsFor ∈ lw_G := lw_Gi 1525 (by decide +kernel) rfl
theorem lk_X12_266 : LKV "MilkDeskModel" 266 yX12_holdsFor.cls yX12_holdsFor cX12_holdsFor 6 (some .boolean) 4 := ⟨mw_1465, mw_1467, mp_41, mw_12, mw_1468, by decide +kernel, by decide +kernel, by decide +kernel⟩
theorem mw_1480 : Cond.code yX12_couldBe cX12_couldBe 5 (some .boolean) ∈ lw_G := lw_Gi 1540 (by decide +kernel) rfl
theorem mw_1479 : Cond.instanceMethod yX12_couldBe ∈ lw_G := lw_Gi 1539 (by decide +kernel) rfl
theorem mp_43 : Cond.selects yX12_couldBe.cls yX12_couldBe yX12_couldBe ∈ lw_G := lw_Gi 43 (by decide +kernel) rfl
theorem mw_1477 : Cond.methodLink "MilkDeskModel" 269 yX12_couldBe ∈ lw_G := lw_Gi 1537 (by decide +kernel) rfl
theorem lk_X12_269 : LKV "MilkDeskModel" 269 yX12_couldBe.cls yX12_couldBe cX12_couldBe 5 (some .boolean) 4 := ⟨mw_1477, mw_1479, mp_43, mw_12, mw_1480, by decide +kernel, by decide +kernel, by decide +kernel⟩
theorem mw_1510 : Cond.code yX12_hundreds cX12_hundreds 2 (some .int) ∈ lw_G := lw_Gi 1570 (by decide +kernel) rfl
theorem mw_1509 : Cond.static yX12_hundreds ∈ lw_G := lw_Gi 1569 (by decide +kernel) rfl
theorem mw_1508 : Cond.methodLink "MilkDeskModel" 272 yX12_hundreds ∈ lw_G := lw_Gi 1568 (by decide +kernel) rfl
theorem lk_X12_272 : LKS "MilkDeskModel" 272 yX12_hundreds cX12_hundreds 2 (some .int) 2 := ⟨mw_1508, mw_1509, mw_12, mw_1510, by decide +kernel, by decide +kernel, by decide +kernel⟩
theorem mw_1163 : Cond.fieldLink "MilkDeskModel" 70 "MilkDeskModel" "without" "I" ∈ lw_G := lw_Gi 1223 (by decide +kernel) rfl
theorem fk_X12_70 : FLK "MilkDeskModel" 70 11 22 RX12 TX12 53 := ⟨rfl, Nat.le_of_ble_eq_true rfl, mw_1163, in_wsX120⟩
theorem gi_10_22 (G : Gn) : GVI G 10 11 22 := fun _ _ _ _ => ⟨_, rfl, rfl⟩
theorem mw_1500 : Cond.code yX12_orderOf cX12_orderOf 6 (some .int) ∈ lw_G := lw_Gi 1560 (by decide +kernel) rfl
theorem mw_1499 : Cond.instanceMethod yX12_orderOf ∈ lw_G := lw_Gi 1559 (by decide +kernel) rfl
theorem mp_47 : Cond.selects yX12_orderOf.cls yX12_orderOf yX12_orderOf ∈ lw_G := lw_Gi 47 (by decide +kernel) rfl
theorem mw_1497 : Cond.methodLink "MilkDeskModel" 275 yX12_orderOf ∈ lw_G := lw_Gi 1557 (by decide +kernel) rfl
theorem lk_X12_275 : LKV "MilkDeskModel" 275 yX12_orderOf.cls yX12_orderOf cX12_orderOf 6 (some .int) 2 := ⟨mw_1497, mw_1499, mp_47, mw_12, mw_1500, by decide +kernel, by decide +kernel, by decide +kernel⟩
theorem mw_1179 : Cond.fieldLink "MilkDeskModel" 87 "MilkDeskModel" "capLeft" "[I" ∈ lw_G := lw_Gi 1239 (by decide +kernel) rfl
theorem fk_X12_87 : FLK "MilkDeskModel" 87 11 38 RX12 TX12 53 := ⟨rfl, Nat.le_of_ble_eq_true rfl, mw_1179, in_wsX120⟩
theorem gr_10_38 (G : Gn) (i : Nat) : GVR G 10 11 38 i (ad G 67 i) := fun _ _ _ => ⟨_, rfl, rfl⟩
theorem ar_67 (G : Gn) : AI G 67 5 := fun _ _ _ _ => rfl
theorem ci_67 {i : Nat} (h : i < 1) : i < cntK 67 := h
theorem mw_1181 : Cond.fieldLink "MilkDeskModel" 278 "MilkDeskModel" "cowsLeft" "I" ∈ lw_G := lw_Gi 1241 (by decide +kernel) rfl
theorem fk_X12_278 : FLK "MilkDeskModel" 278 11 40 RX12 TX12 53 := ⟨rfl, Nat.le_of_ble_eq_true rfl, mw_1181, in_wsX120⟩
theorem gi_10_40 (G : Gn) : GVI G 10 11 40 := fun _ _ _ _ => ⟨_, rfl, rfl⟩
theorem pf_X12_40 : parseFieldDescriptor (TX12 40).2.2.1 = some .int := by decide +kernel
theorem pv_10_40 (G : Gn) : PV G 10 11 40 := fun _ _ _ _ _ => ⟨_, rfl, Nat.le_of_ble_eq_true rfl, rfl⟩
theorem mw_1504 : Cond.code yX12_add cX12_add 4 none ∈ lw_G := lw_Gi 1564 (by decide +kernel) rfl
theorem mw_1503 : Cond.instanceMethod yX12_add ∈ lw_G := lw_Gi 1563 (by decide +kernel) rfl
theorem mp_48 : Cond.selects yX12_add.cls yX12_add yX12_add ∈ lw_G := lw_Gi 48 (by decide +kernel) rfl
theorem mw_1501 : Cond.methodLink "MilkDeskModel" 281 yX12_add ∈ lw_G := lw_Gi 1561 (by decide +kernel) rfl
theorem lk_X12_281 : LKV "MilkDeskModel" 281 yX12_add.cls yX12_add cX12_add 4 none 3 := ⟨mw_1501, mw_1503, mp_48, mw_12, mw_1504, by decide +kernel, by decide +kernel, by decide +kernel⟩
theorem mw_1507 : Cond.code yX12_paid cX12_paid 4 (some .int) ∈ lw_G := lw_Gi 1567 (by decide +kernel) rfl
theorem mw_1506 : Cond.static yX12_paid ∈ lw_G := lw_Gi 1566 (by decide +kernel) rfl
theorem mw_1505 : Cond.methodLink "MilkDeskModel" 285 yX12_paid ∈ lw_G := lw_Gi 1565 (by decide +kernel) rfl
theorem lk_X12_285 : LKS "MilkDeskModel" 285 yX12_paid cX12_paid 4 (some .int) 3 := ⟨mw_1505, mw_1506, mw_12, mw_1507, by decide +kernel, by decide +kernel, by decide +kernel⟩
theorem mw_1180 : Cond.fieldLink "MilkDeskModel" 90 "MilkDeskModel" "comesAgain" "[I" ∈ lw_G := lw_Gi 1240 (by decide +kernel) rfl
theorem fk_X12_90 : FLK "MilkDeskModel" 90 11 39 RX12 TX12 53 := ⟨rfl, Nat.le_of_ble_eq_true rfl, mw_1180, in_wsX120⟩
theorem gr_10_39 (G : Gn) (i : Nat) : GVR G 10 11 39 i (ad G 68 i) := fun _ _ _ => ⟨_, rfl, rfl⟩
theorem ar_68 (G : Gn) : AI G 68 5 := fun _ _ _ _ => rfl
theorem ci_68 {i : Nat} (h : i < 1) : i < cntK 68 := h
theorem mw_1496 : Cond.code yX12_serve cX12_serve 13 none ∈ lw_G := lw_Gi 1556 (by decide +kernel) rfl
theorem mw_1495 : Cond.instanceMethod yX12_serve ∈ lw_G := lw_Gi 1555 (by decide +kernel) rfl
theorem mp_46 : Cond.selects yX12_serve.cls yX12_serve yX12_serve ∈ lw_G := lw_Gi 46 (by decide +kernel) rfl
theorem mw_1493 : Cond.methodLink "MilkDeskModel" 288 yX12_serve ∈ lw_G := lw_Gi 1553 (by decide +kernel) rfl
theorem lk_X12_288 : LKV "MilkDeskModel" 288 yX12_serve.cls yX12_serve cX12_serve 13 none 2 := ⟨mw_1493, mw_1495, mp_46, mw_12, mw_1496, by decide +kernel, by decide +kernel, by decide +kernel⟩
theorem mw_1488 : Cond.code yX12_wrongDays cX12_wrongDays 3 (some .int) ∈ lw_G := lw_Gi 1548 (by decide +kernel) rfl
theorem mw_1487 : Cond.instanceMethod yX12_wrongDays ∈ lw_G := lw_Gi 1547 (by decide +kernel) rfl
theorem mp_44 : Cond.selects yX12_wrongDays.cls yX12_wrongDays yX12_wrongDays ∈ lw_G := lw_Gi 44 (by decide +kernel) rfl
theorem mw_1485 : Cond.methodLink "MilkDeskModel" 292 yX12_wrongDays ∈ lw_G := lw_Gi 1545 (by decide +kernel) rfl
theorem lk_X12_292 : LKV "MilkDeskModel" 292 yX12_wrongDays.cls yX12_wrongDays cX12_wrongDays 3 (some .int) 2 := ⟨mw_1485, mw_1487, mp_44, mw_12, mw_1488, by decide +kernel, by decide +kernel, by decide +kernel⟩
theorem mw_1492 : Cond.code yX12_pass cX12_pass 3 none ∈ lw_G := lw_Gi 1552 (by decide +kernel) rfl
theorem mw_1491 : Cond.instanceMethod yX12_pass ∈ lw_G := lw_Gi 1551 (by decide +kernel) rfl
theorem mp_45 : Cond.selects yX12_pass.cls yX12_pass yX12_pass ∈ lw_G := lw_Gi 45 (by decide +kernel) rfl
theorem mw_1489 : Cond.methodLink "MilkDeskModel" 295 yX12_pass ∈ lw_G := lw_Gi 1549 (by decide +kernel) rfl
theorem lk_X12_295 : LKV "MilkDeskModel" 295 yX12_pass.cls yX12_pass cX12_pass 3 none 0 := ⟨mw_1489, mw_1491, mp_45, mw_12, mw_1492, by decide +kernel, by decide +kernel, by decide +kernel⟩
theorem mw_1160 : Cond.fieldLink "MilkDeskModel" 61 "MilkDeskModel" "lSchool" "[I" ∈ lw_G := lw_Gi 1220 (by decide +kernel) rfl
theorem fk_X12_61 : FLK "MilkDeskModel" 61 11 19 RX12 TX12 53 := ⟨rfl, Nat.le_of_ble_eq_true rfl, mw_1160, in_wsX120⟩
theorem gr_10_19 (G : Gn) (i : Nat) : GVR G 10 11 19 i (ad G 61 i) := fun _ _ _ => ⟨_, rfl, rfl⟩
theorem ar_61 (G : Gn) : AI G 61 30 := fun _ _ _ _ => rfl
theorem ci_61 {i : Nat} (h : i < 1) : i < cntK 61 := h
theorem mw_1161 : Cond.fieldLink "MilkDeskModel" 64 "MilkDeskModel" "lDay" "[I" ∈ lw_G := lw_Gi 1221 (by decide +kernel) rfl
theorem fk_X12_64 : FLK "MilkDeskModel" 64 11 20 RX12 TX12 53 := ⟨rfl, Nat.le_of_ble_eq_true rfl, mw_1161, in_wsX120⟩
theorem gr_10_20 (G : Gn) (i : Nat) : GVR G 10 11 20 i (ad G 62 i) := fun _ _ _ => ⟨_, rfl, rfl⟩
theorem ar_62 (G : Gn) : AI G 62 30 := fun _ _ _ _ => rfl
theorem ci_62 {i : Nat} (h : i < 1) : i < cntK 62 := h
theorem mw_1162 : Cond.fieldLink "MilkDeskModel" 67 "MilkDeskModel" "lReally" "[I" ∈ lw_G := lw_Gi 1222 (by decide +kernel) rfl
theorem fk_X12_67 : FLK "MilkDeskModel" 67 11 21 RX12 TX12 53 := ⟨rfl, Nat.le_of_ble_eq_true rfl, mw_1162, in_wsX120⟩
theorem gr_10_21 (G : Gn) (i : Nat) : GVR G 10 11 21 i (ad G 63 i) := fun _ _ _ => ⟨_, rfl, rfl⟩
theorem ar_63 (G : Gn) : AI G 63 30 := fun _ _ _ _ => rfl
theorem ci_63 {i : Nat} (h : i < 1) : i < cntK 63 := h
theorem mw_1527 : Cond.constant "MilkDeskModel" 298 (-1000000001) ∈ lw_G := lw_Gi 1587 (by decide +kernel) rfl
theorem mw_1528 : Cond.constant "MilkDeskModel" 299 (-1000000004) ∈ lw_G := lw_Gi 1588 (by decide +kernel) rfl
theorem mw_1547 : Cond.code yX12_apart cX12_apart 2 (some .int) ∈ lw_G := lw_Gi 1607 (by decide +kernel) rfl
theorem mw_1546 : Cond.static yX12_apart ∈ lw_G := lw_Gi 1606 (by decide +kernel) rfl
theorem mw_1545 : Cond.methodLink "MilkDeskModel" 300 yX12_apart ∈ lw_G := lw_Gi 1605 (by decide +kernel) rfl
theorem lk_X12_300 : LKS "MilkDeskModel" 300 yX12_apart cX12_apart 2 (some .int) 2 := ⟨mw_1545, mw_1546, mw_12, mw_1547, by decide +kernel, by decide +kernel, by decide +kernel⟩
theorem mw_1185 : Cond.fieldLink "MilkDeskModel" 303 "MilkDeskModel" "stopMany" "I" ∈ lw_G := lw_Gi 1245 (by decide +kernel) rfl
theorem fk_X12_303 : FLK "MilkDeskModel" 303 11 44 RX12 TX12 53 := ⟨rfl, Nat.le_of_ble_eq_true rfl, mw_1185, in_wsX120⟩
theorem gi_10_44 (G : Gn) : GVI G 10 11 44 := fun _ _ _ _ => ⟨_, rfl, rfl⟩
theorem mw_1183 : Cond.fieldLink "MilkDeskModel" 96 "MilkDeskModel" "way" "[I" ∈ lw_G := lw_Gi 1243 (by decide +kernel) rfl
theorem fk_X12_96 : FLK "MilkDeskModel" 96 11 42 RX12 TX12 53 := ⟨rfl, Nat.le_of_ble_eq_true rfl, mw_1183, in_wsX120⟩
theorem gr_10_42 (G : Gn) (i : Nat) : GVR G 10 11 42 i (ad G 70 i) := fun _ _ _ => ⟨_, rfl, rfl⟩
theorem mw_1182 : Cond.fieldLink "MilkDeskModel" 93 "MilkDeskModel" "stops" "[I" ∈ lw_G := lw_Gi 1242 (by decide +kernel) rfl
theorem fk_X12_93 : FLK "MilkDeskModel" 93 11 41 RX12 TX12 53 := ⟨rfl, Nat.le_of_ble_eq_true rfl, mw_1182, in_wsX120⟩
theorem gr_10_41 (G : Gn) (i : Nat) : GVR G 10 11 41 i (ad G 69 i) := fun _ _ _ => ⟨_, rfl, rfl⟩
theorem ar_69 (G : Gn) : AI G 69 7 := fun _ _ _ _ => rfl
theorem ci_69 {i : Nat} (h : i < 1) : i < cntK 69 := h
theorem ar_70 (G : Gn) : AI G 70 7 := fun _ _ _ _ => rfl
theorem ci_70 {i : Nat} (h : i < 1) : i < cntK 70 := h
theorem mw_1544 : Cond.code yX12_farOf cX12_farOf 8 (some .int) ∈ lw_G := lw_Gi 1604 (by decide +kernel) rfl
theorem mw_1543 : Cond.instanceMethod yX12_farOf ∈ lw_G := lw_Gi 1603 (by decide +kernel) rfl
theorem mp_51 : Cond.selects yX12_farOf.cls yX12_farOf yX12_farOf ∈ lw_G := lw_Gi 51 (by decide +kernel) rfl
theorem mw_1541 : Cond.methodLink "MilkDeskModel" 306 yX12_farOf ∈ lw_G := lw_Gi 1601 (by decide +kernel) rfl
theorem lk_X12_306 : LKV "MilkDeskModel" 306 yX12_farOf.cls yX12_farOf cX12_farOf 8 (some .int) 3 := ⟨mw_1541, mw_1543, mp_51, mw_12, mw_1544, by decide +kernel, by decide +kernel, by decide +kernel⟩
theorem mw_1184 : Cond.fieldLink "MilkDeskModel" 99 "MilkDeskModel" "bestWay" "[I" ∈ lw_G := lw_Gi 1244 (by decide +kernel) rfl
theorem fk_X12_99 : FLK "MilkDeskModel" 99 11 43 RX12 TX12 53 := ⟨rfl, Nat.le_of_ble_eq_true rfl, mw_1184, in_wsX120⟩
theorem gr_10_43 (G : Gn) (i : Nat) : GVR G 10 11 43 i (ad G 71 i) := fun _ _ _ => ⟨_, rfl, rfl⟩
theorem ar_71 (G : Gn) : AI G 71 7 := fun _ _ _ _ => rfl
theorem ci_71 {i : Nat} (h : i < 1) : i < cntK 71 := h
theorem pf_X12_44 : parseFieldDescriptor (TX12 44).2.2.1 = some .int := by decide +kernel
theorem pv_10_44 (G : Gn) : PV G 10 11 44 := fun _ _ _ _ _ => ⟨_, rfl, Nat.le_of_ble_eq_true rfl, rfl⟩
theorem mw_1536 : Cond.code yX12_findStops cX12_findStops 5 (some .int) ∈ lw_G := lw_Gi 1596 (by decide +kernel) rfl
theorem mw_1535 : Cond.instanceMethod yX12_findStops ∈ lw_G := lw_Gi 1595 (by decide +kernel) rfl
theorem mp_49 : Cond.selects yX12_findStops.cls yX12_findStops yX12_findStops ∈ lw_G := lw_Gi 49 (by decide +kernel) rfl
theorem mw_1533 : Cond.methodLink "MilkDeskModel" 309 yX12_findStops ∈ lw_G := lw_Gi 1593 (by decide +kernel) rfl
theorem lk_X12_309 : LKV "MilkDeskModel" 309 yX12_findStops.cls yX12_findStops cX12_findStops 5 (some .int) 1 := ⟨mw_1533, mw_1535, mp_49, mw_12, mw_1536, by decide +kernel, by decide +kernel, by decide +kernel⟩
theorem mw_1540 : Cond.code yX12_findRound cX12_findRound 12 (some .int) ∈ lw_G := lw_Gi 1600 (by decide +kernel) rfl
theorem mw_1539 : Cond.instanceMethod yX12_findRound ∈ lw_G := lw_Gi 1599 (by decide +kernel) rfl
theorem mp_50 : Cond.selects yX12_findRound.cls yX12_findRound yX12_findRound ∈ lw_G := lw_Gi 50 (by decide +kernel) rfl
theorem mw_1537 : Cond.methodLink "MilkDeskModel" 312 yX12_findRound ∈ lw_G := lw_Gi 1597 (by decide +kernel) rfl
theorem lk_X12_312 : LKV "MilkDeskModel" 312 yX12_findRound.cls yX12_findRound cX12_findRound 12 (some .int) 2 := ⟨mw_1537, mw_1539, mp_50, mw_12, mw_1540, by decide +kernel, by decide +kernel, by decide +kernel⟩
theorem ks_320 : (Int16.ofInt 320).toInt32 = (320 : Int32) := by decide +kernel
theorem mw_1144 : Cond.fieldLink "MilkDeskModel" 16 "MilkDeskModel" "kept" "[I" ∈ lw_G := lw_Gi 1204 (by decide +kernel) rfl
theorem fk_X12_16 : FLK "MilkDeskModel" 16 11 3 RX12 TX12 53 := ⟨rfl, Nat.le_of_ble_eq_true rfl, mw_1144, in_wsX120⟩
theorem gr_10_3 (G : Gn) (i : Nat) : GVR G 10 11 3 i (ad G 46 i) := fun _ _ _ => ⟨_, rfl, rfl⟩
theorem ar_46 (G : Gn) : AI G 46 320 := fun _ _ _ _ => rfl
theorem ci_46 {i : Nat} (h : i < 1) : i < cntK 46 := h
theorem mw_1563 : Cond.code yX12_begin cX12_begin 2 none ∈ lw_G := lw_Gi 1623 (by decide +kernel) rfl
theorem mw_1562 : Cond.instanceMethod yX12_begin ∈ lw_G := lw_Gi 1622 (by decide +kernel) rfl
theorem mp_53 : Cond.selects yX12_begin.cls yX12_begin yX12_begin ∈ lw_G := lw_Gi 53 (by decide +kernel) rfl
theorem mw_1560 : Cond.methodLink "MilkDeskModel" 315 yX12_begin ∈ lw_G := lw_Gi 1620 (by decide +kernel) rfl
theorem lk_X12_315 : LKV "MilkDeskModel" 315 yX12_begin.cls yX12_begin cX12_begin 2 none 0 := ⟨mw_1560, mw_1562, mp_53, mw_12, mw_1563, by decide +kernel, by decide +kernel, by decide +kernel⟩
theorem mw_1567 : Cond.code yX12_comeBack cX12_comeBack 2 none ∈ lw_G := lw_Gi 1627 (by decide +kernel) rfl
theorem mw_1566 : Cond.instanceMethod yX12_comeBack ∈ lw_G := lw_Gi 1626 (by decide +kernel) rfl
theorem mp_54 : Cond.selects yX12_comeBack.cls yX12_comeBack yX12_comeBack ∈ lw_G := lw_Gi 54 (by decide +kernel) rfl
theorem mw_1564 : Cond.methodLink "MilkDeskModel" 318 yX12_comeBack ∈ lw_G := lw_Gi 1624 (by decide +kernel) rfl
theorem lk_X12_318 : LKV "MilkDeskModel" 318 yX12_comeBack.cls yX12_comeBack cX12_comeBack 2 none 0 := ⟨mw_1564, mw_1566, mp_54, mw_12, mw_1567, by decide +kernel, by decide +kernel, by decide +kernel⟩
theorem mw_1559 : Cond.code yX12_isEnough cX12_isEnough 6 (some .boolean) ∈ lw_G := lw_Gi 1619 (by decide +kernel) rfl
theorem mw_1558 : Cond.instanceMethod yX12_isEnough ∈ lw_G := lw_Gi 1618 (by decide +kernel) rfl
theorem mp_52 : Cond.selects yX12_isEnough.cls yX12_isEnough yX12_isEnough ∈ lw_G := lw_Gi 52 (by decide +kernel) rfl
theorem mw_1556 : Cond.methodLink "MilkDeskModel" 321 yX12_isEnough ∈ lw_G := lw_Gi 1616 (by decide +kernel) rfl
theorem lk_X12_321 : LKV "MilkDeskModel" 321 yX12_isEnough.cls yX12_isEnough cX12_isEnough 6 (some .boolean) 3 := ⟨mw_1556, mw_1558, mp_52, mw_12, mw_1559, by decide +kernel, by decide +kernel, by decide +kernel⟩
theorem mw_1574 : Cond.code yX12_isPermutation cX12_isPermutation 3 (some .boolean) ∈ lw_G := lw_Gi 1634 (by decide +kernel) rfl
theorem mw_1573 : Cond.static yX12_isPermutation ∈ lw_G := lw_Gi 1633 (by decide +kernel) rfl
theorem mw_1572 : Cond.methodLink "MilkDeskModel" 324 yX12_isPermutation ∈ lw_G := lw_Gi 1632 (by decide +kernel) rfl
theorem lk_X12_324 : LKS "MilkDeskModel" 324 yX12_isPermutation cX12_isPermutation 3 (some .boolean) 1 := ⟨mw_1572, mw_1573, mw_12, mw_1574, by decide +kernel, by decide +kernel, by decide +kernel⟩
theorem pf_X12_22 : parseFieldDescriptor (TX12 22).2.2.1 = some .int := by decide +kernel
theorem pv_10_22 (G : Gn) : PV G 10 11 22 := fun _ _ _ _ _ => ⟨_, rfl, Nat.le_of_ble_eq_true rfl, rfl⟩
theorem mw_1579 : Cond.constant "MilkDeskModel" 327 (-1000000002) ∈ lw_G := lw_Gi 1639 (by decide +kernel) rfl
theorem mw_1583 : Cond.code yX12_sumAhead cX12_sumAhead 6 (some .int) ∈ lw_G := lw_Gi 1643 (by decide +kernel) rfl
theorem mw_1582 : Cond.instanceMethod yX12_sumAhead ∈ lw_G := lw_Gi 1642 (by decide +kernel) rfl
theorem mp_55 : Cond.selects yX12_sumAhead.cls yX12_sumAhead yX12_sumAhead ∈ lw_G := lw_Gi 55 (by decide +kernel) rfl
theorem mw_1580 : Cond.methodLink "MilkDeskModel" 328 yX12_sumAhead ∈ lw_G := lw_Gi 1640 (by decide +kernel) rfl
theorem lk_X12_328 : LKV "MilkDeskModel" 328 yX12_sumAhead.cls yX12_sumAhead cX12_sumAhead 6 (some .int) 3 := ⟨mw_1580, mw_1582, mp_55, mw_12, mw_1583, by decide +kernel, by decide +kernel, by decide +kernel⟩
theorem mw_1588 : Cond.constant "MilkDeskModel" 331 (-1000000000) ∈ lw_G := lw_Gi 1648 (by decide +kernel) rfl
theorem mw_1592 : Cond.code yX12_markOf cX12_markOf 3 (some .int) ∈ lw_G := lw_Gi 1652 (by decide +kernel) rfl
theorem mw_1591 : Cond.instanceMethod yX12_markOf ∈ lw_G := lw_Gi 1651 (by decide +kernel) rfl
theorem mp_56 : Cond.selects yX12_markOf.cls yX12_markOf yX12_markOf ∈ lw_G := lw_Gi 56 (by decide +kernel) rfl
theorem mw_1589 : Cond.methodLink "MilkDeskModel" 332 yX12_markOf ∈ lw_G := lw_Gi 1649 (by decide +kernel) rfl
theorem lk_X12_332 : LKV "MilkDeskModel" 332 yX12_markOf.cls yX12_markOf cX12_markOf 3 (some .int) 2 := ⟨mw_1589, mw_1591, mp_56, mw_12, mw_1592, by decide +kernel, by decide +kernel, by decide +kernel⟩
theorem mw_1145 : Cond.fieldLink "MilkDeskModel" 335 "MilkDeskModel" "hasImage" "Z" ∈ lw_G := lw_Gi 1205 (by decide +kernel) rfl
theorem fk_X12_335 : FLK "MilkDeskModel" 335 11 4 RX12 TX12 53 := ⟨rfl, Nat.le_of_ble_eq_true rfl, mw_1145, in_wsX120⟩
theorem pf_X12_4 : parseFieldDescriptor (TX12 4).2.2.1 = some .boolean := by decide +kernel
theorem pv_10_4 (G : Gn) : PV G 10 11 4 := fun _ _ _ _ _ => ⟨_, rfl, Nat.le_of_ble_eq_true rfl, rfl⟩
theorem mw_1143 : Cond.fieldLink "MilkDeskModel" 13 "MilkDeskModel" "imaged" "[I" ∈ lw_G := lw_Gi 1203 (by decide +kernel) rfl
theorem fk_X12_13 : FLK "MilkDeskModel" 13 11 2 RX12 TX12 53 := ⟨rfl, Nat.le_of_ble_eq_true rfl, mw_1143, in_wsX120⟩
theorem gr_10_2 (G : Gn) (i : Nat) : GVR G 10 11 2 i (ad G 45 i) := fun _ _ _ => ⟨_, rfl, rfl⟩
theorem ar_45 (G : Gn) : AI G 45 320 := fun _ _ _ _ => rfl
theorem ci_45 {i : Nat} (h : i < 1) : i < cntK 45 := h
theorem gi_10_4 (G : Gn) : GVI G 10 11 4 := fun _ _ _ _ => ⟨_, rfl, rfl⟩
theorem mw_1608 : Cond.code yX12_allOf cX12_allOf 4 (some .int) ∈ lw_G := lw_Gi 1668 (by decide +kernel) rfl
theorem mw_1607 : Cond.instanceMethod yX12_allOf ∈ lw_G := lw_Gi 1667 (by decide +kernel) rfl
theorem mp_57 : Cond.selects yX12_allOf.cls yX12_allOf yX12_allOf ∈ lw_G := lw_Gi 57 (by decide +kernel) rfl
theorem mw_1605 : Cond.methodLink "MilkDeskModel" 338 yX12_allOf ∈ lw_G := lw_Gi 1665 (by decide +kernel) rfl
theorem lk_X12_338 : LKV "MilkDeskModel" 338 yX12_allOf.cls yX12_allOf cX12_allOf 4 (some .int) 1 := ⟨mw_1605, mw_1607, mp_57, mw_12, mw_1608, by decide +kernel, by decide +kernel, by decide +kernel⟩
theorem mw_1187 : Cond.fieldLink "MilkDeskModel" 105 "MilkDeskModel" "crateKind" "[I" ∈ lw_G := lw_Gi 1247 (by decide +kernel) rfl
theorem fk_X12_105 : FLK "MilkDeskModel" 105 11 46 RX12 TX12 53 := ⟨rfl, Nat.le_of_ble_eq_true rfl, mw_1187, in_wsX120⟩
theorem gr_10_46 (G : Gn) (i : Nat) : GVR G 10 11 46 i (ad G 73 i) := fun _ _ _ => ⟨_, rfl, rfl⟩
theorem ar_73 (G : Gn) : AI G 73 8 := fun _ _ _ _ => rfl
theorem ci_73 {i : Nat} (h : i < 1) : i < cntK 73 := h
theorem mw_1188 : Cond.fieldLink "MilkDeskModel" 108 "MilkDeskModel" "crateMany" "[I" ∈ lw_G := lw_Gi 1248 (by decide +kernel) rfl
theorem fk_X12_108 : FLK "MilkDeskModel" 108 11 47 RX12 TX12 53 := ⟨rfl, Nat.le_of_ble_eq_true rfl, mw_1188, in_wsX120⟩
theorem gr_10_47 (G : Gn) (i : Nat) : GVR G 10 11 47 i (ad G 74 i) := fun _ _ _ => ⟨_, rfl, rfl⟩
theorem ar_74 (G : Gn) : AI G 74 8 := fun _ _ _ _ => rfl
theorem ci_74 {i : Nat} (h : i < 1) : i < cntK 74 := h
theorem mw_1189 : Cond.fieldLink "MilkDeskModel" 111 "MilkDeskModel" "crateSchool" "[I" ∈ lw_G := lw_Gi 1249 (by decide +kernel) rfl
theorem fk_X12_111 : FLK "MilkDeskModel" 111 11 48 RX12 TX12 53 := ⟨rfl, Nat.le_of_ble_eq_true rfl, mw_1189, in_wsX120⟩
theorem gr_10_48 (G : Gn) (i : Nat) : GVR G 10 11 48 i (ad G 75 i) := fun _ _ _ => ⟨_, rfl, rfl⟩
theorem ar_75 (G : Gn) : AI G 75 8 := fun _ _ _ _ => rfl
theorem ci_75 {i : Nat} (h : i < 1) : i < cntK 75 := h
theorem mw_1624 : Cond.code yX12_wrongRow cX12_wrongRow 2 (some .int) ∈ lw_G := lw_Gi 1684 (by decide +kernel) rfl
theorem mw_1623 : Cond.instanceMethod yX12_wrongRow ∈ lw_G := lw_Gi 1683 (by decide +kernel) rfl
theorem mp_58 : Cond.selects yX12_wrongRow.cls yX12_wrongRow yX12_wrongRow ∈ lw_G := lw_Gi 58 (by decide +kernel) rfl
theorem mw_1621 : Cond.methodLink "MilkDeskModel" 341 yX12_wrongRow ∈ lw_G := lw_Gi 1681 (by decide +kernel) rfl
theorem lk_X12_341 : LKV "MilkDeskModel" 341 yX12_wrongRow.cls yX12_wrongRow cX12_wrongRow 2 (some .int) 1 := ⟨mw_1621, mw_1623, mp_58, mw_12, mw_1624, by decide +kernel, by decide +kernel, by decide +kernel⟩
theorem mw_1627 : Cond.code yX12_narrowed cX12_narrowed 2 (some .long) ∈ lw_G := lw_Gi 1687 (by decide +kernel) rfl
theorem mw_1626 : Cond.static yX12_narrowed ∈ lw_G := lw_Gi 1686 (by decide +kernel) rfl
theorem mw_1625 : Cond.methodLink "MilkDeskModel" 344 yX12_narrowed ∈ lw_G := lw_Gi 1685 (by decide +kernel) rfl
theorem lk_X12_344 : LKS "MilkDeskModel" 344 yX12_narrowed cX12_narrowed 2 (some .long) 2 := ⟨mw_1625, mw_1626, mw_12, mw_1627, by decide +kernel, by decide +kernel, by decide +kernel⟩
theorem mw_1193 : Cond.fieldLink "MilkDeskModel" 124 "MilkDeskModel" "between" "[J" ∈ lw_G := lw_Gi 1253 (by decide +kernel) rfl
theorem fk_X12_124 : FLK "MilkDeskModel" 124 11 52 RX12 TX12 53 := ⟨rfl, Nat.le_of_ble_eq_true rfl, mw_1193, in_wsX120⟩
theorem gr_10_52 (G : Gn) (i : Nat) : GVR G 10 11 52 i (ad G 79 i) := fun _ _ _ => ⟨_, rfl, rfl⟩
theorem ar_79 (G : Gn) : AJ G 79 80 := fun _ _ _ _ => rfl
theorem ci_79 {i : Nat} (h : i < 1) : i < cntK 79 := h
theorem mw_1643 : Cond.code yX12_wrongShelf cX12_wrongShelf 2 (some .int) ∈ lw_G := lw_Gi 1703 (by decide +kernel) rfl
theorem mw_1642 : Cond.instanceMethod yX12_wrongShelf ∈ lw_G := lw_Gi 1702 (by decide +kernel) rfl
theorem mp_59 : Cond.selects yX12_wrongShelf.cls yX12_wrongShelf yX12_wrongShelf ∈ lw_G := lw_Gi 59 (by decide +kernel) rfl
theorem mw_1640 : Cond.methodLink "MilkDeskModel" 348 yX12_wrongShelf ∈ lw_G := lw_Gi 1700 (by decide +kernel) rfl
theorem lk_X12_348 : LKV "MilkDeskModel" 348 yX12_wrongShelf.cls yX12_wrongShelf cX12_wrongShelf 2 (some .int) 1 := ⟨mw_1640, mw_1642, mp_59, mw_12, mw_1643, by decide +kernel, by decide +kernel, by decide +kernel⟩
theorem kb_m15 : (Int8.ofInt (-15)).toInt32 = (-15 : Int32) := by decide +kernel
