theorem ks_10000 : (Int16.ofInt 10000).toInt32 = (10000 : Int32) := by decide +kernel
theorem ar_13 (G : Gn) : AI G 13 10 := fun _ _ _ _ => rfl
theorem ci_13 {i : Nat} (h : i < 3) : i < cntK 13 := h
theorem al_10 : Int32.ofNat 10 = (10 : Int32) := by decide +kernel
theorem ki_0 : Int32.ofInt 0 = (0 : Int32) := by decide +kernel
theorem ki_1 : Int32.ofInt 1 = (1 : Int32) := by decide +kernel
theorem mw_654 : Cond.fieldLink "MilkDesk$Act" 28 "MilkDesk$Act" "steps" "[I" ∈ lw_G := lw_Gi 714 (by decide +kernel) rfl
theorem fk_X0_28 : FLK "MilkDesk$Act" 28 0 3 RX0 TX0 4 := ⟨rfl, Nat.le_of_ble_eq_true rfl, mw_654, in_wsX00⟩
theorem ar_14 (G : Gn) : AI G 14 80 := fun _ _ _ _ => rfl
theorem ci_14 {i : Nat} (h : i < 3) : i < cntK 14 := h
theorem kn_0 : (0 : Int32).toNatClampNeg = 0 ∧ ¬ (0 : Int32) < 0 := by decide +kernel
theorem al_80 : Int32.ofNat 80 = (80 : Int32) := by decide +kernel
theorem mw_728 : Cond.code yX0_valueOf cX0_valueOf 3 (some .int) ∈ lw_G := lw_Gi 788 (by decide +kernel) rfl
theorem mw_18 : Cond.initialized yX0_valueOf.cls ∈ lw_G := lw_Gi 78 (by decide +kernel) rfl
theorem mw_727 : Cond.static yX0_valueOf ∈ lw_G := lw_Gi 787 (by decide +kernel) rfl
theorem mw_726 : Cond.methodLink "MilkDesk$Act" 38 yX0_valueOf ∈ lw_G := lw_Gi 786 (by decide +kernel) rfl
theorem lk_X0_38 : LKS "MilkDesk$Act" 38 yX0_valueOf cX0_valueOf 3 (some .int) 2 := ⟨mw_726, mw_727, mw_18, mw_728, by decide +kernel, by decide +kernel, by decide +kernel⟩
theorem kb_m33 : (Int8.ofInt (-33)).toInt32 = (-33 : Int32) := by decide +kernel
theorem ki_2 : Int32.ofInt 2 = (2 : Int32) := by decide +kernel
theorem ki_m1 : Int32.ofInt (-1) = (-1 : Int32) := by decide +kernel
theorem mw_731 : Cond.code yX0_joined cX0_joined 3 (some .int) ∈ lw_G := lw_Gi 791 (by decide +kernel) rfl
theorem mw_730 : Cond.static yX0_joined ∈ lw_G := lw_Gi 790 (by decide +kernel) rfl
theorem mw_729 : Cond.methodLink "MilkDesk$Act" 42 yX0_joined ∈ lw_G := lw_Gi 789 (by decide +kernel) rfl
theorem lk_X0_42 : LKS "MilkDesk$Act" 42 yX0_joined cX0_joined 3 (some .int) 3 := ⟨mw_729, mw_730, mw_18, mw_731, by decide +kernel, by decide +kernel, by decide +kernel⟩
theorem mw_164 : Cond.fieldLink "MilkDesk$ActBook" 21 "MilkDesk$ActBook" "count" "I" ∈ lw_G := lw_Gi 224 (by decide +kernel) rfl
theorem fk_X1_21 : FLK "MilkDesk$ActBook" 21 1 0 RX1 TX1 3 := ⟨rfl, Nat.le_of_ble_eq_true rfl, mw_164, in_wsX10⟩
theorem gi_5_0 (G : Gn) : GVI G 5 1 0 := fun _ _ _ _ => ⟨_, rfl, rfl⟩
theorem ci_5 {i : Nat} (h : i < 3) : i < cntK 5 := h
theorem mw_167 : Cond.fieldLink "MilkDesk$ActBook" 11 "MilkDesk$ActBook" "told" "[LMilkDesk$Act;" ∈ lw_G := lw_Gi 227 (by decide +kernel) rfl
theorem fk_X1_11 : FLK "MilkDesk$ActBook" 11 1 1 RX1 TX1 3 := ⟨rfl, Nat.le_of_ble_eq_true rfl, mw_167, in_wsX10⟩
theorem gr_5_1 (G : Gn) (i : Nat) : GVR G 5 1 1 i (ad G 34 i) := fun _ _ _ => ⟨_, rfl, rfl⟩
theorem mw_168 : Cond.fieldLink "MilkDesk$ActBook" 17 "MilkDesk$ActBook" "struck" "[I" ∈ lw_G := lw_Gi 228 (by decide +kernel) rfl
theorem fk_X1_17 : FLK "MilkDesk$ActBook" 17 1 2 RX1 TX1 3 := ⟨rfl, Nat.le_of_ble_eq_true rfl, mw_168, in_wsX10⟩
theorem gr_5_2 (G : Gn) (i : Nat) : GVR G 5 1 2 i (ad G 35 i) := fun _ _ _ => ⟨_, rfl, rfl⟩
theorem ks_401 : (Int16.ofInt 401).toInt32 = (401 : Int32) := by decide +kernel
theorem ar_35 (G : Gn) : AI G 35 16 := fun _ _ _ _ => rfl
theorem ci_35 {i : Nat} (h : i < 3) : i < cntK 35 := h
theorem pf_X1_0 : parseFieldDescriptor (TX1 0).2.2.1 = some .int := by decide +kernel
theorem pv_5_0 (G : Gn) : PV G 5 1 0 := fun _ _ _ _ _ => ⟨_, rfl, Nat.le_of_ble_eq_true rfl, rfl⟩
theorem mw_675 : Cond.code yX1_has cX1_has 2 (some .boolean) ∈ lw_G := lw_Gi 735 (by decide +kernel) rfl
theorem mw_6 : Cond.initialized yX1_has.cls ∈ lw_G := lw_Gi 66 (by decide +kernel) rfl
theorem mw_673 : Cond.instanceMethod yX1_has ∈ lw_G := lw_Gi 733 (by decide +kernel) rfl
theorem mw_674 : Cond.selects yX1_has.cls yX1_has yX1_has ∈ lw_G := lw_Gi 734 (by decide +kernel) rfl
theorem mw_692 : Cond.methodLink "MilkDesk$ActBook" 25 yX1_has ∈ lw_G := lw_Gi 752 (by decide +kernel) rfl
theorem lk_X1_25 : LKV "MilkDesk$ActBook" 25 yX1_has.cls yX1_has cX1_has 2 (some .boolean) 1 := ⟨mw_692, mw_673, mw_674, mw_6, mw_675, by decide +kernel, by decide +kernel, by decide +kernel⟩
theorem rc_5 (G : Gn) : ∀ w i r q, ∃ fs, Esh G w 5 i r q = .inr (1, fs) := fun _ _ _ _ => ⟨_, rfl⟩
theorem mw_725 : Cond.code yX0_isMet cX0_isMet 6 (some .boolean) ∈ lw_G := lw_Gi 785 (by decide +kernel) rfl
theorem mw_723 : Cond.instanceMethod yX0_isMet ∈ lw_G := lw_Gi 783 (by decide +kernel) rfl
theorem mw_724 : Cond.selects yX0_isMet.cls yX0_isMet yX0_isMet ∈ lw_G := lw_Gi 784 (by decide +kernel) rfl
theorem mw_722 : Cond.methodLink "MilkDesk$ActBook" 29 yX0_isMet ∈ lw_G := lw_Gi 782 (by decide +kernel) rfl
theorem lk_X1_29 : LKV "MilkDesk$ActBook" 29 yX0_isMet.cls yX0_isMet cX0_isMet 6 (some .boolean) 2 := ⟨mw_722, mw_723, mw_724, mw_18, mw_725, by decide +kernel, by decide +kernel, by decide +kernel⟩
theorem mw_649 : Cond.fieldLink "MilkDesk$ActBook" 33 "MilkDesk$Act" "purpose" "I" ∈ lw_G := lw_Gi 709 (by decide +kernel) rfl
theorem fk_X1_33 : FLK "MilkDesk$ActBook" 33 0 0 RX0 TX0 4 := ⟨rfl, Nat.le_of_ble_eq_true rfl, mw_649, in_wsX00⟩
theorem mw_651 : Cond.fieldLink "MilkDesk$ActBook" 36 "MilkDesk$Act" "shire" "I" ∈ lw_G := lw_Gi 711 (by decide +kernel) rfl
theorem fk_X1_36 : FLK "MilkDesk$ActBook" 36 0 1 RX0 TX0 4 := ⟨rfl, Nat.le_of_ble_eq_true rfl, mw_651, in_wsX00⟩
theorem mw_653 : Cond.fieldLink "MilkDesk$ActBook" 39 "MilkDesk$Act" "from" "I" ∈ lw_G := lw_Gi 713 (by decide +kernel) rfl
theorem fk_X1_39 : FLK "MilkDesk$ActBook" 39 0 2 RX0 TX0 4 := ⟨rfl, Nat.le_of_ble_eq_true rfl, mw_653, in_wsX00⟩
theorem mw_691 : Cond.code yX1_couldBeInForce cX1_couldBeInForce 6 (some .boolean) ∈ lw_G := lw_Gi 751 (by decide +kernel) rfl
theorem mw_689 : Cond.instanceMethod yX1_couldBeInForce ∈ lw_G := lw_Gi 749 (by decide +kernel) rfl
theorem mw_690 : Cond.selects yX1_couldBeInForce.cls yX1_couldBeInForce yX1_couldBeInForce ∈ lw_G := lw_Gi 750 (by decide +kernel) rfl
theorem mw_688 : Cond.methodLink "MilkDesk$ActBook" 42 yX1_couldBeInForce ∈ lw_G := lw_Gi 748 (by decide +kernel) rfl
theorem lk_X1_42 : LKV "MilkDesk$ActBook" 42 yX1_couldBeInForce.cls yX1_couldBeInForce cX1_couldBeInForce 6 (some .boolean) 4 := ⟨mw_688, mw_689, mw_690, mw_6, mw_691, by decide +kernel, by decide +kernel, by decide +kernel⟩
theorem mw_818 : Cond.methodLink "MilkDesk" 194 Lib.Math.min.name ∈ lw_G := lw_Gi 878 (by decide +kernel) rfl
theorem mw_473 : Cond.static Lib.Math.min.name ∈ lw_G := lw_Gi 533 (by decide +kernel) rfl
theorem mw_13 : Cond.initialized "java/lang/Math" ∈ lw_G := lw_Gi 73 (by decide +kernel) rfl
theorem mw_474 : Cond.code Lib.Math.min.name Lib.Math.min.code 2 (some .int) ∈ lw_G := lw_Gi 534 (by decide +kernel) rfl
theorem mw_848 : Cond.methodLink "MilkDesk" 311 arraycopyName ∈ lw_G := lw_Gi 908 (by decide +kernel) rfl
theorem mw_646 : Cond.static arraycopyName ∈ lw_G := lw_Gi 706 (by decide +kernel) rfl
theorem mw_19 : Cond.initialized "java/lang/System" ∈ lw_G := lw_Gi 79 (by decide +kernel) rfl
theorem mw_647 : Cond.native arraycopyName ∈ lw_G := lw_Gi 707 (by decide +kernel) rfl
theorem kb_16 : (Int8.ofInt 16).toInt32 = (16 : Int32) := by decide +kernel
theorem mw_847 : Cond.code yX11_copyAll cX11_copyAll 2 none ∈ lw_G := lw_Gi 907 (by decide +kernel) rfl
theorem mw_1 : Cond.initialized yX11_copyAll.cls ∈ lw_G := lw_Gi 61 (by decide +kernel) rfl
theorem mw_846 : Cond.static yX11_copyAll ∈ lw_G := lw_Gi 906 (by decide +kernel) rfl
theorem mt_894 : Cond.methodLinkNest "MilkDesk$ActBook" 46 yX11_copyAll "MilkDesk" ∈ lw_tbl := List.mem_of_getElem? (i := 954) (by decide +kernel)
theorem lk_X1_46 : LKN "MilkDesk$ActBook" 46 "MilkDesk" yX11_copyAll cX11_copyAll 2 none 2 := ⟨mt_894, mw_846, mw_1, mw_847, by decide +kernel, by decide +kernel, by decide +kernel⟩
theorem mw_263 : Cond.fieldLink "MilkDesk$ActReader" 34 "MilkDesk$ActReader" "at" "I" ∈ lw_G := lw_Gi 323 (by decide +kernel) rfl
theorem fk_X2_34 : FLK "MilkDesk$ActReader" 34 2 5 RX2 TX2 7 := ⟨rfl, Nat.le_of_ble_eq_true rfl, mw_263, in_wsX20⟩
theorem gi_8_5 (G : Gn) : GVI G 8 2 5 := fun _ _ _ _ => ⟨_, rfl, rfl⟩
theorem ci_8 {i : Nat} (h : i < 1) : i < cntK 8 := h
theorem ks_m1000 : (Int16.ofInt (-1000)).toInt32 = (-1000 : Int32) := by decide +kernel
theorem mw_262 : Cond.fieldLink "MilkDesk$ActReader" 33 "MilkDesk$ActReader" "size" "I" ∈ lw_G := lw_Gi 322 (by decide +kernel) rfl
theorem fk_X2_33 : FLK "MilkDesk$ActReader" 33 2 4 RX2 TX2 7 := ⟨rfl, Nat.le_of_ble_eq_true rfl, mw_262, in_wsX20⟩
theorem gi_8_4 (G : Gn) : GVI G 8 2 4 := fun _ _ _ _ => ⟨_, rfl, rfl⟩
theorem mw_261 : Cond.fieldLink "MilkDesk$ActReader" 15 "MilkDesk$ActReader" "text" "[I" ∈ lw_G := lw_Gi 321 (by decide +kernel) rfl
theorem fk_X2_15 : FLK "MilkDesk$ActReader" 15 2 3 RX2 TX2 7 := ⟨rfl, Nat.le_of_ble_eq_true rfl, mw_261, in_wsX20⟩
theorem ar_39 (G : Gn) : AI G 39 80 := fun _ _ _ _ => rfl
theorem ci_39 {i : Nat} (h : i < 8) : i < cntK 39 := h
theorem mw_264 : Cond.fieldLink "MilkDesk$ActReader" 37 "MilkDesk$ActReader" "fault" "I" ∈ lw_G := lw_Gi 324 (by decide +kernel) rfl
theorem fk_X2_37 : FLK "MilkDesk$ActReader" 37 2 6 RX2 TX2 7 := ⟨rfl, Nat.le_of_ble_eq_true rfl, mw_264, in_wsX20⟩
theorem gi_8_6 (G : Gn) : GVI G 8 2 6 := fun _ _ _ _ => ⟨_, rfl, rfl⟩
theorem pf_X2_6 : parseFieldDescriptor (TX2 6).2.2.1 = some .int := by decide +kernel
theorem pv_8_6 (G : Gn) : PV G 8 2 6 := fun _ _ _ _ _ => ⟨_, rfl, Nat.le_of_ble_eq_true rfl, rfl⟩
theorem mw_501 : Cond.code yX2_here cX2_here 1 (some .int) ∈ lw_G := lw_Gi 561 (by decide +kernel) rfl
theorem mw_9 : Cond.initialized yX2_here.cls ∈ lw_G := lw_Gi 69 (by decide +kernel) rfl
theorem mw_500 : Cond.instanceMethod yX2_here ∈ lw_G := lw_Gi 560 (by decide +kernel) rfl
theorem mp_2 : Cond.selects yX2_here.cls yX2_here yX2_here ∈ lw_G := lw_Gi 2 (by decide +kernel) rfl
theorem mw_498 : Cond.methodLink "MilkDesk$ActReader" 43 yX2_here ∈ lw_G := lw_Gi 558 (by decide +kernel) rfl
theorem lk_X2_43 : LKV "MilkDesk$ActReader" 43 yX2_here.cls yX2_here cX2_here 1 (some .int) 0 := ⟨mw_498, mw_500, mp_2, mw_9, mw_501, by decide +kernel, by decide +kernel, by decide +kernel⟩
theorem rc_8 (G : Gn) : ∀ w i r q, ∃ fs, Esh G w 8 i r q = .inr (2, fs) := fun _ _ _ _ => ⟨_, rfl⟩
theorem pf_X2_5 : parseFieldDescriptor (TX2 5).2.2.1 = some .int := by decide +kernel
theorem pv_8_5 (G : Gn) : PV G 8 2 5 := fun _ _ _ _ _ => ⟨_, rfl, Nat.le_of_ble_eq_true rfl, rfl⟩
theorem mw_586 : Cond.code yX2_fail cX2_fail 1 none ∈ lw_G := lw_Gi 646 (by decide +kernel) rfl
theorem mw_585 : Cond.instanceMethod yX2_fail ∈ lw_G := lw_Gi 645 (by decide +kernel) rfl
theorem mp_4 : Cond.selects yX2_fail.cls yX2_fail yX2_fail ∈ lw_G := lw_Gi 4 (by decide +kernel) rfl
theorem mw_583 : Cond.methodLink "MilkDesk$ActReader" 77 yX2_fail ∈ lw_G := lw_Gi 643 (by decide +kernel) rfl
theorem lk_X2_77 : LKV "MilkDesk$ActReader" 77 yX2_fail.cls yX2_fail cX2_fail 1 none 0 := ⟨mw_583, mw_585, mp_4, mw_9, mw_586, by decide +kernel, by decide +kernel, by decide +kernel⟩
theorem kb_48 : (Int8.ofInt 48).toInt32 = (48 : Int32) := by decide +kernel
theorem kb_57 : (Int8.ofInt 57).toInt32 = (57 : Int32) := by decide +kernel
theorem mw_259 : Cond.fieldLink "MilkDesk$ActReader" 40 "MilkDesk$ActReader" "length" "I" ∈ lw_G := lw_Gi 319 (by decide +kernel) rfl
theorem fk_X2_40 : FLK "MilkDesk$ActReader" 40 2 1 RX2 TX2 7 := ⟨rfl, Nat.le_of_ble_eq_true rfl, mw_259, in_wsX20⟩
theorem gi_8_1 (G : Gn) : GVI G 8 2 1 := fun _ _ _ _ => ⟨_, rfl, rfl⟩
theorem mw_258 : Cond.fieldLink "MilkDesk$ActReader" 9 "MilkDesk$ActReader" "steps" "[I" ∈ lw_G := lw_Gi 318 (by decide +kernel) rfl
theorem fk_X2_9 : FLK "MilkDesk$ActReader" 9 2 0 RX2 TX2 7 := ⟨rfl, Nat.le_of_ble_eq_true rfl, mw_258, in_wsX20⟩
theorem gr_8_0 (G : Gn) (i : Nat) : GVR G 8 2 0 i (ad G 40 i) := fun _ _ _ => ⟨_, rfl, rfl⟩
theorem ar_40 (G : Gn) : AI G 40 80 := fun _ _ _ _ => rfl
theorem ci_40 {i : Nat} (h : i < 1) : i < cntK 40 := h
theorem pf_X2_1 : parseFieldDescriptor (TX2 1).2.2.1 = some .int := by decide +kernel
theorem pv_8_1 (G : Gn) : PV G 8 2 1 := fun _ _ _ _ _ => ⟨_, rfl, Nat.le_of_ble_eq_true rfl, rfl⟩
theorem ki_4 : Int32.ofInt 4 = (4 : Int32) := by decide +kernel
theorem mw_618 : Cond.code yX2_isDigit cX2_isDigit 1 (some .boolean) ∈ lw_G := lw_Gi 678 (by decide +kernel) rfl
theorem mw_617 : Cond.static yX2_isDigit ∈ lw_G := lw_Gi 677 (by decide +kernel) rfl
theorem mw_616 : Cond.methodLink "MilkDesk$ActReader" 104 yX2_isDigit ∈ lw_G := lw_Gi 676 (by decide +kernel) rfl
theorem lk_X2_104 : LKS "MilkDesk$ActReader" 104 yX2_isDigit cX2_isDigit 1 (some .boolean) 1 := ⟨mw_616, mw_617, mw_9, mw_618, by decide +kernel, by decide +kernel, by decide +kernel⟩
theorem kb_10 : (Int8.ofInt 10).toInt32 = (10 : Int32) := by decide +kernel
theorem mw_626 : Cond.code yX2_addStep cX2_addStep 2 none ∈ lw_G := lw_Gi 686 (by decide +kernel) rfl
theorem mw_625 : Cond.instanceMethod yX2_addStep ∈ lw_G := lw_Gi 685 (by decide +kernel) rfl
theorem mp_13 : Cond.selects yX2_addStep.cls yX2_addStep yX2_addStep ∈ lw_G := lw_Gi 13 (by decide +kernel) rfl
theorem mw_623 : Cond.methodLink "MilkDesk$ActReader" 63 yX2_addStep ∈ lw_G := lw_Gi 683 (by decide +kernel) rfl
theorem lk_X2_63 : LKV "MilkDesk$ActReader" 63 yX2_addStep.cls yX2_addStep cX2_addStep 2 none 1 := ⟨mw_623, mw_625, mp_13, mw_9, mw_626, by decide +kernel, by decide +kernel, by decide +kernel⟩
theorem mw_505 : Cond.code yX2_placeOf cX2_placeOf 2 (some .int) ∈ lw_G := lw_Gi 565 (by decide +kernel) rfl
theorem mw_504 : Cond.static yX2_placeOf ∈ lw_G := lw_Gi 564 (by decide +kernel) rfl
theorem mw_503 : Cond.methodLink "MilkDesk$ActReader" 49 yX2_placeOf ∈ lw_G := lw_Gi 563 (by decide +kernel) rfl
theorem lk_X2_49 : LKS "MilkDesk$ActReader" 49 yX2_placeOf cX2_placeOf 2 (some .int) 2 := ⟨mw_503, mw_504, mw_9, mw_505, by decide +kernel, by decide +kernel, by decide +kernel⟩
theorem mw_622 : Cond.code yX2_readNumber cX2_readNumber 4 none ∈ lw_G := lw_Gi 682 (by decide +kernel) rfl
theorem mw_621 : Cond.instanceMethod yX2_readNumber ∈ lw_G := lw_Gi 681 (by decide +kernel) rfl
theorem mp_12 : Cond.selects yX2_readNumber.cls yX2_readNumber yX2_readNumber ∈ lw_G := lw_Gi 12 (by decide +kernel) rfl
theorem mw_619 : Cond.methodLink "MilkDesk$ActReader" 108 yX2_readNumber ∈ lw_G := lw_Gi 679 (by decide +kernel) rfl
theorem lk_X2_108 : LKV "MilkDesk$ActReader" 108 yX2_readNumber.cls yX2_readNumber cX2_readNumber 4 none 0 := ⟨mw_619, mw_621, mp_12, mw_9, mw_622, by decide +kernel, by decide +kernel, by decide +kernel⟩
theorem mw_614 : Cond.code yX2_readAtom cX2_readAtom 2 none ∈ lw_G := lw_Gi 674 (by decide +kernel) rfl
theorem mw_613 : Cond.instanceMethod yX2_readAtom ∈ lw_G := lw_Gi 673 (by decide +kernel) rfl
theorem mp_11 : Cond.selects yX2_readAtom.cls yX2_readAtom yX2_readAtom ∈ lw_G := lw_Gi 11 (by decide +kernel) rfl
theorem mw_611 : Cond.methodLink "MilkDesk$ActReader" 97 yX2_readAtom ∈ lw_G := lw_Gi 671 (by decide +kernel) rfl
theorem lk_X2_97 : LKV "MilkDesk$ActReader" 97 yX2_readAtom.cls yX2_readAtom cX2_readAtom 2 none 0 := ⟨mw_611, mw_613, mp_11, mw_9, mw_614, by decide +kernel, by decide +kernel, by decide +kernel⟩
theorem mw_610 : Cond.code yX2_readSum cX2_readSum 3 none ∈ lw_G := lw_Gi 670 (by decide +kernel) rfl
theorem mw_609 : Cond.instanceMethod yX2_readSum ∈ lw_G := lw_Gi 669 (by decide +kernel) rfl
theorem mp_10 : Cond.selects yX2_readSum.cls yX2_readSum yX2_readSum ∈ lw_G := lw_Gi 10 (by decide +kernel) rfl
theorem mw_607 : Cond.methodLink "MilkDesk$ActReader" 92 yX2_readSum ∈ lw_G := lw_Gi 667 (by decide +kernel) rfl
theorem lk_X2_92 : LKV "MilkDesk$ActReader" 92 yX2_readSum.cls yX2_readSum cX2_readSum 3 none 0 := ⟨mw_607, mw_609, mp_10, mw_9, mw_610, by decide +kernel, by decide +kernel, by decide +kernel⟩
theorem kb_8 : (Int8.ofInt 8).toInt32 = (8 : Int32) := by decide +kernel
theorem mw_590 : Cond.code yX2_readOr cX2_readOr 3 none ∈ lw_G := lw_Gi 650 (by decide +kernel) rfl
theorem mw_589 : Cond.instanceMethod yX2_readOr ∈ lw_G := lw_Gi 649 (by decide +kernel) rfl
theorem mp_5 : Cond.selects yX2_readOr.cls yX2_readOr yX2_readOr ∈ lw_G := lw_Gi 5 (by decide +kernel) rfl
theorem mw_587 : Cond.methodLink "MilkDesk$ActReader" 60 yX2_readOr ∈ lw_G := lw_Gi 647 (by decide +kernel) rfl
theorem lk_X2_60 : LKV "MilkDesk$ActReader" 60 yX2_readOr.cls yX2_readOr cX2_readOr 3 none 1 := ⟨mw_587, mw_589, mp_5, mw_9, mw_590, by decide +kernel, by decide +kernel, by decide +kernel⟩
theorem kb_41 : (Int8.ofInt 41).toInt32 = (41 : Int32) := by decide +kernel
theorem mw_582 : Cond.code yX2_readSign cX2_readSign 2 none ∈ lw_G := lw_Gi 642 (by decide +kernel) rfl
theorem mw_581 : Cond.instanceMethod yX2_readSign ∈ lw_G := lw_Gi 641 (by decide +kernel) rfl
theorem mp_3 : Cond.selects yX2_readSign.cls yX2_readSign yX2_readSign ∈ lw_G := lw_Gi 3 (by decide +kernel) rfl
theorem mw_579 : Cond.methodLink "MilkDesk$ActReader" 56 yX2_readSign ∈ lw_G := lw_Gi 639 (by decide +kernel) rfl
theorem lk_X2_56 : LKV "MilkDesk$ActReader" 56 yX2_readSign.cls yX2_readSign cX2_readSign 2 none 1 := ⟨mw_579, mw_581, mp_3, mw_9, mw_582, by decide +kernel, by decide +kernel, by decide +kernel⟩
theorem kb_33 : (Int8.ofInt 33).toInt32 = (33 : Int32) := by decide +kernel
theorem kb_40 : (Int8.ofInt 40).toInt32 = (40 : Int32) := by decide +kernel
theorem mw_602 : Cond.code yX2_readBracket cX2_readBracket 2 none ∈ lw_G := lw_Gi 662 (by decide +kernel) rfl
theorem mw_601 : Cond.instanceMethod yX2_readBracket ∈ lw_G := lw_Gi 661 (by decide +kernel) rfl
theorem mp_8 : Cond.selects yX2_readBracket.cls yX2_readBracket yX2_readBracket ∈ lw_G := lw_Gi 8 (by decide +kernel) rfl
theorem mw_599 : Cond.methodLink "MilkDesk$ActReader" 86 yX2_readBracket ∈ lw_G := lw_Gi 659 (by decide +kernel) rfl
theorem lk_X2_86 : LKV "MilkDesk$ActReader" 86 yX2_readBracket.cls yX2_readBracket cX2_readBracket 2 none 1 := ⟨mw_599, mw_601, mp_8, mw_9, mw_602, by decide +kernel, by decide +kernel, by decide +kernel⟩
theorem mw_606 : Cond.code yX2_readComparison cX2_readComparison 2 none ∈ lw_G := lw_Gi 666 (by decide +kernel) rfl
theorem mw_605 : Cond.instanceMethod yX2_readComparison ∈ lw_G := lw_Gi 665 (by decide +kernel) rfl
theorem mp_9 : Cond.selects yX2_readComparison.cls yX2_readComparison yX2_readComparison ∈ lw_G := lw_Gi 9 (by decide +kernel) rfl
theorem mw_603 : Cond.methodLink "MilkDesk$ActReader" 89 yX2_readComparison ∈ lw_G := lw_Gi 663 (by decide +kernel) rfl
theorem lk_X2_89 : LKV "MilkDesk$ActReader" 89 yX2_readComparison.cls yX2_readComparison cX2_readComparison 2 none 0 := ⟨mw_603, mw_605, mp_9, mw_9, mw_606, by decide +kernel, by decide +kernel, by decide +kernel⟩
theorem mw_598 : Cond.code yX2_readTest cX2_readTest 4 none ∈ lw_G := lw_Gi 658 (by decide +kernel) rfl
theorem mw_597 : Cond.instanceMethod yX2_readTest ∈ lw_G := lw_Gi 657 (by decide +kernel) rfl
theorem mp_7 : Cond.selects yX2_readTest.cls yX2_readTest yX2_readTest ∈ lw_G := lw_Gi 7 (by decide +kernel) rfl
theorem mw_595 : Cond.methodLink "MilkDesk$ActReader" 83 yX2_readTest ∈ lw_G := lw_Gi 655 (by decide +kernel) rfl
theorem lk_X2_83 : LKV "MilkDesk$ActReader" 83 yX2_readTest.cls yX2_readTest cX2_readTest 4 none 1 := ⟨mw_595, mw_597, mp_7, mw_9, mw_598, by decide +kernel, by decide +kernel, by decide +kernel⟩
theorem kb_38 : (Int8.ofInt 38).toInt32 = (38 : Int32) := by decide +kernel
theorem kb_m38 : (Int8.ofInt (-38)).toInt32 = (-38 : Int32) := by decide +kernel
theorem mw_594 : Cond.code yX2_readAnd cX2_readAnd 3 none ∈ lw_G := lw_Gi 654 (by decide +kernel) rfl
theorem mw_593 : Cond.instanceMethod yX2_readAnd ∈ lw_G := lw_Gi 653 (by decide +kernel) rfl
theorem mp_6 : Cond.selects yX2_readAnd.cls yX2_readAnd yX2_readAnd ∈ lw_G := lw_Gi 6 (by decide +kernel) rfl
theorem mw_591 : Cond.methodLink "MilkDesk$ActReader" 80 yX2_readAnd ∈ lw_G := lw_Gi 651 (by decide +kernel) rfl
theorem lk_X2_80 : LKV "MilkDesk$ActReader" 80 yX2_readAnd.cls yX2_readAnd cX2_readAnd 3 none 1 := ⟨mw_591, mw_593, mp_6, mw_9, mw_594, by decide +kernel, by decide +kernel, by decide +kernel⟩
theorem kb_124 : (Int8.ofInt 124).toInt32 = (124 : Int32) := by decide +kernel
theorem kb_m124 : (Int8.ofInt (-124)).toInt32 = (-124 : Int32) := by decide +kernel
theorem mw_346 : Cond.fieldLink "MilkDesk$ActReader" 18 "MilkDesk$Shelf" "cells" "[I" ∈ lw_G := lw_Gi 406 (by decide +kernel) rfl
theorem fk_X2_18 : FLK "MilkDesk$ActReader" 18 8 6 RX9 TX9 7 := ⟨rfl, Nat.le_of_ble_eq_true rfl, mw_346, in_wsX90⟩
theorem gr_7_6 (G : Gn) (i : Nat) : GVR G 7 8 6 i (ad G 39 i) := fun _ _ _ => ⟨_, rfl, rfl⟩
theorem ci_7 {i : Nat} (h : i < 8) : i < cntK 7 := h
theorem mw_341 : Cond.fieldLink "MilkDesk$ActReader" 23 "MilkDesk$Shelf" "size" "I" ∈ lw_G := lw_Gi 401 (by decide +kernel) rfl
theorem fk_X2_23 : FLK "MilkDesk$ActReader" 23 8 5 RX9 TX9 7 := ⟨rfl, Nat.le_of_ble_eq_true rfl, mw_341, in_wsX90⟩
theorem gi_7_5 (G : Gn) : GVI G 7 8 5 := fun _ _ _ _ => ⟨_, rfl, rfl⟩
theorem mw_497 : Cond.methodLink "MilkDesk$ActReader" 27 Lib.Math.min.name ∈ lw_G := lw_Gi 557 (by decide +kernel) rfl
theorem pf_X2_4 : parseFieldDescriptor (TX2 4).2.2.1 = some .int := by decide +kernel
theorem pv_8_4 (G : Gn) : PV G 8 2 4 := fun _ _ _ _ _ => ⟨_, rfl, Nat.le_of_ble_eq_true rfl, rfl⟩
theorem mw_260 : Cond.fieldLink "MilkDesk$ActReader" 53 "MilkDesk$ActReader" "purpose" "I" ∈ lw_G := lw_Gi 320 (by decide +kernel) rfl
theorem fk_X2_53 : FLK "MilkDesk$ActReader" 53 2 2 RX2 TX2 7 := ⟨rfl, Nat.le_of_ble_eq_true rfl, mw_260, in_wsX20⟩
theorem pf_X2_2 : parseFieldDescriptor (TX2 2).2.2.1 = some .int := by decide +kernel
theorem pv_8_2 (G : Gn) : PV G 8 2 2 := fun _ _ _ _ _ => ⟨_, rfl, Nat.le_of_ble_eq_true rfl, rfl⟩
theorem gi_8_2 (G : Gn) : GVI G 8 2 2 := fun _ _ _ _ => ⟨_, rfl, rfl⟩
theorem kb_58 : (Int8.ofInt 58).toInt32 = (58 : Int32) := by decide +kernel
theorem kb_117 : (Int8.ofInt 117).toInt32 = (117 : Int32) := by decide +kernel
theorem ki_3 : Int32.ofInt 3 = (3 : Int32) := by decide +kernel
theorem nz_2 : ¬ (2 : Int32) = 0 := by decide +kernel
theorem kb_100 : (Int8.ofInt 100).toInt32 = (100 : Int32) := by decide +kernel
theorem nz_100 : ¬ (100 : Int32) = 0 := by decide +kernel
theorem mw_96 : Cond.fieldLink "MilkDesk$Dairies" 36 "MilkDesk$Dairies" "count" "I" ∈ lw_G := lw_Gi 156 (by decide +kernel) rfl
theorem fk_X4_36 : FLK "MilkDesk$Dairies" 36 3 0 RX4 TX4 9 := ⟨rfl, Nat.le_of_ble_eq_true rfl, mw_96, in_wsX40⟩
theorem gi_3_0 (G : Gn) : GVI G 3 3 0 := fun _ _ _ _ => ⟨_, rfl, rfl⟩
theorem ci_3 {i : Nat} (h : i < 3) : i < cntK 3 := h
theorem mw_98 : Cond.fieldLink "MilkDesk$Dairies" 9 "MilkDesk$Dairies" "x" "[I" ∈ lw_G := lw_Gi 158 (by decide +kernel) rfl
theorem fk_X4_9 : FLK "MilkDesk$Dairies" 9 3 1 RX4 TX4 9 := ⟨rfl, Nat.le_of_ble_eq_true rfl, mw_98, in_wsX40⟩
theorem gr_3_1 (G : Gn) (i : Nat) : GVR G 3 3 1 i (ad G 22 i) := fun _ _ _ => ⟨_, rfl, rfl⟩
theorem ar_22 (G : Gn) : AI G 22 5 := fun _ _ _ _ => rfl
theorem ci_22 {i : Nat} (h : i < 3) : i < cntK 22 := h
theorem mw_101 : Cond.fieldLink "MilkDesk$Dairies" 15 "MilkDesk$Dairies" "y" "[I" ∈ lw_G := lw_Gi 161 (by decide +kernel) rfl
theorem fk_X4_15 : FLK "MilkDesk$Dairies" 15 3 2 RX4 TX4 9 := ⟨rfl, Nat.le_of_ble_eq_true rfl, mw_101, in_wsX40⟩
theorem gr_3_2 (G : Gn) (i : Nat) : GVR G 3 3 2 i (ad G 23 i) := fun _ _ _ => ⟨_, rfl, rfl⟩
theorem ar_23 (G : Gn) : AI G 23 5 := fun _ _ _ _ => rfl
theorem ci_23 {i : Nat} (h : i < 3) : i < cntK 23 := h
theorem mw_104 : Cond.fieldLink "MilkDesk$Dairies" 18 "MilkDesk$Dairies" "bottles" "[I" ∈ lw_G := lw_Gi 164 (by decide +kernel) rfl
theorem fk_X4_18 : FLK "MilkDesk$Dairies" 18 3 3 RX4 TX4 9 := ⟨rfl, Nat.le_of_ble_eq_true rfl, mw_104, in_wsX40⟩
theorem gr_3_3 (G : Gn) (i : Nat) : GVR G 3 3 3 i (ad G 24 i) := fun _ _ _ => ⟨_, rfl, rfl⟩
theorem ar_24 (G : Gn) : AI G 24 5 := fun _ _ _ _ => rfl
theorem ci_24 {i : Nat} (h : i < 3) : i < cntK 24 := h
theorem mw_106 : Cond.fieldLink "MilkDesk$Dairies" 21 "MilkDesk$Dairies" "cap" "[I" ∈ lw_G := lw_Gi 166 (by decide +kernel) rfl
theorem fk_X4_21 : FLK "MilkDesk$Dairies" 21 3 4 RX4 TX4 9 := ⟨rfl, Nat.le_of_ble_eq_true rfl, mw_106, in_wsX40⟩
theorem gr_3_4 (G : Gn) (i : Nat) : GVR G 3 3 4 i (ad G 25 i) := fun _ _ _ => ⟨_, rfl, rfl⟩
theorem ar_25 (G : Gn) : AI G 25 5 := fun _ _ _ _ => rfl
theorem ci_25 {i : Nat} (h : i < 3) : i < cntK 25 := h
theorem pf_X4_0 : parseFieldDescriptor (TX4 0).2.2.1 = some .int := by decide +kernel
theorem pv_3_0 (G : Gn) : PV G 3 3 0 := fun _ _ _ _ _ => ⟨_, rfl, Nat.le_of_ble_eq_true rfl, rfl⟩
theorem mw_107 : Cond.fieldLink "MilkDesk$Dairies" 24 "MilkDesk$Dairies" "bids" "[I" ∈ lw_G := lw_Gi 167 (by decide +kernel) rfl
theorem fk_X4_24 : FLK "MilkDesk$Dairies" 24 3 5 RX4 TX4 9 := ⟨rfl, Nat.le_of_ble_eq_true rfl, mw_107, in_wsX40⟩
theorem gr_3_5 (G : Gn) (i : Nat) : GVR G 3 3 5 i (ad G 26 i) := fun _ _ _ => ⟨_, rfl, rfl⟩
theorem ar_26 (G : Gn) : AI G 26 20 := fun _ _ _ _ => rfl
theorem ci_26 {i : Nat} (h : i < 3) : i < cntK 26 := h
theorem mw_430 : Cond.code yX4_winner cX4_winner 6 (some .int) ∈ lw_G := lw_Gi 490 (by decide +kernel) rfl
theorem mw_4 : Cond.initialized yX4_winner.cls ∈ lw_G := lw_Gi 64 (by decide +kernel) rfl
theorem mw_428 : Cond.instanceMethod yX4_winner ∈ lw_G := lw_Gi 488 (by decide +kernel) rfl
theorem mw_429 : Cond.selects yX4_winner.cls yX4_winner yX4_winner ∈ lw_G := lw_Gi 489 (by decide +kernel) rfl
theorem mw_784 : Cond.methodLink "MilkDesk$Dairies" 40 yX4_winner ∈ lw_G := lw_Gi 844 (by decide +kernel) rfl
theorem lk_X4_40 : LKV "MilkDesk$Dairies" 40 yX4_winner.cls yX4_winner cX4_winner 6 (some .int) 1 := ⟨mw_784, mw_428, mw_429, mw_4, mw_430, by decide +kernel, by decide +kernel, by decide +kernel⟩
theorem rc_3 (G : Gn) : ∀ w i r q, ∃ fs, Esh G w 3 i r q = .inr (3, fs) := fun _ _ _ _ => ⟨_, rfl⟩
theorem mw_111 : Cond.fieldLink "MilkDesk$Dairies" 30 "MilkDesk$Dairies" "lowest" "[I" ∈ lw_G := lw_Gi 171 (by decide +kernel) rfl
theorem fk_X4_30 : FLK "MilkDesk$Dairies" 30 3 7 RX4 TX4 9 := ⟨rfl, Nat.le_of_ble_eq_true rfl, mw_111, in_wsX40⟩
theorem gr_3_7 (G : Gn) (i : Nat) : GVR G 3 3 7 i (ad G 28 i) := fun _ _ _ => ⟨_, rfl, rfl⟩
theorem ar_28 (G : Gn) : AI G 28 5 := fun _ _ _ _ => rfl
theorem ci_28 {i : Nat} (h : i < 3) : i < cntK 28 := h
theorem mw_113 : Cond.fieldLink "MilkDesk$Dairies" 33 "MilkDesk$Dairies" "capLeft" "[I" ∈ lw_G := lw_Gi 173 (by decide +kernel) rfl
theorem fk_X4_33 : FLK "MilkDesk$Dairies" 33 3 8 RX4 TX4 9 := ⟨rfl, Nat.le_of_ble_eq_true rfl, mw_113, in_wsX40⟩
theorem gr_3_8 (G : Gn) (i : Nat) : GVR G 3 3 8 i (ad G 29 i) := fun _ _ _ => ⟨_, rfl, rfl⟩
theorem ar_29 (G : Gn) : AI G 29 5 := fun _ _ _ _ => rfl
theorem ci_29 {i : Nat} (h : i < 3) : i < cntK 29 := h
theorem mw_109 : Cond.fieldLink "MilkDesk$Dairies" 27 "MilkDesk$Dairies" "returning" "[I" ∈ lw_G := lw_Gi 169 (by decide +kernel) rfl
theorem fk_X4_27 : FLK "MilkDesk$Dairies" 27 3 6 RX4 TX4 9 := ⟨rfl, Nat.le_of_ble_eq_true rfl, mw_109, in_wsX40⟩
theorem gr_3_6 (G : Gn) (i : Nat) : GVR G 3 3 6 i (ad G 27 i) := fun _ _ _ => ⟨_, rfl, rfl⟩
theorem ar_27 (G : Gn) : AI G 27 5 := fun _ _ _ _ => rfl
theorem ci_27 {i : Nat} (h : i < 3) : i < cntK 27 := h
theorem mw_770 : Cond.methodLink "MilkDesk$Dairies" 44 Lib.Math.min.name ∈ lw_G := lw_Gi 830 (by decide +kernel) rfl
theorem mt_884 : Cond.methodLinkNest "MilkDesk$Dairies" 50 yX11_copyAll "MilkDesk" ∈ lw_tbl := List.mem_of_getElem? (i := 944) (by decide +kernel)
theorem lk_X4_50 : LKN "MilkDesk$Dairies" 50 "MilkDesk" yX11_copyAll cX11_copyAll 2 none 2 := ⟨mt_884, mw_846, mw_1, mw_847, by decide +kernel, by decide +kernel, by decide +kernel⟩
theorem mw_139 : Cond.fieldLink "MilkDesk$HeadRows" 28 "MilkDesk$HeadRows" "count" "I" ∈ lw_G := lw_Gi 199 (by decide +kernel) rfl
theorem fk_X5_28 : FLK "MilkDesk$HeadRows" 28 4 0 RX5 TX5 5 := ⟨rfl, Nat.le_of_ble_eq_true rfl, mw_139, in_wsX50⟩
theorem gi_4_0 (G : Gn) : GVI G 4 4 0 := fun _ _ _ _ => ⟨_, rfl, rfl⟩
theorem ci_4 {i : Nat} (h : i < 3) : i < cntK 4 := h
theorem mw_141 : Cond.fieldLink "MilkDesk$HeadRows" 9 "MilkDesk$HeadRows" "age" "[I" ∈ lw_G := lw_Gi 201 (by decide +kernel) rfl
theorem fk_X5_9 : FLK "MilkDesk$HeadRows" 9 4 1 RX5 TX5 5 := ⟨rfl, Nat.le_of_ble_eq_true rfl, mw_141, in_wsX50⟩
theorem gr_4_1 (G : Gn) (i : Nat) : GVR G 4 4 1 i (ad G 30 i) := fun _ _ _ => ⟨_, rfl, rfl⟩
theorem ar_30 (G : Gn) : AI G 30 16 := fun _ _ _ _ => rfl
theorem ci_30 {i : Nat} (h : i < 3) : i < cntK 30 := h
theorem mw_338 : Cond.fieldLink "MilkDesk$Shelf" 28 "MilkDesk$Shelf" "sort" "I" ∈ lw_G := lw_Gi 398 (by decide +kernel) rfl
theorem fk_X9_28 : FLK "MilkDesk$Shelf" 28 8 4 RX9 TX9 7 := ⟨rfl, Nat.le_of_ble_eq_true rfl, mw_338, in_wsX90⟩
theorem gi_7_4 (G : Gn) : GVI G 7 8 4 := fun _ _ _ _ => ⟨_, rfl, rfl⟩
theorem mw_471 : Cond.constant "MilkDesk$Shelf" 38 (-2147483648) ∈ lw_G := lw_Gi 531 (by decide +kernel) rfl
theorem ks_m32768 : (Int16.ofInt (-32768)).toInt32 = (-32768 : Int32) := by decide +kernel
theorem kb_m128 : (Int8.ofInt (-128)).toInt32 = (-128 : Int32) := by decide +kernel
theorem mw_466 : Cond.code yX5_lastOf cX5_lastOf 3 (some .int) ∈ lw_G := lw_Gi 526 (by decide +kernel) rfl
theorem mw_5 : Cond.initialized yX5_lastOf.cls ∈ lw_G := lw_Gi 65 (by decide +kernel) rfl
theorem mw_465 : Cond.instanceMethod yX5_lastOf ∈ lw_G := lw_Gi 525 (by decide +kernel) rfl
theorem mp_1 : Cond.selects yX5_lastOf.cls yX5_lastOf yX5_lastOf ∈ lw_G := lw_Gi 1 (by decide +kernel) rfl
theorem mw_463 : Cond.methodLink "MilkDesk$HeadRows" 24 yX5_lastOf ∈ lw_G := lw_Gi 523 (by decide +kernel) rfl
theorem lk_X5_24 : LKV "MilkDesk$HeadRows" 24 yX5_lastOf.cls yX5_lastOf cX5_lastOf 3 (some .int) 1 := ⟨mw_463, mw_465, mp_1, mw_5, mw_466, by decide +kernel, by decide +kernel, by decide +kernel⟩
theorem rc_4 (G : Gn) : ∀ w i r q, ∃ fs, Esh G w 4 i r q = .inr (4, fs) := fun _ _ _ _ => ⟨_, rfl⟩
theorem kb_7 : (Int8.ofInt 7).toInt32 = (7 : Int32) := by decide +kernel
theorem nz_7 : ¬ (7 : Int32) = 0 := by decide +kernel
theorem mw_142 : Cond.fieldLink "MilkDesk$HeadRows" 15 "MilkDesk$HeadRows" "toldOn" "[I" ∈ lw_G := lw_Gi 202 (by decide +kernel) rfl
theorem fk_X5_15 : FLK "MilkDesk$HeadRows" 15 4 2 RX5 TX5 5 := ⟨rfl, Nat.le_of_ble_eq_true rfl, mw_142, in_wsX50⟩
theorem gr_4_2 (G : Gn) (i : Nat) : GVR G 4 4 2 i (ad G 31 i) := fun _ _ _ => ⟨_, rfl, rfl⟩
theorem ar_31 (G : Gn) : AI G 31 16 := fun _ _ _ _ => rfl
theorem ci_31 {i : Nat} (h : i < 3) : i < cntK 31 := h
theorem mw_143 : Cond.fieldLink "MilkDesk$HeadRows" 18 "MilkDesk$HeadRows" "from" "[I" ∈ lw_G := lw_Gi 203 (by decide +kernel) rfl
theorem fk_X5_18 : FLK "MilkDesk$HeadRows" 18 4 3 RX5 TX5 5 := ⟨rfl, Nat.le_of_ble_eq_true rfl, mw_143, in_wsX50⟩
theorem gr_4_3 (G : Gn) (i : Nat) : GVR G 4 4 3 i (ad G 32 i) := fun _ _ _ => ⟨_, rfl, rfl⟩
theorem ar_32 (G : Gn) : AI G 32 16 := fun _ _ _ _ => rfl
theorem ci_32 {i : Nat} (h : i < 3) : i < cntK 32 := h
theorem kb_12 : (Int8.ofInt 12).toInt32 = (12 : Int32) := by decide +kernel
theorem pf_X5_0 : parseFieldDescriptor (TX5 0).2.2.1 = some .int := by decide +kernel
theorem pv_4_0 (G : Gn) : PV G 4 4 0 := fun _ _ _ _ _ => ⟨_, rfl, Nat.le_of_ble_eq_true rfl, rfl⟩
theorem mw_144 : Cond.fieldLink "MilkDesk$HeadRows" 21 "MilkDesk$HeadRows" "many" "[I" ∈ lw_G := lw_Gi 204 (by decide +kernel) rfl
theorem fk_X5_21 : FLK "MilkDesk$HeadRows" 21 4 4 RX5 TX5 5 := ⟨rfl, Nat.le_of_ble_eq_true rfl, mw_144, in_wsX50⟩
theorem gr_4_4 (G : Gn) (i : Nat) : GVR G 4 4 4 i (ad G 33 i) := fun _ _ _ => ⟨_, rfl, rfl⟩
theorem ar_33 (G : Gn) : AI G 33 192 := fun _ _ _ _ => rfl
theorem ci_33 {i : Nat} (h : i < 3) : i < cntK 33 := h
theorem mw_342 : Cond.fieldLink "MilkDesk$HeadRows" 32 "MilkDesk$Shelf" "size" "I" ∈ lw_G := lw_Gi 402 (by decide +kernel) rfl
theorem fk_X5_32 : FLK "MilkDesk$HeadRows" 32 8 5 RX9 TX9 7 := ⟨rfl, Nat.le_of_ble_eq_true rfl, mw_342, in_wsX90⟩
theorem mw_348 : Cond.fieldLink "MilkDesk$HeadRows" 37 "MilkDesk$Shelf" "cells" "[I" ∈ lw_G := lw_Gi 408 (by decide +kernel) rfl
theorem fk_X5_37 : FLK "MilkDesk$HeadRows" 37 8 6 RX9 TX9 7 := ⟨rfl, Nat.le_of_ble_eq_true rfl, mw_348, in_wsX90⟩
theorem mw_470 : Cond.code yX9_leastOfSort cX9_leastOfSort 1 (some .int) ∈ lw_G := lw_Gi 530 (by decide +kernel) rfl
theorem mw_11 : Cond.initialized yX9_leastOfSort.cls ∈ lw_G := lw_Gi 71 (by decide +kernel) rfl
theorem mw_468 : Cond.instanceMethod yX9_leastOfSort ∈ lw_G := lw_Gi 528 (by decide +kernel) rfl
theorem mw_469 : Cond.selects yX9_leastOfSort.cls yX9_leastOfSort yX9_leastOfSort ∈ lw_G := lw_Gi 529 (by decide +kernel) rfl
theorem mw_467 : Cond.methodLink "MilkDesk$HeadRows" 40 yX9_leastOfSort ∈ lw_G := lw_Gi 527 (by decide +kernel) rfl
theorem lk_X5_40 : LKV "MilkDesk$HeadRows" 40 yX9_leastOfSort.cls yX9_leastOfSort cX9_leastOfSort 1 (some .int) 0 := ⟨mw_467, mw_468, mw_469, mw_11, mw_470, by decide +kernel, by decide +kernel, by decide +kernel⟩
theorem rc_7 (G : Gn) : ∀ w i r q, ∃ fs, Esh G w 7 i r q = .inr (8, fs) := fun _ _ _ _ => ⟨_, rfl⟩
theorem ks_200 : (Int16.ofInt 200).toInt32 = (200 : Int32) := by decide +kernel
theorem mw_472 : Cond.methodLink "MilkDesk$HeadRows" 44 Lib.Math.min.name ∈ lw_G := lw_Gi 532 (by decide +kernel) rfl
theorem mw_475 : Cond.methodLink "MilkDesk$HeadRows" 50 Lib.Math.max.name ∈ lw_G := lw_Gi 535 (by decide +kernel) rfl
theorem mw_476 : Cond.static Lib.Math.max.name ∈ lw_G := lw_Gi 536 (by decide +kernel) rfl
theorem mw_477 : Cond.code Lib.Math.max.name Lib.Math.max.code 2 (some .int) ∈ lw_G := lw_Gi 537 (by decide +kernel) rfl
theorem mt_889 : Cond.methodLinkNest "MilkDesk$HeadRows" 53 yX11_copyAll "MilkDesk" ∈ lw_tbl := List.mem_of_getElem? (i := 949) (by decide +kernel)
theorem lk_X5_53 : LKN "MilkDesk$HeadRows" 53 "MilkDesk" yX11_copyAll cX11_copyAll 2 none 2 := ⟨mt_889, mw_846, mw_1, mw_847, by decide +kernel, by decide +kernel, by decide +kernel⟩
theorem mw_185 : Cond.fieldLink "MilkDesk$Looks" 9 "MilkDesk$Looks" "school" "[I" ∈ lw_G := lw_Gi 245 (by decide +kernel) rfl
theorem fk_X6_9 : FLK "MilkDesk$Looks" 9 5 1 RX6 TX6 4 := ⟨rfl, Nat.le_of_ble_eq_true rfl, mw_185, in_wsX60⟩
theorem gr_6_1 (G : Gn) (i : Nat) : GVR G 6 5 1 i (ad G 36 i) := fun _ _ _ => ⟨_, rfl, rfl⟩
theorem ci_6 {i : Nat} (h : i < 3) : i < cntK 6 := h
theorem mw_183 : Cond.fieldLink "MilkDesk$Looks" 21 "MilkDesk$Looks" "count" "I" ∈ lw_G := lw_Gi 243 (by decide +kernel) rfl
theorem fk_X6_21 : FLK "MilkDesk$Looks" 21 5 0 RX6 TX6 4 := ⟨rfl, Nat.le_of_ble_eq_true rfl, mw_183, in_wsX60⟩
theorem gi_6_0 (G : Gn) : GVI G 6 5 0 := fun _ _ _ _ => ⟨_, rfl, rfl⟩
theorem ar_36 (G : Gn) : AI G 36 30 := fun _ _ _ _ => rfl
theorem ci_36 {i : Nat} (h : i < 3) : i < cntK 36 := h
theorem mw_188 : Cond.fieldLink "MilkDesk$Looks" 15 "MilkDesk$Looks" "day" "[I" ∈ lw_G := lw_Gi 248 (by decide +kernel) rfl
theorem fk_X6_15 : FLK "MilkDesk$Looks" 15 5 2 RX6 TX6 4 := ⟨rfl, Nat.le_of_ble_eq_true rfl, mw_188, in_wsX60⟩
theorem gr_6_2 (G : Gn) (i : Nat) : GVR G 6 5 2 i (ad G 37 i) := fun _ _ _ => ⟨_, rfl, rfl⟩
theorem ar_37 (G : Gn) : AI G 37 30 := fun _ _ _ _ => rfl
theorem ci_37 {i : Nat} (h : i < 3) : i < cntK 37 := h
theorem mw_190 : Cond.fieldLink "MilkDesk$Looks" 18 "MilkDesk$Looks" "really" "[I" ∈ lw_G := lw_Gi 250 (by decide +kernel) rfl
theorem fk_X6_18 : FLK "MilkDesk$Looks" 18 5 3 RX6 TX6 4 := ⟨rfl, Nat.le_of_ble_eq_true rfl, mw_190, in_wsX60⟩
theorem gr_6_3 (G : Gn) (i : Nat) : GVR G 6 5 3 i (ad G 38 i) := fun _ _ _ => ⟨_, rfl, rfl⟩
theorem ar_38 (G : Gn) : AI G 38 30 := fun _ _ _ _ => rfl
theorem ci_38 {i : Nat} (h : i < 3) : i < cntK 38 := h
theorem pf_X6_0 : parseFieldDescriptor (TX6 0).2.2.1 = some .int := by decide +kernel
theorem pv_6_0 (G : Gn) : PV G 6 5 0 := fun _ _ _ _ _ => ⟨_, rfl, Nat.le_of_ble_eq_true rfl, rfl⟩
theorem mt_899 : Cond.methodLinkNest "MilkDesk$Looks" 25 yX11_copyAll "MilkDesk" ∈ lw_tbl := List.mem_of_getElem? (i := 959) (by decide +kernel)
theorem lk_X6_25 : LKN "MilkDesk$Looks" 25 "MilkDesk" yX11_copyAll cX11_copyAll 2 none 2 := ⟨mt_899, mw_846, mw_1, mw_847, by decide +kernel, by decide +kernel, by decide +kernel⟩
theorem mw_47 : Cond.fieldLink "MilkDesk$Schools" 33 "MilkDesk$Schools" "count" "I" ∈ lw_G := lw_Gi 107 (by decide +kernel) rfl
theorem fk_X8_33 : FLK "MilkDesk$Schools" 33 7 0 RX8 TX8 8 := ⟨rfl, Nat.le_of_ble_eq_true rfl, mw_47, in_wsX80⟩
theorem gi_2_0 (G : Gn) : GVI G 2 7 0 := fun _ _ _ _ => ⟨_, rfl, rfl⟩
theorem ci_2 {i : Nat} (h : i < 3) : i < cntK 2 := h
theorem mw_294 : Cond.fieldLink "MilkDesk$RoundSearch" 30 "MilkDesk$RoundSearch" "count" "I" ∈ lw_G := lw_Gi 354 (by decide +kernel) rfl
theorem fk_X7_30 : FLK "MilkDesk$RoundSearch" 30 6 7 RX7 TX7 12 := ⟨rfl, Nat.le_of_ble_eq_true rfl, mw_294, in_wsX70⟩
theorem pf_X7_7 : parseFieldDescriptor (TX7 7).2.2.1 = some .int := by decide +kernel
theorem pv_9_7 (G : Gn) : PV G 9 6 7 := fun _ _ _ _ _ => ⟨_, rfl, Nat.le_of_ble_eq_true rfl, rfl⟩
theorem ci_9 {i : Nat} (h : i < 1) : i < cntK 9 := h
theorem mw_340 : Cond.fieldLink "MilkDesk$RoundSearch" 34 "MilkDesk$Shelf" "size" "I" ∈ lw_G := lw_Gi 400 (by decide +kernel) rfl
theorem fk_X7_34 : FLK "MilkDesk$RoundSearch" 34 8 5 RX9 TX9 7 := ⟨rfl, Nat.le_of_ble_eq_true rfl, mw_340, in_wsX90⟩
theorem mw_347 : Cond.fieldLink "MilkDesk$RoundSearch" 39 "MilkDesk$Shelf" "cells" "[I" ∈ lw_G := lw_Gi 407 (by decide +kernel) rfl
theorem fk_X7_39 : FLK "MilkDesk$RoundSearch" 39 8 6 RX9 TX9 7 := ⟨rfl, Nat.le_of_ble_eq_true rfl, mw_347, in_wsX90⟩
theorem mw_406 : Cond.code yX8_has cX8_has 2 (some .boolean) ∈ lw_G := lw_Gi 466 (by decide +kernel) rfl
theorem mw_3 : Cond.initialized yX8_has.cls ∈ lw_G := lw_Gi 63 (by decide +kernel) rfl
theorem mw_404 : Cond.instanceMethod yX8_has ∈ lw_G := lw_Gi 464 (by decide +kernel) rfl
theorem mw_405 : Cond.selects yX8_has.cls yX8_has yX8_has ∈ lw_G := lw_Gi 465 (by decide +kernel) rfl
theorem mw_829 : Cond.methodLink "MilkDesk$RoundSearch" 42 yX8_has ∈ lw_G := lw_Gi 889 (by decide +kernel) rfl
theorem lk_X7_42 : LKV "MilkDesk$RoundSearch" 42 yX8_has.cls yX8_has cX8_has 2 (some .boolean) 1 := ⟨mw_829, mw_404, mw_405, mw_3, mw_406, by decide +kernel, by decide +kernel, by decide +kernel⟩
theorem rc_2 (G : Gn) : ∀ w i r q, ∃ fs, Esh G w 2 i r q = .inr (7, fs) := fun _ _ _ _ => ⟨_, rfl⟩
theorem mw_49 : Cond.fieldLink "MilkDesk$RoundSearch" 48 "MilkDesk$Schools" "count" "I" ∈ lw_G := lw_Gi 109 (by decide +kernel) rfl
theorem fk_X7_48 : FLK "MilkDesk$RoundSearch" 48 7 0 RX8 TX8 8 := ⟨rfl, Nat.le_of_ble_eq_true rfl, mw_49, in_wsX80⟩
theorem gi_9_7 (G : Gn) : GVI G 9 6 7 := fun _ _ _ _ => ⟨_, rfl, rfl⟩
theorem mw_290 : Cond.fieldLink "MilkDesk$RoundSearch" 18 "MilkDesk$RoundSearch" "stops" "[I" ∈ lw_G := lw_Gi 350 (by decide +kernel) rfl
theorem fk_X7_18 : FLK "MilkDesk$RoundSearch" 18 6 3 RX7 TX7 12 := ⟨rfl, Nat.le_of_ble_eq_true rfl, mw_290, in_wsX70⟩
theorem gr_9_3 (G : Gn) (i : Nat) : GVR G 9 6 3 i (ad G 43 i) := fun _ _ _ => ⟨_, rfl, rfl⟩
theorem ar_43 (G : Gn) : AI G 43 7 := fun _ _ _ _ => rfl
theorem ci_43 {i : Nat} (h : i < 1) : i < cntK 43 := h
theorem mw_291 : Cond.fieldLink "MilkDesk$RoundSearch" 21 "MilkDesk$RoundSearch" "stopX" "[I" ∈ lw_G := lw_Gi 351 (by decide +kernel) rfl
theorem fk_X7_21 : FLK "MilkDesk$RoundSearch" 21 6 4 RX7 TX7 12 := ⟨rfl, Nat.le_of_ble_eq_true rfl, mw_291, in_wsX70⟩
theorem gr_9_4 (G : Gn) (i : Nat) : GVR G 9 6 4 i (ad G 82 i) := fun _ _ _ => ⟨_, rfl, rfl⟩
theorem mw_55 : Cond.fieldLink "MilkDesk$RoundSearch" 49 "MilkDesk$Schools" "x" "[I" ∈ lw_G := lw_Gi 115 (by decide +kernel) rfl
theorem fk_X7_49 : FLK "MilkDesk$RoundSearch" 49 7 2 RX8 TX8 8 := ⟨rfl, Nat.le_of_ble_eq_true rfl, mw_55, in_wsX80⟩
theorem gr_2_2 (G : Gn) (i : Nat) : GVR G 2 7 2 i (ad G 16 i) := fun _ _ _ => ⟨_, rfl, rfl⟩
theorem ar_16 (G : Gn) : AI G 16 12 := fun _ _ _ _ => rfl
theorem ci_16 {i : Nat} (h : i < 3) : i < cntK 16 := h
theorem ar_82 (G : Gn) : AI G 82 7 := fun _ _ _ _ => rfl
theorem ci_82 {i : Nat} (h : i < 1) : i < cntK 82 := h
theorem mw_292 : Cond.fieldLink "MilkDesk$RoundSearch" 24 "MilkDesk$RoundSearch" "stopY" "[I" ∈ lw_G := lw_Gi 352 (by decide +kernel) rfl
theorem fk_X7_24 : FLK "MilkDesk$RoundSearch" 24 6 5 RX7 TX7 12 := ⟨rfl, Nat.le_of_ble_eq_true rfl, mw_292, in_wsX70⟩
theorem gr_9_5 (G : Gn) (i : Nat) : GVR G 9 6 5 i (ad G 83 i) := fun _ _ _ => ⟨_, rfl, rfl⟩
theorem mw_58 : Cond.fieldLink "MilkDesk$RoundSearch" 52 "MilkDesk$Schools" "y" "[I" ∈ lw_G := lw_Gi 118 (by decide +kernel) rfl
theorem fk_X7_52 : FLK "MilkDesk$RoundSearch" 52 7 3 RX8 TX8 8 := ⟨rfl, Nat.le_of_ble_eq_true rfl, mw_58, in_wsX80⟩
theorem gr_2_3 (G : Gn) (i : Nat) : GVR G 2 7 3 i (ad G 17 i) := fun _ _ _ => ⟨_, rfl, rfl⟩
theorem ar_17 (G : Gn) : AI G 17 12 := fun _ _ _ _ => rfl
theorem ci_17 {i : Nat} (h : i < 3) : i < cntK 17 := h
theorem ar_83 (G : Gn) : AI G 83 7 := fun _ _ _ _ => rfl
theorem ci_83 {i : Nat} (h : i < 1) : i < cntK 83 := h
theorem mw_293 : Cond.fieldLink "MilkDesk$RoundSearch" 27 "MilkDesk$RoundSearch" "latest" "[I" ∈ lw_G := lw_Gi 353 (by decide +kernel) rfl
theorem fk_X7_27 : FLK "MilkDesk$RoundSearch" 27 6 6 RX7 TX7 12 := ⟨rfl, Nat.le_of_ble_eq_true rfl, mw_293, in_wsX70⟩
theorem gr_9_6 (G : Gn) (i : Nat) : GVR G 9 6 6 i (ad G 84 i) := fun _ _ _ => ⟨_, rfl, rfl⟩
theorem mw_67 : Cond.fieldLink "MilkDesk$RoundSearch" 55 "MilkDesk$Schools" "latest" "[I" ∈ lw_G := lw_Gi 127 (by decide +kernel) rfl
theorem fk_X7_55 : FLK "MilkDesk$RoundSearch" 55 7 6 RX8 TX8 8 := ⟨rfl, Nat.le_of_ble_eq_true rfl, mw_67, in_wsX80⟩
theorem gr_2_6 (G : Gn) (i : Nat) : GVR G 2 7 6 i (ad G 20 i) := fun _ _ _ => ⟨_, rfl, rfl⟩
theorem ar_20 (G : Gn) : AI G 20 12 := fun _ _ _ _ => rfl
theorem ci_20 {i : Nat} (h : i < 3) : i < cntK 20 := h
theorem ar_84 (G : Gn) : AI G 84 7 := fun _ _ _ _ => rfl
theorem ci_84 {i : Nat} (h : i < 1) : i < cntK 84 := h
theorem mw_842 : Cond.methodLink "MilkDesk" 342 Lib.Math.abs.name ∈ lw_G := lw_Gi 902 (by decide +kernel) rfl
theorem mw_843 : Cond.static Lib.Math.abs.name ∈ lw_G := lw_Gi 903 (by decide +kernel) rfl
theorem mw_844 : Cond.code Lib.Math.abs.name Lib.Math.abs.code 1 (some .int) ∈ lw_G := lw_Gi 904 (by decide +kernel) rfl
theorem mw_841 : Cond.code yX11_far cX11_far 4 (some .int) ∈ lw_G := lw_Gi 901 (by decide +kernel) rfl
theorem mw_840 : Cond.static yX11_far ∈ lw_G := lw_Gi 900 (by decide +kernel) rfl
theorem mt_839 : Cond.methodLinkNest "MilkDesk$RoundSearch" 76 yX11_far "MilkDesk" ∈ lw_tbl := List.mem_of_getElem? (i := 899) (by decide +kernel)
theorem lk_X7_76 : LKN "MilkDesk$RoundSearch" 76 "MilkDesk" yX11_far cX11_far 4 (some .int) 4 := ⟨mt_839, mw_840, mw_1, mw_841, by decide +kernel, by decide +kernel, by decide +kernel⟩
theorem mw_297 : Cond.fieldLink "MilkDesk$RoundSearch" 56 "MilkDesk$RoundSearch" "homeX" "I" ∈ lw_G := lw_Gi 357 (by decide +kernel) rfl
theorem fk_X7_56 : FLK "MilkDesk$RoundSearch" 56 6 10 RX7 TX7 12 := ⟨rfl, Nat.le_of_ble_eq_true rfl, mw_297, in_wsX70⟩
theorem gi_9_10 (G : Gn) : GVI G 9 6 10 := fun _ _ _ _ => ⟨_, rfl, rfl⟩
theorem mw_298 : Cond.fieldLink "MilkDesk$RoundSearch" 59 "MilkDesk$RoundSearch" "homeY" "I" ∈ lw_G := lw_Gi 358 (by decide +kernel) rfl
theorem fk_X7_59 : FLK "MilkDesk$RoundSearch" 59 6 11 RX7 TX7 12 := ⟨rfl, Nat.le_of_ble_eq_true rfl, mw_298, in_wsX70⟩
theorem gi_9_11 (G : Gn) : GVI G 9 6 11 := fun _ _ _ _ => ⟨_, rfl, rfl⟩
theorem mw_296 : Cond.fieldLink "MilkDesk$RoundSearch" 62 "MilkDesk$RoundSearch" "minute" "I" ∈ lw_G := lw_Gi 356 (by decide +kernel) rfl
theorem fk_X7_62 : FLK "MilkDesk$RoundSearch" 62 6 9 RX7 TX7 12 := ⟨rfl, Nat.le_of_ble_eq_true rfl, mw_296, in_wsX70⟩
theorem gi_9_9 (G : Gn) : GVI G 9 6 9 := fun _ _ _ _ => ⟨_, rfl, rfl⟩
theorem mw_286 : Cond.fieldLink "MilkDesk$RoundSearch" 69 "MilkDesk$RoundSearch" "bestWay" "I" ∈ lw_G := lw_Gi 346 (by decide +kernel) rfl
theorem fk_X7_69 : FLK "MilkDesk$RoundSearch" 69 6 0 RX7 TX7 12 := ⟨rfl, Nat.le_of_ble_eq_true rfl, mw_286, in_wsX70⟩
theorem gi_9_0 (G : Gn) : GVI G 9 6 0 := fun _ _ _ _ => ⟨_, rfl, rfl⟩
theorem mw_289 : Cond.fieldLink "MilkDesk$RoundSearch" 15 "MilkDesk$RoundSearch" "trial" "[I" ∈ lw_G := lw_Gi 349 (by decide +kernel) rfl
theorem fk_X7_15 : FLK "MilkDesk$RoundSearch" 15 6 2 RX7 TX7 12 := ⟨rfl, Nat.le_of_ble_eq_true rfl, mw_289, in_wsX70⟩
theorem gr_9_2 (G : Gn) (i : Nat) : GVR G 9 6 2 i (ad G 42 i) := fun _ _ _ => ⟨_, rfl, rfl⟩
theorem ar_42 (G : Gn) : AI G 42 7 := fun _ _ _ _ => rfl
theorem ci_42 {i : Nat} (h : i < 1) : i < cntK 42 := h
theorem mw_295 : Cond.fieldLink "MilkDesk$RoundSearch" 65 "MilkDesk$RoundSearch" "used" "I" ∈ lw_G := lw_Gi 355 (by decide +kernel) rfl
theorem fk_X7_65 : FLK "MilkDesk$RoundSearch" 65 6 8 RX7 TX7 12 := ⟨rfl, Nat.le_of_ble_eq_true rfl, mw_295, in_wsX70⟩
theorem gi_9_8 (G : Gn) : GVI G 9 6 8 := fun _ _ _ _ => ⟨_, rfl, rfl⟩
theorem pf_X7_8 : parseFieldDescriptor (TX7 8).2.2.1 = some .int := by decide +kernel
theorem pv_9_8 (G : Gn) : PV G 9 6 8 := fun _ _ _ _ _ => ⟨_, rfl, Nat.le_of_ble_eq_true rfl, rfl⟩
theorem mw_838 : Cond.code yX7_goOn cX7_goOn 6 none ∈ lw_G := lw_Gi 898 (by decide +kernel) rfl
theorem mw_10 : Cond.initialized yX7_goOn.cls ∈ lw_G := lw_Gi 70 (by decide +kernel) rfl
theorem mw_837 : Cond.instanceMethod yX7_goOn ∈ lw_G := lw_Gi 897 (by decide +kernel) rfl
theorem mp_19 : Cond.selects yX7_goOn.cls yX7_goOn yX7_goOn ∈ lw_G := lw_Gi 19 (by decide +kernel) rfl
theorem mw_835 : Cond.methodLink "MilkDesk$RoundSearch" 72 yX7_goOn ∈ lw_G := lw_Gi 895 (by decide +kernel) rfl
theorem lk_X7_72 : LKV "MilkDesk$RoundSearch" 72 yX7_goOn.cls yX7_goOn cX7_goOn 6 none 4 := ⟨mw_835, mw_837, mp_19, mw_10, mw_838, by decide +kernel, by decide +kernel, by decide +kernel⟩
theorem rc_9 (G : Gn) : ∀ w i r q, ∃ fs, Esh G w 9 i r q = .inr (6, fs) := fun _ _ _ _ => ⟨_, rfl⟩
theorem pf_X7_0 : parseFieldDescriptor (TX7 0).2.2.1 = some .int := by decide +kernel
theorem pv_9_0 (G : Gn) : PV G 9 6 0 := fun _ _ _ _ _ => ⟨_, rfl, Nat.le_of_ble_eq_true rfl, rfl⟩
theorem mw_288 : Cond.fieldLink "MilkDesk$RoundSearch" 9 "MilkDesk$RoundSearch" "best" "[I" ∈ lw_G := lw_Gi 348 (by decide +kernel) rfl
theorem fk_X7_9 : FLK "MilkDesk$RoundSearch" 9 6 1 RX7 TX7 12 := ⟨rfl, Nat.le_of_ble_eq_true rfl, mw_288, in_wsX70⟩
theorem gr_9_1 (G : Gn) (i : Nat) : GVR G 9 6 1 i (ad G 41 i) := fun _ _ _ => ⟨_, rfl, rfl⟩
theorem mt_845 : Cond.methodLinkNest "MilkDesk$RoundSearch" 80 yX11_copyAll "MilkDesk" ∈ lw_tbl := List.mem_of_getElem? (i := 905) (by decide +kernel)
theorem lk_X7_80 : LKN "MilkDesk$RoundSearch" 80 "MilkDesk" yX11_copyAll cX11_copyAll 2 none 2 := ⟨mt_845, mw_846, mw_1, mw_847, by decide +kernel, by decide +kernel, by decide +kernel⟩
theorem ar_41 (G : Gn) : AI G 41 7 := fun _ _ _ _ => rfl
theorem ci_41 {i : Nat} (h : i < 1) : i < cntK 41 := h
theorem mw_852 : Cond.code yX7_visit cX7_visit 8 none ∈ lw_G := lw_Gi 912 (by decide +kernel) rfl
theorem mw_851 : Cond.instanceMethod yX7_visit ∈ lw_G := lw_Gi 911 (by decide +kernel) rfl
theorem mp_20 : Cond.selects yX7_visit.cls yX7_visit yX7_visit ∈ lw_G := lw_Gi 20 (by decide +kernel) rfl
theorem mw_849 : Cond.methodLink "MilkDesk$RoundSearch" 84 yX7_visit ∈ lw_G := lw_Gi 909 (by decide +kernel) rfl
theorem lk_X7_84 : LKV "MilkDesk$RoundSearch" 84 yX7_visit.cls yX7_visit cX7_visit 8 none 5 := ⟨mw_849, mw_851, mp_20, mw_10, mw_852, by decide +kernel, by decide +kernel, by decide +kernel⟩
theorem pf_X7_10 : parseFieldDescriptor (TX7 10).2.2.1 = some .int := by decide +kernel
theorem pv_9_10 (G : Gn) : PV G 9 6 10 := fun _ _ _ _ _ => ⟨_, rfl, Nat.le_of_ble_eq_true rfl, rfl⟩
theorem pf_X7_11 : parseFieldDescriptor (TX7 11).2.2.1 = some .int := by decide +kernel
theorem pv_9_11 (G : Gn) : PV G 9 6 11 := fun _ _ _ _ _ => ⟨_, rfl, Nat.le_of_ble_eq_true rfl, rfl⟩
theorem pf_X7_9 : parseFieldDescriptor (TX7 9).2.2.1 = some .int := by decide +kernel
theorem pv_9_9 (G : Gn) : PV G 9 6 9 := fun _ _ _ _ _ => ⟨_, rfl, Nat.le_of_ble_eq_true rfl, rfl⟩
theorem mw_834 : Cond.constant "MilkDesk$RoundSearch" 68 (1000000) ∈ lw_G := lw_Gi 894 (by decide +kernel) rfl
theorem kb_m4 : (Int8.ofInt (-4)).toInt32 = (-4 : Int32) := by decide +kernel
theorem mw_51 : Cond.fieldLink "MilkDesk$Schools" 9 "MilkDesk$Schools" "shire" "[I" ∈ lw_G := lw_Gi 111 (by decide +kernel) rfl
theorem fk_X8_9 : FLK "MilkDesk$Schools" 9 7 1 RX8 TX8 8 := ⟨rfl, Nat.le_of_ble_eq_true rfl, mw_51, in_wsX80⟩
theorem gr_2_1 (G : Gn) (i : Nat) : GVR G 2 7 1 i (ad G 15 i) := fun _ _ _ => ⟨_, rfl, rfl⟩
theorem ar_15 (G : Gn) : AI G 15 12 := fun _ _ _ _ => rfl
theorem ci_15 {i : Nat} (h : i < 3) : i < cntK 15 := h
theorem mw_54 : Cond.fieldLink "MilkDesk$Schools" 15 "MilkDesk$Schools" "x" "[I" ∈ lw_G := lw_Gi 114 (by decide +kernel) rfl
theorem fk_X8_15 : FLK "MilkDesk$Schools" 15 7 2 RX8 TX8 8 := ⟨rfl, Nat.le_of_ble_eq_true rfl, mw_54, in_wsX80⟩
theorem mw_57 : Cond.fieldLink "MilkDesk$Schools" 18 "MilkDesk$Schools" "y" "[I" ∈ lw_G := lw_Gi 117 (by decide +kernel) rfl
theorem fk_X8_18 : FLK "MilkDesk$Schools" 18 7 3 RX8 TX8 8 := ⟨rfl, Nat.le_of_ble_eq_true rfl, mw_57, in_wsX80⟩
theorem mw_66 : Cond.fieldLink "MilkDesk$Schools" 27 "MilkDesk$Schools" "latest" "[I" ∈ lw_G := lw_Gi 126 (by decide +kernel) rfl
theorem fk_X8_27 : FLK "MilkDesk$Schools" 27 7 6 RX8 TX8 8 := ⟨rfl, Nat.le_of_ble_eq_true rfl, mw_66, in_wsX80⟩
theorem ks_660 : (Int16.ofInt 660).toInt32 = (660 : Int32) := by decide +kernel
theorem pf_X8_0 : parseFieldDescriptor (TX8 0).2.2.1 = some .int := by decide +kernel
theorem pv_2_0 (G : Gn) : PV G 2 7 0 := fun _ _ _ _ _ => ⟨_, rfl, Nat.le_of_ble_eq_true rfl, rfl⟩
theorem mw_70 : Cond.fieldLink "MilkDesk$Schools" 30 "MilkDesk$Schools" "sums" "[I" ∈ lw_G := lw_Gi 130 (by decide +kernel) rfl
theorem fk_X8_30 : FLK "MilkDesk$Schools" 30 7 7 RX8 TX8 8 := ⟨rfl, Nat.le_of_ble_eq_true rfl, mw_70, in_wsX80⟩
theorem gr_2_7 (G : Gn) (i : Nat) : GVR G 2 7 7 i (ad G 21 i) := fun _ _ _ => ⟨_, rfl, rfl⟩
theorem kb_11 : (Int8.ofInt 11).toInt32 = (11 : Int32) := by decide +kernel
theorem ar_21 (G : Gn) : AI G 21 132 := fun _ _ _ _ => rfl
theorem ci_21 {i : Nat} (h : i < 3) : i < cntK 21 := h
theorem mt_879 : Cond.methodLinkNest "MilkDesk$Schools" 37 yX11_copyAll "MilkDesk" ∈ lw_tbl := List.mem_of_getElem? (i := 939) (by decide +kernel)
theorem lk_X8_37 : LKN "MilkDesk$Schools" 37 "MilkDesk" yX11_copyAll cX11_copyAll 2 none 2 := ⟨mt_879, mw_846, mw_1, mw_847, by decide +kernel, by decide +kernel, by decide +kernel⟩
theorem mw_60 : Cond.fieldLink "MilkDesk$Schools" 21 "MilkDesk$Schools" "leaves" "[I" ∈ lw_G := lw_Gi 120 (by decide +kernel) rfl
theorem fk_X8_21 : FLK "MilkDesk$Schools" 21 7 4 RX8 TX8 8 := ⟨rfl, Nat.le_of_ble_eq_true rfl, mw_60, in_wsX80⟩
theorem gr_2_4 (G : Gn) (i : Nat) : GVR G 2 7 4 i (ad G 18 i) := fun _ _ _ => ⟨_, rfl, rfl⟩
theorem ar_18 (G : Gn) : AI G 18 12 := fun _ _ _ _ => rfl
theorem ci_18 {i : Nat} (h : i < 3) : i < cntK 18 := h
theorem mw_63 : Cond.fieldLink "MilkDesk$Schools" 24 "MilkDesk$Schools" "loses" "[I" ∈ lw_G := lw_Gi 123 (by decide +kernel) rfl
theorem fk_X8_24 : FLK "MilkDesk$Schools" 24 7 5 RX8 TX8 8 := ⟨rfl, Nat.le_of_ble_eq_true rfl, mw_63, in_wsX80⟩
theorem gr_2_5 (G : Gn) (i : Nat) : GVR G 2 7 5 i (ad G 19 i) := fun _ _ _ => ⟨_, rfl, rfl⟩
theorem ar_19 (G : Gn) : AI G 19 12 := fun _ _ _ _ => rfl
theorem ci_19 {i : Nat} (h : i < 3) : i < cntK 19 := h
theorem mw_331 : Cond.fieldLink "MilkDesk$Shelf" 15 "MilkDesk$Shelf" "held" "I" ∈ lw_G := lw_Gi 391 (by decide +kernel) rfl
theorem fk_X9_15 : FLK "MilkDesk$Shelf" 15 8 0 RX9 TX9 7 := ⟨rfl, Nat.le_of_ble_eq_true rfl, mw_331, in_wsX90⟩
theorem gi_7_0 (G : Gn) : GVI G 7 8 0 := fun _ _ _ _ => ⟨_, rfl, rfl⟩
theorem pf_X9_0 : parseFieldDescriptor (TX9 0).2.2.1 = some .int := by decide +kernel
theorem pv_7_0 (G : Gn) : PV G 7 8 0 := fun _ _ _ _ _ => ⟨_, rfl, Nat.le_of_ble_eq_true rfl, rfl⟩
theorem mw_332 : Cond.fieldLink "MilkDesk$Shelf" 19 "MilkDesk$Shelf" "kind" "I" ∈ lw_G := lw_Gi 392 (by decide +kernel) rfl
theorem fk_X9_19 : FLK "MilkDesk$Shelf" 19 8 1 RX9 TX9 7 := ⟨rfl, Nat.le_of_ble_eq_true rfl, mw_332, in_wsX90⟩
theorem pf_X9_1 : parseFieldDescriptor (TX9 1).2.2.1 = some .int := by decide +kernel
theorem pv_7_1 (G : Gn) : PV G 7 8 1 := fun _ _ _ _ _ => ⟨_, rfl, Nat.le_of_ble_eq_true rfl, rfl⟩
theorem mw_334 : Cond.fieldLink "MilkDesk$Shelf" 22 "MilkDesk$Shelf" "bottles" "I" ∈ lw_G := lw_Gi 394 (by decide +kernel) rfl
theorem fk_X9_22 : FLK "MilkDesk$Shelf" 22 8 2 RX9 TX9 7 := ⟨rfl, Nat.le_of_ble_eq_true rfl, mw_334, in_wsX90⟩
theorem pf_X9_2 : parseFieldDescriptor (TX9 2).2.2.1 = some .int := by decide +kernel
theorem pv_7_2 (G : Gn) : PV G 7 8 2 := fun _ _ _ _ _ => ⟨_, rfl, Nat.le_of_ble_eq_true rfl, rfl⟩
theorem mw_336 : Cond.fieldLink "MilkDesk$Shelf" 25 "MilkDesk$Shelf" "school" "I" ∈ lw_G := lw_Gi 396 (by decide +kernel) rfl
theorem fk_X9_25 : FLK "MilkDesk$Shelf" 25 8 3 RX9 TX9 7 := ⟨rfl, Nat.le_of_ble_eq_true rfl, mw_336, in_wsX90⟩
theorem pf_X9_3 : parseFieldDescriptor (TX9 3).2.2.1 = some .int := by decide +kernel
theorem pv_7_3 (G : Gn) : PV G 7 8 3 := fun _ _ _ _ _ => ⟨_, rfl, Nat.le_of_ble_eq_true rfl, rfl⟩
theorem pf_X9_4 : parseFieldDescriptor (TX9 4).2.2.1 = some .int := by decide +kernel
theorem pv_7_4 (G : Gn) : PV G 7 8 4 := fun _ _ _ _ _ => ⟨_, rfl, Nat.le_of_ble_eq_true rfl, rfl⟩
theorem mw_343 : Cond.fieldLink "MilkDesk$Shelf" 31 "MilkDesk$Shelf" "size" "I" ∈ lw_G := lw_Gi 403 (by decide +kernel) rfl
theorem fk_X9_31 : FLK "MilkDesk$Shelf" 31 8 5 RX9 TX9 7 := ⟨rfl, Nat.le_of_ble_eq_true rfl, mw_343, in_wsX90⟩
theorem pf_X9_5 : parseFieldDescriptor (TX9 5).2.2.1 = some .int := by decide +kernel
theorem pv_7_5 (G : Gn) : PV G 7 8 5 := fun _ _ _ _ _ => ⟨_, rfl, Nat.le_of_ble_eq_true rfl, rfl⟩
theorem mw_345 : Cond.fieldLink "MilkDesk$Shelf" 9 "MilkDesk$Shelf" "cells" "[I" ∈ lw_G := lw_Gi 405 (by decide +kernel) rfl
theorem fk_X9_9 : FLK "MilkDesk$Shelf" 9 8 6 RX9 TX9 7 := ⟨rfl, Nat.le_of_ble_eq_true rfl, mw_345, in_wsX90⟩
theorem mw_940 : Cond.code yX9_hasPlace cX9_hasPlace 2 (some .boolean) ∈ lw_G := lw_Gi 1000 (by decide +kernel) rfl
theorem mw_938 : Cond.instanceMethod yX9_hasPlace ∈ lw_G := lw_Gi 998 (by decide +kernel) rfl
theorem mw_939 : Cond.selects yX9_hasPlace.cls yX9_hasPlace yX9_hasPlace ∈ lw_G := lw_Gi 999 (by decide +kernel) rfl
theorem mw_937 : Cond.methodLink "MilkDesk$Shelf" 34 yX9_hasPlace ∈ lw_G := lw_Gi 997 (by decide +kernel) rfl
theorem lk_X9_34 : LKV "MilkDesk$Shelf" 34 yX9_hasPlace.cls yX9_hasPlace cX9_hasPlace 2 (some .boolean) 1 := ⟨mw_937, mw_938, mw_939, mw_11, mw_940, by decide +kernel, by decide +kernel, by decide +kernel⟩
theorem mw_213 : Cond.fieldLink "MilkDesk$World" 67 "MilkDesk$World" "day" "I" ∈ lw_G := lw_Gi 273 (by decide +kernel) rfl
theorem fk_X10_67 : FLK "MilkDesk$World" 67 9 0 RX10 TX10 10 := ⟨rfl, Nat.le_of_ble_eq_true rfl, mw_213, in_wsX100⟩
theorem gi_1_0 (G : Gn) : GVI G 1 9 0 := fun _ _ _ _ => ⟨_, rfl, rfl⟩
theorem ci_1 {i : Nat} (h : i < 3) : i < cntK 1 := h
theorem pf_X10_0 : parseFieldDescriptor (TX10 0).2.2.1 = some .int := by decide +kernel
theorem pv_1_0 (G : Gn) : PV G 1 9 0 := fun _ _ _ _ _ => ⟨_, rfl, Nat.le_of_ble_eq_true rfl, rfl⟩
theorem mw_215 : Cond.fieldLink "MilkDesk$World" 12 "MilkDesk$World" "schools" "LMilkDesk$Schools;" ∈ lw_G := lw_Gi 275 (by decide +kernel) rfl
theorem fk_X10_12 : FLK "MilkDesk$World" 12 9 1 RX10 TX10 10 := ⟨rfl, Nat.le_of_ble_eq_true rfl, mw_215, in_wsX100⟩
theorem gr_1_1 (G : Gn) (i : Nat) : GVR G 1 9 1 i (ad G 2 i) := fun _ _ _ => ⟨_, rfl, rfl⟩
theorem mw_878 : Cond.code yX8_copyFrom cX8_copyFrom 2 none ∈ lw_G := lw_Gi 938 (by decide +kernel) rfl
theorem mw_876 : Cond.instanceMethod yX8_copyFrom ∈ lw_G := lw_Gi 936 (by decide +kernel) rfl
theorem mw_877 : Cond.selects yX8_copyFrom.cls yX8_copyFrom yX8_copyFrom ∈ lw_G := lw_Gi 937 (by decide +kernel) rfl
theorem mw_875 : Cond.methodLink "MilkDesk$World" 71 yX8_copyFrom ∈ lw_G := lw_Gi 935 (by decide +kernel) rfl
theorem lk_X10_71 : LKV "MilkDesk$World" 71 yX8_copyFrom.cls yX8_copyFrom cX8_copyFrom 2 none 1 := ⟨mw_875, mw_876, mw_877, mw_3, mw_878, by decide +kernel, by decide +kernel, by decide +kernel⟩
theorem mw_217 : Cond.fieldLink "MilkDesk$World" 21 "MilkDesk$World" "dairies" "LMilkDesk$Dairies;" ∈ lw_G := lw_Gi 277 (by decide +kernel) rfl
theorem fk_X10_21 : FLK "MilkDesk$World" 21 9 2 RX10 TX10 10 := ⟨rfl, Nat.le_of_ble_eq_true rfl, mw_217, in_wsX100⟩
theorem gr_1_2 (G : Gn) (i : Nat) : GVR G 1 9 2 i (ad G 3 i) := fun _ _ _ => ⟨_, rfl, rfl⟩
theorem mw_883 : Cond.code yX4_copyFrom cX4_copyFrom 2 none ∈ lw_G := lw_Gi 943 (by decide +kernel) rfl
theorem mw_881 : Cond.instanceMethod yX4_copyFrom ∈ lw_G := lw_Gi 941 (by decide +kernel) rfl
theorem mw_882 : Cond.selects yX4_copyFrom.cls yX4_copyFrom yX4_copyFrom ∈ lw_G := lw_Gi 942 (by decide +kernel) rfl
theorem mw_880 : Cond.methodLink "MilkDesk$World" 75 yX4_copyFrom ∈ lw_G := lw_Gi 940 (by decide +kernel) rfl
theorem lk_X10_75 : LKV "MilkDesk$World" 75 yX4_copyFrom.cls yX4_copyFrom cX4_copyFrom 2 none 1 := ⟨mw_880, mw_881, mw_882, mw_4, mw_883, by decide +kernel, by decide +kernel, by decide +kernel⟩
theorem mw_219 : Cond.fieldLink "MilkDesk$World" 28 "MilkDesk$World" "heads" "LMilkDesk$HeadRows;" ∈ lw_G := lw_Gi 279 (by decide +kernel) rfl
theorem fk_X10_28 : FLK "MilkDesk$World" 28 9 3 RX10 TX10 10 := ⟨rfl, Nat.le_of_ble_eq_true rfl, mw_219, in_wsX100⟩
theorem gr_1_3 (G : Gn) (i : Nat) : GVR G 1 9 3 i (ad G 4 i) := fun _ _ _ => ⟨_, rfl, rfl⟩
theorem mw_888 : Cond.code yX5_copyFrom cX5_copyFrom 2 none ∈ lw_G := lw_Gi 948 (by decide +kernel) rfl
theorem mw_886 : Cond.instanceMethod yX5_copyFrom ∈ lw_G := lw_Gi 946 (by decide +kernel) rfl
theorem mw_887 : Cond.selects yX5_copyFrom.cls yX5_copyFrom yX5_copyFrom ∈ lw_G := lw_Gi 947 (by decide +kernel) rfl
theorem mw_885 : Cond.methodLink "MilkDesk$World" 78 yX5_copyFrom ∈ lw_G := lw_Gi 945 (by decide +kernel) rfl
theorem lk_X10_78 : LKV "MilkDesk$World" 78 yX5_copyFrom.cls yX5_copyFrom cX5_copyFrom 2 none 1 := ⟨mw_885, mw_886, mw_887, mw_5, mw_888, by decide +kernel, by decide +kernel, by decide +kernel⟩
theorem mw_221 : Cond.fieldLink "MilkDesk$World" 35 "MilkDesk$World" "acts" "LMilkDesk$ActBook;" ∈ lw_G := lw_Gi 281 (by decide +kernel) rfl
theorem fk_X10_35 : FLK "MilkDesk$World" 35 9 4 RX10 TX10 10 := ⟨rfl, Nat.le_of_ble_eq_true rfl, mw_221, in_wsX100⟩
theorem gr_1_4 (G : Gn) (i : Nat) : GVR G 1 9 4 i (ad G 5 i) := fun _ _ _ => ⟨_, rfl, rfl⟩
theorem mw_893 : Cond.code yX1_copyFrom cX1_copyFrom 3 none ∈ lw_G := lw_Gi 953 (by decide +kernel) rfl
theorem mw_891 : Cond.instanceMethod yX1_copyFrom ∈ lw_G := lw_Gi 951 (by decide +kernel) rfl
theorem mw_892 : Cond.selects yX1_copyFrom.cls yX1_copyFrom yX1_copyFrom ∈ lw_G := lw_Gi 952 (by decide +kernel) rfl
theorem mw_890 : Cond.methodLink "MilkDesk$World" 81 yX1_copyFrom ∈ lw_G := lw_Gi 950 (by decide +kernel) rfl
theorem lk_X10_81 : LKV "MilkDesk$World" 81 yX1_copyFrom.cls yX1_copyFrom cX1_copyFrom 3 none 1 := ⟨mw_890, mw_891, mw_892, mw_6, mw_893, by decide +kernel, by decide +kernel, by decide +kernel⟩
theorem mw_223 : Cond.fieldLink "MilkDesk$World" 42 "MilkDesk$World" "looks" "LMilkDesk$Looks;" ∈ lw_G := lw_Gi 283 (by decide +kernel) rfl
theorem fk_X10_42 : FLK "MilkDesk$World" 42 9 5 RX10 TX10 10 := ⟨rfl, Nat.le_of_ble_eq_true rfl, mw_223, in_wsX100⟩
theorem gr_1_5 (G : Gn) (i : Nat) : GVR G 1 9 5 i (ad G 6 i) := fun _ _ _ => ⟨_, rfl, rfl⟩
theorem mw_898 : Cond.code yX6_copyFrom cX6_copyFrom 2 none ∈ lw_G := lw_Gi 958 (by decide +kernel) rfl
theorem mw_7 : Cond.initialized yX6_copyFrom.cls ∈ lw_G := lw_Gi 67 (by decide +kernel) rfl
theorem mw_896 : Cond.instanceMethod yX6_copyFrom ∈ lw_G := lw_Gi 956 (by decide +kernel) rfl
theorem mw_897 : Cond.selects yX6_copyFrom.cls yX6_copyFrom yX6_copyFrom ∈ lw_G := lw_Gi 957 (by decide +kernel) rfl
theorem mw_895 : Cond.methodLink "MilkDesk$World" 84 yX6_copyFrom ∈ lw_G := lw_Gi 955 (by decide +kernel) rfl
theorem lk_X10_84 : LKV "MilkDesk$World" 84 yX6_copyFrom.cls yX6_copyFrom cX6_copyFrom 2 none 1 := ⟨mw_895, mw_896, mw_897, mw_7, mw_898, by decide +kernel, by decide +kernel, by decide +kernel⟩
theorem rc_6 (G : Gn) : ∀ w i r q, ∃ fs, Esh G w 6 i r q = .inr (5, fs) := fun _ _ _ _ => ⟨_, rfl⟩
theorem mw_225 : Cond.fieldLink "MilkDesk$World" 46 "MilkDesk$World" "months" "[I" ∈ lw_G := lw_Gi 285 (by decide +kernel) rfl
theorem fk_X10_46 : FLK "MilkDesk$World" 46 9 6 RX10 TX10 10 := ⟨rfl, Nat.le_of_ble_eq_true rfl, mw_225, in_wsX100⟩
theorem gr_1_6 (G : Gn) (i : Nat) : GVR G 1 9 6 i (ad G 12 i) := fun _ _ _ => ⟨_, rfl, rfl⟩
theorem mt_900 : Cond.methodLinkNest "MilkDesk$World" 87 yX11_copyAll "MilkDesk" ∈ lw_tbl := List.mem_of_getElem? (i := 960) (by decide +kernel)
theorem lk_X10_87 : LKN "MilkDesk$World" 87 "MilkDesk" yX11_copyAll cX11_copyAll 2 none 2 := ⟨mt_900, mw_846, mw_1, mw_847, by decide +kernel, by decide +kernel, by decide +kernel⟩
theorem ar_12 (G : Gn) : AI G 12 36 := fun _ _ _ _ => rfl
theorem ci_12 {i : Nat} (h : i < 3) : i < cntK 12 := h
theorem ks_400 : (Int16.ofInt 400).toInt32 = (400 : Int32) := by decide +kernel
theorem mw_485 : Cond.code yX5_counting cX5_counting 6 (some .int) ∈ lw_G := lw_Gi 545 (by decide +kernel) rfl
theorem mw_483 : Cond.instanceMethod yX5_counting ∈ lw_G := lw_Gi 543 (by decide +kernel) rfl
theorem mw_484 : Cond.selects yX5_counting.cls yX5_counting yX5_counting ∈ lw_G := lw_Gi 544 (by decide +kernel) rfl
theorem mw_717 : Cond.methodLink "MilkDesk$World" 91 yX5_counting ∈ lw_G := lw_Gi 777 (by decide +kernel) rfl
theorem lk_X10_91 : LKV "MilkDesk$World" 91 yX5_counting.cls yX5_counting cX5_counting 6 (some .int) 4 := ⟨mw_717, mw_483, mw_484, mw_5, mw_485, by decide +kernel, by decide +kernel, by decide +kernel⟩
theorem mw_186 : Cond.fieldLink "MilkDesk$World" 95 "MilkDesk$Looks" "school" "[I" ∈ lw_G := lw_Gi 246 (by decide +kernel) rfl
theorem fk_X10_95 : FLK "MilkDesk$World" 95 5 1 RX6 TX6 4 := ⟨rfl, Nat.le_of_ble_eq_true rfl, mw_186, in_wsX60⟩
theorem mw_189 : Cond.fieldLink "MilkDesk$World" 98 "MilkDesk$Looks" "day" "[I" ∈ lw_G := lw_Gi 249 (by decide +kernel) rfl
theorem fk_X10_98 : FLK "MilkDesk$World" 98 5 2 RX6 TX6 4 := ⟨rfl, Nat.le_of_ble_eq_true rfl, mw_189, in_wsX60⟩
theorem mw_716 : Cond.code yX10_headsOfAll cX10_headsOfAll 5 (some .int) ∈ lw_G := lw_Gi 776 (by decide +kernel) rfl
theorem mw_2 : Cond.initialized yX10_headsOfAll.cls ∈ lw_G := lw_Gi 62 (by decide +kernel) rfl
theorem mw_714 : Cond.instanceMethod yX10_headsOfAll ∈ lw_G := lw_Gi 774 (by decide +kernel) rfl
theorem mw_715 : Cond.selects yX10_headsOfAll.cls yX10_headsOfAll yX10_headsOfAll ∈ lw_G := lw_Gi 775 (by decide +kernel) rfl
theorem mw_713 : Cond.methodLink "MilkDesk$World" 100 yX10_headsOfAll ∈ lw_G := lw_Gi 773 (by decide +kernel) rfl
theorem lk_X10_100 : LKV "MilkDesk$World" 100 yX10_headsOfAll.cls yX10_headsOfAll cX10_headsOfAll 5 (some .int) 2 := ⟨mw_713, mw_714, mw_715, mw_2, mw_716, by decide +kernel, by decide +kernel, by decide +kernel⟩
theorem rc_1 (G : Gn) : ∀ w i r q, ∃ fs, Esh G w 1 i r q = .inr (9, fs) := fun _ _ _ _ => ⟨_, rfl⟩
theorem mw_191 : Cond.fieldLink "MilkDesk$World" 104 "MilkDesk$Looks" "really" "[I" ∈ lw_G := lw_Gi 251 (by decide +kernel) rfl
theorem fk_X10_104 : FLK "MilkDesk$World" 104 5 3 RX6 TX6 4 := ⟨rfl, Nat.le_of_ble_eq_true rfl, mw_191, in_wsX60⟩
theorem mw_52 : Cond.fieldLink "MilkDesk$World" 107 "MilkDesk$Schools" "shire" "[I" ∈ lw_G := lw_Gi 112 (by decide +kernel) rfl
theorem fk_X10_107 : FLK "MilkDesk$World" 107 7 1 RX8 TX8 8 := ⟨rfl, Nat.le_of_ble_eq_true rfl, mw_52, in_wsX80⟩
theorem mw_945 : Cond.methodLink "MilkDesk$World" 110 Lib.Math.abs.name ∈ lw_G := lw_Gi 1005 (by decide +kernel) rfl
theorem kb_30 : (Int8.ofInt 30).toInt32 = (30 : Int32) := by decide +kernel
theorem nz_30 : ¬ (30 : Int32) = 0 := by decide +kernel
theorem nz_12 : ¬ (12 : Int32) = 0 := by decide +kernel
theorem mw_708 : Cond.code yX11_monthOf cX11_monthOf 1 (some .int) ∈ lw_G := lw_Gi 768 (by decide +kernel) rfl
theorem mw_707 : Cond.static yX11_monthOf ∈ lw_G := lw_Gi 767 (by decide +kernel) rfl
theorem mt_706 : Cond.methodLinkNest "MilkDesk$World" 116 yX11_monthOf "MilkDesk" ∈ lw_tbl := List.mem_of_getElem? (i := 766) (by decide +kernel)
theorem lk_X10_116 : LKN "MilkDesk$World" 116 "MilkDesk" yX11_monthOf cX11_monthOf 1 (some .int) 1 := ⟨mt_706, mw_707, mw_1, mw_708, by decide +kernel, by decide +kernel, by decide +kernel⟩
theorem mw_227 : Cond.fieldLink "MilkDesk$World" 60 "MilkDesk$World" "fields" "[I" ∈ lw_G := lw_Gi 287 (by decide +kernel) rfl
theorem fk_X10_60 : FLK "MilkDesk$World" 60 9 7 RX10 TX10 10 := ⟨rfl, Nat.le_of_ble_eq_true rfl, mw_227, in_wsX100⟩
theorem gr_1_7 (G : Gn) (i : Nat) : GVR G 1 9 7 i (ad G 13 i) := fun _ _ _ => ⟨_, rfl, rfl⟩
theorem kn_1 : (1 : Int32).toNatClampNeg = 1 ∧ ¬ (1 : Int32) < 0 := by decide +kernel
theorem kn_2 : (2 : Int32).toNatClampNeg = 2 ∧ ¬ (2 : Int32) < 0 := by decide +kernel
theorem kn_3 : (3 : Int32).toNatClampNeg = 3 ∧ ¬ (3 : Int32) < 0 := by decide +kernel
theorem kn_4 : (4 : Int32).toNatClampNeg = 4 ∧ ¬ (4 : Int32) < 0 := by decide +kernel
theorem ki_5 : Int32.ofInt 5 = (5 : Int32) := by decide +kernel
theorem mw_712 : Cond.code yX10_monthFact cX10_monthFact 3 (some .int) ∈ lw_G := lw_Gi 772 (by decide +kernel) rfl
theorem mw_711 : Cond.instanceMethod yX10_monthFact ∈ lw_G := lw_Gi 771 (by decide +kernel) rfl
theorem mp_16 : Cond.selects yX10_monthFact.cls yX10_monthFact yX10_monthFact ∈ lw_G := lw_Gi 16 (by decide +kernel) rfl
theorem mw_709 : Cond.methodLink "MilkDesk$World" 119 yX10_monthFact ∈ lw_G := lw_Gi 769 (by decide +kernel) rfl
theorem lk_X10_119 : LKV "MilkDesk$World" 119 yX10_monthFact.cls yX10_monthFact cX10_monthFact 3 (some .int) 2 := ⟨mw_709, mw_711, mp_16, mw_2, mw_712, by decide +kernel, by decide +kernel, by decide +kernel⟩
theorem kn_5 : (5 : Int32).toNatClampNeg = 5 ∧ ¬ (5 : Int32) < 0 := by decide +kernel
theorem kb_6 : (Int8.ofInt 6).toInt32 = (6 : Int32) := by decide +kernel
theorem kn_6 : (6 : Int32).toNatClampNeg = 6 ∧ ¬ (6 : Int32) < 0 := by decide +kernel
theorem mw_56 : Cond.fieldLink "MilkDesk$World" 122 "MilkDesk$Schools" "x" "[I" ∈ lw_G := lw_Gi 116 (by decide +kernel) rfl
theorem fk_X10_122 : FLK "MilkDesk$World" 122 7 2 RX8 TX8 8 := ⟨rfl, Nat.le_of_ble_eq_true rfl, mw_56, in_wsX80⟩
theorem kn_7 : (7 : Int32).toNatClampNeg = 7 ∧ ¬ (7 : Int32) < 0 := by decide +kernel
theorem mw_59 : Cond.fieldLink "MilkDesk$World" 125 "MilkDesk$Schools" "y" "[I" ∈ lw_G := lw_Gi 119 (by decide +kernel) rfl
theorem fk_X10_125 : FLK "MilkDesk$World" 125 7 3 RX8 TX8 8 := ⟨rfl, Nat.le_of_ble_eq_true rfl, mw_59, in_wsX80⟩
theorem kn_8 : (8 : Int32).toNatClampNeg = 8 ∧ ¬ (8 : Int32) < 0 := by decide +kernel
theorem kb_9 : (Int8.ofInt 9).toInt32 = (9 : Int32) := by decide +kernel
theorem kn_9 : (9 : Int32).toNatClampNeg = 9 ∧ ¬ (9 : Int32) < 0 := by decide +kernel
theorem mw_687 : Cond.code yX1_inForce cX1_inForce 8 (some .int) ∈ lw_G := lw_Gi 747 (by decide +kernel) rfl
theorem mw_685 : Cond.instanceMethod yX1_inForce ∈ lw_G := lw_Gi 745 (by decide +kernel) rfl
theorem mw_686 : Cond.selects yX1_inForce.cls yX1_inForce yX1_inForce ∈ lw_G := lw_Gi 746 (by decide +kernel) rfl
theorem mw_701 : Cond.methodLink "MilkDesk$World" 128 yX1_inForce ∈ lw_G := lw_Gi 761 (by decide +kernel) rfl
theorem lk_X10_128 : LKV "MilkDesk$World" 128 yX1_inForce.cls yX1_inForce cX1_inForce 8 (some .int) 3 := ⟨mw_701, mw_685, mw_686, mw_6, mw_687, by decide +kernel, by decide +kernel, by decide +kernel⟩
theorem mw_705 : Cond.code yX10_readFields cX10_readFields 4 none ∈ lw_G := lw_Gi 765 (by decide +kernel) rfl
theorem mw_704 : Cond.instanceMethod yX10_readFields ∈ lw_G := lw_Gi 764 (by decide +kernel) rfl
theorem mp_15 : Cond.selects yX10_readFields.cls yX10_readFields yX10_readFields ∈ lw_G := lw_Gi 15 (by decide +kernel) rfl
theorem mw_702 : Cond.methodLink "MilkDesk$World" 132 yX10_readFields ∈ lw_G := lw_Gi 762 (by decide +kernel) rfl
theorem lk_X10_132 : LKV "MilkDesk$World" 132 yX10_readFields.cls yX10_readFields cX10_readFields 4 none 3 := ⟨mw_702, mw_704, mp_15, mw_2, mw_705, by decide +kernel, by decide +kernel, by decide +kernel⟩
theorem mw_228 : Cond.fieldLink "MilkDesk$World" 63 "MilkDesk$World" "stack" "[I" ∈ lw_G := lw_Gi 288 (by decide +kernel) rfl
theorem fk_X10_63 : FLK "MilkDesk$World" 63 9 8 RX10 TX10 10 := ⟨rfl, Nat.le_of_ble_eq_true rfl, mw_228, in_wsX100⟩
theorem gr_1_8 (G : Gn) (i : Nat) : GVR G 1 9 8 i (ad G 14 i) := fun _ _ _ => ⟨_, rfl, rfl⟩
theorem mw_721 : Cond.code yX1_meets cX1_meets 5 (some .boolean) ∈ lw_G := lw_Gi 781 (by decide +kernel) rfl
theorem mw_719 : Cond.instanceMethod yX1_meets ∈ lw_G := lw_Gi 779 (by decide +kernel) rfl
theorem mw_720 : Cond.selects yX1_meets.cls yX1_meets yX1_meets ∈ lw_G := lw_Gi 780 (by decide +kernel) rfl
theorem mw_718 : Cond.methodLink "MilkDesk$World" 136 yX1_meets ∈ lw_G := lw_Gi 778 (by decide +kernel) rfl
theorem lk_X10_136 : LKV "MilkDesk$World" 136 yX1_meets.cls yX1_meets cX1_meets 5 (some .boolean) 3 := ⟨mw_718, mw_719, mw_720, mw_6, mw_721, by decide +kernel, by decide +kernel, by decide +kernel⟩
theorem mw_165 : Cond.fieldLink "MilkDesk$World" 140 "MilkDesk$ActBook" "count" "I" ∈ lw_G := lw_Gi 225 (by decide +kernel) rfl
theorem fk_X10_140 : FLK "MilkDesk$World" 140 1 0 RX1 TX1 3 := ⟨rfl, Nat.le_of_ble_eq_true rfl, mw_165, in_wsX10⟩
theorem mw_740 : Cond.methodLink "MilkDesk$World" 143 yX1_couldBeInForce ∈ lw_G := lw_Gi 800 (by decide +kernel) rfl
theorem lk_X10_143 : LKV "MilkDesk$World" 143 yX1_couldBeInForce.cls yX1_couldBeInForce cX1_couldBeInForce 6 (some .boolean) 4 := ⟨mw_740, mw_689, mw_690, mw_6, mw_691, by decide +kernel, by decide +kernel, by decide +kernel⟩
theorem mw_751 : Cond.code yX11_isSchoolDay cX11_isSchoolDay 1 (some .boolean) ∈ lw_G := lw_Gi 811 (by decide +kernel) rfl
theorem mw_750 : Cond.static yX11_isSchoolDay ∈ lw_G := lw_Gi 810 (by decide +kernel) rfl
theorem mt_749 : Cond.methodLinkNest "MilkDesk$World" 147 yX11_isSchoolDay "MilkDesk" ∈ lw_tbl := List.mem_of_getElem? (i := 809) (by decide +kernel)
theorem lk_X10_147 : LKN "MilkDesk$World" 147 "MilkDesk" yX11_isSchoolDay cX11_isSchoolDay 1 (some .boolean) 1 := ⟨mt_749, mw_750, mw_1, mw_751, by decide +kernel, by decide +kernel, by decide +kernel⟩
theorem mw_50 : Cond.fieldLink "MilkDesk$World" 151 "MilkDesk$Schools" "count" "I" ∈ lw_G := lw_Gi 110 (by decide +kernel) rfl
theorem fk_X10_151 : FLK "MilkDesk$World" 151 7 0 RX8 TX8 8 := ⟨rfl, Nat.le_of_ble_eq_true rfl, mw_50, in_wsX80⟩
theorem mw_763 : Cond.code yX10_ordered cX10_ordered 7 (some .int) ∈ lw_G := lw_Gi 823 (by decide +kernel) rfl
theorem mw_761 : Cond.instanceMethod yX10_ordered ∈ lw_G := lw_Gi 821 (by decide +kernel) rfl
theorem mw_762 : Cond.selects yX10_ordered.cls yX10_ordered yX10_ordered ∈ lw_G := lw_Gi 822 (by decide +kernel) rfl
theorem mw_760 : Cond.methodLink "MilkDesk$World" 152 yX10_ordered ∈ lw_G := lw_Gi 820 (by decide +kernel) rfl
theorem lk_X10_152 : LKV "MilkDesk$World" 152 yX10_ordered.cls yX10_ordered cX10_ordered 7 (some .int) 3 := ⟨mw_760, mw_761, mw_762, mw_2, mw_763, by decide +kernel, by decide +kernel, by decide +kernel⟩
theorem kb_20 : (Int8.ofInt 20).toInt32 = (20 : Int32) := by decide +kernel
theorem mw_700 : Cond.code yX10_purposeHolds cX10_purposeHolds 6 (some .boolean) ∈ lw_G := lw_Gi 760 (by decide +kernel) rfl
theorem mw_698 : Cond.instanceMethod yX10_purposeHolds ∈ lw_G := lw_Gi 758 (by decide +kernel) rfl
theorem mw_699 : Cond.selects yX10_purposeHolds.cls yX10_purposeHolds yX10_purposeHolds ∈ lw_G := lw_Gi 759 (by decide +kernel) rfl
theorem mw_779 : Cond.methodLink "MilkDesk$World" 186 yX10_purposeHolds ∈ lw_G := lw_Gi 839 (by decide +kernel) rfl
theorem lk_X10_186 : LKV "MilkDesk$World" 186 yX10_purposeHolds.cls yX10_purposeHolds cX10_purposeHolds 6 (some .boolean) 4 := ⟨mw_779, mw_698, mw_699, mw_2, mw_700, by decide +kernel, by decide +kernel, by decide +kernel⟩
theorem mw_62 : Cond.fieldLink "MilkDesk$World" 189 "MilkDesk$Schools" "leaves" "[I" ∈ lw_G := lw_Gi 122 (by decide +kernel) rfl
theorem fk_X10_189 : FLK "MilkDesk$World" 189 7 4 RX8 TX8 8 := ⟨rfl, Nat.le_of_ble_eq_true rfl, mw_62, in_wsX80⟩
theorem mw_65 : Cond.fieldLink "MilkDesk$World" 192 "MilkDesk$Schools" "loses" "[I" ∈ lw_G := lw_Gi 125 (by decide +kernel) rfl
theorem fk_X10_192 : FLK "MilkDesk$World" 192 7 5 RX8 TX8 8 := ⟨rfl, Nat.le_of_ble_eq_true rfl, mw_65, in_wsX80⟩
theorem mw_774 : Cond.code yX8_addTo cX8_addTo 4 none ∈ lw_G := lw_Gi 834 (by decide +kernel) rfl
theorem mw_772 : Cond.instanceMethod yX8_addTo ∈ lw_G := lw_Gi 832 (by decide +kernel) rfl
theorem mw_773 : Cond.selects yX8_addTo.cls yX8_addTo yX8_addTo ∈ lw_G := lw_Gi 833 (by decide +kernel) rfl
theorem mw_771 : Cond.methodLink "MilkDesk$World" 174 yX8_addTo ∈ lw_G := lw_Gi 831 (by decide +kernel) rfl
theorem lk_X10_174 : LKV "MilkDesk$World" 174 yX8_addTo.cls yX8_addTo cX8_addTo 4 none 3 := ⟨mw_771, mw_772, mw_773, mw_3, mw_774, by decide +kernel, by decide +kernel, by decide +kernel⟩
theorem mw_783 : Cond.code yX4_price cX4_price 3 (some .int) ∈ lw_G := lw_Gi 843 (by decide +kernel) rfl
theorem mw_781 : Cond.instanceMethod yX4_price ∈ lw_G := lw_Gi 841 (by decide +kernel) rfl
theorem mw_782 : Cond.selects yX4_price.cls yX4_price yX4_price ∈ lw_G := lw_Gi 842 (by decide +kernel) rfl
theorem mw_780 : Cond.methodLink "MilkDesk$World" 195 yX4_price ∈ lw_G := lw_Gi 840 (by decide +kernel) rfl
theorem lk_X10_195 : LKV "MilkDesk$World" 195 yX4_price.cls yX4_price cX4_price 3 (some .int) 1 := ⟨mw_780, mw_781, mw_782, mw_4, mw_783, by decide +kernel, by decide +kernel, by decide +kernel⟩
theorem mw_787 : Cond.code yX3_paid cX3_paid 5 (some .int) ∈ lw_G := lw_Gi 847 (by decide +kernel) rfl
theorem mw_20 : Cond.initialized yX3_paid.cls ∈ lw_G := lw_Gi 80 (by decide +kernel) rfl
theorem mw_786 : Cond.static yX3_paid ∈ lw_G := lw_Gi 846 (by decide +kernel) rfl
theorem mw_785 : Cond.methodLink "MilkDesk$World" 200 yX3_paid ∈ lw_G := lw_Gi 845 (by decide +kernel) rfl
theorem lk_X10_200 : LKS "MilkDesk$World" 200 yX3_paid cX3_paid 5 (some .int) 3 := ⟨mw_785, mw_786, mw_20, mw_787, by decide +kernel, by decide +kernel, by decide +kernel⟩
theorem mw_229 : Cond.fieldLink "MilkDesk$World" 159 "MilkDesk$World" "cowsLeft" "I" ∈ lw_G := lw_Gi 289 (by decide +kernel) rfl
theorem fk_X10_159 : FLK "MilkDesk$World" 159 9 9 RX10 TX10 10 := ⟨rfl, Nat.le_of_ble_eq_true rfl, mw_229, in_wsX100⟩
theorem pf_X10_9 : parseFieldDescriptor (TX10 9).2.2.1 = some .int := by decide +kernel
theorem pv_1_9 (G : Gn) : PV G 1 9 9 := fun _ _ _ _ _ => ⟨_, rfl, Nat.le_of_ble_eq_true rfl, rfl⟩
theorem mw_759 : Cond.code yX4_openDay cX4_openDay 2 none ∈ lw_G := lw_Gi 819 (by decide +kernel) rfl
theorem mw_757 : Cond.instanceMethod yX4_openDay ∈ lw_G := lw_Gi 817 (by decide +kernel) rfl
theorem mw_758 : Cond.selects yX4_openDay.cls yX4_openDay yX4_openDay ∈ lw_G := lw_Gi 818 (by decide +kernel) rfl
theorem mw_756 : Cond.methodLink "MilkDesk$World" 162 yX4_openDay ∈ lw_G := lw_Gi 816 (by decide +kernel) rfl
theorem lk_X10_162 : LKV "MilkDesk$World" 162 yX4_openDay.cls yX4_openDay cX4_openDay 2 none 0 := ⟨mw_756, mw_757, mw_758, mw_4, mw_759, by decide +kernel, by decide +kernel, by decide +kernel⟩
theorem mw_791 : Cond.code yX4_closeDay cX4_closeDay 2 none ∈ lw_G := lw_Gi 851 (by decide +kernel) rfl
theorem mw_789 : Cond.instanceMethod yX4_closeDay ∈ lw_G := lw_Gi 849 (by decide +kernel) rfl
theorem mw_790 : Cond.selects yX4_closeDay.cls yX4_closeDay yX4_closeDay ∈ lw_G := lw_Gi 850 (by decide +kernel) rfl
theorem mw_788 : Cond.methodLink "MilkDesk$World" 183 yX4_closeDay ∈ lw_G := lw_Gi 848 (by decide +kernel) rfl
theorem lk_X10_183 : LKV "MilkDesk$World" 183 yX4_closeDay.cls yX4_closeDay cX4_closeDay 2 none 0 := ⟨mw_788, mw_789, mw_790, mw_4, mw_791, by decide +kernel, by decide +kernel, by decide +kernel⟩
theorem mw_764 : Cond.methodLink "MilkDesk$World" 165 yX4_winner ∈ lw_G := lw_Gi 824 (by decide +kernel) rfl
theorem lk_X10_165 : LKV "MilkDesk$World" 165 yX4_winner.cls yX4_winner cX4_winner 6 (some .int) 1 := ⟨mw_764, mw_428, mw_429, mw_4, mw_430, by decide +kernel, by decide +kernel, by decide +kernel⟩
theorem gi_1_9 (G : Gn) : GVI G 1 9 9 := fun _ _ _ _ => ⟨_, rfl, rfl⟩
theorem mw_765 : Cond.methodLink "MilkDesk$World" 168 Lib.Math.min.name ∈ lw_G := lw_Gi 825 (by decide +kernel) rfl
theorem mw_769 : Cond.code yX4_send cX4_send 4 (some .int) ∈ lw_G := lw_Gi 829 (by decide +kernel) rfl
theorem mw_767 : Cond.instanceMethod yX4_send ∈ lw_G := lw_Gi 827 (by decide +kernel) rfl
theorem mw_768 : Cond.selects yX4_send.cls yX4_send yX4_send ∈ lw_G := lw_Gi 828 (by decide +kernel) rfl
theorem mw_766 : Cond.methodLink "MilkDesk$World" 171 yX4_send ∈ lw_G := lw_Gi 826 (by decide +kernel) rfl
theorem lk_X10_171 : LKV "MilkDesk$World" 171 yX4_send.cls yX4_send cX4_send 4 (some .int) 2 := ⟨mw_766, mw_767, mw_768, mw_4, mw_769, by decide +kernel, by decide +kernel, by decide +kernel⟩
theorem mw_778 : Cond.code yX10_handOut cX10_handOut 11 (some .int) ∈ lw_G := lw_Gi 838 (by decide +kernel) rfl
theorem mw_777 : Cond.instanceMethod yX10_handOut ∈ lw_G := lw_Gi 837 (by decide +kernel) rfl
theorem mp_18 : Cond.selects yX10_handOut.cls yX10_handOut yX10_handOut ∈ lw_G := lw_Gi 18 (by decide +kernel) rfl
theorem mw_775 : Cond.methodLink "MilkDesk$World" 177 yX10_handOut ∈ lw_G := lw_Gi 835 (by decide +kernel) rfl
theorem lk_X10_177 : LKV "MilkDesk$World" 177 yX10_handOut.cls yX10_handOut cX10_handOut 11 (some .int) 3 := ⟨mw_775, mw_777, mp_18, mw_2, mw_778, by decide +kernel, by decide +kernel, by decide +kernel⟩
theorem mw_110 : Cond.fieldLink "MilkDesk$World" 180 "MilkDesk$Dairies" "returning" "[I" ∈ lw_G := lw_Gi 170 (by decide +kernel) rfl
theorem fk_X10_180 : FLK "MilkDesk$World" 180 3 6 RX4 TX4 9 := ⟨rfl, Nat.le_of_ble_eq_true rfl, mw_110, in_wsX40⟩
theorem mw_755 : Cond.code yX10_passSchoolDay cX10_passSchoolDay 7 none ∈ lw_G := lw_Gi 815 (by decide +kernel) rfl
theorem mw_754 : Cond.instanceMethod yX10_passSchoolDay ∈ lw_G := lw_Gi 814 (by decide +kernel) rfl
theorem mp_17 : Cond.selects yX10_passSchoolDay.cls yX10_passSchoolDay yX10_passSchoolDay ∈ lw_G := lw_Gi 17 (by decide +kernel) rfl
theorem mw_752 : Cond.methodLink "MilkDesk$World" 155 yX10_passSchoolDay ∈ lw_G := lw_Gi 812 (by decide +kernel) rfl
theorem lk_X10_155 : LKV "MilkDesk$World" 155 yX10_passSchoolDay.cls yX10_passSchoolDay cX10_passSchoolDay 7 none 1 := ⟨mw_752, mw_754, mp_17, mw_2, mw_755, by decide +kernel, by decide +kernel, by decide +kernel⟩
theorem mw_99 : Cond.fieldLink "MilkDesk$World" 203 "MilkDesk$Dairies" "x" "[I" ∈ lw_G := lw_Gi 159 (by decide +kernel) rfl
theorem fk_X10_203 : FLK "MilkDesk$World" 203 3 1 RX4 TX4 9 := ⟨rfl, Nat.le_of_ble_eq_true rfl, mw_99, in_wsX40⟩
theorem mw_102 : Cond.fieldLink "MilkDesk$World" 204 "MilkDesk$Dairies" "y" "[I" ∈ lw_G := lw_Gi 162 (by decide +kernel) rfl
theorem fk_X10_204 : FLK "MilkDesk$World" 204 3 2 RX4 TX4 9 := ⟨rfl, Nat.le_of_ble_eq_true rfl, mw_102, in_wsX40⟩
theorem mw_344 : Cond.fieldLink "MilkDesk$World" 205 "MilkDesk$Shelf" "size" "I" ∈ lw_G := lw_Gi 404 (by decide +kernel) rfl
theorem fk_X10_205 : FLK "MilkDesk$World" 205 8 5 RX9 TX9 7 := ⟨rfl, Nat.le_of_ble_eq_true rfl, mw_344, in_wsX90⟩
theorem mw_349 : Cond.fieldLink "MilkDesk$World" 210 "MilkDesk$Shelf" "cells" "[I" ∈ lw_G := lw_Gi 409 (by decide +kernel) rfl
theorem fk_X10_210 : FLK "MilkDesk$World" 210 8 6 RX9 TX9 7 := ⟨rfl, Nat.le_of_ble_eq_true rfl, mw_349, in_wsX90⟩
theorem mw_865 : Cond.methodLink "MilkDesk$World" 213 yX8_has ∈ lw_G := lw_Gi 925 (by decide +kernel) rfl
theorem lk_X10_213 : LKV "MilkDesk$World" 213 yX8_has.cls yX8_has cX8_has 2 (some .boolean) 1 := ⟨mw_865, mw_404, mw_405, mw_3, mw_406, by decide +kernel, by decide +kernel, by decide +kernel⟩
theorem mt_866 : Cond.methodLinkNest "MilkDesk$World" 216 yX11_far "MilkDesk" ∈ lw_tbl := List.mem_of_getElem? (i := 926) (by decide +kernel)
theorem lk_X10_216 : LKN "MilkDesk$World" 216 "MilkDesk" yX11_far cX11_far 4 (some .int) 4 := ⟨mt_866, mw_840, mw_1, mw_841, by decide +kernel, by decide +kernel, by decide +kernel⟩
theorem mw_69 : Cond.fieldLink "MilkDesk$World" 219 "MilkDesk$Schools" "latest" "[I" ∈ lw_G := lw_Gi 129 (by decide +kernel) rfl
theorem fk_X10_219 : FLK "MilkDesk$World" 219 7 6 RX8 TX8 8 := ⟨rfl, Nat.le_of_ble_eq_true rfl, mw_69, in_wsX80⟩
theorem mw_394 : Cond.code yX11_within cX11_within 3 (some .boolean) ∈ lw_G := lw_Gi 454 (by decide +kernel) rfl
theorem mw_393 : Cond.static yX11_within ∈ lw_G := lw_Gi 453 (by decide +kernel) rfl
theorem mw_392 : Cond.methodLink "MilkDesk" 43 yX11_within ∈ lw_G := lw_Gi 452 (by decide +kernel) rfl
theorem lk_X11_43 : LKS "MilkDesk" 43 yX11_within cX11_within 3 (some .boolean) 3 := ⟨mw_392, mw_393, mw_1, mw_394, by decide +kernel, by decide +kernel, by decide +kernel⟩
theorem ks_9999 : (Int16.ofInt 9999).toInt32 = (9999 : Int32) := by decide +kernel
theorem mw_366 : Cond.fieldLink "MilkDesk" 12 "MilkDesk" "now" "LMilkDesk$World;" ∈ lw_G := lw_Gi 426 (by decide +kernel) rfl
theorem fk_X11_12 : FLK "MilkDesk" 12 10 0 RX11 TX11 7 := ⟨rfl, Nat.le_of_ble_eq_true rfl, mw_366, in_wsX110⟩
theorem gr_0_0 (G : Gn) (i : Nat) : GVR G 0 10 0 i (ad G 1 0) := fun _ _ _ => ⟨_, rfl, rfl⟩
theorem ci_0 {i : Nat} (h : i < 1) : i < cntK 0 := h
theorem mw_216 : Cond.fieldLink "MilkDesk" 47 "MilkDesk$World" "schools" "LMilkDesk$Schools;" ∈ lw_G := lw_Gi 276 (by decide +kernel) rfl
theorem fk_X11_47 : FLK "MilkDesk" 47 9 1 RX10 TX10 10 := ⟨rfl, Nat.le_of_ble_eq_true rfl, mw_216, in_wsX100⟩
theorem mw_48 : Cond.fieldLink "MilkDesk" 51 "MilkDesk$Schools" "count" "I" ∈ lw_G := lw_Gi 108 (by decide +kernel) rfl
theorem fk_X11_51 : FLK "MilkDesk" 51 7 0 RX8 TX8 8 := ⟨rfl, Nat.le_of_ble_eq_true rfl, mw_48, in_wsX80⟩
theorem mw_398 : Cond.code yX8_come cX8_come 4 (some .int) ∈ lw_G := lw_Gi 458 (by decide +kernel) rfl
theorem mw_396 : Cond.instanceMethod yX8_come ∈ lw_G := lw_Gi 456 (by decide +kernel) rfl
theorem mw_397 : Cond.selects yX8_come.cls yX8_come yX8_come ∈ lw_G := lw_Gi 457 (by decide +kernel) rfl
theorem mw_395 : Cond.methodLink "MilkDesk" 57 yX8_come ∈ lw_G := lw_Gi 455 (by decide +kernel) rfl
theorem lk_X11_57 : LKV "MilkDesk" 57 yX8_come.cls yX8_come cX8_come 4 (some .int) 2 := ⟨mw_395, mw_396, mw_397, mw_3, mw_398, by decide +kernel, by decide +kernel, by decide +kernel⟩
theorem kb_m2 : (Int8.ofInt (-2)).toInt32 = (-2 : Int32) := by decide +kernel
theorem ks_999 : (Int16.ofInt 999).toInt32 = (999 : Int32) := by decide +kernel
theorem mw_403 : Cond.methodLink "MilkDesk" 61 yX8_has ∈ lw_G := lw_Gi 463 (by decide +kernel) rfl
theorem lk_X11_61 : LKV "MilkDesk" 61 yX8_has.cls yX8_has cX8_has 2 (some .boolean) 1 := ⟨mw_403, mw_404, mw_405, mw_3, mw_406, by decide +kernel, by decide +kernel, by decide +kernel⟩
theorem mw_68 : Cond.fieldLink "MilkDesk" 72 "MilkDesk$Schools" "latest" "[I" ∈ lw_G := lw_Gi 128 (by decide +kernel) rfl
theorem fk_X11_72 : FLK "MilkDesk" 72 7 6 RX8 TX8 8 := ⟨rfl, Nat.le_of_ble_eq_true rfl, mw_68, in_wsX80⟩
theorem mw_64 : Cond.fieldLink "MilkDesk" 69 "MilkDesk$Schools" "loses" "[I" ∈ lw_G := lw_Gi 124 (by decide +kernel) rfl
theorem fk_X11_69 : FLK "MilkDesk" 69 7 5 RX8 TX8 8 := ⟨rfl, Nat.le_of_ble_eq_true rfl, mw_64, in_wsX80⟩
theorem mw_61 : Cond.fieldLink "MilkDesk" 65 "MilkDesk$Schools" "leaves" "[I" ∈ lw_G := lw_Gi 121 (by decide +kernel) rfl
theorem fk_X11_65 : FLK "MilkDesk" 65 7 4 RX8 TX8 8 := ⟨rfl, Nat.le_of_ble_eq_true rfl, mw_61, in_wsX80⟩
theorem mw_218 : Cond.fieldLink "MilkDesk" 75 "MilkDesk$World" "dairies" "LMilkDesk$Dairies;" ∈ lw_G := lw_Gi 278 (by decide +kernel) rfl
theorem fk_X11_75 : FLK "MilkDesk" 75 9 2 RX10 TX10 10 := ⟨rfl, Nat.le_of_ble_eq_true rfl, mw_218, in_wsX100⟩
theorem mw_97 : Cond.fieldLink "MilkDesk" 79 "MilkDesk$Dairies" "count" "I" ∈ lw_G := lw_Gi 157 (by decide +kernel) rfl
theorem fk_X11_79 : FLK "MilkDesk" 79 3 0 RX4 TX4 9 := ⟨rfl, Nat.le_of_ble_eq_true rfl, mw_97, in_wsX40⟩
theorem mw_414 : Cond.code yX4_come cX4_come 6 (some .int) ∈ lw_G := lw_Gi 474 (by decide +kernel) rfl
theorem mw_412 : Cond.instanceMethod yX4_come ∈ lw_G := lw_Gi 472 (by decide +kernel) rfl
theorem mw_413 : Cond.selects yX4_come.cls yX4_come yX4_come ∈ lw_G := lw_Gi 473 (by decide +kernel) rfl
theorem mw_411 : Cond.methodLink "MilkDesk" 82 yX4_come ∈ lw_G := lw_Gi 471 (by decide +kernel) rfl
theorem lk_X11_82 : LKV "MilkDesk" 82 yX4_come.cls yX4_come cX4_come 6 (some .int) 3 := ⟨mw_411, mw_412, mw_413, mw_4, mw_414, by decide +kernel, by decide +kernel, by decide +kernel⟩
theorem mw_422 : Cond.code yX4_has cX4_has 2 (some .boolean) ∈ lw_G := lw_Gi 482 (by decide +kernel) rfl
theorem mw_420 : Cond.instanceMethod yX4_has ∈ lw_G := lw_Gi 480 (by decide +kernel) rfl
theorem mw_421 : Cond.selects yX4_has.cls yX4_has yX4_has ∈ lw_G := lw_Gi 481 (by decide +kernel) rfl
theorem mw_419 : Cond.methodLink "MilkDesk" 85 yX4_has ∈ lw_G := lw_Gi 479 (by decide +kernel) rfl
theorem lk_X11_85 : LKV "MilkDesk" 85 yX4_has.cls yX4_has cX4_has 2 (some .boolean) 1 := ⟨mw_419, mw_420, mw_421, mw_4, mw_422, by decide +kernel, by decide +kernel, by decide +kernel⟩
theorem mw_108 : Cond.fieldLink "MilkDesk" 86 "MilkDesk$Dairies" "bids" "[I" ∈ lw_G := lw_Gi 168 (by decide +kernel) rfl
theorem fk_X11_86 : FLK "MilkDesk" 86 3 5 RX4 TX4 9 := ⟨rfl, Nat.le_of_ble_eq_true rfl, mw_108, in_wsX40⟩
theorem mw_427 : Cond.methodLink "MilkDesk" 89 yX4_winner ∈ lw_G := lw_Gi 487 (by decide +kernel) rfl
theorem lk_X11_89 : LKV "MilkDesk" 89 yX4_winner.cls yX4_winner cX4_winner 6 (some .int) 1 := ⟨mw_427, mw_428, mw_429, mw_4, mw_430, by decide +kernel, by decide +kernel, by decide +kernel⟩
theorem mw_105 : Cond.fieldLink "MilkDesk" 93 "MilkDesk$Dairies" "bottles" "[I" ∈ lw_G := lw_Gi 165 (by decide +kernel) rfl
theorem fk_X11_93 : FLK "MilkDesk" 93 3 3 RX4 TX4 9 := ⟨rfl, Nat.le_of_ble_eq_true rfl, mw_105, in_wsX40⟩
theorem mw_439 : Cond.constant "MilkDesk" 96 (99999) ∈ lw_G := lw_Gi 499 (by decide +kernel) rfl
theorem kb_99 : (Int8.ofInt 99).toInt32 = (99 : Int32) := by decide +kernel
theorem mw_226 : Cond.fieldLink "MilkDesk" 97 "MilkDesk$World" "months" "[I" ∈ lw_G := lw_Gi 286 (by decide +kernel) rfl
theorem fk_X11_97 : FLK "MilkDesk" 97 9 6 RX10 TX10 10 := ⟨rfl, Nat.le_of_ble_eq_true rfl, mw_226, in_wsX100⟩
theorem mw_370 : Cond.fieldLink "MilkDesk" 38 "MilkDesk" "shelves" "[LMilkDesk$Shelf;" ∈ lw_G := lw_Gi 430 (by decide +kernel) rfl
theorem fk_X11_38 : FLK "MilkDesk" 38 10 4 RX11 TX11 7 := ⟨rfl, Nat.le_of_ble_eq_true rfl, mw_370, in_wsX110⟩
theorem gr_0_4 (G : Gn) (i : Nat) : GVR G 0 10 4 i (ad G 11 i) := fun _ _ _ => ⟨_, rfl, rfl⟩
theorem al_8 : Int32.ofNat 8 = (8 : Int32) := by decide +kernel
theorem mw_454 : Cond.code yX9_isEmpty cX9_isEmpty 1 (some .boolean) ∈ lw_G := lw_Gi 514 (by decide +kernel) rfl
theorem mw_452 : Cond.instanceMethod yX9_isEmpty ∈ lw_G := lw_Gi 512 (by decide +kernel) rfl
theorem mw_453 : Cond.selects yX9_isEmpty.cls yX9_isEmpty yX9_isEmpty ∈ lw_G := lw_Gi 513 (by decide +kernel) rfl
theorem mw_451 : Cond.methodLink "MilkDesk" 298 yX9_isEmpty ∈ lw_G := lw_Gi 511 (by decide +kernel) rfl
theorem lk_X11_298 : LKV "MilkDesk" 298 yX9_isEmpty.cls yX9_isEmpty cX9_isEmpty 1 (some .boolean) 0 := ⟨mw_451, mw_452, mw_453, mw_11, mw_454, by decide +kernel, by decide +kernel, by decide +kernel⟩
theorem mw_458 : Cond.code yX9_isRow cX9_isRow 1 (some .boolean) ∈ lw_G := lw_Gi 518 (by decide +kernel) rfl
theorem mw_456 : Cond.instanceMethod yX9_isRow ∈ lw_G := lw_Gi 516 (by decide +kernel) rfl
theorem mw_457 : Cond.selects yX9_isRow.cls yX9_isRow yX9_isRow ∈ lw_G := lw_Gi 517 (by decide +kernel) rfl
theorem mw_455 : Cond.methodLink "MilkDesk" 302 yX9_isRow ∈ lw_G := lw_Gi 515 (by decide +kernel) rfl
theorem lk_X11_302 : LKV "MilkDesk" 302 yX9_isRow.cls yX9_isRow cX9_isRow 1 (some .boolean) 0 := ⟨mw_455, mw_456, mw_457, mw_11, mw_458, by decide +kernel, by decide +kernel, by decide +kernel⟩
theorem kb_m12 : (Int8.ofInt (-12)).toInt32 = (-12 : Int32) := by decide +kernel
theorem kb_m11 : (Int8.ofInt (-11)).toInt32 = (-11 : Int32) := by decide +kernel
theorem mw_447 : Cond.code yX11_shelfAt cX11_shelfAt 2 (some (.object "MilkDesk$Shelf")) ∈ lw_G := lw_Gi 507 (by decide +kernel) rfl
theorem mw_446 : Cond.instanceMethod yX11_shelfAt ∈ lw_G := lw_Gi 506 (by decide +kernel) rfl
theorem mp_0 : Cond.selects yX11_shelfAt.cls yX11_shelfAt yX11_shelfAt ∈ lw_G := lw_Gi 0 (by decide +kernel) rfl
theorem mw_444 : Cond.methodLink "MilkDesk" 100 yX11_shelfAt ∈ lw_G := lw_Gi 504 (by decide +kernel) rfl
theorem lk_X11_100 : LKV "MilkDesk" 100 yX11_shelfAt.cls yX11_shelfAt cX11_shelfAt 2 (some (.object "MilkDesk$Shelf")) 1 := ⟨mw_444, mw_446, mp_0, mw_1, mw_447, by decide +kernel, by decide +kernel, by decide +kernel⟩
theorem rc_0 (G : Gn) : ∀ w i r q, ∃ fs, Esh G w 0 i r q = .inr (10, fs) := fun _ _ _ _ => ⟨_, rfl⟩
theorem mw_220 : Cond.fieldLink "MilkDesk" 104 "MilkDesk$World" "heads" "LMilkDesk$HeadRows;" ∈ lw_G := lw_Gi 280 (by decide +kernel) rfl
theorem fk_X11_104 : FLK "MilkDesk" 104 9 3 RX10 TX10 10 := ⟨rfl, Nat.le_of_ble_eq_true rfl, mw_220, in_wsX100⟩
theorem mw_140 : Cond.fieldLink "MilkDesk" 108 "MilkDesk$HeadRows" "count" "I" ∈ lw_G := lw_Gi 200 (by decide +kernel) rfl
theorem fk_X11_108 : FLK "MilkDesk" 108 4 0 RX5 TX5 5 := ⟨rfl, Nat.le_of_ble_eq_true rfl, mw_140, in_wsX50⟩
theorem mw_450 : Cond.code yX11_rowRefusal cX11_rowRefusal 1 (some .int) ∈ lw_G := lw_Gi 510 (by decide +kernel) rfl
theorem mw_449 : Cond.static yX11_rowRefusal ∈ lw_G := lw_Gi 509 (by decide +kernel) rfl
theorem mw_448 : Cond.methodLink "MilkDesk" 111 yX11_rowRefusal ∈ lw_G := lw_Gi 508 (by decide +kernel) rfl
theorem lk_X11_111 : LKS "MilkDesk" 111 yX11_rowRefusal cX11_rowRefusal 1 (some .int) 1 := ⟨mw_448, mw_449, mw_1, mw_450, by decide +kernel, by decide +kernel, by decide +kernel⟩
theorem mw_214 : Cond.fieldLink "MilkDesk" 115 "MilkDesk$World" "day" "I" ∈ lw_G := lw_Gi 274 (by decide +kernel) rfl
theorem fk_X11_115 : FLK "MilkDesk" 115 9 0 RX10 TX10 10 := ⟨rfl, Nat.le_of_ble_eq_true rfl, mw_214, in_wsX100⟩
theorem mw_462 : Cond.code yX5_tell cX5_tell 9 (some .int) ∈ lw_G := lw_Gi 522 (by decide +kernel) rfl
theorem mw_460 : Cond.instanceMethod yX5_tell ∈ lw_G := lw_Gi 520 (by decide +kernel) rfl
theorem mw_461 : Cond.selects yX5_tell.cls yX5_tell yX5_tell ∈ lw_G := lw_Gi 521 (by decide +kernel) rfl
theorem mw_459 : Cond.methodLink "MilkDesk" 118 yX5_tell ∈ lw_G := lw_Gi 519 (by decide +kernel) rfl
theorem lk_X11_118 : LKV "MilkDesk" 118 yX5_tell.cls yX5_tell cX5_tell 9 (some .int) 3 := ⟨mw_459, mw_460, mw_461, mw_5, mw_462, by decide +kernel, by decide +kernel, by decide +kernel⟩
theorem mw_482 : Cond.methodLink "MilkDesk" 122 yX5_counting ∈ lw_G := lw_Gi 542 (by decide +kernel) rfl
theorem lk_X11_122 : LKV "MilkDesk" 122 yX5_counting.cls yX5_counting cX5_counting 6 (some .int) 4 := ⟨mw_482, mw_483, mw_484, mw_5, mw_485, by decide +kernel, by decide +kernel, by decide +kernel⟩
theorem mw_339 : Cond.fieldLink "MilkDesk" 305 "MilkDesk$Shelf" "sort" "I" ∈ lw_G := lw_Gi 399 (by decide +kernel) rfl
theorem fk_X11_305 : FLK "MilkDesk" 305 8 4 RX9 TX9 7 := ⟨rfl, Nat.le_of_ble_eq_true rfl, mw_339, in_wsX90⟩
theorem mw_492 : Cond.code yX11_byteRowRefusal cX11_byteRowRefusal 2 (some .int) ∈ lw_G := lw_Gi 552 (by decide +kernel) rfl
theorem mw_491 : Cond.static yX11_byteRowRefusal ∈ lw_G := lw_Gi 551 (by decide +kernel) rfl
theorem mw_490 : Cond.methodLink "MilkDesk" 126 yX11_byteRowRefusal ∈ lw_G := lw_Gi 550 (by decide +kernel) rfl
theorem lk_X11_126 : LKS "MilkDesk" 126 yX11_byteRowRefusal cX11_byteRowRefusal 2 (some .int) 1 := ⟨mw_490, mw_491, mw_1, mw_492, by decide +kernel, by decide +kernel, by decide +kernel⟩
theorem mw_371 : Cond.fieldLink "MilkDesk" 25 "MilkDesk" "reader" "LMilkDesk$ActReader;" ∈ lw_G := lw_Gi 431 (by decide +kernel) rfl
theorem fk_X11_25 : FLK "MilkDesk" 25 10 5 RX11 TX11 7 := ⟨rfl, Nat.le_of_ble_eq_true rfl, mw_371, in_wsX110⟩
theorem gr_0_5 (G : Gn) (i : Nat) : GVR G 0 10 5 i (ad G 8 0) := fun _ _ _ => ⟨_, rfl, rfl⟩
theorem mw_496 : Cond.code yX2_firstFault cX2_firstFault 2 (some .int) ∈ lw_G := lw_Gi 556 (by decide +kernel) rfl
theorem mw_494 : Cond.instanceMethod yX2_firstFault ∈ lw_G := lw_Gi 554 (by decide +kernel) rfl
theorem mw_495 : Cond.selects yX2_firstFault.cls yX2_firstFault yX2_firstFault ∈ lw_G := lw_Gi 555 (by decide +kernel) rfl
theorem mw_493 : Cond.methodLink "MilkDesk" 129 yX2_firstFault ∈ lw_G := lw_Gi 553 (by decide +kernel) rfl
theorem lk_X11_129 : LKV "MilkDesk" 129 yX2_firstFault.cls yX2_firstFault cX2_firstFault 2 (some .int) 1 := ⟨mw_493, mw_494, mw_495, mw_9, mw_496, by decide +kernel, by decide +kernel, by decide +kernel⟩
theorem mw_222 : Cond.fieldLink "MilkDesk" 132 "MilkDesk$World" "acts" "LMilkDesk$ActBook;" ∈ lw_G := lw_Gi 282 (by decide +kernel) rfl
theorem fk_X11_132 : FLK "MilkDesk" 132 9 4 RX10 TX10 10 := ⟨rfl, Nat.le_of_ble_eq_true rfl, mw_222, in_wsX100⟩
theorem mw_166 : Cond.fieldLink "MilkDesk" 136 "MilkDesk$ActBook" "count" "I" ∈ lw_G := lw_Gi 226 (by decide +kernel) rfl
theorem fk_X11_136 : FLK "MilkDesk" 136 1 0 RX1 TX1 3 := ⟨rfl, Nat.le_of_ble_eq_true rfl, mw_166, in_wsX10⟩
theorem kb_m100 : (Int8.ofInt (-100)).toInt32 = (-100 : Int32) := by decide +kernel
theorem mw_636 : Cond.code yX2_toAct cX2_toAct 3 (some (.object "MilkDesk$Act")) ∈ lw_G := lw_Gi 696 (by decide +kernel) rfl
theorem mw_634 : Cond.instanceMethod yX2_toAct ∈ lw_G := lw_Gi 694 (by decide +kernel) rfl
theorem mw_635 : Cond.selects yX2_toAct.cls yX2_toAct yX2_toAct ∈ lw_G := lw_Gi 695 (by decide +kernel) rfl
theorem mw_633 : Cond.methodLink "MilkDesk" 139 yX2_toAct ∈ lw_G := lw_Gi 693 (by decide +kernel) rfl
theorem lk_X11_139 : LKV "MilkDesk" 139 yX2_toAct.cls yX2_toAct cX2_toAct 3 (some (.object "MilkDesk$Act")) 2 := ⟨mw_633, mw_634, mw_635, mw_9, mw_636, by decide +kernel, by decide +kernel, by decide +kernel⟩
theorem mw_667 : Cond.code yX1_tell cX1_tell 2 (some .int) ∈ lw_G := lw_Gi 727 (by decide +kernel) rfl
theorem mw_665 : Cond.instanceMethod yX1_tell ∈ lw_G := lw_Gi 725 (by decide +kernel) rfl
theorem mw_666 : Cond.selects yX1_tell.cls yX1_tell yX1_tell ∈ lw_G := lw_Gi 726 (by decide +kernel) rfl
theorem mw_664 : Cond.methodLink "MilkDesk" 143 yX1_tell ∈ lw_G := lw_Gi 724 (by decide +kernel) rfl
theorem lk_X11_143 : LKV "MilkDesk" 143 yX1_tell.cls yX1_tell cX1_tell 2 (some .int) 1 := ⟨mw_664, mw_665, mw_666, mw_6, mw_667, by decide +kernel, by decide +kernel, by decide +kernel⟩
theorem mw_672 : Cond.methodLink "MilkDesk" 146 yX1_has ∈ lw_G := lw_Gi 732 (by decide +kernel) rfl
theorem lk_X11_146 : LKV "MilkDesk" 146 yX1_has.cls yX1_has cX1_has 2 (some .boolean) 1 := ⟨mw_672, mw_673, mw_674, mw_6, mw_675, by decide +kernel, by decide +kernel, by decide +kernel⟩
theorem mw_169 : Cond.fieldLink "MilkDesk" 147 "MilkDesk$ActBook" "struck" "[I" ∈ lw_G := lw_Gi 229 (by decide +kernel) rfl
theorem fk_X11_147 : FLK "MilkDesk" 147 1 2 RX1 TX1 3 := ⟨rfl, Nat.le_of_ble_eq_true rfl, mw_169, in_wsX10⟩
theorem kb_m3 : (Int8.ofInt (-3)).toInt32 = (-3 : Int32) := by decide +kernel
theorem mw_683 : Cond.code yX11_isCase cX11_isCase 5 (some .boolean) ∈ lw_G := lw_Gi 743 (by decide +kernel) rfl
theorem mw_682 : Cond.instanceMethod yX11_isCase ∈ lw_G := lw_Gi 742 (by decide +kernel) rfl
theorem mp_14 : Cond.selects yX11_isCase.cls yX11_isCase yX11_isCase ∈ lw_G := lw_Gi 14 (by decide +kernel) rfl
theorem mw_680 : Cond.methodLink "MilkDesk" 150 yX11_isCase ∈ lw_G := lw_Gi 740 (by decide +kernel) rfl
theorem lk_X11_150 : LKV "MilkDesk" 150 yX11_isCase.cls yX11_isCase cX11_isCase 5 (some .boolean) 4 := ⟨mw_680, mw_682, mp_14, mw_1, mw_683, by decide +kernel, by decide +kernel, by decide +kernel⟩
theorem mw_53 : Cond.fieldLink "MilkDesk" 154 "MilkDesk$Schools" "shire" "[I" ∈ lw_G := lw_Gi 113 (by decide +kernel) rfl
theorem fk_X11_154 : FLK "MilkDesk" 154 7 1 RX8 TX8 8 := ⟨rfl, Nat.le_of_ble_eq_true rfl, mw_53, in_wsX80⟩
theorem mw_684 : Cond.methodLink "MilkDesk" 157 yX1_inForce ∈ lw_G := lw_Gi 744 (by decide +kernel) rfl
theorem lk_X11_157 : LKV "MilkDesk" 157 yX1_inForce.cls yX1_inForce cX1_inForce 8 (some .int) 3 := ⟨mw_684, mw_685, mw_686, mw_6, mw_687, by decide +kernel, by decide +kernel, by decide +kernel⟩
theorem mw_697 : Cond.methodLink "MilkDesk" 160 yX10_purposeHolds ∈ lw_G := lw_Gi 757 (by decide +kernel) rfl
theorem lk_X11_160 : LKV "MilkDesk" 160 yX10_purposeHolds.cls yX10_purposeHolds cX10_purposeHolds 6 (some .boolean) 4 := ⟨mw_697, mw_698, mw_699, mw_2, mw_700, by decide +kernel, by decide +kernel, by decide +kernel⟩
theorem mw_739 : Cond.code yX10_firstThat cX10_firstThat 7 (some .int) ∈ lw_G := lw_Gi 799 (by decide +kernel) rfl
theorem mw_737 : Cond.instanceMethod yX10_firstThat ∈ lw_G := lw_Gi 797 (by decide +kernel) rfl
theorem mw_738 : Cond.selects yX10_firstThat.cls yX10_firstThat yX10_firstThat ∈ lw_G := lw_Gi 798 (by decide +kernel) rfl
theorem mw_736 : Cond.methodLink "MilkDesk" 163 yX10_firstThat ∈ lw_G := lw_Gi 796 (by decide +kernel) rfl
theorem lk_X11_163 : LKV "MilkDesk" 163 yX10_firstThat.cls yX10_firstThat cX10_firstThat 7 (some .int) 5 := ⟨mw_736, mw_737, mw_738, mw_2, mw_739, by decide +kernel, by decide +kernel, by decide +kernel⟩
theorem kb_60 : (Int8.ofInt 60).toInt32 = (60 : Int32) := by decide +kernel
theorem mw_748 : Cond.code yX10_passDays cX10_passDays 4 none ∈ lw_G := lw_Gi 808 (by decide +kernel) rfl
theorem mw_746 : Cond.instanceMethod yX10_passDays ∈ lw_G := lw_Gi 806 (by decide +kernel) rfl
theorem mw_747 : Cond.selects yX10_passDays.cls yX10_passDays yX10_passDays ∈ lw_G := lw_Gi 807 (by decide +kernel) rfl
theorem mw_745 : Cond.methodLink "MilkDesk" 167 yX10_passDays ∈ lw_G := lw_Gi 805 (by decide +kernel) rfl
theorem lk_X11_167 : LKV "MilkDesk" 167 yX10_passDays.cls yX10_passDays cX10_passDays 4 none 2 := ⟨mw_745, mw_746, mw_747, mw_2, mw_748, by decide +kernel, by decide +kernel, by decide +kernel⟩
theorem mw_71 : Cond.fieldLink "MilkDesk" 171 "MilkDesk$Schools" "sums" "[I" ∈ lw_G := lw_Gi 131 (by decide +kernel) rfl
theorem fk_X11_171 : FLK "MilkDesk" 171 7 7 RX8 TX8 8 := ⟨rfl, Nat.le_of_ble_eq_true rfl, mw_71, in_wsX80⟩
theorem mw_800 : Cond.methodLink "MilkDesk" 174 yX10_ordered ∈ lw_G := lw_Gi 860 (by decide +kernel) rfl
theorem lk_X11_174 : LKV "MilkDesk" 174 yX10_ordered.cls yX10_ordered cX10_ordered 7 (some .int) 3 := ⟨mw_800, mw_761, mw_762, mw_2, mw_763, by decide +kernel, by decide +kernel, by decide +kernel⟩
theorem mw_224 : Cond.fieldLink "MilkDesk" 177 "MilkDesk$World" "looks" "LMilkDesk$Looks;" ∈ lw_G := lw_Gi 284 (by decide +kernel) rfl
theorem fk_X11_177 : FLK "MilkDesk" 177 9 5 RX10 TX10 10 := ⟨rfl, Nat.le_of_ble_eq_true rfl, mw_224, in_wsX100⟩
theorem mw_184 : Cond.fieldLink "MilkDesk" 181 "MilkDesk$Looks" "count" "I" ∈ lw_G := lw_Gi 244 (by decide +kernel) rfl
theorem fk_X11_181 : FLK "MilkDesk" 181 5 0 RX6 TX6 4 := ⟨rfl, Nat.le_of_ble_eq_true rfl, mw_184, in_wsX60⟩
theorem mw_808 : Cond.code yX6_draw cX6_draw 4 (some .int) ∈ lw_G := lw_Gi 868 (by decide +kernel) rfl
theorem mw_806 : Cond.instanceMethod yX6_draw ∈ lw_G := lw_Gi 866 (by decide +kernel) rfl
theorem mw_807 : Cond.selects yX6_draw.cls yX6_draw yX6_draw ∈ lw_G := lw_Gi 867 (by decide +kernel) rfl
theorem mw_805 : Cond.methodLink "MilkDesk" 184 yX6_draw ∈ lw_G := lw_Gi 865 (by decide +kernel) rfl
theorem lk_X11_184 : LKV "MilkDesk" 184 yX6_draw.cls yX6_draw cX6_draw 4 (some .int) 3 := ⟨mw_805, mw_806, mw_807, mw_7, mw_808, by decide +kernel, by decide +kernel, by decide +kernel⟩
theorem mw_813 : Cond.constant "MilkDesk" 187 (-1000000001) ∈ lw_G := lw_Gi 873 (by decide +kernel) rfl
theorem mw_820 : Cond.constant "MilkDesk" 202 (-1000000004) ∈ lw_G := lw_Gi 880 (by decide +kernel) rfl
theorem mw_187 : Cond.fieldLink "MilkDesk" 188 "MilkDesk$Looks" "school" "[I" ∈ lw_G := lw_Gi 247 (by decide +kernel) rfl
theorem fk_X11_188 : FLK "MilkDesk" 188 5 1 RX6 TX6 4 := ⟨rfl, Nat.le_of_ble_eq_true rfl, mw_187, in_wsX60⟩
theorem mw_817 : Cond.code yX10_toldTooMany cX10_toldTooMany 2 (some .int) ∈ lw_G := lw_Gi 877 (by decide +kernel) rfl
theorem mw_815 : Cond.instanceMethod yX10_toldTooMany ∈ lw_G := lw_Gi 875 (by decide +kernel) rfl
theorem mw_816 : Cond.selects yX10_toldTooMany.cls yX10_toldTooMany yX10_toldTooMany ∈ lw_G := lw_Gi 876 (by decide +kernel) rfl
theorem mw_814 : Cond.methodLink "MilkDesk" 191 yX10_toldTooMany ∈ lw_G := lw_Gi 874 (by decide +kernel) rfl
theorem lk_X11_191 : LKV "MilkDesk" 191 yX10_toldTooMany.cls yX10_toldTooMany cX10_toldTooMany 2 (some .int) 1 := ⟨mw_814, mw_815, mw_816, mw_2, mw_817, by decide +kernel, by decide +kernel, by decide +kernel⟩
theorem mw_819 : Cond.methodLink "MilkDesk" 199 Lib.Math.max.name ∈ lw_G := lw_Gi 879 (by decide +kernel) rfl
theorem ks_600 : (Int16.ofInt 600).toInt32 = (600 : Int32) := by decide +kernel
theorem mw_372 : Cond.fieldLink "MilkDesk" 32 "MilkDesk" "search" "LMilkDesk$RoundSearch;" ∈ lw_G := lw_Gi 432 (by decide +kernel) rfl
theorem fk_X11_32 : FLK "MilkDesk" 32 10 6 RX11 TX11 7 := ⟨rfl, Nat.le_of_ble_eq_true rfl, mw_372, in_wsX110⟩
theorem gr_0_6 (G : Gn) (i : Nat) : GVR G 0 10 6 i (ad G 9 0) := fun _ _ _ => ⟨_, rfl, rfl⟩
theorem mw_828 : Cond.code yX7_takeStops cX7_takeStops 6 (some .boolean) ∈ lw_G := lw_Gi 888 (by decide +kernel) rfl
theorem mw_826 : Cond.instanceMethod yX7_takeStops ∈ lw_G := lw_Gi 886 (by decide +kernel) rfl
theorem mw_827 : Cond.selects yX7_takeStops.cls yX7_takeStops yX7_takeStops ∈ lw_G := lw_Gi 887 (by decide +kernel) rfl
theorem mw_825 : Cond.methodLink "MilkDesk" 203 yX7_takeStops ∈ lw_G := lw_Gi 885 (by decide +kernel) rfl
theorem lk_X11_203 : LKV "MilkDesk" 203 yX7_takeStops.cls yX7_takeStops cX7_takeStops 6 (some .boolean) 2 := ⟨mw_825, mw_826, mw_827, mw_10, mw_828, by decide +kernel, by decide +kernel, by decide +kernel⟩
theorem mw_100 : Cond.fieldLink "MilkDesk" 207 "MilkDesk$Dairies" "x" "[I" ∈ lw_G := lw_Gi 160 (by decide +kernel) rfl
theorem fk_X11_207 : FLK "MilkDesk" 207 3 1 RX4 TX4 9 := ⟨rfl, Nat.le_of_ble_eq_true rfl, mw_100, in_wsX40⟩
theorem mw_103 : Cond.fieldLink "MilkDesk" 210 "MilkDesk$Dairies" "y" "[I" ∈ lw_G := lw_Gi 163 (by decide +kernel) rfl
theorem fk_X11_210 : FLK "MilkDesk" 210 3 2 RX4 TX4 9 := ⟨rfl, Nat.le_of_ble_eq_true rfl, mw_103, in_wsX40⟩
theorem mw_833 : Cond.code yX7_find cX7_find 4 (some .boolean) ∈ lw_G := lw_Gi 893 (by decide +kernel) rfl
theorem mw_831 : Cond.instanceMethod yX7_find ∈ lw_G := lw_Gi 891 (by decide +kernel) rfl
theorem mw_832 : Cond.selects yX7_find.cls yX7_find yX7_find ∈ lw_G := lw_Gi 892 (by decide +kernel) rfl
theorem mw_830 : Cond.methodLink "MilkDesk" 213 yX7_find ∈ lw_G := lw_Gi 890 (by decide +kernel) rfl
theorem lk_X11_213 : LKV "MilkDesk" 213 yX7_find.cls yX7_find cX7_find 4 (some .boolean) 3 := ⟨mw_830, mw_831, mw_832, mw_10, mw_833, by decide +kernel, by decide +kernel, by decide +kernel⟩
theorem mw_856 : Cond.code yX7_bestStop cX7_bestStop 2 (some .int) ∈ lw_G := lw_Gi 916 (by decide +kernel) rfl
theorem mw_854 : Cond.instanceMethod yX7_bestStop ∈ lw_G := lw_Gi 914 (by decide +kernel) rfl
theorem mw_855 : Cond.selects yX7_bestStop.cls yX7_bestStop yX7_bestStop ∈ lw_G := lw_Gi 915 (by decide +kernel) rfl
theorem mw_853 : Cond.methodLink "MilkDesk" 219 yX7_bestStop ∈ lw_G := lw_Gi 913 (by decide +kernel) rfl
theorem lk_X11_219 : LKV "MilkDesk" 219 yX7_bestStop.cls yX7_bestStop cX7_bestStop 2 (some .int) 1 := ⟨mw_853, mw_854, mw_855, mw_10, mw_856, by decide +kernel, by decide +kernel, by decide +kernel⟩
theorem mw_287 : Cond.fieldLink "MilkDesk" 216 "MilkDesk$RoundSearch" "bestWay" "I" ∈ lw_G := lw_Gi 347 (by decide +kernel) rfl
theorem fk_X11_216 : FLK "MilkDesk" 216 6 0 RX7 TX7 12 := ⟨rfl, Nat.le_of_ble_eq_true rfl, mw_287, in_wsX70⟩
theorem kb_m13 : (Int8.ofInt (-13)).toInt32 = (-13 : Int32) := by decide +kernel
theorem mw_864 : Cond.code yX10_firstWrongStop cX10_firstWrongStop 10 (some .int) ∈ lw_G := lw_Gi 924 (by decide +kernel) rfl
theorem mw_862 : Cond.instanceMethod yX10_firstWrongStop ∈ lw_G := lw_Gi 922 (by decide +kernel) rfl
theorem mw_863 : Cond.selects yX10_firstWrongStop.cls yX10_firstWrongStop yX10_firstWrongStop ∈ lw_G := lw_Gi 923 (by decide +kernel) rfl
theorem mw_861 : Cond.methodLink "MilkDesk" 222 yX10_firstWrongStop ∈ lw_G := lw_Gi 921 (by decide +kernel) rfl
theorem lk_X11_222 : LKV "MilkDesk" 222 yX10_firstWrongStop.cls yX10_firstWrongStop cX10_firstWrongStop 10 (some .int) 3 := ⟨mw_861, mw_862, mw_863, mw_2, mw_864, by decide +kernel, by decide +kernel, by decide +kernel⟩
theorem mw_368 : Cond.fieldLink "MilkDesk" 19 "MilkDesk" "mind" "LMilkDesk$World;" ∈ lw_G := lw_Gi 428 (by decide +kernel) rfl
theorem fk_X11_19 : FLK "MilkDesk" 19 10 2 RX11 TX11 7 := ⟨rfl, Nat.le_of_ble_eq_true rfl, mw_368, in_wsX110⟩
theorem gr_0_2 (G : Gn) (i : Nat) : GVR G 0 10 2 i (ad G 1 2) := fun _ _ _ => ⟨_, rfl, rfl⟩
theorem mw_874 : Cond.code yX10_copyFrom cX10_copyFrom 2 none ∈ lw_G := lw_Gi 934 (by decide +kernel) rfl
theorem mw_872 : Cond.instanceMethod yX10_copyFrom ∈ lw_G := lw_Gi 932 (by decide +kernel) rfl
theorem mw_873 : Cond.selects yX10_copyFrom.cls yX10_copyFrom yX10_copyFrom ∈ lw_G := lw_Gi 933 (by decide +kernel) rfl
theorem mw_871 : Cond.methodLink "MilkDesk" 226 yX10_copyFrom ∈ lw_G := lw_Gi 931 (by decide +kernel) rfl
theorem lk_X11_226 : LKV "MilkDesk" 226 yX10_copyFrom.cls yX10_copyFrom cX10_copyFrom 2 none 1 := ⟨mw_871, mw_872, mw_873, mw_2, mw_874, by decide +kernel, by decide +kernel, by decide +kernel⟩
theorem ks_1000 : (Int16.ofInt 1000).toInt32 = (1000 : Int32) := by decide +kernel
theorem mw_904 : Cond.code yX4_stock cX4_stock 3 none ∈ lw_G := lw_Gi 964 (by decide +kernel) rfl
theorem mw_902 : Cond.instanceMethod yX4_stock ∈ lw_G := lw_Gi 962 (by decide +kernel) rfl
theorem mw_903 : Cond.selects yX4_stock.cls yX4_stock yX4_stock ∈ lw_G := lw_Gi 963 (by decide +kernel) rfl
theorem mw_901 : Cond.methodLink "MilkDesk" 230 yX4_stock ∈ lw_G := lw_Gi 961 (by decide +kernel) rfl
theorem lk_X11_230 : LKV "MilkDesk" 230 yX4_stock.cls yX4_stock cX4_stock 3 none 2 := ⟨mw_901, mw_902, mw_903, mw_4, mw_904, by decide +kernel, by decide +kernel, by decide +kernel⟩
theorem mw_112 : Cond.fieldLink "MilkDesk" 233 "MilkDesk$Dairies" "lowest" "[I" ∈ lw_G := lw_Gi 172 (by decide +kernel) rfl
theorem fk_X11_233 : FLK "MilkDesk" 233 3 7 RX4 TX4 9 := ⟨rfl, Nat.le_of_ble_eq_true rfl, mw_112, in_wsX40⟩
theorem ks_255 : (Int16.ofInt 255).toInt32 = (255 : Int32) := by decide +kernel
theorem kb_15 : (Int8.ofInt 15).toInt32 = (15 : Int32) := by decide +kernel
theorem mw_914 : Cond.code yX11_digit cX11_digit 2 (some .int) ∈ lw_G := lw_Gi 974 (by decide +kernel) rfl
theorem mw_913 : Cond.static yX11_digit ∈ lw_G := lw_Gi 973 (by decide +kernel) rfl
theorem mw_912 : Cond.methodLink "MilkDesk" 239 yX11_digit ∈ lw_G := lw_Gi 972 (by decide +kernel) rfl
theorem lk_X11_239 : LKS "MilkDesk" 239 yX11_digit cX11_digit 2 (some .int) 2 := ⟨mw_912, mw_913, mw_1, mw_914, by decide +kernel, by decide +kernel, by decide +kernel⟩
theorem mw_911 : Cond.code yX11_isShireOrder cX11_isShireOrder 3 (some .boolean) ∈ lw_G := lw_Gi 971 (by decide +kernel) rfl
theorem mw_910 : Cond.static yX11_isShireOrder ∈ lw_G := lw_Gi 970 (by decide +kernel) rfl
theorem mw_909 : Cond.methodLink "MilkDesk" 236 yX11_isShireOrder ∈ lw_G := lw_Gi 969 (by decide +kernel) rfl
theorem lk_X11_236 : LKS "MilkDesk" 236 yX11_isShireOrder cX11_isShireOrder 3 (some .boolean) 1 := ⟨mw_909, mw_910, mw_1, mw_911, by decide +kernel, by decide +kernel, by decide +kernel⟩
theorem mw_918 : Cond.code yX10_orderedInShire cX10_orderedInShire 5 (some .int) ∈ lw_G := lw_Gi 978 (by decide +kernel) rfl
theorem mw_916 : Cond.instanceMethod yX10_orderedInShire ∈ lw_G := lw_Gi 976 (by decide +kernel) rfl
theorem mw_917 : Cond.selects yX10_orderedInShire.cls yX10_orderedInShire yX10_orderedInShire ∈ lw_G := lw_Gi 977 (by decide +kernel) rfl
theorem mw_915 : Cond.methodLink "MilkDesk" 242 yX10_orderedInShire ∈ lw_G := lw_Gi 975 (by decide +kernel) rfl
theorem lk_X11_242 : LKV "MilkDesk" 242 yX10_orderedInShire.cls yX10_orderedInShire cX10_orderedInShire 5 (some .int) 2 := ⟨mw_915, mw_916, mw_917, mw_2, mw_918, by decide +kernel, by decide +kernel, by decide +kernel⟩
theorem mw_923 : Cond.constant "MilkDesk" 245 (-1000000002) ∈ lw_G := lw_Gi 983 (by decide +kernel) rfl
theorem mw_927 : Cond.code yX8_all cX8_all 4 (some .int) ∈ lw_G := lw_Gi 987 (by decide +kernel) rfl
theorem mw_925 : Cond.instanceMethod yX8_all ∈ lw_G := lw_Gi 985 (by decide +kernel) rfl
theorem mw_926 : Cond.selects yX8_all.cls yX8_all yX8_all ∈ lw_G := lw_Gi 986 (by decide +kernel) rfl
theorem mw_924 : Cond.methodLink "MilkDesk" 246 yX8_all ∈ lw_G := lw_Gi 984 (by decide +kernel) rfl
theorem lk_X11_246 : LKV "MilkDesk" 246 yX8_all.cls yX8_all cX8_all 4 (some .int) 1 := ⟨mw_924, mw_925, mw_926, mw_3, mw_927, by decide +kernel, by decide +kernel, by decide +kernel⟩
theorem mw_932 : Cond.constant "MilkDesk" 249 (-1000000000) ∈ lw_G := lw_Gi 992 (by decide +kernel) rfl
theorem mw_936 : Cond.code yX9_isAt cX9_isAt 3 (some .boolean) ∈ lw_G := lw_Gi 996 (by decide +kernel) rfl
theorem mw_934 : Cond.instanceMethod yX9_isAt ∈ lw_G := lw_Gi 994 (by decide +kernel) rfl
theorem mw_935 : Cond.selects yX9_isAt.cls yX9_isAt yX9_isAt ∈ lw_G := lw_Gi 995 (by decide +kernel) rfl
theorem mw_933 : Cond.methodLink "MilkDesk" 250 yX9_isAt ∈ lw_G := lw_Gi 993 (by decide +kernel) rfl
theorem lk_X11_250 : LKV "MilkDesk" 250 yX9_isAt.cls yX9_isAt cX9_isAt 3 (some .boolean) 2 := ⟨mw_933, mw_934, mw_935, mw_11, mw_936, by decide +kernel, by decide +kernel, by decide +kernel⟩
theorem mw_944 : Cond.code yX10_areLike cX10_areLike 4 (some .boolean) ∈ lw_G := lw_Gi 1004 (by decide +kernel) rfl
theorem mw_942 : Cond.instanceMethod yX10_areLike ∈ lw_G := lw_Gi 1002 (by decide +kernel) rfl
theorem mw_943 : Cond.selects yX10_areLike.cls yX10_areLike yX10_areLike ∈ lw_G := lw_Gi 1003 (by decide +kernel) rfl
theorem mw_941 : Cond.methodLink "MilkDesk" 254 yX10_areLike ∈ lw_G := lw_Gi 1001 (by decide +kernel) rfl
theorem lk_X11_254 : LKV "MilkDesk" 254 yX10_areLike.cls yX10_areLike cX10_areLike 4 (some .boolean) 3 := ⟨mw_941, mw_942, mw_943, mw_2, mw_944, by decide +kernel, by decide +kernel, by decide +kernel⟩
theorem mw_367 : Cond.fieldLink "MilkDesk" 16 "MilkDesk" "kept" "LMilkDesk$World;" ∈ lw_G := lw_Gi 427 (by decide +kernel) rfl
theorem fk_X11_16 : FLK "MilkDesk" 16 10 1 RX11 TX11 7 := ⟨rfl, Nat.le_of_ble_eq_true rfl, mw_367, in_wsX110⟩
theorem gr_0_1 (G : Gn) (i : Nat) : GVR G 0 10 1 i (ad G 1 1) := fun _ _ _ => ⟨_, rfl, rfl⟩
theorem mw_369 : Cond.fieldLink "MilkDesk" 257 "MilkDesk" "hasImage" "Z" ∈ lw_G := lw_Gi 429 (by decide +kernel) rfl
theorem fk_X11_257 : FLK "MilkDesk" 257 10 3 RX11 TX11 7 := ⟨rfl, Nat.le_of_ble_eq_true rfl, mw_369, in_wsX110⟩
theorem pf_X11_3 : parseFieldDescriptor (TX11 3).2.2.1 = some .boolean := by decide +kernel
theorem pv_0_3 (G : Gn) : PV G 0 10 3 := fun _ _ _ _ _ => ⟨_, rfl, Nat.le_of_ble_eq_true rfl, rfl⟩
theorem gi_0_3 (G : Gn) : GVI G 0 10 3 := fun _ _ _ _ => ⟨_, rfl, rfl⟩
theorem mw_961 : Cond.code yX4_allBottles cX4_allBottles 3 (some .int) ∈ lw_G := lw_Gi 1021 (by decide +kernel) rfl
theorem mw_959 : Cond.instanceMethod yX4_allBottles ∈ lw_G := lw_Gi 1019 (by decide +kernel) rfl
theorem mw_960 : Cond.selects yX4_allBottles.cls yX4_allBottles yX4_allBottles ∈ lw_G := lw_Gi 1020 (by decide +kernel) rfl
theorem mw_958 : Cond.methodLink "MilkDesk" 261 yX4_allBottles ∈ lw_G := lw_Gi 1018 (by decide +kernel) rfl
theorem lk_X11_261 : LKV "MilkDesk" 261 yX4_allBottles.cls yX4_allBottles cX4_allBottles 3 (some .int) 0 := ⟨mw_958, mw_959, mw_960, mw_4, mw_961, by decide +kernel, by decide +kernel, by decide +kernel⟩
theorem mw_973 : Cond.code yX9_holdCrate cX9_holdCrate 4 none ∈ lw_G := lw_Gi 1033 (by decide +kernel) rfl
theorem mw_971 : Cond.instanceMethod yX9_holdCrate ∈ lw_G := lw_Gi 1031 (by decide +kernel) rfl
theorem mw_972 : Cond.selects yX9_holdCrate.cls yX9_holdCrate yX9_holdCrate ∈ lw_G := lw_Gi 1032 (by decide +kernel) rfl
theorem mw_970 : Cond.methodLink "MilkDesk" 270 yX9_holdCrate ∈ lw_G := lw_Gi 1030 (by decide +kernel) rfl
theorem lk_X11_270 : LKV "MilkDesk" 270 yX9_holdCrate.cls yX9_holdCrate cX9_holdCrate 4 none 3 := ⟨mw_970, mw_971, mw_972, mw_11, mw_973, by decide +kernel, by decide +kernel, by decide +kernel⟩
theorem mw_969 : Cond.code yX9_clear cX9_clear 1 none ∈ lw_G := lw_Gi 1029 (by decide +kernel) rfl
theorem mw_967 : Cond.instanceMethod yX9_clear ∈ lw_G := lw_Gi 1027 (by decide +kernel) rfl
theorem mw_968 : Cond.selects yX9_clear.cls yX9_clear yX9_clear ∈ lw_G := lw_Gi 1028 (by decide +kernel) rfl
theorem mw_966 : Cond.methodLink "MilkDesk" 265 yX9_clear ∈ lw_G := lw_Gi 1026 (by decide +kernel) rfl
theorem lk_X11_265 : LKV "MilkDesk" 265 yX9_clear.cls yX9_clear cX9_clear 1 none 0 := ⟨mw_966, mw_967, mw_968, mw_11, mw_969, by decide +kernel, by decide +kernel, by decide +kernel⟩
theorem kb_80 : (Int8.ofInt 80).toInt32 = (80 : Int32) := by decide +kernel
theorem mw_981 : Cond.code yX9_holdRow cX9_holdRow 4 none ∈ lw_G := lw_Gi 1041 (by decide +kernel) rfl
theorem mw_979 : Cond.instanceMethod yX9_holdRow ∈ lw_G := lw_Gi 1039 (by decide +kernel) rfl
theorem mw_980 : Cond.selects yX9_holdRow.cls yX9_holdRow yX9_holdRow ∈ lw_G := lw_Gi 1040 (by decide +kernel) rfl
theorem mw_978 : Cond.methodLink "MilkDesk" 274 yX9_holdRow ∈ lw_G := lw_Gi 1038 (by decide +kernel) rfl
theorem lk_X11_274 : LKV "MilkDesk" 274 yX9_holdRow.cls yX9_holdRow cX9_holdRow 4 none 2 := ⟨mw_978, mw_979, mw_980, mw_11, mw_981, by decide +kernel, by decide +kernel, by decide +kernel⟩
theorem kb_m14 : (Int8.ofInt (-14)).toInt32 = (-14 : Int32) := by decide +kernel
theorem mw_986 : Cond.methodLink "MilkDesk" 277 yX9_hasPlace ∈ lw_G := lw_Gi 1046 (by decide +kernel) rfl
theorem lk_X11_277 : LKV "MilkDesk" 277 yX9_hasPlace.cls yX9_hasPlace cX9_hasPlace 2 (some .boolean) 1 := ⟨mw_986, mw_938, mw_939, mw_11, mw_940, by decide +kernel, by decide +kernel, by decide +kernel⟩
theorem mw_990 : Cond.code yX9_write cX9_write 3 none ∈ lw_G := lw_Gi 1050 (by decide +kernel) rfl
theorem mw_988 : Cond.instanceMethod yX9_write ∈ lw_G := lw_Gi 1048 (by decide +kernel) rfl
theorem mw_989 : Cond.selects yX9_write.cls yX9_write yX9_write ∈ lw_G := lw_Gi 1049 (by decide +kernel) rfl
theorem mw_987 : Cond.methodLink "MilkDesk" 280 yX9_write ∈ lw_G := lw_Gi 1047 (by decide +kernel) rfl
theorem lk_X11_280 : LKV "MilkDesk" 280 yX9_write.cls yX9_write cX9_write 3 none 2 := ⟨mw_987, mw_988, mw_989, mw_11, mw_990, by decide +kernel, by decide +kernel, by decide +kernel⟩
theorem mw_998 : Cond.code yX9_hasPlaces cX9_hasPlaces 3 (some .boolean) ∈ lw_G := lw_Gi 1058 (by decide +kernel) rfl
theorem mw_996 : Cond.instanceMethod yX9_hasPlaces ∈ lw_G := lw_Gi 1056 (by decide +kernel) rfl
theorem mw_997 : Cond.selects yX9_hasPlaces.cls yX9_hasPlaces yX9_hasPlaces ∈ lw_G := lw_Gi 1057 (by decide +kernel) rfl
theorem mw_995 : Cond.methodLink "MilkDesk" 308 yX9_hasPlaces ∈ lw_G := lw_Gi 1055 (by decide +kernel) rfl
theorem lk_X11_308 : LKV "MilkDesk" 308 yX9_hasPlaces.cls yX9_hasPlaces cX9_hasPlaces 3 (some .boolean) 2 := ⟨mw_995, mw_996, mw_997, mw_11, mw_998, by decide +kernel, by decide +kernel, by decide +kernel⟩
theorem mw_350 : Cond.fieldLink "MilkDesk" 295 "MilkDesk$Shelf" "cells" "[I" ∈ lw_G := lw_Gi 410 (by decide +kernel) rfl
theorem fk_X11_295 : FLK "MilkDesk" 295 8 6 RX9 TX9 7 := ⟨rfl, Nat.le_of_ble_eq_true rfl, mw_350, in_wsX90⟩
theorem mw_1005 : Cond.code yX11_crateRefusal cX11_crateRefusal 1 (some .int) ∈ lw_G := lw_Gi 1065 (by decide +kernel) rfl
theorem mw_1004 : Cond.static yX11_crateRefusal ∈ lw_G := lw_Gi 1064 (by decide +kernel) rfl
theorem mw_1003 : Cond.methodLink "MilkDesk" 317 yX11_crateRefusal ∈ lw_G := lw_Gi 1063 (by decide +kernel) rfl
theorem lk_X11_317 : LKS "MilkDesk" 317 yX11_crateRefusal cX11_crateRefusal 1 (some .int) 1 := ⟨mw_1003, mw_1004, mw_1, mw_1005, by decide +kernel, by decide +kernel, by decide +kernel⟩
theorem mw_333 : Cond.fieldLink "MilkDesk" 320 "MilkDesk$Shelf" "kind" "I" ∈ lw_G := lw_Gi 393 (by decide +kernel) rfl
theorem fk_X11_320 : FLK "MilkDesk" 320 8 1 RX9 TX9 7 := ⟨rfl, Nat.le_of_ble_eq_true rfl, mw_333, in_wsX90⟩
theorem gi_7_1 (G : Gn) : GVI G 7 8 1 := fun _ _ _ _ => ⟨_, rfl, rfl⟩
theorem mw_335 : Cond.fieldLink "MilkDesk" 323 "MilkDesk$Shelf" "bottles" "I" ∈ lw_G := lw_Gi 395 (by decide +kernel) rfl
theorem fk_X11_323 : FLK "MilkDesk" 323 8 2 RX9 TX9 7 := ⟨rfl, Nat.le_of_ble_eq_true rfl, mw_335, in_wsX90⟩
theorem gi_7_2 (G : Gn) : GVI G 7 8 2 := fun _ _ _ _ => ⟨_, rfl, rfl⟩
theorem mw_1009 : Cond.methodLink "MilkDesk" 328 yX3_paid ∈ lw_G := lw_Gi 1069 (by decide +kernel) rfl
theorem lk_X11_328 : LKS "MilkDesk" 328 yX3_paid cX3_paid 5 (some .int) 3 := ⟨mw_1009, mw_786, mw_20, mw_787, by decide +kernel, by decide +kernel, by decide +kernel⟩
theorem mw_1008 : Cond.code yX3_drunk cX3_drunk 2 (some .int) ∈ lw_G := lw_Gi 1068 (by decide +kernel) rfl
theorem mw_1007 : Cond.static yX3_drunk ∈ lw_G := lw_Gi 1067 (by decide +kernel) rfl
theorem mw_1006 : Cond.methodLink "MilkDesk" 325 yX3_drunk ∈ lw_G := lw_Gi 1066 (by decide +kernel) rfl
theorem lk_X11_325 : LKS "MilkDesk" 325 yX3_drunk cX3_drunk 2 (some .int) 2 := ⟨mw_1006, mw_1007, mw_20, mw_1008, by decide +kernel, by decide +kernel, by decide +kernel⟩
theorem mw_1142 : Cond.fieldLink "MilkDeskModel" 128 "MilkDeskModel" "thrown" "I" ∈ lw_G := lw_Gi 1202 (by decide +kernel) rfl
theorem fk_X12_128 : FLK "MilkDeskModel" 128 11 0 RX12 TX12 53 := ⟨rfl, Nat.le_of_ble_eq_true rfl, mw_1142, in_wsX120⟩
theorem gi_10_0 (G : Gn) : GVI G 10 11 0 := fun _ _ _ _ => ⟨_, rfl, rfl⟩
theorem ci_10 {i : Nat} (h : i < 1) : i < cntK 10 := h
theorem mw_1143 : Cond.fieldLink "MilkDeskModel" 7 "MilkDeskModel" "st" "[I" ∈ lw_G := lw_Gi 1203 (by decide +kernel) rfl
theorem fk_X12_7 : FLK "MilkDeskModel" 7 11 1 RX12 TX12 53 := ⟨rfl, Nat.le_of_ble_eq_true rfl, mw_1143, in_wsX120⟩
theorem gr_10_1 (G : Gn) (i : Nat) : GVR G 10 11 1 i (ad G 44 i) := fun _ _ _ => ⟨_, rfl, rfl⟩
theorem ar_44 (G : Gn) : AI G 44 320 := fun _ _ _ _ => rfl
theorem ci_44 {i : Nat} (h : i < 1) : i < cntK 44 := h
theorem mw_1317 : Cond.code yX12_in cX12_in 3 (some .boolean) ∈ lw_G := lw_Gi 1377 (by decide +kernel) rfl
theorem mw_12 : Cond.initialized yX12_in.cls ∈ lw_G := lw_Gi 72 (by decide +kernel) rfl
theorem mw_1316 : Cond.static yX12_in ∈ lw_G := lw_Gi 1376 (by decide +kernel) rfl
theorem mw_1315 : Cond.methodLink "MilkDeskModel" 131 yX12_in ∈ lw_G := lw_Gi 1375 (by decide +kernel) rfl
theorem lk_X12_131 : LKS "MilkDeskModel" 131 yX12_in cX12_in 3 (some .boolean) 3 := ⟨mw_1315, mw_1316, mw_12, mw_1317, by decide +kernel, by decide +kernel, by decide +kernel⟩
theorem pf_X12_0 : parseFieldDescriptor (TX12 0).2.2.1 = some .int := by decide +kernel
theorem pv_10_0 (G : Gn) : PV G 10 11 0 := fun _ _ _ _ _ => ⟨_, rfl, Nat.le_of_ble_eq_true rfl, rfl⟩
theorem mw_1314 : Cond.code yX12_isShire cX12_isShire 1 (some .boolean) ∈ lw_G := lw_Gi 1374 (by decide +kernel) rfl
theorem mw_1313 : Cond.static yX12_isShire ∈ lw_G := lw_Gi 1373 (by decide +kernel) rfl
theorem mw_1312 : Cond.methodLink "MilkDeskModel" 135 yX12_isShire ∈ lw_G := lw_Gi 1372 (by decide +kernel) rfl
theorem lk_X12_135 : LKS "MilkDeskModel" 135 yX12_isShire cX12_isShire 1 (some .boolean) 1 := ⟨mw_1312, mw_1313, mw_12, mw_1314, by decide +kernel, by decide +kernel, by decide +kernel⟩
theorem mw_1147 : Cond.fieldLink "MilkDeskModel" 19 "MilkDeskModel" "shire" "[I" ∈ lw_G := lw_Gi 1207 (by decide +kernel) rfl
theorem fk_X12_19 : FLK "MilkDeskModel" 19 11 5 RX12 TX12 53 := ⟨rfl, Nat.le_of_ble_eq_true rfl, mw_1147, in_wsX120⟩
theorem gr_10_5 (G : Gn) (i : Nat) : GVR G 10 11 5 i (ad G 47 i) := fun _ _ _ => ⟨_, rfl, rfl⟩
theorem ar_47 (G : Gn) : AI G 47 12 := fun _ _ _ _ => rfl
theorem ci_47 {i : Nat} (h : i < 1) : i < cntK 47 := h
theorem mw_1148 : Cond.fieldLink "MilkDeskModel" 22 "MilkDeskModel" "schoolX" "[I" ∈ lw_G := lw_Gi 1208 (by decide +kernel) rfl
theorem fk_X12_22 : FLK "MilkDeskModel" 22 11 6 RX12 TX12 53 := ⟨rfl, Nat.le_of_ble_eq_true rfl, mw_1148, in_wsX120⟩
theorem gr_10_6 (G : Gn) (i : Nat) : GVR G 10 11 6 i (ad G 48 i) := fun _ _ _ => ⟨_, rfl, rfl⟩
theorem ar_48 (G : Gn) : AI G 48 12 := fun _ _ _ _ => rfl
theorem ci_48 {i : Nat} (h : i < 1) : i < cntK 48 := h
theorem mw_1149 : Cond.fieldLink "MilkDeskModel" 25 "MilkDeskModel" "schoolY" "[I" ∈ lw_G := lw_Gi 1209 (by decide +kernel) rfl
theorem fk_X12_25 : FLK "MilkDeskModel" 25 11 7 RX12 TX12 53 := ⟨rfl, Nat.le_of_ble_eq_true rfl, mw_1149, in_wsX120⟩
theorem gr_10_7 (G : Gn) (i : Nat) : GVR G 10 11 7 i (ad G 49 i) := fun _ _ _ => ⟨_, rfl, rfl⟩
theorem ar_49 (G : Gn) : AI G 49 12 := fun _ _ _ _ => rfl
theorem ci_49 {i : Nat} (h : i < 1) : i < cntK 49 := h
theorem kb_50 : (Int8.ofInt 50).toInt32 = (50 : Int32) := by decide +kernel
theorem ks_180 : (Int16.ofInt 180).toInt32 = (180 : Int32) := by decide +kernel
theorem mw_1325 : Cond.code yX12_isSchool cX12_isSchool 2 (some .boolean) ∈ lw_G := lw_Gi 1385 (by decide +kernel) rfl
theorem mw_1324 : Cond.instanceMethod yX12_isSchool ∈ lw_G := lw_Gi 1384 (by decide +kernel) rfl
theorem mp_22 : Cond.selects yX12_isSchool.cls yX12_isSchool yX12_isSchool ∈ lw_G := lw_Gi 22 (by decide +kernel) rfl
theorem mw_1322 : Cond.methodLink "MilkDeskModel" 139 yX12_isSchool ∈ lw_G := lw_Gi 1382 (by decide +kernel) rfl
theorem lk_X12_139 : LKV "MilkDeskModel" 139 yX12_isSchool.cls yX12_isSchool cX12_isSchool 2 (some .boolean) 1 := ⟨mw_1322, mw_1324, mp_22, mw_12, mw_1325, by decide +kernel, by decide +kernel, by decide +kernel⟩
theorem rc_10 (G : Gn) : ∀ w i r q, ∃ fs, Esh G w 10 i r q = .inr (11, fs) := fun _ _ _ _ => ⟨_, rfl⟩
theorem mw_1150 : Cond.fieldLink "MilkDeskModel" 28 "MilkDeskModel" "dairyX" "[I" ∈ lw_G := lw_Gi 1210 (by decide +kernel) rfl
theorem fk_X12_28 : FLK "MilkDeskModel" 28 11 8 RX12 TX12 53 := ⟨rfl, Nat.le_of_ble_eq_true rfl, mw_1150, in_wsX120⟩
theorem gr_10_8 (G : Gn) (i : Nat) : GVR G 10 11 8 i (ad G 50 i) := fun _ _ _ => ⟨_, rfl, rfl⟩
theorem ar_50 (G : Gn) : AI G 50 5 := fun _ _ _ _ => rfl
theorem ci_50 {i : Nat} (h : i < 1) : i < cntK 50 := h
theorem mw_1151 : Cond.fieldLink "MilkDeskModel" 31 "MilkDeskModel" "dairyY" "[I" ∈ lw_G := lw_Gi 1211 (by decide +kernel) rfl
theorem fk_X12_31 : FLK "MilkDeskModel" 31 11 9 RX12 TX12 53 := ⟨rfl, Nat.le_of_ble_eq_true rfl, mw_1151, in_wsX120⟩
theorem gr_10_9 (G : Gn) (i : Nat) : GVR G 10 11 9 i (ad G 51 i) := fun _ _ _ => ⟨_, rfl, rfl⟩
theorem ar_51 (G : Gn) : AI G 51 5 := fun _ _ _ _ => rfl
theorem ci_51 {i : Nat} (h : i < 1) : i < cntK 51 := h
theorem mw_1152 : Cond.fieldLink "MilkDeskModel" 34 "MilkDeskModel" "cap" "[I" ∈ lw_G := lw_Gi 1212 (by decide +kernel) rfl
theorem fk_X12_34 : FLK "MilkDeskModel" 34 11 10 RX12 TX12 53 := ⟨rfl, Nat.le_of_ble_eq_true rfl, mw_1152, in_wsX120⟩
theorem gr_10_10 (G : Gn) (i : Nat) : GVR G 10 11 10 i (ad G 52 i) := fun _ _ _ => ⟨_, rfl, rfl⟩
theorem ar_52 (G : Gn) : AI G 52 5 := fun _ _ _ _ => rfl
theorem ci_52 {i : Nat} (h : i < 1) : i < cntK 52 := h
theorem kb_70 : (Int8.ofInt 70).toInt32 = (70 : Int32) := by decide +kernel
theorem mw_1337 : Cond.code yX12_isDairy cX12_isDairy 2 (some .boolean) ∈ lw_G := lw_Gi 1397 (by decide +kernel) rfl
theorem mw_1336 : Cond.instanceMethod yX12_isDairy ∈ lw_G := lw_Gi 1396 (by decide +kernel) rfl
theorem mp_23 : Cond.selects yX12_isDairy.cls yX12_isDairy yX12_isDairy ∈ lw_G := lw_Gi 23 (by decide +kernel) rfl
theorem mw_1334 : Cond.methodLink "MilkDeskModel" 142 yX12_isDairy ∈ lw_G := lw_Gi 1394 (by decide +kernel) rfl
theorem lk_X12_142 : LKV "MilkDeskModel" 142 yX12_isDairy.cls yX12_isDairy cX12_isDairy 2 (some .boolean) 1 := ⟨mw_1334, mw_1336, mp_23, mw_12, mw_1337, by decide +kernel, by decide +kernel, by decide +kernel⟩
theorem mw_1345 : Cond.code yX12_wonBy cX12_wonBy 5 (some .int) ∈ lw_G := lw_Gi 1405 (by decide +kernel) rfl
theorem mw_1344 : Cond.instanceMethod yX12_wonBy ∈ lw_G := lw_Gi 1404 (by decide +kernel) rfl
theorem mp_24 : Cond.selects yX12_wonBy.cls yX12_wonBy yX12_wonBy ∈ lw_G := lw_Gi 24 (by decide +kernel) rfl
theorem mw_1342 : Cond.methodLink "MilkDeskModel" 145 yX12_wonBy ∈ lw_G := lw_Gi 1402 (by decide +kernel) rfl
theorem lk_X12_145 : LKV "MilkDeskModel" 145 yX12_wonBy.cls yX12_wonBy cX12_wonBy 5 (some .int) 1 := ⟨mw_1342, mw_1344, mp_24, mw_12, mw_1345, by decide +kernel, by decide +kernel, by decide +kernel⟩
theorem mw_1141 : Cond.constant "MilkDeskModel" 127 (99999) ∈ lw_G := lw_Gi 1201 (by decide +kernel) rfl
theorem ks_140 : (Int16.ofInt 140).toInt32 = (140 : Int32) := by decide +kernel
theorem kb_120 : (Int8.ofInt 120).toInt32 = (120 : Int32) := by decide +kernel
theorem mw_1360 : Cond.code yX12_isAge cX12_isAge 1 (some .boolean) ∈ lw_G := lw_Gi 1420 (by decide +kernel) rfl
theorem mw_1359 : Cond.static yX12_isAge ∈ lw_G := lw_Gi 1419 (by decide +kernel) rfl
theorem mw_1358 : Cond.methodLink "MilkDeskModel" 149 yX12_isAge ∈ lw_G := lw_Gi 1418 (by decide +kernel) rfl
theorem lk_X12_149 : LKS "MilkDeskModel" 149 yX12_isAge cX12_isAge 1 (some .boolean) 1 := ⟨mw_1358, mw_1359, mw_12, mw_1360, by decide +kernel, by decide +kernel, by decide +kernel⟩
theorem mw_1187 : Cond.fieldLink "MilkDeskModel" 102 "MilkDeskModel" "holdsWhat" "[I" ∈ lw_G := lw_Gi 1247 (by decide +kernel) rfl
theorem fk_X12_102 : FLK "MilkDeskModel" 102 11 45 RX12 TX12 53 := ⟨rfl, Nat.le_of_ble_eq_true rfl, mw_1187, in_wsX120⟩
theorem gr_10_45 (G : Gn) (i : Nat) : GVR G 10 11 45 i (ad G 72 i) := fun _ _ _ => ⟨_, rfl, rfl⟩
theorem ar_72 (G : Gn) : AI G 72 8 := fun _ _ _ _ => rfl
theorem ci_72 {i : Nat} (h : i < 1) : i < cntK 72 := h
theorem mw_1191 : Cond.fieldLink "MilkDeskModel" 114 "MilkDeskModel" "rowSort" "[I" ∈ lw_G := lw_Gi 1251 (by decide +kernel) rfl
theorem fk_X12_114 : FLK "MilkDeskModel" 114 11 49 RX12 TX12 53 := ⟨rfl, Nat.le_of_ble_eq_true rfl, mw_1191, in_wsX120⟩
theorem gr_10_49 (G : Gn) (i : Nat) : GVR G 10 11 49 i (ad G 76 i) := fun _ _ _ => ⟨_, rfl, rfl⟩
theorem ar_76 (G : Gn) : AI G 76 8 := fun _ _ _ _ => rfl
theorem ci_76 {i : Nat} (h : i < 1) : i < cntK 76 := h
theorem mw_1363 : Cond.constantLong "MilkDeskModel" 156 (-2147483648) ∈ lw_G := lw_Gi 1423 (by decide +kernel) rfl
theorem mw_1362 : Cond.constantLong "MilkDeskModel" 154 (-32768) ∈ lw_G := lw_Gi 1422 (by decide +kernel) rfl
theorem mw_1361 : Cond.constantLong "MilkDeskModel" 152 (-128) ∈ lw_G := lw_Gi 1421 (by decide +kernel) rfl
theorem mw_1153 : Cond.fieldLink "MilkDeskModel" 37 "MilkDeskModel" "rAge" "[I" ∈ lw_G := lw_Gi 1213 (by decide +kernel) rfl
theorem fk_X12_37 : FLK "MilkDeskModel" 37 11 11 RX12 TX12 53 := ⟨rfl, Nat.le_of_ble_eq_true rfl, mw_1153, in_wsX120⟩
theorem gr_10_11 (G : Gn) (i : Nat) : GVR G 10 11 11 i (ad G 53 i) := fun _ _ _ => ⟨_, rfl, rfl⟩
theorem ar_53 (G : Gn) : AI G 53 16 := fun _ _ _ _ => rfl
theorem ci_53 {i : Nat} (h : i < 1) : i < cntK 53 := h
theorem mw_1154 : Cond.fieldLink "MilkDeskModel" 40 "MilkDeskModel" "rTold" "[I" ∈ lw_G := lw_Gi 1214 (by decide +kernel) rfl
theorem fk_X12_40 : FLK "MilkDeskModel" 40 11 12 RX12 TX12 53 := ⟨rfl, Nat.le_of_ble_eq_true rfl, mw_1154, in_wsX120⟩
theorem gr_10_12 (G : Gn) (i : Nat) : GVR G 10 11 12 i (ad G 54 i) := fun _ _ _ => ⟨_, rfl, rfl⟩
theorem ar_54 (G : Gn) : AI G 54 16 := fun _ _ _ _ => rfl
theorem ci_54 {i : Nat} (h : i < 1) : i < cntK 54 := h
theorem mw_1155 : Cond.fieldLink "MilkDeskModel" 43 "MilkDeskModel" "rFrom" "[I" ∈ lw_G := lw_Gi 1215 (by decide +kernel) rfl
theorem fk_X12_43 : FLK "MilkDeskModel" 43 11 13 RX12 TX12 53 := ⟨rfl, Nat.le_of_ble_eq_true rfl, mw_1155, in_wsX120⟩
theorem gr_10_13 (G : Gn) (i : Nat) : GVR G 10 11 13 i (ad G 55 i) := fun _ _ _ => ⟨_, rfl, rfl⟩
theorem ar_55 (G : Gn) : AI G 55 16 := fun _ _ _ _ => rfl
theorem ci_55 {i : Nat} (h : i < 1) : i < cntK 55 := h
theorem mw_1192 : Cond.fieldLink "MilkDeskModel" 117 "MilkDeskModel" "rowMany" "[I" ∈ lw_G := lw_Gi 1252 (by decide +kernel) rfl
theorem fk_X12_117 : FLK "MilkDeskModel" 117 11 50 RX12 TX12 53 := ⟨rfl, Nat.le_of_ble_eq_true rfl, mw_1192, in_wsX120⟩
theorem gr_10_50 (G : Gn) (i : Nat) : GVR G 10 11 50 i (ad G 77 i) := fun _ _ _ => ⟨_, rfl, rfl⟩
theorem ar_77 (G : Gn) : AI G 77 8 := fun _ _ _ _ => rfl
theorem ci_77 {i : Nat} (h : i < 1) : i < cntK 77 := h
theorem mw_1193 : Cond.fieldLink "MilkDeskModel" 120 "MilkDeskModel" "rows" "[J" ∈ lw_G := lw_Gi 1253 (by decide +kernel) rfl
theorem fk_X12_120 : FLK "MilkDeskModel" 120 11 51 RX12 TX12 53 := ⟨rfl, Nat.le_of_ble_eq_true rfl, mw_1193, in_wsX120⟩
theorem gr_10_51 (G : Gn) (i : Nat) : GVR G 10 11 51 i (ad G 78 i) := fun _ _ _ => ⟨_, rfl, rfl⟩
theorem ar_78 (G : Gn) : AJ G 78 640 := fun _ _ _ _ => rfl
theorem ci_78 {i : Nat} (h : i < 1) : i < cntK 78 := h
theorem mw_1156 : Cond.fieldLink "MilkDeskModel" 46 "MilkDeskModel" "rHeads" "[I" ∈ lw_G := lw_Gi 1216 (by decide +kernel) rfl
theorem fk_X12_46 : FLK "MilkDeskModel" 46 11 14 RX12 TX12 53 := ⟨rfl, Nat.le_of_ble_eq_true rfl, mw_1156, in_wsX120⟩
theorem gr_10_14 (G : Gn) (i : Nat) : GVR G 10 11 14 i (ad G 56 i) := fun _ _ _ => ⟨_, rfl, rfl⟩
theorem mw_1364 : Cond.constantLong "MilkDeskModel" 158 (200) ∈ lw_G := lw_Gi 1424 (by decide +kernel) rfl
theorem ar_56 (G : Gn) : AI G 56 192 := fun _ _ _ _ => rfl
theorem ci_56 {i : Nat} (h : i < 1) : i < cntK 56 := h
theorem mw_1375 : Cond.code yX12_headOf cX12_headOf 7 (some .int) ∈ lw_G := lw_Gi 1435 (by decide +kernel) rfl
theorem mw_1374 : Cond.instanceMethod yX12_headOf ∈ lw_G := lw_Gi 1434 (by decide +kernel) rfl
theorem mp_25 : Cond.selects yX12_headOf.cls yX12_headOf yX12_headOf ∈ lw_G := lw_Gi 25 (by decide +kernel) rfl
theorem mw_1372 : Cond.methodLink "MilkDeskModel" 160 yX12_headOf ∈ lw_G := lw_Gi 1432 (by decide +kernel) rfl
theorem lk_X12_160 : LKV "MilkDeskModel" 160 yX12_headOf.cls yX12_headOf cX12_headOf 7 (some .int) 4 := ⟨mw_1372, mw_1374, mp_25, mw_12, mw_1375, by decide +kernel, by decide +kernel, by decide +kernel⟩
theorem mw_1371 : Cond.code yX12_isDay cX12_isDay 1 (some .boolean) ∈ lw_G := lw_Gi 1431 (by decide +kernel) rfl
theorem mw_1370 : Cond.static yX12_isDay ∈ lw_G := lw_Gi 1430 (by decide +kernel) rfl
theorem mw_1369 : Cond.methodLink "MilkDeskModel" 164 yX12_isDay ∈ lw_G := lw_Gi 1429 (by decide +kernel) rfl
theorem lk_X12_164 : LKS "MilkDeskModel" 164 yX12_isDay cX12_isDay 1 (some .boolean) 1 := ⟨mw_1369, mw_1370, mw_12, mw_1371, by decide +kernel, by decide +kernel, by decide +kernel⟩
theorem mw_1168 : Cond.fieldLink "MilkDeskModel" 167 "MilkDeskModel" "at" "I" ∈ lw_G := lw_Gi 1228 (by decide +kernel) rfl
theorem fk_X12_167 : FLK "MilkDeskModel" 167 11 26 RX12 TX12 53 := ⟨rfl, Nat.le_of_ble_eq_true rfl, mw_1168, in_wsX120⟩
theorem gi_10_26 (G : Gn) : GVI G 10 11 26 := fun _ _ _ _ => ⟨_, rfl, rfl⟩
theorem mw_1167 : Cond.fieldLink "MilkDeskModel" 170 "MilkDeskModel" "end" "I" ∈ lw_G := lw_Gi 1227 (by decide +kernel) rfl
theorem fk_X12_170 : FLK "MilkDeskModel" 170 11 25 RX12 TX12 53 := ⟨rfl, Nat.le_of_ble_eq_true rfl, mw_1167, in_wsX120⟩
theorem gi_10_25 (G : Gn) : GVI G 10 11 25 := fun _ _ _ _ => ⟨_, rfl, rfl⟩
theorem mw_1165 : Cond.fieldLink "MilkDeskModel" 173 "MilkDeskModel" "isRow" "Z" ∈ lw_G := lw_Gi 1225 (by decide +kernel) rfl
theorem fk_X12_173 : FLK "MilkDeskModel" 173 11 23 RX12 TX12 53 := ⟨rfl, Nat.le_of_ble_eq_true rfl, mw_1165, in_wsX120⟩
theorem gi_10_23 (G : Gn) : GVI G 10 11 23 := fun _ _ _ _ => ⟨_, rfl, rfl⟩
theorem mw_1157 : Cond.fieldLink "MilkDeskModel" 49 "MilkDeskModel" "aBytes" "[I" ∈ lw_G := lw_Gi 1217 (by decide +kernel) rfl
theorem fk_X12_49 : FLK "MilkDeskModel" 49 11 15 RX12 TX12 53 := ⟨rfl, Nat.le_of_ble_eq_true rfl, mw_1157, in_wsX120⟩
theorem gr_10_15 (G : Gn) (i : Nat) : GVR G 10 11 15 i (ad G 57 i) := fun _ _ _ => ⟨_, rfl, rfl⟩
theorem mw_1166 : Cond.fieldLink "MilkDeskModel" 177 "MilkDeskModel" "base" "I" ∈ lw_G := lw_Gi 1226 (by decide +kernel) rfl
theorem fk_X12_177 : FLK "MilkDeskModel" 177 11 24 RX12 TX12 53 := ⟨rfl, Nat.le_of_ble_eq_true rfl, mw_1166, in_wsX120⟩
theorem gi_10_24 (G : Gn) : GVI G 10 11 24 := fun _ _ _ _ => ⟨_, rfl, rfl⟩
theorem ar_57 (G : Gn) : AI G 57 1280 := fun _ _ _ _ => rfl
theorem ci_57 {i : Nat} (h : i < 1) : i < cntK 57 := h
theorem mw_1172 : Cond.fieldLink "MilkDeskModel" 180 "MilkDeskModel" "forAge" "I" ∈ lw_G := lw_Gi 1232 (by decide +kernel) rfl
theorem fk_X12_180 : FLK "MilkDeskModel" 180 11 30 RX12 TX12 53 := ⟨rfl, Nat.le_of_ble_eq_true rfl, mw_1172, in_wsX120⟩
theorem gi_10_30 (G : Gn) : GVI G 10 11 30 := fun _ _ _ _ => ⟨_, rfl, rfl⟩
theorem mw_1173 : Cond.fieldLink "MilkDeskModel" 186 "MilkDeskModel" "forDay" "I" ∈ lw_G := lw_Gi 1233 (by decide +kernel) rfl
theorem fk_X12_186 : FLK "MilkDeskModel" 186 11 31 RX12 TX12 53 := ⟨rfl, Nat.le_of_ble_eq_true rfl, mw_1173, in_wsX120⟩
theorem gi_10_31 (G : Gn) : GVI G 10 11 31 := fun _ _ _ _ => ⟨_, rfl, rfl⟩
theorem mw_1421 : Cond.code yX12_monthOf cX12_monthOf 1 (some .int) ∈ lw_G := lw_Gi 1481 (by decide +kernel) rfl
theorem mw_1420 : Cond.static yX12_monthOf ∈ lw_G := lw_Gi 1480 (by decide +kernel) rfl
theorem mw_1419 : Cond.methodLink "MilkDeskModel" 189 yX12_monthOf ∈ lw_G := lw_Gi 1479 (by decide +kernel) rfl
theorem lk_X12_189 : LKS "MilkDeskModel" 189 yX12_monthOf cX12_monthOf 1 (some .int) 1 := ⟨mw_1419, mw_1420, mw_12, mw_1421, by decide +kernel, by decide +kernel, by decide +kernel⟩
theorem mw_1171 : Cond.fieldLink "MilkDeskModel" 183 "MilkDeskModel" "forSchool" "I" ∈ lw_G := lw_Gi 1231 (by decide +kernel) rfl
theorem fk_X12_183 : FLK "MilkDeskModel" 183 11 29 RX12 TX12 53 := ⟨rfl, Nat.le_of_ble_eq_true rfl, mw_1171, in_wsX120⟩
theorem gi_10_29 (G : Gn) : GVI G 10 11 29 := fun _ _ _ _ => ⟨_, rfl, rfl⟩
theorem mw_1425 : Cond.code yX12_headsOf cX12_headsOf 3 (some .int) ∈ lw_G := lw_Gi 1485 (by decide +kernel) rfl
theorem mw_1424 : Cond.instanceMethod yX12_headsOf ∈ lw_G := lw_Gi 1484 (by decide +kernel) rfl
theorem mp_35 : Cond.selects yX12_headsOf.cls yX12_headsOf yX12_headsOf ∈ lw_G := lw_Gi 35 (by decide +kernel) rfl
theorem mw_1422 : Cond.methodLink "MilkDeskModel" 192 yX12_headsOf ∈ lw_G := lw_Gi 1482 (by decide +kernel) rfl
theorem lk_X12_192 : LKV "MilkDeskModel" 192 yX12_headsOf.cls yX12_headsOf cX12_headsOf 3 (some .int) 2 := ⟨mw_1422, mw_1424, mp_35, mw_12, mw_1425, by decide +kernel, by decide +kernel, by decide +kernel⟩
theorem mw_1395 : Cond.code yX12_here cX12_here 1 (some .int) ∈ lw_G := lw_Gi 1455 (by decide +kernel) rfl
theorem mw_1394 : Cond.instanceMethod yX12_here ∈ lw_G := lw_Gi 1454 (by decide +kernel) rfl
theorem mp_29 : Cond.selects yX12_here.cls yX12_here yX12_here ∈ lw_G := lw_Gi 29 (by decide +kernel) rfl
theorem mw_1392 : Cond.methodLink "MilkDeskModel" 196 yX12_here ∈ lw_G := lw_Gi 1452 (by decide +kernel) rfl
theorem lk_X12_196 : LKV "MilkDeskModel" 196 yX12_here.cls yX12_here cX12_here 1 (some .int) 0 := ⟨mw_1392, mw_1394, mp_29, mw_12, mw_1395, by decide +kernel, by decide +kernel, by decide +kernel⟩
theorem mw_1414 : Cond.code yX12_isField cX12_isField 1 (some .boolean) ∈ lw_G := lw_Gi 1474 (by decide +kernel) rfl
theorem mw_1413 : Cond.static yX12_isField ∈ lw_G := lw_Gi 1473 (by decide +kernel) rfl
theorem mw_1412 : Cond.methodLink "MilkDeskModel" 200 yX12_isField ∈ lw_G := lw_Gi 1472 (by decide +kernel) rfl
theorem lk_X12_200 : LKS "MilkDeskModel" 200 yX12_isField cX12_isField 1 (some .boolean) 1 := ⟨mw_1412, mw_1413, mw_12, mw_1414, by decide +kernel, by decide +kernel, by decide +kernel⟩
theorem pf_X12_26 : parseFieldDescriptor (TX12 26).2.2.1 = some .int := by decide +kernel
theorem pv_10_26 (G : Gn) : PV G 10 11 26 := fun _ _ _ _ _ => ⟨_, rfl, Nat.le_of_ble_eq_true rfl, rfl⟩
theorem mw_1169 : Cond.fieldLink "MilkDeskModel" 206 "MilkDeskModel" "isBad" "Z" ∈ lw_G := lw_Gi 1229 (by decide +kernel) rfl
theorem fk_X12_206 : FLK "MilkDeskModel" 206 11 27 RX12 TX12 53 := ⟨rfl, Nat.le_of_ble_eq_true rfl, mw_1169, in_wsX120⟩
theorem pf_X12_27 : parseFieldDescriptor (TX12 27).2.2.1 = some .boolean := by decide +kernel
theorem pv_10_27 (G : Gn) : PV G 10 11 27 := fun _ _ _ _ _ => ⟨_, rfl, Nat.le_of_ble_eq_true rfl, rfl⟩
theorem mw_1418 : Cond.code yX12_field cX12_field 2 (some .int) ∈ lw_G := lw_Gi 1478 (by decide +kernel) rfl
theorem mw_1417 : Cond.instanceMethod yX12_field ∈ lw_G := lw_Gi 1477 (by decide +kernel) rfl
theorem mp_34 : Cond.selects yX12_field.cls yX12_field yX12_field ∈ lw_G := lw_Gi 34 (by decide +kernel) rfl
theorem mw_1415 : Cond.methodLink "MilkDeskModel" 203 yX12_field ∈ lw_G := lw_Gi 1475 (by decide +kernel) rfl
theorem lk_X12_203 : LKV "MilkDeskModel" 203 yX12_field.cls yX12_field cX12_field 2 (some .int) 1 := ⟨mw_1415, mw_1417, mp_34, mw_12, mw_1418, by decide +kernel, by decide +kernel, by decide +kernel⟩
theorem mw_1411 : Cond.code yX12_readAtom cX12_readAtom 4 (some .int) ∈ lw_G := lw_Gi 1471 (by decide +kernel) rfl
theorem mw_1410 : Cond.instanceMethod yX12_readAtom ∈ lw_G := lw_Gi 1470 (by decide +kernel) rfl
theorem mp_33 : Cond.selects yX12_readAtom.cls yX12_readAtom yX12_readAtom ∈ lw_G := lw_Gi 33 (by decide +kernel) rfl
theorem mw_1408 : Cond.methodLink "MilkDeskModel" 209 yX12_readAtom ∈ lw_G := lw_Gi 1468 (by decide +kernel) rfl
theorem lk_X12_209 : LKV "MilkDeskModel" 209 yX12_readAtom.cls yX12_readAtom cX12_readAtom 4 (some .int) 0 := ⟨mw_1408, mw_1410, mp_33, mw_12, mw_1411, by decide +kernel, by decide +kernel, by decide +kernel⟩
theorem gi_10_27 (G : Gn) : GVI G 10 11 27 := fun _ _ _ _ => ⟨_, rfl, rfl⟩
theorem kb_43 : (Int8.ofInt 43).toInt32 = (43 : Int32) := by decide +kernel
theorem kb_45 : (Int8.ofInt 45).toInt32 = (45 : Int32) := by decide +kernel
theorem mw_1407 : Cond.code yX12_readSum cX12_readSum 4 (some .int) ∈ lw_G := lw_Gi 1467 (by decide +kernel) rfl
theorem mw_1406 : Cond.instanceMethod yX12_readSum ∈ lw_G := lw_Gi 1466 (by decide +kernel) rfl
theorem mp_32 : Cond.selects yX12_readSum.cls yX12_readSum yX12_readSum ∈ lw_G := lw_Gi 32 (by decide +kernel) rfl
theorem mw_1404 : Cond.methodLink "MilkDeskModel" 212 yX12_readSum ∈ lw_G := lw_Gi 1464 (by decide +kernel) rfl
theorem lk_X12_212 : LKV "MilkDeskModel" 212 yX12_readSum.cls yX12_readSum cX12_readSum 4 (some .int) 0 := ⟨mw_1404, mw_1406, mp_32, mw_12, mw_1407, by decide +kernel, by decide +kernel, by decide +kernel⟩
theorem kb_62 : (Int8.ofInt 62).toInt32 = (62 : Int32) := by decide +kernel
theorem kb_61 : (Int8.ofInt 61).toInt32 = (61 : Int32) := by decide +kernel
theorem mw_1177 : Cond.fieldLink "MilkDeskModel" 215 "MilkDeskModel" "signMany" "I" ∈ lw_G := lw_Gi 1237 (by decide +kernel) rfl
theorem fk_X12_215 : FLK "MilkDeskModel" 215 11 35 RX12 TX12 53 := ⟨rfl, Nat.le_of_ble_eq_true rfl, mw_1177, in_wsX120⟩
theorem gi_10_35 (G : Gn) : GVI G 10 11 35 := fun _ _ _ _ => ⟨_, rfl, rfl⟩
theorem mw_1176 : Cond.fieldLink "MilkDeskModel" 78 "MilkDeskModel" "signs" "[I" ∈ lw_G := lw_Gi 1236 (by decide +kernel) rfl
theorem fk_X12_78 : FLK "MilkDeskModel" 78 11 34 RX12 TX12 53 := ⟨rfl, Nat.le_of_ble_eq_true rfl, mw_1176, in_wsX120⟩
theorem gr_10_34 (G : Gn) (i : Nat) : GVR G 10 11 34 i (ad G 65 i) := fun _ _ _ => ⟨_, rfl, rfl⟩
theorem ar_65 (G : Gn) : AI G 65 200 := fun _ _ _ _ => rfl
theorem ci_65 {i : Nat} (h : i < 1) : i < cntK 65 := h
theorem mw_1433 : Cond.code yX12_topSign cX12_topSign 1 (some .int) ∈ lw_G := lw_Gi 1493 (by decide +kernel) rfl
theorem mw_1432 : Cond.instanceMethod yX12_topSign ∈ lw_G := lw_Gi 1492 (by decide +kernel) rfl
theorem mp_37 : Cond.selects yX12_topSign.cls yX12_topSign yX12_topSign ∈ lw_G := lw_Gi 37 (by decide +kernel) rfl
theorem mw_1430 : Cond.methodLink "MilkDeskModel" 218 yX12_topSign ∈ lw_G := lw_Gi 1490 (by decide +kernel) rfl
theorem lk_X12_218 : LKV "MilkDeskModel" 218 yX12_topSign.cls yX12_topSign cX12_topSign 1 (some .int) 0 := ⟨mw_1430, mw_1432, mp_37, mw_12, mw_1433, by decide +kernel, by decide +kernel, by decide +kernel⟩
theorem mw_1174 : Cond.fieldLink "MilkDeskModel" 74 "MilkDeskModel" "values" "[Z" ∈ lw_G := lw_Gi 1234 (by decide +kernel) rfl
theorem fk_X12_74 : FLK "MilkDeskModel" 74 11 32 RX12 TX12 53 := ⟨rfl, Nat.le_of_ble_eq_true rfl, mw_1174, in_wsX120⟩
theorem gr_10_32 (G : Gn) (i : Nat) : GVR G 10 11 32 i (ad G 64 i) := fun _ _ _ => ⟨_, rfl, rfl⟩
theorem mw_1175 : Cond.fieldLink "MilkDeskModel" 221 "MilkDeskModel" "valueMany" "I" ∈ lw_G := lw_Gi 1235 (by decide +kernel) rfl
theorem fk_X12_221 : FLK "MilkDeskModel" 221 11 33 RX12 TX12 53 := ⟨rfl, Nat.le_of_ble_eq_true rfl, mw_1175, in_wsX120⟩
theorem gi_10_33 (G : Gn) : GVI G 10 11 33 := fun _ _ _ _ => ⟨_, rfl, rfl⟩
theorem ar_64 (G : Gn) : AZ G 64 100 := fun _ _ _ _ => rfl
theorem ci_64 {i : Nat} (h : i < 1) : i < cntK 64 := h
theorem pf_X12_35 : parseFieldDescriptor (TX12 35).2.2.1 = some .int := by decide +kernel
theorem pv_10_35 (G : Gn) : PV G 10 11 35 := fun _ _ _ _ _ => ⟨_, rfl, Nat.le_of_ble_eq_true rfl, rfl⟩
theorem pf_X12_33 : parseFieldDescriptor (TX12 33).2.2.1 = some .int := by decide +kernel
theorem pv_10_33 (G : Gn) : PV G 10 11 33 := fun _ _ _ _ _ => ⟨_, rfl, Nat.le_of_ble_eq_true rfl, rfl⟩
theorem mw_1170 : Cond.fieldLink "MilkDeskModel" 224 "MilkDeskModel" "deep" "I" ∈ lw_G := lw_Gi 1230 (by decide +kernel) rfl
theorem fk_X12_224 : FLK "MilkDeskModel" 224 11 28 RX12 TX12 53 := ⟨rfl, Nat.le_of_ble_eq_true rfl, mw_1170, in_wsX120⟩
theorem pf_X12_28 : parseFieldDescriptor (TX12 28).2.2.1 = some .int := by decide +kernel
theorem pv_10_28 (G : Gn) : PV G 10 11 28 := fun _ _ _ _ _ => ⟨_, rfl, Nat.le_of_ble_eq_true rfl, rfl⟩
theorem mw_1437 : Cond.code yX12_join cX12_join 2 none ∈ lw_G := lw_Gi 1497 (by decide +kernel) rfl
theorem mw_1436 : Cond.instanceMethod yX12_join ∈ lw_G := lw_Gi 1496 (by decide +kernel) rfl
theorem mp_38 : Cond.selects yX12_join.cls yX12_join yX12_join ∈ lw_G := lw_Gi 38 (by decide +kernel) rfl
theorem mw_1434 : Cond.methodLink "MilkDeskModel" 234 yX12_join ∈ lw_G := lw_Gi 1494 (by decide +kernel) rfl
theorem lk_X12_234 : LKV "MilkDeskModel" 234 yX12_join.cls yX12_join cX12_join 2 none 1 := ⟨mw_1434, mw_1436, mp_38, mw_12, mw_1437, by decide +kernel, by decide +kernel, by decide +kernel⟩
theorem mw_1403 : Cond.code yX12_readTest cX12_readTest 4 (some .boolean) ∈ lw_G := lw_Gi 1463 (by decide +kernel) rfl
theorem mw_1402 : Cond.instanceMethod yX12_readTest ∈ lw_G := lw_Gi 1462 (by decide +kernel) rfl
theorem mp_31 : Cond.selects yX12_readTest.cls yX12_readTest yX12_readTest ∈ lw_G := lw_Gi 31 (by decide +kernel) rfl
theorem mw_1400 : Cond.methodLink "MilkDeskModel" 227 yX12_readTest ∈ lw_G := lw_Gi 1460 (by decide +kernel) rfl
theorem lk_X12_227 : LKV "MilkDeskModel" 227 yX12_readTest.cls yX12_readTest cX12_readTest 4 (some .boolean) 0 := ⟨mw_1400, mw_1402, mp_31, mw_12, mw_1403, by decide +kernel, by decide +kernel, by decide +kernel⟩
theorem mw_1429 : Cond.code yX12_testEnds cX12_testEnds 1 none ∈ lw_G := lw_Gi 1489 (by decide +kernel) rfl
theorem mw_1428 : Cond.instanceMethod yX12_testEnds ∈ lw_G := lw_Gi 1488 (by decide +kernel) rfl
theorem mp_36 : Cond.selects yX12_testEnds.cls yX12_testEnds yX12_testEnds ∈ lw_G := lw_Gi 36 (by decide +kernel) rfl
theorem mw_1426 : Cond.methodLink "MilkDeskModel" 231 yX12_testEnds ∈ lw_G := lw_Gi 1486 (by decide +kernel) rfl
theorem lk_X12_231 : LKV "MilkDeskModel" 231 yX12_testEnds.cls yX12_testEnds cX12_testEnds 1 none 0 := ⟨mw_1426, mw_1428, mp_36, mw_12, mw_1429, by decide +kernel, by decide +kernel, by decide +kernel⟩
theorem gi_10_28 (G : Gn) : GVI G 10 11 28 := fun _ _ _ _ => ⟨_, rfl, rfl⟩
theorem kb_101 : (Int8.ofInt 101).toInt32 = (101 : Int32) := by decide +kernel
theorem kb_114 : (Int8.ofInt 114).toInt32 = (114 : Int32) := by decide +kernel
theorem kb_111 : (Int8.ofInt 111).toInt32 = (111 : Int32) := by decide +kernel
theorem mw_1399 : Cond.code yX12_readOr cX12_readOr 5 (some .boolean) ∈ lw_G := lw_Gi 1459 (by decide +kernel) rfl
theorem mw_1398 : Cond.instanceMethod yX12_readOr ∈ lw_G := lw_Gi 1458 (by decide +kernel) rfl
theorem mp_30 : Cond.selects yX12_readOr.cls yX12_readOr yX12_readOr ∈ lw_G := lw_Gi 30 (by decide +kernel) rfl
theorem mw_1396 : Cond.methodLink "MilkDeskModel" 238 yX12_readOr ∈ lw_G := lw_Gi 1456 (by decide +kernel) rfl
theorem lk_X12_238 : LKV "MilkDeskModel" 238 yX12_readOr.cls yX12_readOr cX12_readOr 5 (some .boolean) 1 := ⟨mw_1396, mw_1398, mp_30, mw_12, mw_1399, by decide +kernel, by decide +kernel, by decide +kernel⟩
theorem pf_X12_23 : parseFieldDescriptor (TX12 23).2.2.1 = some .boolean := by decide +kernel
theorem pv_10_23 (G : Gn) : PV G 10 11 23 := fun _ _ _ _ _ => ⟨_, rfl, Nat.le_of_ble_eq_true rfl, rfl⟩
theorem pf_X12_24 : parseFieldDescriptor (TX12 24).2.2.1 = some .int := by decide +kernel
theorem pv_10_24 (G : Gn) : PV G 10 11 24 := fun _ _ _ _ _ => ⟨_, rfl, Nat.le_of_ble_eq_true rfl, rfl⟩
theorem pf_X12_25 : parseFieldDescriptor (TX12 25).2.2.1 = some .int := by decide +kernel
theorem pv_10_25 (G : Gn) : PV G 10 11 25 := fun _ _ _ _ _ => ⟨_, rfl, Nat.le_of_ble_eq_true rfl, rfl⟩
theorem mw_1391 : Cond.code yX12_readAct cX12_readAct 3 (some .boolean) ∈ lw_G := lw_Gi 1451 (by decide +kernel) rfl
theorem mw_1390 : Cond.instanceMethod yX12_readAct ∈ lw_G := lw_Gi 1450 (by decide +kernel) rfl
theorem mp_28 : Cond.selects yX12_readAct.cls yX12_readAct yX12_readAct ∈ lw_G := lw_Gi 28 (by decide +kernel) rfl
theorem mw_1388 : Cond.methodLink "MilkDeskModel" 242 yX12_readAct ∈ lw_G := lw_Gi 1448 (by decide +kernel) rfl
theorem lk_X12_242 : LKV "MilkDeskModel" 242 yX12_readAct.cls yX12_readAct cX12_readAct 3 (some .boolean) 0 := ⟨mw_1388, mw_1390, mp_28, mw_12, mw_1391, by decide +kernel, by decide +kernel, by decide +kernel⟩
theorem mw_1383 : Cond.code yX12_lacks cX12_lacks 3 (some .int) ∈ lw_G := lw_Gi 1443 (by decide +kernel) rfl
theorem mw_1382 : Cond.instanceMethod yX12_lacks ∈ lw_G := lw_Gi 1442 (by decide +kernel) rfl
theorem mp_26 : Cond.selects yX12_lacks.cls yX12_lacks yX12_lacks ∈ lw_G := lw_Gi 26 (by decide +kernel) rfl
theorem mw_1380 : Cond.methodLink "MilkDeskModel" 245 yX12_lacks ∈ lw_G := lw_Gi 1440 (by decide +kernel) rfl
theorem lk_X12_245 : LKV "MilkDeskModel" 245 yX12_lacks.cls yX12_lacks cX12_lacks 3 (some .int) 2 := ⟨mw_1380, mw_1382, mp_26, mw_12, mw_1383, by decide +kernel, by decide +kernel, by decide +kernel⟩
theorem mw_1387 : Cond.code yX12_faultOf cX12_faultOf 2 (some .int) ∈ lw_G := lw_Gi 1447 (by decide +kernel) rfl
theorem mw_1386 : Cond.instanceMethod yX12_faultOf ∈ lw_G := lw_Gi 1446 (by decide +kernel) rfl
theorem mp_27 : Cond.selects yX12_faultOf.cls yX12_faultOf yX12_faultOf ∈ lw_G := lw_Gi 27 (by decide +kernel) rfl
theorem mw_1384 : Cond.methodLink "MilkDeskModel" 248 yX12_faultOf ∈ lw_G := lw_Gi 1444 (by decide +kernel) rfl
theorem lk_X12_248 : LKV "MilkDeskModel" 248 yX12_faultOf.cls yX12_faultOf cX12_faultOf 2 (some .int) 1 := ⟨mw_1384, mw_1386, mp_27, mw_12, mw_1387, by decide +kernel, by decide +kernel, by decide +kernel⟩
theorem mw_1158 : Cond.fieldLink "MilkDeskModel" 52 "MilkDeskModel" "aMany" "[I" ∈ lw_G := lw_Gi 1218 (by decide +kernel) rfl
theorem fk_X12_52 : FLK "MilkDeskModel" 52 11 16 RX12 TX12 53 := ⟨rfl, Nat.le_of_ble_eq_true rfl, mw_1158, in_wsX120⟩
theorem gr_10_16 (G : Gn) (i : Nat) : GVR G 10 11 16 i (ad G 58 i) := fun _ _ _ => ⟨_, rfl, rfl⟩
theorem ar_58 (G : Gn) : AI G 58 16 := fun _ _ _ _ => rfl
theorem ci_58 {i : Nat} (h : i < 1) : i < cntK 58 := h
theorem mw_1159 : Cond.fieldLink "MilkDeskModel" 55 "MilkDeskModel" "aShire" "[I" ∈ lw_G := lw_Gi 1219 (by decide +kernel) rfl
theorem fk_X12_55 : FLK "MilkDeskModel" 55 11 17 RX12 TX12 53 := ⟨rfl, Nat.le_of_ble_eq_true rfl, mw_1159, in_wsX120⟩
theorem gr_10_17 (G : Gn) (i : Nat) : GVR G 10 11 17 i (ad G 59 i) := fun _ _ _ => ⟨_, rfl, rfl⟩
theorem ar_59 (G : Gn) : AI G 59 16 := fun _ _ _ _ => rfl
theorem ci_59 {i : Nat} (h : i < 1) : i < cntK 59 := h
theorem mw_1160 : Cond.fieldLink "MilkDeskModel" 58 "MilkDeskModel" "aFrom" "[I" ∈ lw_G := lw_Gi 1220 (by decide +kernel) rfl
theorem fk_X12_58 : FLK "MilkDeskModel" 58 11 18 RX12 TX12 53 := ⟨rfl, Nat.le_of_ble_eq_true rfl, mw_1160, in_wsX120⟩
theorem gr_10_18 (G : Gn) (i : Nat) : GVR G 10 11 18 i (ad G 60 i) := fun _ _ _ => ⟨_, rfl, rfl⟩
theorem ar_60 (G : Gn) : AI G 60 16 := fun _ _ _ _ => rfl
theorem ci_60 {i : Nat} (h : i < 1) : i < cntK 60 := h
theorem ks_160 : (Int16.ofInt 160).toInt32 = (160 : Int32) := by decide +kernel
theorem mw_1442 : Cond.constant "MilkDeskModel" 251 (1000000) ∈ lw_G := lw_Gi 1502 (by decide +kernel) rfl
theorem mw_1179 : Cond.fieldLink "MilkDeskModel" 84 "MilkDeskModel" "forcesDay" "I" ∈ lw_G := lw_Gi 1239 (by decide +kernel) rfl
theorem fk_X12_84 : FLK "MilkDeskModel" 84 11 37 RX12 TX12 53 := ⟨rfl, Nat.le_of_ble_eq_true rfl, mw_1179, in_wsX120⟩
theorem pf_X12_37 : parseFieldDescriptor (TX12 37).2.2.1 = some .int := by decide +kernel
theorem pv_10_37 (G : Gn) : PV G 10 11 37 := fun _ _ _ _ _ => ⟨_, rfl, Nat.le_of_ble_eq_true rfl, rfl⟩
theorem mw_1461 : Cond.code yX12_letterOf cX12_letterOf 1 (some .int) ∈ lw_G := lw_Gi 1521 (by decide +kernel) rfl
theorem mw_1460 : Cond.static yX12_letterOf ∈ lw_G := lw_Gi 1520 (by decide +kernel) rfl
theorem mw_1459 : Cond.methodLink "MilkDeskModel" 256 yX12_letterOf ∈ lw_G := lw_Gi 1519 (by decide +kernel) rfl
theorem lk_X12_256 : LKS "MilkDeskModel" 256 yX12_letterOf cX12_letterOf 1 (some .int) 1 := ⟨mw_1459, mw_1460, mw_12, mw_1461, by decide +kernel, by decide +kernel, by decide +kernel⟩
theorem mw_1458 : Cond.code yX12_isOf cX12_isOf 5 (some .boolean) ∈ lw_G := lw_Gi 1518 (by decide +kernel) rfl
theorem mw_1457 : Cond.instanceMethod yX12_isOf ∈ lw_G := lw_Gi 1517 (by decide +kernel) rfl
theorem mp_40 : Cond.selects yX12_isOf.cls yX12_isOf yX12_isOf ∈ lw_G := lw_Gi 40 (by decide +kernel) rfl
theorem mw_1455 : Cond.methodLink "MilkDeskModel" 252 yX12_isOf ∈ lw_G := lw_Gi 1515 (by decide +kernel) rfl
theorem lk_X12_252 : LKV "MilkDeskModel" 252 yX12_isOf.cls yX12_isOf cX12_isOf 5 (some .boolean) 4 := ⟨mw_1455, mw_1457, mp_40, mw_12, mw_1458, by decide +kernel, by decide +kernel, by decide +kernel⟩
theorem gi_10_37 (G : Gn) : GVI G 10 11 37 := fun _ _ _ _ => ⟨_, rfl, rfl⟩
theorem mw_1178 : Cond.fieldLink "MilkDeskModel" 81 "MilkDeskModel" "forces" "[I" ∈ lw_G := lw_Gi 1238 (by decide +kernel) rfl
theorem fk_X12_81 : FLK "MilkDeskModel" 81 11 36 RX12 TX12 53 := ⟨rfl, Nat.le_of_ble_eq_true rfl, mw_1178, in_wsX120⟩
theorem gr_10_36 (G : Gn) (i : Nat) : GVR G 10 11 36 i (ad G 66 i) := fun _ _ _ => ⟨_, rfl, rfl⟩
theorem ar_66 (G : Gn) : AI G 66 12 := fun _ _ _ _ => rfl
theorem ci_66 {i : Nat} (h : i < 1) : i < cntK 66 := h
theorem nz_4 : ¬ (4 : Int32) = 0 := by decide +kernel
theorem mw_1454 : Cond.code yX12_forceOf cX12_forceOf 7 (some .int) ∈ lw_G := lw_Gi 1514 (by decide +kernel) rfl
theorem mw_1453 : Cond.instanceMethod yX12_forceOf ∈ lw_G := lw_Gi 1513 (by decide +kernel) rfl
theorem mp_39 : Cond.selects yX12_forceOf.cls yX12_forceOf yX12_forceOf ∈ lw_G := lw_Gi 39 (by decide +kernel) rfl
theorem mw_1451 : Cond.methodLink "MilkDeskModel" 259 yX12_forceOf ∈ lw_G := lw_Gi 1511 (by decide +kernel) rfl
theorem lk_X12_259 : LKV "MilkDeskModel" 259 yX12_forceOf.cls yX12_forceOf cX12_forceOf 7 (some .int) 3 := ⟨mw_1451, mw_1453, mp_39, mw_12, mw_1454, by decide +kernel, by decide +kernel, by decide +kernel⟩
theorem pf_X12_29 : parseFieldDescriptor (TX12 29).2.2.1 = some .int := by decide +kernel
theorem pv_10_29 (G : Gn) : PV G 10 11 29 := fun _ _ _ _ _ => ⟨_, rfl, Nat.le_of_ble_eq_true rfl, rfl⟩
theorem pf_X12_30 : parseFieldDescriptor (TX12 30).2.2.1 = some .int := by decide +kernel
theorem pv_10_30 (G : Gn) : PV G 10 11 30 := fun _ _ _ _ _ => ⟨_, rfl, Nat.le_of_ble_eq_true rfl, rfl⟩
theorem pf_X12_31 : parseFieldDescriptor (TX12 31).2.2.1 = some .int := by decide +kernel
theorem pv_10_31 (G : Gn) : PV G 10 11 31 := fun _ _ _ _ _ => ⟨_, rfl, Nat.le_of_ble_eq_true rfl, rfl⟩
theorem mw_1473 : Cond.code yX12_doesHold cX12_doesHold 5 (some .boolean) ∈ lw_G := lw_Gi 1533 (by decide +kernel) rfl
theorem mw_1472 : Cond.instanceMethod yX12_doesHold ∈ lw_G := lw_Gi 1532 (by decide +kernel) rfl
theorem mp_42 : Cond.selects yX12_doesHold.cls yX12_doesHold yX12_doesHold ∈ lw_G := lw_Gi 42 (by decide +kernel) rfl
theorem mw_1470 : Cond.methodLink "MilkDeskModel" 263 yX12_doesHold ∈ lw_G := lw_Gi 1530 (by decide +kernel) rfl
theorem lk_X12_263 : LKV "MilkDeskModel" 263 yX12_doesHold.cls yX12_doesHold cX12_doesHold 5 (some .boolean) 4 := ⟨mw_1470, mw_1472, mp_42, mw_12, mw_1473, by decide +kernel, by decide +kernel, by decide +kernel⟩
theorem mw_1469 : Cond.code yX12_holdsFor cX12_holdsFor 6 (some .boolean) ∈ lw_G := lw_Gi 1529 (by decide +kernel) rfl
theorem mw_1468 : Cond.instanceMethod yX12_holdsFor ∈ lw_G := lw_Gi 1528 (by decide +kernel) rfl
theorem mp_41 : Cond.selects yX12_holdsFor.cls yX12_holdsFor yX12_holdsFor ∈ lw_G := lw_Gi 41 (by decide +kernel) rfl
theorem mw_1466 : Cond.methodLink "MilkDeskModel" 266 yX12_holdsFor ∈ lw_G := lw_Gi 1526 (by decide +kernel) rfl
theorem lk_X12_266 : LKV "MilkDeskModel" 266 yX12_holdsFor.cls yX12_holdsFor cX12_holdsFor 6 (some .boolean) 4 := ⟨mw_1466, mw_1468, mp_41, mw_12, mw_1469, by decide +kernel, by decide +kernel, by decide +kernel⟩
theorem mw_1481 : Cond.code yX12_couldBe cX12_couldBe 5 (some .boolean) ∈ lw_G := lw_Gi 1541 (by decide +kernel) rfl
theorem mw_1480 : Cond.instanceMethod yX12_couldBe ∈ lw_G := lw_Gi 1540 (by decide +kernel) rfl
theorem mp_43 : Cond.selects yX12_couldBe.cls yX12_couldBe yX12_couldBe ∈ lw_G := lw_Gi 43 (by decide +kernel) rfl
theorem mw_1478 : Cond.methodLink "MilkDeskModel" 269 yX12_couldBe ∈ lw_G := lw_Gi 1538 (by decide +kernel) rfl
theorem lk_X12_269 : LKV "MilkDeskModel" 269 yX12_couldBe.cls yX12_couldBe cX12_couldBe 5 (some .boolean) 4 := ⟨mw_1478, mw_1480, mp_43, mw_12, mw_1481, by decide +kernel, by decide +kernel, by decide +kernel⟩
theorem mw_1511 : Cond.code yX12_hundreds cX12_hundreds 2 (some .int) ∈ lw_G := lw_Gi 1571 (by decide +kernel) rfl
theorem mw_1510 : Cond.static yX12_hundreds ∈ lw_G := lw_Gi 1570 (by decide +kernel) rfl
theorem mw_1509 : Cond.methodLink "MilkDeskModel" 272 yX12_hundreds ∈ lw_G := lw_Gi 1569 (by decide +kernel) rfl
theorem lk_X12_272 : LKS "MilkDeskModel" 272 yX12_hundreds cX12_hundreds 2 (some .int) 2 := ⟨mw_1509, mw_1510, mw_12, mw_1511, by decide +kernel, by decide +kernel, by decide +kernel⟩
theorem mw_1164 : Cond.fieldLink "MilkDeskModel" 70 "MilkDeskModel" "without" "I" ∈ lw_G := lw_Gi 1224 (by decide +kernel) rfl
theorem fk_X12_70 : FLK "MilkDeskModel" 70 11 22 RX12 TX12 53 := ⟨rfl, Nat.le_of_ble_eq_true rfl, mw_1164, in_wsX120⟩
theorem gi_10_22 (G : Gn) : GVI G 10 11 22 := fun _ _ _ _ => ⟨_, rfl, rfl⟩
theorem mw_1501 : Cond.code yX12_orderOf cX12_orderOf 6 (some .int) ∈ lw_G := lw_Gi 1561 (by decide +kernel) rfl
theorem mw_1500 : Cond.instanceMethod yX12_orderOf ∈ lw_G := lw_Gi 1560 (by decide +kernel) rfl
theorem mp_47 : Cond.selects yX12_orderOf.cls yX12_orderOf yX12_orderOf ∈ lw_G := lw_Gi 47 (by decide +kernel) rfl
theorem mw_1498 : Cond.methodLink "MilkDeskModel" 275 yX12_orderOf ∈ lw_G := lw_Gi 1558 (by decide +kernel) rfl
theorem lk_X12_275 : LKV "MilkDeskModel" 275 yX12_orderOf.cls yX12_orderOf cX12_orderOf 6 (some .int) 2 := ⟨mw_1498, mw_1500, mp_47, mw_12, mw_1501, by decide +kernel, by decide +kernel, by decide +kernel⟩
theorem mw_1180 : Cond.fieldLink "MilkDeskModel" 87 "MilkDeskModel" "capLeft" "[I" ∈ lw_G := lw_Gi 1240 (by decide +kernel) rfl
theorem fk_X12_87 : FLK "MilkDeskModel" 87 11 38 RX12 TX12 53 := ⟨rfl, Nat.le_of_ble_eq_true rfl, mw_1180, in_wsX120⟩
theorem gr_10_38 (G : Gn) (i : Nat) : GVR G 10 11 38 i (ad G 67 i) := fun _ _ _ => ⟨_, rfl, rfl⟩
theorem ar_67 (G : Gn) : AI G 67 5 := fun _ _ _ _ => rfl
theorem ci_67 {i : Nat} (h : i < 1) : i < cntK 67 := h
theorem mw_1182 : Cond.fieldLink "MilkDeskModel" 278 "MilkDeskModel" "cowsLeft" "I" ∈ lw_G := lw_Gi 1242 (by decide +kernel) rfl
theorem fk_X12_278 : FLK "MilkDeskModel" 278 11 40 RX12 TX12 53 := ⟨rfl, Nat.le_of_ble_eq_true rfl, mw_1182, in_wsX120⟩
theorem gi_10_40 (G : Gn) : GVI G 10 11 40 := fun _ _ _ _ => ⟨_, rfl, rfl⟩
theorem pf_X12_40 : parseFieldDescriptor (TX12 40).2.2.1 = some .int := by decide +kernel
theorem pv_10_40 (G : Gn) : PV G 10 11 40 := fun _ _ _ _ _ => ⟨_, rfl, Nat.le_of_ble_eq_true rfl, rfl⟩
theorem mw_1505 : Cond.code yX12_add cX12_add 4 none ∈ lw_G := lw_Gi 1565 (by decide +kernel) rfl
theorem mw_1504 : Cond.instanceMethod yX12_add ∈ lw_G := lw_Gi 1564 (by decide +kernel) rfl
theorem mp_48 : Cond.selects yX12_add.cls yX12_add yX12_add ∈ lw_G := lw_Gi 48 (by decide +kernel) rfl
theorem mw_1502 : Cond.methodLink "MilkDeskModel" 281 yX12_add ∈ lw_G := lw_Gi 1562 (by decide +kernel) rfl
theorem lk_X12_281 : LKV "MilkDeskModel" 281 yX12_add.cls yX12_add cX12_add 4 none 3 := ⟨mw_1502, mw_1504, mp_48, mw_12, mw_1505, by decide +kernel, by decide +kernel, by decide +kernel⟩
theorem mw_1508 : Cond.code yX12_paid cX12_paid 4 (some .int) ∈ lw_G := lw_Gi 1568 (by decide +kernel) rfl
theorem mw_1507 : Cond.static yX12_paid ∈ lw_G := lw_Gi 1567 (by decide +kernel) rfl
theorem mw_1506 : Cond.methodLink "MilkDeskModel" 285 yX12_paid ∈ lw_G := lw_Gi 1566 (by decide +kernel) rfl
theorem lk_X12_285 : LKS "MilkDeskModel" 285 yX12_paid cX12_paid 4 (some .int) 3 := ⟨mw_1506, mw_1507, mw_12, mw_1508, by decide +kernel, by decide +kernel, by decide +kernel⟩
theorem mw_1181 : Cond.fieldLink "MilkDeskModel" 90 "MilkDeskModel" "comesAgain" "[I" ∈ lw_G := lw_Gi 1241 (by decide +kernel) rfl
theorem fk_X12_90 : FLK "MilkDeskModel" 90 11 39 RX12 TX12 53 := ⟨rfl, Nat.le_of_ble_eq_true rfl, mw_1181, in_wsX120⟩
theorem gr_10_39 (G : Gn) (i : Nat) : GVR G 10 11 39 i (ad G 68 i) := fun _ _ _ => ⟨_, rfl, rfl⟩
theorem ar_68 (G : Gn) : AI G 68 5 := fun _ _ _ _ => rfl
theorem ci_68 {i : Nat} (h : i < 1) : i < cntK 68 := h
theorem mw_1497 : Cond.code yX12_serve cX12_serve 13 none ∈ lw_G := lw_Gi 1557 (by decide +kernel) rfl
theorem mw_1496 : Cond.instanceMethod yX12_serve ∈ lw_G := lw_Gi 1556 (by decide +kernel) rfl
theorem mp_46 : Cond.selects yX12_serve.cls yX12_serve yX12_serve ∈ lw_G := lw_Gi 46 (by decide +kernel) rfl
theorem mw_1494 : Cond.methodLink "MilkDeskModel" 288 yX12_serve ∈ lw_G := lw_Gi 1554 (by decide +kernel) rfl
theorem lk_X12_288 : LKV "MilkDeskModel" 288 yX12_serve.cls yX12_serve cX12_serve 13 none 2 := ⟨mw_1494, mw_1496, mp_46, mw_12, mw_1497, by decide +kernel, by decide +kernel, by decide +kernel⟩
theorem mw_1489 : Cond.code yX12_wrongDays cX12_wrongDays 3 (some .int) ∈ lw_G := lw_Gi 1549 (by decide +kernel) rfl
theorem mw_1488 : Cond.instanceMethod yX12_wrongDays ∈ lw_G := lw_Gi 1548 (by decide +kernel) rfl
theorem mp_44 : Cond.selects yX12_wrongDays.cls yX12_wrongDays yX12_wrongDays ∈ lw_G := lw_Gi 44 (by decide +kernel) rfl
theorem mw_1486 : Cond.methodLink "MilkDeskModel" 292 yX12_wrongDays ∈ lw_G := lw_Gi 1546 (by decide +kernel) rfl
theorem lk_X12_292 : LKV "MilkDeskModel" 292 yX12_wrongDays.cls yX12_wrongDays cX12_wrongDays 3 (some .int) 2 := ⟨mw_1486, mw_1488, mp_44, mw_12, mw_1489, by decide +kernel, by decide +kernel, by decide +kernel⟩
theorem mw_1493 : Cond.code yX12_pass cX12_pass 3 none ∈ lw_G := lw_Gi 1553 (by decide +kernel) rfl
theorem mw_1492 : Cond.instanceMethod yX12_pass ∈ lw_G := lw_Gi 1552 (by decide +kernel) rfl
theorem mp_45 : Cond.selects yX12_pass.cls yX12_pass yX12_pass ∈ lw_G := lw_Gi 45 (by decide +kernel) rfl
theorem mw_1490 : Cond.methodLink "MilkDeskModel" 295 yX12_pass ∈ lw_G := lw_Gi 1550 (by decide +kernel) rfl
theorem lk_X12_295 : LKV "MilkDeskModel" 295 yX12_pass.cls yX12_pass cX12_pass 3 none 0 := ⟨mw_1490, mw_1492, mp_45, mw_12, mw_1493, by decide +kernel, by decide +kernel, by decide +kernel⟩
theorem mw_1161 : Cond.fieldLink "MilkDeskModel" 61 "MilkDeskModel" "lSchool" "[I" ∈ lw_G := lw_Gi 1221 (by decide +kernel) rfl
theorem fk_X12_61 : FLK "MilkDeskModel" 61 11 19 RX12 TX12 53 := ⟨rfl, Nat.le_of_ble_eq_true rfl, mw_1161, in_wsX120⟩
theorem gr_10_19 (G : Gn) (i : Nat) : GVR G 10 11 19 i (ad G 61 i) := fun _ _ _ => ⟨_, rfl, rfl⟩
theorem ar_61 (G : Gn) : AI G 61 30 := fun _ _ _ _ => rfl
theorem ci_61 {i : Nat} (h : i < 1) : i < cntK 61 := h
theorem mw_1162 : Cond.fieldLink "MilkDeskModel" 64 "MilkDeskModel" "lDay" "[I" ∈ lw_G := lw_Gi 1222 (by decide +kernel) rfl
theorem fk_X12_64 : FLK "MilkDeskModel" 64 11 20 RX12 TX12 53 := ⟨rfl, Nat.le_of_ble_eq_true rfl, mw_1162, in_wsX120⟩
theorem gr_10_20 (G : Gn) (i : Nat) : GVR G 10 11 20 i (ad G 62 i) := fun _ _ _ => ⟨_, rfl, rfl⟩
theorem ar_62 (G : Gn) : AI G 62 30 := fun _ _ _ _ => rfl
theorem ci_62 {i : Nat} (h : i < 1) : i < cntK 62 := h
theorem mw_1163 : Cond.fieldLink "MilkDeskModel" 67 "MilkDeskModel" "lReally" "[I" ∈ lw_G := lw_Gi 1223 (by decide +kernel) rfl
theorem fk_X12_67 : FLK "MilkDeskModel" 67 11 21 RX12 TX12 53 := ⟨rfl, Nat.le_of_ble_eq_true rfl, mw_1163, in_wsX120⟩
theorem gr_10_21 (G : Gn) (i : Nat) : GVR G 10 11 21 i (ad G 63 i) := fun _ _ _ => ⟨_, rfl, rfl⟩
theorem ar_63 (G : Gn) : AI G 63 30 := fun _ _ _ _ => rfl
theorem ci_63 {i : Nat} (h : i < 1) : i < cntK 63 := h
theorem mw_1528 : Cond.constant "MilkDeskModel" 298 (-1000000001) ∈ lw_G := lw_Gi 1588 (by decide +kernel) rfl
theorem mw_1529 : Cond.constant "MilkDeskModel" 299 (-1000000004) ∈ lw_G := lw_Gi 1589 (by decide +kernel) rfl
theorem mw_1548 : Cond.code yX12_apart cX12_apart 2 (some .int) ∈ lw_G := lw_Gi 1608 (by decide +kernel) rfl
theorem mw_1547 : Cond.static yX12_apart ∈ lw_G := lw_Gi 1607 (by decide +kernel) rfl
theorem mw_1546 : Cond.methodLink "MilkDeskModel" 300 yX12_apart ∈ lw_G := lw_Gi 1606 (by decide +kernel) rfl
theorem lk_X12_300 : LKS "MilkDeskModel" 300 yX12_apart cX12_apart 2 (some .int) 2 := ⟨mw_1546, mw_1547, mw_12, mw_1548, by decide +kernel, by decide +kernel, by decide +kernel⟩
theorem mw_1186 : Cond.fieldLink "MilkDeskModel" 303 "MilkDeskModel" "stopMany" "I" ∈ lw_G := lw_Gi 1246 (by decide +kernel) rfl
theorem fk_X12_303 : FLK "MilkDeskModel" 303 11 44 RX12 TX12 53 := ⟨rfl, Nat.le_of_ble_eq_true rfl, mw_1186, in_wsX120⟩
theorem gi_10_44 (G : Gn) : GVI G 10 11 44 := fun _ _ _ _ => ⟨_, rfl, rfl⟩
theorem mw_1184 : Cond.fieldLink "MilkDeskModel" 96 "MilkDeskModel" "way" "[I" ∈ lw_G := lw_Gi 1244 (by decide +kernel) rfl
theorem fk_X12_96 : FLK "MilkDeskModel" 96 11 42 RX12 TX12 53 := ⟨rfl, Nat.le_of_ble_eq_true rfl, mw_1184, in_wsX120⟩
theorem gr_10_42 (G : Gn) (i : Nat) : GVR G 10 11 42 i (ad G 70 i) := fun _ _ _ => ⟨_, rfl, rfl⟩
theorem mw_1183 : Cond.fieldLink "MilkDeskModel" 93 "MilkDeskModel" "stops" "[I" ∈ lw_G := lw_Gi 1243 (by decide +kernel) rfl
theorem fk_X12_93 : FLK "MilkDeskModel" 93 11 41 RX12 TX12 53 := ⟨rfl, Nat.le_of_ble_eq_true rfl, mw_1183, in_wsX120⟩
theorem gr_10_41 (G : Gn) (i : Nat) : GVR G 10 11 41 i (ad G 69 i) := fun _ _ _ => ⟨_, rfl, rfl⟩
theorem ar_69 (G : Gn) : AI G 69 7 := fun _ _ _ _ => rfl
theorem ci_69 {i : Nat} (h : i < 1) : i < cntK 69 := h
theorem ar_70 (G : Gn) : AI G 70 7 := fun _ _ _ _ => rfl
theorem ci_70 {i : Nat} (h : i < 1) : i < cntK 70 := h
theorem mw_1545 : Cond.code yX12_farOf cX12_farOf 8 (some .int) ∈ lw_G := lw_Gi 1605 (by decide +kernel) rfl
theorem mw_1544 : Cond.instanceMethod yX12_farOf ∈ lw_G := lw_Gi 1604 (by decide +kernel) rfl
theorem mp_51 : Cond.selects yX12_farOf.cls yX12_farOf yX12_farOf ∈ lw_G := lw_Gi 51 (by decide +kernel) rfl
theorem mw_1542 : Cond.methodLink "MilkDeskModel" 306 yX12_farOf ∈ lw_G := lw_Gi 1602 (by decide +kernel) rfl
theorem lk_X12_306 : LKV "MilkDeskModel" 306 yX12_farOf.cls yX12_farOf cX12_farOf 8 (some .int) 3 := ⟨mw_1542, mw_1544, mp_51, mw_12, mw_1545, by decide +kernel, by decide +kernel, by decide +kernel⟩
theorem mw_1185 : Cond.fieldLink "MilkDeskModel" 99 "MilkDeskModel" "bestWay" "[I" ∈ lw_G := lw_Gi 1245 (by decide +kernel) rfl
theorem fk_X12_99 : FLK "MilkDeskModel" 99 11 43 RX12 TX12 53 := ⟨rfl, Nat.le_of_ble_eq_true rfl, mw_1185, in_wsX120⟩
theorem gr_10_43 (G : Gn) (i : Nat) : GVR G 10 11 43 i (ad G 71 i) := fun _ _ _ => ⟨_, rfl, rfl⟩
theorem ar_71 (G : Gn) : AI G 71 7 := fun _ _ _ _ => rfl
theorem ci_71 {i : Nat} (h : i < 1) : i < cntK 71 := h
theorem pf_X12_44 : parseFieldDescriptor (TX12 44).2.2.1 = some .int := by decide +kernel
theorem pv_10_44 (G : Gn) : PV G 10 11 44 := fun _ _ _ _ _ => ⟨_, rfl, Nat.le_of_ble_eq_true rfl, rfl⟩
theorem mw_1537 : Cond.code yX12_findStops cX12_findStops 5 (some .int) ∈ lw_G := lw_Gi 1597 (by decide +kernel) rfl
theorem mw_1536 : Cond.instanceMethod yX12_findStops ∈ lw_G := lw_Gi 1596 (by decide +kernel) rfl
theorem mp_49 : Cond.selects yX12_findStops.cls yX12_findStops yX12_findStops ∈ lw_G := lw_Gi 49 (by decide +kernel) rfl
theorem mw_1534 : Cond.methodLink "MilkDeskModel" 309 yX12_findStops ∈ lw_G := lw_Gi 1594 (by decide +kernel) rfl
theorem lk_X12_309 : LKV "MilkDeskModel" 309 yX12_findStops.cls yX12_findStops cX12_findStops 5 (some .int) 1 := ⟨mw_1534, mw_1536, mp_49, mw_12, mw_1537, by decide +kernel, by decide +kernel, by decide +kernel⟩
theorem mw_1541 : Cond.code yX12_findRound cX12_findRound 12 (some .int) ∈ lw_G := lw_Gi 1601 (by decide +kernel) rfl
theorem mw_1540 : Cond.instanceMethod yX12_findRound ∈ lw_G := lw_Gi 1600 (by decide +kernel) rfl
theorem mp_50 : Cond.selects yX12_findRound.cls yX12_findRound yX12_findRound ∈ lw_G := lw_Gi 50 (by decide +kernel) rfl
theorem mw_1538 : Cond.methodLink "MilkDeskModel" 312 yX12_findRound ∈ lw_G := lw_Gi 1598 (by decide +kernel) rfl
theorem lk_X12_312 : LKV "MilkDeskModel" 312 yX12_findRound.cls yX12_findRound cX12_findRound 12 (some .int) 2 := ⟨mw_1538, mw_1540, mp_50, mw_12, mw_1541, by decide +kernel, by decide +kernel, by decide +kernel⟩
theorem ks_320 : (Int16.ofInt 320).toInt32 = (320 : Int32) := by decide +kernel
theorem mw_1145 : Cond.fieldLink "MilkDeskModel" 16 "MilkDeskModel" "kept" "[I" ∈ lw_G := lw_Gi 1205 (by decide +kernel) rfl
theorem fk_X12_16 : FLK "MilkDeskModel" 16 11 3 RX12 TX12 53 := ⟨rfl, Nat.le_of_ble_eq_true rfl, mw_1145, in_wsX120⟩
theorem gr_10_3 (G : Gn) (i : Nat) : GVR G 10 11 3 i (ad G 46 i) := fun _ _ _ => ⟨_, rfl, rfl⟩
theorem ar_46 (G : Gn) : AI G 46 320 := fun _ _ _ _ => rfl
theorem ci_46 {i : Nat} (h : i < 1) : i < cntK 46 := h
theorem mw_1564 : Cond.code yX12_begin cX12_begin 2 none ∈ lw_G := lw_Gi 1624 (by decide +kernel) rfl
theorem mw_1563 : Cond.instanceMethod yX12_begin ∈ lw_G := lw_Gi 1623 (by decide +kernel) rfl
theorem mp_53 : Cond.selects yX12_begin.cls yX12_begin yX12_begin ∈ lw_G := lw_Gi 53 (by decide +kernel) rfl
theorem mw_1561 : Cond.methodLink "MilkDeskModel" 315 yX12_begin ∈ lw_G := lw_Gi 1621 (by decide +kernel) rfl
theorem lk_X12_315 : LKV "MilkDeskModel" 315 yX12_begin.cls yX12_begin cX12_begin 2 none 0 := ⟨mw_1561, mw_1563, mp_53, mw_12, mw_1564, by decide +kernel, by decide +kernel, by decide +kernel⟩
theorem mw_1568 : Cond.code yX12_comeBack cX12_comeBack 2 none ∈ lw_G := lw_Gi 1628 (by decide +kernel) rfl
theorem mw_1567 : Cond.instanceMethod yX12_comeBack ∈ lw_G := lw_Gi 1627 (by decide +kernel) rfl
theorem mp_54 : Cond.selects yX12_comeBack.cls yX12_comeBack yX12_comeBack ∈ lw_G := lw_Gi 54 (by decide +kernel) rfl
theorem mw_1565 : Cond.methodLink "MilkDeskModel" 318 yX12_comeBack ∈ lw_G := lw_Gi 1625 (by decide +kernel) rfl
theorem lk_X12_318 : LKV "MilkDeskModel" 318 yX12_comeBack.cls yX12_comeBack cX12_comeBack 2 none 0 := ⟨mw_1565, mw_1567, mp_54, mw_12, mw_1568, by decide +kernel, by decide +kernel, by decide +kernel⟩
theorem mw_1560 : Cond.code yX12_isEnough cX12_isEnough 6 (some .boolean) ∈ lw_G := lw_Gi 1620 (by decide +kernel) rfl
theorem mw_1559 : Cond.instanceMethod yX12_isEnough ∈ lw_G := lw_Gi 1619 (by decide +kernel) rfl
theorem mp_52 : Cond.selects yX12_isEnough.cls yX12_isEnough yX12_isEnough ∈ lw_G := lw_Gi 52 (by decide +kernel) rfl
theorem mw_1557 : Cond.methodLink "MilkDeskModel" 321 yX12_isEnough ∈ lw_G := lw_Gi 1617 (by decide +kernel) rfl
theorem lk_X12_321 : LKV "MilkDeskModel" 321 yX12_isEnough.cls yX12_isEnough cX12_isEnough 6 (some .boolean) 3 := ⟨mw_1557, mw_1559, mp_52, mw_12, mw_1560, by decide +kernel, by decide +kernel, by decide +kernel⟩
theorem mw_1575 : Cond.code yX12_isPermutation cX12_isPermutation 3 (some .boolean) ∈ lw_G := lw_Gi 1635 (by decide +kernel) rfl
theorem mw_1574 : Cond.static yX12_isPermutation ∈ lw_G := lw_Gi 1634 (by decide +kernel) rfl
theorem mw_1573 : Cond.methodLink "MilkDeskModel" 324 yX12_isPermutation ∈ lw_G := lw_Gi 1633 (by decide +kernel) rfl
theorem lk_X12_324 : LKS "MilkDeskModel" 324 yX12_isPermutation cX12_isPermutation 3 (some .boolean) 1 := ⟨mw_1573, mw_1574, mw_12, mw_1575, by decide +kernel, by decide +kernel, by decide +kernel⟩
theorem pf_X12_22 : parseFieldDescriptor (TX12 22).2.2.1 = some .int := by decide +kernel
theorem pv_10_22 (G : Gn) : PV G 10 11 22 := fun _ _ _ _ _ => ⟨_, rfl, Nat.le_of_ble_eq_true rfl, rfl⟩
theorem mw_1580 : Cond.constant "MilkDeskModel" 327 (-1000000002) ∈ lw_G := lw_Gi 1640 (by decide +kernel) rfl
theorem mw_1584 : Cond.code yX12_sumAhead cX12_sumAhead 6 (some .int) ∈ lw_G := lw_Gi 1644 (by decide +kernel) rfl
theorem mw_1583 : Cond.instanceMethod yX12_sumAhead ∈ lw_G := lw_Gi 1643 (by decide +kernel) rfl
theorem mp_55 : Cond.selects yX12_sumAhead.cls yX12_sumAhead yX12_sumAhead ∈ lw_G := lw_Gi 55 (by decide +kernel) rfl
theorem mw_1581 : Cond.methodLink "MilkDeskModel" 328 yX12_sumAhead ∈ lw_G := lw_Gi 1641 (by decide +kernel) rfl
theorem lk_X12_328 : LKV "MilkDeskModel" 328 yX12_sumAhead.cls yX12_sumAhead cX12_sumAhead 6 (some .int) 3 := ⟨mw_1581, mw_1583, mp_55, mw_12, mw_1584, by decide +kernel, by decide +kernel, by decide +kernel⟩
theorem mw_1589 : Cond.constant "MilkDeskModel" 331 (-1000000000) ∈ lw_G := lw_Gi 1649 (by decide +kernel) rfl
theorem mw_1593 : Cond.code yX12_markOf cX12_markOf 3 (some .int) ∈ lw_G := lw_Gi 1653 (by decide +kernel) rfl
theorem mw_1592 : Cond.instanceMethod yX12_markOf ∈ lw_G := lw_Gi 1652 (by decide +kernel) rfl
theorem mp_56 : Cond.selects yX12_markOf.cls yX12_markOf yX12_markOf ∈ lw_G := lw_Gi 56 (by decide +kernel) rfl
theorem mw_1590 : Cond.methodLink "MilkDeskModel" 332 yX12_markOf ∈ lw_G := lw_Gi 1650 (by decide +kernel) rfl
theorem lk_X12_332 : LKV "MilkDeskModel" 332 yX12_markOf.cls yX12_markOf cX12_markOf 3 (some .int) 2 := ⟨mw_1590, mw_1592, mp_56, mw_12, mw_1593, by decide +kernel, by decide +kernel, by decide +kernel⟩
theorem mw_1146 : Cond.fieldLink "MilkDeskModel" 335 "MilkDeskModel" "hasImage" "Z" ∈ lw_G := lw_Gi 1206 (by decide +kernel) rfl
theorem fk_X12_335 : FLK "MilkDeskModel" 335 11 4 RX12 TX12 53 := ⟨rfl, Nat.le_of_ble_eq_true rfl, mw_1146, in_wsX120⟩
theorem pf_X12_4 : parseFieldDescriptor (TX12 4).2.2.1 = some .boolean := by decide +kernel
theorem pv_10_4 (G : Gn) : PV G 10 11 4 := fun _ _ _ _ _ => ⟨_, rfl, Nat.le_of_ble_eq_true rfl, rfl⟩
theorem mw_1144 : Cond.fieldLink "MilkDeskModel" 13 "MilkDeskModel" "imaged" "[I" ∈ lw_G := lw_Gi 1204 (by decide +kernel) rfl
theorem fk_X12_13 : FLK "MilkDeskModel" 13 11 2 RX12 TX12 53 := ⟨rfl, Nat.le_of_ble_eq_true rfl, mw_1144, in_wsX120⟩
theorem gr_10_2 (G : Gn) (i : Nat) : GVR G 10 11 2 i (ad G 45 i) := fun _ _ _ => ⟨_, rfl, rfl⟩
theorem ar_45 (G : Gn) : AI G 45 320 := fun _ _ _ _ => rfl
theorem ci_45 {i : Nat} (h : i < 1) : i < cntK 45 := h
theorem gi_10_4 (G : Gn) : GVI G 10 11 4 := fun _ _ _ _ => ⟨_, rfl, rfl⟩
theorem mw_1609 : Cond.code yX12_allOf cX12_allOf 4 (some .int) ∈ lw_G := lw_Gi 1669 (by decide +kernel) rfl
theorem mw_1608 : Cond.instanceMethod yX12_allOf ∈ lw_G := lw_Gi 1668 (by decide +kernel) rfl
theorem mp_57 : Cond.selects yX12_allOf.cls yX12_allOf yX12_allOf ∈ lw_G := lw_Gi 57 (by decide +kernel) rfl
theorem mw_1606 : Cond.methodLink "MilkDeskModel" 338 yX12_allOf ∈ lw_G := lw_Gi 1666 (by decide +kernel) rfl
theorem lk_X12_338 : LKV "MilkDeskModel" 338 yX12_allOf.cls yX12_allOf cX12_allOf 4 (some .int) 1 := ⟨mw_1606, mw_1608, mp_57, mw_12, mw_1609, by decide +kernel, by decide +kernel, by decide +kernel⟩
theorem mw_1188 : Cond.fieldLink "MilkDeskModel" 105 "MilkDeskModel" "crateKind" "[I" ∈ lw_G := lw_Gi 1248 (by decide +kernel) rfl
theorem fk_X12_105 : FLK "MilkDeskModel" 105 11 46 RX12 TX12 53 := ⟨rfl, Nat.le_of_ble_eq_true rfl, mw_1188, in_wsX120⟩
theorem gr_10_46 (G : Gn) (i : Nat) : GVR G 10 11 46 i (ad G 73 i) := fun _ _ _ => ⟨_, rfl, rfl⟩
theorem ar_73 (G : Gn) : AI G 73 8 := fun _ _ _ _ => rfl
theorem ci_73 {i : Nat} (h : i < 1) : i < cntK 73 := h
theorem mw_1189 : Cond.fieldLink "MilkDeskModel" 108 "MilkDeskModel" "crateMany" "[I" ∈ lw_G := lw_Gi 1249 (by decide +kernel) rfl
theorem fk_X12_108 : FLK "MilkDeskModel" 108 11 47 RX12 TX12 53 := ⟨rfl, Nat.le_of_ble_eq_true rfl, mw_1189, in_wsX120⟩
theorem gr_10_47 (G : Gn) (i : Nat) : GVR G 10 11 47 i (ad G 74 i) := fun _ _ _ => ⟨_, rfl, rfl⟩
theorem ar_74 (G : Gn) : AI G 74 8 := fun _ _ _ _ => rfl
theorem ci_74 {i : Nat} (h : i < 1) : i < cntK 74 := h
theorem mw_1190 : Cond.fieldLink "MilkDeskModel" 111 "MilkDeskModel" "crateSchool" "[I" ∈ lw_G := lw_Gi 1250 (by decide +kernel) rfl
theorem fk_X12_111 : FLK "MilkDeskModel" 111 11 48 RX12 TX12 53 := ⟨rfl, Nat.le_of_ble_eq_true rfl, mw_1190, in_wsX120⟩
theorem gr_10_48 (G : Gn) (i : Nat) : GVR G 10 11 48 i (ad G 75 i) := fun _ _ _ => ⟨_, rfl, rfl⟩
theorem ar_75 (G : Gn) : AI G 75 8 := fun _ _ _ _ => rfl
theorem ci_75 {i : Nat} (h : i < 1) : i < cntK 75 := h
theorem mw_1625 : Cond.code yX12_wrongRow cX12_wrongRow 2 (some .int) ∈ lw_G := lw_Gi 1685 (by decide +kernel) rfl
theorem mw_1624 : Cond.instanceMethod yX12_wrongRow ∈ lw_G := lw_Gi 1684 (by decide +kernel) rfl
theorem mp_58 : Cond.selects yX12_wrongRow.cls yX12_wrongRow yX12_wrongRow ∈ lw_G := lw_Gi 58 (by decide +kernel) rfl
theorem mw_1622 : Cond.methodLink "MilkDeskModel" 341 yX12_wrongRow ∈ lw_G := lw_Gi 1682 (by decide +kernel) rfl
theorem lk_X12_341 : LKV "MilkDeskModel" 341 yX12_wrongRow.cls yX12_wrongRow cX12_wrongRow 2 (some .int) 1 := ⟨mw_1622, mw_1624, mp_58, mw_12, mw_1625, by decide +kernel, by decide +kernel, by decide +kernel⟩
theorem mw_1628 : Cond.code yX12_narrowed cX12_narrowed 2 (some .long) ∈ lw_G := lw_Gi 1688 (by decide +kernel) rfl
theorem mw_1627 : Cond.static yX12_narrowed ∈ lw_G := lw_Gi 1687 (by decide +kernel) rfl
theorem mw_1626 : Cond.methodLink "MilkDeskModel" 344 yX12_narrowed ∈ lw_G := lw_Gi 1686 (by decide +kernel) rfl
theorem lk_X12_344 : LKS "MilkDeskModel" 344 yX12_narrowed cX12_narrowed 2 (some .long) 2 := ⟨mw_1626, mw_1627, mw_12, mw_1628, by decide +kernel, by decide +kernel, by decide +kernel⟩
theorem mw_1194 : Cond.fieldLink "MilkDeskModel" 124 "MilkDeskModel" "between" "[J" ∈ lw_G := lw_Gi 1254 (by decide +kernel) rfl
theorem fk_X12_124 : FLK "MilkDeskModel" 124 11 52 RX12 TX12 53 := ⟨rfl, Nat.le_of_ble_eq_true rfl, mw_1194, in_wsX120⟩
theorem gr_10_52 (G : Gn) (i : Nat) : GVR G 10 11 52 i (ad G 79 i) := fun _ _ _ => ⟨_, rfl, rfl⟩
theorem ar_79 (G : Gn) : AJ G 79 80 := fun _ _ _ _ => rfl
theorem ci_79 {i : Nat} (h : i < 1) : i < cntK 79 := h
theorem mw_1644 : Cond.code yX12_wrongShelf cX12_wrongShelf 2 (some .int) ∈ lw_G := lw_Gi 1704 (by decide +kernel) rfl
theorem mw_1643 : Cond.instanceMethod yX12_wrongShelf ∈ lw_G := lw_Gi 1703 (by decide +kernel) rfl
theorem mp_59 : Cond.selects yX12_wrongShelf.cls yX12_wrongShelf yX12_wrongShelf ∈ lw_G := lw_Gi 59 (by decide +kernel) rfl
theorem mw_1641 : Cond.methodLink "MilkDeskModel" 348 yX12_wrongShelf ∈ lw_G := lw_Gi 1701 (by decide +kernel) rfl
theorem lk_X12_348 : LKV "MilkDeskModel" 348 yX12_wrongShelf.cls yX12_wrongShelf cX12_wrongShelf 2 (some .int) 1 := ⟨mw_1641, mw_1643, mp_59, mw_12, mw_1644, by decide +kernel, by decide +kernel, by decide +kernel⟩
theorem kb_m15 : (Int8.ofInt (-15)).toInt32 = (-15 : Int32) := by decide +kernel
