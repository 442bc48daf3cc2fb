/-! MORE OF THE LAW'S CASES -/
set_option maxHeartbeats 4000000 in
set_option maxRecDepth 100000 in
theorem lc_18 {p : Program} {l : Launch} {e : Env} {s : State} {m : MethodId} {below : List Frame} {meth : Method} {c : Code} {b L t : Nat} {xs : Nat → Int32} {G : Gn} {M : Mem} {S9 : Sg} {H : Heap} {locs : List Loc} {ls : Array Slot} (hC : LC p s m c b L xs G) (hi : 6 * t + 6 ≤ L) (hW : WPm G M H) (hR : RCX M S9) (hM : RMX M S9) (hI : IV S9) (hS : va_S (fun q => bs G ≤ q) s.heap H locs) (hl : lv_has ls 8 (LV b G (6 * t))) (tail : TL p l e s m below meth c b G t) : W p l e room_1 s m #[Value.ref b] below meth c H locs (200 + 4 * t) (8000 + 100 * t) (lw_Z below #[Value.ref b] s) (F0 m 950 ls []) := by
  obtain ⟨S, hX, hbl, hbs, hKX, hL⟩ := hC
  have hbs' : bs G ≤ s.heap.size := Nat.le_of_eq hbs
  have hK := hKX.1
  have hx := S.1
  have hb := S.2.1
  refine lv_aload_n hx hb dL_law_950 rfl (lv_at hl 1 rfl) ?_
  refine law_arg 1 hx hb hX hbl hbs hS (lv_at hl 0 rfl) (lv_at hl 4 rfl) hi hL (by decide) ki_1 dL_law_951 dL_law_952 dL_law_954 dL_law_955 dL_law_956 ?_
  refine law_arg 2 hx hb hX hbl hbs hS (lv_at hl 0 rfl) (lv_at hl 4 rfl) hi hL (by decide) ki_2 dL_law_957 dL_law_958 dL_law_960 dL_law_961 dL_law_962 ?_
  refine law_arg 3 hx hb hX hbl hbs hS (lv_at hl 0 rfl) (lv_at hl 4 rfl) hi hL (by decide) ki_3 dL_law_963 dL_law_964 dL_law_966 dL_law_967 dL_law_968 ?_
  refine m_ci0 (m_rV S hKX hW (m_szH hbs' hS) (c_X11_look l (P := fun r M' => r = (sp_look S9 (xs (6 * t + 1)) (xs (6 * t + 2)) (xs (6 * t + 3))).1 ∧ RCX M' (sp_look S9 (xs (6 * t + 1)) (xs (6 * t + 2)) (xs (6 * t + 3))).2 ∧ RMX M' S9)) (tC_look hR hI.1 (fun M' hs h' => ⟨rfl, h', hM.sameM hs⟩)) lk_L_97 (m_recv hK hW (ci_0 (Nat.le_of_ble_eq_true rfl)) (rc_0 G) rfl) rfl hl.1 rfl ⟨Nat.le_of_ble_eq_true rfl, Nat.le_of_ble_eq_true rfl⟩ (Nat.le_of_ble_eq_true rfl) ⟨law_rc (by omega) (Nat.le_of_ble_eq_true rfl), law_rs (by omega) (Nat.le_of_ble_eq_true rfl)⟩ dL_law_969) hS rfl rfl (fun r1 M1 H locs h1 hW hS => ?_)
  obtain ⟨e1, hR1, hM1⟩ := h1
  refine lv_aload_n hx hb dL_law_972 rfl (lv_at hl 2 rfl) ?_
  refine law_arg 1 hx hb hX hbl hbs hS (lv_at hl 0 rfl) (lv_at hl 4 rfl) hi hL (by decide) ki_1 dL_law_973 dL_law_974 dL_law_976 dL_law_977 dL_law_978 ?_
  refine law_arg 2 hx hb hX hbl hbs hS (lv_at hl 0 rfl) (lv_at hl 4 rfl) hi hL (by decide) ki_2 dL_law_979 dL_law_980 dL_law_982 dL_law_983 dL_law_984 ?_
  refine law_arg 3 hx hb hX hbl hbs hS (lv_at hl 0 rfl) (lv_at hl 4 rfl) hi hL (by decide) ki_3 dL_law_985 dL_law_986 dL_law_988 dL_law_989 dL_law_990 ?_
  refine m_ci0 (m_rV S hKX hW (m_szH hbs' hS) (c_X12_look l (P := fun r M' => r = (sp_look S9 (xs (6 * t + 1)) (xs (6 * t + 2)) (xs (6 * t + 3))).1 ∧ RCX M' (sp_look S9 (xs (6 * t + 1)) (xs (6 * t + 2)) (xs (6 * t + 3))).2 ∧ RMX M' (sp_look S9 (xs (6 * t + 1)) (xs (6 * t + 2)) (xs (6 * t + 3))).2)) (tM_look hM1 hI.1 (fun M' hs h' => ⟨rfl, hR1.sameC hs, h'⟩)) lk_L_100 (m_recv hK hW (ci_10 (Nat.le_of_ble_eq_true rfl)) (rc_10 G) rfl) rfl hl.1 rfl ⟨Nat.le_of_ble_eq_true rfl, Nat.le_of_ble_eq_true rfl⟩ (Nat.le_of_ble_eq_true rfl) ⟨law_rc (by show 200 + 4 * t ≤ 1000; omega) (Nat.le_of_ble_eq_true rfl), law_rs (by show 8000 + 100 * t ≤ 20000; omega) (Nat.le_of_ble_eq_true rfl)⟩ dL_law_991) hS rfl rfl (fun r2 M2 H locs h2 hW hS => ?_)
  obtain ⟨e2, hR2, hM2⟩ := h2
  refine lv_icmp_eq (tgt := 1778) hx hb dL_law_994 (by decide) (fun cz => ?_) (fun cz => absurd (by rw [e1, e2]) cz)
  refine W.widen (k := 200 + 4 * (t + 1)) (n := 8000 + 100 * (t + 1)) (by show 200 + 4 * t ≤ _; omega) (by show 8000 + 100 * t ≤ _; omega) ?_
  exact tail (sp_look S9 (xs (6 * t + 1)) (xs (6 * t + 2)) (xs (6 * t + 3))).2 M2 H locs ls (iv_look hI) hR2 hM2 hW hS hl
set_option maxHeartbeats 4000000 in
set_option maxRecDepth 100000 in
theorem lc_19 {p : Program} {l : Launch} {e : Env} {s : State} {m : MethodId} {below : List Frame} {meth : Method} {c : Code} {b L t : Nat} {xs : Nat → Int32} {G : Gn} {M : Mem} {S9 : Sg} {H : Heap} {locs : List Loc} {ls : Array Slot} (hC : LC p s m c b L xs G) (hi : 6 * t + 6 ≤ L) (hW : WPm G M H) (hR : RCX M S9) (hM : RMX M S9) (hI : IV S9) (hS : va_S (fun q => bs G ≤ q) s.heap H locs) (hl : lv_has ls 8 (LV b G (6 * t))) (tail : TL p l e s m below meth c b G t) : W p l e room_1 s m #[Value.ref b] below meth c H locs (200 + 4 * t) (8000 + 100 * t) (lw_Z below #[Value.ref b] s) (F0 m 999 ls []) := by
  obtain ⟨S, hX, hbl, hbs, hKX, hL⟩ := hC
  have hbs' : bs G ≤ s.heap.size := Nat.le_of_eq hbs
  have hK := hKX.1
  have hx := S.1
  have hb := S.2.1
  refine lv_aload_n hx hb dL_law_999 rfl (lv_at hl 1 rfl) ?_
  refine law_arg 1 hx hb hX hbl hbs hS (lv_at hl 0 rfl) (lv_at hl 4 rfl) hi hL (by decide) ki_1 dL_law_1000 dL_law_1001 dL_law_1003 dL_law_1004 dL_law_1005 ?_
  refine law_arg 2 hx hb hX hbl hbs hS (lv_at hl 0 rfl) (lv_at hl 4 rfl) hi hL (by decide) ki_2 dL_law_1006 dL_law_1007 dL_law_1009 dL_law_1010 dL_law_1011 ?_
  refine m_ci0 (m_rV S hKX hW (m_szH hbs' hS) (c_X11_byHowMuch l (P := fun r M' => r = (sp_byHowMuch S9 (xs (6 * t + 1)) (xs (6 * t + 2))) ∧ RCX M' S9 ∧ RMX M' S9)) (tC_byHowMuch hR hI.1 ⟨rfl, hR, hM⟩) lk_L_101 (m_recv hK hW (ci_0 (Nat.le_of_ble_eq_true rfl)) (rc_0 G) rfl) rfl hl.1 rfl ⟨Nat.le_of_ble_eq_true rfl, Nat.le_of_ble_eq_true rfl⟩ (Nat.le_of_ble_eq_true rfl) ⟨law_rc (by omega) (Nat.le_of_ble_eq_true rfl), law_rs (by omega) (Nat.le_of_ble_eq_true rfl)⟩ dL_law_1012) hS rfl rfl (fun r1 M1 H locs h1 hW hS => ?_)
  obtain ⟨e1, hR1, hM1⟩ := h1
  refine lv_aload_n hx hb dL_law_1015 rfl (lv_at hl 2 rfl) ?_
  refine law_arg 1 hx hb hX hbl hbs hS (lv_at hl 0 rfl) (lv_at hl 4 rfl) hi hL (by decide) ki_1 dL_law_1016 dL_law_1017 dL_law_1019 dL_law_1020 dL_law_1021 ?_
  refine law_arg 2 hx hb hX hbl hbs hS (lv_at hl 0 rfl) (lv_at hl 4 rfl) hi hL (by decide) ki_2 dL_law_1022 dL_law_1023 dL_law_1025 dL_law_1026 dL_law_1027 ?_
  refine m_ci0 (m_rV S hKX hW (m_szH hbs' hS) (c_X12_byHowMuch l (P := fun r M' => r = (sp_byHowMuch S9 (xs (6 * t + 1)) (xs (6 * t + 2))) ∧ RCX M' S9 ∧ RMX M' S9)) (tM_byHowMuch hM1 hI.1 (fun M' hs h' => ⟨rfl, hR1.sameC hs, h'⟩)) lk_L_104 (m_recv hK hW (ci_10 (Nat.le_of_ble_eq_true rfl)) (rc_10 G) rfl) rfl hl.1 rfl ⟨Nat.le_of_ble_eq_true rfl, Nat.le_of_ble_eq_true rfl⟩ (Nat.le_of_ble_eq_true rfl) ⟨law_rc (by show 200 + 4 * t ≤ 1000; omega) (Nat.le_of_ble_eq_true rfl), law_rs (by show 8000 + 100 * t ≤ 20000; omega) (Nat.le_of_ble_eq_true rfl)⟩ dL_law_1028) hS rfl rfl (fun r2 M2 H locs h2 hW hS => ?_)
  obtain ⟨e2, hR2, hM2⟩ := h2
  refine lv_icmp_eq (tgt := 1778) hx hb dL_law_1031 (by decide) (fun cz => ?_) (fun cz => absurd (by rw [e1, e2]) cz)
  refine W.widen (k := 200 + 4 * (t + 1)) (n := 8000 + 100 * (t + 1)) (by show 200 + 4 * t ≤ _; omega) (by show 8000 + 100 * t ≤ _; omega) ?_
  exact tail S9 M2 H locs ls hI hR2 hM2 hW hS hl
set_option maxHeartbeats 4000000 in
set_option maxRecDepth 100000 in
theorem lc_20 {p : Program} {l : Launch} {e : Env} {s : State} {m : MethodId} {below : List Frame} {meth : Method} {c : Code} {b L t : Nat} {xs : Nat → Int32} {G : Gn} {M : Mem} {S9 : Sg} {H : Heap} {locs : List Loc} {ls : Array Slot} (hC : LC p s m c b L xs G) (hi : 6 * t + 6 ≤ L) (hW : WPm G M H) (hR : RCX M S9) (hM : RMX M S9) (hI : IV S9) (hS : va_S (fun q => bs G ≤ q) s.heap H locs) (hl : lv_has ls 8 (LV b G (6 * t))) (tail : TL p l e s m below meth c b G t) : W p l e room_1 s m #[Value.ref b] below meth c H locs (200 + 4 * t) (8000 + 100 * t) (lw_Z below #[Value.ref b] s) (F0 m 1036 ls []) := by
  obtain ⟨S, hX, hbl, hbs, hKX, hL⟩ := hC
  have hbs' : bs G ≤ s.heap.size := Nat.le_of_eq hbs
  have hK := hKX.1
  have hx := S.1
  have hb := S.2.1
  refine lv_aload_n hx hb dL_law_1036 rfl (lv_at hl 1 rfl) ?_
  refine law_arg 1 hx hb hX hbl hbs hS (lv_at hl 0 rfl) (lv_at hl 4 rfl) hi hL (by decide) ki_1 dL_law_1037 dL_law_1038 dL_law_1040 dL_law_1041 dL_law_1042 ?_
  refine law_arg 2 hx hb hX hbl hbs hS (lv_at hl 0 rfl) (lv_at hl 4 rfl) hi hL (by decide) ki_2 dL_law_1043 dL_law_1044 dL_law_1046 dL_law_1047 dL_law_1048 ?_
  refine law_arg 3 hx hb hX hbl hbs hS (lv_at hl 0 rfl) (lv_at hl 4 rfl) hi hL (by decide) ki_3 dL_law_1049 dL_law_1050 dL_law_1052 dL_law_1053 dL_law_1054 ?_
  refine law_arg 4 hx hb hX hbl hbs hS (lv_at hl 0 rfl) (lv_at hl 4 rfl) hi hL (by decide) ki_4 dL_law_1055 dL_law_1056 dL_law_1058 dL_law_1059 dL_law_1060 ?_
  refine m_ci0 (m_rV S hKX hW (m_szH hbs' hS) (c_X11_round l (P := fun r M' => r = (sp_round S9 (xs (6 * t + 1)) (xs (6 * t + 2)) (xs (6 * t + 3)) (xs (6 * t + 4))) ∧ RCX M' S9 ∧ RMX M' S9)) (tC_round hR hI.1 (fun M' hs h' => ⟨rfl, h', hM.sameM hs⟩)) lk_L_105 (m_recv hK hW (ci_0 (Nat.le_of_ble_eq_true rfl)) (rc_0 G) rfl) rfl hl.1 rfl ⟨Nat.le_of_ble_eq_true rfl, Nat.le_of_ble_eq_true rfl⟩ (Nat.le_of_ble_eq_true rfl) ⟨law_rc (by omega) (Nat.le_of_ble_eq_true rfl), law_rs (by omega) (Nat.le_of_ble_eq_true rfl)⟩ dL_law_1061) hS rfl rfl (fun r1 M1 H locs h1 hW hS => ?_)
  obtain ⟨e1, hR1, hM1⟩ := h1
  refine lv_aload_n hx hb dL_law_1064 rfl (lv_at hl 2 rfl) ?_
  refine law_arg 1 hx hb hX hbl hbs hS (lv_at hl 0 rfl) (lv_at hl 4 rfl) hi hL (by decide) ki_1 dL_law_1065 dL_law_1066 dL_law_1068 dL_law_1069 dL_law_1070 ?_
  refine law_arg 2 hx hb hX hbl hbs hS (lv_at hl 0 rfl) (lv_at hl 4 rfl) hi hL (by decide) ki_2 dL_law_1071 dL_law_1072 dL_law_1074 dL_law_1075 dL_law_1076 ?_
  refine law_arg 3 hx hb hX hbl hbs hS (lv_at hl 0 rfl) (lv_at hl 4 rfl) hi hL (by decide) ki_3 dL_law_1077 dL_law_1078 dL_law_1080 dL_law_1081 dL_law_1082 ?_
  refine law_arg 4 hx hb hX hbl hbs hS (lv_at hl 0 rfl) (lv_at hl 4 rfl) hi hL (by decide) ki_4 dL_law_1083 dL_law_1084 dL_law_1086 dL_law_1087 dL_law_1088 ?_
  refine m_ci0 (m_rV S hKX hW (m_szH hbs' hS) (c_X12_round l (P := fun r M' => r = (sp_round S9 (xs (6 * t + 1)) (xs (6 * t + 2)) (xs (6 * t + 3)) (xs (6 * t + 4))) ∧ RCX M' S9 ∧ RMX M' S9)) (tM_round hM1 hI.1 (fun M' hs h' => ⟨rfl, hR1.sameC hs, h'⟩)) lk_L_108 (m_recv hK hW (ci_10 (Nat.le_of_ble_eq_true rfl)) (rc_10 G) rfl) rfl hl.1 rfl ⟨Nat.le_of_ble_eq_true rfl, Nat.le_of_ble_eq_true rfl⟩ (Nat.le_of_ble_eq_true rfl) ⟨law_rc (by show 200 + 4 * t ≤ 1000; omega) (Nat.le_of_ble_eq_true rfl), law_rs (by show 8000 + 100 * t ≤ 20000; omega) (Nat.le_of_ble_eq_true rfl)⟩ dL_law_1089) hS rfl rfl (fun r2 M2 H locs h2 hW hS => ?_)
  obtain ⟨e2, hR2, hM2⟩ := h2
  refine lv_icmp_eq (tgt := 1778) hx hb dL_law_1092 (by decide) (fun cz => ?_) (fun cz => absurd (by rw [e1, e2]) cz)
  refine W.widen (k := 200 + 4 * (t + 1)) (n := 8000 + 100 * (t + 1)) (by show 200 + 4 * t ≤ _; omega) (by show 8000 + 100 * t ≤ _; omega) ?_
  exact tail S9 M2 H locs ls hI hR2 hM2 hW hS hl
set_option maxHeartbeats 4000000 in
set_option maxRecDepth 100000 in
theorem lc_21 {p : Program} {l : Launch} {e : Env} {s : State} {m : MethodId} {below : List Frame} {meth : Method} {c : Code} {b L t : Nat} {xs : Nat → Int32} {G : Gn} {M : Mem} {S9 : Sg} {H : Heap} {locs : List Loc} {ls : Array Slot} (hC : LC p s m c b L xs G) (hi : 6 * t + 6 ≤ L) (hW : WPm G M H) (hR : RCX M S9) (hM : RMX M S9) (hI : IV S9) (hS : va_S (fun q => bs G ≤ q) s.heap H locs) (hl : lv_has ls 8 (LV b G (6 * t))) (tail : TL p l e s m below meth c b G t) : W p l e room_1 s m #[Value.ref b] below meth c H locs (200 + 4 * t) (8000 + 100 * t) (lw_Z below #[Value.ref b] s) (F0 m 1097 ls []) := by
  obtain ⟨S, hX, hbl, hbs, hKX, hL⟩ := hC
  have hbs' : bs G ≤ s.heap.size := Nat.le_of_eq hbs
  have hK := hKX.1
  have hx := S.1
  have hb := S.2.1
  refine lv_aload_n hx hb dL_law_1097 rfl (lv_at hl 1 rfl) ?_
  refine law_arg 1 hx hb hX hbl hbs hS (lv_at hl 0 rfl) (lv_at hl 4 rfl) hi hL (by decide) ki_1 dL_law_1098 dL_law_1099 dL_law_1101 dL_law_1102 dL_law_1103 ?_
  refine law_arg 2 hx hb hX hbl hbs hS (lv_at hl 0 rfl) (lv_at hl 4 rfl) hi hL (by decide) ki_2 dL_law_1104 dL_law_1105 dL_law_1107 dL_law_1108 dL_law_1109 ?_
  refine law_arg 3 hx hb hX hbl hbs hS (lv_at hl 0 rfl) (lv_at hl 4 rfl) hi hL (by decide) ki_3 dL_law_1110 dL_law_1111 dL_law_1113 dL_law_1114 dL_law_1115 ?_
  refine m_ci0 (m_rV S hKX hW (m_szH hbs' hS) (c_X11_judge l (P := fun r M' => r = (sp_judge S9 (xs (6 * t + 1)) (xs (6 * t + 2)) (xs (6 * t + 3))) ∧ RCX M' S9 ∧ RMX M' S9)) (tC_judge hR hI.1 ⟨rfl, hR, hM⟩) lk_L_109 (m_recv hK hW (ci_0 (Nat.le_of_ble_eq_true rfl)) (rc_0 G) rfl) rfl hl.1 rfl ⟨Nat.le_of_ble_eq_true rfl, Nat.le_of_ble_eq_true rfl⟩ (Nat.le_of_ble_eq_true rfl) ⟨law_rc (by omega) (Nat.le_of_ble_eq_true rfl), law_rs (by omega) (Nat.le_of_ble_eq_true rfl)⟩ dL_law_1116) hS rfl rfl (fun r1 M1 H locs h1 hW hS => ?_)
  obtain ⟨e1, hR1, hM1⟩ := h1
  refine lv_aload_n hx hb dL_law_1119 rfl (lv_at hl 2 rfl) ?_
  refine law_arg 1 hx hb hX hbl hbs hS (lv_at hl 0 rfl) (lv_at hl 4 rfl) hi hL (by decide) ki_1 dL_law_1120 dL_law_1121 dL_law_1123 dL_law_1124 dL_law_1125 ?_
  refine law_arg 2 hx hb hX hbl hbs hS (lv_at hl 0 rfl) (lv_at hl 4 rfl) hi hL (by decide) ki_2 dL_law_1126 dL_law_1127 dL_law_1129 dL_law_1130 dL_law_1131 ?_
  refine law_arg 3 hx hb hX hbl hbs hS (lv_at hl 0 rfl) (lv_at hl 4 rfl) hi hL (by decide) ki_3 dL_law_1132 dL_law_1133 dL_law_1135 dL_law_1136 dL_law_1137 ?_
  refine m_ci0 (m_rV S hKX hW (m_szH hbs' hS) (c_X12_judge l (P := fun r M' => r = (sp_judge S9 (xs (6 * t + 1)) (xs (6 * t + 2)) (xs (6 * t + 3))) ∧ RCX M' S9 ∧ RMX M' S9)) (tM_judge hM1 hI.1 (fun M' hs h' => ⟨rfl, hR1.sameC hs, h'⟩)) lk_L_112 (m_recv hK hW (ci_10 (Nat.le_of_ble_eq_true rfl)) (rc_10 G) rfl) rfl hl.1 rfl ⟨Nat.le_of_ble_eq_true rfl, Nat.le_of_ble_eq_true rfl⟩ (Nat.le_of_ble_eq_true rfl) ⟨law_rc (by show 200 + 4 * t ≤ 1000; omega) (Nat.le_of_ble_eq_true rfl), law_rs (by show 8000 + 100 * t ≤ 20000; omega) (Nat.le_of_ble_eq_true rfl)⟩ dL_law_1138) hS rfl rfl (fun r2 M2 H locs h2 hW hS => ?_)
  obtain ⟨e2, hR2, hM2⟩ := h2
  refine lv_icmp_eq (tgt := 1778) hx hb dL_law_1141 (by decide) (fun cz => ?_) (fun cz => absurd (by rw [e1, e2]) cz)
  refine W.widen (k := 200 + 4 * (t + 1)) (n := 8000 + 100 * (t + 1)) (by show 200 + 4 * t ≤ _; omega) (by show 8000 + 100 * t ≤ _; omega) ?_
  exact tail S9 M2 H locs ls hI hR2 hM2 hW hS hl
set_option maxHeartbeats 4000000 in
set_option maxRecDepth 100000 in
theorem lc_22 {p : Program} {l : Launch} {e : Env} {s : State} {m : MethodId} {below : List Frame} {meth : Method} {c : Code} {b L t : Nat} {xs : Nat → Int32} {G : Gn} {M : Mem} {S9 : Sg} {H : Heap} {locs : List Loc} {ls : Array Slot} (hC : LC p s m c b L xs G) (hi : 6 * t + 6 ≤ L) (hW : WPm G M H) (hR : RCX M S9) (hM : RMX M S9) (hI : IV S9) (hS : va_S (fun q => bs G ≤ q) s.heap H locs) (hl : lv_has ls 8 (LV b G (6 * t))) (tail : TL p l e s m below meth c b G t) : W p l e room_1 s m #[Value.ref b] below meth c H locs (200 + 4 * t) (8000 + 100 * t) (lw_Z below #[Value.ref b] s) (F0 m 1146 ls []) := by
  obtain ⟨S, hX, hbl, hbs, hKX, hL⟩ := hC
  have hbs' : bs G ≤ s.heap.size := Nat.le_of_eq hbs
  have hK := hKX.1
  have hx := S.1
  have hb := S.2.1
  refine lv_aload_n hx hb dL_law_1146 rfl (lv_at hl 1 rfl) ?_
  refine law_arg 1 hx hb hX hbl hbs hS (lv_at hl 0 rfl) (lv_at hl 4 rfl) hi hL (by decide) ki_1 dL_law_1147 dL_law_1148 dL_law_1150 dL_law_1151 dL_law_1152 ?_
  refine law_arg 2 hx hb hX hbl hbs hS (lv_at hl 0 rfl) (lv_at hl 4 rfl) hi hL (by decide) ki_2 dL_law_1153 dL_law_1154 dL_law_1156 dL_law_1157 dL_law_1158 ?_
  refine m_ci0 (m_rV S hKX hW (m_szH hbs' hS) (c_X11_bought l (P := fun r M' => r = (sp_bought S9 (xs (6 * t + 1)) (xs (6 * t + 2))) ∧ RCX M' S9 ∧ RMX M' S9)) (tC_bought hR hI.1 (fun M' hs h' => ⟨rfl, h', hM.sameM hs⟩)) lk_L_113 (m_recv hK hW (ci_0 (Nat.le_of_ble_eq_true rfl)) (rc_0 G) rfl) rfl hl.1 rfl ⟨Nat.le_of_ble_eq_true rfl, Nat.le_of_ble_eq_true rfl⟩ (Nat.le_of_ble_eq_true rfl) ⟨law_rc (by omega) (Nat.le_of_ble_eq_true rfl), law_rs (by omega) (Nat.le_of_ble_eq_true rfl)⟩ dL_law_1159) hS rfl rfl (fun r1 M1 H locs h1 hW hS => ?_)
  obtain ⟨e1, hR1, hM1⟩ := h1
  refine lv_aload_n hx hb dL_law_1162 rfl (lv_at hl 2 rfl) ?_
  refine law_arg 1 hx hb hX hbl hbs hS (lv_at hl 0 rfl) (lv_at hl 4 rfl) hi hL (by decide) ki_1 dL_law_1163 dL_law_1164 dL_law_1166 dL_law_1167 dL_law_1168 ?_
  refine law_arg 2 hx hb hX hbl hbs hS (lv_at hl 0 rfl) (lv_at hl 4 rfl) hi hL (by decide) ki_2 dL_law_1169 dL_law_1170 dL_law_1172 dL_law_1173 dL_law_1174 ?_
  refine m_ci0 (m_rV S hKX hW (m_szH hbs' hS) (c_X12_bought l (P := fun r M' => r = (sp_bought S9 (xs (6 * t + 1)) (xs (6 * t + 2))) ∧ RCX M' S9 ∧ RMX M' S9)) (tM_bought hM1 hI.1 hI.2.1 (fun M' hs h' => ⟨rfl, hR1.sameC hs, h'⟩)) lk_L_116 (m_recv hK hW (ci_10 (Nat.le_of_ble_eq_true rfl)) (rc_10 G) rfl) rfl hl.1 rfl ⟨Nat.le_of_ble_eq_true rfl, Nat.le_of_ble_eq_true rfl⟩ (Nat.le_of_ble_eq_true rfl) ⟨law_rc (by show 200 + 4 * t ≤ 1000; omega) (Nat.le_of_ble_eq_true rfl), law_rs (by show 8000 + 100 * t ≤ 20000; omega) (Nat.le_of_ble_eq_true rfl)⟩ dL_law_1175) hS rfl rfl (fun r2 M2 H locs h2 hW hS => ?_)
  obtain ⟨e2, hR2, hM2⟩ := h2
  refine lv_icmp_eq (tgt := 1778) hx hb dL_law_1178 (by decide) (fun cz => ?_) (fun cz => absurd (by rw [e1, e2]) cz)
  refine W.widen (k := 200 + 4 * (t + 1)) (n := 8000 + 100 * (t + 1)) (by show 200 + 4 * t ≤ _; omega) (by show 8000 + 100 * t ≤ _; omega) ?_
  exact tail S9 M2 H locs ls hI hR2 hM2 hW hS hl
set_option maxHeartbeats 4000000 in
set_option maxRecDepth 100000 in
theorem lc_23 {p : Program} {l : Launch} {e : Env} {s : State} {m : MethodId} {below : List Frame} {meth : Method} {c : Code} {b L t : Nat} {xs : Nat → Int32} {G : Gn} {M : Mem} {S9 : Sg} {H : Heap} {locs : List Loc} {ls : Array Slot} (hC : LC p s m c b L xs G) (hi : 6 * t + 6 ≤ L) (hW : WPm G M H) (hR : RCX M S9) (hM : RMX M S9) (hI : IV S9) (hS : va_S (fun q => bs G ≤ q) s.heap H locs) (hl : lv_has ls 8 (LV b G (6 * t))) (tail : TL p l e s m below meth c b G t) : W p l e room_1 s m #[Value.ref b] below meth c H locs (200 + 4 * t) (8000 + 100 * t) (lw_Z below #[Value.ref b] s) (F0 m 1183 ls []) := by
  obtain ⟨S, hX, hbl, hbs, hKX, hL⟩ := hC
  have hbs' : bs G ≤ s.heap.size := Nat.le_of_eq hbs
  have hK := hKX.1
  have hx := S.1
  have hb := S.2.1
  refine lv_aload_n hx hb dL_law_1183 rfl (lv_at hl 1 rfl) ?_
  refine law_arg 1 hx hb hX hbl hbs hS (lv_at hl 0 rfl) (lv_at hl 4 rfl) hi hL (by decide) ki_1 dL_law_1184 dL_law_1185 dL_law_1187 dL_law_1188 dL_law_1189 ?_
  refine law_arg 2 hx hb hX hbl hbs hS (lv_at hl 0 rfl) (lv_at hl 4 rfl) hi hL (by decide) ki_2 dL_law_1190 dL_law_1191 dL_law_1193 dL_law_1194 dL_law_1195 ?_
  refine law_arg 3 hx hb hX hbl hbs hS (lv_at hl 0 rfl) (lv_at hl 4 rfl) hi hL (by decide) ki_3 dL_law_1196 dL_law_1197 dL_law_1199 dL_law_1200 dL_law_1201 ?_
  refine law_arg 4 hx hb hX hbl hbs hS (lv_at hl 0 rfl) (lv_at hl 4 rfl) hi hL (by decide) ki_4 dL_law_1202 dL_law_1203 dL_law_1205 dL_law_1206 dL_law_1207 ?_
  refine m_ci0 (m_rV S hKX hW (m_szH hbs' hS) (c_X11_parted l (P := fun r M' => r = (sp_parted S9 (xs (6 * t + 1)) (xs (6 * t + 2)) (xs (6 * t + 3)) (xs (6 * t + 4))) ∧ RCX M' S9 ∧ RMX M' S9)) (tC_parted hR hI.1 (fun M' hs h' => ⟨rfl, h', hM.sameM hs⟩)) lk_L_117 (m_recv hK hW (ci_0 (Nat.le_of_ble_eq_true rfl)) (rc_0 G) rfl) rfl hl.1 rfl ⟨Nat.le_of_ble_eq_true rfl, Nat.le_of_ble_eq_true rfl⟩ (Nat.le_of_ble_eq_true rfl) ⟨law_rc (by omega) (Nat.le_of_ble_eq_true rfl), law_rs (by omega) (Nat.le_of_ble_eq_true rfl)⟩ dL_law_1208) hS rfl rfl (fun r1 M1 H locs h1 hW hS => ?_)
  obtain ⟨e1, hR1, hM1⟩ := h1
  refine lv_aload_n hx hb dL_law_1211 rfl (lv_at hl 2 rfl) ?_
  refine law_arg 1 hx hb hX hbl hbs hS (lv_at hl 0 rfl) (lv_at hl 4 rfl) hi hL (by decide) ki_1 dL_law_1212 dL_law_1213 dL_law_1215 dL_law_1216 dL_law_1217 ?_
  refine law_arg 2 hx hb hX hbl hbs hS (lv_at hl 0 rfl) (lv_at hl 4 rfl) hi hL (by decide) ki_2 dL_law_1218 dL_law_1219 dL_law_1221 dL_law_1222 dL_law_1223 ?_
  refine law_arg 3 hx hb hX hbl hbs hS (lv_at hl 0 rfl) (lv_at hl 4 rfl) hi hL (by decide) ki_3 dL_law_1224 dL_law_1225 dL_law_1227 dL_law_1228 dL_law_1229 ?_
  refine law_arg 4 hx hb hX hbl hbs hS (lv_at hl 0 rfl) (lv_at hl 4 rfl) hi hL (by decide) ki_4 dL_law_1230 dL_law_1231 dL_law_1233 dL_law_1234 dL_law_1235 ?_
  refine m_ci0 (m_rV S hKX hW (m_szH hbs' hS) (c_X12_parted l (P := fun r M' => r = (sp_parted S9 (xs (6 * t + 1)) (xs (6 * t + 2)) (xs (6 * t + 3)) (xs (6 * t + 4))) ∧ RCX M' S9 ∧ RMX M' S9)) (tM_parted hM1 hI.1 hI.2.1 (fun M' hs h' => ⟨rfl, hR1.sameC hs, h'⟩)) lk_L_120 (m_recv hK hW (ci_10 (Nat.le_of_ble_eq_true rfl)) (rc_10 G) rfl) rfl hl.1 rfl ⟨Nat.le_of_ble_eq_true rfl, Nat.le_of_ble_eq_true rfl⟩ (Nat.le_of_ble_eq_true rfl) ⟨law_rc (by show 200 + 4 * t ≤ 1000; omega) (Nat.le_of_ble_eq_true rfl), law_rs (by show 8000 + 100 * t ≤ 20000; omega) (Nat.le_of_ble_eq_true rfl)⟩ dL_law_1236) hS rfl rfl (fun r2 M2 H locs h2 hW hS => ?_)
  obtain ⟨e2, hR2, hM2⟩ := h2
  refine lv_icmp_eq (tgt := 1778) hx hb dL_law_1239 (by decide) (fun cz => ?_) (fun cz => absurd (by rw [e1, e2]) cz)
  refine W.widen (k := 200 + 4 * (t + 1)) (n := 8000 + 100 * (t + 1)) (by show 200 + 4 * t ≤ _; omega) (by show 8000 + 100 * t ≤ _; omega) ?_
  exact tail S9 M2 H locs ls hI hR2 hM2 hW hS hl
set_option maxHeartbeats 4000000 in
set_option maxRecDepth 100000 in
theorem lc_24 {p : Program} {l : Launch} {e : Env} {s : State} {m : MethodId} {below : List Frame} {meth : Method} {c : Code} {b L t : Nat} {xs : Nat → Int32} {G : Gn} {M : Mem} {S9 : Sg} {H : Heap} {locs : List Loc} {ls : Array Slot} (hC : LC p s m c b L xs G) (hi : 6 * t + 6 ≤ L) (hW : WPm G M H) (hR : RCX M S9) (hM : RMX M S9) (hI : IV S9) (hS : va_S (fun q => bs G ≤ q) s.heap H locs) (hl : lv_has ls 8 (LV b G (6 * t))) (tail : TL p l e s m below meth c b G t) : W p l e room_1 s m #[Value.ref b] below meth c H locs (200 + 4 * t) (8000 + 100 * t) (lw_Z below #[Value.ref b] s) (F0 m 1244 ls []) := by
  obtain ⟨S, hX, hbl, hbs, hKX, hL⟩ := hC
  have hbs' : bs G ≤ s.heap.size := Nat.le_of_eq hbs
  have hK := hKX.1
  have hx := S.1
  have hb := S.2.1
  refine lv_aload_n hx hb dL_law_1244 rfl (lv_at hl 1 rfl) ?_
  refine law_arg 1 hx hb hX hbl hbs hS (lv_at hl 0 rfl) (lv_at hl 4 rfl) hi hL (by decide) ki_1 dL_law_1245 dL_law_1246 dL_law_1248 dL_law_1249 dL_law_1250 ?_
  refine law_arg 2 hx hb hX hbl hbs hS (lv_at hl 0 rfl) (lv_at hl 4 rfl) hi hL (by decide) ki_2 dL_law_1251 dL_law_1252 dL_law_1254 dL_law_1255 dL_law_1256 ?_
  refine law_arg 3 hx hb hX hbl hbs hS (lv_at hl 0 rfl) (lv_at hl 4 rfl) hi hL (by decide) ki_3 dL_law_1257 dL_law_1258 dL_law_1260 dL_law_1261 dL_law_1262 ?_
  refine m_ci0 (m_rV S hKX hW (m_szH hbs' hS) (c_X11_away l (P := fun r M' => r = (sp_away S9 (xs (6 * t + 1)) (xs (6 * t + 2)) (xs (6 * t + 3))) ∧ RCX M' S9 ∧ RMX M' S9)) (tC_away hR hI.1 (fun M' hs h' => ⟨rfl, h', hM.sameM hs⟩)) lk_L_121 (m_recv hK hW (ci_0 (Nat.le_of_ble_eq_true rfl)) (rc_0 G) rfl) rfl hl.1 rfl ⟨Nat.le_of_ble_eq_true rfl, Nat.le_of_ble_eq_true rfl⟩ (Nat.le_of_ble_eq_true rfl) ⟨law_rc (by omega) (Nat.le_of_ble_eq_true rfl), law_rs (by omega) (Nat.le_of_ble_eq_true rfl)⟩ dL_law_1263) hS rfl rfl (fun r1 M1 H locs h1 hW hS => ?_)
  obtain ⟨e1, hR1, hM1⟩ := h1
  refine lv_aload_n hx hb dL_law_1266 rfl (lv_at hl 2 rfl) ?_
  refine law_arg 1 hx hb hX hbl hbs hS (lv_at hl 0 rfl) (lv_at hl 4 rfl) hi hL (by decide) ki_1 dL_law_1267 dL_law_1268 dL_law_1270 dL_law_1271 dL_law_1272 ?_
  refine law_arg 2 hx hb hX hbl hbs hS (lv_at hl 0 rfl) (lv_at hl 4 rfl) hi hL (by decide) ki_2 dL_law_1273 dL_law_1274 dL_law_1276 dL_law_1277 dL_law_1278 ?_
  refine law_arg 3 hx hb hX hbl hbs hS (lv_at hl 0 rfl) (lv_at hl 4 rfl) hi hL (by decide) ki_3 dL_law_1279 dL_law_1280 dL_law_1282 dL_law_1283 dL_law_1284 ?_
  refine m_ci0 (m_rV S hKX hW (m_szH hbs' hS) (c_X12_away l (P := fun r M' => r = (sp_away S9 (xs (6 * t + 1)) (xs (6 * t + 2)) (xs (6 * t + 3))) ∧ RCX M' S9 ∧ RMX M' S9)) (tM_away hM1 hI.1 hI.2.1 (fun M' hs h' => ⟨rfl, hR1.sameC hs, h'⟩)) lk_L_124 (m_recv hK hW (ci_10 (Nat.le_of_ble_eq_true rfl)) (rc_10 G) rfl) rfl hl.1 rfl ⟨Nat.le_of_ble_eq_true rfl, Nat.le_of_ble_eq_true rfl⟩ (Nat.le_of_ble_eq_true rfl) ⟨law_rc (by show 200 + 4 * t ≤ 1000; omega) (Nat.le_of_ble_eq_true rfl), law_rs (by show 8000 + 100 * t ≤ 20000; omega) (Nat.le_of_ble_eq_true rfl)⟩ dL_law_1285) hS rfl rfl (fun r2 M2 H locs h2 hW hS => ?_)
  obtain ⟨e2, hR2, hM2⟩ := h2
  refine lv_icmp_eq (tgt := 1778) hx hb dL_law_1288 (by decide) (fun cz => ?_) (fun cz => absurd (by rw [e1, e2]) cz)
  refine W.widen (k := 200 + 4 * (t + 1)) (n := 8000 + 100 * (t + 1)) (by show 200 + 4 * t ≤ _; omega) (by show 8000 + 100 * t ≤ _; omega) ?_
  exact tail S9 M2 H locs ls hI hR2 hM2 hW hS hl
set_option maxHeartbeats 4000000 in
set_option maxRecDepth 100000 in
theorem lc_25 {p : Program} {l : Launch} {e : Env} {s : State} {m : MethodId} {below : List Frame} {meth : Method} {c : Code} {b L t : Nat} {xs : Nat → Int32} {G : Gn} {M : Mem} {S9 : Sg} {H : Heap} {locs : List Loc} {ls : Array Slot} (hC : LC p s m c b L xs G) (hi : 6 * t + 6 ≤ L) (hW : WPm G M H) (hR : RCX M S9) (hM : RMX M S9) (hI : IV S9) (hS : va_S (fun q => bs G ≤ q) s.heap H locs) (hl : lv_has ls 8 (LV b G (6 * t))) (tail : TL p l e s m below meth c b G t) : W p l e room_1 s m #[Value.ref b] below meth c H locs (200 + 4 * t) (8000 + 100 * t) (lw_Z below #[Value.ref b] s) (F0 m 1293 ls []) := by
  obtain ⟨S, hX, hbl, hbs, hKX, hL⟩ := hC
  have hbs' : bs G ≤ s.heap.size := Nat.le_of_eq hbs
  have hK := hKX.1
  have hx := S.1
  have hb := S.2.1
  refine lv_aload_n hx hb dL_law_1293 rfl (lv_at hl 1 rfl) ?_
  refine law_arg 1 hx hb hX hbl hbs hS (lv_at hl 0 rfl) (lv_at hl 4 rfl) hi hL (by decide) ki_1 dL_law_1294 dL_law_1295 dL_law_1297 dL_law_1298 dL_law_1299 ?_
  refine law_arg 2 hx hb hX hbl hbs hS (lv_at hl 0 rfl) (lv_at hl 4 rfl) hi hL (by decide) ki_2 dL_law_1300 dL_law_1301 dL_law_1303 dL_law_1304 dL_law_1305 ?_
  refine law_arg 3 hx hb hX hbl hbs hS (lv_at hl 0 rfl) (lv_at hl 4 rfl) hi hL (by decide) ki_3 dL_law_1306 dL_law_1307 dL_law_1309 dL_law_1310 dL_law_1311 ?_
  refine m_ci0 (m_rV S hKX hW (m_szH hbs' hS) (c_X11_beside l (P := fun r M' => r = (sp_beside S9 (xs (6 * t + 1)) (xs (6 * t + 2)) (xs (6 * t + 3))) ∧ RCX M' S9 ∧ RMX M' S9)) (tC_beside hR hI.1 ⟨rfl, hR, hM⟩) lk_L_125 (m_recv hK hW (ci_0 (Nat.le_of_ble_eq_true rfl)) (rc_0 G) rfl) rfl hl.1 rfl ⟨Nat.le_of_ble_eq_true rfl, Nat.le_of_ble_eq_true rfl⟩ (Nat.le_of_ble_eq_true rfl) ⟨law_rc (by omega) (Nat.le_of_ble_eq_true rfl), law_rs (by omega) (Nat.le_of_ble_eq_true rfl)⟩ dL_law_1312) hS rfl rfl (fun r1 M1 H locs h1 hW hS => ?_)
  obtain ⟨e1, hR1, hM1⟩ := h1
  refine lv_aload_n hx hb dL_law_1315 rfl (lv_at hl 2 rfl) ?_
  refine law_arg 1 hx hb hX hbl hbs hS (lv_at hl 0 rfl) (lv_at hl 4 rfl) hi hL (by decide) ki_1 dL_law_1316 dL_law_1317 dL_law_1319 dL_law_1320 dL_law_1321 ?_
  refine law_arg 2 hx hb hX hbl hbs hS (lv_at hl 0 rfl) (lv_at hl 4 rfl) hi hL (by decide) ki_2 dL_law_1322 dL_law_1323 dL_law_1325 dL_law_1326 dL_law_1327 ?_
  refine law_arg 3 hx hb hX hbl hbs hS (lv_at hl 0 rfl) (lv_at hl 4 rfl) hi hL (by decide) ki_3 dL_law_1328 dL_law_1329 dL_law_1331 dL_law_1332 dL_law_1333 ?_
  refine m_ci0 (m_rV S hKX hW (m_szH hbs' hS) (c_X12_beside l (P := fun r M' => r = (sp_beside S9 (xs (6 * t + 1)) (xs (6 * t + 2)) (xs (6 * t + 3))) ∧ RCX M' S9 ∧ RMX M' S9)) (tM_beside hM1 hI.1 (fun M' hs h' => ⟨rfl, hR1.sameC hs, h'⟩)) lk_L_128 (m_recv hK hW (ci_10 (Nat.le_of_ble_eq_true rfl)) (rc_10 G) rfl) rfl hl.1 rfl ⟨Nat.le_of_ble_eq_true rfl, Nat.le_of_ble_eq_true rfl⟩ (Nat.le_of_ble_eq_true rfl) ⟨law_rc (by show 200 + 4 * t ≤ 1000; omega) (Nat.le_of_ble_eq_true rfl), law_rs (by show 8000 + 100 * t ≤ 20000; omega) (Nat.le_of_ble_eq_true rfl)⟩ dL_law_1334) hS rfl rfl (fun r2 M2 H locs h2 hW hS => ?_)
  obtain ⟨e2, hR2, hM2⟩ := h2
  refine lv_icmp_eq (tgt := 1778) hx hb dL_law_1337 (by decide) (fun cz => ?_) (fun cz => absurd (by rw [e1, e2]) cz)
  refine W.widen (k := 200 + 4 * (t + 1)) (n := 8000 + 100 * (t + 1)) (by show 200 + 4 * t ≤ _; omega) (by show 8000 + 100 * t ≤ _; omega) ?_
  exact tail S9 M2 H locs ls hI hR2 hM2 hW hS hl
set_option maxHeartbeats 4000000 in
set_option maxRecDepth 100000 in
theorem lc_26 {p : Program} {l : Launch} {e : Env} {s : State} {m : MethodId} {below : List Frame} {meth : Method} {c : Code} {b L t : Nat} {xs : Nat → Int32} {G : Gn} {M : Mem} {S9 : Sg} {H : Heap} {locs : List Loc} {ls : Array Slot} (hC : LC p s m c b L xs G) (hi : 6 * t + 6 ≤ L) (hW : WPm G M H) (hR : RCX M S9) (hM : RMX M S9) (hI : IV S9) (hS : va_S (fun q => bs G ≤ q) s.heap H locs) (hl : lv_has ls 8 (LV b G (6 * t))) (tail : TL p l e s m below meth c b G t) : W p l e room_1 s m #[Value.ref b] below meth c H locs (200 + 4 * t) (8000 + 100 * t) (lw_Z below #[Value.ref b] s) (F0 m 1342 ls []) := by
  obtain ⟨S, hX, hbl, hbs, hKX, hL⟩ := hC
  have hbs' : bs G ≤ s.heap.size := Nat.le_of_eq hbs
  have hK := hKX.1
  have hx := S.1
  have hb := S.2.1
  refine lv_aload_n hx hb dL_law_1342 rfl (lv_at hl 1 rfl) ?_
  refine m_ci0 (m_rV S hKX hW (m_szH hbs' hS) (c_X11_image l (P := fun r M' => r = (sp_image S9).1 ∧ RCX M' (sp_image S9).2 ∧ RMX M' S9)) (tC_image hR hI.1 (fun M' hs h' => ⟨rfl, h', hM.sameM hs⟩)) lk_L_129 (m_recv hK hW (ci_0 (Nat.le_of_ble_eq_true rfl)) (rc_0 G) rfl) rfl hl.1 rfl ⟨Nat.le_of_ble_eq_true rfl, Nat.le_of_ble_eq_true rfl⟩ (Nat.le_of_ble_eq_true rfl) ⟨law_rc (by omega) (Nat.le_of_ble_eq_true rfl), law_rs (by omega) (Nat.le_of_ble_eq_true rfl)⟩ dL_law_1343) hS rfl rfl (fun r1 M1 H locs h1 hW hS => ?_)
  obtain ⟨e1, hR1, hM1⟩ := h1
  refine lv_aload_n hx hb dL_law_1346 rfl (lv_at hl 2 rfl) ?_
  refine m_ci0 (m_rV S hKX hW (m_szH hbs' hS) (c_X12_image l (P := fun r M' => r = (sp_image S9).1 ∧ RCX M' (sp_image S9).2 ∧ RMX M' (sp_image S9).2)) (tM_image hM1 hI.1 (fun M' hs h' => ⟨rfl, hR1.sameC hs, h'⟩)) lk_L_133 (m_recv hK hW (ci_10 (Nat.le_of_ble_eq_true rfl)) (rc_10 G) rfl) rfl hl.1 rfl ⟨Nat.le_of_ble_eq_true rfl, Nat.le_of_ble_eq_true rfl⟩ (Nat.le_of_ble_eq_true rfl) ⟨law_rc (by show 200 + 4 * t ≤ 1000; omega) (Nat.le_of_ble_eq_true rfl), law_rs (by show 8000 + 100 * t ≤ 20000; omega) (Nat.le_of_ble_eq_true rfl)⟩ dL_law_1347) hS rfl rfl (fun r2 M2 H locs h2 hW hS => ?_)
  obtain ⟨e2, hR2, hM2⟩ := h2
  refine lv_icmp_eq (tgt := 1778) hx hb dL_law_1350 (by decide) (fun cz => ?_) (fun cz => absurd (by rw [e1, e2]) cz)
  refine W.widen (k := 200 + 4 * (t + 1)) (n := 8000 + 100 * (t + 1)) (by show 200 + 4 * t ≤ _; omega) (by show 8000 + 100 * t ≤ _; omega) ?_
  exact tail (sp_image S9).2 M2 H locs ls (iv_image hI) hR2 hM2 hW hS hl
set_option maxHeartbeats 4000000 in
set_option maxRecDepth 100000 in
theorem lc_27 {p : Program} {l : Launch} {e : Env} {s : State} {m : MethodId} {below : List Frame} {meth : Method} {c : Code} {b L t : Nat} {xs : Nat → Int32} {G : Gn} {M : Mem} {S9 : Sg} {H : Heap} {locs : List Loc} {ls : Array Slot} (hC : LC p s m c b L xs G) (hi : 6 * t + 6 ≤ L) (hW : WPm G M H) (hR : RCX M S9) (hM : RMX M S9) (hI : IV S9) (hS : va_S (fun q => bs G ≤ q) s.heap H locs) (hl : lv_has ls 8 (LV b G (6 * t))) (tail : TL p l e s m below meth c b G t) : W p l e room_1 s m #[Value.ref b] below meth c H locs (200 + 4 * t) (8000 + 100 * t) (lw_Z below #[Value.ref b] s) (F0 m 1355 ls []) := by
  obtain ⟨S, hX, hbl, hbs, hKX, hL⟩ := hC
  have hbs' : bs G ≤ s.heap.size := Nat.le_of_eq hbs
  have hK := hKX.1
  have hx := S.1
  have hb := S.2.1
  refine lv_aload_n hx hb dL_law_1355 rfl (lv_at hl 1 rfl) ?_
  refine m_ci0 (m_rV S hKX hW (m_szH hbs' hS) (c_X11_restore l (P := fun r M' => r = (sp_restore S9).1 ∧ RCX M' (sp_restore S9).2 ∧ RMX M' S9)) (tC_restore hR hI.1 (fun M' hs h' => ⟨rfl, h', hM.sameM hs⟩)) lk_L_134 (m_recv hK hW (ci_0 (Nat.le_of_ble_eq_true rfl)) (rc_0 G) rfl) rfl hl.1 rfl ⟨Nat.le_of_ble_eq_true rfl, Nat.le_of_ble_eq_true rfl⟩ (Nat.le_of_ble_eq_true rfl) ⟨law_rc (by omega) (Nat.le_of_ble_eq_true rfl), law_rs (by omega) (Nat.le_of_ble_eq_true rfl)⟩ dL_law_1356) hS rfl rfl (fun r1 M1 H locs h1 hW hS => ?_)
  obtain ⟨e1, hR1, hM1⟩ := h1
  refine lv_aload_n hx hb dL_law_1359 rfl (lv_at hl 2 rfl) ?_
  refine m_ci0 (m_rV S hKX hW (m_szH hbs' hS) (c_X12_restore l (P := fun r M' => r = (sp_restore S9).1 ∧ RCX M' (sp_restore S9).2 ∧ RMX M' (sp_restore S9).2)) (tM_restore hM1 hI.1 (fun M' hs h' => ⟨rfl, hR1.sameC hs, h'⟩)) lk_L_137 (m_recv hK hW (ci_10 (Nat.le_of_ble_eq_true rfl)) (rc_10 G) rfl) rfl hl.1 rfl ⟨Nat.le_of_ble_eq_true rfl, Nat.le_of_ble_eq_true rfl⟩ (Nat.le_of_ble_eq_true rfl) ⟨law_rc (by show 200 + 4 * t ≤ 1000; omega) (Nat.le_of_ble_eq_true rfl), law_rs (by show 8000 + 100 * t ≤ 20000; omega) (Nat.le_of_ble_eq_true rfl)⟩ dL_law_1360) hS rfl rfl (fun r2 M2 H locs h2 hW hS => ?_)
  obtain ⟨e2, hR2, hM2⟩ := h2
  refine lv_icmp_eq (tgt := 1778) hx hb dL_law_1363 (by decide) (fun cz => ?_) (fun cz => absurd (by rw [e1, e2]) cz)
  refine W.widen (k := 200 + 4 * (t + 1)) (n := 8000 + 100 * (t + 1)) (by show 200 + 4 * t ≤ _; omega) (by show 8000 + 100 * t ≤ _; omega) ?_
  exact tail (sp_restore S9).2 M2 H locs ls (iv_restore hI) hR2 hM2 hW hS hl
set_option maxHeartbeats 4000000 in
set_option maxRecDepth 100000 in
theorem lc_28 {p : Program} {l : Launch} {e : Env} {s : State} {m : MethodId} {below : List Frame} {meth : Method} {c : Code} {b L t : Nat} {xs : Nat → Int32} {G : Gn} {M : Mem} {S9 : Sg} {H : Heap} {locs : List Loc} {ls : Array Slot} (hC : LC p s m c b L xs G) (hi : 6 * t + 6 ≤ L) (hW : WPm G M H) (hR : RCX M S9) (hM : RMX M S9) (hI : IV S9) (hS : va_S (fun q => bs G ≤ q) s.heap H locs) (hl : lv_has ls 8 (LV b G (6 * t))) (tail : TL p l e s m below meth c b G t) : W p l e room_1 s m #[Value.ref b] below meth c H locs (200 + 4 * t) (8000 + 100 * t) (lw_Z below #[Value.ref b] s) (F0 m 1368 ls []) := by
  obtain ⟨S, hX, hbl, hbs, hKX, hL⟩ := hC
  have hbs' : bs G ≤ s.heap.size := Nat.le_of_eq hbs
  have hK := hKX.1
  have hx := S.1
  have hb := S.2.1
  refine lv_aload_n hx hb dL_law_1368 rfl (lv_at hl 1 rfl) ?_
  refine law_arg 1 hx hb hX hbl hbs hS (lv_at hl 0 rfl) (lv_at hl 4 rfl) hi hL (by decide) ki_1 dL_law_1369 dL_law_1370 dL_law_1372 dL_law_1373 dL_law_1374 ?_
  refine m_ci0 (m_rV S hKX hW (m_szH hbs' hS) (c_X11_count l (P := fun r M' => r = (sp_count S9 (xs (6 * t + 1))) ∧ RCX M' S9 ∧ RMX M' S9)) (tC_count hR hI.1 ⟨rfl, hR, hM⟩) lk_L_138 (m_recv hK hW (ci_0 (Nat.le_of_ble_eq_true rfl)) (rc_0 G) rfl) rfl hl.1 rfl ⟨Nat.le_of_ble_eq_true rfl, Nat.le_of_ble_eq_true rfl⟩ (Nat.le_of_ble_eq_true rfl) ⟨law_rc (by omega) (Nat.le_of_ble_eq_true rfl), law_rs (by omega) (Nat.le_of_ble_eq_true rfl)⟩ dL_law_1375) hS rfl rfl (fun r1 M1 H locs h1 hW hS => ?_)
  obtain ⟨e1, hR1, hM1⟩ := h1
  refine lv_aload_n hx hb dL_law_1378 rfl (lv_at hl 2 rfl) ?_
  refine law_arg 1 hx hb hX hbl hbs hS (lv_at hl 0 rfl) (lv_at hl 4 rfl) hi hL (by decide) ki_1 dL_law_1379 dL_law_1380 dL_law_1382 dL_law_1383 dL_law_1384 ?_
  refine m_ci0 (m_rV S hKX hW (m_szH hbs' hS) (c_X12_count l (P := fun r M' => r = (sp_count S9 (xs (6 * t + 1))) ∧ RCX M' S9 ∧ RMX M' S9)) (tM_count hM1 hI.1 (fun M' hs h' => ⟨rfl, hR1.sameC hs, h'⟩)) lk_L_141 (m_recv hK hW (ci_10 (Nat.le_of_ble_eq_true rfl)) (rc_10 G) rfl) rfl hl.1 rfl ⟨Nat.le_of_ble_eq_true rfl, Nat.le_of_ble_eq_true rfl⟩ (Nat.le_of_ble_eq_true rfl) ⟨law_rc (by show 200 + 4 * t ≤ 1000; omega) (Nat.le_of_ble_eq_true rfl), law_rs (by show 8000 + 100 * t ≤ 20000; omega) (Nat.le_of_ble_eq_true rfl)⟩ dL_law_1385) hS rfl rfl (fun r2 M2 H locs h2 hW hS => ?_)
  obtain ⟨e2, hR2, hM2⟩ := h2
  refine lv_icmp_eq (tgt := 1778) hx hb dL_law_1388 (by decide) (fun cz => ?_) (fun cz => absurd (by rw [e1, e2]) cz)
  refine W.widen (k := 200 + 4 * (t + 1)) (n := 8000 + 100 * (t + 1)) (by show 200 + 4 * t ≤ _; omega) (by show 8000 + 100 * t ≤ _; omega) ?_
  exact tail S9 M2 H locs ls hI hR2 hM2 hW hS hl
set_option maxHeartbeats 4000000 in
set_option maxRecDepth 100000 in
theorem lc_29 {p : Program} {l : Launch} {e : Env} {s : State} {m : MethodId} {below : List Frame} {meth : Method} {c : Code} {b L t : Nat} {xs : Nat → Int32} {G : Gn} {M : Mem} {S9 : Sg} {H : Heap} {locs : List Loc} {ls : Array Slot} (hC : LC p s m c b L xs G) (hi : 6 * t + 6 ≤ L) (hW : WPm G M H) (hR : RCX M S9) (hM : RMX M S9) (hI : IV S9) (hS : va_S (fun q => bs G ≤ q) s.heap H locs) (hl : lv_has ls 8 (LV b G (6 * t))) (tail : TL p l e s m below meth c b G t) : W p l e room_1 s m #[Value.ref b] below meth c H locs (200 + 4 * t) (8000 + 100 * t) (lw_Z below #[Value.ref b] s) (F0 m 1393 ls []) := by
  obtain ⟨S, hX, hbl, hbs, hKX, hL⟩ := hC
  have hbs' : bs G ≤ s.heap.size := Nat.le_of_eq hbs
  have hK := hKX.1
  have hx := S.1
  have hb := S.2.1
  refine lv_aload_n hx hb dL_law_1393 rfl (lv_at hl 1 rfl) ?_
  refine law_arg 1 hx hb hX hbl hbs hS (lv_at hl 0 rfl) (lv_at hl 4 rfl) hi hL (by decide) ki_1 dL_law_1394 dL_law_1395 dL_law_1397 dL_law_1398 dL_law_1399 ?_
  refine law_arg 2 hx hb hX hbl hbs hS (lv_at hl 0 rfl) (lv_at hl 4 rfl) hi hL (by decide) ki_2 dL_law_1400 dL_law_1401 dL_law_1403 dL_law_1404 dL_law_1405 ?_
  refine law_arg 3 hx hb hX hbl hbs hS (lv_at hl 0 rfl) (lv_at hl 4 rfl) hi hL (by decide) ki_3 dL_law_1406 dL_law_1407 dL_law_1409 dL_law_1410 dL_law_1411 ?_
  refine law_arg 4 hx hb hX hbl hbs hS (lv_at hl 0 rfl) (lv_at hl 4 rfl) hi hL (by decide) ki_4 dL_law_1412 dL_law_1413 dL_law_1415 dL_law_1416 dL_law_1417 ?_
  refine law_arg 5 hx hb hX hbl hbs hS (lv_at hl 0 rfl) (lv_at hl 4 rfl) hi hL (by decide) ki_5 dL_law_1418 dL_law_1419 dL_law_1421 dL_law_1422 dL_law_1423 ?_
  refine m_ci0 (m_rV S hKX hW (m_szH hbs' hS) (c_X11_keep l (P := fun r M' => r = (sp_keep S9 (xs (6 * t + 1)) (xs (6 * t + 2)) (xs (6 * t + 3)) (xs (6 * t + 4)) (xs (6 * t + 5))).1 ∧ RCX M' (sp_keep S9 (xs (6 * t + 1)) (xs (6 * t + 2)) (xs (6 * t + 3)) (xs (6 * t + 4)) (xs (6 * t + 5))).2 ∧ RMX M' S9)) (tC_keep hR (fun M' hs h' => ⟨rfl, h', hM.sameM hs⟩)) lk_L_142 (m_recv hK hW (ci_0 (Nat.le_of_ble_eq_true rfl)) (rc_0 G) rfl) rfl hl.1 rfl ⟨Nat.le_of_ble_eq_true rfl, Nat.le_of_ble_eq_true rfl⟩ (Nat.le_of_ble_eq_true rfl) ⟨law_rc (by omega) (Nat.le_of_ble_eq_true rfl), law_rs (by omega) (Nat.le_of_ble_eq_true rfl)⟩ dL_law_1424) hS rfl rfl (fun r1 M1 H locs h1 hW hS => ?_)
  obtain ⟨e1, hR1, hM1⟩ := h1
  refine lv_aload_n hx hb dL_law_1427 rfl (lv_at hl 2 rfl) ?_
  refine law_arg 1 hx hb hX hbl hbs hS (lv_at hl 0 rfl) (lv_at hl 4 rfl) hi hL (by decide) ki_1 dL_law_1428 dL_law_1429 dL_law_1431 dL_law_1432 dL_law_1433 ?_
  refine law_arg 2 hx hb hX hbl hbs hS (lv_at hl 0 rfl) (lv_at hl 4 rfl) hi hL (by decide) ki_2 dL_law_1434 dL_law_1435 dL_law_1437 dL_law_1438 dL_law_1439 ?_
  refine law_arg 3 hx hb hX hbl hbs hS (lv_at hl 0 rfl) (lv_at hl 4 rfl) hi hL (by decide) ki_3 dL_law_1440 dL_law_1441 dL_law_1443 dL_law_1444 dL_law_1445 ?_
  refine law_arg 4 hx hb hX hbl hbs hS (lv_at hl 0 rfl) (lv_at hl 4 rfl) hi hL (by decide) ki_4 dL_law_1446 dL_law_1447 dL_law_1449 dL_law_1450 dL_law_1451 ?_
  refine law_arg 5 hx hb hX hbl hbs hS (lv_at hl 0 rfl) (lv_at hl 4 rfl) hi hL (by decide) ki_5 dL_law_1452 dL_law_1453 dL_law_1455 dL_law_1456 dL_law_1457 ?_
  refine m_ci0 (m_rV S hKX hW (m_szH hbs' hS) (c_X12_keep l (P := fun r M' => r = (sp_keep S9 (xs (6 * t + 1)) (xs (6 * t + 2)) (xs (6 * t + 3)) (xs (6 * t + 4)) (xs (6 * t + 5))).1 ∧ RCX M' (sp_keep S9 (xs (6 * t + 1)) (xs (6 * t + 2)) (xs (6 * t + 3)) (xs (6 * t + 4)) (xs (6 * t + 5))).2 ∧ RMX M' (sp_keep S9 (xs (6 * t + 1)) (xs (6 * t + 2)) (xs (6 * t + 3)) (xs (6 * t + 4)) (xs (6 * t + 5))).2)) (tM_keep hM1 (fun M' hs h' => ⟨rfl, hR1.sameC hs, h'⟩)) lk_L_146 (m_recv hK hW (ci_10 (Nat.le_of_ble_eq_true rfl)) (rc_10 G) rfl) rfl hl.1 rfl ⟨Nat.le_of_ble_eq_true rfl, Nat.le_of_ble_eq_true rfl⟩ (Nat.le_of_ble_eq_true rfl) ⟨law_rc (by show 200 + 4 * t ≤ 1000; omega) (Nat.le_of_ble_eq_true rfl), law_rs (by show 8000 + 100 * t ≤ 20000; omega) (Nat.le_of_ble_eq_true rfl)⟩ dL_law_1458) hS rfl rfl (fun r2 M2 H locs h2 hW hS => ?_)
  obtain ⟨e2, hR2, hM2⟩ := h2
  refine lv_icmp_eq (tgt := 1778) hx hb dL_law_1461 (by decide) (fun cz => ?_) (fun cz => absurd (by rw [e1, e2]) cz)
  refine W.widen (k := 200 + 4 * (t + 1)) (n := 8000 + 100 * (t + 1)) (by show 200 + 4 * t ≤ _; omega) (by show 8000 + 100 * t ≤ _; omega) ?_
  exact tail (sp_keep S9 (xs (6 * t + 1)) (xs (6 * t + 2)) (xs (6 * t + 3)) (xs (6 * t + 4)) (xs (6 * t + 5))).2 M2 H locs ls (iv_keep hI) hR2 hM2 hW hS hl
set_option maxHeartbeats 4000000 in
set_option maxRecDepth 100000 in
theorem lc_30 {p : Program} {l : Launch} {e : Env} {s : State} {m : MethodId} {below : List Frame} {meth : Method} {c : Code} {b L t : Nat} {xs : Nat → Int32} {G : Gn} {M : Mem} {S9 : Sg} {H : Heap} {locs : List Loc} {ls : Array Slot} (hC : LC p s m c b L xs G) (hi : 6 * t + 6 ≤ L) (hW : WPm G M H) (hR : RCX M S9) (hM : RMX M S9) (hI : IV S9) (hS : va_S (fun q => bs G ≤ q) s.heap H locs) (hl : lv_has ls 8 (LV b G (6 * t))) (tail : TL p l e s m below meth c b G t) : W p l e room_1 s m #[Value.ref b] below meth c H locs (200 + 4 * t) (8000 + 100 * t) (lw_Z below #[Value.ref b] s) (F0 m 1466 ls []) := by
  obtain ⟨S, hX, hbl, hbs, hKX, hL⟩ := hC
  have hbs' : bs G ≤ s.heap.size := Nat.le_of_eq hbs
  have hK := hKX.1
  have hx := S.1
  have hb := S.2.1
  refine lv_aload_n hx hb dL_law_1466 rfl (lv_at hl 1 rfl) ?_
  refine law_arg 1 hx hb hX hbl hbs hS (lv_at hl 0 rfl) (lv_at hl 4 rfl) hi hL (by decide) ki_1 dL_law_1467 dL_law_1468 dL_law_1470 dL_law_1471 dL_law_1472 ?_
  refine law_arg 2 hx hb hX hbl hbs hS (lv_at hl 0 rfl) (lv_at hl 4 rfl) hi hL (by decide) ki_2 dL_law_1473 dL_law_1474 dL_law_1476 dL_law_1477 dL_law_1478 ?_
  refine law_arg 3 hx hb hX hbl hbs hS (lv_at hl 0 rfl) (lv_at hl 4 rfl) hi hL (by decide) ki_3 dL_law_1479 dL_law_1480 dL_law_1482 dL_law_1483 dL_law_1484 ?_
  refine m_ci0 (m_rV S hKX hW (m_szH hbs' hS) (c_X11_row l (P := fun r M' => r = (sp_row S9 (xs (6 * t + 1)) (xs (6 * t + 2)) (xs (6 * t + 3))).1 ∧ RCX M' (sp_row S9 (xs (6 * t + 1)) (xs (6 * t + 2)) (xs (6 * t + 3))).2 ∧ RMX M' S9)) (tC_row hR (fun M' hs h' => ⟨rfl, h', hM.sameM hs⟩)) lk_L_147 (m_recv hK hW (ci_0 (Nat.le_of_ble_eq_true rfl)) (rc_0 G) rfl) rfl hl.1 rfl ⟨Nat.le_of_ble_eq_true rfl, Nat.le_of_ble_eq_true rfl⟩ (Nat.le_of_ble_eq_true rfl) ⟨law_rc (by omega) (Nat.le_of_ble_eq_true rfl), law_rs (by omega) (Nat.le_of_ble_eq_true rfl)⟩ dL_law_1485) hS rfl rfl (fun r1 M1 H locs h1 hW hS => ?_)
  obtain ⟨e1, hR1, hM1⟩ := h1
  refine lv_aload_n hx hb dL_law_1488 rfl (lv_at hl 2 rfl) ?_
  refine law_arg 1 hx hb hX hbl hbs hS (lv_at hl 0 rfl) (lv_at hl 4 rfl) hi hL (by decide) ki_1 dL_law_1489 dL_law_1490 dL_law_1492 dL_law_1493 dL_law_1494 ?_
  refine law_arg 2 hx hb hX hbl hbs hS (lv_at hl 0 rfl) (lv_at hl 4 rfl) hi hL (by decide) ki_2 dL_law_1495 dL_law_1496 dL_law_1498 dL_law_1499 dL_law_1500 ?_
  refine law_arg 3 hx hb hX hbl hbs hS (lv_at hl 0 rfl) (lv_at hl 4 rfl) hi hL (by decide) ki_3 dL_law_1501 dL_law_1502 dL_law_1504 dL_law_1505 dL_law_1506 ?_
  refine m_ci0 (m_rV S hKX hW (m_szH hbs' hS) (c_X12_row l (P := fun r M' => r = (sp_row S9 (xs (6 * t + 1)) (xs (6 * t + 2)) (xs (6 * t + 3))).1 ∧ RCX M' (sp_row S9 (xs (6 * t + 1)) (xs (6 * t + 2)) (xs (6 * t + 3))).2 ∧ RMX M' (sp_row S9 (xs (6 * t + 1)) (xs (6 * t + 2)) (xs (6 * t + 3))).2)) (tM_row hM1 (fun M' hs h' => ⟨rfl, hR1.sameC hs, h'⟩)) lk_L_150 (m_recv hK hW (ci_10 (Nat.le_of_ble_eq_true rfl)) (rc_10 G) rfl) rfl hl.1 rfl ⟨Nat.le_of_ble_eq_true rfl, Nat.le_of_ble_eq_true rfl⟩ (Nat.le_of_ble_eq_true rfl) ⟨law_rc (by show 200 + 4 * t ≤ 1000; omega) (Nat.le_of_ble_eq_true rfl), law_rs (by show 8000 + 100 * t ≤ 20000; omega) (Nat.le_of_ble_eq_true rfl)⟩ dL_law_1507) hS rfl rfl (fun r2 M2 H locs h2 hW hS => ?_)
  obtain ⟨e2, hR2, hM2⟩ := h2
  refine lv_icmp_eq (tgt := 1778) hx hb dL_law_1510 (by decide) (fun cz => ?_) (fun cz => absurd (by rw [e1, e2]) cz)
  refine W.widen (k := 200 + 4 * (t + 1)) (n := 8000 + 100 * (t + 1)) (by show 200 + 4 * t ≤ _; omega) (by show 8000 + 100 * t ≤ _; omega) ?_
  exact tail (sp_row S9 (xs (6 * t + 1)) (xs (6 * t + 2)) (xs (6 * t + 3))).2 M2 H locs ls (iv_row hI) hR2 hM2 hW hS hl
set_option maxHeartbeats 4000000 in
set_option maxRecDepth 100000 in
theorem lc_31 {p : Program} {l : Launch} {e : Env} {s : State} {m : MethodId} {below : List Frame} {meth : Method} {c : Code} {b L t : Nat} {xs : Nat → Int32} {G : Gn} {M : Mem} {S9 : Sg} {H : Heap} {locs : List Loc} {ls : Array Slot} (hC : LC p s m c b L xs G) (hi : 6 * t + 6 ≤ L) (hW : WPm G M H) (hR : RCX M S9) (hM : RMX M S9) (hI : IV S9) (hS : va_S (fun q => bs G ≤ q) s.heap H locs) (hl : lv_has ls 8 (LV b G (6 * t))) (tail : TL p l e s m below meth c b G t) : W p l e room_1 s m #[Value.ref b] below meth c H locs (200 + 4 * t) (8000 + 100 * t) (lw_Z below #[Value.ref b] s) (F0 m 1515 ls []) := by
  obtain ⟨S, hX, hbl, hbs, hKX, hL⟩ := hC
  have hbs' : bs G ≤ s.heap.size := Nat.le_of_eq hbs
  have hK := hKX.1
  have hx := S.1
  have hb := S.2.1
  refine lv_aload_n hx hb dL_law_1515 rfl (lv_at hl 1 rfl) ?_
  refine law_arg 1 hx hb hX hbl hbs hS (lv_at hl 0 rfl) (lv_at hl 4 rfl) hi hL (by decide) ki_1 dL_law_1516 dL_law_1517 dL_law_1519 dL_law_1520 dL_law_1521 ?_
  refine law_arg 2 hx hb hX hbl hbs hS (lv_at hl 0 rfl) (lv_at hl 4 rfl) hi hL (by decide) ki_2 dL_law_1522 dL_law_1523 dL_law_1525 dL_law_1526 dL_law_1527 ?_
  refine law_arg 3 hx hb hX hbl hbs hS (lv_at hl 0 rfl) (lv_at hl 4 rfl) hi hL (by decide) ki_3 dL_law_1528 dL_law_1529 dL_law_1531 dL_law_1532 dL_law_1533 ?_
  refine m_ci0 (m_rV S hKX hW (m_szH hbs' hS) (c_X11_put l (P := fun r M' => r = (sp_put S9 (xs (6 * t + 1)) (xs (6 * t + 2)) (xs (6 * t + 3))).1 ∧ RCX M' (sp_put S9 (xs (6 * t + 1)) (xs (6 * t + 2)) (xs (6 * t + 3))).2 ∧ RMX M' S9)) (tC_put hR hI.1 (fun M' hs h' => ⟨rfl, h', hM.sameM hs⟩)) lk_L_151 (m_recv hK hW (ci_0 (Nat.le_of_ble_eq_true rfl)) (rc_0 G) rfl) rfl hl.1 rfl ⟨Nat.le_of_ble_eq_true rfl, Nat.le_of_ble_eq_true rfl⟩ (Nat.le_of_ble_eq_true rfl) ⟨law_rc (by omega) (Nat.le_of_ble_eq_true rfl), law_rs (by omega) (Nat.le_of_ble_eq_true rfl)⟩ dL_law_1534) hS rfl rfl (fun r1 M1 H locs h1 hW hS => ?_)
  obtain ⟨e1, hR1, hM1⟩ := h1
  refine lv_aload_n hx hb dL_law_1537 rfl (lv_at hl 2 rfl) ?_
  refine law_arg 1 hx hb hX hbl hbs hS (lv_at hl 0 rfl) (lv_at hl 4 rfl) hi hL (by decide) ki_1 dL_law_1538 dL_law_1539 dL_law_1541 dL_law_1542 dL_law_1543 ?_
  refine law_arg 2 hx hb hX hbl hbs hS (lv_at hl 0 rfl) (lv_at hl 4 rfl) hi hL (by decide) ki_2 dL_law_1544 dL_law_1545 dL_law_1547 dL_law_1548 dL_law_1549 ?_
  refine law_arg 3 hx hb hX hbl hbs hS (lv_at hl 0 rfl) (lv_at hl 4 rfl) hi hL (by decide) ki_3 dL_law_1550 dL_law_1551 dL_law_1553 dL_law_1554 dL_law_1555 ?_
  refine m_ci0 (m_rV S hKX hW (m_szH hbs' hS) (c_X12_put l (P := fun r M' => r = (sp_put S9 (xs (6 * t + 1)) (xs (6 * t + 2)) (xs (6 * t + 3))).1 ∧ RCX M' (sp_put S9 (xs (6 * t + 1)) (xs (6 * t + 2)) (xs (6 * t + 3))).2 ∧ RMX M' (sp_put S9 (xs (6 * t + 1)) (xs (6 * t + 2)) (xs (6 * t + 3))).2)) (tM_put hM1 hI.1 (fun M' hs h' => ⟨rfl, hR1.sameC hs, h'⟩)) lk_L_154 (m_recv hK hW (ci_10 (Nat.le_of_ble_eq_true rfl)) (rc_10 G) rfl) rfl hl.1 rfl ⟨Nat.le_of_ble_eq_true rfl, Nat.le_of_ble_eq_true rfl⟩ (Nat.le_of_ble_eq_true rfl) ⟨law_rc (by show 200 + 4 * t ≤ 1000; omega) (Nat.le_of_ble_eq_true rfl), law_rs (by show 8000 + 100 * t ≤ 20000; omega) (Nat.le_of_ble_eq_true rfl)⟩ dL_law_1556) hS rfl rfl (fun r2 M2 H locs h2 hW hS => ?_)
  obtain ⟨e2, hR2, hM2⟩ := h2
  refine lv_icmp_eq (tgt := 1778) hx hb dL_law_1559 (by decide) (fun cz => ?_) (fun cz => absurd (by rw [e1, e2]) cz)
  refine W.widen (k := 200 + 4 * (t + 1)) (n := 8000 + 100 * (t + 1)) (by show 200 + 4 * t ≤ _; omega) (by show 8000 + 100 * t ≤ _; omega) ?_
  exact tail (sp_put S9 (xs (6 * t + 1)) (xs (6 * t + 2)) (xs (6 * t + 3))).2 M2 H locs ls (iv_put hI) hR2 hM2 hW hS hl
set_option maxHeartbeats 4000000 in
set_option maxRecDepth 100000 in
theorem lc_33 {p : Program} {l : Launch} {e : Env} {s : State} {m : MethodId} {below : List Frame} {meth : Method} {c : Code} {b L t : Nat} {xs : Nat → Int32} {G : Gn} {M : Mem} {S9 : Sg} {H : Heap} {locs : List Loc} {ls : Array Slot} (hC : LC p s m c b L xs G) (hi : 6 * t + 6 ≤ L) (hW : WPm G M H) (hR : RCX M S9) (hM : RMX M S9) (hI : IV S9) (hS : va_S (fun q => bs G ≤ q) s.heap H locs) (hl : lv_has ls 8 (LV b G (6 * t))) (tail : TL p l e s m below meth c b G t) : W p l e room_1 s m #[Value.ref b] below meth c H locs (200 + 4 * t) (8000 + 100 * t) (lw_Z below #[Value.ref b] s) (F0 m 1631 ls []) := by
  obtain ⟨S, hX, hbl, hbs, hKX, hL⟩ := hC
  have hbs' : bs G ≤ s.heap.size := Nat.le_of_eq hbs
  have hK := hKX.1
  have hx := S.1
  have hb := S.2.1
  refine lv_aload_n hx hb dL_law_1631 rfl (lv_at hl 1 rfl) ?_
  refine law_arg 1 hx hb hX hbl hbs hS (lv_at hl 0 rfl) (lv_at hl 4 rfl) hi hL (by decide) ki_1 dL_law_1632 dL_law_1633 dL_law_1635 dL_law_1636 dL_law_1637 ?_
  refine law_arg 2 hx hb hX hbl hbs hS (lv_at hl 0 rfl) (lv_at hl 4 rfl) hi hL (by decide) ki_2 dL_law_1638 dL_law_1639 dL_law_1641 dL_law_1642 dL_law_1643 ?_
  refine law_arg 3 hx hb hX hbl hbs hS (lv_at hl 0 rfl) (lv_at hl 4 rfl) hi hL (by decide) ki_3 dL_law_1644 dL_law_1645 dL_law_1647 dL_law_1648 dL_law_1649 ?_
  refine law_arg 4 hx hb hX hbl hbs hS (lv_at hl 0 rfl) (lv_at hl 4 rfl) hi hL (by decide) ki_4 dL_law_1650 dL_law_1651 dL_law_1653 dL_law_1654 dL_law_1655 ?_
  refine law_arg 5 hx hb hX hbl hbs hS (lv_at hl 0 rfl) (lv_at hl 4 rfl) hi hL (by decide) ki_5 dL_law_1656 dL_law_1657 dL_law_1659 dL_law_1660 dL_law_1661 ?_
  refine m_ci0 (m_rV S hKX hW (m_szH hbs' hS) (c_X11_copy l (P := fun r M' => r = (sp_copy S9 (xs (6 * t + 1)) (xs (6 * t + 2)) (xs (6 * t + 3)) (xs (6 * t + 4)) (xs (6 * t + 5))).1 ∧ RCX M' (sp_copy S9 (xs (6 * t + 1)) (xs (6 * t + 2)) (xs (6 * t + 3)) (xs (6 * t + 4)) (xs (6 * t + 5))).2 ∧ RMX M' S9)) (tC_copy hR hI.1 (fun M' hs h' => ⟨rfl, h', hM.sameM hs⟩)) lk_L_164 (m_recv hK hW (ci_0 (Nat.le_of_ble_eq_true rfl)) (rc_0 G) rfl) rfl hl.1 rfl ⟨Nat.le_of_ble_eq_true rfl, Nat.le_of_ble_eq_true rfl⟩ (Nat.le_of_ble_eq_true rfl) ⟨law_rc (by omega) (Nat.le_of_ble_eq_true rfl), law_rs (by omega) (Nat.le_of_ble_eq_true rfl)⟩ dL_law_1662) hS rfl rfl (fun r1 M1 H locs h1 hW hS => ?_)
  obtain ⟨e1, hR1, hM1⟩ := h1
  refine lv_aload_n hx hb dL_law_1665 rfl (lv_at hl 2 rfl) ?_
  refine law_arg 1 hx hb hX hbl hbs hS (lv_at hl 0 rfl) (lv_at hl 4 rfl) hi hL (by decide) ki_1 dL_law_1666 dL_law_1667 dL_law_1669 dL_law_1670 dL_law_1671 ?_
  refine law_arg 2 hx hb hX hbl hbs hS (lv_at hl 0 rfl) (lv_at hl 4 rfl) hi hL (by decide) ki_2 dL_law_1672 dL_law_1673 dL_law_1675 dL_law_1676 dL_law_1677 ?_
  refine law_arg 3 hx hb hX hbl hbs hS (lv_at hl 0 rfl) (lv_at hl 4 rfl) hi hL (by decide) ki_3 dL_law_1678 dL_law_1679 dL_law_1681 dL_law_1682 dL_law_1683 ?_
  refine law_arg 4 hx hb hX hbl hbs hS (lv_at hl 0 rfl) (lv_at hl 4 rfl) hi hL (by decide) ki_4 dL_law_1684 dL_law_1685 dL_law_1687 dL_law_1688 dL_law_1689 ?_
  refine law_arg 5 hx hb hX hbl hbs hS (lv_at hl 0 rfl) (lv_at hl 4 rfl) hi hL (by decide) ki_5 dL_law_1690 dL_law_1691 dL_law_1693 dL_law_1694 dL_law_1695 ?_
  refine m_ci0 (m_rV S hKX hW (m_szH hbs' hS) (c_X12_copy l (P := fun r M' => r = (sp_copy S9 (xs (6 * t + 1)) (xs (6 * t + 2)) (xs (6 * t + 3)) (xs (6 * t + 4)) (xs (6 * t + 5))).1 ∧ RCX M' (sp_copy S9 (xs (6 * t + 1)) (xs (6 * t + 2)) (xs (6 * t + 3)) (xs (6 * t + 4)) (xs (6 * t + 5))).2 ∧ RMX M' (sp_copy S9 (xs (6 * t + 1)) (xs (6 * t + 2)) (xs (6 * t + 3)) (xs (6 * t + 4)) (xs (6 * t + 5))).2)) (tM_copy hM1 hI.1 (fun M' hs h' => ⟨rfl, hR1.sameC hs, h'⟩)) lk_L_167 (m_recv hK hW (ci_10 (Nat.le_of_ble_eq_true rfl)) (rc_10 G) rfl) rfl hl.1 rfl ⟨Nat.le_of_ble_eq_true rfl, Nat.le_of_ble_eq_true rfl⟩ (Nat.le_of_ble_eq_true rfl) ⟨law_rc (by show 200 + 4 * t ≤ 1000; omega) (Nat.le_of_ble_eq_true rfl), law_rs (by show 8000 + 100 * t ≤ 20000; omega) (Nat.le_of_ble_eq_true rfl)⟩ dL_law_1696) hS rfl rfl (fun r2 M2 H locs h2 hW hS => ?_)
  obtain ⟨e2, hR2, hM2⟩ := h2
  refine lv_icmp_eq (tgt := 1778) hx hb dL_law_1699 (by decide) (fun cz => ?_) (fun cz => absurd (by rw [e1, e2]) cz)
  refine W.widen (k := 200 + 4 * (t + 1)) (n := 8000 + 100 * (t + 1)) (by show 200 + 4 * t ≤ _; omega) (by show 8000 + 100 * t ≤ _; omega) ?_
  exact tail (sp_copy S9 (xs (6 * t + 1)) (xs (6 * t + 2)) (xs (6 * t + 3)) (xs (6 * t + 4)) (xs (6 * t + 5))).2 M2 H locs ls (iv_copy hI) hR2 hM2 hW hS hl
set_option maxHeartbeats 4000000 in
set_option maxRecDepth 100000 in
theorem lc_34 {p : Program} {l : Launch} {e : Env} {s : State} {m : MethodId} {below : List Frame} {meth : Method} {c : Code} {b L t : Nat} {xs : Nat → Int32} {G : Gn} {M : Mem} {S9 : Sg} {H : Heap} {locs : List Loc} {ls : Array Slot} (hC : LC p s m c b L xs G) (hi : 6 * t + 6 ≤ L) (hW : WPm G M H) (hR : RCX M S9) (hM : RMX M S9) (hI : IV S9) (hS : va_S (fun q => bs G ≤ q) s.heap H locs) (hl : lv_has ls 8 (LV b G (6 * t))) (tail : TL p l e s m below meth c b G t) : W p l e room_1 s m #[Value.ref b] below meth c H locs (200 + 4 * t) (8000 + 100 * t) (lw_Z below #[Value.ref b] s) (F0 m 1704 ls []) := by
  obtain ⟨S, hX, hbl, hbs, hKX, hL⟩ := hC
  have hbs' : bs G ≤ s.heap.size := Nat.le_of_eq hbs
  have hK := hKX.1
  have hx := S.1
  have hb := S.2.1
  refine lv_aload_n hx hb dL_law_1704 rfl (lv_at hl 1 rfl) ?_
  refine law_arg 1 hx hb hX hbl hbs hS (lv_at hl 0 rfl) (lv_at hl 4 rfl) hi hL (by decide) ki_1 dL_law_1705 dL_law_1706 dL_law_1708 dL_law_1709 dL_law_1710 ?_
  refine law_arg 2 hx hb hX hbl hbs hS (lv_at hl 0 rfl) (lv_at hl 4 rfl) hi hL (by decide) ki_2 dL_law_1711 dL_law_1712 dL_law_1714 dL_law_1715 dL_law_1716 ?_
  refine law_arg 3 hx hb hX hbl hbs hS (lv_at hl 0 rfl) (lv_at hl 4 rfl) hi hL (by decide) ki_3 dL_law_1717 dL_law_1718 dL_law_1720 dL_law_1721 dL_law_1722 ?_
  refine m_ci0 (m_rV S hKX hW (m_szH hbs' hS) (c_X11_crate l (P := fun r M' => r = (sp_crate S9 (xs (6 * t + 1)) (xs (6 * t + 2)) (xs (6 * t + 3))) ∧ RCX M' S9 ∧ RMX M' S9)) (tC_crate hR hI.1 ⟨rfl, hR, hM⟩) lk_L_168 (m_recv hK hW (ci_0 (Nat.le_of_ble_eq_true rfl)) (rc_0 G) rfl) rfl hl.1 rfl ⟨Nat.le_of_ble_eq_true rfl, Nat.le_of_ble_eq_true rfl⟩ (Nat.le_of_ble_eq_true rfl) ⟨law_rc (by omega) (Nat.le_of_ble_eq_true rfl), law_rs (by omega) (Nat.le_of_ble_eq_true rfl)⟩ dL_law_1723) hS rfl rfl (fun r1 M1 H locs h1 hW hS => ?_)
  obtain ⟨e1, hR1, hM1⟩ := h1
  refine lv_aload_n hx hb dL_law_1726 rfl (lv_at hl 2 rfl) ?_
  refine law_arg 1 hx hb hX hbl hbs hS (lv_at hl 0 rfl) (lv_at hl 4 rfl) hi hL (by decide) ki_1 dL_law_1727 dL_law_1728 dL_law_1730 dL_law_1731 dL_law_1732 ?_
  refine law_arg 2 hx hb hX hbl hbs hS (lv_at hl 0 rfl) (lv_at hl 4 rfl) hi hL (by decide) ki_2 dL_law_1733 dL_law_1734 dL_law_1736 dL_law_1737 dL_law_1738 ?_
  refine law_arg 3 hx hb hX hbl hbs hS (lv_at hl 0 rfl) (lv_at hl 4 rfl) hi hL (by decide) ki_3 dL_law_1739 dL_law_1740 dL_law_1742 dL_law_1743 dL_law_1744 ?_
  refine m_ci0 (m_rV S hKX hW (m_szH hbs' hS) (c_X12_crate l (P := fun r M' => r = (sp_crate S9 (xs (6 * t + 1)) (xs (6 * t + 2)) (xs (6 * t + 3))) ∧ RCX M' S9 ∧ RMX M' S9)) (tM_crate hM1 hI.1 (fun M' hs h' => ⟨rfl, hR1.sameC hs, h'⟩)) lk_L_171 (m_recv hK hW (ci_10 (Nat.le_of_ble_eq_true rfl)) (rc_10 G) rfl) rfl hl.1 rfl ⟨Nat.le_of_ble_eq_true rfl, Nat.le_of_ble_eq_true rfl⟩ (Nat.le_of_ble_eq_true rfl) ⟨law_rc (by show 200 + 4 * t ≤ 1000; omega) (Nat.le_of_ble_eq_true rfl), law_rs (by show 8000 + 100 * t ≤ 20000; omega) (Nat.le_of_ble_eq_true rfl)⟩ dL_law_1745) hS rfl rfl (fun r2 M2 H locs h2 hW hS => ?_)
  obtain ⟨e2, hR2, hM2⟩ := h2
  refine lv_icmp_eq (tgt := 1778) hx hb dL_law_1748 (by decide) (fun cz => ?_) (fun cz => absurd (by rw [e1, e2]) cz)
  refine W.widen (k := 200 + 4 * (t + 1)) (n := 8000 + 100 * (t + 1)) (by show 200 + 4 * t ≤ _; omega) (by show 8000 + 100 * t ≤ _; omega) ?_
  exact tail S9 M2 H locs ls hI hR2 hM2 hW hS hl
set_option maxHeartbeats 4000000 in
set_option maxRecDepth 100000 in
theorem lc_35 {p : Program} {l : Launch} {e : Env} {s : State} {m : MethodId} {below : List Frame} {meth : Method} {c : Code} {b L t : Nat} {xs : Nat → Int32} {G : Gn} {M : Mem} {S9 : Sg} {H : Heap} {locs : List Loc} {ls : Array Slot} (hl0 : l.stackTraces = false) (hC : LC p s m c b L xs G) (hi : 6 * t + 6 ≤ L) (hW : WPm G M H) (hR : RCX M S9) (hM : RMX M S9) (hI : IV S9) (hS : va_S (fun q => bs G ≤ q) s.heap H locs) (hl : lv_has ls 8 (LV b G (6 * t))) (tail : TL p l e s m below meth c b G t) : W p l e room_1 s m #[Value.ref b] below meth c H locs (200 + 4 * t) (8000 + 100 * t) (lw_Z below #[Value.ref b] s) (F0 m 1753 ls []) := by
  obtain ⟨S, hX, hbl, hbs, hKX, hL⟩ := hC
  have hbs' : bs G ≤ s.heap.size := Nat.le_of_eq hbs
  have hK := hKX.1
  have hx := S.1
  have hb := S.2.1
  refine lv_aload_n hx hb dL_law_1753 rfl (lv_at hl 1 rfl) ?_
  refine law_arg 1 hx hb hX hbl hbs hS (lv_at hl 0 rfl) (lv_at hl 4 rfl) hi hL (by decide) ki_1 dL_law_1754 dL_law_1755 dL_law_1757 dL_law_1758 dL_law_1759 ?_
  have hHb := m_szH hbs' hS
  have hr := vx_runVW (g := F0 m 1760 ls [.int (xs (6 * t + 1)), .ref (ad G 0 0)]) (rest := []) (C := yX11_toss.cls) S (c_X11_toss l hl0 (P := fun r M' => r = (sp_toss S9 (xs (6 * t + 1))) ∧ RCX M' S9 ∧ RMX M' S9)) (vx_cwVW (R := room_1) 1 S.2.2.2.2 (law_gV mw_1010 mw_1011 mw_1012 mw_1 tw_T) rfl rfl rfl ⟨rfl, by decide +kernel, by decide +kernel, by decide +kernel⟩ ⟨Nat.le_of_ble_eq_true rfl, Nat.le_of_ble_eq_true rfl⟩) ⟨m_blind, m_recv hK hW (ci_0 (Nat.le_of_ble_eq_true rfl)) (rc_0 G) rfl, fun U hU hWm => ⟨rfl, ⟨hKX.warm hWm, by rw [hU]; exact hHb, by rw [hU]; exact hW⟩, (tC_toss hR hI.1 ⟨rfl, hR, hM⟩)⟩⟩ rfl rfl hl.1 rfl (lv_room (Nat.le_of_ble_eq_true rfl)) dL_law_1760 (p := p) (e := e) (below := below) (meth := meth) (H := H) (locs := locs) (cells := 200 + 4 * t) (slots := 8000 + 100 * t) ⟨law_rc (by omega) (Nat.le_of_ble_eq_true rfl), law_rs (by omega) (Nat.le_of_ble_eq_true rfl)⟩
  refine m_ci hr hS (fun r1 M1 H locs h1 hW hS => ?_)
  obtain ⟨e1, hR1, hM1⟩ := h1
  refine lv_aload_n hx hb dL_law_1763 rfl (lv_at hl 2 rfl) ?_
  refine law_arg 1 hx hb hX hbl hbs hS (lv_at hl 0 rfl) (lv_at hl 4 rfl) hi hL (by decide) ki_1 dL_law_1764 dL_law_1765 dL_law_1767 dL_law_1768 dL_law_1769 ?_
  refine m_ci0 (m_rV S hKX hW (m_szH hbs' hS) (c_X12_toss l (P := fun r M' => r = (sp_toss S9 (xs (6 * t + 1))) ∧ RCX M' S9 ∧ RMX M' S9)) (tM_toss hM1 hI.1 (fun M' hs h' => ⟨rfl, hR1.sameC hs, h'⟩)) lk_L_175 (m_recv hK hW (ci_10 (Nat.le_of_ble_eq_true rfl)) (rc_10 G) rfl) rfl hl.1 rfl ⟨Nat.le_of_ble_eq_true rfl, Nat.le_of_ble_eq_true rfl⟩ (Nat.le_of_ble_eq_true rfl) ⟨law_rc (by show 200 + 4 * t + 1 ≤ 1000; omega) (Nat.le_of_ble_eq_true rfl), law_rs (by show 8000 + 100 * t + 6 ≤ 20000; omega) (Nat.le_of_ble_eq_true rfl)⟩ dL_law_1770) hS rfl rfl (fun r2 M2 H locs h2 hW hS => ?_)
  obtain ⟨e2, hR2, hM2⟩ := h2
  refine lv_icmp_eq (tgt := 1778) hx hb dL_law_1773 (by decide) (fun cz => ?_) (fun cz => absurd (by rw [e1, e2]) cz)
  refine W.widen (k := 200 + 4 * (t + 1)) (n := 8000 + 100 * (t + 1)) (by show 200 + 4 * t + 1 ≤ _; omega) (by show 8000 + 100 * t + 6 ≤ _; omega) ?_
  exact tail S9 M2 H locs ls hI hR2 hM2 hW hS hl
set_option maxHeartbeats 4000000 in
set_option maxRecDepth 100000 in
theorem lc_32 {p : Program} {l : Launch} {e : Env} {s : State} {m : MethodId} {below : List Frame} {meth : Method} {c : Code} {b L t : Nat} {xs : Nat → Int32} {G : Gn} {M : Mem} {S9 : Sg} {H : Heap} {locs : List Loc} {ls : Array Slot} (hl0 : l.stackTraces = false) (hC : LC p s m c b L xs G) (hi : 6 * t + 6 ≤ L) (hW : WPm G M H) (hR : RCX M S9) (hM : RMX M S9) (hI : IV S9) (hS : va_S (fun q => bs G ≤ q) s.heap H locs) (hl : lv_has ls 8 (LV b G (6 * t))) (tail : TL p l e s m below meth c b G t) : W p l e room_1 s m #[Value.ref b] below meth c H locs (200 + 4 * t) (8000 + 100 * t) (lw_Z below #[Value.ref b] s) (F0 m 1564 ls []) := by
  obtain ⟨S, hX, hbl, hbs, hKX, hL⟩ := hC
  have hbs' : bs G ≤ s.heap.size := Nat.le_of_eq hbs
  have hK := hKX.1
  have hx := S.1
  have hb := S.2.1
  have hHb := m_szH hbs' hS
  refine lv_aload_n hx hb dL_law_1564 rfl (lv_at hl 1 rfl) ?_
  refine law_arg 1 hx hb hX hbl hbs hS (lv_at hl 0 rfl) (lv_at hl 4 rfl) hi hL (by decide) ki_1 dL_law_1565 dL_law_1566 dL_law_1568 dL_law_1569 dL_law_1570 ?_
  refine law_arg 2 hx hb hX hbl hbs hS (lv_at hl 0 rfl) (lv_at hl 4 rfl) hi hL (by decide) ki_2 dL_law_1571 dL_law_1572 dL_law_1574 dL_law_1575 dL_law_1576 ?_
  refine lv_aload_n hx hb dL_law_1577 rfl (lv_at hl 3 rfl) ?_
  have hp : s_L_element M (xs (6 * t + 1)) (xs (6 * t + 2)) (fun r M' => r = (sp_element S9 (xs (6 * t + 1)) (xs (6 * t + 2))).1 ∧ (r = 0 → M'.2.1 81 0 0 = (sp_element S9 (xs (6 * t + 1)) (xs (6 * t + 2))).2) ∧ RCX M' S9 ∧ RMX M' S9) := by
    unfold s_L_element
    refine tC_element hR hI.1 (fun h0 M8 e8 => ?_) (fun h1 => Or.inl ⟨rfl, h1.symm, fun h => absurd h (by decide), hR, hM⟩) (fun h2 => Or.inr ⟨rfl, h2.symm, fun h => absurd h (by decide), hR, hM⟩)
    rw [e8]
    exact ⟨h0.symm, fun _ => by rw [wJ_at, if_pos ⟨rfl, rfl, rfl⟩], hR.w81, hM.w81⟩
  have hr := vx_runSW (g := F0 m 1578 ls [.ref (ad G 81 0), .int (xs (6 * t + 2)), .int (xs (6 * t + 1)), .ref (ad G 0 0)]) (As := [.ref (ad G 0 0), .int (xs (6 * t + 1)), .int (xs (6 * t + 2)), .ref (ad G 81 0)]) (rest := []) S (c_L_element l hl0 (P := fun r M' => r = (sp_element S9 (xs (6 * t + 1)) (xs (6 * t + 2))).1 ∧ (r = 0 → M'.2.1 81 0 0 = (sp_element S9 (xs (6 * t + 1)) (xs (6 * t + 2))).2) ∧ RCX M' S9 ∧ RMX M' S9)) (vx_cwSW (R := room_1) 4 S.2.2.2.2 (law_gS mw_1122 mw_1123 iy_L tw_L) rfl rfl rfl ⟨by decide +kernel, by decide +kernel, by decide +kernel⟩ ⟨Nat.le_of_ble_eq_true rfl, Nat.le_of_ble_eq_true rfl⟩) ⟨m_blind, fun U hU hWm => ⟨rfl, ⟨hKX.warm hWm, by rw [hU]; exact hHb, by rw [hU]; exact hW⟩, hp⟩⟩ rfl rfl hl.1 rfl (lv_room (Nat.le_of_ble_eq_true rfl)) dL_law_1578 (p := p) (e := e) (below := below) (meth := meth) (H := H) (locs := locs) (cells := 200 + 4 * t) (slots := 8000 + 100 * t) ⟨law_rc (by omega) (Nat.le_of_ble_eq_true rfl), law_rs (by omega) (Nat.le_of_ble_eq_true rfl)⟩
  refine m_ci hr hS (fun r1 M1 H locs h1 hW hS => ?_)
  obtain ⟨e1, e81, hR1, hM1⟩ := h1
  refine lv_istore (lv' := (5, .int r1) :: LV b G (6 * t)) hx hb dL_law_1581 hl (by decide) rfl (fun ls hl => ?_)
  refine lv_aload_n hx hb dL_law_1583 rfl (lv_at hl 3 rfl) ?_
  refine law_arg 1 hx hb hX hbl hbs hS (lv_at hl 1 rfl) (lv_at hl 5 rfl) hi hL (by decide) ki_1 dL_law_1584 dL_law_1585 dL_law_1587 dL_law_1588 dL_law_1589 ?_
  refine law_arg 2 hx hb hX hbl hbs hS (lv_at hl 1 rfl) (lv_at hl 5 rfl) hi hL (by decide) ki_2 dL_law_1590 dL_law_1591 dL_law_1593 dL_law_1594 dL_law_1595 ?_
  refine m_cl0 (m_rV S hKX hW (m_szH hbs' hS) (c_X12_element l (P := fun r M' => r = (sp_element S9 (xs (6 * t + 1)) (xs (6 * t + 2))).2 ∧ M'.2.1 81 0 0 = M1.2.1 81 0 0 ∧ M'.1 10 0 0 = (sp_element S9 (xs (6 * t + 1)) (xs (6 * t + 2))).1 ∧ RCX M' S9 ∧ RMX M' S9)) (tM_element hM1 hI.1 (fun M' hs h' e1' e2' => ⟨rfl, by rw [e1'], e2', hR1.sameC hs, h'⟩)) lk_L_160 (m_recv hK hW (ci_10 (Nat.le_of_ble_eq_true rfl)) (rc_10 G) rfl) rfl hl.1 rfl ⟨Nat.le_of_ble_eq_true rfl, Nat.le_of_ble_eq_true rfl⟩ (Nat.le_of_ble_eq_true rfl) ⟨law_rc (by show 200 + 4 * t + 1 ≤ 1000; omega) (Nat.le_of_ble_eq_true rfl), law_rs (by show 8000 + 100 * t + 6 ≤ 20000; omega) (Nat.le_of_ble_eq_true rfl)⟩ dL_law_1596) hS rfl rfl (fun r2 M2 H locs h2 hW hS => ?_)
  obtain ⟨e2, e82, e10, hR2, hM2⟩ := h2
  refine lv_lstore (lv' := (6, .long r2) :: (5, .int r1) :: LV b G (6 * t)) hx hb dL_law_1599 hl (by decide) rfl (fun ls hl => ?_)
  refine lv_aload_n hx hb dL_law_1601 rfl (lv_at hl 4 rfl) ?_
  refine m_ci0 (m_rV S hKX hW (m_szH hbs' hS) (c_X12_thrown l (P := fun r M' => r = (sp_element S9 (xs (6 * t + 1)) (xs (6 * t + 2))).1 ∧ M' = M2)) ⟨e10, rfl⟩ lk_L_161 (m_recv hK hW (ci_10 (Nat.le_of_ble_eq_true rfl)) (rc_10 G) rfl) rfl hl.1 rfl ⟨Nat.le_of_ble_eq_true rfl, Nat.le_of_ble_eq_true rfl⟩ (Nat.le_of_ble_eq_true rfl) ⟨law_rc (by show 200 + 4 * t + 1 ≤ 1000; omega) (Nat.le_of_ble_eq_true rfl), law_rs (by show 8000 + 100 * t + 6 ≤ 20000; omega) (Nat.le_of_ble_eq_true rfl)⟩ dL_law_1602) hS rfl rfl (fun r3 M3 H locs h3 hW hS => ?_)
  obtain ⟨e3, eM⟩ := h3
  rw [eM] at hW
  refine lv_iload hx hb dL_law_1605 (lv_at hl 1 rfl) ?_
  refine lv_icmp_eq (tgt := 1612) hx hb dL_law_1607 (by decide) (fun cz => ?_) (fun cz => absurd (by rw [e1, e3]) cz)
  have fin : ∀ {H' : Heap} {locs' : List Loc}, WPm G M2 H' → va_S (fun q => bs G ≤ q) s.heap H' locs' → W p l e room_1 s m #[Value.ref b] below meth c H' locs' (200 + 4 * t + rm_L_element.cells) (8000 + 100 * t + rm_L_element.slots) (lw_Z below #[Value.ref b] s) (F0 m 1628 ls []) := by
    intro H' locs' hW hS
    refine lv_goto (tgt := 1778) hx hb dL_law_1628 (by decide) ?_
    refine W.widen (k := 200 + 4 * (t + 1)) (n := 8000 + 100 * (t + 1)) (by show 200 + 4 * t + 1 ≤ _; omega) (by show 8000 + 100 * t + 6 ≤ _; omega) ?_
    exact tail S9 M2 H' locs' ls hI hR2 hM2 hW hS (lv_sub hl [2, 3, 4, 5, 6] rfl)
  refine lv_iload hx hb dL_law_1612 (lv_at hl 1 rfl) ?_
  refine lv_if_ne (tgt := 1628) hx hb dL_law_1614 (by decide) (fun cz => ?_) (fun cz => ?_)
  · exact fin hW hS
  · have e9 : M2.2.1 81 0 0 = r2 := by rw [e82, e81 cz, e2]
    refine lv_aload_n hx hb dL_law_1617 rfl (lv_at hl 5 rfl) ?_
    refine lv_iconst hx hb dL_law_1618 ki_0 ?_
    refine m_jaldk S hK (ar_81 G) hW (ci_81 (Nat.le_of_ble_eq_true rfl)) (k := 0) (by decide +kernel) (Nat.le_of_ble_eq_true rfl) dL_law_1619 ?_
    rw [e9]
    refine lv_lload hx hb dL_law_1620 (lv_at hl 0 rfl) ?_
    refine W.lcmp hx hb dL_law_1622 ?_
    refine lv_if_eq (tgt := 1628) hx hb dL_law_1623 (by decide) (fun cz => ?_) (fun cz => absurd (law_cmp r2) cz)
    exact fin hW hS
