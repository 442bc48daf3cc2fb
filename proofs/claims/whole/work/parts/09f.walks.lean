abbrev rm_X12_image : Room := { frames := 0, cells := 0, slots := 0, locals := 0 }
set_option maxHeartbeats 4000000 in
set_option maxRecDepth 100000 in
theorem c_X12_image (l : Launch) {G : Gn} {M : Mem} {P : Int32 → Mem → Prop} : MQi l yX12_image cX12_image 2 (some .int) rm_X12_image [.ref (ad G 10 0)] G M (s_X12_image M P) P := by
  refine m_enter (by decide +kernel) (Nat.le_of_ble_eq_true rfl) ?_
  intro p e s m below meth c ls H locs S hret hlocks hname hKX hbs hW hS hl h
  obtain ⟨AV, hAV⟩ : ∃ z : Array Value, z = ([.ref (ad G 10 0)] : List Value).toArray := ⟨_, rfl⟩
  rw [← hAV] at S ⊢
  replace S : CallFix p m c cX12_image 2 s AV lw_G "MilkDeskModel" := S
  have hK := hKX.1
  have hx := S.1
  have hb := S.2.1
  have hml := S.2.2.1
  have hown := S.2.2.2.1
  have hts := S.2.2.2.2
  replace hl : lv_has ls 2 [(0, .ref (ad G 10 0))] := hl
  have w12 : ∀ (n : Nat) (a : Mem × Int32), Lz (fun (K12 : Mem × Int32 → Prop) (a : Mem × Int32) => s_X12_image_12 P K12 a.1 a.2) n a → ∀ (H : Heap) (locs : List Loc) (ls : Array Slot), WPm G a.1 H → va_S (fun q => bs G ≤ q) s.heap H locs → lv_has ls 2 [(0, .ref (ad G 10 0)), (1, .int a.2)] → W p l e rm_X12_image s m AV below meth c H locs 0 0 (MQ below (va_Qi P (WS G) (fun q => bs G ≤ q)) AV s 0 0 (fun q => bs G ≤ q)) (F0 m 12 ls []) := by
    refine Lz_walk ?_
    rintro K12 kk12 ⟨M, x1⟩ h H locs ls hW hS hl
    replace h : s_X12_image_12 P K12 M x1 := h
    replace hW : WPm G M H := hW
    replace hl : lv_has ls 2 [(0, .ref (ad G 10 0)), (1, .int x1)] := hl
    unfold s_X12_image_12 at h
    refine lv_iload_n hx hb dX12_image_12 rfl (lv_at hl 1 rfl) ?_
    refine lv_sipush hx hb dX12_image_13 ks_320 ?_
    refine lv_icmp_ge (tgt := 37) hx hb dX12_image_16 (by decide) (fun c16 => ?_) (fun c16 => ?_)
    · replace h := h.1 c16
      refine lv_aload_n hx hb dX12_image_37 rfl (lv_at hl 0 rfl) ?_
      refine m_getr S hK fk_X12_7 (gr_10_1 G 0) hW (ci_10 (Nat.le_of_ble_eq_true rfl)) dX12_image_38 ?_
      refine lv_iconst hx hb dX12_image_41 ki_3 ?_
      refine m_aldk S hK (ar_44 G) hW (ci_44 (Nat.le_of_ble_eq_true rfl)) kn_3 (Nat.le_of_ble_eq_true rfl) dX12_image_42 ?_
      exact m_iret S hret hlocks hKX hW hbs hS rfl h dX12_image_43
    · replace h := h.2 c16
      refine lv_aload_n hx hb dX12_image_19 rfl (lv_at hl 0 rfl) ?_
      refine m_getr S hK fk_X12_13 (gr_10_2 G 0) hW (ci_10 (Nat.le_of_ble_eq_true rfl)) dX12_image_20 ?_
      refine lv_iload_n hx hb dX12_image_23 rfl (lv_at hl 1 rfl) ?_
      refine lv_aload_n hx hb dX12_image_24 rfl (lv_at hl 0 rfl) ?_
      refine m_getr S hK fk_X12_7 (gr_10_1 G 0) hW (ci_10 (Nat.le_of_ble_eq_true rfl)) dX12_image_25 ?_
      refine lv_iload_n hx hb dX12_image_28 rfl (lv_at hl 1 rfl) ?_
      obtain ⟨hb29, h⟩ := h
      refine m_ald S hK (ar_44 G) hW (ci_44 (Nat.le_of_ble_eq_true rfl)) hb29 dX12_image_29 ?_
      obtain ⟨hb30, h⟩ := h
      refine m_ast S hK (ar_45 G) hW hS (ci_45 (Nat.le_of_ble_eq_true rfl)) hb30 dX12_image_30 (fun Mm30 eMm30 H locs hW hS => ?_)
      replace h := h Mm30 eMm30
      obtain ⟨x1_31, ex1_31⟩ : ∃ z : Int32, z = x1 + (1 : Int32) := ⟨_, rfl⟩
      replace h := h x1_31 ex1_31
      refine lv_iinc (v := x1_31) (lv' := [(1, .int x1_31), (0, .ref (ad G 10 0))]) hx hb dX12_image_31 hl (k := 1) rfl (by rw [ex1_31, ki_1]) (by decide) rfl (fun ls hl => ?_)
      refine lv_goto (tgt := 12) hx hb dX12_image_34 (by decide) ?_
      exact kk12 _ h H locs ls hW hS (lv_sub hl [1, 0] rfl)
  unfold s_X12_image at h
  refine lv_aload_n hx hb dX12_image_0 rfl (lv_at hl 0 rfl) ?_
  refine lv_iconst hx hb dX12_image_1 ki_0 ?_
  refine m_put S hK fk_X12_128 tyX12_ok nmX12 rfl pf_X12_0 (pv_10_0 G) hW hS (ci_10 (Nat.le_of_ble_eq_true rfl)) rfl rfl dX12_image_2 (fun Mm2 eMm2 H locs hW hS => ?_)
  replace h := h Mm2 eMm2
  refine lv_aload_n hx hb dX12_image_5 rfl (lv_at hl 0 rfl) ?_
  refine lv_iconst hx hb dX12_image_6 ki_1 ?_
  refine m_put S hK fk_X12_335 tyX12_ok nmX12 rfl pf_X12_4 (pv_10_4 G) hW hS (ci_10 (Nat.le_of_ble_eq_true rfl)) (isB_n isB_1) (isB_f isB_1) dX12_image_7 (fun Mm7 eMm7 H locs hW hS => ?_)
  replace h := h Mm7 eMm7
  refine lv_iconst hx hb dX12_image_10 ki_0 ?_
  refine lv_istore_n (lv' := [(1, .int (0 : Int32)), (0, .ref (ad G 10 0))]) hx hb dX12_image_11 rfl hl (by decide) rfl (fun ls hl => ?_)
  obtain ⟨n12, h⟩ := h
  exact w12 n12 _ h H locs ls hW hS (lv_sub hl [1, 0] rfl)
abbrev rm_X12_restore : Room := { frames := 0, cells := 0, slots := 0, locals := 0 }
set_option maxHeartbeats 4000000 in
set_option maxRecDepth 100000 in
theorem c_X12_restore (l : Launch) {G : Gn} {M : Mem} {P : Int32 → Mem → Prop} : MQi l yX12_restore cX12_restore 2 (some .int) rm_X12_restore [.ref (ad G 10 0)] G M (s_X12_restore M P) P := by
  refine m_enter (by decide +kernel) (Nat.le_of_ble_eq_true rfl) ?_
  intro p e s m below meth c ls H locs S hret hlocks hname hKX hbs hW hS hl h
  obtain ⟨AV, hAV⟩ : ∃ z : Array Value, z = ([.ref (ad G 10 0)] : List Value).toArray := ⟨_, rfl⟩
  rw [← hAV] at S ⊢
  replace S : CallFix p m c cX12_restore 2 s AV lw_G "MilkDeskModel" := S
  have hK := hKX.1
  have hx := S.1
  have hb := S.2.1
  have hml := S.2.2.1
  have hown := S.2.2.2.1
  have hts := S.2.2.2.2
  replace hl : lv_has ls 2 [(0, .ref (ad G 10 0))] := hl
  have w17 : ∀ (n : Nat) (a : Mem × Int32), Lz (fun (K17 : Mem × Int32 → Prop) (a : Mem × Int32) => s_X12_restore_17 P K17 a.1 a.2) n a → ∀ (H : Heap) (locs : List Loc) (ls : Array Slot), WPm G a.1 H → va_S (fun q => bs G ≤ q) s.heap H locs → lv_has ls 2 [(0, .ref (ad G 10 0)), (1, .int a.2)] → W p l e rm_X12_restore s m AV below meth c H locs 0 0 (MQ below (va_Qi P (WS G) (fun q => bs G ≤ q)) AV s 0 0 (fun q => bs G ≤ q)) (F0 m 17 ls []) := by
    refine Lz_walk ?_
    rintro K17 kk17 ⟨M, x1⟩ h H locs ls hW hS hl
    replace h : s_X12_restore_17 P K17 M x1 := h
    replace hW : WPm G M H := hW
    replace hl : lv_has ls 2 [(0, .ref (ad G 10 0)), (1, .int x1)] := hl
    unfold s_X12_restore_17 at h
    refine lv_iload_n hx hb dX12_restore_17 rfl (lv_at hl 1 rfl) ?_
    refine lv_sipush hx hb dX12_restore_18 ks_320 ?_
    refine lv_icmp_ge (tgt := 42) hx hb dX12_restore_21 (by decide) (fun c21 => ?_) (fun c21 => ?_)
    · replace h := h.1 c21
      refine lv_aload_n hx hb dX12_restore_42 rfl (lv_at hl 0 rfl) ?_
      refine lv_iconst hx hb dX12_restore_43 ki_m1 ?_
      refine m_put S hK fk_X12_84 tyX12_ok nmX12 rfl pf_X12_37 (pv_10_37 G) hW hS (ci_10 (Nat.le_of_ble_eq_true rfl)) rfl rfl dX12_restore_44 (fun Mm44 eMm44 H locs hW hS => ?_)
      replace h := h Mm44 eMm44
      refine lv_aload_n hx hb dX12_restore_47 rfl (lv_at hl 0 rfl) ?_
      refine m_getr S hK fk_X12_7 (gr_10_1 G 0) hW (ci_10 (Nat.le_of_ble_eq_true rfl)) dX12_restore_48 ?_
      refine lv_iconst hx hb dX12_restore_51 ki_3 ?_
      refine m_aldk S hK (ar_44 G) hW (ci_44 (Nat.le_of_ble_eq_true rfl)) kn_3 (Nat.le_of_ble_eq_true rfl) dX12_restore_52 ?_
      exact m_iret S hret hlocks hKX hW hbs hS rfl h dX12_restore_53
    · replace h := h.2 c21
      refine lv_aload_n hx hb dX12_restore_24 rfl (lv_at hl 0 rfl) ?_
      refine m_getr S hK fk_X12_7 (gr_10_1 G 0) hW (ci_10 (Nat.le_of_ble_eq_true rfl)) dX12_restore_25 ?_
      refine lv_iload_n hx hb dX12_restore_28 rfl (lv_at hl 1 rfl) ?_
      refine lv_aload_n hx hb dX12_restore_29 rfl (lv_at hl 0 rfl) ?_
      refine m_getr S hK fk_X12_13 (gr_10_2 G 0) hW (ci_10 (Nat.le_of_ble_eq_true rfl)) dX12_restore_30 ?_
      refine lv_iload_n hx hb dX12_restore_33 rfl (lv_at hl 1 rfl) ?_
      obtain ⟨hb34, h⟩ := h
      refine m_ald S hK (ar_45 G) hW (ci_45 (Nat.le_of_ble_eq_true rfl)) hb34 dX12_restore_34 ?_
      obtain ⟨hb35, h⟩ := h
      refine m_ast S hK (ar_44 G) hW hS (ci_44 (Nat.le_of_ble_eq_true rfl)) hb35 dX12_restore_35 (fun Mm35 eMm35 H locs hW hS => ?_)
      replace h := h Mm35 eMm35
      obtain ⟨x1_36, ex1_36⟩ : ∃ z : Int32, z = x1 + (1 : Int32) := ⟨_, rfl⟩
      replace h := h x1_36 ex1_36
      refine lv_iinc (v := x1_36) (lv' := [(1, .int x1_36), (0, .ref (ad G 10 0))]) hx hb dX12_restore_36 hl (k := 1) rfl (by rw [ex1_36, ki_1]) (by decide) rfl (fun ls hl => ?_)
      refine lv_goto (tgt := 17) hx hb dX12_restore_39 (by decide) ?_
      exact kk17 _ h H locs ls hW hS (lv_sub hl [1, 0] rfl)
  unfold s_X12_restore at h
  refine lv_aload_n hx hb dX12_restore_0 rfl (lv_at hl 0 rfl) ?_
  refine lv_iconst hx hb dX12_restore_1 ki_0 ?_
  refine m_put S hK fk_X12_128 tyX12_ok nmX12 rfl pf_X12_0 (pv_10_0 G) hW hS (ci_10 (Nat.le_of_ble_eq_true rfl)) rfl rfl dX12_restore_2 (fun Mm2 eMm2 H locs hW hS => ?_)
  replace h := h Mm2 eMm2
  refine lv_aload_n hx hb dX12_restore_5 rfl (lv_at hl 0 rfl) ?_
  refine m_geti S hK fk_X12_335 (gi_10_4 G) hW (ci_10 (Nat.le_of_ble_eq_true rfl)) dX12_restore_6 ?_
  refine lv_if_ne (tgt := 15) hx hb dX12_restore_9 (by decide) (fun c9 => ?_) (fun c9 => ?_)
  · replace h := h.1 c9
    refine lv_iconst hx hb dX12_restore_15 ki_0 ?_
    refine lv_istore_n (lv' := [(1, .int (0 : Int32)), (0, .ref (ad G 10 0))]) hx hb dX12_restore_16 rfl hl (by decide) rfl (fun ls hl => ?_)
    obtain ⟨n17, h⟩ := h
    exact w17 n17 _ h H locs ls hW hS (lv_sub hl [1, 0] rfl)
  · replace h := h.2 c9
    refine lv_bipush hx hb dX12_restore_12 kb_m3 ?_
    exact m_iret S hret hlocks hKX hW hbs hS rfl h dX12_restore_14
abbrev rm_X12_allOf : Room := { frames := 0, cells := 0, slots := 0, locals := 0 }
set_option maxHeartbeats 4000000 in
set_option maxRecDepth 100000 in
theorem c_X12_allOf (l : Launch) {G : Gn} {M : Mem} {x1 : Int32} {P : Int32 → Mem → Prop} : MQi l yX12_allOf cX12_allOf 4 (some .int) rm_X12_allOf [.ref (ad G 10 0), .int x1] G M (s_X12_allOf M x1 P) P := by
  refine m_enter (by decide +kernel) (Nat.le_of_ble_eq_true rfl) ?_
  intro p e s m below meth c ls H locs S hret hlocks hname hKX hbs hW hS hl h
  obtain ⟨AV, hAV⟩ : ∃ z : Array Value, z = ([.ref (ad G 10 0), .int x1] : List Value).toArray := ⟨_, rfl⟩
  rw [← hAV] at S ⊢
  replace S : CallFix p m c cX12_allOf 4 s AV lw_G "MilkDeskModel" := S
  have hK := hKX.1
  have hx := S.1
  have hb := S.2.1
  have hml := S.2.2.1
  have hown := S.2.2.2.1
  have hts := S.2.2.2.2
  replace hl : lv_has ls 4 [(0, .ref (ad G 10 0)), (1, .int x1)] := hl
  have w4 : ∀ (n : Nat) (a : Mem × Int32 × Int32), Lz (fun (K4 : Mem × Int32 × Int32 → Prop) (a : Mem × Int32 × Int32) => s_X12_allOf_4 x1 P K4 a.1 a.2.1 a.2.2) n a → ∀ (H : Heap) (locs : List Loc) (ls : Array Slot), WPm G a.1 H → va_S (fun q => bs G ≤ q) s.heap H locs → lv_has ls 4 [(0, .ref (ad G 10 0)), (1, .int x1), (2, .int a.2.1), (3, .int a.2.2)] → W p l e rm_X12_allOf s m AV below meth c H locs 0 0 (MQ below (va_Qi P (WS G) (fun q => bs G ≤ q)) AV s 0 0 (fun q => bs G ≤ q)) (F0 m 4 ls []) := by
    refine Lz_walk ?_
    rintro K4 kk4 ⟨M, x2, x3⟩ h H locs ls hW hS hl
    replace h : s_X12_allOf_4 x1 P K4 M x2 x3 := h
    replace hW : WPm G M H := hW
    replace hl : lv_has ls 4 [(0, .ref (ad G 10 0)), (1, .int x1), (2, .int x2), (3, .int x3)] := hl
    unfold s_X12_allOf_4 at h
    refine lv_iload_n hx hb dX12_allOf_4 rfl (lv_at hl 3 rfl) ?_
    refine lv_aload_n hx hb dX12_allOf_5 rfl (lv_at hl 0 rfl) ?_
    refine m_getr S hK fk_X12_7 (gr_10_1 G 0) hW (ci_10 (Nat.le_of_ble_eq_true rfl)) dX12_allOf_6 ?_
    refine lv_iconst hx hb dX12_allOf_9 ki_0 ?_
    refine m_aldk S hK (ar_44 G) hW (ci_44 (Nat.le_of_ble_eq_true rfl)) kn_0 (Nat.le_of_ble_eq_true rfl) dX12_allOf_10 ?_
    refine lv_icmp_ge (tgt := 38) hx hb dX12_allOf_11 (by decide) (fun c11 => ?_) (fun c11 => ?_)
    · replace h := h.1 c11
      refine lv_iload_n hx hb dX12_allOf_38 rfl (lv_at hl 2 rfl) ?_
      exact m_iret S hret hlocks hKX hW hbs hS rfl h dX12_allOf_39
    · replace h := h.2 c11
      refine lv_iload_n hx hb dX12_allOf_14 rfl (lv_at hl 2 rfl) ?_
      refine lv_aload_n hx hb dX12_allOf_15 rfl (lv_at hl 0 rfl) ?_
      refine m_getr S hK fk_X12_7 (gr_10_1 G 0) hW (ci_10 (Nat.le_of_ble_eq_true rfl)) dX12_allOf_16 ?_
      refine lv_sipush hx hb dX12_allOf_19 ks_180 ?_
      refine lv_bipush hx hb dX12_allOf_22 kb_11 ?_
      refine lv_iload_n hx hb dX12_allOf_24 rfl (lv_at hl 3 rfl) ?_
      refine lv_imul hx hb dX12_allOf_25 ?_
      refine lv_iadd hx hb dX12_allOf_26 ?_
      refine lv_iload_n hx hb dX12_allOf_27 rfl (lv_at hl 1 rfl) ?_
      refine lv_iadd hx hb dX12_allOf_28 ?_
      obtain ⟨hb29, h⟩ := h
      refine m_ald S hK (ar_44 G) hW (ci_44 (Nat.le_of_ble_eq_true rfl)) hb29 dX12_allOf_29 ?_
      refine lv_iadd hx hb dX12_allOf_30 ?_
      refine lv_topi (fun x2_31 ex2_31 => ?_)
      replace h := h x2_31 ex2_31
      refine lv_istore_n (lv' := [(2, .int x2_31), (0, .ref (ad G 10 0)), (1, .int x1), (3, .int x3)]) hx hb dX12_allOf_31 rfl hl (by decide) rfl (fun ls hl => ?_)
      obtain ⟨x3_32, ex3_32⟩ : ∃ z : Int32, z = x3 + (1 : Int32) := ⟨_, rfl⟩
      replace h := h x3_32 ex3_32
      refine lv_iinc (v := x3_32) (lv' := [(3, .int x3_32), (2, .int x2_31), (0, .ref (ad G 10 0)), (1, .int x1)]) hx hb dX12_allOf_32 hl (k := 3) rfl (by rw [ex3_32, ki_1]) (by decide) rfl (fun ls hl => ?_)
      refine lv_goto (tgt := 4) hx hb dX12_allOf_35 (by decide) ?_
      exact kk4 _ h H locs ls hW hS (lv_sub hl [2, 3, 1, 0] rfl)
  unfold s_X12_allOf at h
  refine lv_iconst hx hb dX12_allOf_0 ki_0 ?_
  refine lv_istore_n (lv' := [(2, .int (0 : Int32)), (0, .ref (ad G 10 0)), (1, .int x1)]) hx hb dX12_allOf_1 rfl hl (by decide) rfl (fun ls hl => ?_)
  refine lv_iconst hx hb dX12_allOf_2 ki_0 ?_
  refine lv_istore_n (lv' := [(3, .int (0 : Int32)), (2, .int (0 : Int32)), (0, .ref (ad G 10 0)), (1, .int x1)]) hx hb dX12_allOf_3 rfl hl (by decide) rfl (fun ls hl => ?_)
  obtain ⟨n4, h⟩ := h
  exact w4 n4 _ h H locs ls hW hS (lv_sub hl [2, 3, 1, 0] rfl)
abbrev rm_X12_count : Room := { frames := 1, cells := 0, slots := 0, locals := 23 }
set_option maxHeartbeats 4000000 in
set_option maxRecDepth 100000 in
theorem c_X12_count (l : Launch) {G : Gn} {M : Mem} {x1 : Int32} {P : Int32 → Mem → Prop} : MQi l yX12_count cX12_count 4 (some .int) rm_X12_count [.ref (ad G 10 0), .int x1] G M (s_X12_count M x1 P) P := by
  refine m_enter (by decide +kernel) (Nat.le_of_ble_eq_true rfl) ?_
  intro p e s m below meth c ls H locs S hret hlocks hname hKX hbs hW hS hl h
  obtain ⟨AV, hAV⟩ : ∃ z : Array Value, z = ([.ref (ad G 10 0), .int x1] : List Value).toArray := ⟨_, rfl⟩
  rw [← hAV] at S ⊢
  replace S : CallFix p m c cX12_count 4 s AV lw_G "MilkDeskModel" := S
  have hK := hKX.1
  have hx := S.1
  have hb := S.2.1
  have hml := S.2.2.1
  have hown := S.2.2.2.1
  have hts := S.2.2.2.2
  replace hl : lv_has ls 4 [(0, .ref (ad G 10 0)), (1, .int x1)] := hl
  have w97 : ∀ (n : Nat) (a : Mem × Int32 × Int32), Lz (fun (K97 : Mem × Int32 × Int32 → Prop) (a : Mem × Int32 × Int32) => s_X12_count_97 P K97 a.1 a.2.1 a.2.2) n a → ∀ (H : Heap) (locs : List Loc) (ls : Array Slot), WPm G a.1 H → va_S (fun q => bs G ≤ q) s.heap H locs → lv_has ls 4 [(0, .ref (ad G 10 0)), (2, .int a.2.1), (3, .int a.2.2)] → W p l e rm_X12_count s m AV below meth c H locs 0 0 (MQ below (va_Qi P (WS G) (fun q => bs G ≤ q)) AV s 0 0 (fun q => bs G ≤ q)) (F0 m 97 ls []) := by
    refine Lz_walk ?_
    rintro K97 kk97 ⟨M, x2, x3⟩ h H locs ls hW hS hl
    replace h : s_X12_count_97 P K97 M x2 x3 := h
    replace hW : WPm G M H := hW
    replace hl : lv_has ls 4 [(0, .ref (ad G 10 0)), (2, .int x2), (3, .int x3)] := hl
    unfold s_X12_count_97 at h
    refine lv_iload_n hx hb dX12_count_97 rfl (lv_at hl 2 rfl) ?_
    refine lv_aload_n hx hb dX12_count_98 rfl (lv_at hl 0 rfl) ?_
    refine m_getr S hK fk_X12_7 (gr_10_1 G 0) hW (ci_10 (Nat.le_of_ble_eq_true rfl)) dX12_count_99 ?_
    refine lv_iconst hx hb dX12_count_102 ki_1 ?_
    refine m_aldk S hK (ar_44 G) hW (ci_44 (Nat.le_of_ble_eq_true rfl)) kn_1 (Nat.le_of_ble_eq_true rfl) dX12_count_103 ?_
    refine lv_icmp_ge (tgt := 125) hx hb dX12_count_104 (by decide) (fun c104 => ?_) (fun c104 => ?_)
    · replace h := h.1 c104
      refine lv_iload_n hx hb dX12_count_125 rfl (lv_at hl 1 rfl) ?_
      exact m_iret S hret hlocks hKX hW hbs hS rfl h dX12_count_126
    · replace h := h.2 c104
      refine lv_iload_n hx hb dX12_count_107 rfl (lv_at hl 1 rfl) ?_
      refine lv_aload_n hx hb dX12_count_108 rfl (lv_at hl 0 rfl) ?_
      refine m_getr S hK fk_X12_7 (gr_10_1 G 0) hW (ci_10 (Nat.le_of_ble_eq_true rfl)) dX12_count_109 ?_
      refine lv_bipush hx hb dX12_count_112 kb_70 ?_
      refine lv_iload_n hx hb dX12_count_114 rfl (lv_at hl 2 rfl) ?_
      refine lv_iadd hx hb dX12_count_115 ?_
      obtain ⟨hb116, h⟩ := h
      refine m_ald S hK (ar_44 G) hW (ci_44 (Nat.le_of_ble_eq_true rfl)) hb116 dX12_count_116 ?_
      refine lv_iadd hx hb dX12_count_117 ?_
      refine lv_topi (fun x2_118 ex2_118 => ?_)
      replace h := h x2_118 ex2_118
      refine lv_istore_n (lv' := [(2, .int x2_118), (0, .ref (ad G 10 0)), (3, .int x3)]) hx hb dX12_count_118 rfl hl (by decide) rfl (fun ls hl => ?_)
      obtain ⟨x3_119, ex3_119⟩ : ∃ z : Int32, z = x3 + (1 : Int32) := ⟨_, rfl⟩
      replace h := h x3_119 ex3_119
      refine lv_iinc (v := x3_119) (lv' := [(3, .int x3_119), (2, .int x2_118), (0, .ref (ad G 10 0))]) hx hb dX12_count_119 hl (k := 2) rfl (by rw [ex3_119, ki_1]) (by decide) rfl (fun ls hl => ?_)
      refine lv_goto (tgt := 97) hx hb dX12_count_122 (by decide) ?_
      exact kk97 _ h H locs ls hW hS (lv_sub hl [2, 1, 0] rfl)
  unfold s_X12_count at h
  refine lv_aload_n hx hb dX12_count_0 rfl (lv_at hl 0 rfl) ?_
  refine lv_iconst hx hb dX12_count_1 ki_0 ?_
  refine m_put S hK fk_X12_128 tyX12_ok nmX12 rfl pf_X12_0 (pv_10_0 G) hW hS (ci_10 (Nat.le_of_ble_eq_true rfl)) rfl rfl dX12_count_2 (fun Mm2 eMm2 H locs hW hS => ?_)
  replace h := h Mm2 eMm2
  refine lv_iconst hx hb dX12_count_5 ki_0 ?_
  refine lv_istore_n (lv' := [(2, .int (0 : Int32)), (0, .ref (ad G 10 0)), (1, .int x1)]) hx hb dX12_count_6 rfl hl (by decide) rfl (fun ls hl => ?_)
  refine lv_iload_n hx hb dX12_count_7 rfl (lv_at hl 2 rfl) ?_
  by_cases c8_0 : x1 = (0 : Int32)
  · replace h := h.1 c8_0
    rw [c8_0]
    refine lv_tableIn (off := 52) (tgt := 60) hx hb dX12_count_8 (by decide +kernel) (by decide +kernel) (by decide +kernel) (by decide) ?_
    refine lv_aload_n hx hb dX12_count_60 rfl (lv_at hl 1 rfl) ?_
    refine m_getr S hK fk_X12_7 (gr_10_1 G 0) hW (ci_10 (Nat.le_of_ble_eq_true rfl)) dX12_count_61 ?_
    refine lv_iconst hx hb dX12_count_64 ki_0 ?_
    refine m_aldk S hK (ar_44 G) hW (ci_44 (Nat.le_of_ble_eq_true rfl)) kn_0 (Nat.le_of_ble_eq_true rfl) dX12_count_65 ?_
    exact m_iret S hret hlocks hKX hW hbs hS rfl h dX12_count_66
  · replace h := h.2
    by_cases c8_1 : x1 = (1 : Int32)
    · replace h := h.1 c8_1
      rw [c8_1]
      refine lv_tableIn (off := 59) (tgt := 67) hx hb dX12_count_8 (by decide +kernel) (by decide +kernel) (by decide +kernel) (by decide) ?_
      refine lv_aload_n hx hb dX12_count_67 rfl (lv_at hl 1 rfl) ?_
      refine m_getr S hK fk_X12_7 (gr_10_1 G 0) hW (ci_10 (Nat.le_of_ble_eq_true rfl)) dX12_count_68 ?_
      refine lv_iconst hx hb dX12_count_71 ki_1 ?_
      refine m_aldk S hK (ar_44 G) hW (ci_44 (Nat.le_of_ble_eq_true rfl)) kn_1 (Nat.le_of_ble_eq_true rfl) dX12_count_72 ?_
      exact m_iret S hret hlocks hKX hW hbs hS rfl h dX12_count_73
    · replace h := h.2
      by_cases c8_2 : x1 = (2 : Int32)
      · replace h := h.1 c8_2
        rw [c8_2]
        refine lv_tableIn (off := 66) (tgt := 74) hx hb dX12_count_8 (by decide +kernel) (by decide +kernel) (by decide +kernel) (by decide) ?_
        refine lv_aload_n hx hb dX12_count_74 rfl (lv_at hl 1 rfl) ?_
        refine m_getr S hK fk_X12_7 (gr_10_1 G 0) hW (ci_10 (Nat.le_of_ble_eq_true rfl)) dX12_count_75 ?_
        refine lv_iconst hx hb dX12_count_78 ki_2 ?_
        refine m_aldk S hK (ar_44 G) hW (ci_44 (Nat.le_of_ble_eq_true rfl)) kn_2 (Nat.le_of_ble_eq_true rfl) dX12_count_79 ?_
        exact m_iret S hret hlocks hKX hW hbs hS rfl h dX12_count_80
      · replace h := h.2
        by_cases c8_3 : x1 = (3 : Int32)
        · replace h := h.1 c8_3
          rw [c8_3]
          refine lv_tableIn (off := 73) (tgt := 81) hx hb dX12_count_8 (by decide +kernel) (by decide +kernel) (by decide +kernel) (by decide) ?_
          refine lv_aload_n hx hb dX12_count_81 rfl (lv_at hl 1 rfl) ?_
          refine m_getr S hK fk_X12_7 (gr_10_1 G 0) hW (ci_10 (Nat.le_of_ble_eq_true rfl)) dX12_count_82 ?_
          refine lv_iconst hx hb dX12_count_85 ki_3 ?_
          refine m_aldk S hK (ar_44 G) hW (ci_44 (Nat.le_of_ble_eq_true rfl)) kn_3 (Nat.le_of_ble_eq_true rfl) dX12_count_86 ?_
          exact m_iret S hret hlocks hKX hW hbs hS rfl h dX12_count_87
        · replace h := h.2
          by_cases c8_4 : x1 = (4 : Int32)
          · replace h := h.1 c8_4
            rw [c8_4]
            refine lv_tableIn (off := 80) (tgt := 88) hx hb dX12_count_8 (by decide +kernel) (by decide +kernel) (by decide +kernel) (by decide) ?_
            refine lv_aload_n hx hb dX12_count_88 rfl (lv_at hl 1 rfl) ?_
            refine m_getr S hK fk_X12_7 (gr_10_1 G 0) hW (ci_10 (Nat.le_of_ble_eq_true rfl)) dX12_count_89 ?_
            refine lv_iconst hx hb dX12_count_92 ki_4 ?_
            refine m_aldk S hK (ar_44 G) hW (ci_44 (Nat.le_of_ble_eq_true rfl)) kn_4 (Nat.le_of_ble_eq_true rfl) dX12_count_93 ?_
            exact m_iret S hret hlocks hKX hW hbs hS rfl h dX12_count_94
          · replace h := h.2
            by_cases c8_5 : x1 = (5 : Int32)
            · replace h := h.1 c8_5
              rw [c8_5]
              refine lv_tableIn (off := 87) (tgt := 95) hx hb dX12_count_8 (by decide +kernel) (by decide +kernel) (by decide +kernel) (by decide) ?_
              refine lv_iconst hx hb dX12_count_95 ki_0 ?_
              refine lv_istore_n (lv' := [(3, .int (0 : Int32)), (2, .int (0 : Int32)), (0, .ref (ad G 10 0)), (1, .int x1)]) hx hb dX12_count_96 rfl hl (by decide) rfl (fun ls hl => ?_)
              obtain ⟨n97, h⟩ := h
              exact w97 n97 _ h H locs ls hW hS (lv_sub hl [2, 1, 0] rfl)
            · replace h := h.2
              by_cases c8_6 : x1 = (6 : Int32)
              · replace h := h.1 c8_6
                rw [c8_6]
                refine lv_tableIn (off := 119) (tgt := 127) hx hb dX12_count_8 (by decide +kernel) (by decide +kernel) (by decide +kernel) (by decide) ?_
                refine lv_aload_n hx hb dX12_count_127 rfl (lv_at hl 1 rfl) ?_
                refine lv_bipush hx hb dX12_count_128 kb_8 ?_
                refine m_ci0 (m_rV S hKX hW (m_szH hbs hS) (c_X12_allOf l ) h lk_X12_338 (m_recv hK hW (ci_10 (Nat.le_of_ble_eq_true rfl)) (rc_10 G) rfl) rfl hl.1 rfl ⟨Nat.le_of_ble_eq_true rfl, Nat.le_of_ble_eq_true rfl⟩ (Nat.le_of_ble_eq_true rfl) ⟨Nat.le_of_ble_eq_true rfl, Nat.le_of_ble_eq_true rfl⟩ dX12_count_130) hS rfl rfl (fun rr130 Mm130 H locs h hW hS => ?_)
                exact m_iret S hret hlocks hKX hW hbs hS rfl h dX12_count_133
              · replace h := h.2
                by_cases c8_7 : x1 = (7 : Int32)
                · replace h := h.1 c8_7
                  rw [c8_7]
                  refine lv_tableIn (off := 126) (tgt := 134) hx hb dX12_count_8 (by decide +kernel) (by decide +kernel) (by decide +kernel) (by decide) ?_
                  refine lv_aload_n hx hb dX12_count_134 rfl (lv_at hl 1 rfl) ?_
                  refine lv_iconst hx hb dX12_count_135 ki_3 ?_
                  refine m_ci0 (m_rV S hKX hW (m_szH hbs hS) (c_X12_allOf l ) h lk_X12_338 (m_recv hK hW (ci_10 (Nat.le_of_ble_eq_true rfl)) (rc_10 G) rfl) rfl hl.1 rfl ⟨Nat.le_of_ble_eq_true rfl, Nat.le_of_ble_eq_true rfl⟩ (Nat.le_of_ble_eq_true rfl) ⟨Nat.le_of_ble_eq_true rfl, Nat.le_of_ble_eq_true rfl⟩ dX12_count_136) hS rfl rfl (fun rr136 Mm136 H locs h hW hS => ?_)
                  exact m_iret S hret hlocks hKX hW hbs hS rfl h dX12_count_139
                · replace h := h.2
                  by_cases c8_8 : x1 = (8 : Int32)
                  · replace h := h.1 c8_8
                    rw [c8_8]
                    refine lv_tableIn (off := 132) (tgt := 140) hx hb dX12_count_8 (by decide +kernel) (by decide +kernel) (by decide +kernel) (by decide) ?_
                    refine lv_aload_n hx hb dX12_count_140 rfl (lv_at hl 1 rfl) ?_
                    refine m_getr S hK fk_X12_7 (gr_10_1 G 0) hW (ci_10 (Nat.le_of_ble_eq_true rfl)) dX12_count_141 ?_
                    refine lv_iconst hx hb dX12_count_144 ki_5 ?_
                    refine m_aldk S hK (ar_44 G) hW (ci_44 (Nat.le_of_ble_eq_true rfl)) kn_5 (Nat.le_of_ble_eq_true rfl) dX12_count_145 ?_
                    exact m_iret S hret hlocks hKX hW hbs hS rfl h dX12_count_146
                  · replace h := h.2
                    replace h := h c8_0 c8_1 c8_2 c8_3 c8_4 c8_5 c8_6 c8_7 c8_8
                    refine lv_tableOut (tgt := 147) hx hb dX12_count_8 (m_out 0 8 (fun z h1 h2 => ?_)) (by decide) ?_
                    · have h3 : z = 0 ∨ z = 1 ∨ z = 2 ∨ z = 3 ∨ z = 4 ∨ z = 5 ∨ z = 6 ∨ z = 7 ∨ z = 8 := by omega
                      rcases h3 with rfl | rfl | rfl | rfl | rfl | rfl | rfl | rfl | rfl
                      · exact lv_neT c8_0 (by decide +kernel)
                      · exact lv_neT c8_1 (by decide +kernel)
                      · exact lv_neT c8_2 (by decide +kernel)
                      · exact lv_neT c8_3 (by decide +kernel)
                      · exact lv_neT c8_4 (by decide +kernel)
                      · exact lv_neT c8_5 (by decide +kernel)
                      · exact lv_neT c8_6 (by decide +kernel)
                      · exact lv_neT c8_7 (by decide +kernel)
                      · exact lv_neT c8_8 (by decide +kernel)
                    · skip
                      refine lv_iconst hx hb dX12_count_147 ki_m1 ?_
                      exact m_iret S hret hlocks hKX hW hbs hS rfl h dX12_count_148
abbrev rm_X12_keep : Room := { frames := 1, cells := 0, slots := 0, locals := 22 }
set_option maxHeartbeats 4000000 in
set_option maxRecDepth 100000 in
theorem c_X12_keep (l : Launch) {G : Gn} {M : Mem} {x1 : Int32} {x2 : Int32} {x3 : Int32} {x4 : Int32} {x5 : Int32} {P : Int32 → Mem → Prop} : MQi l yX12_keep cX12_keep 6 (some .int) rm_X12_keep [.ref (ad G 10 0), .int x1, .int x2, .int x3, .int x4, .int x5] G M (s_X12_keep M x1 x2 x3 x4 x5 P) P := by
  refine m_enter (by decide +kernel) (Nat.le_of_ble_eq_true rfl) ?_
  intro p e s m below meth c ls H locs S hret hlocks hname hKX hbs hW hS hl h
  obtain ⟨AV, hAV⟩ : ∃ z : Array Value, z = ([.ref (ad G 10 0), .int x1, .int x2, .int x3, .int x4, .int x5] : List Value).toArray := ⟨_, rfl⟩
  rw [← hAV] at S ⊢
  replace S : CallFix p m c cX12_keep 6 s AV lw_G "MilkDeskModel" := S
  have hK := hKX.1
  have hx := S.1
  have hb := S.2.1
  have hml := S.2.2.1
  have hown := S.2.2.2.1
  have hts := S.2.2.2.2
  replace hl : lv_has ls 6 [(0, .ref (ad G 10 0)), (1, .int x1), (2, .int x2), (3, .int x3), (4, .int x4), (5, .int x5)] := hl
  have b64 : ∀ (M : Mem) (H : Heap) (locs : List Loc) (ls : Array Slot), WPm G M H → va_S (fun q => bs G ≤ q) s.heap H locs → lv_has ls 6 [(0, .ref (ad G 10 0)), (1, .int x1), (2, .int x2), (3, .int x3), (4, .int x4), (5, .int x5)] → s_X12_keep_64 x1 x2 x3 x4 x5 P M  → W p l e rm_X12_keep s m AV below meth c H locs 0 0 (MQ below (va_Qi P (WS G) (fun q => bs G ≤ q)) AV s 0 0 (fun q => bs G ≤ q)) (F0 m 64 ls []) := by
    intro M H locs ls hW hS hl h
    unfold s_X12_keep_64 at h
    refine lv_aload_n hx hb dX12_keep_64 rfl (lv_at hl 0 rfl) ?_
    refine m_getr S hK fk_X12_102 (gr_10_45 G 0) hW (ci_10 (Nat.le_of_ble_eq_true rfl)) dX12_keep_65 ?_
    refine lv_iload_n hx hb dX12_keep_68 rfl (lv_at hl 1 rfl) ?_
    refine lv_iload_n hx hb dX12_keep_69 rfl (lv_at hl 2 rfl) ?_
    obtain ⟨hb70, h⟩ := h
    refine m_ast S hK (ar_72 G) hW hS (ci_72 (Nat.le_of_ble_eq_true rfl)) hb70 dX12_keep_70 (fun Mm70 eMm70 H locs hW hS => ?_)
    replace h := h Mm70 eMm70
    refine lv_aload_n hx hb dX12_keep_71 rfl (lv_at hl 0 rfl) ?_
    refine m_getr S hK fk_X12_105 (gr_10_46 G 0) hW (ci_10 (Nat.le_of_ble_eq_true rfl)) dX12_keep_72 ?_
    refine lv_iload_n hx hb dX12_keep_75 rfl (lv_at hl 1 rfl) ?_
    refine lv_iload_n hx hb dX12_keep_76 rfl (lv_at hl 3 rfl) ?_
    obtain ⟨hb77, h⟩ := h
    refine m_ast S hK (ar_73 G) hW hS (ci_73 (Nat.le_of_ble_eq_true rfl)) hb77 dX12_keep_77 (fun Mm77 eMm77 H locs hW hS => ?_)
    replace h := h Mm77 eMm77
    refine lv_aload_n hx hb dX12_keep_78 rfl (lv_at hl 0 rfl) ?_
    refine m_getr S hK fk_X12_108 (gr_10_47 G 0) hW (ci_10 (Nat.le_of_ble_eq_true rfl)) dX12_keep_79 ?_
    refine lv_iload_n hx hb dX12_keep_82 rfl (lv_at hl 1 rfl) ?_
    refine lv_iload hx hb dX12_keep_83 (lv_at hl 4 rfl) ?_
    obtain ⟨hb85, h⟩ := h
    refine m_ast S hK (ar_74 G) hW hS (ci_74 (Nat.le_of_ble_eq_true rfl)) hb85 dX12_keep_85 (fun Mm85 eMm85 H locs hW hS => ?_)
    replace h := h Mm85 eMm85
    refine lv_aload_n hx hb dX12_keep_86 rfl (lv_at hl 0 rfl) ?_
    refine m_getr S hK fk_X12_111 (gr_10_48 G 0) hW (ci_10 (Nat.le_of_ble_eq_true rfl)) dX12_keep_87 ?_
    refine lv_iload_n hx hb dX12_keep_90 rfl (lv_at hl 1 rfl) ?_
    refine lv_iload hx hb dX12_keep_91 (lv_at hl 5 rfl) ?_
    obtain ⟨hb93, h⟩ := h
    refine m_ast S hK (ar_75 G) hW hS (ci_75 (Nat.le_of_ble_eq_true rfl)) hb93 dX12_keep_93 (fun Mm93 eMm93 H locs hW hS => ?_)
    replace h := h Mm93 eMm93
    refine lv_iconst hx hb dX12_keep_94 ki_0 ?_
    exact m_iret S hret hlocks hKX hW hbs hS rfl h dX12_keep_95
  unfold s_X12_keep at h
  refine lv_aload_n hx hb dX12_keep_0 rfl (lv_at hl 0 rfl) ?_
  refine lv_iconst hx hb dX12_keep_1 ki_0 ?_
  refine m_put S hK fk_X12_128 tyX12_ok nmX12 rfl pf_X12_0 (pv_10_0 G) hW hS (ci_10 (Nat.le_of_ble_eq_true rfl)) rfl rfl dX12_keep_2 (fun Mm2 eMm2 H locs hW hS => ?_)
  replace h := h Mm2 eMm2
  refine lv_iload_n hx hb dX12_keep_5 rfl (lv_at hl 1 rfl) ?_
  refine lv_iconst hx hb dX12_keep_6 ki_0 ?_
  refine lv_bipush hx hb dX12_keep_7 kb_7 ?_
  refine m_ci0 (m_rS S hKX hW (m_szH hbs hS) (c_X12_in l ) h lk_X12_131 rfl hl.1 rfl ⟨Nat.le_of_ble_eq_true rfl, Nat.le_of_ble_eq_true rfl⟩ (Nat.le_of_ble_eq_true rfl) ⟨Nat.le_of_ble_eq_true rfl, Nat.le_of_ble_eq_true rfl⟩ dX12_keep_9) hS rfl rfl (fun rr9 Mm9 H locs h hW hS => ?_)
  refine lv_if_eq (tgt := 62) hx hb dX12_keep_12 (by decide) (fun c12 => ?_) (fun c12 => ?_)
  · replace h := h.1 c12
    refine lv_iconst hx hb dX12_keep_62 ki_m1 ?_
    exact m_iret S hret hlocks hKX hW hbs hS rfl h dX12_keep_63
  · replace h := h.2 c12
    refine lv_iload_n hx hb dX12_keep_15 rfl (lv_at hl 2 rfl) ?_
    refine lv_iconst hx hb dX12_keep_16 ki_0 ?_
    refine lv_iconst hx hb dX12_keep_17 ki_1 ?_
    refine m_ci0 (m_rS S hKX hW (m_szH hbs hS) (c_X12_in l ) h lk_X12_131 rfl hl.1 rfl ⟨Nat.le_of_ble_eq_true rfl, Nat.le_of_ble_eq_true rfl⟩ (Nat.le_of_ble_eq_true rfl) ⟨Nat.le_of_ble_eq_true rfl, Nat.le_of_ble_eq_true rfl⟩ dX12_keep_18) hS rfl rfl (fun rr18 Mm18 H locs h hW hS => ?_)
    refine lv_if_eq (tgt := 62) hx hb dX12_keep_21 (by decide) (fun c21 => ?_) (fun c21 => ?_)
    · replace h := h.1 c21
      refine lv_iconst hx hb dX12_keep_62 ki_m1 ?_
      exact m_iret S hret hlocks hKX hW hbs hS rfl h dX12_keep_63
    · replace h := h.2 c21
      refine lv_iload_n hx hb dX12_keep_24 rfl (lv_at hl 2 rfl) ?_
      refine lv_iconst hx hb dX12_keep_25 ki_1 ?_
      refine lv_icmp_ne (tgt := 64) hx hb dX12_keep_26 (by decide) (fun c26 => ?_) (fun c26 => ?_)
      · replace h := h.1 c26
        exact b64 _ H locs ls hW hS (lv_sub hl [0, 1, 2, 3, 4, 5] rfl) h
      · replace h := h.2 c26
        refine lv_iload_n hx hb dX12_keep_29 rfl (lv_at hl 3 rfl) ?_
        refine lv_iconst hx hb dX12_keep_30 ki_0 ?_
        refine lv_bipush hx hb dX12_keep_31 kb_6 ?_
        refine m_ci0 (m_rS S hKX hW (m_szH hbs hS) (c_X12_in l ) h lk_X12_131 rfl hl.1 rfl ⟨Nat.le_of_ble_eq_true rfl, Nat.le_of_ble_eq_true rfl⟩ (Nat.le_of_ble_eq_true rfl) ⟨Nat.le_of_ble_eq_true rfl, Nat.le_of_ble_eq_true rfl⟩ dX12_keep_33) hS rfl rfl (fun rr33 Mm33 H locs h hW hS => ?_)
        refine lv_if_eq (tgt := 62) hx hb dX12_keep_36 (by decide) (fun c36 => ?_) (fun c36 => ?_)
        · replace h := h.1 c36
          refine lv_iconst hx hb dX12_keep_62 ki_m1 ?_
          exact m_iret S hret hlocks hKX hW hbs hS rfl h dX12_keep_63
        · replace h := h.2 c36
          refine lv_iload hx hb dX12_keep_39 (lv_at hl 4 rfl) ?_
          refine lv_iconst hx hb dX12_keep_41 ki_0 ?_
          refine lv_sipush hx hb dX12_keep_42 ks_9999 ?_
          refine m_ci0 (m_rS S hKX hW (m_szH hbs hS) (c_X12_in l ) h lk_X12_131 rfl hl.1 rfl ⟨Nat.le_of_ble_eq_true rfl, Nat.le_of_ble_eq_true rfl⟩ (Nat.le_of_ble_eq_true rfl) ⟨Nat.le_of_ble_eq_true rfl, Nat.le_of_ble_eq_true rfl⟩ dX12_keep_45) hS rfl rfl (fun rr45 Mm45 H locs h hW hS => ?_)
          refine lv_if_eq (tgt := 62) hx hb dX12_keep_48 (by decide) (fun c48 => ?_) (fun c48 => ?_)
          · replace h := h.1 c48
            refine lv_iconst hx hb dX12_keep_62 ki_m1 ?_
            exact m_iret S hret hlocks hKX hW hbs hS rfl h dX12_keep_63
          · replace h := h.2 c48
            refine lv_iload hx hb dX12_keep_51 (lv_at hl 5 rfl) ?_
            refine lv_iconst hx hb dX12_keep_53 ki_0 ?_
            refine lv_bipush hx hb dX12_keep_54 kb_11 ?_
            refine m_ci0 (m_rS S hKX hW (m_szH hbs hS) (c_X12_in l ) h lk_X12_131 rfl hl.1 rfl ⟨Nat.le_of_ble_eq_true rfl, Nat.le_of_ble_eq_true rfl⟩ (Nat.le_of_ble_eq_true rfl) ⟨Nat.le_of_ble_eq_true rfl, Nat.le_of_ble_eq_true rfl⟩ dX12_keep_56) hS rfl rfl (fun rr56 Mm56 H locs h hW hS => ?_)
            refine lv_if_ne (tgt := 64) hx hb dX12_keep_59 (by decide) (fun c59 => ?_) (fun c59 => ?_)
            · replace h := h.1 c59
              exact b64 _ H locs ls hW hS (lv_sub hl [0, 1, 2, 3, 4, 5] rfl) h
            · replace h := h.2 c59
              refine lv_iconst hx hb dX12_keep_62 ki_m1 ?_
              exact m_iret S hret hlocks hKX hW hbs hS rfl h dX12_keep_63
abbrev rm_X12_row : Room := { frames := 1, cells := 0, slots := 0, locals := 22 }
set_option maxHeartbeats 4000000 in
set_option maxRecDepth 100000 in
theorem c_X12_row (l : Launch) {G : Gn} {M : Mem} {x1 : Int32} {x2 : Int32} {x3 : Int32} {P : Int32 → Mem → Prop} : MQi l yX12_row cX12_row 5 (some .int) rm_X12_row [.ref (ad G 10 0), .int x1, .int x2, .int x3] G M (s_X12_row M x1 x2 x3 P) P := by
  refine m_enter (by decide +kernel) (Nat.le_of_ble_eq_true rfl) ?_
  intro p e s m below meth c ls H locs S hret hlocks hname hKX hbs hW hS hl h
  obtain ⟨AV, hAV⟩ : ∃ z : Array Value, z = ([.ref (ad G 10 0), .int x1, .int x2, .int x3] : List Value).toArray := ⟨_, rfl⟩
  rw [← hAV] at S ⊢
  replace S : CallFix p m c cX12_row 5 s AV lw_G "MilkDeskModel" := S
  have hK := hKX.1
  have hx := S.1
  have hb := S.2.1
  have hml := S.2.2.1
  have hown := S.2.2.2.1
  have hts := S.2.2.2.2
  replace hl : lv_has ls 5 [(0, .ref (ad G 10 0)), (1, .int x1), (2, .int x2), (3, .int x3)] := hl
  have w63 : ∀ (n : Nat) (a : Mem × Int32), Lz (fun (K63 : Mem × Int32 → Prop) (a : Mem × Int32) => s_X12_row_63 x1 P K63 a.1 a.2) n a → ∀ (H : Heap) (locs : List Loc) (ls : Array Slot), WPm G a.1 H → va_S (fun q => bs G ≤ q) s.heap H locs → lv_has ls 5 [(0, .ref (ad G 10 0)), (1, .int x1), (4, .int a.2)] → W p l e rm_X12_row s m AV below meth c H locs 0 0 (MQ below (va_Qi P (WS G) (fun q => bs G ≤ q)) AV s 0 0 (fun q => bs G ≤ q)) (F0 m 63 ls []) := by
    refine Lz_walk ?_
    rintro K63 kk63 ⟨M, x4⟩ h H locs ls hW hS hl
    replace h : s_X12_row_63 x1 P K63 M x4 := h
    replace hW : WPm G M H := hW
    replace hl : lv_has ls 5 [(0, .ref (ad G 10 0)), (1, .int x1), (4, .int x4)] := hl
    unfold s_X12_row_63 at h
    refine lv_iload hx hb dX12_row_63 (lv_at hl 2 rfl) ?_
    refine lv_bipush hx hb dX12_row_65 kb_80 ?_
    refine lv_icmp_ge (tgt := 89) hx hb dX12_row_67 (by decide) (fun c67 => ?_) (fun c67 => ?_)
    · replace h := h.1 c67
      refine lv_iconst hx hb dX12_row_89 ki_0 ?_
      exact m_iret S hret hlocks hKX hW hbs hS rfl h dX12_row_90
    · replace h := h.2 c67
      refine lv_aload_n hx hb dX12_row_70 rfl (lv_at hl 0 rfl) ?_
      refine m_getr S hK fk_X12_120 (gr_10_51 G 0) hW (ci_10 (Nat.le_of_ble_eq_true rfl)) dX12_row_71 ?_
      refine lv_bipush hx hb dX12_row_74 kb_80 ?_
      refine lv_iload_n hx hb dX12_row_76 rfl (lv_at hl 1 rfl) ?_
      refine lv_imul hx hb dX12_row_77 ?_
      refine lv_iload hx hb dX12_row_78 (lv_at hl 2 rfl) ?_
      refine lv_iadd hx hb dX12_row_80 ?_
      refine lv_lconst (v := (0 : Int64)) hx hb dX12_row_81 (by decide +kernel) ?_
      obtain ⟨hb82, h⟩ := h
      refine m_jast S hK (ar_78 G) hW hS (ci_78 (Nat.le_of_ble_eq_true rfl)) hb82 dX12_row_82 (fun Mm82 eMm82 H locs hW hS => ?_)
      replace h := h Mm82 eMm82
      obtain ⟨x4_83, ex4_83⟩ : ∃ z : Int32, z = x4 + (1 : Int32) := ⟨_, rfl⟩
      replace h := h x4_83 ex4_83
      refine lv_iinc (v := x4_83) (lv' := [(4, .int x4_83), (0, .ref (ad G 10 0)), (1, .int x1)]) hx hb dX12_row_83 hl (k := 2) rfl (by rw [ex4_83, ki_1]) (by decide) rfl (fun ls hl => ?_)
      refine lv_goto (tgt := 63) hx hb dX12_row_86 (by decide) ?_
      exact kk63 _ h H locs ls hW hS (lv_sub hl [1, 2, 0] rfl)
  unfold s_X12_row at h
  refine lv_aload_n hx hb dX12_row_0 rfl (lv_at hl 0 rfl) ?_
  refine lv_iconst hx hb dX12_row_1 ki_0 ?_
  refine m_put S hK fk_X12_128 tyX12_ok nmX12 rfl pf_X12_0 (pv_10_0 G) hW hS (ci_10 (Nat.le_of_ble_eq_true rfl)) rfl rfl dX12_row_2 (fun Mm2 eMm2 H locs hW hS => ?_)
  replace h := h Mm2 eMm2
  refine lv_iload_n hx hb dX12_row_5 rfl (lv_at hl 1 rfl) ?_
  refine lv_iconst hx hb dX12_row_6 ki_0 ?_
  refine lv_bipush hx hb dX12_row_7 kb_7 ?_
  refine m_ci0 (m_rS S hKX hW (m_szH hbs hS) (c_X12_in l ) h lk_X12_131 rfl hl.1 rfl ⟨Nat.le_of_ble_eq_true rfl, Nat.le_of_ble_eq_true rfl⟩ (Nat.le_of_ble_eq_true rfl) ⟨Nat.le_of_ble_eq_true rfl, Nat.le_of_ble_eq_true rfl⟩ dX12_row_9) hS rfl rfl (fun rr9 Mm9 H locs h hW hS => ?_)
  refine lv_if_eq (tgt := 30) hx hb dX12_row_12 (by decide) (fun c12 => ?_) (fun c12 => ?_)
  · replace h := h.1 c12
    refine lv_iconst hx hb dX12_row_30 ki_m1 ?_
    exact m_iret S hret hlocks hKX hW hbs hS rfl h dX12_row_31
  · replace h := h.2 c12
    refine lv_iload_n hx hb dX12_row_15 rfl (lv_at hl 2 rfl) ?_
    refine lv_iconst hx hb dX12_row_16 ki_0 ?_
    refine lv_iconst hx hb dX12_row_17 ki_2 ?_
    refine m_ci0 (m_rS S hKX hW (m_szH hbs hS) (c_X12_in l ) h lk_X12_131 rfl hl.1 rfl ⟨Nat.le_of_ble_eq_true rfl, Nat.le_of_ble_eq_true rfl⟩ (Nat.le_of_ble_eq_true rfl) ⟨Nat.le_of_ble_eq_true rfl, Nat.le_of_ble_eq_true rfl⟩ dX12_row_18) hS rfl rfl (fun rr18 Mm18 H locs h hW hS => ?_)
    refine lv_if_eq (tgt := 30) hx hb dX12_row_21 (by decide) (fun c21 => ?_) (fun c21 => ?_)
    · replace h := h.1 c21
      refine lv_iconst hx hb dX12_row_30 ki_m1 ?_
      exact m_iret S hret hlocks hKX hW hbs hS rfl h dX12_row_31
    · replace h := h.2 c21
      refine lv_iload_n hx hb dX12_row_24 rfl (lv_at hl 3 rfl) ?_
      refine lv_bipush hx hb dX12_row_25 kb_80 ?_
      refine lv_icmp_le (tgt := 32) hx hb dX12_row_27 (by decide) (fun c27 => ?_) (fun c27 => ?_)
      · replace h := h.1 c27
        refine lv_iload_n hx hb dX12_row_32 rfl (lv_at hl 3 rfl) ?_
        refine lv_if_ge (tgt := 39) hx hb dX12_row_33 (by decide) (fun c33 => ?_) (fun c33 => ?_)
        · replace h := h.1 c33
          refine lv_aload_n hx hb dX12_row_39 rfl (lv_at hl 0 rfl) ?_
          refine m_getr S hK fk_X12_102 (gr_10_45 G 0) hW (ci_10 (Nat.le_of_ble_eq_true rfl)) dX12_row_40 ?_
          refine lv_iload_n hx hb dX12_row_43 rfl (lv_at hl 1 rfl) ?_
          refine lv_iconst hx hb dX12_row_44 ki_2 ?_
          obtain ⟨hb45, h⟩ := h
          refine m_ast S hK (ar_72 G) hW hS (ci_72 (Nat.le_of_ble_eq_true rfl)) hb45 dX12_row_45 (fun Mm45 eMm45 H locs hW hS => ?_)
          replace h := h Mm45 eMm45
          refine lv_aload_n hx hb dX12_row_46 rfl (lv_at hl 0 rfl) ?_
          refine m_getr S hK fk_X12_114 (gr_10_49 G 0) hW (ci_10 (Nat.le_of_ble_eq_true rfl)) dX12_row_47 ?_
          refine lv_iload_n hx hb dX12_row_50 rfl (lv_at hl 1 rfl) ?_
          refine lv_iload_n hx hb dX12_row_51 rfl (lv_at hl 2 rfl) ?_
          obtain ⟨hb52, h⟩ := h
          refine m_ast S hK (ar_76 G) hW hS (ci_76 (Nat.le_of_ble_eq_true rfl)) hb52 dX12_row_52 (fun Mm52 eMm52 H locs hW hS => ?_)
          replace h := h Mm52 eMm52
          refine lv_aload_n hx hb dX12_row_53 rfl (lv_at hl 0 rfl) ?_
          refine m_getr S hK fk_X12_117 (gr_10_50 G 0) hW (ci_10 (Nat.le_of_ble_eq_true rfl)) dX12_row_54 ?_
          refine lv_iload_n hx hb dX12_row_57 rfl (lv_at hl 1 rfl) ?_
          refine lv_iload_n hx hb dX12_row_58 rfl (lv_at hl 3 rfl) ?_
          obtain ⟨hb59, h⟩ := h
          refine m_ast S hK (ar_77 G) hW hS (ci_77 (Nat.le_of_ble_eq_true rfl)) hb59 dX12_row_59 (fun Mm59 eMm59 H locs hW hS => ?_)
          replace h := h Mm59 eMm59
          refine lv_iconst hx hb dX12_row_60 ki_0 ?_
          refine lv_istore (lv' := [(4, .int (0 : Int32)), (0, .ref (ad G 10 0)), (1, .int x1), (2, .int x2), (3, .int x3)]) hx hb dX12_row_61 hl (by decide) rfl (fun ls hl => ?_)
          obtain ⟨n63, h⟩ := h
          exact w63 n63 _ h H locs ls hW hS (lv_sub hl [1, 2, 0] rfl)
        · replace h := h.2 c33
          refine lv_bipush hx hb dX12_row_36 kb_m14 ?_
          exact m_iret S hret hlocks hKX hW hbs hS rfl h dX12_row_38
      · replace h := h.2 c27
        refine lv_iconst hx hb dX12_row_30 ki_m1 ?_
        exact m_iret S hret hlocks hKX hW hbs hS rfl h dX12_row_31
abbrev rm_X12_wrongRow : Room := { frames := 1, cells := 0, slots := 0, locals := 22 }
set_option maxHeartbeats 4000000 in
set_option maxRecDepth 100000 in
theorem c_X12_wrongRow (l : Launch) {G : Gn} {M : Mem} {x1 : Int32} {P : Int32 → Mem → Prop} : MQi l yX12_wrongRow cX12_wrongRow 2 (some .int) rm_X12_wrongRow [.ref (ad G 10 0), .int x1] G M (s_X12_wrongRow M x1 P) P := by
  refine m_enter (by decide +kernel) (Nat.le_of_ble_eq_true rfl) ?_
  intro p e s m below meth c ls H locs S hret hlocks hname hKX hbs hW hS hl h
  obtain ⟨AV, hAV⟩ : ∃ z : Array Value, z = ([.ref (ad G 10 0), .int x1] : List Value).toArray := ⟨_, rfl⟩
  rw [← hAV] at S ⊢
  replace S : CallFix p m c cX12_wrongRow 2 s AV lw_G "MilkDeskModel" := S
  have hK := hKX.1
  have hx := S.1
  have hb := S.2.1
  have hml := S.2.2.1
  have hown := S.2.2.2.1
  have hts := S.2.2.2.2
  replace hl : lv_has ls 2 [(0, .ref (ad G 10 0)), (1, .int x1)] := hl
  unfold s_X12_wrongRow at h
  refine lv_iload_n hx hb dX12_wrongRow_0 rfl (lv_at hl 1 rfl) ?_
  refine lv_iconst hx hb dX12_wrongRow_1 ki_0 ?_
  refine lv_bipush hx hb dX12_wrongRow_2 kb_7 ?_
  refine m_ci0 (m_rS S hKX hW (m_szH hbs hS) (c_X12_in l ) h lk_X12_131 rfl hl.1 rfl ⟨Nat.le_of_ble_eq_true rfl, Nat.le_of_ble_eq_true rfl⟩ (Nat.le_of_ble_eq_true rfl) ⟨Nat.le_of_ble_eq_true rfl, Nat.le_of_ble_eq_true rfl⟩ dX12_wrongRow_4) hS rfl rfl (fun rr4 Mm4 H locs h hW hS => ?_)
  refine lv_if_ne (tgt := 14) hx hb dX12_wrongRow_7 (by decide) (fun c7 => ?_) (fun c7 => ?_)
  · replace h := h.1 c7
    refine lv_aload_n hx hb dX12_wrongRow_14 rfl (lv_at hl 0 rfl) ?_
    refine m_getr S hK fk_X12_102 (gr_10_45 G 0) hW (ci_10 (Nat.le_of_ble_eq_true rfl)) dX12_wrongRow_15 ?_
    refine lv_iload_n hx hb dX12_wrongRow_18 rfl (lv_at hl 1 rfl) ?_
    obtain ⟨hb19, h⟩ := h
    refine m_ald S hK (ar_72 G) hW (ci_72 (Nat.le_of_ble_eq_true rfl)) hb19 dX12_wrongRow_19 ?_
    refine lv_if_ne (tgt := 28) hx hb dX12_wrongRow_20 (by decide) (fun c20 => ?_) (fun c20 => ?_)
    · replace h := h.1 c20
      refine lv_aload_n hx hb dX12_wrongRow_28 rfl (lv_at hl 0 rfl) ?_
      refine m_getr S hK fk_X12_102 (gr_10_45 G 0) hW (ci_10 (Nat.le_of_ble_eq_true rfl)) dX12_wrongRow_29 ?_
      refine lv_iload_n hx hb dX12_wrongRow_32 rfl (lv_at hl 1 rfl) ?_
      obtain ⟨hb33, h⟩ := h
      refine m_ald S hK (ar_72 G) hW (ci_72 (Nat.le_of_ble_eq_true rfl)) hb33 dX12_wrongRow_33 ?_
      refine lv_iconst hx hb dX12_wrongRow_34 ki_2 ?_
      refine lv_icmp_eq (tgt := 43) hx hb dX12_wrongRow_35 (by decide) (fun c35 => ?_) (fun c35 => ?_)
      · replace h := h.1 c35
        refine lv_iconst hx hb dX12_wrongRow_43 ki_0 ?_
        exact m_iret S hret hlocks hKX hW hbs hS rfl h dX12_wrongRow_44
      · replace h := h.2 c35
        refine lv_bipush hx hb dX12_wrongRow_38 kb_m12 ?_
        refine lv_goto (tgt := 44) hx hb dX12_wrongRow_40 (by decide) ?_
        exact m_iret S hret hlocks hKX hW hbs hS rfl h dX12_wrongRow_44
    · replace h := h.2 c20
      refine lv_bipush hx hb dX12_wrongRow_23 kb_m11 ?_
      refine lv_goto (tgt := 44) hx hb dX12_wrongRow_25 (by decide) ?_
      exact m_iret S hret hlocks hKX hW hbs hS rfl h dX12_wrongRow_44
  · replace h := h.2 c7
    refine lv_iconst hx hb dX12_wrongRow_10 ki_m1 ?_
    refine lv_goto (tgt := 44) hx hb dX12_wrongRow_11 (by decide) ?_
    exact m_iret S hret hlocks hKX hW hbs hS rfl h dX12_wrongRow_44
abbrev rm_X12_narrowed : Room := { frames := 0, cells := 0, slots := 0, locals := 0 }
set_option maxHeartbeats 4000000 in
set_option maxRecDepth 100000 in
theorem c_X12_narrowed (l : Launch) {G : Gn} {M : Mem} {x0 : Int32} {x1 : Int32} {P : Int64 → Mem → Prop} : MQl l yX12_narrowed cX12_narrowed 2 (some .long) rm_X12_narrowed [.int x0, .int x1] G M (s_X12_narrowed M x0 x1 P) P := by
  refine m_enter (by decide +kernel) (Nat.le_of_ble_eq_true rfl) ?_
  intro p e s m below meth c ls H locs S hret hlocks hname hKX hbs hW hS hl h
  obtain ⟨AV, hAV⟩ : ∃ z : Array Value, z = ([.int x0, .int x1] : List Value).toArray := ⟨_, rfl⟩
  rw [← hAV] at S ⊢
  replace S : CallFix p m c cX12_narrowed 2 s AV lw_G "MilkDeskModel" := S
  have hK := hKX.1
  have hx := S.1
  have hb := S.2.1
  have hml := S.2.2.1
  have hown := S.2.2.2.1
  have hts := S.2.2.2.2
  replace hl : lv_has ls 2 [(0, .int x0), (1, .int x1)] := hl
  unfold s_X12_narrowed at h
  refine lv_iload_n hx hb dX12_narrowed_0 rfl (lv_at hl 1 rfl) ?_
  refine lv_if_ne (tgt := 10) hx hb dX12_narrowed_1 (by decide) (fun c1 => ?_) (fun c1 => ?_)
  · replace h := h.1 c1
    refine lv_iload_n hx hb dX12_narrowed_10 rfl (lv_at hl 1 rfl) ?_
    refine lv_iconst hx hb dX12_narrowed_11 ki_1 ?_
    refine lv_icmp_ne (tgt := 21) hx hb dX12_narrowed_12 (by decide) (fun c12 => ?_) (fun c12 => ?_)
    · replace h := h.1 c12
      refine lv_iload_n hx hb dX12_narrowed_21 rfl (lv_at hl 0 rfl) ?_
      refine lv_i2l hx hb dX12_narrowed_22 rfl ?_
      exact m_lret S hret hlocks hKX hW hbs hS h dX12_narrowed_23
    · replace h := h.2 c12
      refine lv_iload_n hx hb dX12_narrowed_15 rfl (lv_at hl 0 rfl) ?_
      refine lv_i2s hx hb dX12_narrowed_16 rfl ?_
      refine lv_i2l hx hb dX12_narrowed_17 rfl ?_
      refine lv_goto (tgt := 23) hx hb dX12_narrowed_18 (by decide) ?_
      exact m_lret S hret hlocks hKX hW hbs hS h dX12_narrowed_23
  · replace h := h.2 c1
    refine lv_iload_n hx hb dX12_narrowed_4 rfl (lv_at hl 0 rfl) ?_
    refine lv_i2b hx hb dX12_narrowed_5 rfl ?_
    refine lv_i2l hx hb dX12_narrowed_6 rfl ?_
    refine lv_goto (tgt := 23) hx hb dX12_narrowed_7 (by decide) ?_
    exact m_lret S hret hlocks hKX hW hbs hS h dX12_narrowed_23
abbrev rm_X12_put : Room := { frames := 2, cells := 0, slots := 0, locals := 43 }
set_option maxHeartbeats 4000000 in
set_option maxRecDepth 100000 in
theorem c_X12_put (l : Launch) {G : Gn} {M : Mem} {x1 : Int32} {x2 : Int32} {x3 : Int32} {P : Int32 → Mem → Prop} : MQi l yX12_put cX12_put 5 (some .int) rm_X12_put [.ref (ad G 10 0), .int x1, .int x2, .int x3] G M (s_X12_put M x1 x2 x3 P) P := by
  refine m_enter (by decide +kernel) (Nat.le_of_ble_eq_true rfl) ?_
  intro p e s m below meth c ls H locs S hret hlocks hname hKX hbs hW hS hl h
  obtain ⟨AV, hAV⟩ : ∃ z : Array Value, z = ([.ref (ad G 10 0), .int x1, .int x2, .int x3] : List Value).toArray := ⟨_, rfl⟩
  rw [← hAV] at S ⊢
  replace S : CallFix p m c cX12_put 5 s AV lw_G "MilkDeskModel" := S
  have hK := hKX.1
  have hx := S.1
  have hb := S.2.1
  have hml := S.2.2.1
  have hown := S.2.2.2.1
  have hts := S.2.2.2.2
  replace hl : lv_has ls 5 [(0, .ref (ad G 10 0)), (1, .int x1), (2, .int x2), (3, .int x3)] := hl
  unfold s_X12_put at h
  refine lv_aload_n hx hb dX12_put_0 rfl (lv_at hl 0 rfl) ?_
  refine lv_iconst hx hb dX12_put_1 ki_0 ?_
  refine m_put S hK fk_X12_128 tyX12_ok nmX12 rfl pf_X12_0 (pv_10_0 G) hW hS (ci_10 (Nat.le_of_ble_eq_true rfl)) rfl rfl dX12_put_2 (fun Mm2 eMm2 H locs hW hS => ?_)
  replace h := h Mm2 eMm2
  refine lv_aload_n hx hb dX12_put_5 rfl (lv_at hl 0 rfl) ?_
  refine lv_iload_n hx hb dX12_put_6 rfl (lv_at hl 1 rfl) ?_
  refine m_ci0 (m_rV S hKX hW (m_szH hbs hS) (c_X12_wrongRow l ) h lk_X12_341 (m_recv hK hW (ci_10 (Nat.le_of_ble_eq_true rfl)) (rc_10 G) rfl) rfl hl.1 rfl ⟨Nat.le_of_ble_eq_true rfl, Nat.le_of_ble_eq_true rfl⟩ (Nat.le_of_ble_eq_true rfl) ⟨Nat.le_of_ble_eq_true rfl, Nat.le_of_ble_eq_true rfl⟩ dX12_put_7) hS rfl rfl (fun rr7 Mm7 H locs h hW hS => ?_)
  refine lv_istore (lv' := [(4, .int rr7), (0, .ref (ad G 10 0)), (1, .int x1), (2, .int x2), (3, .int x3)]) hx hb dX12_put_10 hl (by decide) rfl (fun ls hl => ?_)
  refine lv_iload hx hb dX12_put_12 (lv_at hl 0 rfl) ?_
  refine lv_if_ge (tgt := 20) hx hb dX12_put_14 (by decide) (fun c14 => ?_) (fun c14 => ?_)
  · replace h := h.1 c14
    refine lv_iload_n hx hb dX12_put_20 rfl (lv_at hl 3 rfl) ?_
    refine lv_iconst hx hb dX12_put_21 ki_0 ?_
    refine lv_aload_n hx hb dX12_put_22 rfl (lv_at hl 1 rfl) ?_
    refine m_getr S hK fk_X12_117 (gr_10_50 G 0) hW (ci_10 (Nat.le_of_ble_eq_true rfl)) dX12_put_23 ?_
    refine lv_iload_n hx hb dX12_put_26 rfl (lv_at hl 2 rfl) ?_
    obtain ⟨hb27, h⟩ := h
    refine m_ald S hK (ar_77 G) hW (ci_77 (Nat.le_of_ble_eq_true rfl)) hb27 dX12_put_27 ?_
    refine lv_iconst hx hb dX12_put_28 ki_1 ?_
    refine lv_isub hx hb dX12_put_29 ?_
    refine m_ci0 (m_rS S hKX hW (m_szH hbs hS) (c_X12_in l ) h lk_X12_131 rfl hl.1 rfl ⟨Nat.le_of_ble_eq_true rfl, Nat.le_of_ble_eq_true rfl⟩ (Nat.le_of_ble_eq_true rfl) ⟨Nat.le_of_ble_eq_true rfl, Nat.le_of_ble_eq_true rfl⟩ dX12_put_30) hS rfl rfl (fun rr30 Mm30 H locs h hW hS => ?_)
    refine lv_if_ne (tgt := 39) hx hb dX12_put_33 (by decide) (fun c33 => ?_) (fun c33 => ?_)
    · replace h := h.1 c33
      refine lv_aload_n hx hb dX12_put_39 rfl (lv_at hl 1 rfl) ?_
      refine m_getr S hK fk_X12_120 (gr_10_51 G 0) hW (ci_10 (Nat.le_of_ble_eq_true rfl)) dX12_put_40 ?_
      refine lv_bipush hx hb dX12_put_43 kb_80 ?_
      refine lv_iload_n hx hb dX12_put_45 rfl (lv_at hl 2 rfl) ?_
      refine lv_imul hx hb dX12_put_46 ?_
      refine lv_iload_n hx hb dX12_put_47 rfl (lv_at hl 3 rfl) ?_
      refine lv_iadd hx hb dX12_put_48 ?_
      refine lv_iload_n hx hb dX12_put_49 rfl (lv_at hl 4 rfl) ?_
      refine lv_aload_n hx hb dX12_put_50 rfl (lv_at hl 1 rfl) ?_
      refine m_getr S hK fk_X12_114 (gr_10_49 G 0) hW (ci_10 (Nat.le_of_ble_eq_true rfl)) dX12_put_51 ?_
      refine lv_iload_n hx hb dX12_put_54 rfl (lv_at hl 2 rfl) ?_
      obtain ⟨hb55, h⟩ := h
      refine m_ald S hK (ar_76 G) hW (ci_76 (Nat.le_of_ble_eq_true rfl)) hb55 dX12_put_55 ?_
      refine m_cl0 (m_rS S hKX hW (m_szH hbs hS) (c_X12_narrowed l ) h lk_X12_344 rfl hl.1 rfl ⟨Nat.le_of_ble_eq_true rfl, Nat.le_of_ble_eq_true rfl⟩ (Nat.le_of_ble_eq_true rfl) ⟨Nat.le_of_ble_eq_true rfl, Nat.le_of_ble_eq_true rfl⟩ dX12_put_56) hS rfl rfl (fun rr56 Mm56 H locs h hW hS => ?_)
      obtain ⟨hb59, h⟩ := h
      refine m_jast S hK (ar_78 G) hW hS (ci_78 (Nat.le_of_ble_eq_true rfl)) hb59 dX12_put_59 (fun Mm59 eMm59 H locs hW hS => ?_)
      replace h := h Mm59 eMm59
      refine lv_iconst hx hb dX12_put_60 ki_0 ?_
      exact m_iret S hret hlocks hKX hW hbs hS rfl h dX12_put_61
    · replace h := h.2 c33
      refine lv_bipush hx hb dX12_put_36 kb_m13 ?_
      exact m_iret S hret hlocks hKX hW hbs hS rfl h dX12_put_38
  · replace h := h.2 c14
    refine lv_iload hx hb dX12_put_17 (lv_at hl 0 rfl) ?_
    exact m_iret S hret hlocks hKX hW hbs hS rfl h dX12_put_19
abbrev rm_X12_element : Room := { frames := 2, cells := 0, slots := 0, locals := 43 }
set_option maxHeartbeats 4000000 in
set_option maxRecDepth 100000 in
theorem c_X12_element (l : Launch) {G : Gn} {M : Mem} {x1 : Int32} {x2 : Int32} {P : Int64 → Mem → Prop} : MQl l yX12_element cX12_element 4 (some .long) rm_X12_element [.ref (ad G 10 0), .int x1, .int x2] G M (s_X12_element M x1 x2 P) P := by
  refine m_enter (by decide +kernel) (Nat.le_of_ble_eq_true rfl) ?_
  intro p e s m below meth c ls H locs S hret hlocks hname hKX hbs hW hS hl h
  obtain ⟨AV, hAV⟩ : ∃ z : Array Value, z = ([.ref (ad G 10 0), .int x1, .int x2] : List Value).toArray := ⟨_, rfl⟩
  rw [← hAV] at S ⊢
  replace S : CallFix p m c cX12_element 4 s AV lw_G "MilkDeskModel" := S
  have hK := hKX.1
  have hx := S.1
  have hb := S.2.1
  have hml := S.2.2.1
  have hown := S.2.2.2.1
  have hts := S.2.2.2.2
  replace hl : lv_has ls 4 [(0, .ref (ad G 10 0)), (1, .int x1), (2, .int x2)] := hl
  have b41 : ∀ (M : Mem) (y0 : Int32) (H : Heap) (locs : List Loc) (ls : Array Slot), WPm G M H → va_S (fun q => bs G ≤ q) s.heap H locs → lv_has ls 4 [(0, .ref (ad G 10 0)), (1, .int x1), (2, .int x2)] → s_X12_element_41 x1 x2 P M y0 → W p l e rm_X12_element s m AV below meth c H locs 0 0 (MQ below (va_Ql P (WS G) (fun q => bs G ≤ q)) AV s 0 0 (fun q => bs G ≤ q)) (F0 m 41 ls [.int y0, .ref (ad G 10 0)]) := by
    intro M y0 H locs ls hW hS hl h
    unfold s_X12_element_41 at h
    refine m_put S hK fk_X12_128 tyX12_ok nmX12 rfl pf_X12_0 (pv_10_0 G) hW hS (ci_10 (Nat.le_of_ble_eq_true rfl)) rfl rfl dX12_element_41 (fun Mm41 eMm41 H locs hW hS => ?_)
    replace h := h Mm41 eMm41
    refine lv_aload_n hx hb dX12_element_44 rfl (lv_at hl 0 rfl) ?_
    refine m_geti S hK fk_X12_128 (gi_10_0 G) hW (ci_10 (Nat.le_of_ble_eq_true rfl)) dX12_element_45 ?_
    refine lv_if_le (tgt := 55) hx hb dX12_element_48 (by decide) (fun c48 => ?_) (fun c48 => ?_)
    · replace h := h.1 c48
      refine lv_aload_n hx hb dX12_element_55 rfl (lv_at hl 0 rfl) ?_
      refine m_getr S hK fk_X12_120 (gr_10_51 G 0) hW (ci_10 (Nat.le_of_ble_eq_true rfl)) dX12_element_56 ?_
      refine lv_bipush hx hb dX12_element_59 kb_80 ?_
      refine lv_iload_n hx hb dX12_element_61 rfl (lv_at hl 1 rfl) ?_
      refine lv_imul hx hb dX12_element_62 ?_
      refine lv_iload_n hx hb dX12_element_63 rfl (lv_at hl 2 rfl) ?_
      refine lv_iadd hx hb dX12_element_64 ?_
      obtain ⟨hb65, h⟩ := h
      refine m_jald S hK (ar_78 G) hW (ci_78 (Nat.le_of_ble_eq_true rfl)) hb65 dX12_element_65 ?_
      exact m_lret S hret hlocks hKX hW hbs hS h dX12_element_66
    · replace h := h.2 c48
      refine lv_lconst (v := (0 : Int64)) hx hb dX12_element_51 (by decide +kernel) ?_
      refine lv_goto (tgt := 66) hx hb dX12_element_52 (by decide) ?_
      exact m_lret S hret hlocks hKX hW hbs hS h dX12_element_66
  unfold s_X12_element at h
  refine lv_aload_n hx hb dX12_element_0 rfl (lv_at hl 0 rfl) ?_
  refine lv_iload_n hx hb dX12_element_1 rfl (lv_at hl 1 rfl) ?_
  refine m_ci0 (m_rV S hKX hW (m_szH hbs hS) (c_X12_wrongRow l ) h lk_X12_341 (m_recv hK hW (ci_10 (Nat.le_of_ble_eq_true rfl)) (rc_10 G) rfl) rfl hl.1 rfl ⟨Nat.le_of_ble_eq_true rfl, Nat.le_of_ble_eq_true rfl⟩ (Nat.le_of_ble_eq_true rfl) ⟨Nat.le_of_ble_eq_true rfl, Nat.le_of_ble_eq_true rfl⟩ dX12_element_2) hS rfl rfl (fun rr2 Mm2 H locs h hW hS => ?_)
  refine lv_istore_n (lv' := [(3, .int rr2), (0, .ref (ad G 10 0)), (1, .int x1), (2, .int x2)]) hx hb dX12_element_5 rfl hl (by decide) rfl (fun ls hl => ?_)
  refine lv_aload_n hx hb dX12_element_6 rfl (lv_at hl 1 rfl) ?_
  refine lv_iload_n hx hb dX12_element_7 rfl (lv_at hl 0 rfl) ?_
  refine lv_iconst hx hb dX12_element_8 ki_m1 ?_
  refine lv_icmp_ne (tgt := 16) hx hb dX12_element_9 (by decide) (fun c9 => ?_) (fun c9 => ?_)
  · replace h := h.1 c9
    refine lv_iload_n hx hb dX12_element_16 rfl (lv_at hl 0 rfl) ?_
    refine lv_if_lt (tgt := 36) hx hb dX12_element_17 (by decide) (fun c17 => ?_) (fun c17 => ?_)
    · replace h := h.1 c17
      refine lv_iconst hx hb dX12_element_36 ki_2 ?_
      refine lv_goto (tgt := 41) hx hb dX12_element_37 (by decide) ?_
      exact b41 _ _ H locs ls hW hS (lv_sub hl [1, 2, 3] rfl) h
    · replace h := h.2 c17
      refine lv_iload_n hx hb dX12_element_20 rfl (lv_at hl 3 rfl) ?_
      refine lv_iconst hx hb dX12_element_21 ki_0 ?_
      refine lv_aload_n hx hb dX12_element_22 rfl (lv_at hl 1 rfl) ?_
      refine m_getr S hK fk_X12_117 (gr_10_50 G 0) hW (ci_10 (Nat.le_of_ble_eq_true rfl)) dX12_element_23 ?_
      refine lv_iload_n hx hb dX12_element_26 rfl (lv_at hl 2 rfl) ?_
      obtain ⟨hb27, h⟩ := h
      refine m_ald S hK (ar_77 G) hW (ci_77 (Nat.le_of_ble_eq_true rfl)) hb27 dX12_element_27 ?_
      refine lv_iconst hx hb dX12_element_28 ki_1 ?_
      refine lv_isub hx hb dX12_element_29 ?_
      refine m_ci0 (m_rS S hKX hW (m_szH hbs hS) (c_X12_in l ) h lk_X12_131 rfl hl.1 rfl ⟨Nat.le_of_ble_eq_true rfl, Nat.le_of_ble_eq_true rfl⟩ (Nat.le_of_ble_eq_true rfl) ⟨Nat.le_of_ble_eq_true rfl, Nat.le_of_ble_eq_true rfl⟩ dX12_element_30) hS rfl rfl (fun rr30 Mm30 H locs h hW hS => ?_)
      refine lv_if_ne (tgt := 40) hx hb dX12_element_33 (by decide) (fun c33 => ?_) (fun c33 => ?_)
      · replace h := h.1 c33
        refine lv_iconst hx hb dX12_element_40 ki_0 ?_
        exact b41 _ _ H locs ls hW hS (lv_sub hl [1, 2, 3] rfl) h
      · replace h := h.2 c33
        refine lv_iconst hx hb dX12_element_36 ki_2 ?_
        refine lv_goto (tgt := 41) hx hb dX12_element_37 (by decide) ?_
        exact b41 _ _ H locs ls hW hS (lv_sub hl [1, 2, 3] rfl) h
  · replace h := h.2 c9
    refine lv_iconst hx hb dX12_element_12 ki_1 ?_
    refine lv_goto (tgt := 41) hx hb dX12_element_13 (by decide) ?_
    exact b41 _ _ H locs ls hW hS (lv_sub hl [1, 2, 3] rfl) h
abbrev rm_X12_copy : Room := { frames := 1, cells := 0, slots := 0, locals := 22 }
set_option maxHeartbeats 4000000 in
set_option maxRecDepth 100000 in
theorem c_X12_copy (l : Launch) {G : Gn} {M : Mem} {x1 : Int32} {x2 : Int32} {x3 : Int32} {x4 : Int32} {x5 : Int32} {P : Int32 → Mem → Prop} : MQi l yX12_copy cX12_copy 7 (some .int) rm_X12_copy [.ref (ad G 10 0), .int x1, .int x2, .int x3, .int x4, .int x5] G M (s_X12_copy M x1 x2 x3 x4 x5 P) P := by
  refine m_enter (by decide +kernel) (Nat.le_of_ble_eq_true rfl) ?_
  intro p e s m below meth c ls H locs S hret hlocks hname hKX hbs hW hS hl h
  obtain ⟨AV, hAV⟩ : ∃ z : Array Value, z = ([.ref (ad G 10 0), .int x1, .int x2, .int x3, .int x4, .int x5] : List Value).toArray := ⟨_, rfl⟩
  rw [← hAV] at S ⊢
  replace S : CallFix p m c cX12_copy 7 s AV lw_G "MilkDeskModel" := S
  have hK := hKX.1
  have hx := S.1
  have hb := S.2.1
  have hml := S.2.2.1
  have hown := S.2.2.2.1
  have hts := S.2.2.2.2
  replace hl : lv_has ls 7 [(0, .ref (ad G 10 0)), (1, .int x1), (2, .int x2), (3, .int x3), (4, .int x4), (5, .int x5)] := hl
  have w170 : ∀ (n : Nat) (a : Mem × Int32), Lz (fun (K170 : Mem × Int32 → Prop) (a : Mem × Int32) => s_X12_copy_170 x3 x4 x5 P K170 a.1 a.2) n a → ∀ (H : Heap) (locs : List Loc) (ls : Array Slot), WPm G a.1 H → va_S (fun q => bs G ≤ q) s.heap H locs → lv_has ls 7 [(0, .ref (ad G 10 0)), (3, .int x3), (4, .int x4), (5, .int x5), (6, .int a.2)] → W p l e rm_X12_copy s m AV below meth c H locs 0 0 (MQ below (va_Qi P (WS G) (fun q => bs G ≤ q)) AV s 0 0 (fun q => bs G ≤ q)) (F0 m 170 ls []) := by
    refine Lz_walk ?_
    rintro K170 kk170 ⟨M, x6⟩ h H locs ls hW hS hl
    replace h : s_X12_copy_170 x3 x4 x5 P K170 M x6 := h
    replace hW : WPm G M H := hW
    replace hl : lv_has ls 7 [(0, .ref (ad G 10 0)), (3, .int x3), (4, .int x4), (5, .int x5), (6, .int x6)] := hl
    unfold s_X12_copy_170 at h
    refine lv_iload hx hb dX12_copy_170 (lv_at hl 4 rfl) ?_
    refine lv_iload hx hb dX12_copy_172 (lv_at hl 3 rfl) ?_
    refine lv_icmp_ge (tgt := 205) hx hb dX12_copy_174 (by decide) (fun c174 => ?_) (fun c174 => ?_)
    · replace h := h.1 c174
      refine lv_iload hx hb dX12_copy_205 (lv_at hl 3 rfl) ?_
      exact m_iret S hret hlocks hKX hW hbs hS rfl h dX12_copy_207
    · replace h := h.2 c174
      refine lv_aload_n hx hb dX12_copy_177 rfl (lv_at hl 0 rfl) ?_
      refine m_getr S hK fk_X12_120 (gr_10_51 G 0) hW (ci_10 (Nat.le_of_ble_eq_true rfl)) dX12_copy_178 ?_
      refine lv_bipush hx hb dX12_copy_181 kb_80 ?_
      refine lv_iload_n hx hb dX12_copy_183 rfl (lv_at hl 1 rfl) ?_
      refine lv_imul hx hb dX12_copy_184 ?_
      refine lv_iload hx hb dX12_copy_185 (lv_at hl 2 rfl) ?_
      refine lv_iadd hx hb dX12_copy_187 ?_
      refine lv_iload hx hb dX12_copy_188 (lv_at hl 4 rfl) ?_
      refine lv_iadd hx hb dX12_copy_190 ?_
      refine lv_aload_n hx hb dX12_copy_191 rfl (lv_at hl 0 rfl) ?_
      refine m_getr S hK fk_X12_124 (gr_10_52 G 0) hW (ci_10 (Nat.le_of_ble_eq_true rfl)) dX12_copy_192 ?_
      refine lv_iload hx hb dX12_copy_195 (lv_at hl 4 rfl) ?_
      obtain ⟨hb197, h⟩ := h
      refine m_jald S hK (ar_79 G) hW (ci_79 (Nat.le_of_ble_eq_true rfl)) hb197 dX12_copy_197 ?_
      obtain ⟨hb198, h⟩ := h
      refine m_jast S hK (ar_78 G) hW hS (ci_78 (Nat.le_of_ble_eq_true rfl)) hb198 dX12_copy_198 (fun Mm198 eMm198 H locs hW hS => ?_)
      replace h := h Mm198 eMm198
      obtain ⟨x6_199, ex6_199⟩ : ∃ z : Int32, z = x6 + (1 : Int32) := ⟨_, rfl⟩
      replace h := h x6_199 ex6_199
      refine lv_iinc (v := x6_199) (lv' := [(6, .int x6_199), (0, .ref (ad G 10 0)), (3, .int x3), (4, .int x4), (5, .int x5)]) hx hb dX12_copy_199 hl (k := 4) rfl (by rw [ex6_199, ki_1]) (by decide) rfl (fun ls hl => ?_)
      refine lv_goto (tgt := 170) hx hb dX12_copy_202 (by decide) ?_
      exact kk170 _ h H locs ls hW hS (lv_sub hl [1, 2, 3, 4, 0] rfl)
  have w133 : ∀ (n : Nat) (a : Mem × Int32), Lz (fun (K133 : Mem × Int32 → Prop) (a : Mem × Int32) => s_X12_copy_133 x1 x2 x3 x4 x5 P K133 a.1 a.2) n a → ∀ (H : Heap) (locs : List Loc) (ls : Array Slot), WPm G a.1 H → va_S (fun q => bs G ≤ q) s.heap H locs → lv_has ls 7 [(0, .ref (ad G 10 0)), (1, .int x1), (2, .int x2), (3, .int x3), (4, .int x4), (5, .int x5), (6, .int a.2)] → W p l e rm_X12_copy s m AV below meth c H locs 0 0 (MQ below (va_Qi P (WS G) (fun q => bs G ≤ q)) AV s 0 0 (fun q => bs G ≤ q)) (F0 m 133 ls []) := by
    refine Lz_walk ?_
    rintro K133 kk133 ⟨M, x6⟩ h H locs ls hW hS hl
    replace h : s_X12_copy_133 x1 x2 x3 x4 x5 P K133 M x6 := h
    replace hW : WPm G M H := hW
    replace hl : lv_has ls 7 [(0, .ref (ad G 10 0)), (1, .int x1), (2, .int x2), (3, .int x3), (4, .int x4), (5, .int x5), (6, .int x6)] := hl
    unfold s_X12_copy_133 at h
    refine lv_iload hx hb dX12_copy_133 (lv_at hl 6 rfl) ?_
    refine lv_iload hx hb dX12_copy_135 (lv_at hl 5 rfl) ?_
    refine lv_icmp_ge (tgt := 167) hx hb dX12_copy_137 (by decide) (fun c137 => ?_) (fun c137 => ?_)
    · replace h := h.1 c137
      refine lv_iconst hx hb dX12_copy_167 ki_0 ?_
      refine lv_istore (lv' := [(6, .int (0 : Int32)), (0, .ref (ad G 10 0)), (1, .int x1), (2, .int x2), (3, .int x3), (4, .int x4), (5, .int x5)]) hx hb dX12_copy_168 hl (by decide) rfl (fun ls hl => ?_)
      obtain ⟨n170, h⟩ := h
      exact w170 n170 _ h H locs ls hW hS (lv_sub hl [1, 4, 5, 6, 0] rfl)
    · replace h := h.2 c137
      refine lv_aload_n hx hb dX12_copy_140 rfl (lv_at hl 0 rfl) ?_
      refine m_getr S hK fk_X12_124 (gr_10_52 G 0) hW (ci_10 (Nat.le_of_ble_eq_true rfl)) dX12_copy_141 ?_
      refine lv_iload hx hb dX12_copy_144 (lv_at hl 6 rfl) ?_
      refine lv_aload_n hx hb dX12_copy_146 rfl (lv_at hl 0 rfl) ?_
      refine m_getr S hK fk_X12_120 (gr_10_51 G 0) hW (ci_10 (Nat.le_of_ble_eq_true rfl)) dX12_copy_147 ?_
      refine lv_bipush hx hb dX12_copy_150 kb_80 ?_
      refine lv_iload_n hx hb dX12_copy_152 rfl (lv_at hl 1 rfl) ?_
      refine lv_imul hx hb dX12_copy_153 ?_
      refine lv_iload_n hx hb dX12_copy_154 rfl (lv_at hl 2 rfl) ?_
      refine lv_iadd hx hb dX12_copy_155 ?_
      refine lv_iload hx hb dX12_copy_156 (lv_at hl 6 rfl) ?_
      refine lv_iadd hx hb dX12_copy_158 ?_
      obtain ⟨hb159, h⟩ := h
      refine m_jald S hK (ar_78 G) hW (ci_78 (Nat.le_of_ble_eq_true rfl)) hb159 dX12_copy_159 ?_
      obtain ⟨hb160, h⟩ := h
      refine m_jast S hK (ar_79 G) hW hS (ci_79 (Nat.le_of_ble_eq_true rfl)) hb160 dX12_copy_160 (fun Mm160 eMm160 H locs hW hS => ?_)
      replace h := h Mm160 eMm160
      obtain ⟨x6_161, ex6_161⟩ : ∃ z : Int32, z = x6 + (1 : Int32) := ⟨_, rfl⟩
      replace h := h x6_161 ex6_161
      refine lv_iinc (v := x6_161) (lv' := [(6, .int x6_161), (0, .ref (ad G 10 0)), (1, .int x1), (2, .int x2), (3, .int x3), (4, .int x4), (5, .int x5)]) hx hb dX12_copy_161 hl (k := 6) rfl (by rw [ex6_161, ki_1]) (by decide) rfl (fun ls hl => ?_)
      refine lv_goto (tgt := 133) hx hb dX12_copy_164 (by decide) ?_
      exact kk133 _ h H locs ls hW hS (lv_sub hl [1, 2, 3, 4, 5, 6, 0] rfl)
  unfold s_X12_copy at h
  refine lv_aload_n hx hb dX12_copy_0 rfl (lv_at hl 0 rfl) ?_
  refine lv_iconst hx hb dX12_copy_1 ki_0 ?_
  refine m_put S hK fk_X12_128 tyX12_ok nmX12 rfl pf_X12_0 (pv_10_0 G) hW hS (ci_10 (Nat.le_of_ble_eq_true rfl)) rfl rfl dX12_copy_2 (fun Mm2 eMm2 H locs hW hS => ?_)
  replace h := h Mm2 eMm2
  refine lv_iload_n hx hb dX12_copy_5 rfl (lv_at hl 1 rfl) ?_
  refine lv_iconst hx hb dX12_copy_6 ki_0 ?_
  refine lv_bipush hx hb dX12_copy_7 kb_7 ?_
  refine m_ci0 (m_rS S hKX hW (m_szH hbs hS) (c_X12_in l ) h lk_X12_131 rfl hl.1 rfl ⟨Nat.le_of_ble_eq_true rfl, Nat.le_of_ble_eq_true rfl⟩ (Nat.le_of_ble_eq_true rfl) ⟨Nat.le_of_ble_eq_true rfl, Nat.le_of_ble_eq_true rfl⟩ dX12_copy_9) hS rfl rfl (fun rr9 Mm9 H locs h hW hS => ?_)
  refine lv_if_eq (tgt := 25) hx hb dX12_copy_12 (by decide) (fun c12 => ?_) (fun c12 => ?_)
  · replace h := h.1 c12
    refine lv_iconst hx hb dX12_copy_25 ki_m1 ?_
    exact m_iret S hret hlocks hKX hW hbs hS rfl h dX12_copy_26
  · replace h := h.2 c12
    refine lv_iload_n hx hb dX12_copy_15 rfl (lv_at hl 3 rfl) ?_
    refine lv_iconst hx hb dX12_copy_16 ki_0 ?_
    refine lv_bipush hx hb dX12_copy_17 kb_7 ?_
    refine m_ci0 (m_rS S hKX hW (m_szH hbs hS) (c_X12_in l ) h lk_X12_131 rfl hl.1 rfl ⟨Nat.le_of_ble_eq_true rfl, Nat.le_of_ble_eq_true rfl⟩ (Nat.le_of_ble_eq_true rfl) ⟨Nat.le_of_ble_eq_true rfl, Nat.le_of_ble_eq_true rfl⟩ dX12_copy_19) hS rfl rfl (fun rr19 Mm19 H locs h hW hS => ?_)
    refine lv_if_ne (tgt := 27) hx hb dX12_copy_22 (by decide) (fun c22 => ?_) (fun c22 => ?_)
    · replace h := h.1 c22
      refine lv_aload_n hx hb dX12_copy_27 rfl (lv_at hl 0 rfl) ?_
      refine m_getr S hK fk_X12_102 (gr_10_45 G 0) hW (ci_10 (Nat.le_of_ble_eq_true rfl)) dX12_copy_28 ?_
      refine lv_iload_n hx hb dX12_copy_31 rfl (lv_at hl 1 rfl) ?_
      obtain ⟨hb32, h⟩ := h
      refine m_ald S hK (ar_72 G) hW (ci_72 (Nat.le_of_ble_eq_true rfl)) hb32 dX12_copy_32 ?_
      refine lv_if_eq (tgt := 45) hx hb dX12_copy_33 (by decide) (fun c33 => ?_) (fun c33 => ?_)
      · replace h := h.1 c33
        refine lv_bipush hx hb dX12_copy_45 kb_m11 ?_
        exact m_iret S hret hlocks hKX hW hbs hS rfl h dX12_copy_47
      · replace h := h.2 c33
        refine lv_aload_n hx hb dX12_copy_36 rfl (lv_at hl 0 rfl) ?_
        refine m_getr S hK fk_X12_102 (gr_10_45 G 0) hW (ci_10 (Nat.le_of_ble_eq_true rfl)) dX12_copy_37 ?_
        refine lv_iload_n hx hb dX12_copy_40 rfl (lv_at hl 3 rfl) ?_
        obtain ⟨hb41, h⟩ := h
        refine m_ald S hK (ar_72 G) hW (ci_72 (Nat.le_of_ble_eq_true rfl)) hb41 dX12_copy_41 ?_
        refine lv_if_ne (tgt := 48) hx hb dX12_copy_42 (by decide) (fun c42 => ?_) (fun c42 => ?_)
        · replace h := h.1 c42
          refine lv_aload_n hx hb dX12_copy_48 rfl (lv_at hl 0 rfl) ?_
          refine m_getr S hK fk_X12_102 (gr_10_45 G 0) hW (ci_10 (Nat.le_of_ble_eq_true rfl)) dX12_copy_49 ?_
          refine lv_iload_n hx hb dX12_copy_52 rfl (lv_at hl 1 rfl) ?_
          obtain ⟨hb53, h⟩ := h
          refine m_ald S hK (ar_72 G) hW (ci_72 (Nat.le_of_ble_eq_true rfl)) hb53 dX12_copy_53 ?_
          refine lv_iconst hx hb dX12_copy_54 ki_2 ?_
          refine lv_icmp_ne (tgt := 83) hx hb dX12_copy_55 (by decide) (fun c55 => ?_) (fun c55 => ?_)
          · replace h := h.1 c55
            refine lv_bipush hx hb dX12_copy_83 kb_m12 ?_
            exact m_iret S hret hlocks hKX hW hbs hS rfl h dX12_copy_85
          · replace h := h.2 c55
            refine lv_aload_n hx hb dX12_copy_58 rfl (lv_at hl 0 rfl) ?_
            refine m_getr S hK fk_X12_102 (gr_10_45 G 0) hW (ci_10 (Nat.le_of_ble_eq_true rfl)) dX12_copy_59 ?_
            refine lv_iload_n hx hb dX12_copy_62 rfl (lv_at hl 3 rfl) ?_
            obtain ⟨hb63, h⟩ := h
            refine m_ald S hK (ar_72 G) hW (ci_72 (Nat.le_of_ble_eq_true rfl)) hb63 dX12_copy_63 ?_
            refine lv_iconst hx hb dX12_copy_64 ki_2 ?_
            refine lv_icmp_ne (tgt := 83) hx hb dX12_copy_65 (by decide) (fun c65 => ?_) (fun c65 => ?_)
            · replace h := h.1 c65
              refine lv_bipush hx hb dX12_copy_83 kb_m12 ?_
              exact m_iret S hret hlocks hKX hW hbs hS rfl h dX12_copy_85
            · replace h := h.2 c65
              refine lv_aload_n hx hb dX12_copy_68 rfl (lv_at hl 0 rfl) ?_
              refine m_getr S hK fk_X12_114 (gr_10_49 G 0) hW (ci_10 (Nat.le_of_ble_eq_true rfl)) dX12_copy_69 ?_
              refine lv_iload_n hx hb dX12_copy_72 rfl (lv_at hl 1 rfl) ?_
              obtain ⟨hb73, h⟩ := h
              refine m_ald S hK (ar_76 G) hW (ci_76 (Nat.le_of_ble_eq_true rfl)) hb73 dX12_copy_73 ?_
              refine lv_aload_n hx hb dX12_copy_74 rfl (lv_at hl 0 rfl) ?_
              refine m_getr S hK fk_X12_114 (gr_10_49 G 0) hW (ci_10 (Nat.le_of_ble_eq_true rfl)) dX12_copy_75 ?_
              refine lv_iload_n hx hb dX12_copy_78 rfl (lv_at hl 3 rfl) ?_
              obtain ⟨hb79, h⟩ := h
              refine m_ald S hK (ar_76 G) hW (ci_76 (Nat.le_of_ble_eq_true rfl)) hb79 dX12_copy_79 ?_
              refine lv_icmp_eq (tgt := 86) hx hb dX12_copy_80 (by decide) (fun c80 => ?_) (fun c80 => ?_)
              · replace h := h.1 c80
                refine lv_iload hx hb dX12_copy_86 (lv_at hl 5 rfl) ?_
                refine lv_if_lt (tgt := 127) hx hb dX12_copy_88 (by decide) (fun c88 => ?_) (fun c88 => ?_)
                · replace h := h.1 c88
                  refine lv_bipush hx hb dX12_copy_127 kb_m13 ?_
                  exact m_iret S hret hlocks hKX hW hbs hS rfl h dX12_copy_129
                · replace h := h.2 c88
                  refine lv_iload_n hx hb dX12_copy_91 rfl (lv_at hl 2 rfl) ?_
                  refine lv_if_lt (tgt := 127) hx hb dX12_copy_92 (by decide) (fun c92 => ?_) (fun c92 => ?_)
                  · replace h := h.1 c92
                    refine lv_bipush hx hb dX12_copy_127 kb_m13 ?_
                    exact m_iret S hret hlocks hKX hW hbs hS rfl h dX12_copy_129
                  · replace h := h.2 c92
                    refine lv_iload hx hb dX12_copy_95 (lv_at hl 4 rfl) ?_
                    refine lv_if_lt (tgt := 127) hx hb dX12_copy_97 (by decide) (fun c97 => ?_) (fun c97 => ?_)
                    · replace h := h.1 c97
                      refine lv_bipush hx hb dX12_copy_127 kb_m13 ?_
                      exact m_iret S hret hlocks hKX hW hbs hS rfl h dX12_copy_129
                    · replace h := h.2 c97
                      refine lv_iload_n hx hb dX12_copy_100 rfl (lv_at hl 2 rfl) ?_
                      refine lv_aload_n hx hb dX12_copy_101 rfl (lv_at hl 0 rfl) ?_
                      refine m_getr S hK fk_X12_117 (gr_10_50 G 0) hW (ci_10 (Nat.le_of_ble_eq_true rfl)) dX12_copy_102 ?_
                      refine lv_iload_n hx hb dX12_copy_105 rfl (lv_at hl 1 rfl) ?_
                      obtain ⟨hb106, h⟩ := h
                      refine m_ald S hK (ar_77 G) hW (ci_77 (Nat.le_of_ble_eq_true rfl)) hb106 dX12_copy_106 ?_
                      refine lv_iload hx hb dX12_copy_107 (lv_at hl 5 rfl) ?_
                      refine lv_isub hx hb dX12_copy_109 ?_
                      refine lv_icmp_gt (tgt := 127) hx hb dX12_copy_110 (by decide) (fun c110 => ?_) (fun c110 => ?_)
                      · replace h := h.1 c110
                        refine lv_bipush hx hb dX12_copy_127 kb_m13 ?_
                        exact m_iret S hret hlocks hKX hW hbs hS rfl h dX12_copy_129
                      · replace h := h.2 c110
                        refine lv_iload hx hb dX12_copy_113 (lv_at hl 4 rfl) ?_
                        refine lv_aload_n hx hb dX12_copy_115 rfl (lv_at hl 0 rfl) ?_
                        refine m_getr S hK fk_X12_117 (gr_10_50 G 0) hW (ci_10 (Nat.le_of_ble_eq_true rfl)) dX12_copy_116 ?_
                        refine lv_iload_n hx hb dX12_copy_119 rfl (lv_at hl 3 rfl) ?_
                        obtain ⟨hb120, h⟩ := h
                        refine m_ald S hK (ar_77 G) hW (ci_77 (Nat.le_of_ble_eq_true rfl)) hb120 dX12_copy_120 ?_
                        refine lv_iload hx hb dX12_copy_121 (lv_at hl 5 rfl) ?_
                        refine lv_isub hx hb dX12_copy_123 ?_
                        refine lv_icmp_le (tgt := 130) hx hb dX12_copy_124 (by decide) (fun c124 => ?_) (fun c124 => ?_)
                        · replace h := h.1 c124
                          refine lv_iconst hx hb dX12_copy_130 ki_0 ?_
                          refine lv_istore (lv' := [(6, .int (0 : Int32)), (0, .ref (ad G 10 0)), (1, .int x1), (2, .int x2), (3, .int x3), (4, .int x4), (5, .int x5)]) hx hb dX12_copy_131 hl (by decide) rfl (fun ls hl => ?_)
                          obtain ⟨n133, h⟩ := h
                          exact w133 n133 _ h H locs ls hW hS (lv_sub hl [1, 2, 3, 4, 5, 6, 0] rfl)
                        · replace h := h.2 c124
                          refine lv_bipush hx hb dX12_copy_127 kb_m13 ?_
                          exact m_iret S hret hlocks hKX hW hbs hS rfl h dX12_copy_129
              · replace h := h.2 c80
                refine lv_bipush hx hb dX12_copy_83 kb_m12 ?_
                exact m_iret S hret hlocks hKX hW hbs hS rfl h dX12_copy_85
        · replace h := h.2 c42
          refine lv_bipush hx hb dX12_copy_45 kb_m11 ?_
          exact m_iret S hret hlocks hKX hW hbs hS rfl h dX12_copy_47
    · replace h := h.2 c22
      refine lv_iconst hx hb dX12_copy_25 ki_m1 ?_
      exact m_iret S hret hlocks hKX hW hbs hS rfl h dX12_copy_26
abbrev rm_X12_wrongShelf : Room := { frames := 1, cells := 0, slots := 0, locals := 22 }
set_option maxHeartbeats 4000000 in
set_option maxRecDepth 100000 in
theorem c_X12_wrongShelf (l : Launch) {G : Gn} {M : Mem} {x1 : Int32} {P : Int32 → Mem → Prop} : MQi l yX12_wrongShelf cX12_wrongShelf 2 (some .int) rm_X12_wrongShelf [.ref (ad G 10 0), .int x1] G M (s_X12_wrongShelf M x1 P) P := by
  refine m_enter (by decide +kernel) (Nat.le_of_ble_eq_true rfl) ?_
  intro p e s m below meth c ls H locs S hret hlocks hname hKX hbs hW hS hl h
  obtain ⟨AV, hAV⟩ : ∃ z : Array Value, z = ([.ref (ad G 10 0), .int x1] : List Value).toArray := ⟨_, rfl⟩
  rw [← hAV] at S ⊢
  replace S : CallFix p m c cX12_wrongShelf 2 s AV lw_G "MilkDeskModel" := S
  have hK := hKX.1
  have hx := S.1
  have hb := S.2.1
  have hml := S.2.2.1
  have hown := S.2.2.2.1
  have hts := S.2.2.2.2
  replace hl : lv_has ls 2 [(0, .ref (ad G 10 0)), (1, .int x1)] := hl
  unfold s_X12_wrongShelf at h
  refine lv_iload_n hx hb dX12_wrongShelf_0 rfl (lv_at hl 1 rfl) ?_
  refine lv_iconst hx hb dX12_wrongShelf_1 ki_0 ?_
  refine lv_bipush hx hb dX12_wrongShelf_2 kb_7 ?_
  refine m_ci0 (m_rS S hKX hW (m_szH hbs hS) (c_X12_in l ) h lk_X12_131 rfl hl.1 rfl ⟨Nat.le_of_ble_eq_true rfl, Nat.le_of_ble_eq_true rfl⟩ (Nat.le_of_ble_eq_true rfl) ⟨Nat.le_of_ble_eq_true rfl, Nat.le_of_ble_eq_true rfl⟩ dX12_wrongShelf_4) hS rfl rfl (fun rr4 Mm4 H locs h hW hS => ?_)
  refine lv_if_ne (tgt := 14) hx hb dX12_wrongShelf_7 (by decide) (fun c7 => ?_) (fun c7 => ?_)
  · replace h := h.1 c7
    refine lv_aload_n hx hb dX12_wrongShelf_14 rfl (lv_at hl 0 rfl) ?_
    refine m_getr S hK fk_X12_102 (gr_10_45 G 0) hW (ci_10 (Nat.le_of_ble_eq_true rfl)) dX12_wrongShelf_15 ?_
    refine lv_iload_n hx hb dX12_wrongShelf_18 rfl (lv_at hl 1 rfl) ?_
    obtain ⟨hb19, h⟩ := h
    refine m_ald S hK (ar_72 G) hW (ci_72 (Nat.le_of_ble_eq_true rfl)) hb19 dX12_wrongShelf_19 ?_
    refine lv_if_ne (tgt := 28) hx hb dX12_wrongShelf_20 (by decide) (fun c20 => ?_) (fun c20 => ?_)
    · replace h := h.1 c20
      refine lv_aload_n hx hb dX12_wrongShelf_28 rfl (lv_at hl 0 rfl) ?_
      refine m_getr S hK fk_X12_102 (gr_10_45 G 0) hW (ci_10 (Nat.le_of_ble_eq_true rfl)) dX12_wrongShelf_29 ?_
      refine lv_iload_n hx hb dX12_wrongShelf_32 rfl (lv_at hl 1 rfl) ?_
      obtain ⟨hb33, h⟩ := h
      refine m_ald S hK (ar_72 G) hW (ci_72 (Nat.le_of_ble_eq_true rfl)) hb33 dX12_wrongShelf_33 ?_
      refine lv_iconst hx hb dX12_wrongShelf_34 ki_2 ?_
      refine lv_icmp_ne (tgt := 43) hx hb dX12_wrongShelf_35 (by decide) (fun c35 => ?_) (fun c35 => ?_)
      · replace h := h.1 c35
        refine lv_iconst hx hb dX12_wrongShelf_43 ki_0 ?_
        exact m_iret S hret hlocks hKX hW hbs hS rfl h dX12_wrongShelf_44
      · replace h := h.2 c35
        refine lv_bipush hx hb dX12_wrongShelf_38 kb_m12 ?_
        refine lv_goto (tgt := 44) hx hb dX12_wrongShelf_40 (by decide) ?_
        exact m_iret S hret hlocks hKX hW hbs hS rfl h dX12_wrongShelf_44
    · replace h := h.2 c20
      refine lv_bipush hx hb dX12_wrongShelf_23 kb_m11 ?_
      refine lv_goto (tgt := 44) hx hb dX12_wrongShelf_25 (by decide) ?_
      exact m_iret S hret hlocks hKX hW hbs hS rfl h dX12_wrongShelf_44
  · replace h := h.2 c7
    refine lv_iconst hx hb dX12_wrongShelf_10 ki_m1 ?_
    refine lv_goto (tgt := 44) hx hb dX12_wrongShelf_11 (by decide) ?_
    exact m_iret S hret hlocks hKX hW hbs hS rfl h dX12_wrongShelf_44
abbrev rm_X12_crate : Room := { frames := 2, cells := 0, slots := 0, locals := 44 }
set_option maxHeartbeats 4000000 in
set_option maxRecDepth 100000 in
theorem c_X12_crate (l : Launch) {G : Gn} {M : Mem} {x1 : Int32} {x2 : Int32} {x3 : Int32} {P : Int32 → Mem → Prop} : MQi l yX12_crate cX12_crate 6 (some .int) rm_X12_crate [.ref (ad G 10 0), .int x1, .int x2, .int x3] G M (s_X12_crate M x1 x2 x3 P) P := by
  refine m_enter (by decide +kernel) (Nat.le_of_ble_eq_true rfl) ?_
  intro p e s m below meth c ls H locs S hret hlocks hname hKX hbs hW hS hl h
  obtain ⟨AV, hAV⟩ : ∃ z : Array Value, z = ([.ref (ad G 10 0), .int x1, .int x2, .int x3] : List Value).toArray := ⟨_, rfl⟩
  rw [← hAV] at S ⊢
  replace S : CallFix p m c cX12_crate 6 s AV lw_G "MilkDeskModel" := S
  have hK := hKX.1
  have hx := S.1
  have hb := S.2.1
  have hml := S.2.2.1
  have hown := S.2.2.2.1
  have hts := S.2.2.2.2
  replace hl : lv_has ls 6 [(0, .ref (ad G 10 0)), (1, .int x1), (2, .int x2), (3, .int x3)] := hl
  unfold s_X12_crate at h
  refine lv_aload_n hx hb dX12_crate_0 rfl (lv_at hl 0 rfl) ?_
  refine lv_iconst hx hb dX12_crate_1 ki_0 ?_
  refine m_put S hK fk_X12_128 tyX12_ok nmX12 rfl pf_X12_0 (pv_10_0 G) hW hS (ci_10 (Nat.le_of_ble_eq_true rfl)) rfl rfl dX12_crate_2 (fun Mm2 eMm2 H locs hW hS => ?_)
  replace h := h Mm2 eMm2
  refine lv_iload_n hx hb dX12_crate_5 rfl (lv_at hl 1 rfl) ?_
  refine lv_iconst hx hb dX12_crate_6 ki_0 ?_
  refine lv_bipush hx hb dX12_crate_7 kb_7 ?_
  refine m_ci0 (m_rS S hKX hW (m_szH hbs hS) (c_X12_in l ) h lk_X12_131 rfl hl.1 rfl ⟨Nat.le_of_ble_eq_true rfl, Nat.le_of_ble_eq_true rfl⟩ (Nat.le_of_ble_eq_true rfl) ⟨Nat.le_of_ble_eq_true rfl, Nat.le_of_ble_eq_true rfl⟩ dX12_crate_9) hS rfl rfl (fun rr9 Mm9 H locs h hW hS => ?_)
  refine lv_if_eq (tgt := 35) hx hb dX12_crate_12 (by decide) (fun c12 => ?_) (fun c12 => ?_)
  · replace h := h.1 c12
    refine lv_iconst hx hb dX12_crate_35 ki_m1 ?_
    exact m_iret S hret hlocks hKX hW hbs hS rfl h dX12_crate_36
  · replace h := h.2 c12
    refine lv_iload_n hx hb dX12_crate_15 rfl (lv_at hl 2 rfl) ?_
    refine lv_iconst hx hb dX12_crate_16 ki_0 ?_
    refine lv_iconst hx hb dX12_crate_17 ki_1 ?_
    refine m_ci0 (m_rS S hKX hW (m_szH hbs hS) (c_X12_in l ) h lk_X12_131 rfl hl.1 rfl ⟨Nat.le_of_ble_eq_true rfl, Nat.le_of_ble_eq_true rfl⟩ (Nat.le_of_ble_eq_true rfl) ⟨Nat.le_of_ble_eq_true rfl, Nat.le_of_ble_eq_true rfl⟩ dX12_crate_18) hS rfl rfl (fun rr18 Mm18 H locs h hW hS => ?_)
    refine lv_if_eq (tgt := 35) hx hb dX12_crate_21 (by decide) (fun c21 => ?_) (fun c21 => ?_)
    · replace h := h.1 c21
      refine lv_iconst hx hb dX12_crate_35 ki_m1 ?_
      exact m_iret S hret hlocks hKX hW hbs hS rfl h dX12_crate_36
    · replace h := h.2 c21
      refine lv_iload_n hx hb dX12_crate_24 rfl (lv_at hl 3 rfl) ?_
      refine lv_iconst hx hb dX12_crate_25 ki_0 ?_
      refine lv_sipush hx hb dX12_crate_26 ks_999 ?_
      refine m_ci0 (m_rS S hKX hW (m_szH hbs hS) (c_X12_in l ) h lk_X12_131 rfl hl.1 rfl ⟨Nat.le_of_ble_eq_true rfl, Nat.le_of_ble_eq_true rfl⟩ (Nat.le_of_ble_eq_true rfl) ⟨Nat.le_of_ble_eq_true rfl, Nat.le_of_ble_eq_true rfl⟩ dX12_crate_29) hS rfl rfl (fun rr29 Mm29 H locs h hW hS => ?_)
      refine lv_if_ne (tgt := 37) hx hb dX12_crate_32 (by decide) (fun c32 => ?_) (fun c32 => ?_)
      · replace h := h.1 c32
        refine lv_aload_n hx hb dX12_crate_37 rfl (lv_at hl 0 rfl) ?_
        refine lv_iload_n hx hb dX12_crate_38 rfl (lv_at hl 1 rfl) ?_
        refine m_ci0 (m_rV S hKX hW (m_szH hbs hS) (c_X12_wrongShelf l ) h lk_X12_348 (m_recv hK hW (ci_10 (Nat.le_of_ble_eq_true rfl)) (rc_10 G) rfl) rfl hl.1 rfl ⟨Nat.le_of_ble_eq_true rfl, Nat.le_of_ble_eq_true rfl⟩ (Nat.le_of_ble_eq_true rfl) ⟨Nat.le_of_ble_eq_true rfl, Nat.le_of_ble_eq_true rfl⟩ dX12_crate_39) hS rfl rfl (fun rr39 Mm39 H locs h hW hS => ?_)
        refine lv_istore (lv' := [(4, .int rr39), (0, .ref (ad G 10 0)), (1, .int x1), (2, .int x2), (3, .int x3)]) hx hb dX12_crate_42 hl (by decide) rfl (fun ls hl => ?_)
        refine lv_iload hx hb dX12_crate_44 (lv_at hl 0 rfl) ?_
        refine lv_if_ge (tgt := 52) hx hb dX12_crate_46 (by decide) (fun c46 => ?_) (fun c46 => ?_)
        · replace h := h.1 c46
          refine lv_aload_n hx hb dX12_crate_52 rfl (lv_at hl 1 rfl) ?_
          refine m_getr S hK fk_X12_108 (gr_10_47 G 0) hW (ci_10 (Nat.le_of_ble_eq_true rfl)) dX12_crate_53 ?_
          refine lv_iload_n hx hb dX12_crate_56 rfl (lv_at hl 2 rfl) ?_
          obtain ⟨hb57, h⟩ := h
          refine m_ald S hK (ar_74 G) hW (ci_74 (Nat.le_of_ble_eq_true rfl)) hb57 dX12_crate_57 ?_
          refine lv_topi (fun x5_58 ex5_58 => ?_)
          replace h := h x5_58 ex5_58
          refine lv_istore (lv' := [(5, .int x5_58), (4, .int rr39), (0, .ref (ad G 10 0)), (1, .int x1), (2, .int x2), (3, .int x3)]) hx hb dX12_crate_58 hl (by decide) rfl (fun ls hl => ?_)
          refine lv_iload_n hx hb dX12_crate_60 rfl (lv_at hl 4 rfl) ?_
          refine lv_iconst hx hb dX12_crate_61 ki_1 ?_
          refine lv_icmp_ne (tgt := 78) hx hb dX12_crate_62 (by decide) (fun c62 => ?_) (fun c62 => ?_)
          · replace h := h.1 c62
            refine lv_aload_n hx hb dX12_crate_78 rfl (lv_at hl 2 rfl) ?_
            refine m_getr S hK fk_X12_105 (gr_10_46 G 0) hW (ci_10 (Nat.le_of_ble_eq_true rfl)) dX12_crate_79 ?_
            refine lv_iload_n hx hb dX12_crate_82 rfl (lv_at hl 3 rfl) ?_
            obtain ⟨hb83, h⟩ := h
            refine m_ald S hK (ar_73 G) hW (ci_73 (Nat.le_of_ble_eq_true rfl)) hb83 dX12_crate_83 ?_
            refine lv_topi (fun z84 ez84 => ?_)
            replace h := h z84 ez84
            by_cases c84_0 : z84 = (0 : Int32)
            · replace h := h.1 c84_0
              rw [c84_0]
              refine lv_tableIn (off := 32) (tgt := 116) hx hb dX12_crate_84 (by decide +kernel) (by decide +kernel) (by decide +kernel) (by decide) ?_
              refine lv_iconst hx hb dX12_crate_116 ki_3 ?_
              refine lv_iload hx hb dX12_crate_117 (lv_at hl 0 rfl) ?_
              refine lv_imul hx hb dX12_crate_119 ?_
              exact m_iret S hret hlocks hKX hW hbs hS rfl h dX12_crate_120
            · replace h := h.2
              by_cases c84_1 : z84 = (1 : Int32)
              · replace h := h.1 c84_1
                rw [c84_1]
                refine lv_tableIn (off := 37) (tgt := 121) hx hb dX12_crate_84 (by decide +kernel) (by decide +kernel) (by decide +kernel) (by decide) ?_
                refine lv_iload hx hb dX12_crate_121 (lv_at hl 0 rfl) ?_
                exact m_iret S hret hlocks hKX hW hbs hS rfl h dX12_crate_123
              · replace h := h.2
                by_cases c84_2 : z84 = (2 : Int32)
                · replace h := h.1 c84_2
                  rw [c84_2]
                  refine lv_tableIn (off := 40) (tgt := 124) hx hb dX12_crate_84 (by decide +kernel) (by decide +kernel) (by decide +kernel) (by decide) ?_
                  refine lv_iconst hx hb dX12_crate_124 ki_2 ?_
                  refine lv_iload hx hb dX12_crate_125 (lv_at hl 0 rfl) ?_
                  refine lv_imul hx hb dX12_crate_127 ?_
                  exact m_iret S hret hlocks hKX hW hbs hS rfl h dX12_crate_128
                · replace h := h.2
                  by_cases c84_3 : z84 = (3 : Int32)
                  · replace h := h.1 c84_3
                    rw [c84_3]
                    refine lv_tableIn (off := 45) (tgt := 129) hx hb dX12_crate_84 (by decide +kernel) (by decide +kernel) (by decide +kernel) (by decide) ?_
                    refine lv_iload hx hb dX12_crate_129 (lv_at hl 0 rfl) ?_
                    refine lv_iconst hx hb dX12_crate_131 ki_2 ?_
                    refine lv_idiv hx hb dX12_crate_132 nz_2 ?_
                    exact m_iret S hret hlocks hKX hW hbs hS rfl h dX12_crate_133
                  · replace h := h.2
                    replace h := h c84_0 c84_1 c84_2 c84_3
                    refine lv_tableOut (tgt := 134) hx hb dX12_crate_84 (m_out 0 3 (fun z h1 h2 => ?_)) (by decide) ?_
                    · have h3 : z = 0 ∨ z = 1 ∨ z = 2 ∨ z = 3 := by omega
                      rcases h3 with rfl | rfl | rfl | rfl
                      · exact lv_neT c84_0 (by decide +kernel)
                      · exact lv_neT c84_1 (by decide +kernel)
                      · exact lv_neT c84_2 (by decide +kernel)
                      · exact lv_neT c84_3 (by decide +kernel)
                    · skip
                      refine lv_iconst hx hb dX12_crate_134 ki_0 ?_
                      exact m_iret S hret hlocks hKX hW hbs hS rfl h dX12_crate_135
          · replace h := h.2 c62
            refine lv_aload_n hx hb dX12_crate_65 rfl (lv_at hl 2 rfl) ?_
            refine m_getr S hK fk_X12_105 (gr_10_46 G 0) hW (ci_10 (Nat.le_of_ble_eq_true rfl)) dX12_crate_66 ?_
            refine lv_iload_n hx hb dX12_crate_69 rfl (lv_at hl 3 rfl) ?_
            obtain ⟨hb70, h⟩ := h
            refine m_ald S hK (ar_73 G) hW (ci_73 (Nat.le_of_ble_eq_true rfl)) hb70 dX12_crate_70 ?_
            refine lv_iload hx hb dX12_crate_71 (lv_at hl 0 rfl) ?_
            refine lv_iload_n hx hb dX12_crate_73 rfl (lv_at hl 5 rfl) ?_
            refine m_ci0 (m_rS S hKX hW (m_szH hbs hS) (c_X12_paid l ) h lk_X12_285 rfl hl.1 rfl ⟨Nat.le_of_ble_eq_true rfl, Nat.le_of_ble_eq_true rfl⟩ (Nat.le_of_ble_eq_true rfl) ⟨Nat.le_of_ble_eq_true rfl, Nat.le_of_ble_eq_true rfl⟩ dX12_crate_74) hS rfl rfl (fun rr74 Mm74 H locs h hW hS => ?_)
            exact m_iret S hret hlocks hKX hW hbs hS rfl h dX12_crate_77
        · replace h := h.2 c46
          refine lv_iload hx hb dX12_crate_49 (lv_at hl 0 rfl) ?_
          exact m_iret S hret hlocks hKX hW hbs hS rfl h dX12_crate_51
      · replace h := h.2 c32
        refine lv_iconst hx hb dX12_crate_35 ki_m1 ?_
        exact m_iret S hret hlocks hKX hW hbs hS rfl h dX12_crate_36
abbrev rm_X12_toss : Room := { frames := 2, cells := 0, slots := 0, locals := 43 }
set_option maxHeartbeats 4000000 in
set_option maxRecDepth 100000 in
theorem c_X12_toss (l : Launch) {G : Gn} {M : Mem} {x1 : Int32} {P : Int32 → Mem → Prop} : MQi l yX12_toss cX12_toss 3 (some .int) rm_X12_toss [.ref (ad G 10 0), .int x1] G M (s_X12_toss M x1 P) P := by
  refine m_enter (by decide +kernel) (Nat.le_of_ble_eq_true rfl) ?_
  intro p e s m below meth c ls H locs S hret hlocks hname hKX hbs hW hS hl h
  obtain ⟨AV, hAV⟩ : ∃ z : Array Value, z = ([.ref (ad G 10 0), .int x1] : List Value).toArray := ⟨_, rfl⟩
  rw [← hAV] at S ⊢
  replace S : CallFix p m c cX12_toss 3 s AV lw_G "MilkDeskModel" := S
  have hK := hKX.1
  have hx := S.1
  have hb := S.2.1
  have hml := S.2.2.1
  have hown := S.2.2.2.1
  have hts := S.2.2.2.2
  replace hl : lv_has ls 3 [(0, .ref (ad G 10 0)), (1, .int x1)] := hl
  unfold s_X12_toss at h
  refine lv_aload_n hx hb dX12_toss_0 rfl (lv_at hl 0 rfl) ?_
  refine lv_iconst hx hb dX12_toss_1 ki_0 ?_
  refine m_put S hK fk_X12_128 tyX12_ok nmX12 rfl pf_X12_0 (pv_10_0 G) hW hS (ci_10 (Nat.le_of_ble_eq_true rfl)) rfl rfl dX12_toss_2 (fun Mm2 eMm2 H locs hW hS => ?_)
  replace h := h Mm2 eMm2
  refine lv_aload_n hx hb dX12_toss_5 rfl (lv_at hl 0 rfl) ?_
  refine lv_iload_n hx hb dX12_toss_6 rfl (lv_at hl 1 rfl) ?_
  refine m_ci0 (m_rV S hKX hW (m_szH hbs hS) (c_X12_wrongShelf l ) h lk_X12_348 (m_recv hK hW (ci_10 (Nat.le_of_ble_eq_true rfl)) (rc_10 G) rfl) rfl hl.1 rfl ⟨Nat.le_of_ble_eq_true rfl, Nat.le_of_ble_eq_true rfl⟩ (Nat.le_of_ble_eq_true rfl) ⟨Nat.le_of_ble_eq_true rfl, Nat.le_of_ble_eq_true rfl⟩ dX12_toss_7) hS rfl rfl (fun rr7 Mm7 H locs h hW hS => ?_)
  refine lv_istore_n (lv' := [(2, .int rr7), (0, .ref (ad G 10 0)), (1, .int x1)]) hx hb dX12_toss_10 rfl hl (by decide) rfl (fun ls hl => ?_)
  refine lv_iload_n hx hb dX12_toss_11 rfl (lv_at hl 0 rfl) ?_
  refine lv_if_ge (tgt := 17) hx hb dX12_toss_12 (by decide) (fun c12 => ?_) (fun c12 => ?_)
  · replace h := h.1 c12
    refine lv_aload_n hx hb dX12_toss_17 rfl (lv_at hl 1 rfl) ?_
    refine m_getr S hK fk_X12_105 (gr_10_46 G 0) hW (ci_10 (Nat.le_of_ble_eq_true rfl)) dX12_toss_18 ?_
    refine lv_iload_n hx hb dX12_toss_21 rfl (lv_at hl 2 rfl) ?_
    obtain ⟨hb22, h⟩ := h
    refine m_ald S hK (ar_73 G) hW (ci_73 (Nat.le_of_ble_eq_true rfl)) hb22 dX12_toss_22 ?_
    refine lv_iconst hx hb dX12_toss_23 ki_2 ?_
    refine lv_icmp_eq (tgt := 36) hx hb dX12_toss_24 (by decide) (fun c24 => ?_) (fun c24 => ?_)
    · replace h := h.1 c24
      refine lv_bipush hx hb dX12_toss_36 kb_m15 ?_
      exact m_iret S hret hlocks hKX hW hbs hS rfl h dX12_toss_38
    · replace h := h.2 c24
      refine lv_aload_n hx hb dX12_toss_27 rfl (lv_at hl 1 rfl) ?_
      refine m_getr S hK fk_X12_108 (gr_10_47 G 0) hW (ci_10 (Nat.le_of_ble_eq_true rfl)) dX12_toss_28 ?_
      refine lv_iload_n hx hb dX12_toss_31 rfl (lv_at hl 2 rfl) ?_
      obtain ⟨hb32, h⟩ := h
      refine m_ald S hK (ar_74 G) hW (ci_74 (Nat.le_of_ble_eq_true rfl)) hb32 dX12_toss_32 ?_
      refine lv_if_ne (tgt := 39) hx hb dX12_toss_33 (by decide) (fun c33 => ?_) (fun c33 => ?_)
      · replace h := h.1 c33
        refine lv_aload_n hx hb dX12_toss_39 rfl (lv_at hl 1 rfl) ?_
        refine m_getr S hK fk_X12_105 (gr_10_46 G 0) hW (ci_10 (Nat.le_of_ble_eq_true rfl)) dX12_toss_40 ?_
        refine lv_iload_n hx hb dX12_toss_43 rfl (lv_at hl 2 rfl) ?_
        obtain ⟨hb44, h⟩ := h
        refine m_ald S hK (ar_73 G) hW (ci_73 (Nat.le_of_ble_eq_true rfl)) hb44 dX12_toss_44 ?_
        refine lv_bipush hx hb dX12_toss_45 kb_6 ?_
        refine lv_icmp_ne (tgt := 62) hx hb dX12_toss_47 (by decide) (fun c47 => ?_) (fun c47 => ?_)
        · replace h := h.1 c47
          refine lv_aload_n hx hb dX12_toss_62 rfl (lv_at hl 1 rfl) ?_
          refine m_getr S hK fk_X12_105 (gr_10_46 G 0) hW (ci_10 (Nat.le_of_ble_eq_true rfl)) dX12_toss_63 ?_
          refine lv_iload_n hx hb dX12_toss_66 rfl (lv_at hl 2 rfl) ?_
          obtain ⟨hb67, h⟩ := h
          refine m_ald S hK (ar_73 G) hW (ci_73 (Nat.le_of_ble_eq_true rfl)) hb67 dX12_toss_67 ?_
          refine lv_iconst hx hb dX12_toss_68 ki_5 ?_
          refine lv_icmp_ne (tgt := 81) hx hb dX12_toss_69 (by decide) (fun c69 => ?_) (fun c69 => ?_)
          · replace h := h.1 c69
            refine lv_aload_n hx hb dX12_toss_81 rfl (lv_at hl 1 rfl) ?_
            refine m_getr S hK fk_X12_111 (gr_10_48 G 0) hW (ci_10 (Nat.le_of_ble_eq_true rfl)) dX12_toss_82 ?_
            refine lv_iload_n hx hb dX12_toss_85 rfl (lv_at hl 2 rfl) ?_
            obtain ⟨hb86, h⟩ := h
            refine m_ald S hK (ar_75 G) hW (ci_75 (Nat.le_of_ble_eq_true rfl)) hb86 dX12_toss_86 ?_
            exact m_iret S hret hlocks hKX hW hbs hS rfl h dX12_toss_87
          · replace h := h.2 c69
            refine lv_aload_n hx hb dX12_toss_72 rfl (lv_at hl 1 rfl) ?_
            refine m_getr S hK fk_X12_108 (gr_10_47 G 0) hW (ci_10 (Nat.le_of_ble_eq_true rfl)) dX12_toss_73 ?_
            refine lv_iload_n hx hb dX12_toss_76 rfl (lv_at hl 2 rfl) ?_
            obtain ⟨hb77, h⟩ := h
            refine m_ald S hK (ar_74 G) hW (ci_74 (Nat.le_of_ble_eq_true rfl)) hb77 dX12_toss_77 ?_
            refine lv_goto (tgt := 87) hx hb dX12_toss_78 (by decide) ?_
            exact m_iret S hret hlocks hKX hW hbs hS rfl h dX12_toss_87
        · replace h := h.2 c47
          refine lv_bipush hx hb dX12_toss_50 kb_100 ?_
          refine lv_aload_n hx hb dX12_toss_52 rfl (lv_at hl 1 rfl) ?_
          refine m_getr S hK fk_X12_111 (gr_10_48 G 0) hW (ci_10 (Nat.le_of_ble_eq_true rfl)) dX12_toss_53 ?_
          refine lv_iload_n hx hb dX12_toss_56 rfl (lv_at hl 2 rfl) ?_
          obtain ⟨hb57, h⟩ := h
          refine m_ald S hK (ar_75 G) hW (ci_75 (Nat.le_of_ble_eq_true rfl)) hb57 dX12_toss_57 ?_
          refine lv_iadd hx hb dX12_toss_58 ?_
          refine lv_goto (tgt := 87) hx hb dX12_toss_59 (by decide) ?_
          exact m_iret S hret hlocks hKX hW hbs hS rfl h dX12_toss_87
      · replace h := h.2 c33
        refine lv_bipush hx hb dX12_toss_36 kb_m15 ?_
        exact m_iret S hret hlocks hKX hW hbs hS rfl h dX12_toss_38
  · replace h := h.2 c12
    refine lv_iload_n hx hb dX12_toss_15 rfl (lv_at hl 0 rfl) ?_
    exact m_iret S hret hlocks hKX hW hbs hS rfl h dX12_toss_16
