abbrev rm_X12_headsOf : Room := { frames := 1, cells := 0, slots := 0, locals := 26 }
set_option maxHeartbeats 4000000 in
set_option maxRecDepth 100000 in
theorem c_X12_headsOf (l : Launch) {G : Gn} {M : Mem} {x1 : Int32} {x2 : Int32} {P : Int32 → Mem → Prop} : MQi l yX12_headsOf cX12_headsOf 3 (some .int) rm_X12_headsOf [.ref (ad G 10 0), .int x1, .int x2] G M (s_X12_headsOf M x1 x2 P) P := by
  refine m_enter (by decide +kernel) (Nat.le_of_ble_eq_true rfl) ?_
  intro p e s m below meth c ls H locs S hret hlocks hname hKX hbs hW hS hl h
  obtain ⟨AV, hAV⟩ : ∃ z : Array Value, z = ([.ref (ad G 10 0), .int x1, .int x2] : List Value).toArray := ⟨_, rfl⟩
  rw [← hAV] at S ⊢
  replace S : CallFix p m c cX12_headsOf 3 s AV lw_G "MilkDeskModel" := S
  have hK := hKX.1
  have hx := S.1
  have hb := S.2.1
  have hml := S.2.2.1
  have hown := S.2.2.2.1
  have hts := S.2.2.2.2
  replace hl : lv_has ls 3 [(0, .ref (ad G 10 0)), (1, .int x1), (2, .int x2)] := hl
  unfold s_X12_headsOf at h
  refine lv_aload_n hx hb dX12_headsOf_0 rfl (lv_at hl 0 rfl) ?_
  refine lv_iload_n hx hb dX12_headsOf_1 rfl (lv_at hl 1 rfl) ?_
  refine lv_iconst hx hb dX12_headsOf_2 ki_0 ?_
  refine lv_iload_n hx hb dX12_headsOf_3 rfl (lv_at hl 2 rfl) ?_
  refine lv_sipush hx hb dX12_headsOf_4 ks_400 ?_
  refine m_ci0 (m_rV S hKX hW (m_szH hbs hS) (c_X12_headOf l ) h lk_X12_160 (m_recv hK hW (ci_10 (Nat.le_of_ble_eq_true rfl)) (rc_10 G) rfl) rfl hl.1 rfl ⟨Nat.le_of_ble_eq_true rfl, Nat.le_of_ble_eq_true rfl⟩ (Nat.le_of_ble_eq_true rfl) ⟨Nat.le_of_ble_eq_true rfl, Nat.le_of_ble_eq_true rfl⟩ dX12_headsOf_7) hS rfl rfl (fun rr7 Mm7 H locs h hW hS => ?_)
  refine lv_aload_n hx hb dX12_headsOf_10 rfl (lv_at hl 0 rfl) ?_
  refine lv_iload_n hx hb dX12_headsOf_11 rfl (lv_at hl 1 rfl) ?_
  refine lv_iconst hx hb dX12_headsOf_12 ki_1 ?_
  refine lv_iload_n hx hb dX12_headsOf_13 rfl (lv_at hl 2 rfl) ?_
  refine lv_sipush hx hb dX12_headsOf_14 ks_400 ?_
  refine m_ci0 (m_rV S hKX hW (m_szH hbs hS) (c_X12_headOf l ) h lk_X12_160 (m_recv hK hW (ci_10 (Nat.le_of_ble_eq_true rfl)) (rc_10 G) rfl) rfl hl.1 rfl ⟨Nat.le_of_ble_eq_true rfl, Nat.le_of_ble_eq_true rfl⟩ (Nat.le_of_ble_eq_true rfl) ⟨Nat.le_of_ble_eq_true rfl, Nat.le_of_ble_eq_true rfl⟩ dX12_headsOf_17) hS rfl rfl (fun rr17 Mm17 H locs h hW hS => ?_)
  refine lv_iadd hx hb dX12_headsOf_20 ?_
  refine lv_aload_n hx hb dX12_headsOf_21 rfl (lv_at hl 0 rfl) ?_
  refine lv_iload_n hx hb dX12_headsOf_22 rfl (lv_at hl 1 rfl) ?_
  refine lv_iconst hx hb dX12_headsOf_23 ki_2 ?_
  refine lv_iload_n hx hb dX12_headsOf_24 rfl (lv_at hl 2 rfl) ?_
  refine lv_sipush hx hb dX12_headsOf_25 ks_400 ?_
  refine m_ci0 (m_rV S hKX hW (m_szH hbs hS) (c_X12_headOf l ) h lk_X12_160 (m_recv hK hW (ci_10 (Nat.le_of_ble_eq_true rfl)) (rc_10 G) rfl) rfl hl.1 rfl ⟨Nat.le_of_ble_eq_true rfl, Nat.le_of_ble_eq_true rfl⟩ (Nat.le_of_ble_eq_true rfl) ⟨Nat.le_of_ble_eq_true rfl, Nat.le_of_ble_eq_true rfl⟩ dX12_headsOf_28) hS rfl rfl (fun rr28 Mm28 H locs h hW hS => ?_)
  refine lv_iadd hx hb dX12_headsOf_31 ?_
  exact m_iret S hret hlocks hKX hW hbs hS rfl h dX12_headsOf_32
abbrev rm_X12_head : Room := { frames := 2, cells := 0, slots := 0, locals := 43 }
set_option maxHeartbeats 4000000 in
set_option maxRecDepth 100000 in
theorem c_X12_head (l : Launch) {G : Gn} {M : Mem} {x1 : Int32} {x2 : Int32} {x3 : Int32} {x4 : Int32} {P : Int32 → Mem → Prop} : MQi l yX12_head cX12_head 5 (some .int) rm_X12_head [.ref (ad G 10 0), .int x1, .int x2, .int x3, .int x4] G M (s_X12_head M x1 x2 x3 x4 P) P := by
  refine m_enter (by decide +kernel) (Nat.le_of_ble_eq_true rfl) ?_
  intro p e s m below meth c ls H locs S hret hlocks hname hKX hbs hW hS hl h
  obtain ⟨AV, hAV⟩ : ∃ z : Array Value, z = ([.ref (ad G 10 0), .int x1, .int x2, .int x3, .int x4] : List Value).toArray := ⟨_, rfl⟩
  rw [← hAV] at S ⊢
  replace S : CallFix p m c cX12_head 5 s AV lw_G "MilkDeskModel" := S
  have hK := hKX.1
  have hx := S.1
  have hb := S.2.1
  have hml := S.2.2.1
  have hown := S.2.2.2.1
  have hts := S.2.2.2.2
  replace hl : lv_has ls 5 [(0, .ref (ad G 10 0)), (1, .int x1), (2, .int x2), (3, .int x3), (4, .int x4)] := hl
  unfold s_X12_head at h
  refine lv_aload_n hx hb dX12_head_0 rfl (lv_at hl 0 rfl) ?_
  refine lv_iconst hx hb dX12_head_1 ki_0 ?_
  refine m_put S hK fk_X12_128 tyX12_ok nmX12 rfl pf_X12_0 (pv_10_0 G) hW hS (ci_10 (Nat.le_of_ble_eq_true rfl)) rfl rfl dX12_head_2 (fun Mm2 eMm2 H locs hW hS => ?_)
  replace h := h Mm2 eMm2
  refine lv_aload_n hx hb dX12_head_5 rfl (lv_at hl 0 rfl) ?_
  refine lv_iload_n hx hb dX12_head_6 rfl (lv_at hl 1 rfl) ?_
  refine m_ci0 (m_rV S hKX hW (m_szH hbs hS) (c_X12_isSchool l ) h lk_X12_139 (m_recv hK hW (ci_10 (Nat.le_of_ble_eq_true rfl)) (rc_10 G) rfl) rfl hl.1 rfl ⟨Nat.le_of_ble_eq_true rfl, Nat.le_of_ble_eq_true rfl⟩ (Nat.le_of_ble_eq_true rfl) ⟨Nat.le_of_ble_eq_true rfl, Nat.le_of_ble_eq_true rfl⟩ dX12_head_7) hS rfl rfl (fun rr7 Mm7 H locs h hW hS => ?_)
  refine lv_if_eq (tgt := 47) hx hb dX12_head_10 (by decide) (fun c10 => ?_) (fun c10 => ?_)
  · replace h := h.1 c10
    refine lv_iconst hx hb dX12_head_47 ki_m1 ?_
    exact m_iret S hret hlocks hKX hW hbs hS rfl h dX12_head_48
  · replace h := h.2 c10
    refine lv_iload_n hx hb dX12_head_13 rfl (lv_at hl 2 rfl) ?_
    refine m_ci0 (m_rS S hKX hW (m_szH hbs hS) (c_X12_isAge l ) h lk_X12_149 rfl hl.1 rfl ⟨Nat.le_of_ble_eq_true rfl, Nat.le_of_ble_eq_true rfl⟩ (Nat.le_of_ble_eq_true rfl) ⟨Nat.le_of_ble_eq_true rfl, Nat.le_of_ble_eq_true rfl⟩ dX12_head_14) hS rfl rfl (fun rr14 Mm14 H locs h hW hS => ?_)
    refine lv_if_eq (tgt := 47) hx hb dX12_head_17 (by decide) (fun c17 => ?_) (fun c17 => ?_)
    · replace h := h.1 c17
      refine lv_iconst hx hb dX12_head_47 ki_m1 ?_
      exact m_iret S hret hlocks hKX hW hbs hS rfl h dX12_head_48
    · replace h := h.2 c17
      refine lv_iload_n hx hb dX12_head_20 rfl (lv_at hl 3 rfl) ?_
      refine m_ci0 (m_rS S hKX hW (m_szH hbs hS) (c_X12_isDay l ) h lk_X12_164 rfl hl.1 rfl ⟨Nat.le_of_ble_eq_true rfl, Nat.le_of_ble_eq_true rfl⟩ (Nat.le_of_ble_eq_true rfl) ⟨Nat.le_of_ble_eq_true rfl, Nat.le_of_ble_eq_true rfl⟩ dX12_head_21) hS rfl rfl (fun rr21 Mm21 H locs h hW hS => ?_)
      refine lv_if_eq (tgt := 47) hx hb dX12_head_24 (by decide) (fun c24 => ?_) (fun c24 => ?_)
      · replace h := h.1 c24
        refine lv_iconst hx hb dX12_head_47 ki_m1 ?_
        exact m_iret S hret hlocks hKX hW hbs hS rfl h dX12_head_48
      · replace h := h.2 c24
        refine lv_iload hx hb dX12_head_27 (lv_at hl 4 rfl) ?_
        refine m_ci0 (m_rS S hKX hW (m_szH hbs hS) (c_X12_isDay l ) h lk_X12_164 rfl hl.1 rfl ⟨Nat.le_of_ble_eq_true rfl, Nat.le_of_ble_eq_true rfl⟩ (Nat.le_of_ble_eq_true rfl) ⟨Nat.le_of_ble_eq_true rfl, Nat.le_of_ble_eq_true rfl⟩ dX12_head_29) hS rfl rfl (fun rr29 Mm29 H locs h hW hS => ?_)
        refine lv_if_eq (tgt := 47) hx hb dX12_head_32 (by decide) (fun c32 => ?_) (fun c32 => ?_)
        · replace h := h.1 c32
          refine lv_iconst hx hb dX12_head_47 ki_m1 ?_
          exact m_iret S hret hlocks hKX hW hbs hS rfl h dX12_head_48
        · replace h := h.2 c32
          refine lv_aload_n hx hb dX12_head_35 rfl (lv_at hl 0 rfl) ?_
          refine lv_iload_n hx hb dX12_head_36 rfl (lv_at hl 1 rfl) ?_
          refine lv_iload_n hx hb dX12_head_37 rfl (lv_at hl 2 rfl) ?_
          refine lv_iload_n hx hb dX12_head_38 rfl (lv_at hl 3 rfl) ?_
          refine lv_iload hx hb dX12_head_39 (lv_at hl 4 rfl) ?_
          refine m_ci0 (m_rV S hKX hW (m_szH hbs hS) (c_X12_headOf l ) h lk_X12_160 (m_recv hK hW (ci_10 (Nat.le_of_ble_eq_true rfl)) (rc_10 G) rfl) rfl hl.1 rfl ⟨Nat.le_of_ble_eq_true rfl, Nat.le_of_ble_eq_true rfl⟩ (Nat.le_of_ble_eq_true rfl) ⟨Nat.le_of_ble_eq_true rfl, Nat.le_of_ble_eq_true rfl⟩ dX12_head_41) hS rfl rfl (fun rr41 Mm41 H locs h hW hS => ?_)
          refine lv_goto (tgt := 48) hx hb dX12_head_44 (by decide) ?_
          exact m_iret S hret hlocks hKX hW hbs hS rfl h dX12_head_48
abbrev rm_X12_here : Room := { frames := 0, cells := 0, slots := 0, locals := 0 }
set_option maxHeartbeats 4000000 in
set_option maxRecDepth 100000 in
theorem c_X12_here (l : Launch) {G : Gn} {M : Mem} {P : Int32 → Mem → Prop} : MQi l yX12_here cX12_here 1 (some .int) rm_X12_here [.ref (ad G 10 0)] G M (s_X12_here M P) P := by
  refine m_enter (by decide +kernel) (Nat.le_of_ble_eq_true rfl) ?_
  intro p e s m below meth c ls H locs S hret hlocks hname hKX hbs hW hS hl h
  obtain ⟨AV, hAV⟩ : ∃ z : Array Value, z = ([.ref (ad G 10 0)] : List Value).toArray := ⟨_, rfl⟩
  rw [← hAV] at S ⊢
  replace S : CallFix p m c cX12_here 1 s AV lw_G "MilkDeskModel" := S
  have hK := hKX.1
  have hx := S.1
  have hb := S.2.1
  have hml := S.2.2.1
  have hown := S.2.2.2.1
  have hts := S.2.2.2.2
  replace hl : lv_has ls 1 [(0, .ref (ad G 10 0))] := hl
  unfold s_X12_here at h
  refine lv_aload_n hx hb dX12_here_0 rfl (lv_at hl 0 rfl) ?_
  refine m_geti S hK fk_X12_167 (gi_10_26 G) hW (ci_10 (Nat.le_of_ble_eq_true rfl)) dX12_here_1 ?_
  refine lv_aload_n hx hb dX12_here_4 rfl (lv_at hl 0 rfl) ?_
  refine m_geti S hK fk_X12_170 (gi_10_25 G) hW (ci_10 (Nat.le_of_ble_eq_true rfl)) dX12_here_5 ?_
  refine lv_icmp_lt (tgt := 15) hx hb dX12_here_8 (by decide) (fun c8 => ?_) (fun c8 => ?_)
  · replace h := h.1 c8
    refine lv_aload_n hx hb dX12_here_15 rfl (lv_at hl 0 rfl) ?_
    refine m_geti S hK fk_X12_173 (gi_10_23 G) hW (ci_10 (Nat.le_of_ble_eq_true rfl)) dX12_here_16 ?_
    refine lv_if_eq (tgt := 44) hx hb dX12_here_19 (by decide) (fun c19 => ?_) (fun c19 => ?_)
    · replace h := h.1 c19
      refine lv_aload_n hx hb dX12_here_44 rfl (lv_at hl 0 rfl) ?_
      refine m_getr S hK fk_X12_49 (gr_10_15 G 0) hW (ci_10 (Nat.le_of_ble_eq_true rfl)) dX12_here_45 ?_
      refine lv_aload_n hx hb dX12_here_48 rfl (lv_at hl 0 rfl) ?_
      refine m_geti S hK fk_X12_177 (gi_10_24 G) hW (ci_10 (Nat.le_of_ble_eq_true rfl)) dX12_here_49 ?_
      refine lv_aload_n hx hb dX12_here_52 rfl (lv_at hl 0 rfl) ?_
      refine m_geti S hK fk_X12_167 (gi_10_26 G) hW (ci_10 (Nat.le_of_ble_eq_true rfl)) dX12_here_53 ?_
      refine lv_iadd hx hb dX12_here_56 ?_
      obtain ⟨hb57, h⟩ := h
      refine m_ald S hK (ar_57 G) hW (ci_57 (Nat.le_of_ble_eq_true rfl)) hb57 dX12_here_57 ?_
      exact m_iret S hret hlocks hKX hW hbs hS rfl h dX12_here_58
    · replace h := h.2 c19
      refine lv_aload_n hx hb dX12_here_22 rfl (lv_at hl 0 rfl) ?_
      refine m_getr S hK fk_X12_120 (gr_10_51 G 0) hW (ci_10 (Nat.le_of_ble_eq_true rfl)) dX12_here_23 ?_
      refine lv_aload_n hx hb dX12_here_26 rfl (lv_at hl 0 rfl) ?_
      refine m_geti S hK fk_X12_177 (gi_10_24 G) hW (ci_10 (Nat.le_of_ble_eq_true rfl)) dX12_here_27 ?_
      refine lv_aload_n hx hb dX12_here_30 rfl (lv_at hl 0 rfl) ?_
      refine m_geti S hK fk_X12_167 (gi_10_26 G) hW (ci_10 (Nat.le_of_ble_eq_true rfl)) dX12_here_31 ?_
      refine lv_iadd hx hb dX12_here_34 ?_
      obtain ⟨hb35, h⟩ := h
      refine m_jald S hK (ar_78 G) hW (ci_78 (Nat.le_of_ble_eq_true rfl)) hb35 dX12_here_35 ?_
      refine lv_l2i hx hb dX12_here_36 rfl ?_
      refine lv_sipush hx hb dX12_here_37 ks_255 ?_
      refine lv_iand hx hb dX12_here_40 ?_
      refine lv_goto (tgt := 58) hx hb dX12_here_41 (by decide) ?_
      exact m_iret S hret hlocks hKX hW hbs hS rfl h dX12_here_58
  · replace h := h.2 c8
    refine lv_iconst hx hb dX12_here_11 ki_m1 ?_
    refine lv_goto (tgt := 58) hx hb dX12_here_12 (by decide) ?_
    exact m_iret S hret hlocks hKX hW hbs hS rfl h dX12_here_58
abbrev rm_X12_monthOf : Room := { frames := 0, cells := 0, slots := 0, locals := 0 }
set_option maxHeartbeats 4000000 in
set_option maxRecDepth 100000 in
theorem c_X12_monthOf (l : Launch) {G : Gn} {M : Mem} {x0 : Int32} {P : Int32 → Mem → Prop} : MQi l yX12_monthOf cX12_monthOf 1 (some .int) rm_X12_monthOf [.int x0] G M (s_X12_monthOf M x0 P) P := by
  refine m_enter (by decide +kernel) (Nat.le_of_ble_eq_true rfl) ?_
  intro p e s m below meth c ls H locs S hret hlocks hname hKX hbs hW hS hl h
  obtain ⟨AV, hAV⟩ : ∃ z : Array Value, z = ([.int x0] : List Value).toArray := ⟨_, rfl⟩
  rw [← hAV] at S ⊢
  replace S : CallFix p m c cX12_monthOf 1 s AV lw_G "MilkDeskModel" := S
  have hK := hKX.1
  have hx := S.1
  have hb := S.2.1
  have hml := S.2.2.1
  have hown := S.2.2.2.1
  have hts := S.2.2.2.2
  replace hl : lv_has ls 1 [(0, .int x0)] := hl
  unfold s_X12_monthOf at h
  refine lv_iload_n hx hb dX12_monthOf_0 rfl (lv_at hl 0 rfl) ?_
  refine lv_bipush hx hb dX12_monthOf_1 kb_30 ?_
  refine lv_idiv hx hb dX12_monthOf_3 nz_30 ?_
  refine lv_bipush hx hb dX12_monthOf_4 kb_12 ?_
  refine lv_irem hx hb dX12_monthOf_6 nz_12 ?_
  exact m_iret S hret hlocks hKX hW hbs hS rfl h dX12_monthOf_7
abbrev rm_X12_isField : Room := { frames := 0, cells := 0, slots := 0, locals := 0 }
set_option maxHeartbeats 4000000 in
set_option maxRecDepth 100000 in
theorem c_X12_isField (l : Launch) {G : Gn} {M : Mem} {x0 : Int32} {P : Int32 → Mem → Prop} : MQi l yX12_isField cX12_isField 1 (some .boolean) rm_X12_isField [.int x0] G M (s_X12_isField M x0 P) P := by
  refine m_enter (by decide +kernel) (Nat.le_of_ble_eq_true rfl) ?_
  intro p e s m below meth c ls H locs S hret hlocks hname hKX hbs hW hS hl h
  obtain ⟨AV, hAV⟩ : ∃ z : Array Value, z = ([.int x0] : List Value).toArray := ⟨_, rfl⟩
  rw [← hAV] at S ⊢
  replace S : CallFix p m c cX12_isField 1 s AV lw_G "MilkDeskModel" := S
  have hK := hKX.1
  have hx := S.1
  have hb := S.2.1
  have hml := S.2.2.1
  have hown := S.2.2.2.1
  have hts := S.2.2.2.2
  replace hl : lv_has ls 1 [(0, .int x0)] := hl
  unfold s_X12_isField at h
  refine lv_iload_n hx hb dX12_isField_0 rfl (lv_at hl 0 rfl) ?_
  by_cases c1_0 : x0 = (97 : Int32)
  · replace h := h.1 c1_0
    rw [c1_0]
    refine lv_tableIn (off := 115) (tgt := 116) hx hb dX12_isField_1 (by decide +kernel) (by decide +kernel) (by decide +kernel) (by decide) ?_
    refine lv_iconst hx hb dX12_isField_116 ki_1 ?_
    exact m_iret S hret hlocks hKX hW hbs hS rfl h dX12_isField_117
  · replace h := h.2
    by_cases c1_1 : x0 = (98 : Int32)
    · replace h := h.1 c1_1
      rw [c1_1]
      refine lv_tableIn (off := 117) (tgt := 118) hx hb dX12_isField_1 (by decide +kernel) (by decide +kernel) (by decide +kernel) (by decide) ?_
      refine lv_iconst hx hb dX12_isField_118 ki_0 ?_
      exact m_iret S hret hlocks hKX hW hbs hS rfl h dX12_isField_119
    · replace h := h.2
      by_cases c1_2 : x0 = (99 : Int32)
      · replace h := h.1 c1_2
        rw [c1_2]
        refine lv_tableIn (off := 115) (tgt := 116) hx hb dX12_isField_1 (by decide +kernel) (by decide +kernel) (by decide +kernel) (by decide) ?_
        refine lv_iconst hx hb dX12_isField_116 ki_1 ?_
        exact m_iret S hret hlocks hKX hW hbs hS rfl h dX12_isField_117
      · replace h := h.2
        by_cases c1_3 : x0 = (100 : Int32)
        · replace h := h.1 c1_3
          rw [c1_3]
          refine lv_tableIn (off := 115) (tgt := 116) hx hb dX12_isField_1 (by decide +kernel) (by decide +kernel) (by decide +kernel) (by decide) ?_
          refine lv_iconst hx hb dX12_isField_116 ki_1 ?_
          exact m_iret S hret hlocks hKX hW hbs hS rfl h dX12_isField_117
        · replace h := h.2
          by_cases c1_4 : x0 = (101 : Int32)
          · replace h := h.1 c1_4
            rw [c1_4]
            refine lv_tableIn (off := 117) (tgt := 118) hx hb dX12_isField_1 (by decide +kernel) (by decide +kernel) (by decide +kernel) (by decide) ?_
            refine lv_iconst hx hb dX12_isField_118 ki_0 ?_
            exact m_iret S hret hlocks hKX hW hbs hS rfl h dX12_isField_119
          · replace h := h.2
            by_cases c1_5 : x0 = (102 : Int32)
            · replace h := h.1 c1_5
              rw [c1_5]
              refine lv_tableIn (off := 117) (tgt := 118) hx hb dX12_isField_1 (by decide +kernel) (by decide +kernel) (by decide +kernel) (by decide) ?_
              refine lv_iconst hx hb dX12_isField_118 ki_0 ?_
              exact m_iret S hret hlocks hKX hW hbs hS rfl h dX12_isField_119
            · replace h := h.2
              by_cases c1_6 : x0 = (103 : Int32)
              · replace h := h.1 c1_6
                rw [c1_6]
                refine lv_tableIn (off := 117) (tgt := 118) hx hb dX12_isField_1 (by decide +kernel) (by decide +kernel) (by decide +kernel) (by decide) ?_
                refine lv_iconst hx hb dX12_isField_118 ki_0 ?_
                exact m_iret S hret hlocks hKX hW hbs hS rfl h dX12_isField_119
              · replace h := h.2
                by_cases c1_7 : x0 = (104 : Int32)
                · replace h := h.1 c1_7
                  rw [c1_7]
                  refine lv_tableIn (off := 115) (tgt := 116) hx hb dX12_isField_1 (by decide +kernel) (by decide +kernel) (by decide +kernel) (by decide) ?_
                  refine lv_iconst hx hb dX12_isField_116 ki_1 ?_
                  exact m_iret S hret hlocks hKX hW hbs hS rfl h dX12_isField_117
                · replace h := h.2
                  by_cases c1_8 : x0 = (105 : Int32)
                  · replace h := h.1 c1_8
                    rw [c1_8]
                    refine lv_tableIn (off := 117) (tgt := 118) hx hb dX12_isField_1 (by decide +kernel) (by decide +kernel) (by decide +kernel) (by decide) ?_
                    refine lv_iconst hx hb dX12_isField_118 ki_0 ?_
                    exact m_iret S hret hlocks hKX hW hbs hS rfl h dX12_isField_119
                  · replace h := h.2
                    by_cases c1_9 : x0 = (106 : Int32)
                    · replace h := h.1 c1_9
                      rw [c1_9]
                      refine lv_tableIn (off := 117) (tgt := 118) hx hb dX12_isField_1 (by decide +kernel) (by decide +kernel) (by decide +kernel) (by decide) ?_
                      refine lv_iconst hx hb dX12_isField_118 ki_0 ?_
                      exact m_iret S hret hlocks hKX hW hbs hS rfl h dX12_isField_119
                    · replace h := h.2
                      by_cases c1_10 : x0 = (107 : Int32)
                      · replace h := h.1 c1_10
                        rw [c1_10]
                        refine lv_tableIn (off := 117) (tgt := 118) hx hb dX12_isField_1 (by decide +kernel) (by decide +kernel) (by decide +kernel) (by decide) ?_
                        refine lv_iconst hx hb dX12_isField_118 ki_0 ?_
                        exact m_iret S hret hlocks hKX hW hbs hS rfl h dX12_isField_119
                      · replace h := h.2
                        by_cases c1_11 : x0 = (108 : Int32)
                        · replace h := h.1 c1_11
                          rw [c1_11]
                          refine lv_tableIn (off := 117) (tgt := 118) hx hb dX12_isField_1 (by decide +kernel) (by decide +kernel) (by decide +kernel) (by decide) ?_
                          refine lv_iconst hx hb dX12_isField_118 ki_0 ?_
                          exact m_iret S hret hlocks hKX hW hbs hS rfl h dX12_isField_119
                        · replace h := h.2
                          by_cases c1_12 : x0 = (109 : Int32)
                          · replace h := h.1 c1_12
                            rw [c1_12]
                            refine lv_tableIn (off := 115) (tgt := 116) hx hb dX12_isField_1 (by decide +kernel) (by decide +kernel) (by decide +kernel) (by decide) ?_
                            refine lv_iconst hx hb dX12_isField_116 ki_1 ?_
                            exact m_iret S hret hlocks hKX hW hbs hS rfl h dX12_isField_117
                          · replace h := h.2
                            by_cases c1_13 : x0 = (110 : Int32)
                            · replace h := h.1 c1_13
                              rw [c1_13]
                              refine lv_tableIn (off := 115) (tgt := 116) hx hb dX12_isField_1 (by decide +kernel) (by decide +kernel) (by decide +kernel) (by decide) ?_
                              refine lv_iconst hx hb dX12_isField_116 ki_1 ?_
                              exact m_iret S hret hlocks hKX hW hbs hS rfl h dX12_isField_117
                            · replace h := h.2
                              by_cases c1_14 : x0 = (111 : Int32)
                              · replace h := h.1 c1_14
                                rw [c1_14]
                                refine lv_tableIn (off := 117) (tgt := 118) hx hb dX12_isField_1 (by decide +kernel) (by decide +kernel) (by decide +kernel) (by decide) ?_
                                refine lv_iconst hx hb dX12_isField_118 ki_0 ?_
                                exact m_iret S hret hlocks hKX hW hbs hS rfl h dX12_isField_119
                              · replace h := h.2
                                by_cases c1_15 : x0 = (112 : Int32)
                                · replace h := h.1 c1_15
                                  rw [c1_15]
                                  refine lv_tableIn (off := 117) (tgt := 118) hx hb dX12_isField_1 (by decide +kernel) (by decide +kernel) (by decide +kernel) (by decide) ?_
                                  refine lv_iconst hx hb dX12_isField_118 ki_0 ?_
                                  exact m_iret S hret hlocks hKX hW hbs hS rfl h dX12_isField_119
                                · replace h := h.2
                                  by_cases c1_16 : x0 = (113 : Int32)
                                  · replace h := h.1 c1_16
                                    rw [c1_16]
                                    refine lv_tableIn (off := 117) (tgt := 118) hx hb dX12_isField_1 (by decide +kernel) (by decide +kernel) (by decide +kernel) (by decide) ?_
                                    refine lv_iconst hx hb dX12_isField_118 ki_0 ?_
                                    exact m_iret S hret hlocks hKX hW hbs hS rfl h dX12_isField_119
                                  · replace h := h.2
                                    by_cases c1_17 : x0 = (114 : Int32)
                                    · replace h := h.1 c1_17
                                      rw [c1_17]
                                      refine lv_tableIn (off := 117) (tgt := 118) hx hb dX12_isField_1 (by decide +kernel) (by decide +kernel) (by decide +kernel) (by decide) ?_
                                      refine lv_iconst hx hb dX12_isField_118 ki_0 ?_
                                      exact m_iret S hret hlocks hKX hW hbs hS rfl h dX12_isField_119
                                    · replace h := h.2
                                      by_cases c1_18 : x0 = (115 : Int32)
                                      · replace h := h.1 c1_18
                                        rw [c1_18]
                                        refine lv_tableIn (off := 115) (tgt := 116) hx hb dX12_isField_1 (by decide +kernel) (by decide +kernel) (by decide +kernel) (by decide) ?_
                                        refine lv_iconst hx hb dX12_isField_116 ki_1 ?_
                                        exact m_iret S hret hlocks hKX hW hbs hS rfl h dX12_isField_117
                                      · replace h := h.2
                                        by_cases c1_19 : x0 = (116 : Int32)
                                        · replace h := h.1 c1_19
                                          rw [c1_19]
                                          refine lv_tableIn (off := 117) (tgt := 118) hx hb dX12_isField_1 (by decide +kernel) (by decide +kernel) (by decide +kernel) (by decide) ?_
                                          refine lv_iconst hx hb dX12_isField_118 ki_0 ?_
                                          exact m_iret S hret hlocks hKX hW hbs hS rfl h dX12_isField_119
                                        · replace h := h.2
                                          by_cases c1_20 : x0 = (117 : Int32)
                                          · replace h := h.1 c1_20
                                            rw [c1_20]
                                            refine lv_tableIn (off := 117) (tgt := 118) hx hb dX12_isField_1 (by decide +kernel) (by decide +kernel) (by decide +kernel) (by decide) ?_
                                            refine lv_iconst hx hb dX12_isField_118 ki_0 ?_
                                            exact m_iret S hret hlocks hKX hW hbs hS rfl h dX12_isField_119
                                          · replace h := h.2
                                            by_cases c1_21 : x0 = (118 : Int32)
                                            · replace h := h.1 c1_21
                                              rw [c1_21]
                                              refine lv_tableIn (off := 117) (tgt := 118) hx hb dX12_isField_1 (by decide +kernel) (by decide +kernel) (by decide +kernel) (by decide) ?_
                                              refine lv_iconst hx hb dX12_isField_118 ki_0 ?_
                                              exact m_iret S hret hlocks hKX hW hbs hS rfl h dX12_isField_119
                                            · replace h := h.2
                                              by_cases c1_22 : x0 = (119 : Int32)
                                              · replace h := h.1 c1_22
                                                rw [c1_22]
                                                refine lv_tableIn (off := 115) (tgt := 116) hx hb dX12_isField_1 (by decide +kernel) (by decide +kernel) (by decide +kernel) (by decide) ?_
                                                refine lv_iconst hx hb dX12_isField_116 ki_1 ?_
                                                exact m_iret S hret hlocks hKX hW hbs hS rfl h dX12_isField_117
                                              · replace h := h.2
                                                by_cases c1_23 : x0 = (120 : Int32)
                                                · replace h := h.1 c1_23
                                                  rw [c1_23]
                                                  refine lv_tableIn (off := 115) (tgt := 116) hx hb dX12_isField_1 (by decide +kernel) (by decide +kernel) (by decide +kernel) (by decide) ?_
                                                  refine lv_iconst hx hb dX12_isField_116 ki_1 ?_
                                                  exact m_iret S hret hlocks hKX hW hbs hS rfl h dX12_isField_117
                                                · replace h := h.2
                                                  by_cases c1_24 : x0 = (121 : Int32)
                                                  · replace h := h.1 c1_24
                                                    rw [c1_24]
                                                    refine lv_tableIn (off := 115) (tgt := 116) hx hb dX12_isField_1 (by decide +kernel) (by decide +kernel) (by decide +kernel) (by decide) ?_
                                                    refine lv_iconst hx hb dX12_isField_116 ki_1 ?_
                                                    exact m_iret S hret hlocks hKX hW hbs hS rfl h dX12_isField_117
                                                  · replace h := h.2
                                                    replace h := h c1_0 c1_1 c1_2 c1_3 c1_4 c1_5 c1_6 c1_7 c1_8 c1_9 c1_10 c1_11 c1_12 c1_13 c1_14 c1_15 c1_16 c1_17 c1_18 c1_19 c1_20 c1_21 c1_22 c1_23 c1_24
                                                    refine lv_tableOut (tgt := 118) hx hb dX12_isField_1 (m_out 97 121 (fun z h1 h2 => ?_)) (by decide) ?_
                                                    · have h3 : z = 97 ∨ z = 98 ∨ z = 99 ∨ z = 100 ∨ z = 101 ∨ z = 102 ∨ z = 103 ∨ z = 104 ∨ z = 105 ∨ z = 106 ∨ z = 107 ∨ z = 108 ∨ z = 109 ∨ z = 110 ∨ z = 111 ∨ z = 112 ∨ z = 113 ∨ z = 114 ∨ z = 115 ∨ z = 116 ∨ z = 117 ∨ z = 118 ∨ z = 119 ∨ z = 120 ∨ z = 121 := by omega
                                                      rcases h3 with rfl | rfl | rfl | rfl | rfl | rfl | rfl | rfl | rfl | rfl | rfl | rfl | rfl | rfl | rfl | rfl | rfl | rfl | rfl | rfl | rfl | rfl | rfl | rfl | rfl
                                                      · exact lv_neT c1_0 (by decide +kernel)
                                                      · exact lv_neT c1_1 (by decide +kernel)
                                                      · exact lv_neT c1_2 (by decide +kernel)
                                                      · exact lv_neT c1_3 (by decide +kernel)
                                                      · exact lv_neT c1_4 (by decide +kernel)
                                                      · exact lv_neT c1_5 (by decide +kernel)
                                                      · exact lv_neT c1_6 (by decide +kernel)
                                                      · exact lv_neT c1_7 (by decide +kernel)
                                                      · exact lv_neT c1_8 (by decide +kernel)
                                                      · exact lv_neT c1_9 (by decide +kernel)
                                                      · exact lv_neT c1_10 (by decide +kernel)
                                                      · exact lv_neT c1_11 (by decide +kernel)
                                                      · exact lv_neT c1_12 (by decide +kernel)
                                                      · exact lv_neT c1_13 (by decide +kernel)
                                                      · exact lv_neT c1_14 (by decide +kernel)
                                                      · exact lv_neT c1_15 (by decide +kernel)
                                                      · exact lv_neT c1_16 (by decide +kernel)
                                                      · exact lv_neT c1_17 (by decide +kernel)
                                                      · exact lv_neT c1_18 (by decide +kernel)
                                                      · exact lv_neT c1_19 (by decide +kernel)
                                                      · exact lv_neT c1_20 (by decide +kernel)
                                                      · exact lv_neT c1_21 (by decide +kernel)
                                                      · exact lv_neT c1_22 (by decide +kernel)
                                                      · exact lv_neT c1_23 (by decide +kernel)
                                                      · exact lv_neT c1_24 (by decide +kernel)
                                                    · skip
                                                      refine lv_iconst hx hb dX12_isField_118 ki_0 ?_
                                                      exact m_iret S hret hlocks hKX hW hbs hS rfl h dX12_isField_119
abbrev rm_X12_field : Room := { frames := 2, cells := 0, slots := 0, locals := 48 }
set_option maxHeartbeats 4000000 in
set_option maxRecDepth 100000 in
theorem c_X12_field (l : Launch) {G : Gn} {M : Mem} {x1 : Int32} {P : Int32 → Mem → Prop} : MQi l yX12_field cX12_field 2 (some .int) rm_X12_field [.ref (ad G 10 0), .int x1] G M (s_X12_field M x1 P) P := by
  refine m_enter (by decide +kernel) (Nat.le_of_ble_eq_true rfl) ?_
  intro p e s m below meth c ls H locs S hret hlocks hname hKX hbs hW hS hl h
  obtain ⟨AV, hAV⟩ : ∃ z : Array Value, z = ([.ref (ad G 10 0), .int x1] : List Value).toArray := ⟨_, rfl⟩
  rw [← hAV] at S ⊢
  replace S : CallFix p m c cX12_field 2 s AV lw_G "MilkDeskModel" := S
  have hK := hKX.1
  have hx := S.1
  have hb := S.2.1
  have hml := S.2.2.1
  have hown := S.2.2.2.1
  have hts := S.2.2.2.2
  replace hl : lv_has ls 2 [(0, .ref (ad G 10 0)), (1, .int x1)] := hl
  have b204 : ∀ (M : Mem) (H : Heap) (locs : List Loc) (ls : Array Slot), WPm G M H → va_S (fun q => bs G ≤ q) s.heap H locs → lv_has ls 2 [(0, .ref (ad G 10 0))] → s_X12_field_204 P M  → W p l e rm_X12_field s m AV below meth c H locs 0 0 (MQ below (va_Qi P (WS G) (fun q => bs G ≤ q)) AV s 0 0 (fun q => bs G ≤ q)) (F0 m 204 ls []) := by
    intro M H locs ls hW hS hl h
    unfold s_X12_field_204 at h
    refine lv_aload_n hx hb dX12_field_204 rfl (lv_at hl 0 rfl) ?_
    refine m_geti S hK fk_X12_183 (gi_10_29 G) hW (ci_10 (Nat.le_of_ble_eq_true rfl)) dX12_field_205 ?_
    exact m_iret S hret hlocks hKX hW hbs hS rfl h dX12_field_208
  unfold s_X12_field at h
  refine lv_iload_n hx hb dX12_field_0 rfl (lv_at hl 1 rfl) ?_
  by_cases c1_0 : x1 = (97 : Int32)
  · replace h := h.1 c1_0
    rw [c1_0]
    refine lv_tableIn (off := 115) (tgt := 116) hx hb dX12_field_1 (by decide +kernel) (by decide +kernel) (by decide +kernel) (by decide) ?_
    refine lv_aload_n hx hb dX12_field_116 rfl (lv_at hl 0 rfl) ?_
    refine m_geti S hK fk_X12_180 (gi_10_30 G) hW (ci_10 (Nat.le_of_ble_eq_true rfl)) dX12_field_117 ?_
    exact m_iret S hret hlocks hKX hW hbs hS rfl h dX12_field_120
  · replace h := h.2
    by_cases c1_1 : x1 = (98 : Int32)
    · replace h := h.1 c1_1
      rw [c1_1]
      refine lv_tableIn (off := 203) (tgt := 204) hx hb dX12_field_1 (by decide +kernel) (by decide +kernel) (by decide +kernel) (by decide) ?_
      exact b204 _ H locs ls hW hS (lv_sub hl [0] rfl) h
    · replace h := h.2
      by_cases c1_2 : x1 = (99 : Int32)
      · replace h := h.1 c1_2
        rw [c1_2]
        refine lv_tableIn (off := 203) (tgt := 204) hx hb dX12_field_1 (by decide +kernel) (by decide +kernel) (by decide +kernel) (by decide) ?_
        exact b204 _ H locs ls hW hS (lv_sub hl [0] rfl) h
      · replace h := h.2
        by_cases c1_3 : x1 = (100 : Int32)
        · replace h := h.1 c1_3
          rw [c1_3]
          refine lv_tableIn (off := 138) (tgt := 139) hx hb dX12_field_1 (by decide +kernel) (by decide +kernel) (by decide +kernel) (by decide) ?_
          refine lv_aload_n hx hb dX12_field_139 rfl (lv_at hl 0 rfl) ?_
          refine m_geti S hK fk_X12_186 (gi_10_31 G) hW (ci_10 (Nat.le_of_ble_eq_true rfl)) dX12_field_140 ?_
          refine lv_bipush hx hb dX12_field_143 kb_7 ?_
          refine lv_irem hx hb dX12_field_145 nz_7 ?_
          exact m_iret S hret hlocks hKX hW hbs hS rfl h dX12_field_146
        · replace h := h.2
          by_cases c1_4 : x1 = (101 : Int32)
          · replace h := h.1 c1_4
            rw [c1_4]
            refine lv_tableIn (off := 203) (tgt := 204) hx hb dX12_field_1 (by decide +kernel) (by decide +kernel) (by decide +kernel) (by decide) ?_
            exact b204 _ H locs ls hW hS (lv_sub hl [0] rfl) h
          · replace h := h.2
            by_cases c1_5 : x1 = (102 : Int32)
            · replace h := h.1 c1_5
              rw [c1_5]
              refine lv_tableIn (off := 203) (tgt := 204) hx hb dX12_field_1 (by decide +kernel) (by decide +kernel) (by decide +kernel) (by decide) ?_
              exact b204 _ H locs ls hW hS (lv_sub hl [0] rfl) h
            · replace h := h.2
              by_cases c1_6 : x1 = (103 : Int32)
              · replace h := h.1 c1_6
                rw [c1_6]
                refine lv_tableIn (off := 203) (tgt := 204) hx hb dX12_field_1 (by decide +kernel) (by decide +kernel) (by decide +kernel) (by decide) ?_
                exact b204 _ H locs ls hW hS (lv_sub hl [0] rfl) h
              · replace h := h.2
                by_cases c1_7 : x1 = (104 : Int32)
                · replace h := h.1 c1_7
                  rw [c1_7]
                  refine lv_tableIn (off := 154) (tgt := 155) hx hb dX12_field_1 (by decide +kernel) (by decide +kernel) (by decide +kernel) (by decide) ?_
                  refine lv_aload_n hx hb dX12_field_155 rfl (lv_at hl 0 rfl) ?_
                  refine m_getr S hK fk_X12_7 (gr_10_1 G 0) hW (ci_10 (Nat.le_of_ble_eq_true rfl)) dX12_field_156 ?_
                  refine lv_bipush hx hb dX12_field_159 kb_120 ?_
                  refine lv_aload_n hx hb dX12_field_161 rfl (lv_at hl 0 rfl) ?_
                  refine m_geti S hK fk_X12_186 (gi_10_31 G) hW (ci_10 (Nat.le_of_ble_eq_true rfl)) dX12_field_162 ?_
                  refine m_ci0 (m_rS S hKX hW (m_szH hbs hS) (c_X12_monthOf l ) h lk_X12_189 rfl hl.1 rfl ⟨Nat.le_of_ble_eq_true rfl, Nat.le_of_ble_eq_true rfl⟩ (Nat.le_of_ble_eq_true rfl) ⟨Nat.le_of_ble_eq_true rfl, Nat.le_of_ble_eq_true rfl⟩ dX12_field_165) hS rfl rfl (fun rr165 Mm165 H locs h hW hS => ?_)
                  refine lv_iadd hx hb dX12_field_168 ?_
                  obtain ⟨hb169, h⟩ := h
                  refine m_ald S hK (ar_44 G) hW (ci_44 (Nat.le_of_ble_eq_true rfl)) hb169 dX12_field_169 ?_
                  exact m_iret S hret hlocks hKX hW hbs hS rfl h dX12_field_170
                · replace h := h.2
                  by_cases c1_8 : x1 = (105 : Int32)
                  · replace h := h.1 c1_8
                    rw [c1_8]
                    refine lv_tableIn (off := 203) (tgt := 204) hx hb dX12_field_1 (by decide +kernel) (by decide +kernel) (by decide +kernel) (by decide) ?_
                    exact b204 _ H locs ls hW hS (lv_sub hl [0] rfl) h
                  · replace h := h.2
                    by_cases c1_9 : x1 = (106 : Int32)
                    · replace h := h.1 c1_9
                      rw [c1_9]
                      refine lv_tableIn (off := 203) (tgt := 204) hx hb dX12_field_1 (by decide +kernel) (by decide +kernel) (by decide +kernel) (by decide) ?_
                      exact b204 _ H locs ls hW hS (lv_sub hl [0] rfl) h
                    · replace h := h.2
                      by_cases c1_10 : x1 = (107 : Int32)
                      · replace h := h.1 c1_10
                        rw [c1_10]
                        refine lv_tableIn (off := 203) (tgt := 204) hx hb dX12_field_1 (by decide +kernel) (by decide +kernel) (by decide +kernel) (by decide) ?_
                        exact b204 _ H locs ls hW hS (lv_sub hl [0] rfl) h
                      · replace h := h.2
                        by_cases c1_11 : x1 = (108 : Int32)
                        · replace h := h.1 c1_11
                          rw [c1_11]
                          refine lv_tableIn (off := 203) (tgt := 204) hx hb dX12_field_1 (by decide +kernel) (by decide +kernel) (by decide +kernel) (by decide) ?_
                          exact b204 _ H locs ls hW hS (lv_sub hl [0] rfl) h
                        · replace h := h.2
                          by_cases c1_12 : x1 = (109 : Int32)
                          · replace h := h.1 c1_12
                            rw [c1_12]
                            refine lv_tableIn (off := 130) (tgt := 131) hx hb dX12_field_1 (by decide +kernel) (by decide +kernel) (by decide +kernel) (by decide) ?_
                            refine lv_aload_n hx hb dX12_field_131 rfl (lv_at hl 0 rfl) ?_
                            refine m_geti S hK fk_X12_186 (gi_10_31 G) hW (ci_10 (Nat.le_of_ble_eq_true rfl)) dX12_field_132 ?_
                            refine m_ci0 (m_rS S hKX hW (m_szH hbs hS) (c_X12_monthOf l ) h lk_X12_189 rfl hl.1 rfl ⟨Nat.le_of_ble_eq_true rfl, Nat.le_of_ble_eq_true rfl⟩ (Nat.le_of_ble_eq_true rfl) ⟨Nat.le_of_ble_eq_true rfl, Nat.le_of_ble_eq_true rfl⟩ dX12_field_135) hS rfl rfl (fun rr135 Mm135 H locs h hW hS => ?_)
                            exact m_iret S hret hlocks hKX hW hbs hS rfl h dX12_field_138
                          · replace h := h.2
                            by_cases c1_13 : x1 = (110 : Int32)
                            · replace h := h.1 c1_13
                              rw [c1_13]
                              refine lv_tableIn (off := 170) (tgt := 171) hx hb dX12_field_1 (by decide +kernel) (by decide +kernel) (by decide +kernel) (by decide) ?_
                              refine lv_aload_n hx hb dX12_field_171 rfl (lv_at hl 0 rfl) ?_
                              refine lv_aload_n hx hb dX12_field_172 rfl (lv_at hl 0 rfl) ?_
                              refine m_geti S hK fk_X12_183 (gi_10_29 G) hW (ci_10 (Nat.le_of_ble_eq_true rfl)) dX12_field_173 ?_
                              refine lv_aload_n hx hb dX12_field_176 rfl (lv_at hl 0 rfl) ?_
                              refine m_geti S hK fk_X12_186 (gi_10_31 G) hW (ci_10 (Nat.le_of_ble_eq_true rfl)) dX12_field_177 ?_
                              refine m_ci0 (m_rV S hKX hW (m_szH hbs hS) (c_X12_headsOf l ) h lk_X12_192 (m_recv hK hW (ci_10 (Nat.le_of_ble_eq_true rfl)) (rc_10 G) rfl) rfl hl.1 rfl ⟨Nat.le_of_ble_eq_true rfl, Nat.le_of_ble_eq_true rfl⟩ (Nat.le_of_ble_eq_true rfl) ⟨Nat.le_of_ble_eq_true rfl, Nat.le_of_ble_eq_true rfl⟩ dX12_field_180) hS rfl rfl (fun rr180 Mm180 H locs h hW hS => ?_)
                              exact m_iret S hret hlocks hKX hW hbs hS rfl h dX12_field_183
                            · replace h := h.2
                              by_cases c1_14 : x1 = (111 : Int32)
                              · replace h := h.1 c1_14
                                rw [c1_14]
                                refine lv_tableIn (off := 203) (tgt := 204) hx hb dX12_field_1 (by decide +kernel) (by decide +kernel) (by decide +kernel) (by decide) ?_
                                exact b204 _ H locs ls hW hS (lv_sub hl [0] rfl) h
                              · replace h := h.2
                                by_cases c1_15 : x1 = (112 : Int32)
                                · replace h := h.1 c1_15
                                  rw [c1_15]
                                  refine lv_tableIn (off := 203) (tgt := 204) hx hb dX12_field_1 (by decide +kernel) (by decide +kernel) (by decide +kernel) (by decide) ?_
                                  exact b204 _ H locs ls hW hS (lv_sub hl [0] rfl) h
                                · replace h := h.2
                                  by_cases c1_16 : x1 = (113 : Int32)
                                  · replace h := h.1 c1_16
                                    rw [c1_16]
                                    refine lv_tableIn (off := 203) (tgt := 204) hx hb dX12_field_1 (by decide +kernel) (by decide +kernel) (by decide +kernel) (by decide) ?_
                                    exact b204 _ H locs ls hW hS (lv_sub hl [0] rfl) h
                                  · replace h := h.2
                                    by_cases c1_17 : x1 = (114 : Int32)
                                    · replace h := h.1 c1_17
                                      rw [c1_17]
                                      refine lv_tableIn (off := 203) (tgt := 204) hx hb dX12_field_1 (by decide +kernel) (by decide +kernel) (by decide +kernel) (by decide) ?_
                                      exact b204 _ H locs ls hW hS (lv_sub hl [0] rfl) h
                                    · replace h := h.2
                                      by_cases c1_18 : x1 = (115 : Int32)
                                      · replace h := h.1 c1_18
                                        rw [c1_18]
                                        refine lv_tableIn (off := 120) (tgt := 121) hx hb dX12_field_1 (by decide +kernel) (by decide +kernel) (by decide +kernel) (by decide) ?_
                                        refine lv_aload_n hx hb dX12_field_121 rfl (lv_at hl 0 rfl) ?_
                                        refine m_getr S hK fk_X12_19 (gr_10_5 G 0) hW (ci_10 (Nat.le_of_ble_eq_true rfl)) dX12_field_122 ?_
                                        refine lv_aload_n hx hb dX12_field_125 rfl (lv_at hl 0 rfl) ?_
                                        refine m_geti S hK fk_X12_183 (gi_10_29 G) hW (ci_10 (Nat.le_of_ble_eq_true rfl)) dX12_field_126 ?_
                                        obtain ⟨hb129, h⟩ := h
                                        refine m_ald S hK (ar_47 G) hW (ci_47 (Nat.le_of_ble_eq_true rfl)) hb129 dX12_field_129 ?_
                                        exact m_iret S hret hlocks hKX hW hbs hS rfl h dX12_field_130
                                      · replace h := h.2
                                        by_cases c1_19 : x1 = (116 : Int32)
                                        · replace h := h.1 c1_19
                                          rw [c1_19]
                                          refine lv_tableIn (off := 203) (tgt := 204) hx hb dX12_field_1 (by decide +kernel) (by decide +kernel) (by decide +kernel) (by decide) ?_
                                          exact b204 _ H locs ls hW hS (lv_sub hl [0] rfl) h
                                        · replace h := h.2
                                          by_cases c1_20 : x1 = (117 : Int32)
                                          · replace h := h.1 c1_20
                                            rw [c1_20]
                                            refine lv_tableIn (off := 203) (tgt := 204) hx hb dX12_field_1 (by decide +kernel) (by decide +kernel) (by decide +kernel) (by decide) ?_
                                            exact b204 _ H locs ls hW hS (lv_sub hl [0] rfl) h
                                          · replace h := h.2
                                            by_cases c1_21 : x1 = (118 : Int32)
                                            · replace h := h.1 c1_21
                                              rw [c1_21]
                                              refine lv_tableIn (off := 203) (tgt := 204) hx hb dX12_field_1 (by decide +kernel) (by decide +kernel) (by decide +kernel) (by decide) ?_
                                              exact b204 _ H locs ls hW hS (lv_sub hl [0] rfl) h
                                            · replace h := h.2
                                              by_cases c1_22 : x1 = (119 : Int32)
                                              · replace h := h.1 c1_22
                                                rw [c1_22]
                                                refine lv_tableIn (off := 146) (tgt := 147) hx hb dX12_field_1 (by decide +kernel) (by decide +kernel) (by decide +kernel) (by decide) ?_
                                                refine lv_aload_n hx hb dX12_field_147 rfl (lv_at hl 0 rfl) ?_
                                                refine m_geti S hK fk_X12_186 (gi_10_31 G) hW (ci_10 (Nat.le_of_ble_eq_true rfl)) dX12_field_148 ?_
                                                refine lv_bipush hx hb dX12_field_151 kb_7 ?_
                                                refine lv_idiv hx hb dX12_field_153 nz_7 ?_
                                                exact m_iret S hret hlocks hKX hW hbs hS rfl h dX12_field_154
                                              · replace h := h.2
                                                by_cases c1_23 : x1 = (120 : Int32)
                                                · replace h := h.1 c1_23
                                                  rw [c1_23]
                                                  refine lv_tableIn (off := 183) (tgt := 184) hx hb dX12_field_1 (by decide +kernel) (by decide +kernel) (by decide +kernel) (by decide) ?_
                                                  refine lv_aload_n hx hb dX12_field_184 rfl (lv_at hl 0 rfl) ?_
                                                  refine m_getr S hK fk_X12_22 (gr_10_6 G 0) hW (ci_10 (Nat.le_of_ble_eq_true rfl)) dX12_field_185 ?_
                                                  refine lv_aload_n hx hb dX12_field_188 rfl (lv_at hl 0 rfl) ?_
                                                  refine m_geti S hK fk_X12_183 (gi_10_29 G) hW (ci_10 (Nat.le_of_ble_eq_true rfl)) dX12_field_189 ?_
                                                  obtain ⟨hb192, h⟩ := h
                                                  refine m_ald S hK (ar_48 G) hW (ci_48 (Nat.le_of_ble_eq_true rfl)) hb192 dX12_field_192 ?_
                                                  exact m_iret S hret hlocks hKX hW hbs hS rfl h dX12_field_193
                                                · replace h := h.2
                                                  by_cases c1_24 : x1 = (121 : Int32)
                                                  · replace h := h.1 c1_24
                                                    rw [c1_24]
                                                    refine lv_tableIn (off := 193) (tgt := 194) hx hb dX12_field_1 (by decide +kernel) (by decide +kernel) (by decide +kernel) (by decide) ?_
                                                    refine lv_aload_n hx hb dX12_field_194 rfl (lv_at hl 0 rfl) ?_
                                                    refine m_getr S hK fk_X12_25 (gr_10_7 G 0) hW (ci_10 (Nat.le_of_ble_eq_true rfl)) dX12_field_195 ?_
                                                    refine lv_aload_n hx hb dX12_field_198 rfl (lv_at hl 0 rfl) ?_
                                                    refine m_geti S hK fk_X12_183 (gi_10_29 G) hW (ci_10 (Nat.le_of_ble_eq_true rfl)) dX12_field_199 ?_
                                                    obtain ⟨hb202, h⟩ := h
                                                    refine m_ald S hK (ar_49 G) hW (ci_49 (Nat.le_of_ble_eq_true rfl)) hb202 dX12_field_202 ?_
                                                    exact m_iret S hret hlocks hKX hW hbs hS rfl h dX12_field_203
                                                  · replace h := h.2
                                                    replace h := h c1_0 c1_1 c1_2 c1_3 c1_4 c1_5 c1_6 c1_7 c1_8 c1_9 c1_10 c1_11 c1_12 c1_13 c1_14 c1_15 c1_16 c1_17 c1_18 c1_19 c1_20 c1_21 c1_22 c1_23 c1_24
                                                    refine lv_tableOut (tgt := 204) hx hb dX12_field_1 (m_out 97 121 (fun z h1 h2 => ?_)) (by decide) ?_
                                                    · have h3 : z = 97 ∨ z = 98 ∨ z = 99 ∨ z = 100 ∨ z = 101 ∨ z = 102 ∨ z = 103 ∨ z = 104 ∨ z = 105 ∨ z = 106 ∨ z = 107 ∨ z = 108 ∨ z = 109 ∨ z = 110 ∨ z = 111 ∨ z = 112 ∨ z = 113 ∨ z = 114 ∨ z = 115 ∨ z = 116 ∨ z = 117 ∨ z = 118 ∨ z = 119 ∨ z = 120 ∨ z = 121 := by omega
                                                      rcases h3 with rfl | rfl | rfl | rfl | rfl | rfl | rfl | rfl | rfl | rfl | rfl | rfl | rfl | rfl | rfl | rfl | rfl | rfl | rfl | rfl | rfl | rfl | rfl | rfl | rfl
                                                      · exact lv_neT c1_0 (by decide +kernel)
                                                      · exact lv_neT c1_1 (by decide +kernel)
                                                      · exact lv_neT c1_2 (by decide +kernel)
                                                      · exact lv_neT c1_3 (by decide +kernel)
                                                      · exact lv_neT c1_4 (by decide +kernel)
                                                      · exact lv_neT c1_5 (by decide +kernel)
                                                      · exact lv_neT c1_6 (by decide +kernel)
                                                      · exact lv_neT c1_7 (by decide +kernel)
                                                      · exact lv_neT c1_8 (by decide +kernel)
                                                      · exact lv_neT c1_9 (by decide +kernel)
                                                      · exact lv_neT c1_10 (by decide +kernel)
                                                      · exact lv_neT c1_11 (by decide +kernel)
                                                      · exact lv_neT c1_12 (by decide +kernel)
                                                      · exact lv_neT c1_13 (by decide +kernel)
                                                      · exact lv_neT c1_14 (by decide +kernel)
                                                      · exact lv_neT c1_15 (by decide +kernel)
                                                      · exact lv_neT c1_16 (by decide +kernel)
                                                      · exact lv_neT c1_17 (by decide +kernel)
                                                      · exact lv_neT c1_18 (by decide +kernel)
                                                      · exact lv_neT c1_19 (by decide +kernel)
                                                      · exact lv_neT c1_20 (by decide +kernel)
                                                      · exact lv_neT c1_21 (by decide +kernel)
                                                      · exact lv_neT c1_22 (by decide +kernel)
                                                      · exact lv_neT c1_23 (by decide +kernel)
                                                      · exact lv_neT c1_24 (by decide +kernel)
                                                    · skip
                                                      exact b204 _ H locs ls hW hS (lv_sub hl [0] rfl) h
abbrev rm_X12_readAtom : Room := { frames := 3, cells := 0, slots := 0, locals := 69 }
set_option maxHeartbeats 4000000 in
set_option maxRecDepth 100000 in
theorem c_X12_readAtom (l : Launch) {G : Gn} {M : Mem} {P : Int32 → Mem → Prop} : MQi l yX12_readAtom cX12_readAtom 4 (some .int) rm_X12_readAtom [.ref (ad G 10 0)] G M (s_X12_readAtom M P) P := by
  refine m_enter (by decide +kernel) (Nat.le_of_ble_eq_true rfl) ?_
  intro p e s m below meth c ls H locs S hret hlocks hname hKX hbs hW hS hl h
  obtain ⟨AV, hAV⟩ : ∃ z : Array Value, z = ([.ref (ad G 10 0)] : List Value).toArray := ⟨_, rfl⟩
  rw [← hAV] at S ⊢
  replace S : CallFix p m c cX12_readAtom 4 s AV lw_G "MilkDeskModel" := S
  have hK := hKX.1
  have hx := S.1
  have hb := S.2.1
  have hml := S.2.2.1
  have hown := S.2.2.2.1
  have hts := S.2.2.2.2
  replace hl : lv_has ls 4 [(0, .ref (ad G 10 0))] := hl
  have w74 : ∀ (x1 : Int32), ∀ (n : Nat) (a : Mem × Int32 × Int32), Lz (fun (K74 : Mem × Int32 × Int32 → Prop) (a : Mem × Int32 × Int32) => s_X12_readAtom_74 x1 P K74 a.1 a.2.1 a.2.2) n a → ∀ (H : Heap) (locs : List Loc) (ls : Array Slot), WPm G a.1 H → va_S (fun q => bs G ≤ q) s.heap H locs → lv_has ls 4 [(0, .ref (ad G 10 0)), (1, .int x1), (2, .int a.2.1), (3, .int a.2.2)] → W p l e rm_X12_readAtom s m AV below meth c H locs 0 0 (MQ below (va_Qi P (WS G) (fun q => bs G ≤ q)) AV s 0 0 (fun q => bs G ≤ q)) (F0 m 74 ls []) := by
    intro x1
    refine Lz_walk ?_
    rintro K74 kk74 ⟨M, x2, x3⟩ h H locs ls hW hS hl
    replace h : s_X12_readAtom_74 x1 P K74 M x2 x3 := h
    replace hW : WPm G M H := hW
    replace hl : lv_has ls 4 [(0, .ref (ad G 10 0)), (1, .int x1), (2, .int x2), (3, .int x3)] := hl
    unfold s_X12_readAtom_74 at h
    refine lv_iload_n hx hb dX12_readAtom_74 rfl (lv_at hl 3 rfl) ?_
    refine lv_iconst hx hb dX12_readAtom_75 ki_4 ?_
    refine lv_icmp_ge (tgt := 128) hx hb dX12_readAtom_76 (by decide) (fun c76 => ?_) (fun c76 => ?_)
    · replace h := h.1 c76
      refine lv_iload_n hx hb dX12_readAtom_128 rfl (lv_at hl 2 rfl) ?_
      exact m_iret S hret hlocks hKX hW hbs hS rfl h dX12_readAtom_129
    · replace h := h.2 c76
      refine lv_iload_n hx hb dX12_readAtom_79 rfl (lv_at hl 1 rfl) ?_
      refine lv_bipush hx hb dX12_readAtom_80 kb_48 ?_
      refine lv_icmp_eq (tgt := 128) hx hb dX12_readAtom_82 (by decide) (fun c82 => ?_) (fun c82 => ?_)
      · replace h := h.1 c82
        refine lv_iload_n hx hb dX12_readAtom_128 rfl (lv_at hl 2 rfl) ?_
        exact m_iret S hret hlocks hKX hW hbs hS rfl h dX12_readAtom_129
      · replace h := h.2 c82
        refine lv_aload_n hx hb dX12_readAtom_85 rfl (lv_at hl 0 rfl) ?_
        refine m_ci0 (m_rV S hKX hW (m_szH hbs hS) (c_X12_here l ) h lk_X12_196 (m_recv hK hW (ci_10 (Nat.le_of_ble_eq_true rfl)) (rc_10 G) rfl) rfl hl.1 rfl ⟨Nat.le_of_ble_eq_true rfl, Nat.le_of_ble_eq_true rfl⟩ (Nat.le_of_ble_eq_true rfl) ⟨Nat.le_of_ble_eq_true rfl, Nat.le_of_ble_eq_true rfl⟩ dX12_readAtom_86) hS rfl rfl (fun rr86 Mm86 H locs h hW hS => ?_)
        refine lv_bipush hx hb dX12_readAtom_89 kb_48 ?_
        refine lv_bipush hx hb dX12_readAtom_91 kb_57 ?_
        refine m_ci0 (m_rS S hKX hW (m_szH hbs hS) (c_X12_in l ) h lk_X12_131 rfl hl.1 rfl ⟨Nat.le_of_ble_eq_true rfl, Nat.le_of_ble_eq_true rfl⟩ (Nat.le_of_ble_eq_true rfl) ⟨Nat.le_of_ble_eq_true rfl, Nat.le_of_ble_eq_true rfl⟩ dX12_readAtom_93) hS rfl rfl (fun rr93 Mm93 H locs h hW hS => ?_)
        refine lv_if_eq (tgt := 128) hx hb dX12_readAtom_96 (by decide) (fun c96 => ?_) (fun c96 => ?_)
        · replace h := h.1 c96
          refine lv_iload_n hx hb dX12_readAtom_128 rfl (lv_at hl 2 rfl) ?_
          exact m_iret S hret hlocks hKX hW hbs hS rfl h dX12_readAtom_129
        · replace h := h.2 c96
          refine lv_bipush hx hb dX12_readAtom_99 kb_10 ?_
          refine lv_iload_n hx hb dX12_readAtom_101 rfl (lv_at hl 2 rfl) ?_
          refine lv_imul hx hb dX12_readAtom_102 ?_
          refine lv_aload_n hx hb dX12_readAtom_103 rfl (lv_at hl 0 rfl) ?_
          refine m_ci0 (m_rV S hKX hW (m_szH hbs hS) (c_X12_here l ) h lk_X12_196 (m_recv hK hW (ci_10 (Nat.le_of_ble_eq_true rfl)) (rc_10 G) rfl) rfl hl.1 rfl ⟨Nat.le_of_ble_eq_true rfl, Nat.le_of_ble_eq_true rfl⟩ (Nat.le_of_ble_eq_true rfl) ⟨Nat.le_of_ble_eq_true rfl, Nat.le_of_ble_eq_true rfl⟩ dX12_readAtom_104) hS rfl rfl (fun rr104 Mm104 H locs h hW hS => ?_)
          refine lv_iadd hx hb dX12_readAtom_107 ?_
          refine lv_bipush hx hb dX12_readAtom_108 kb_48 ?_
          refine lv_isub hx hb dX12_readAtom_110 ?_
          refine lv_topi (fun x2_111 ex2_111 => ?_)
          replace h := h x2_111 ex2_111
          refine lv_istore_n (lv' := [(2, .int x2_111), (0, .ref (ad G 10 0)), (1, .int x1), (3, .int x3)]) hx hb dX12_readAtom_111 rfl hl (by decide) rfl (fun ls hl => ?_)
          refine lv_aload_n hx hb dX12_readAtom_112 rfl (lv_at hl 1 rfl) ?_
          refine lv_dup hx hb dX12_readAtom_113 rfl ?_
          refine m_geti S hK fk_X12_167 (gi_10_26 G) hW (ci_10 (Nat.le_of_ble_eq_true rfl)) dX12_readAtom_114 ?_
          refine lv_iconst hx hb dX12_readAtom_117 ki_1 ?_
          refine lv_iadd hx hb dX12_readAtom_118 ?_
          refine m_put S hK fk_X12_167 tyX12_ok nmX12 rfl pf_X12_26 (pv_10_26 G) hW hS (ci_10 (Nat.le_of_ble_eq_true rfl)) rfl rfl dX12_readAtom_119 (fun Mm119 eMm119 H locs hW hS => ?_)
          replace h := h Mm119 eMm119
          obtain ⟨x3_122, ex3_122⟩ : ∃ z : Int32, z = x3 + (1 : Int32) := ⟨_, rfl⟩
          replace h := h x3_122 ex3_122
          refine lv_iinc (v := x3_122) (lv' := [(3, .int x3_122), (2, .int x2_111), (0, .ref (ad G 10 0)), (1, .int x1)]) hx hb dX12_readAtom_122 hl (k := 3) rfl (by rw [ex3_122, ki_1]) (by decide) rfl (fun ls hl => ?_)
          refine lv_goto (tgt := 74) hx hb dX12_readAtom_125 (by decide) ?_
          exact kk74 _ h H locs ls hW hS (lv_sub hl [2, 3, 1, 0] rfl)
  unfold s_X12_readAtom at h
  refine lv_aload_n hx hb dX12_readAtom_0 rfl (lv_at hl 0 rfl) ?_
  refine m_ci0 (m_rV S hKX hW (m_szH hbs hS) (c_X12_here l ) h lk_X12_196 (m_recv hK hW (ci_10 (Nat.le_of_ble_eq_true rfl)) (rc_10 G) rfl) rfl hl.1 rfl ⟨Nat.le_of_ble_eq_true rfl, Nat.le_of_ble_eq_true rfl⟩ (Nat.le_of_ble_eq_true rfl) ⟨Nat.le_of_ble_eq_true rfl, Nat.le_of_ble_eq_true rfl⟩ dX12_readAtom_1) hS rfl rfl (fun rr1 Mm1 H locs h hW hS => ?_)
  refine lv_istore_n (lv' := [(1, .int rr1), (0, .ref (ad G 10 0))]) hx hb dX12_readAtom_4 rfl hl (by decide) rfl (fun ls hl => ?_)
  refine lv_iload_n hx hb dX12_readAtom_5 rfl (lv_at hl 0 rfl) ?_
  refine m_ci0 (m_rS S hKX hW (m_szH hbs hS) (c_X12_isField l ) h lk_X12_200 rfl hl.1 rfl ⟨Nat.le_of_ble_eq_true rfl, Nat.le_of_ble_eq_true rfl⟩ (Nat.le_of_ble_eq_true rfl) ⟨Nat.le_of_ble_eq_true rfl, Nat.le_of_ble_eq_true rfl⟩ dX12_readAtom_6) hS rfl rfl (fun rr6 Mm6 H locs h hW hS => ?_)
  refine lv_if_eq (tgt := 39) hx hb dX12_readAtom_9 (by decide) (fun c9 => ?_) (fun c9 => ?_)
  · replace h := h.1 c9
    refine lv_iload_n hx hb dX12_readAtom_39 rfl (lv_at hl 0 rfl) ?_
    refine lv_bipush hx hb dX12_readAtom_40 kb_48 ?_
    refine lv_bipush hx hb dX12_readAtom_42 kb_57 ?_
    refine m_ci0 (m_rS S hKX hW (m_szH hbs hS) (c_X12_in l ) h lk_X12_131 rfl hl.1 rfl ⟨Nat.le_of_ble_eq_true rfl, Nat.le_of_ble_eq_true rfl⟩ (Nat.le_of_ble_eq_true rfl) ⟨Nat.le_of_ble_eq_true rfl, Nat.le_of_ble_eq_true rfl⟩ dX12_readAtom_44) hS rfl rfl (fun rr44 Mm44 H locs h hW hS => ?_)
    refine lv_if_ne (tgt := 57) hx hb dX12_readAtom_47 (by decide) (fun c47 => ?_) (fun c47 => ?_)
    · replace h := h.1 c47
      refine lv_iload_n hx hb dX12_readAtom_57 rfl (lv_at hl 0 rfl) ?_
      refine lv_bipush hx hb dX12_readAtom_58 kb_48 ?_
      refine lv_isub hx hb dX12_readAtom_60 ?_
      refine lv_topi (fun x2_61 ex2_61 => ?_)
      replace h := h x2_61 ex2_61
      refine lv_istore_n (lv' := [(2, .int x2_61), (1, .int rr1), (0, .ref (ad G 10 0))]) hx hb dX12_readAtom_61 rfl hl (by decide) rfl (fun ls hl => ?_)
      refine lv_aload_n hx hb dX12_readAtom_62 rfl (lv_at hl 2 rfl) ?_
      refine lv_dup hx hb dX12_readAtom_63 rfl ?_
      refine m_geti S hK fk_X12_167 (gi_10_26 G) hW (ci_10 (Nat.le_of_ble_eq_true rfl)) dX12_readAtom_64 ?_
      refine lv_iconst hx hb dX12_readAtom_67 ki_1 ?_
      refine lv_iadd hx hb dX12_readAtom_68 ?_
      refine m_put S hK fk_X12_167 tyX12_ok nmX12 rfl pf_X12_26 (pv_10_26 G) hW hS (ci_10 (Nat.le_of_ble_eq_true rfl)) rfl rfl dX12_readAtom_69 (fun Mm69 eMm69 H locs hW hS => ?_)
      replace h := h Mm69 eMm69
      refine lv_iconst hx hb dX12_readAtom_72 ki_1 ?_
      refine lv_istore_n (lv' := [(3, .int (1 : Int32)), (2, .int x2_61), (1, .int rr1), (0, .ref (ad G 10 0))]) hx hb dX12_readAtom_73 rfl hl (by decide) rfl (fun ls hl => ?_)
      obtain ⟨n74, h⟩ := h
      exact w74 _ n74 _ h H locs ls hW hS (lv_sub hl [3, 2, 1, 0] rfl)
    · replace h := h.2 c47
      refine lv_aload_n hx hb dX12_readAtom_50 rfl (lv_at hl 1 rfl) ?_
      refine lv_iconst hx hb dX12_readAtom_51 ki_1 ?_
      refine m_put S hK fk_X12_206 tyX12_ok nmX12 rfl pf_X12_27 (pv_10_27 G) hW hS (ci_10 (Nat.le_of_ble_eq_true rfl)) (isB_n isB_1) (isB_f isB_1) dX12_readAtom_52 (fun Mm52 eMm52 H locs hW hS => ?_)
      replace h := h Mm52 eMm52
      refine lv_iconst hx hb dX12_readAtom_55 ki_0 ?_
      exact m_iret S hret hlocks hKX hW hbs hS rfl h dX12_readAtom_56
  · replace h := h.2 c9
    refine lv_aload_n hx hb dX12_readAtom_12 rfl (lv_at hl 1 rfl) ?_
    refine lv_dup hx hb dX12_readAtom_13 rfl ?_
    refine m_geti S hK fk_X12_167 (gi_10_26 G) hW (ci_10 (Nat.le_of_ble_eq_true rfl)) dX12_readAtom_14 ?_
    refine lv_iconst hx hb dX12_readAtom_17 ki_1 ?_
    refine lv_iadd hx hb dX12_readAtom_18 ?_
    refine m_put S hK fk_X12_167 tyX12_ok nmX12 rfl pf_X12_26 (pv_10_26 G) hW hS (ci_10 (Nat.le_of_ble_eq_true rfl)) rfl rfl dX12_readAtom_19 (fun Mm19 eMm19 H locs hW hS => ?_)
    replace h := h Mm19 eMm19
    refine lv_aload_n hx hb dX12_readAtom_22 rfl (lv_at hl 1 rfl) ?_
    refine m_geti S hK fk_X12_173 (gi_10_23 G) hW (ci_10 (Nat.le_of_ble_eq_true rfl)) dX12_readAtom_23 ?_
    refine lv_if_eq (tgt := 33) hx hb dX12_readAtom_26 (by decide) (fun c26 => ?_) (fun c26 => ?_)
    · replace h := h.1 c26
      refine lv_aload_n hx hb dX12_readAtom_33 rfl (lv_at hl 1 rfl) ?_
      refine lv_iload_n hx hb dX12_readAtom_34 rfl (lv_at hl 0 rfl) ?_
      refine m_ci0 (m_rV S hKX hW (m_szH hbs hS) (c_X12_field l ) h lk_X12_203 (m_recv hK hW (ci_10 (Nat.le_of_ble_eq_true rfl)) (rc_10 G) rfl) rfl hl.1 rfl ⟨Nat.le_of_ble_eq_true rfl, Nat.le_of_ble_eq_true rfl⟩ (Nat.le_of_ble_eq_true rfl) ⟨Nat.le_of_ble_eq_true rfl, Nat.le_of_ble_eq_true rfl⟩ dX12_readAtom_35) hS rfl rfl (fun rr35 Mm35 H locs h hW hS => ?_)
      exact m_iret S hret hlocks hKX hW hbs hS rfl h dX12_readAtom_38
    · replace h := h.2 c26
      refine lv_iconst hx hb dX12_readAtom_29 ki_0 ?_
      refine lv_goto (tgt := 38) hx hb dX12_readAtom_30 (by decide) ?_
      exact m_iret S hret hlocks hKX hW hbs hS rfl h dX12_readAtom_38
abbrev rm_X12_readSum : Room := { frames := 4, cells := 0, slots := 0, locals := 92 }
set_option maxHeartbeats 4000000 in
set_option maxRecDepth 100000 in
theorem c_X12_readSum (l : Launch) {G : Gn} {M : Mem} {P : Int32 → Mem → Prop} : MQi l yX12_readSum cX12_readSum 4 (some .int) rm_X12_readSum [.ref (ad G 10 0)] G M (s_X12_readSum M P) P := by
  refine m_enter (by decide +kernel) (Nat.le_of_ble_eq_true rfl) ?_
  intro p e s m below meth c ls H locs S hret hlocks hname hKX hbs hW hS hl h
  obtain ⟨AV, hAV⟩ : ∃ z : Array Value, z = ([.ref (ad G 10 0)] : List Value).toArray := ⟨_, rfl⟩
  rw [← hAV] at S ⊢
  replace S : CallFix p m c cX12_readSum 4 s AV lw_G "MilkDeskModel" := S
  have hK := hKX.1
  have hx := S.1
  have hb := S.2.1
  have hml := S.2.2.1
  have hown := S.2.2.2.1
  have hts := S.2.2.2.2
  replace hl : lv_has ls 4 [(0, .ref (ad G 10 0))] := hl
  have w5 : ∀ (n : Nat) (a : Mem × Int32), Lz (fun (K5 : Mem × Int32 → Prop) (a : Mem × Int32) => s_X12_readSum_5 P K5 a.1 a.2) n a → ∀ (H : Heap) (locs : List Loc) (ls : Array Slot), WPm G a.1 H → va_S (fun q => bs G ≤ q) s.heap H locs → lv_has ls 4 [(0, .ref (ad G 10 0)), (1, .int a.2)] → W p l e rm_X12_readSum s m AV below meth c H locs 0 0 (MQ below (va_Qi P (WS G) (fun q => bs G ≤ q)) AV s 0 0 (fun q => bs G ≤ q)) (F0 m 5 ls []) := by
    refine Lz_walk ?_
    rintro K5 kk5 ⟨M, x1⟩ h H locs ls hW hS hl
    replace h : s_X12_readSum_5 P K5 M x1 := h
    replace hW : WPm G M H := hW
    replace hl : lv_has ls 4 [(0, .ref (ad G 10 0)), (1, .int x1)] := hl
    have b65 : ∀ (M : Mem) (y0 : Int32) (H : Heap) (locs : List Loc) (ls : Array Slot), WPm G M H → va_S (fun q => bs G ≤ q) s.heap H locs → lv_has ls 4 [(0, .ref (ad G 10 0))] → s_X12_readSum_65 P K5 M y0 → W p l e rm_X12_readSum s m AV below meth c H locs 0 0 (MQ below (va_Qi P (WS G) (fun q => bs G ≤ q)) AV s 0 0 (fun q => bs G ≤ q)) (F0 m 65 ls [.int y0]) := by
      intro M y0 H locs ls hW hS hl h
      unfold s_X12_readSum_65 at h
      refine lv_istore_n (lv' := [(1, .int y0), (0, .ref (ad G 10 0))]) hx hb dX12_readSum_65 rfl hl (by decide) rfl (fun ls hl => ?_)
      refine lv_goto (tgt := 5) hx hb dX12_readSum_66 (by decide) ?_
      exact kk5 _ h H locs ls hW hS (lv_sub hl [1, 0] rfl)
    have b30 : ∀ (M : Mem) (x1 : Int32) (H : Heap) (locs : List Loc) (ls : Array Slot), WPm G M H → va_S (fun q => bs G ≤ q) s.heap H locs → lv_has ls 4 [(0, .ref (ad G 10 0)), (1, .int x1)] → s_X12_readSum_30 P K5 M x1 → W p l e rm_X12_readSum s m AV below meth c H locs 0 0 (MQ below (va_Qi P (WS G) (fun q => bs G ≤ q)) AV s 0 0 (fun q => bs G ≤ q)) (F0 m 30 ls []) := by
      intro M x1 H locs ls hW hS hl h
      unfold s_X12_readSum_30 at h
      refine lv_aload_n hx hb dX12_readSum_30 rfl (lv_at hl 0 rfl) ?_
      refine m_ci0 (m_rV S hKX hW (m_szH hbs hS) (c_X12_here l ) h lk_X12_196 (m_recv hK hW (ci_10 (Nat.le_of_ble_eq_true rfl)) (rc_10 G) rfl) rfl hl.1 rfl ⟨Nat.le_of_ble_eq_true rfl, Nat.le_of_ble_eq_true rfl⟩ (Nat.le_of_ble_eq_true rfl) ⟨Nat.le_of_ble_eq_true rfl, Nat.le_of_ble_eq_true rfl⟩ dX12_readSum_31) hS rfl rfl (fun rr31 Mm31 H locs h hW hS => ?_)
      refine lv_istore_n (lv' := [(2, .int rr31), (0, .ref (ad G 10 0)), (1, .int x1)]) hx hb dX12_readSum_34 rfl hl (by decide) rfl (fun ls hl => ?_)
      refine lv_aload_n hx hb dX12_readSum_35 rfl (lv_at hl 1 rfl) ?_
      refine lv_dup hx hb dX12_readSum_36 rfl ?_
      refine m_geti S hK fk_X12_167 (gi_10_26 G) hW (ci_10 (Nat.le_of_ble_eq_true rfl)) dX12_readSum_37 ?_
      refine lv_iconst hx hb dX12_readSum_40 ki_1 ?_
      refine lv_iadd hx hb dX12_readSum_41 ?_
      refine m_put S hK fk_X12_167 tyX12_ok nmX12 rfl pf_X12_26 (pv_10_26 G) hW hS (ci_10 (Nat.le_of_ble_eq_true rfl)) rfl rfl dX12_readSum_42 (fun Mm42 eMm42 H locs hW hS => ?_)
      replace h := h Mm42 eMm42
      refine lv_aload_n hx hb dX12_readSum_45 rfl (lv_at hl 1 rfl) ?_
      refine m_ci0 (m_rV S hKX hW (m_szH hbs hS) (c_X12_readAtom l ) h lk_X12_209 (m_recv hK hW (ci_10 (Nat.le_of_ble_eq_true rfl)) (rc_10 G) rfl) rfl hl.1 rfl ⟨Nat.le_of_ble_eq_true rfl, Nat.le_of_ble_eq_true rfl⟩ (Nat.le_of_ble_eq_true rfl) ⟨Nat.le_of_ble_eq_true rfl, Nat.le_of_ble_eq_true rfl⟩ dX12_readSum_46) hS rfl rfl (fun rr46 Mm46 H locs h hW hS => ?_)
      refine lv_istore_n (lv' := [(3, .int rr46), (2, .int rr31), (0, .ref (ad G 10 0)), (1, .int x1)]) hx hb dX12_readSum_49 rfl hl (by decide) rfl (fun ls hl => ?_)
      refine lv_iload_n hx hb dX12_readSum_50 rfl (lv_at hl 1 rfl) ?_
      refine lv_bipush hx hb dX12_readSum_51 kb_43 ?_
      refine lv_icmp_ne (tgt := 62) hx hb dX12_readSum_53 (by decide) (fun c53 => ?_) (fun c53 => ?_)
      · replace h := h.1 c53
        refine lv_iload_n hx hb dX12_readSum_62 rfl (lv_at hl 3 rfl) ?_
        refine lv_iload_n hx hb dX12_readSum_63 rfl (lv_at hl 0 rfl) ?_
        refine lv_isub hx hb dX12_readSum_64 ?_
        exact b65 _ _ H locs ls hW hS (lv_sub hl [2] rfl) h
      · replace h := h.2 c53
        refine lv_iload_n hx hb dX12_readSum_56 rfl (lv_at hl 3 rfl) ?_
        refine lv_iload_n hx hb dX12_readSum_57 rfl (lv_at hl 0 rfl) ?_
        refine lv_iadd hx hb dX12_readSum_58 ?_
        refine lv_goto (tgt := 65) hx hb dX12_readSum_59 (by decide) ?_
        exact b65 _ _ H locs ls hW hS (lv_sub hl [2] rfl) h
    unfold s_X12_readSum_5 at h
    refine lv_aload_n hx hb dX12_readSum_5 rfl (lv_at hl 0 rfl) ?_
    refine m_geti S hK fk_X12_206 (gi_10_27 G) hW (ci_10 (Nat.le_of_ble_eq_true rfl)) dX12_readSum_6 ?_
    refine lv_if_ne (tgt := 69) hx hb dX12_readSum_9 (by decide) (fun c9 => ?_) (fun c9 => ?_)
    · replace h := h.1 c9
      refine lv_iload_n hx hb dX12_readSum_69 rfl (lv_at hl 1 rfl) ?_
      exact m_iret S hret hlocks hKX hW hbs hS rfl h dX12_readSum_70
    · replace h := h.2 c9
      refine lv_aload_n hx hb dX12_readSum_12 rfl (lv_at hl 0 rfl) ?_
      refine m_ci0 (m_rV S hKX hW (m_szH hbs hS) (c_X12_here l ) h lk_X12_196 (m_recv hK hW (ci_10 (Nat.le_of_ble_eq_true rfl)) (rc_10 G) rfl) rfl hl.1 rfl ⟨Nat.le_of_ble_eq_true rfl, Nat.le_of_ble_eq_true rfl⟩ (Nat.le_of_ble_eq_true rfl) ⟨Nat.le_of_ble_eq_true rfl, Nat.le_of_ble_eq_true rfl⟩ dX12_readSum_13) hS rfl rfl (fun rr13 Mm13 H locs h hW hS => ?_)
      refine lv_bipush hx hb dX12_readSum_16 kb_43 ?_
      refine lv_icmp_eq (tgt := 30) hx hb dX12_readSum_18 (by decide) (fun c18 => ?_) (fun c18 => ?_)
      · replace h := h.1 c18
        exact b30 _ _ H locs ls hW hS (lv_sub hl [0, 1] rfl) h
      · replace h := h.2 c18
        refine lv_aload_n hx hb dX12_readSum_21 rfl (lv_at hl 0 rfl) ?_
        refine m_ci0 (m_rV S hKX hW (m_szH hbs hS) (c_X12_here l ) h lk_X12_196 (m_recv hK hW (ci_10 (Nat.le_of_ble_eq_true rfl)) (rc_10 G) rfl) rfl hl.1 rfl ⟨Nat.le_of_ble_eq_true rfl, Nat.le_of_ble_eq_true rfl⟩ (Nat.le_of_ble_eq_true rfl) ⟨Nat.le_of_ble_eq_true rfl, Nat.le_of_ble_eq_true rfl⟩ dX12_readSum_22) hS rfl rfl (fun rr22 Mm22 H locs h hW hS => ?_)
        refine lv_bipush hx hb dX12_readSum_25 kb_45 ?_
        refine lv_icmp_ne (tgt := 69) hx hb dX12_readSum_27 (by decide) (fun c27 => ?_) (fun c27 => ?_)
        · replace h := h.1 c27
          refine lv_iload_n hx hb dX12_readSum_69 rfl (lv_at hl 1 rfl) ?_
          exact m_iret S hret hlocks hKX hW hbs hS rfl h dX12_readSum_70
        · replace h := h.2 c27
          exact b30 _ _ H locs ls hW hS (lv_sub hl [0, 1] rfl) h
  unfold s_X12_readSum at h
  refine lv_aload_n hx hb dX12_readSum_0 rfl (lv_at hl 0 rfl) ?_
  refine m_ci0 (m_rV S hKX hW (m_szH hbs hS) (c_X12_readAtom l ) h lk_X12_209 (m_recv hK hW (ci_10 (Nat.le_of_ble_eq_true rfl)) (rc_10 G) rfl) rfl hl.1 rfl ⟨Nat.le_of_ble_eq_true rfl, Nat.le_of_ble_eq_true rfl⟩ (Nat.le_of_ble_eq_true rfl) ⟨Nat.le_of_ble_eq_true rfl, Nat.le_of_ble_eq_true rfl⟩ dX12_readSum_1) hS rfl rfl (fun rr1 Mm1 H locs h hW hS => ?_)
  refine lv_istore_n (lv' := [(1, .int rr1), (0, .ref (ad G 10 0))]) hx hb dX12_readSum_4 rfl hl (by decide) rfl (fun ls hl => ?_)
  obtain ⟨n5, h⟩ := h
  exact w5 n5 _ h H locs ls hW hS (lv_sub hl [1, 0] rfl)
abbrev rm_X12_readTest : Room := { frames := 5, cells := 0, slots := 0, locals := 115 }
set_option maxHeartbeats 4000000 in
set_option maxRecDepth 100000 in
theorem c_X12_readTest (l : Launch) {G : Gn} {M : Mem} {P : Int32 → Mem → Prop} : MQi l yX12_readTest cX12_readTest 4 (some .boolean) rm_X12_readTest [.ref (ad G 10 0)] G M (s_X12_readTest M P) P := by
  refine m_enter (by decide +kernel) (Nat.le_of_ble_eq_true rfl) ?_
  intro p e s m below meth c ls H locs S hret hlocks hname hKX hbs hW hS hl h
  obtain ⟨AV, hAV⟩ : ∃ z : Array Value, z = ([.ref (ad G 10 0)] : List Value).toArray := ⟨_, rfl⟩
  rw [← hAV] at S ⊢
  replace S : CallFix p m c cX12_readTest 4 s AV lw_G "MilkDeskModel" := S
  have hK := hKX.1
  have hx := S.1
  have hb := S.2.1
  have hml := S.2.2.1
  have hown := S.2.2.2.1
  have hts := S.2.2.2.2
  replace hl : lv_has ls 4 [(0, .ref (ad G 10 0))] := hl
  have b42 : ∀ (M : Mem) (x1 : Int32) (x2 : Int32) (H : Heap) (locs : List Loc) (ls : Array Slot), WPm G M H → va_S (fun q => bs G ≤ q) s.heap H locs → lv_has ls 4 [(0, .ref (ad G 10 0)), (1, .int x1), (2, .int x2)] → s_X12_readTest_42 P M x1 x2 → W p l e rm_X12_readTest s m AV below meth c H locs 0 0 (MQ below (va_Qi P (WS G) (fun q => bs G ≤ q)) AV s 0 0 (fun q => bs G ≤ q)) (F0 m 42 ls []) := by
    intro M x1 x2 H locs ls hW hS hl h
    unfold s_X12_readTest_42 at h
    refine lv_aload_n hx hb dX12_readTest_42 rfl (lv_at hl 0 rfl) ?_
    refine lv_dup hx hb dX12_readTest_43 rfl ?_
    refine m_geti S hK fk_X12_167 (gi_10_26 G) hW (ci_10 (Nat.le_of_ble_eq_true rfl)) dX12_readTest_44 ?_
    refine lv_iconst hx hb dX12_readTest_47 ki_1 ?_
    refine lv_iadd hx hb dX12_readTest_48 ?_
    refine m_put S hK fk_X12_167 tyX12_ok nmX12 rfl pf_X12_26 (pv_10_26 G) hW hS (ci_10 (Nat.le_of_ble_eq_true rfl)) rfl rfl dX12_readTest_49 (fun Mm49 eMm49 H locs hW hS => ?_)
    replace h := h Mm49 eMm49
    refine lv_aload_n hx hb dX12_readTest_52 rfl (lv_at hl 0 rfl) ?_
    refine m_ci0 (m_rV S hKX hW (m_szH hbs hS) (c_X12_readSum l ) h lk_X12_212 (m_recv hK hW (ci_10 (Nat.le_of_ble_eq_true rfl)) (rc_10 G) rfl) rfl hl.1 rfl ⟨Nat.le_of_ble_eq_true rfl, Nat.le_of_ble_eq_true rfl⟩ (Nat.le_of_ble_eq_true rfl) ⟨Nat.le_of_ble_eq_true rfl, Nat.le_of_ble_eq_true rfl⟩ dX12_readTest_53) hS rfl rfl (fun rr53 Mm53 H locs h hW hS => ?_)
    refine lv_istore_n (lv' := [(3, .int rr53), (0, .ref (ad G 10 0)), (1, .int x1), (2, .int x2)]) hx hb dX12_readTest_56 rfl hl (by decide) rfl (fun ls hl => ?_)
    refine lv_iload_n hx hb dX12_readTest_57 rfl (lv_at hl 3 rfl) ?_
    refine lv_bipush hx hb dX12_readTest_58 kb_60 ?_
    refine lv_icmp_ne (tgt := 76) hx hb dX12_readTest_60 (by decide) (fun c60 => ?_) (fun c60 => ?_)
    · replace h := h.1 c60
      refine lv_iload_n hx hb dX12_readTest_76 rfl (lv_at hl 3 rfl) ?_
      refine lv_bipush hx hb dX12_readTest_77 kb_62 ?_
      refine lv_icmp_ne (tgt := 95) hx hb dX12_readTest_79 (by decide) (fun c79 => ?_) (fun c79 => ?_)
      · replace h := h.1 c79
        refine lv_iload_n hx hb dX12_readTest_95 rfl (lv_at hl 2 rfl) ?_
        refine lv_iload_n hx hb dX12_readTest_96 rfl (lv_at hl 0 rfl) ?_
        refine lv_icmp_ne (tgt := 104) hx hb dX12_readTest_97 (by decide) (fun c97 => ?_) (fun c97 => ?_)
        · replace h := h.1 c97
          refine lv_iconst hx hb dX12_readTest_104 ki_0 ?_
          exact m_iret S hret hlocks hKX hW hbs hS rfl h dX12_readTest_105
        · replace h := h.2 c97
          refine lv_iconst hx hb dX12_readTest_100 ki_1 ?_
          refine lv_goto (tgt := 105) hx hb dX12_readTest_101 (by decide) ?_
          exact m_iret S hret hlocks hKX hW hbs hS rfl h dX12_readTest_105
      · replace h := h.2 c79
        refine lv_iload_n hx hb dX12_readTest_82 rfl (lv_at hl 2 rfl) ?_
        refine lv_iload_n hx hb dX12_readTest_83 rfl (lv_at hl 0 rfl) ?_
        refine lv_icmp_le (tgt := 91) hx hb dX12_readTest_84 (by decide) (fun c84 => ?_) (fun c84 => ?_)
        · replace h := h.1 c84
          refine lv_iconst hx hb dX12_readTest_91 ki_0 ?_
          refine lv_goto (tgt := 105) hx hb dX12_readTest_92 (by decide) ?_
          exact m_iret S hret hlocks hKX hW hbs hS rfl h dX12_readTest_105
        · replace h := h.2 c84
          refine lv_iconst hx hb dX12_readTest_87 ki_1 ?_
          refine lv_goto (tgt := 105) hx hb dX12_readTest_88 (by decide) ?_
          exact m_iret S hret hlocks hKX hW hbs hS rfl h dX12_readTest_105
    · replace h := h.2 c60
      refine lv_iload_n hx hb dX12_readTest_63 rfl (lv_at hl 2 rfl) ?_
      refine lv_iload_n hx hb dX12_readTest_64 rfl (lv_at hl 0 rfl) ?_
      refine lv_icmp_ge (tgt := 72) hx hb dX12_readTest_65 (by decide) (fun c65 => ?_) (fun c65 => ?_)
      · replace h := h.1 c65
        refine lv_iconst hx hb dX12_readTest_72 ki_0 ?_
        refine lv_goto (tgt := 105) hx hb dX12_readTest_73 (by decide) ?_
        exact m_iret S hret hlocks hKX hW hbs hS rfl h dX12_readTest_105
      · replace h := h.2 c65
        refine lv_iconst hx hb dX12_readTest_68 ki_1 ?_
        refine lv_goto (tgt := 105) hx hb dX12_readTest_69 (by decide) ?_
        exact m_iret S hret hlocks hKX hW hbs hS rfl h dX12_readTest_105
  have b35 : ∀ (M : Mem) (H : Heap) (locs : List Loc) (ls : Array Slot), WPm G M H → va_S (fun q => bs G ≤ q) s.heap H locs → lv_has ls 4 [(0, .ref (ad G 10 0))] → s_X12_readTest_35 P M  → W p l e rm_X12_readTest s m AV below meth c H locs 0 0 (MQ below (va_Qi P (WS G) (fun q => bs G ≤ q)) AV s 0 0 (fun q => bs G ≤ q)) (F0 m 35 ls []) := by
    intro M H locs ls hW hS hl h
    unfold s_X12_readTest_35 at h
    refine lv_aload_n hx hb dX12_readTest_35 rfl (lv_at hl 0 rfl) ?_
    refine lv_iconst hx hb dX12_readTest_36 ki_1 ?_
    refine m_put S hK fk_X12_206 tyX12_ok nmX12 rfl pf_X12_27 (pv_10_27 G) hW hS (ci_10 (Nat.le_of_ble_eq_true rfl)) (isB_n isB_1) (isB_f isB_1) dX12_readTest_37 (fun Mm37 eMm37 H locs hW hS => ?_)
    replace h := h Mm37 eMm37
    refine lv_iconst hx hb dX12_readTest_40 ki_0 ?_
    exact m_iret S hret hlocks hKX hW hbs hS rfl h dX12_readTest_41
  unfold s_X12_readTest at h
  refine lv_aload_n hx hb dX12_readTest_0 rfl (lv_at hl 0 rfl) ?_
  refine m_ci0 (m_rV S hKX hW (m_szH hbs hS) (c_X12_readSum l ) h lk_X12_212 (m_recv hK hW (ci_10 (Nat.le_of_ble_eq_true rfl)) (rc_10 G) rfl) rfl hl.1 rfl ⟨Nat.le_of_ble_eq_true rfl, Nat.le_of_ble_eq_true rfl⟩ (Nat.le_of_ble_eq_true rfl) ⟨Nat.le_of_ble_eq_true rfl, Nat.le_of_ble_eq_true rfl⟩ dX12_readTest_1) hS rfl rfl (fun rr1 Mm1 H locs h hW hS => ?_)
  refine lv_istore_n (lv' := [(1, .int rr1), (0, .ref (ad G 10 0))]) hx hb dX12_readTest_4 rfl hl (by decide) rfl (fun ls hl => ?_)
  refine lv_aload_n hx hb dX12_readTest_5 rfl (lv_at hl 1 rfl) ?_
  refine m_ci0 (m_rV S hKX hW (m_szH hbs hS) (c_X12_here l ) h lk_X12_196 (m_recv hK hW (ci_10 (Nat.le_of_ble_eq_true rfl)) (rc_10 G) rfl) rfl hl.1 rfl ⟨Nat.le_of_ble_eq_true rfl, Nat.le_of_ble_eq_true rfl⟩ (Nat.le_of_ble_eq_true rfl) ⟨Nat.le_of_ble_eq_true rfl, Nat.le_of_ble_eq_true rfl⟩ dX12_readTest_6) hS rfl rfl (fun rr6 Mm6 H locs h hW hS => ?_)
  refine lv_istore_n (lv' := [(2, .int rr6), (1, .int rr1), (0, .ref (ad G 10 0))]) hx hb dX12_readTest_9 rfl hl (by decide) rfl (fun ls hl => ?_)
  refine lv_aload_n hx hb dX12_readTest_10 rfl (lv_at hl 2 rfl) ?_
  refine m_geti S hK fk_X12_206 (gi_10_27 G) hW (ci_10 (Nat.le_of_ble_eq_true rfl)) dX12_readTest_11 ?_
  refine lv_if_ne (tgt := 35) hx hb dX12_readTest_14 (by decide) (fun c14 => ?_) (fun c14 => ?_)
  · replace h := h.1 c14
    exact b35 _ H locs ls hW hS (lv_sub hl [2] rfl) h
  · replace h := h.2 c14
    refine lv_iload_n hx hb dX12_readTest_17 rfl (lv_at hl 0 rfl) ?_
    refine lv_bipush hx hb dX12_readTest_18 kb_60 ?_
    refine lv_icmp_eq (tgt := 42) hx hb dX12_readTest_20 (by decide) (fun c20 => ?_) (fun c20 => ?_)
    · replace h := h.1 c20
      exact b42 _ _ _ H locs ls hW hS (lv_sub hl [2, 1, 0] rfl) h
    · replace h := h.2 c20
      refine lv_iload_n hx hb dX12_readTest_23 rfl (lv_at hl 0 rfl) ?_
      refine lv_bipush hx hb dX12_readTest_24 kb_62 ?_
      refine lv_icmp_eq (tgt := 42) hx hb dX12_readTest_26 (by decide) (fun c26 => ?_) (fun c26 => ?_)
      · replace h := h.1 c26
        exact b42 _ _ _ H locs ls hW hS (lv_sub hl [2, 1, 0] rfl) h
      · replace h := h.2 c26
        refine lv_iload_n hx hb dX12_readTest_29 rfl (lv_at hl 0 rfl) ?_
        refine lv_bipush hx hb dX12_readTest_30 kb_61 ?_
        refine lv_icmp_eq (tgt := 42) hx hb dX12_readTest_32 (by decide) (fun c32 => ?_) (fun c32 => ?_)
        · replace h := h.1 c32
          exact b42 _ _ _ H locs ls hW hS (lv_sub hl [2, 1, 0] rfl) h
        · replace h := h.2 c32
          exact b35 _ H locs ls hW hS (lv_sub hl [2] rfl) h
abbrev rm_X12_topSign : Room := { frames := 0, cells := 0, slots := 0, locals := 0 }
set_option maxHeartbeats 4000000 in
set_option maxRecDepth 100000 in
theorem c_X12_topSign (l : Launch) {G : Gn} {M : Mem} {P : Int32 → Mem → Prop} : MQi l yX12_topSign cX12_topSign 1 (some .int) rm_X12_topSign [.ref (ad G 10 0)] G M (s_X12_topSign M P) P := by
  refine m_enter (by decide +kernel) (Nat.le_of_ble_eq_true rfl) ?_
  intro p e s m below meth c ls H locs S hret hlocks hname hKX hbs hW hS hl h
  obtain ⟨AV, hAV⟩ : ∃ z : Array Value, z = ([.ref (ad G 10 0)] : List Value).toArray := ⟨_, rfl⟩
  rw [← hAV] at S ⊢
  replace S : CallFix p m c cX12_topSign 1 s AV lw_G "MilkDeskModel" := S
  have hK := hKX.1
  have hx := S.1
  have hb := S.2.1
  have hml := S.2.2.1
  have hown := S.2.2.2.1
  have hts := S.2.2.2.2
  replace hl : lv_has ls 1 [(0, .ref (ad G 10 0))] := hl
  unfold s_X12_topSign at h
  refine lv_aload_n hx hb dX12_topSign_0 rfl (lv_at hl 0 rfl) ?_
  refine m_geti S hK fk_X12_215 (gi_10_35 G) hW (ci_10 (Nat.le_of_ble_eq_true rfl)) dX12_topSign_1 ?_
  refine lv_if_ne (tgt := 11) hx hb dX12_topSign_4 (by decide) (fun c4 => ?_) (fun c4 => ?_)
  · replace h := h.1 c4
    refine lv_aload_n hx hb dX12_topSign_11 rfl (lv_at hl 0 rfl) ?_
    refine m_getr S hK fk_X12_78 (gr_10_34 G 0) hW (ci_10 (Nat.le_of_ble_eq_true rfl)) dX12_topSign_12 ?_
    refine lv_aload_n hx hb dX12_topSign_15 rfl (lv_at hl 0 rfl) ?_
    refine m_geti S hK fk_X12_215 (gi_10_35 G) hW (ci_10 (Nat.le_of_ble_eq_true rfl)) dX12_topSign_16 ?_
    refine lv_iconst hx hb dX12_topSign_19 ki_1 ?_
    refine lv_isub hx hb dX12_topSign_20 ?_
    obtain ⟨hb21, h⟩ := h
    refine m_ald S hK (ar_65 G) hW (ci_65 (Nat.le_of_ble_eq_true rfl)) hb21 dX12_topSign_21 ?_
    exact m_iret S hret hlocks hKX hW hbs hS rfl h dX12_topSign_22
  · replace h := h.2 c4
    refine lv_iconst hx hb dX12_topSign_7 ki_0 ?_
    refine lv_goto (tgt := 22) hx hb dX12_topSign_8 (by decide) ?_
    exact m_iret S hret hlocks hKX hW hbs hS rfl h dX12_topSign_22
abbrev rm_X12_testEnds : Room := { frames := 1, cells := 0, slots := 0, locals := 20 }
set_option maxHeartbeats 4000000 in
set_option maxRecDepth 100000 in
theorem c_X12_testEnds (l : Launch) {G : Gn} {M : Mem} {P : Mem → Prop} : MQv l yX12_testEnds cX12_testEnds 1 none rm_X12_testEnds [.ref (ad G 10 0)] G M (s_X12_testEnds M P) P := by
  refine m_enter (by decide +kernel) (Nat.le_of_ble_eq_true rfl) ?_
  intro p e s m below meth c ls H locs S hret hlocks hname hKX hbs hW hS hl h
  obtain ⟨AV, hAV⟩ : ∃ z : Array Value, z = ([.ref (ad G 10 0)] : List Value).toArray := ⟨_, rfl⟩
  rw [← hAV] at S ⊢
  replace S : CallFix p m c cX12_testEnds 1 s AV lw_G "MilkDeskModel" := S
  have hK := hKX.1
  have hx := S.1
  have hb := S.2.1
  have hml := S.2.2.1
  have hown := S.2.2.2.1
  have hts := S.2.2.2.2
  replace hl : lv_has ls 1 [(0, .ref (ad G 10 0))] := hl
  have w0 : ∀ (n : Nat) (a : Mem), Lz (fun (K0 : Mem → Prop) (a : Mem) => s_X12_testEnds_0 P K0 a) n a → ∀ (H : Heap) (locs : List Loc) (ls : Array Slot), WPm G a H → va_S (fun q => bs G ≤ q) s.heap H locs → lv_has ls 1 [(0, .ref (ad G 10 0))] → W p l e rm_X12_testEnds s m AV below meth c H locs 0 0 (MQ below (va_Qv P (WS G) (fun q => bs G ≤ q)) AV s 0 0 (fun q => bs G ≤ q)) (F0 m 0 ls []) := by
    refine Lz_walk ?_
    rintro K0 kk0 M h H locs ls hW hS hl
    replace h : s_X12_testEnds_0 P K0 M  := h
    replace hW : WPm G M H := hW
    replace hl : lv_has ls 1 [(0, .ref (ad G 10 0))] := hl
    have b38 : ∀ (M : Mem) (y0 : Int32) (y1 : Int32) (H : Heap) (locs : List Loc) (ls : Array Slot), WPm G M H → va_S (fun q => bs G ≤ q) s.heap H locs → lv_has ls 1 [(0, .ref (ad G 10 0))] → s_X12_testEnds_38 P K0 M y0 y1 → W p l e rm_X12_testEnds s m AV below meth c H locs 0 0 (MQ below (va_Qv P (WS G) (fun q => bs G ≤ q)) AV s 0 0 (fun q => bs G ≤ q)) (F0 m 38 ls [.int y0, .int y1, .ref (ad G 64 0)]) := by
      intro M y0 y1 H locs ls hW hS hl h
      unfold s_X12_testEnds_38 at h
      obtain ⟨hb38, h⟩ := h
      refine m_zast S hK (ar_64 G) hW hS (ci_64 (Nat.le_of_ble_eq_true rfl)) hb38 dX12_testEnds_38 (fun Mm38 eMm38 H locs hW hS => ?_)
      replace h := h Mm38 eMm38
      refine lv_aload_n hx hb dX12_testEnds_39 rfl (lv_at hl 0 rfl) ?_
      refine lv_dup hx hb dX12_testEnds_40 rfl ?_
      refine m_geti S hK fk_X12_215 (gi_10_35 G) hW (ci_10 (Nat.le_of_ble_eq_true rfl)) dX12_testEnds_41 ?_
      refine lv_iconst hx hb dX12_testEnds_44 ki_1 ?_
      refine lv_isub hx hb dX12_testEnds_45 ?_
      refine m_put S hK fk_X12_215 tyX12_ok nmX12 rfl pf_X12_35 (pv_10_35 G) hW hS (ci_10 (Nat.le_of_ble_eq_true rfl)) rfl rfl dX12_testEnds_46 (fun Mm46 eMm46 H locs hW hS => ?_)
      replace h := h Mm46 eMm46
      refine lv_goto (tgt := 0) hx hb dX12_testEnds_49 (by decide) ?_
      exact kk0 _ h H locs ls hW hS (lv_sub hl [0] rfl)
    unfold s_X12_testEnds_0 at h
    refine lv_aload_n hx hb dX12_testEnds_0 rfl (lv_at hl 0 rfl) ?_
    refine m_ci0 (m_rV S hKX hW (m_szH hbs hS) (c_X12_topSign l ) h lk_X12_218 (m_recv hK hW (ci_10 (Nat.le_of_ble_eq_true rfl)) (rc_10 G) rfl) rfl hl.1 rfl ⟨Nat.le_of_ble_eq_true rfl, Nat.le_of_ble_eq_true rfl⟩ (Nat.le_of_ble_eq_true rfl) ⟨Nat.le_of_ble_eq_true rfl, Nat.le_of_ble_eq_true rfl⟩ dX12_testEnds_1) hS rfl rfl (fun rr1 Mm1 H locs h hW hS => ?_)
    refine lv_bipush hx hb dX12_testEnds_4 kb_33 ?_
    refine lv_icmp_ne (tgt := 52) hx hb dX12_testEnds_6 (by decide) (fun c6 => ?_) (fun c6 => ?_)
    · replace h := h.1 c6
      exact m_vret S hret hlocks hKX hW hbs hS h dX12_testEnds_52
    · replace h := h.2 c6
      refine lv_aload_n hx hb dX12_testEnds_9 rfl (lv_at hl 0 rfl) ?_
      refine m_getr S hK fk_X12_74 (gr_10_32 G 0) hW (ci_10 (Nat.le_of_ble_eq_true rfl)) dX12_testEnds_10 ?_
      refine lv_aload_n hx hb dX12_testEnds_13 rfl (lv_at hl 0 rfl) ?_
      refine m_geti S hK fk_X12_221 (gi_10_33 G) hW (ci_10 (Nat.le_of_ble_eq_true rfl)) dX12_testEnds_14 ?_
      refine lv_iconst hx hb dX12_testEnds_17 ki_1 ?_
      refine lv_isub hx hb dX12_testEnds_18 ?_
      refine lv_aload_n hx hb dX12_testEnds_19 rfl (lv_at hl 0 rfl) ?_
      refine m_getr S hK fk_X12_74 (gr_10_32 G 0) hW (ci_10 (Nat.le_of_ble_eq_true rfl)) dX12_testEnds_20 ?_
      refine lv_aload_n hx hb dX12_testEnds_23 rfl (lv_at hl 0 rfl) ?_
      refine m_geti S hK fk_X12_221 (gi_10_33 G) hW (ci_10 (Nat.le_of_ble_eq_true rfl)) dX12_testEnds_24 ?_
      refine lv_iconst hx hb dX12_testEnds_27 ki_1 ?_
      refine lv_isub hx hb dX12_testEnds_28 ?_
      obtain ⟨hb29, h⟩ := h
      refine m_zald S hK (ar_64 G) hW (ci_64 (Nat.le_of_ble_eq_true rfl)) hb29 dX12_testEnds_29 ?_
      refine lv_if_ne (tgt := 37) hx hb dX12_testEnds_30 (by decide) (fun c30 => ?_) (fun c30 => ?_)
      · replace h := h.1 c30
        refine lv_iconst hx hb dX12_testEnds_37 ki_0 ?_
        exact b38 _ _ _ H locs ls hW hS (lv_sub hl [0] rfl) h
      · replace h := h.2 c30
        refine lv_iconst hx hb dX12_testEnds_33 ki_1 ?_
        refine lv_goto (tgt := 38) hx hb dX12_testEnds_34 (by decide) ?_
        exact b38 _ _ _ H locs ls hW hS (lv_sub hl [0] rfl) h
  unfold s_X12_testEnds at h
  obtain ⟨n0, h⟩ := h
  exact w0 n0 _ h H locs ls hW hS (lv_sub hl [0] rfl)
abbrev rm_X12_join : Room := { frames := 1, cells := 0, slots := 0, locals := 20 }
set_option maxHeartbeats 4000000 in
set_option maxRecDepth 100000 in
theorem c_X12_join (l : Launch) {G : Gn} {M : Mem} {x1 : Int32} {P : Mem → Prop} : MQv l yX12_join cX12_join 2 none rm_X12_join [.ref (ad G 10 0), .int x1] G M (s_X12_join M x1 P) P := by
  refine m_enter (by decide +kernel) (Nat.le_of_ble_eq_true rfl) ?_
  intro p e s m below meth c ls H locs S hret hlocks hname hKX hbs hW hS hl h
  obtain ⟨AV, hAV⟩ : ∃ z : Array Value, z = ([.ref (ad G 10 0), .int x1] : List Value).toArray := ⟨_, rfl⟩
  rw [← hAV] at S ⊢
  replace S : CallFix p m c cX12_join 2 s AV lw_G "MilkDeskModel" := S
  have hK := hKX.1
  have hx := S.1
  have hb := S.2.1
  have hml := S.2.2.1
  have hown := S.2.2.2.1
  have hts := S.2.2.2.2
  replace hl : lv_has ls 2 [(0, .ref (ad G 10 0)), (1, .int x1)] := hl
  have w0 : ∀ (n : Nat) (a : Mem), Lz (fun (K0 : Mem → Prop) (a : Mem) => s_X12_join_0 x1 P K0 a) n a → ∀ (H : Heap) (locs : List Loc) (ls : Array Slot), WPm G a H → va_S (fun q => bs G ≤ q) s.heap H locs → lv_has ls 2 [(0, .ref (ad G 10 0)), (1, .int x1)] → W p l e rm_X12_join s m AV below meth c H locs 0 0 (MQ below (va_Qv P (WS G) (fun q => bs G ≤ q)) AV s 0 0 (fun q => bs G ≤ q)) (F0 m 0 ls []) := by
    refine Lz_walk ?_
    rintro K0 kk0 M h H locs ls hW hS hl
    replace h : s_X12_join_0 x1 P K0 M  := h
    replace hW : WPm G M H := hW
    replace hl : lv_has ls 2 [(0, .ref (ad G 10 0)), (1, .int x1)] := hl
    have b99 : ∀ (M : Mem) (y0 : Int32) (y1 : Int32) (H : Heap) (locs : List Loc) (ls : Array Slot), WPm G M H → va_S (fun q => bs G ≤ q) s.heap H locs → lv_has ls 2 [(0, .ref (ad G 10 0)), (1, .int x1)] → s_X12_join_99 x1 P K0 M y0 y1 → W p l e rm_X12_join s m AV below meth c H locs 0 0 (MQ below (va_Qv P (WS G) (fun q => bs G ≤ q)) AV s 0 0 (fun q => bs G ≤ q)) (F0 m 99 ls [.int y0, .int y1, .ref (ad G 64 0)]) := by
      intro M y0 y1 H locs ls hW hS hl h
      unfold s_X12_join_99 at h
      obtain ⟨hb99, h⟩ := h
      refine m_zast S hK (ar_64 G) hW hS (ci_64 (Nat.le_of_ble_eq_true rfl)) hb99 dX12_join_99 (fun Mm99 eMm99 H locs hW hS => ?_)
      replace h := h Mm99 eMm99
      refine lv_aload_n hx hb dX12_join_100 rfl (lv_at hl 0 rfl) ?_
      refine lv_dup hx hb dX12_join_101 rfl ?_
      refine m_geti S hK fk_X12_215 (gi_10_35 G) hW (ci_10 (Nat.le_of_ble_eq_true rfl)) dX12_join_102 ?_
      refine lv_iconst hx hb dX12_join_105 ki_1 ?_
      refine lv_isub hx hb dX12_join_106 ?_
      refine m_put S hK fk_X12_215 tyX12_ok nmX12 rfl pf_X12_35 (pv_10_35 G) hW hS (ci_10 (Nat.le_of_ble_eq_true rfl)) rfl rfl dX12_join_107 (fun Mm107 eMm107 H locs hW hS => ?_)
      replace h := h Mm107 eMm107
      refine lv_goto (tgt := 0) hx hb dX12_join_110 (by decide) ?_
      exact kk0 _ h H locs ls hW hS (lv_sub hl [0, 1] rfl)
    unfold s_X12_join_0 at h
    refine lv_aload_n hx hb dX12_join_0 rfl (lv_at hl 0 rfl) ?_
    refine m_ci0 (m_rV S hKX hW (m_szH hbs hS) (c_X12_topSign l ) h lk_X12_218 (m_recv hK hW (ci_10 (Nat.le_of_ble_eq_true rfl)) (rc_10 G) rfl) rfl hl.1 rfl ⟨Nat.le_of_ble_eq_true rfl, Nat.le_of_ble_eq_true rfl⟩ (Nat.le_of_ble_eq_true rfl) ⟨Nat.le_of_ble_eq_true rfl, Nat.le_of_ble_eq_true rfl⟩ dX12_join_1) hS rfl rfl (fun rr1 Mm1 H locs h hW hS => ?_)
    refine lv_iload_n hx hb dX12_join_4 rfl (lv_at hl 1 rfl) ?_
    refine lv_icmp_ne (tgt := 113) hx hb dX12_join_5 (by decide) (fun c5 => ?_) (fun c5 => ?_)
    · replace h := h.1 c5
      exact m_vret S hret hlocks hKX hW hbs hS h dX12_join_113
    · replace h := h.2 c5
      refine lv_aload_n hx hb dX12_join_8 rfl (lv_at hl 0 rfl) ?_
      refine lv_dup hx hb dX12_join_9 rfl ?_
      refine m_geti S hK fk_X12_221 (gi_10_33 G) hW (ci_10 (Nat.le_of_ble_eq_true rfl)) dX12_join_10 ?_
      refine lv_iconst hx hb dX12_join_13 ki_1 ?_
      refine lv_isub hx hb dX12_join_14 ?_
      refine m_put S hK fk_X12_221 tyX12_ok nmX12 rfl pf_X12_33 (pv_10_33 G) hW hS (ci_10 (Nat.le_of_ble_eq_true rfl)) rfl rfl dX12_join_15 (fun Mm15 eMm15 H locs hW hS => ?_)
      replace h := h Mm15 eMm15
      refine lv_aload_n hx hb dX12_join_18 rfl (lv_at hl 0 rfl) ?_
      refine m_getr S hK fk_X12_74 (gr_10_32 G 0) hW (ci_10 (Nat.le_of_ble_eq_true rfl)) dX12_join_19 ?_
      refine lv_aload_n hx hb dX12_join_22 rfl (lv_at hl 0 rfl) ?_
      refine m_geti S hK fk_X12_221 (gi_10_33 G) hW (ci_10 (Nat.le_of_ble_eq_true rfl)) dX12_join_23 ?_
      refine lv_iconst hx hb dX12_join_26 ki_1 ?_
      refine lv_isub hx hb dX12_join_27 ?_
      refine lv_iload_n hx hb dX12_join_28 rfl (lv_at hl 1 rfl) ?_
      refine lv_bipush hx hb dX12_join_29 kb_38 ?_
      refine lv_icmp_ne (tgt := 68) hx hb dX12_join_31 (by decide) (fun c31 => ?_) (fun c31 => ?_)
      · replace h := h.1 c31
        refine lv_aload_n hx hb dX12_join_68 rfl (lv_at hl 0 rfl) ?_
        refine m_getr S hK fk_X12_74 (gr_10_32 G 0) hW (ci_10 (Nat.le_of_ble_eq_true rfl)) dX12_join_69 ?_
        refine lv_aload_n hx hb dX12_join_72 rfl (lv_at hl 0 rfl) ?_
        refine m_geti S hK fk_X12_221 (gi_10_33 G) hW (ci_10 (Nat.le_of_ble_eq_true rfl)) dX12_join_73 ?_
        refine lv_iconst hx hb dX12_join_76 ki_1 ?_
        refine lv_isub hx hb dX12_join_77 ?_
        obtain ⟨hb78, h⟩ := h
        refine m_zald S hK (ar_64 G) hW (ci_64 (Nat.le_of_ble_eq_true rfl)) hb78 dX12_join_78 ?_
        refine lv_if_ne (tgt := 94) hx hb dX12_join_79 (by decide) (fun c79 => ?_) (fun c79 => ?_)
        · replace h := h.1 c79
          refine lv_iconst hx hb dX12_join_94 ki_1 ?_
          refine lv_goto (tgt := 99) hx hb dX12_join_95 (by decide) ?_
          exact b99 _ _ _ H locs ls hW hS (lv_sub hl [0, 1] rfl) h
        · replace h := h.2 c79
          refine lv_aload_n hx hb dX12_join_82 rfl (lv_at hl 0 rfl) ?_
          refine m_getr S hK fk_X12_74 (gr_10_32 G 0) hW (ci_10 (Nat.le_of_ble_eq_true rfl)) dX12_join_83 ?_
          refine lv_aload_n hx hb dX12_join_86 rfl (lv_at hl 0 rfl) ?_
          refine m_geti S hK fk_X12_221 (gi_10_33 G) hW (ci_10 (Nat.le_of_ble_eq_true rfl)) dX12_join_87 ?_
          obtain ⟨hb90, h⟩ := h
          refine m_zald S hK (ar_64 G) hW (ci_64 (Nat.le_of_ble_eq_true rfl)) hb90 dX12_join_90 ?_
          refine lv_if_eq (tgt := 98) hx hb dX12_join_91 (by decide) (fun c91 => ?_) (fun c91 => ?_)
          · replace h := h.1 c91
            refine lv_iconst hx hb dX12_join_98 ki_0 ?_
            exact b99 _ _ _ H locs ls hW hS (lv_sub hl [0, 1] rfl) h
          · replace h := h.2 c91
            refine lv_iconst hx hb dX12_join_94 ki_1 ?_
            refine lv_goto (tgt := 99) hx hb dX12_join_95 (by decide) ?_
            exact b99 _ _ _ H locs ls hW hS (lv_sub hl [0, 1] rfl) h
      · replace h := h.2 c31
        refine lv_aload_n hx hb dX12_join_34 rfl (lv_at hl 0 rfl) ?_
        refine m_getr S hK fk_X12_74 (gr_10_32 G 0) hW (ci_10 (Nat.le_of_ble_eq_true rfl)) dX12_join_35 ?_
        refine lv_aload_n hx hb dX12_join_38 rfl (lv_at hl 0 rfl) ?_
        refine m_geti S hK fk_X12_221 (gi_10_33 G) hW (ci_10 (Nat.le_of_ble_eq_true rfl)) dX12_join_39 ?_
        refine lv_iconst hx hb dX12_join_42 ki_1 ?_
        refine lv_isub hx hb dX12_join_43 ?_
        obtain ⟨hb44, h⟩ := h
        refine m_zald S hK (ar_64 G) hW (ci_64 (Nat.le_of_ble_eq_true rfl)) hb44 dX12_join_44 ?_
        refine lv_if_eq (tgt := 64) hx hb dX12_join_45 (by decide) (fun c45 => ?_) (fun c45 => ?_)
        · replace h := h.1 c45
          refine lv_iconst hx hb dX12_join_64 ki_0 ?_
          refine lv_goto (tgt := 99) hx hb dX12_join_65 (by decide) ?_
          exact b99 _ _ _ H locs ls hW hS (lv_sub hl [0, 1] rfl) h
        · replace h := h.2 c45
          refine lv_aload_n hx hb dX12_join_48 rfl (lv_at hl 0 rfl) ?_
          refine m_getr S hK fk_X12_74 (gr_10_32 G 0) hW (ci_10 (Nat.le_of_ble_eq_true rfl)) dX12_join_49 ?_
          refine lv_aload_n hx hb dX12_join_52 rfl (lv_at hl 0 rfl) ?_
          refine m_geti S hK fk_X12_221 (gi_10_33 G) hW (ci_10 (Nat.le_of_ble_eq_true rfl)) dX12_join_53 ?_
          obtain ⟨hb56, h⟩ := h
          refine m_zald S hK (ar_64 G) hW (ci_64 (Nat.le_of_ble_eq_true rfl)) hb56 dX12_join_56 ?_
          refine lv_if_eq (tgt := 64) hx hb dX12_join_57 (by decide) (fun c57 => ?_) (fun c57 => ?_)
          · replace h := h.1 c57
            refine lv_iconst hx hb dX12_join_64 ki_0 ?_
            refine lv_goto (tgt := 99) hx hb dX12_join_65 (by decide) ?_
            exact b99 _ _ _ H locs ls hW hS (lv_sub hl [0, 1] rfl) h
          · replace h := h.2 c57
            refine lv_iconst hx hb dX12_join_60 ki_1 ?_
            refine lv_goto (tgt := 99) hx hb dX12_join_61 (by decide) ?_
            exact b99 _ _ _ H locs ls hW hS (lv_sub hl [0, 1] rfl) h
  unfold s_X12_join at h
  obtain ⟨n0, h⟩ := h
  exact w0 n0 _ h H locs ls hW hS (lv_sub hl [0, 1] rfl)
abbrev rm_X12_readOr : Room := { frames := 6, cells := 0, slots := 0, locals := 138 }
set_option maxHeartbeats 4000000 in
set_option maxRecDepth 100000 in
theorem c_X12_readOr (l : Launch) {G : Gn} {M : Mem} {x1 : Int32} {P : Int32 → Mem → Prop} : MQi l yX12_readOr cX12_readOr 5 (some .boolean) rm_X12_readOr [.ref (ad G 10 0), .int x1] G M (s_X12_readOr M x1 P) P := by
  refine m_enter (by decide +kernel) (Nat.le_of_ble_eq_true rfl) ?_
  intro p e s m below meth c ls H locs S hret hlocks hname hKX hbs hW hS hl h
  obtain ⟨AV, hAV⟩ : ∃ z : Array Value, z = ([.ref (ad G 10 0), .int x1] : List Value).toArray := ⟨_, rfl⟩
  rw [← hAV] at S ⊢
  replace S : CallFix p m c cX12_readOr 5 s AV lw_G "MilkDeskModel" := S
  have hK := hKX.1
  have hx := S.1
  have hb := S.2.1
  have hml := S.2.2.1
  have hown := S.2.2.2.1
  have hts := S.2.2.2.2
  replace hl : lv_has ls 5 [(0, .ref (ad G 10 0)), (1, .int x1)] := hl
  have b409 : ∀ (M : Mem) (H : Heap) (locs : List Loc) (ls : Array Slot), WPm G M H → va_S (fun q => bs G ≤ q) s.heap H locs → lv_has ls 5 [(0, .ref (ad G 10 0))] → s_X12_readOr_409 P M  → W p l e rm_X12_readOr s m AV below meth c H locs 0 0 (MQ below (va_Qi P (WS G) (fun q => bs G ≤ q)) AV s 0 0 (fun q => bs G ≤ q)) (F0 m 409 ls []) := by
    intro M H locs ls hW hS hl h
    unfold s_X12_readOr_409 at h
    refine lv_aload_n hx hb dX12_readOr_409 rfl (lv_at hl 0 rfl) ?_
    refine m_geti S hK fk_X12_206 (gi_10_27 G) hW (ci_10 (Nat.le_of_ble_eq_true rfl)) dX12_readOr_410 ?_
    refine lv_if_ne (tgt := 429) hx hb dX12_readOr_413 (by decide) (fun c413 => ?_) (fun c413 => ?_)
    · replace h := h.1 c413
      refine lv_iconst hx hb dX12_readOr_429 ki_0 ?_
      exact m_iret S hret hlocks hKX hW hbs hS rfl h dX12_readOr_430
    · replace h := h.2 c413
      refine lv_aload_n hx hb dX12_readOr_416 rfl (lv_at hl 0 rfl) ?_
      refine m_getr S hK fk_X12_74 (gr_10_32 G 0) hW (ci_10 (Nat.le_of_ble_eq_true rfl)) dX12_readOr_417 ?_
      refine lv_iconst hx hb dX12_readOr_420 ki_0 ?_
      refine m_zaldk S hK (ar_64 G) hW (ci_64 (Nat.le_of_ble_eq_true rfl)) kn_0 (Nat.le_of_ble_eq_true rfl) dX12_readOr_421 ?_
      refine lv_if_eq (tgt := 429) hx hb dX12_readOr_422 (by decide) (fun c422 => ?_) (fun c422 => ?_)
      · replace h := h.1 c422
        refine lv_iconst hx hb dX12_readOr_429 ki_0 ?_
        exact m_iret S hret hlocks hKX hW hbs hS rfl h dX12_readOr_430
      · replace h := h.2 c422
        refine lv_iconst hx hb dX12_readOr_425 ki_1 ?_
        refine lv_goto (tgt := 430) hx hb dX12_readOr_426 (by decide) ?_
        exact m_iret S hret hlocks hKX hW hbs hS rfl h dX12_readOr_430
  have b406 : ∀ (M : Mem) (y0 : Int32) (H : Heap) (locs : List Loc) (ls : Array Slot), WPm G M H → va_S (fun q => bs G ≤ q) s.heap H locs → lv_has ls 5 [(0, .ref (ad G 10 0))] → s_X12_readOr_406 P M y0 → W p l e rm_X12_readOr s m AV below meth c H locs 0 0 (MQ below (va_Qi P (WS G) (fun q => bs G ≤ q)) AV s 0 0 (fun q => bs G ≤ q)) (F0 m 406 ls [.int y0, .ref (ad G 10 0)]) := by
    intro M y0 H locs ls hW hS hl h
    unfold s_X12_readOr_406 at h
    obtain ⟨hn406, h⟩ := h
    refine m_put S hK fk_X12_206 tyX12_ok nmX12 rfl pf_X12_27 (pv_10_27 G) hW hS (ci_10 (Nat.le_of_ble_eq_true rfl)) (isB_n hn406) (isB_f hn406) dX12_readOr_406 (fun Mm406 eMm406 H locs hW hS => ?_)
    replace h := h Mm406 eMm406
    exact b409 _ H locs ls hW hS (lv_sub hl [0] rfl) h
  have b374 : ∀ (M : Mem) (H : Heap) (locs : List Loc) (ls : Array Slot), WPm G M H → va_S (fun q => bs G ≤ q) s.heap H locs → lv_has ls 5 [(0, .ref (ad G 10 0))] → s_X12_readOr_374 P M  → W p l e rm_X12_readOr s m AV below meth c H locs 0 0 (MQ below (va_Qi P (WS G) (fun q => bs G ≤ q)) AV s 0 0 (fun q => bs G ≤ q)) (F0 m 374 ls []) := by
    intro M H locs ls hW hS hl h
    unfold s_X12_readOr_374 at h
    refine lv_aload_n hx hb dX12_readOr_374 rfl (lv_at hl 0 rfl) ?_
    refine m_geti S hK fk_X12_206 (gi_10_27 G) hW (ci_10 (Nat.le_of_ble_eq_true rfl)) dX12_readOr_375 ?_
    refine lv_if_ne (tgt := 409) hx hb dX12_readOr_378 (by decide) (fun c378 => ?_) (fun c378 => ?_)
    · replace h := h.1 c378
      exact b409 _ H locs ls hW hS (lv_sub hl [0] rfl) h
    · replace h := h.2 c378
      refine lv_aload_n hx hb dX12_readOr_381 rfl (lv_at hl 0 rfl) ?_
      refine lv_bipush hx hb dX12_readOr_382 kb_38 ?_
      refine m_cv0 (m_rV S hKX hW (m_szH hbs hS) (c_X12_join l ) h lk_X12_234 (m_recv hK hW (ci_10 (Nat.le_of_ble_eq_true rfl)) (rc_10 G) rfl) rfl hl.1 rfl ⟨Nat.le_of_ble_eq_true rfl, Nat.le_of_ble_eq_true rfl⟩ (Nat.le_of_ble_eq_true rfl) ⟨Nat.le_of_ble_eq_true rfl, Nat.le_of_ble_eq_true rfl⟩ dX12_readOr_384) hS rfl rfl (fun Mm384 H locs h hW hS => ?_)
      refine lv_aload_n hx hb dX12_readOr_387 rfl (lv_at hl 0 rfl) ?_
      refine lv_bipush hx hb dX12_readOr_388 kb_124 ?_
      refine m_cv0 (m_rV S hKX hW (m_szH hbs hS) (c_X12_join l ) h lk_X12_234 (m_recv hK hW (ci_10 (Nat.le_of_ble_eq_true rfl)) (rc_10 G) rfl) rfl hl.1 rfl ⟨Nat.le_of_ble_eq_true rfl, Nat.le_of_ble_eq_true rfl⟩ (Nat.le_of_ble_eq_true rfl) ⟨Nat.le_of_ble_eq_true rfl, Nat.le_of_ble_eq_true rfl⟩ dX12_readOr_390) hS rfl rfl (fun Mm390 H locs h hW hS => ?_)
      refine lv_aload_n hx hb dX12_readOr_393 rfl (lv_at hl 0 rfl) ?_
      refine lv_aload_n hx hb dX12_readOr_394 rfl (lv_at hl 0 rfl) ?_
      refine m_geti S hK fk_X12_215 (gi_10_35 G) hW (ci_10 (Nat.le_of_ble_eq_true rfl)) dX12_readOr_395 ?_
      refine lv_if_le (tgt := 405) hx hb dX12_readOr_398 (by decide) (fun c398 => ?_) (fun c398 => ?_)
      · replace h := h.1 c398
        refine lv_iconst hx hb dX12_readOr_405 ki_0 ?_
        exact b406 _ _ H locs ls hW hS (lv_sub hl [0] rfl) h
      · replace h := h.2 c398
        refine lv_iconst hx hb dX12_readOr_401 ki_1 ?_
        refine lv_goto (tgt := 406) hx hb dX12_readOr_402 (by decide) ?_
        exact b406 _ _ H locs ls hW hS (lv_sub hl [0] rfl) h
  have w19 : ∀ (n : Nat) (a : Mem × Int32 × Int32), Lz (fun (K19 : Mem × Int32 × Int32 → Prop) (a : Mem × Int32 × Int32) => s_X12_readOr_19 x1 P K19 a.1 a.2.1 a.2.2) n a → ∀ (H : Heap) (locs : List Loc) (ls : Array Slot), WPm G a.1 H → va_S (fun q => bs G ≤ q) s.heap H locs → lv_has ls 5 [(0, .ref (ad G 10 0)), (1, .int x1), (2, .int a.2.1), (3, .int a.2.2)] → W p l e rm_X12_readOr s m AV below meth c H locs 0 0 (MQ below (va_Qi P (WS G) (fun q => bs G ≤ q)) AV s 0 0 (fun q => bs G ≤ q)) (F0 m 19 ls []) := by
    refine Lz_walk ?_
    rintro K19 kk19 ⟨M, x2, x3⟩ h H locs ls hW hS hl
    replace h : s_X12_readOr_19 x1 P K19 M x2 x3 := h
    replace hW : WPm G M H := hW
    replace hl : lv_has ls 5 [(0, .ref (ad G 10 0)), (1, .int x1), (2, .int x2), (3, .int x3)] := hl
    have b323 : ∀ (M : Mem) (x2 : Int32) (x3 : Int32) (y0 : Int32) (H : Heap) (locs : List Loc) (ls : Array Slot), WPm G M H → va_S (fun q => bs G ≤ q) s.heap H locs → lv_has ls 5 [(0, .ref (ad G 10 0)), (1, .int x1), (2, .int x2), (3, .int x3)] → s_X12_readOr_323 x1 P K19 M x2 x3 y0 → W p l e rm_X12_readOr s m AV below meth c H locs 0 0 (MQ below (va_Qi P (WS G) (fun q => bs G ≤ q)) AV s 0 0 (fun q => bs G ≤ q)) (F0 m 323 ls [.int y0, .ref (ad G 10 0)]) := by
      intro M x2 x3 y0 H locs ls hW hS hl h
      unfold s_X12_readOr_323 at h
      obtain ⟨hn323, h⟩ := h
      refine m_put S hK fk_X12_206 tyX12_ok nmX12 rfl pf_X12_27 (pv_10_27 G) hW hS (ci_10 (Nat.le_of_ble_eq_true rfl)) (isB_n hn323) (isB_f hn323) dX12_readOr_323 (fun Mm323 eMm323 H locs hW hS => ?_)
      replace h := h Mm323 eMm323
      refine lv_aload_n hx hb dX12_readOr_326 rfl (lv_at hl 0 rfl) ?_
      refine m_geti S hK fk_X12_206 (gi_10_27 G) hW (ci_10 (Nat.le_of_ble_eq_true rfl)) dX12_readOr_327 ?_
      refine lv_if_ne (tgt := 371) hx hb dX12_readOr_330 (by decide) (fun c330 => ?_) (fun c330 => ?_)
      · replace h := h.1 c330
        refine lv_goto (tgt := 19) hx hb dX12_readOr_371 (by decide) ?_
        exact kk19 _ h H locs ls hW hS (lv_sub hl [0, 1, 2, 3] rfl)
      · replace h := h.2 c330
        refine lv_iload_n hx hb dX12_readOr_333 rfl (lv_at hl 3 rfl) ?_
        refine lv_if_ne (tgt := 371) hx hb dX12_readOr_334 (by decide) (fun c334 => ?_) (fun c334 => ?_)
        · replace h := h.1 c334
          refine lv_goto (tgt := 19) hx hb dX12_readOr_371 (by decide) ?_
          exact kk19 _ h H locs ls hW hS (lv_sub hl [0, 1, 2, 3] rfl)
        · replace h := h.2 c334
          refine lv_aload_n hx hb dX12_readOr_337 rfl (lv_at hl 0 rfl) ?_
          refine lv_dup hx hb dX12_readOr_338 rfl ?_
          refine m_geti S hK fk_X12_215 (gi_10_35 G) hW (ci_10 (Nat.le_of_ble_eq_true rfl)) dX12_readOr_339 ?_
          refine lv_iconst hx hb dX12_readOr_342 ki_1 ?_
          refine lv_isub hx hb dX12_readOr_343 ?_
          refine m_put S hK fk_X12_215 tyX12_ok nmX12 rfl pf_X12_35 (pv_10_35 G) hW hS (ci_10 (Nat.le_of_ble_eq_true rfl)) rfl rfl dX12_readOr_344 (fun Mm344 eMm344 H locs hW hS => ?_)
          replace h := h Mm344 eMm344
          refine lv_aload_n hx hb dX12_readOr_347 rfl (lv_at hl 0 rfl) ?_
          refine lv_dup hx hb dX12_readOr_348 rfl ?_
          refine m_geti S hK fk_X12_224 (gi_10_28 G) hW (ci_10 (Nat.le_of_ble_eq_true rfl)) dX12_readOr_349 ?_
          refine lv_iconst hx hb dX12_readOr_352 ki_1 ?_
          refine lv_isub hx hb dX12_readOr_353 ?_
          refine m_put S hK fk_X12_224 tyX12_ok nmX12 rfl pf_X12_28 (pv_10_28 G) hW hS (ci_10 (Nat.le_of_ble_eq_true rfl)) rfl rfl dX12_readOr_354 (fun Mm354 eMm354 H locs hW hS => ?_)
          replace h := h Mm354 eMm354
          refine lv_aload_n hx hb dX12_readOr_357 rfl (lv_at hl 0 rfl) ?_
          refine lv_dup hx hb dX12_readOr_358 rfl ?_
          refine m_geti S hK fk_X12_167 (gi_10_26 G) hW (ci_10 (Nat.le_of_ble_eq_true rfl)) dX12_readOr_359 ?_
          refine lv_iconst hx hb dX12_readOr_362 ki_1 ?_
          refine lv_iadd hx hb dX12_readOr_363 ?_
          refine m_put S hK fk_X12_167 tyX12_ok nmX12 rfl pf_X12_26 (pv_10_26 G) hW hS (ci_10 (Nat.le_of_ble_eq_true rfl)) rfl rfl dX12_readOr_364 (fun Mm364 eMm364 H locs hW hS => ?_)
          replace h := h Mm364 eMm364
          refine lv_aload_n hx hb dX12_readOr_367 rfl (lv_at hl 0 rfl) ?_
          refine m_cv0 (m_rV S hKX hW (m_szH hbs hS) (c_X12_testEnds l ) h lk_X12_231 (m_recv hK hW (ci_10 (Nat.le_of_ble_eq_true rfl)) (rc_10 G) rfl) rfl hl.1 rfl ⟨Nat.le_of_ble_eq_true rfl, Nat.le_of_ble_eq_true rfl⟩ (Nat.le_of_ble_eq_true rfl) ⟨Nat.le_of_ble_eq_true rfl, Nat.le_of_ble_eq_true rfl⟩ dX12_readOr_368) hS rfl rfl (fun Mm368 H locs h hW hS => ?_)
          refine lv_goto (tgt := 19) hx hb dX12_readOr_371 (by decide) ?_
          exact kk19 _ h H locs ls hW hS (lv_sub hl [0, 1, 2, 3] rfl)
    have b296 : ∀ (M : Mem) (x2 : Int32) (x4 : Int32) (y0 : Int32) (H : Heap) (locs : List Loc) (ls : Array Slot), WPm G M H → va_S (fun q => bs G ≤ q) s.heap H locs → lv_has ls 5 [(0, .ref (ad G 10 0)), (1, .int x1), (2, .int x2), (4, .int x4)] → s_X12_readOr_296 x1 P K19 M x2 x4 y0 → W p l e rm_X12_readOr s m AV below meth c H locs 0 0 (MQ below (va_Qi P (WS G) (fun q => bs G ≤ q)) AV s 0 0 (fun q => bs G ≤ q)) (F0 m 296 ls [.int y0]) := by
      intro M x2 x4 y0 H locs ls hW hS hl h
      unfold s_X12_readOr_296 at h
      refine lv_istore_n (lv' := [(3, .int y0), (0, .ref (ad G 10 0)), (1, .int x1), (2, .int x2), (4, .int x4)]) hx hb dX12_readOr_296 rfl hl (by decide) rfl (fun ls hl => ?_)
      refine lv_aload_n hx hb dX12_readOr_297 rfl (lv_at hl 1 rfl) ?_
      refine lv_iload_n hx hb dX12_readOr_298 rfl (lv_at hl 0 rfl) ?_
      refine lv_if_ne (tgt := 322) hx hb dX12_readOr_299 (by decide) (fun c299 => ?_) (fun c299 => ?_)
      · replace h := h.1 c299
        refine lv_iconst hx hb dX12_readOr_322 ki_0 ?_
        exact b323 _ _ _ _ H locs ls hW hS (lv_sub hl [1, 2, 3, 0] rfl) h
      · replace h := h.2 c299
        refine lv_iload hx hb dX12_readOr_302 (lv_at hl 4 rfl) ?_
        refine lv_bipush hx hb dX12_readOr_304 kb_41 ?_
        refine lv_icmp_ne (tgt := 318) hx hb dX12_readOr_306 (by decide) (fun c306 => ?_) (fun c306 => ?_)
        · replace h := h.1 c306
          refine lv_iconst hx hb dX12_readOr_318 ki_1 ?_
          refine lv_goto (tgt := 323) hx hb dX12_readOr_319 (by decide) ?_
          exact b323 _ _ _ _ H locs ls hW hS (lv_sub hl [1, 2, 3, 0] rfl) h
        · replace h := h.2 c306
          refine lv_aload_n hx hb dX12_readOr_309 rfl (lv_at hl 1 rfl) ?_
          refine m_ci0 (m_rV S hKX hW (m_szH hbs hS) (c_X12_topSign l ) h lk_X12_218 (m_recv hK hW (ci_10 (Nat.le_of_ble_eq_true rfl)) (rc_10 G) rfl) rfl hl.1 rfl ⟨Nat.le_of_ble_eq_true rfl, Nat.le_of_ble_eq_true rfl⟩ (Nat.le_of_ble_eq_true rfl) ⟨Nat.le_of_ble_eq_true rfl, Nat.le_of_ble_eq_true rfl⟩ dX12_readOr_310) hS rfl rfl (fun rr310 Mm310 H locs h hW hS => ?_)
          refine lv_bipush hx hb dX12_readOr_313 kb_40 ?_
          refine lv_icmp_eq (tgt := 322) hx hb dX12_readOr_315 (by decide) (fun c315 => ?_) (fun c315 => ?_)
          · replace h := h.1 c315
            refine lv_iconst hx hb dX12_readOr_322 ki_0 ?_
            exact b323 _ _ _ _ H locs ls hW hS (lv_sub hl [1, 2, 3, 0] rfl) h
          · replace h := h.2 c315
            refine lv_iconst hx hb dX12_readOr_318 ki_1 ?_
            refine lv_goto (tgt := 323) hx hb dX12_readOr_319 (by decide) ?_
            exact b323 _ _ _ _ H locs ls hW hS (lv_sub hl [1, 2, 3, 0] rfl) h
    have b225 : ∀ (M : Mem) (x3 : Int32) (x4 : Int32) (H : Heap) (locs : List Loc) (ls : Array Slot), WPm G M H → va_S (fun q => bs G ≤ q) s.heap H locs → lv_has ls 5 [(0, .ref (ad G 10 0)), (1, .int x1), (3, .int x3), (4, .int x4)] → s_X12_readOr_225 x1 P K19 M x3 x4 → W p l e rm_X12_readOr s m AV below meth c H locs 0 0 (MQ below (va_Qi P (WS G) (fun q => bs G ≤ q)) AV s 0 0 (fun q => bs G ≤ q)) (F0 m 225 ls []) := by
      intro M x3 x4 H locs ls hW hS hl h
      unfold s_X12_readOr_225 at h
      refine lv_aload_n hx hb dX12_readOr_225 rfl (lv_at hl 0 rfl) ?_
      refine m_getr S hK fk_X12_78 (gr_10_34 G 0) hW (ci_10 (Nat.le_of_ble_eq_true rfl)) dX12_readOr_226 ?_
      refine lv_aload_n hx hb dX12_readOr_229 rfl (lv_at hl 0 rfl) ?_
      refine m_geti S hK fk_X12_215 (gi_10_35 G) hW (ci_10 (Nat.le_of_ble_eq_true rfl)) dX12_readOr_230 ?_
      refine lv_iload hx hb dX12_readOr_233 (lv_at hl 3 rfl) ?_
      obtain ⟨hb235, h⟩ := h
      refine m_ast S hK (ar_65 G) hW hS (ci_65 (Nat.le_of_ble_eq_true rfl)) hb235 dX12_readOr_235 (fun Mm235 eMm235 H locs hW hS => ?_)
      replace h := h Mm235 eMm235
      refine lv_aload_n hx hb dX12_readOr_236 rfl (lv_at hl 0 rfl) ?_
      refine lv_dup hx hb dX12_readOr_237 rfl ?_
      refine m_geti S hK fk_X12_215 (gi_10_35 G) hW (ci_10 (Nat.le_of_ble_eq_true rfl)) dX12_readOr_238 ?_
      refine lv_iconst hx hb dX12_readOr_241 ki_1 ?_
      refine lv_iadd hx hb dX12_readOr_242 ?_
      refine m_put S hK fk_X12_215 tyX12_ok nmX12 rfl pf_X12_35 (pv_10_35 G) hW hS (ci_10 (Nat.le_of_ble_eq_true rfl)) rfl rfl dX12_readOr_243 (fun Mm243 eMm243 H locs hW hS => ?_)
      replace h := h Mm243 eMm243
      refine lv_aload_n hx hb dX12_readOr_246 rfl (lv_at hl 0 rfl) ?_
      refine lv_dup hx hb dX12_readOr_247 rfl ?_
      refine m_geti S hK fk_X12_167 (gi_10_26 G) hW (ci_10 (Nat.le_of_ble_eq_true rfl)) dX12_readOr_248 ?_
      refine lv_iconst hx hb dX12_readOr_251 ki_1 ?_
      refine lv_iadd hx hb dX12_readOr_252 ?_
      refine m_put S hK fk_X12_167 tyX12_ok nmX12 rfl pf_X12_26 (pv_10_26 G) hW hS (ci_10 (Nat.le_of_ble_eq_true rfl)) rfl rfl dX12_readOr_253 (fun Mm253 eMm253 H locs hW hS => ?_)
      replace h := h Mm253 eMm253
      refine lv_iconst hx hb dX12_readOr_256 ki_1 ?_
      refine lv_istore_n (lv' := [(2, .int (1 : Int32)), (0, .ref (ad G 10 0)), (1, .int x1), (3, .int x3), (4, .int x4)]) hx hb dX12_readOr_257 rfl hl (by decide) rfl (fun ls hl => ?_)
      refine lv_goto (tgt := 371) hx hb dX12_readOr_258 (by decide) ?_
      refine lv_goto (tgt := 19) hx hb dX12_readOr_371 (by decide) ?_
      exact kk19 _ h H locs ls hW hS (lv_sub hl [1, 2, 0, 3] rfl)
    have b206 : ∀ (M : Mem) (x3 : Int32) (x4 : Int32) (H : Heap) (locs : List Loc) (ls : Array Slot), WPm G M H → va_S (fun q => bs G ≤ q) s.heap H locs → lv_has ls 5 [(0, .ref (ad G 10 0)), (1, .int x1), (3, .int x3), (4, .int x4)] → s_X12_readOr_206 x1 P K19 M x3 x4 → W p l e rm_X12_readOr s m AV below meth c H locs 0 0 (MQ below (va_Qi P (WS G) (fun q => bs G ≤ q)) AV s 0 0 (fun q => bs G ≤ q)) (F0 m 206 ls []) := by
      intro M x3 x4 H locs ls hW hS hl h
      unfold s_X12_readOr_206 at h
      refine lv_aload_n hx hb dX12_readOr_206 rfl (lv_at hl 0 rfl) ?_
      refine lv_bipush hx hb dX12_readOr_207 kb_38 ?_
      refine m_cv0 (m_rV S hKX hW (m_szH hbs hS) (c_X12_join l ) h lk_X12_234 (m_recv hK hW (ci_10 (Nat.le_of_ble_eq_true rfl)) (rc_10 G) rfl) rfl hl.1 rfl ⟨Nat.le_of_ble_eq_true rfl, Nat.le_of_ble_eq_true rfl⟩ (Nat.le_of_ble_eq_true rfl) ⟨Nat.le_of_ble_eq_true rfl, Nat.le_of_ble_eq_true rfl⟩ dX12_readOr_209) hS rfl rfl (fun Mm209 H locs h hW hS => ?_)
      refine lv_iload hx hb dX12_readOr_212 (lv_at hl 3 rfl) ?_
      refine lv_bipush hx hb dX12_readOr_214 kb_124 ?_
      refine lv_icmp_ne (tgt := 225) hx hb dX12_readOr_216 (by decide) (fun c216 => ?_) (fun c216 => ?_)
      · replace h := h.1 c216
        exact b225 _ _ _ H locs ls hW hS (lv_sub hl [0, 1, 2, 3] rfl) h
      · replace h := h.2 c216
        refine lv_aload_n hx hb dX12_readOr_219 rfl (lv_at hl 0 rfl) ?_
        refine lv_bipush hx hb dX12_readOr_220 kb_124 ?_
        refine m_cv0 (m_rV S hKX hW (m_szH hbs hS) (c_X12_join l ) h lk_X12_234 (m_recv hK hW (ci_10 (Nat.le_of_ble_eq_true rfl)) (rc_10 G) rfl) rfl hl.1 rfl ⟨Nat.le_of_ble_eq_true rfl, Nat.le_of_ble_eq_true rfl⟩ (Nat.le_of_ble_eq_true rfl) ⟨Nat.le_of_ble_eq_true rfl, Nat.le_of_ble_eq_true rfl⟩ dX12_readOr_222) hS rfl rfl (fun Mm222 H locs h hW hS => ?_)
        exact b225 _ _ _ H locs ls hW hS (lv_sub hl [0, 1, 2, 3] rfl) h
    have b156 : ∀ (M : Mem) (x2 : Int32) (x3 : Int32) (x4 : Int32) (H : Heap) (locs : List Loc) (ls : Array Slot), WPm G M H → va_S (fun q => bs G ≤ q) s.heap H locs → lv_has ls 5 [(0, .ref (ad G 10 0)), (1, .int x1), (2, .int x2), (3, .int x3), (4, .int x4)] → s_X12_readOr_156 x1 P K19 M x2 x3 x4 → W p l e rm_X12_readOr s m AV below meth c H locs 0 0 (MQ below (va_Qi P (WS G) (fun q => bs G ≤ q)) AV s 0 0 (fun q => bs G ≤ q)) (F0 m 156 ls []) := by
      intro M x2 x3 x4 H locs ls hW hS hl h
      unfold s_X12_readOr_156 at h
      refine lv_iload_n hx hb dX12_readOr_156 rfl (lv_at hl 2 rfl) ?_
      refine lv_if_eq (tgt := 192) hx hb dX12_readOr_157 (by decide) (fun c157 => ?_) (fun c157 => ?_)
      · replace h := h.1 c157
        refine lv_iload hx hb dX12_readOr_192 (lv_at hl 4 rfl) ?_
        refine lv_bipush hx hb dX12_readOr_194 kb_38 ?_
        refine lv_icmp_eq (tgt := 206) hx hb dX12_readOr_196 (by decide) (fun c196 => ?_) (fun c196 => ?_)
        · replace h := h.1 c196
          exact b206 _ _ _ H locs ls hW hS (lv_sub hl [0, 1, 3, 4] rfl) h
        · replace h := h.2 c196
          refine lv_iload hx hb dX12_readOr_199 (lv_at hl 4 rfl) ?_
          refine lv_bipush hx hb dX12_readOr_201 kb_124 ?_
          refine lv_icmp_ne (tgt := 261) hx hb dX12_readOr_203 (by decide) (fun c203 => ?_) (fun c203 => ?_)
          · replace h := h.1 c203
            refine lv_aload_n hx hb dX12_readOr_261 rfl (lv_at hl 0 rfl) ?_
            refine lv_bipush hx hb dX12_readOr_262 kb_38 ?_
            refine m_cv0 (m_rV S hKX hW (m_szH hbs hS) (c_X12_join l ) h lk_X12_234 (m_recv hK hW (ci_10 (Nat.le_of_ble_eq_true rfl)) (rc_10 G) rfl) rfl hl.1 rfl ⟨Nat.le_of_ble_eq_true rfl, Nat.le_of_ble_eq_true rfl⟩ (Nat.le_of_ble_eq_true rfl) ⟨Nat.le_of_ble_eq_true rfl, Nat.le_of_ble_eq_true rfl⟩ dX12_readOr_264) hS rfl rfl (fun Mm264 H locs h hW hS => ?_)
            refine lv_aload_n hx hb dX12_readOr_267 rfl (lv_at hl 0 rfl) ?_
            refine lv_bipush hx hb dX12_readOr_268 kb_124 ?_
            refine m_cv0 (m_rV S hKX hW (m_szH hbs hS) (c_X12_join l ) h lk_X12_234 (m_recv hK hW (ci_10 (Nat.le_of_ble_eq_true rfl)) (rc_10 G) rfl) rfl hl.1 rfl ⟨Nat.le_of_ble_eq_true rfl, Nat.le_of_ble_eq_true rfl⟩ (Nat.le_of_ble_eq_true rfl) ⟨Nat.le_of_ble_eq_true rfl, Nat.le_of_ble_eq_true rfl⟩ dX12_readOr_270) hS rfl rfl (fun Mm270 H locs h hW hS => ?_)
            refine lv_iload hx hb dX12_readOr_273 (lv_at hl 4 rfl) ?_
            refine lv_bipush hx hb dX12_readOr_275 kb_117 ?_
            refine lv_icmp_ne (tgt := 295) hx hb dX12_readOr_277 (by decide) (fun c277 => ?_) (fun c277 => ?_)
            · replace h := h.1 c277
              refine lv_iconst hx hb dX12_readOr_295 ki_0 ?_
              exact b296 _ _ _ _ H locs ls hW hS (lv_sub hl [0, 1, 2, 4] rfl) h
            · replace h := h.2 c277
              refine lv_iload_n hx hb dX12_readOr_280 rfl (lv_at hl 1 rfl) ?_
              refine lv_if_eq (tgt := 295) hx hb dX12_readOr_281 (by decide) (fun c281 => ?_) (fun c281 => ?_)
              · replace h := h.1 c281
                refine lv_iconst hx hb dX12_readOr_295 ki_0 ?_
                exact b296 _ _ _ _ H locs ls hW hS (lv_sub hl [0, 1, 2, 4] rfl) h
              · replace h := h.2 c281
                refine lv_aload_n hx hb dX12_readOr_284 rfl (lv_at hl 0 rfl) ?_
                refine m_geti S hK fk_X12_215 (gi_10_35 G) hW (ci_10 (Nat.le_of_ble_eq_true rfl)) dX12_readOr_285 ?_
                refine lv_if_ne (tgt := 295) hx hb dX12_readOr_288 (by decide) (fun c288 => ?_) (fun c288 => ?_)
                · replace h := h.1 c288
                  refine lv_iconst hx hb dX12_readOr_295 ki_0 ?_
                  exact b296 _ _ _ _ H locs ls hW hS (lv_sub hl [0, 1, 2, 4] rfl) h
                · replace h := h.2 c288
                  refine lv_iconst hx hb dX12_readOr_291 ki_1 ?_
                  refine lv_goto (tgt := 296) hx hb dX12_readOr_292 (by decide) ?_
                  exact b296 _ _ _ _ H locs ls hW hS (lv_sub hl [0, 1, 2, 4] rfl) h
          · replace h := h.2 c203
            exact b206 _ _ _ H locs ls hW hS (lv_sub hl [0, 1, 3, 4] rfl) h
      · replace h := h.2 c157
        refine lv_aload_n hx hb dX12_readOr_160 rfl (lv_at hl 0 rfl) ?_
        refine m_getr S hK fk_X12_74 (gr_10_32 G 0) hW (ci_10 (Nat.le_of_ble_eq_true rfl)) dX12_readOr_161 ?_
        refine lv_aload_n hx hb dX12_readOr_164 rfl (lv_at hl 0 rfl) ?_
        refine m_geti S hK fk_X12_221 (gi_10_33 G) hW (ci_10 (Nat.le_of_ble_eq_true rfl)) dX12_readOr_165 ?_
        refine lv_aload_n hx hb dX12_readOr_168 rfl (lv_at hl 0 rfl) ?_
        refine m_ci0 (m_rV S hKX hW (m_szH hbs hS) (c_X12_readTest l ) h lk_X12_227 (m_recv hK hW (ci_10 (Nat.le_of_ble_eq_true rfl)) (rc_10 G) rfl) rfl hl.1 rfl ⟨Nat.le_of_ble_eq_true rfl, Nat.le_of_ble_eq_true rfl⟩ (Nat.le_of_ble_eq_true rfl) ⟨Nat.le_of_ble_eq_true rfl, Nat.le_of_ble_eq_true rfl⟩ dX12_readOr_169) hS rfl rfl (fun rr169 Mm169 H locs h hW hS => ?_)
        obtain ⟨hb172, h⟩ := h
        refine m_zast S hK (ar_64 G) hW hS (ci_64 (Nat.le_of_ble_eq_true rfl)) hb172 dX12_readOr_172 (fun Mm172 eMm172 H locs hW hS => ?_)
        replace h := h Mm172 eMm172
        refine lv_aload_n hx hb dX12_readOr_173 rfl (lv_at hl 0 rfl) ?_
        refine lv_dup hx hb dX12_readOr_174 rfl ?_
        refine m_geti S hK fk_X12_221 (gi_10_33 G) hW (ci_10 (Nat.le_of_ble_eq_true rfl)) dX12_readOr_175 ?_
        refine lv_iconst hx hb dX12_readOr_178 ki_1 ?_
        refine lv_iadd hx hb dX12_readOr_179 ?_
        refine m_put S hK fk_X12_221 tyX12_ok nmX12 rfl pf_X12_33 (pv_10_33 G) hW hS (ci_10 (Nat.le_of_ble_eq_true rfl)) rfl rfl dX12_readOr_180 (fun Mm180 eMm180 H locs hW hS => ?_)
        replace h := h Mm180 eMm180
        refine lv_iconst hx hb dX12_readOr_183 ki_0 ?_
        refine lv_istore_n (lv' := [(2, .int (0 : Int32)), (0, .ref (ad G 10 0)), (1, .int x1), (3, .int x3), (4, .int x4)]) hx hb dX12_readOr_184 rfl hl (by decide) rfl (fun ls hl => ?_)
        refine lv_aload_n hx hb dX12_readOr_185 rfl (lv_at hl 1 rfl) ?_
        refine m_cv0 (m_rV S hKX hW (m_szH hbs hS) (c_X12_testEnds l ) h lk_X12_231 (m_recv hK hW (ci_10 (Nat.le_of_ble_eq_true rfl)) (rc_10 G) rfl) rfl hl.1 rfl ⟨Nat.le_of_ble_eq_true rfl, Nat.le_of_ble_eq_true rfl⟩ (Nat.le_of_ble_eq_true rfl) ⟨Nat.le_of_ble_eq_true rfl, Nat.le_of_ble_eq_true rfl⟩ dX12_readOr_186) hS rfl rfl (fun Mm186 H locs h hW hS => ?_)
        refine lv_goto (tgt := 371) hx hb dX12_readOr_189 (by decide) ?_
        refine lv_goto (tgt := 19) hx hb dX12_readOr_371 (by decide) ?_
        exact kk19 _ h H locs ls hW hS (lv_sub hl [1, 2, 0, 3] rfl)
    have b118 : ∀ (M : Mem) (x2 : Int32) (x3 : Int32) (x4 : Int32) (y0 : Int32) (y1 : Int32) (H : Heap) (locs : List Loc) (ls : Array Slot), WPm G M H → va_S (fun q => bs G ≤ q) s.heap H locs → lv_has ls 5 [(0, .ref (ad G 10 0)), (1, .int x1), (2, .int x2), (3, .int x3), (4, .int x4)] → s_X12_readOr_118 x1 P K19 M x2 x3 x4 y0 y1 → W p l e rm_X12_readOr s m AV below meth c H locs 0 0 (MQ below (va_Qi P (WS G) (fun q => bs G ≤ q)) AV s 0 0 (fun q => bs G ≤ q)) (F0 m 118 ls [.int y0, .int y1, .ref (ad G 10 0)]) := by
      intro M x2 x3 x4 y0 y1 H locs ls hW hS hl h
      unfold s_X12_readOr_118 at h
      refine lv_iadd hx hb dX12_readOr_118 ?_
      refine m_put S hK fk_X12_224 tyX12_ok nmX12 rfl pf_X12_28 (pv_10_28 G) hW hS (ci_10 (Nat.le_of_ble_eq_true rfl)) rfl rfl dX12_readOr_119 (fun Mm119 eMm119 H locs hW hS => ?_)
      replace h := h Mm119 eMm119
      refine lv_aload_n hx hb dX12_readOr_122 rfl (lv_at hl 0 rfl) ?_
      refine m_getr S hK fk_X12_78 (gr_10_34 G 0) hW (ci_10 (Nat.le_of_ble_eq_true rfl)) dX12_readOr_123 ?_
      refine lv_aload_n hx hb dX12_readOr_126 rfl (lv_at hl 0 rfl) ?_
      refine m_geti S hK fk_X12_215 (gi_10_35 G) hW (ci_10 (Nat.le_of_ble_eq_true rfl)) dX12_readOr_127 ?_
      refine lv_iload hx hb dX12_readOr_130 (lv_at hl 4 rfl) ?_
      obtain ⟨hb132, h⟩ := h
      refine m_ast S hK (ar_65 G) hW hS (ci_65 (Nat.le_of_ble_eq_true rfl)) hb132 dX12_readOr_132 (fun Mm132 eMm132 H locs hW hS => ?_)
      replace h := h Mm132 eMm132
      refine lv_aload_n hx hb dX12_readOr_133 rfl (lv_at hl 0 rfl) ?_
      refine lv_dup hx hb dX12_readOr_134 rfl ?_
      refine m_geti S hK fk_X12_215 (gi_10_35 G) hW (ci_10 (Nat.le_of_ble_eq_true rfl)) dX12_readOr_135 ?_
      refine lv_iconst hx hb dX12_readOr_138 ki_1 ?_
      refine lv_iadd hx hb dX12_readOr_139 ?_
      refine m_put S hK fk_X12_215 tyX12_ok nmX12 rfl pf_X12_35 (pv_10_35 G) hW hS (ci_10 (Nat.le_of_ble_eq_true rfl)) rfl rfl dX12_readOr_140 (fun Mm140 eMm140 H locs hW hS => ?_)
      replace h := h Mm140 eMm140
      refine lv_aload_n hx hb dX12_readOr_143 rfl (lv_at hl 0 rfl) ?_
      refine lv_dup hx hb dX12_readOr_144 rfl ?_
      refine m_geti S hK fk_X12_167 (gi_10_26 G) hW (ci_10 (Nat.le_of_ble_eq_true rfl)) dX12_readOr_145 ?_
      refine lv_iconst hx hb dX12_readOr_148 ki_1 ?_
      refine lv_iadd hx hb dX12_readOr_149 ?_
      refine m_put S hK fk_X12_167 tyX12_ok nmX12 rfl pf_X12_26 (pv_10_26 G) hW hS (ci_10 (Nat.le_of_ble_eq_true rfl)) rfl rfl dX12_readOr_150 (fun Mm150 eMm150 H locs hW hS => ?_)
      replace h := h Mm150 eMm150
      refine lv_goto (tgt := 371) hx hb dX12_readOr_153 (by decide) ?_
      refine lv_goto (tgt := 19) hx hb dX12_readOr_371 (by decide) ?_
      exact kk19 _ h H locs ls hW hS (lv_sub hl [0, 1, 2, 3] rfl)
    have b91 : ∀ (M : Mem) (x2 : Int32) (x3 : Int32) (x4 : Int32) (y0 : Int32) (H : Heap) (locs : List Loc) (ls : Array Slot), WPm G M H → va_S (fun q => bs G ≤ q) s.heap H locs → lv_has ls 5 [(0, .ref (ad G 10 0)), (1, .int x1), (2, .int x2), (3, .int x3), (4, .int x4)] → s_X12_readOr_91 x1 P K19 M x2 x3 x4 y0 → W p l e rm_X12_readOr s m AV below meth c H locs 0 0 (MQ below (va_Qi P (WS G) (fun q => bs G ≤ q)) AV s 0 0 (fun q => bs G ≤ q)) (F0 m 91 ls [.int y0, .ref (ad G 10 0)]) := by
      intro M x2 x3 x4 y0 H locs ls hW hS hl h
      unfold s_X12_readOr_91 at h
      obtain ⟨hn91, h⟩ := h
      refine m_put S hK fk_X12_206 tyX12_ok nmX12 rfl pf_X12_27 (pv_10_27 G) hW hS (ci_10 (Nat.le_of_ble_eq_true rfl)) (isB_n hn91) (isB_f hn91) dX12_readOr_91 (fun Mm91 eMm91 H locs hW hS => ?_)
      replace h := h Mm91 eMm91
      refine lv_aload_n hx hb dX12_readOr_94 rfl (lv_at hl 0 rfl) ?_
      refine m_geti S hK fk_X12_206 (gi_10_27 G) hW (ci_10 (Nat.le_of_ble_eq_true rfl)) dX12_readOr_95 ?_
      refine lv_if_ne (tgt := 371) hx hb dX12_readOr_98 (by decide) (fun c98 => ?_) (fun c98 => ?_)
      · replace h := h.1 c98
        refine lv_goto (tgt := 19) hx hb dX12_readOr_371 (by decide) ?_
        exact kk19 _ h H locs ls hW hS (lv_sub hl [0, 1, 2, 3] rfl)
      · replace h := h.2 c98
        refine lv_aload_n hx hb dX12_readOr_101 rfl (lv_at hl 0 rfl) ?_
        refine lv_dup hx hb dX12_readOr_102 rfl ?_
        refine m_geti S hK fk_X12_224 (gi_10_28 G) hW (ci_10 (Nat.le_of_ble_eq_true rfl)) dX12_readOr_103 ?_
        refine lv_iload hx hb dX12_readOr_106 (lv_at hl 4 rfl) ?_
        refine lv_bipush hx hb dX12_readOr_108 kb_40 ?_
        refine lv_icmp_ne (tgt := 117) hx hb dX12_readOr_110 (by decide) (fun c110 => ?_) (fun c110 => ?_)
        · replace h := h.1 c110
          refine lv_iconst hx hb dX12_readOr_117 ki_0 ?_
          exact b118 _ _ _ _ _ _ H locs ls hW hS (lv_sub hl [0, 1, 2, 3, 4] rfl) h
        · replace h := h.2 c110
          refine lv_iconst hx hb dX12_readOr_113 ki_1 ?_
          refine lv_goto (tgt := 118) hx hb dX12_readOr_114 (by decide) ?_
          exact b118 _ _ _ _ _ _ H locs ls hW hS (lv_sub hl [0, 1, 2, 3, 4] rfl) h
    have b69 : ∀ (M : Mem) (x2 : Int32) (x3 : Int32) (x4 : Int32) (H : Heap) (locs : List Loc) (ls : Array Slot), WPm G M H → va_S (fun q => bs G ≤ q) s.heap H locs → lv_has ls 5 [(0, .ref (ad G 10 0)), (1, .int x1), (2, .int x2), (3, .int x3), (4, .int x4)] → s_X12_readOr_69 x1 P K19 M x2 x3 x4 → W p l e rm_X12_readOr s m AV below meth c H locs 0 0 (MQ below (va_Qi P (WS G) (fun q => bs G ≤ q)) AV s 0 0 (fun q => bs G ≤ q)) (F0 m 69 ls []) := by
      intro M x2 x3 x4 H locs ls hW hS hl h
      unfold s_X12_readOr_69 at h
      refine lv_aload_n hx hb dX12_readOr_69 rfl (lv_at hl 0 rfl) ?_
      refine lv_iload hx hb dX12_readOr_70 (lv_at hl 4 rfl) ?_
      refine lv_bipush hx hb dX12_readOr_72 kb_40 ?_
      refine lv_icmp_ne (tgt := 90) hx hb dX12_readOr_74 (by decide) (fun c74 => ?_) (fun c74 => ?_)
      · replace h := h.1 c74
        refine lv_iconst hx hb dX12_readOr_90 ki_0 ?_
        exact b91 _ _ _ _ _ H locs ls hW hS (lv_sub hl [0, 1, 2, 3, 4] rfl) h
      · replace h := h.2 c74
        refine lv_aload_n hx hb dX12_readOr_77 rfl (lv_at hl 0 rfl) ?_
        refine m_geti S hK fk_X12_224 (gi_10_28 G) hW (ci_10 (Nat.le_of_ble_eq_true rfl)) dX12_readOr_78 ?_
        refine lv_bipush hx hb dX12_readOr_81 kb_8 ?_
        refine lv_icmp_ne (tgt := 90) hx hb dX12_readOr_83 (by decide) (fun c83 => ?_) (fun c83 => ?_)
        · replace h := h.1 c83
          refine lv_iconst hx hb dX12_readOr_90 ki_0 ?_
          exact b91 _ _ _ _ _ H locs ls hW hS (lv_sub hl [0, 1, 2, 3, 4] rfl) h
        · replace h := h.2 c83
          refine lv_iconst hx hb dX12_readOr_86 ki_1 ?_
          refine lv_goto (tgt := 91) hx hb dX12_readOr_87 (by decide) ?_
          exact b91 _ _ _ _ _ H locs ls hW hS (lv_sub hl [0, 1, 2, 3, 4] rfl) h
    have b45 : ∀ (M : Mem) (x2 : Int32) (x3 : Int32) (H : Heap) (locs : List Loc) (ls : Array Slot), WPm G M H → va_S (fun q => bs G ≤ q) s.heap H locs → lv_has ls 5 [(0, .ref (ad G 10 0)), (1, .int x1), (2, .int x2), (3, .int x3)] → s_X12_readOr_45 x1 P K19 M x2 x3 → W p l e rm_X12_readOr s m AV below meth c H locs 0 0 (MQ below (va_Qi P (WS G) (fun q => bs G ≤ q)) AV s 0 0 (fun q => bs G ≤ q)) (F0 m 45 ls []) := by
      intro M x2 x3 H locs ls hW hS hl h
      unfold s_X12_readOr_45 at h
      refine lv_aload_n hx hb dX12_readOr_45 rfl (lv_at hl 0 rfl) ?_
      refine m_ci0 (m_rV S hKX hW (m_szH hbs hS) (c_X12_here l ) h lk_X12_196 (m_recv hK hW (ci_10 (Nat.le_of_ble_eq_true rfl)) (rc_10 G) rfl) rfl hl.1 rfl ⟨Nat.le_of_ble_eq_true rfl, Nat.le_of_ble_eq_true rfl⟩ (Nat.le_of_ble_eq_true rfl) ⟨Nat.le_of_ble_eq_true rfl, Nat.le_of_ble_eq_true rfl⟩ dX12_readOr_46) hS rfl rfl (fun rr46 Mm46 H locs h hW hS => ?_)
      refine lv_istore (lv' := [(4, .int rr46), (0, .ref (ad G 10 0)), (1, .int x1), (2, .int x2), (3, .int x3)]) hx hb dX12_readOr_49 hl (by decide) rfl (fun ls hl => ?_)
      refine lv_iload_n hx hb dX12_readOr_51 rfl (lv_at hl 3 rfl) ?_
      refine lv_if_eq (tgt := 156) hx hb dX12_readOr_52 (by decide) (fun c52 => ?_) (fun c52 => ?_)
      · replace h := h.1 c52
        exact b156 _ _ _ _ H locs ls hW hS (lv_sub hl [1, 2, 3, 4, 0] rfl) h
      · replace h := h.2 c52
        refine lv_iload hx hb dX12_readOr_55 (lv_at hl 0 rfl) ?_
        refine lv_bipush hx hb dX12_readOr_57 kb_33 ?_
        refine lv_icmp_eq (tgt := 69) hx hb dX12_readOr_59 (by decide) (fun c59 => ?_) (fun c59 => ?_)
        · replace h := h.1 c59
          exact b69 _ _ _ _ H locs ls hW hS (lv_sub hl [1, 2, 3, 4, 0] rfl) h
        · replace h := h.2 c59
          refine lv_iload hx hb dX12_readOr_62 (lv_at hl 0 rfl) ?_
          refine lv_bipush hx hb dX12_readOr_64 kb_40 ?_
          refine lv_icmp_ne (tgt := 156) hx hb dX12_readOr_66 (by decide) (fun c66 => ?_) (fun c66 => ?_)
          · replace h := h.1 c66
            exact b156 _ _ _ _ H locs ls hW hS (lv_sub hl [1, 2, 3, 4, 0] rfl) h
          · replace h := h.2 c66
            exact b69 _ _ _ _ H locs ls hW hS (lv_sub hl [1, 2, 3, 4, 0] rfl) h
    unfold s_X12_readOr_19 at h
    refine lv_aload_n hx hb dX12_readOr_19 rfl (lv_at hl 0 rfl) ?_
    refine m_geti S hK fk_X12_206 (gi_10_27 G) hW (ci_10 (Nat.le_of_ble_eq_true rfl)) dX12_readOr_20 ?_
    refine lv_if_ne (tgt := 374) hx hb dX12_readOr_23 (by decide) (fun c23 => ?_) (fun c23 => ?_)
    · replace h := h.1 c23
      exact b374 _ H locs ls hW hS (lv_sub hl [0] rfl) h
    · replace h := h.2 c23
      refine lv_iload_n hx hb dX12_readOr_26 rfl (lv_at hl 3 rfl) ?_
      refine lv_if_ne (tgt := 374) hx hb dX12_readOr_27 (by decide) (fun c27 => ?_) (fun c27 => ?_)
      · replace h := h.1 c27
        exact b374 _ H locs ls hW hS (lv_sub hl [0] rfl) h
      · replace h := h.2 c27
        refine lv_iload_n hx hb dX12_readOr_30 rfl (lv_at hl 2 rfl) ?_
        refine lv_if_ne (tgt := 45) hx hb dX12_readOr_31 (by decide) (fun c31 => ?_) (fun c31 => ?_)
        · replace h := h.1 c31
          exact b45 _ _ _ H locs ls hW hS (lv_sub hl [0, 1, 2, 3] rfl) h
        · replace h := h.2 c31
          refine lv_aload_n hx hb dX12_readOr_34 rfl (lv_at hl 0 rfl) ?_
          refine m_geti S hK fk_X12_167 (gi_10_26 G) hW (ci_10 (Nat.le_of_ble_eq_true rfl)) dX12_readOr_35 ?_
          refine lv_aload_n hx hb dX12_readOr_38 rfl (lv_at hl 0 rfl) ?_
          refine m_geti S hK fk_X12_170 (gi_10_25 G) hW (ci_10 (Nat.le_of_ble_eq_true rfl)) dX12_readOr_39 ?_
          refine lv_icmp_ge (tgt := 374) hx hb dX12_readOr_42 (by decide) (fun c42 => ?_) (fun c42 => ?_)
          · replace h := h.1 c42
            exact b374 _ H locs ls hW hS (lv_sub hl [0] rfl) h
          · replace h := h.2 c42
            exact b45 _ _ _ H locs ls hW hS (lv_sub hl [0, 1, 2, 3] rfl) h
  unfold s_X12_readOr at h
  refine lv_aload_n hx hb dX12_readOr_0 rfl (lv_at hl 0 rfl) ?_
  refine lv_iconst hx hb dX12_readOr_1 ki_0 ?_
  refine m_put S hK fk_X12_224 tyX12_ok nmX12 rfl pf_X12_28 (pv_10_28 G) hW hS (ci_10 (Nat.le_of_ble_eq_true rfl)) rfl rfl dX12_readOr_2 (fun Mm2 eMm2 H locs hW hS => ?_)
  replace h := h Mm2 eMm2
  refine lv_aload_n hx hb dX12_readOr_5 rfl (lv_at hl 0 rfl) ?_
  refine lv_iconst hx hb dX12_readOr_6 ki_0 ?_
  refine m_put S hK fk_X12_221 tyX12_ok nmX12 rfl pf_X12_33 (pv_10_33 G) hW hS (ci_10 (Nat.le_of_ble_eq_true rfl)) rfl rfl dX12_readOr_7 (fun Mm7 eMm7 H locs hW hS => ?_)
  replace h := h Mm7 eMm7
  refine lv_aload_n hx hb dX12_readOr_10 rfl (lv_at hl 0 rfl) ?_
  refine lv_iconst hx hb dX12_readOr_11 ki_0 ?_
  refine m_put S hK fk_X12_215 tyX12_ok nmX12 rfl pf_X12_35 (pv_10_35 G) hW hS (ci_10 (Nat.le_of_ble_eq_true rfl)) rfl rfl dX12_readOr_12 (fun Mm12 eMm12 H locs hW hS => ?_)
  replace h := h Mm12 eMm12
  refine lv_iconst hx hb dX12_readOr_15 ki_1 ?_
  refine lv_istore_n (lv' := [(2, .int (1 : Int32)), (0, .ref (ad G 10 0)), (1, .int x1)]) hx hb dX12_readOr_16 rfl hl (by decide) rfl (fun ls hl => ?_)
  refine lv_iconst hx hb dX12_readOr_17 ki_0 ?_
  refine lv_istore_n (lv' := [(3, .int (0 : Int32)), (2, .int (1 : Int32)), (0, .ref (ad G 10 0)), (1, .int x1)]) hx hb dX12_readOr_18 rfl hl (by decide) rfl (fun ls hl => ?_)
  obtain ⟨n19, h⟩ := h
  exact w19 n19 _ h H locs ls hW hS (lv_sub hl [2, 3, 1, 0] rfl)
abbrev rm_X12_readAct : Room := { frames := 7, cells := 0, slots := 0, locals := 162 }
set_option maxHeartbeats 4000000 in
set_option maxRecDepth 100000 in
theorem c_X12_readAct (l : Launch) {G : Gn} {M : Mem} {P : Int32 → Mem → Prop} : MQi l yX12_readAct cX12_readAct 3 (some .boolean) rm_X12_readAct [.ref (ad G 10 0)] G M (s_X12_readAct M P) P := by
  refine m_enter (by decide +kernel) (Nat.le_of_ble_eq_true rfl) ?_
  intro p e s m below meth c ls H locs S hret hlocks hname hKX hbs hW hS hl h
  obtain ⟨AV, hAV⟩ : ∃ z : Array Value, z = ([.ref (ad G 10 0)] : List Value).toArray := ⟨_, rfl⟩
  rw [← hAV] at S ⊢
  replace S : CallFix p m c cX12_readAct 3 s AV lw_G "MilkDeskModel" := S
  have hK := hKX.1
  have hx := S.1
  have hb := S.2.1
  have hml := S.2.2.1
  have hown := S.2.2.2.1
  have hts := S.2.2.2.2
  replace hl : lv_has ls 3 [(0, .ref (ad G 10 0))] := hl
  have b177 : ∀ (M : Mem) (x1 : Int32) (H : Heap) (locs : List Loc) (ls : Array Slot), WPm G M H → va_S (fun q => bs G ≤ q) s.heap H locs → lv_has ls 3 [(0, .ref (ad G 10 0)), (1, .int x1)] → s_X12_readAct_177 P M x1 → W p l e rm_X12_readAct s m AV below meth c H locs 0 0 (MQ below (va_Qi P (WS G) (fun q => bs G ≤ q)) AV s 0 0 (fun q => bs G ≤ q)) (F0 m 177 ls []) := by
    intro M x1 H locs ls hW hS hl h
    unfold s_X12_readAct_177 at h
    refine lv_aload_n hx hb dX12_readAct_177 rfl (lv_at hl 0 rfl) ?_
    refine m_geti S hK fk_X12_206 (gi_10_27 G) hW (ci_10 (Nat.le_of_ble_eq_true rfl)) dX12_readAct_178 ?_
    refine lv_if_ne (tgt := 192) hx hb dX12_readAct_181 (by decide) (fun c181 => ?_) (fun c181 => ?_)
    · replace h := h.1 c181
      refine lv_iconst hx hb dX12_readAct_192 ki_0 ?_
      exact m_iret S hret hlocks hKX hW hbs hS rfl h dX12_readAct_193
    · replace h := h.2 c181
      refine lv_iload_n hx hb dX12_readAct_184 rfl (lv_at hl 1 rfl) ?_
      refine lv_if_eq (tgt := 192) hx hb dX12_readAct_185 (by decide) (fun c185 => ?_) (fun c185 => ?_)
      · replace h := h.1 c185
        refine lv_iconst hx hb dX12_readAct_192 ki_0 ?_
        exact m_iret S hret hlocks hKX hW hbs hS rfl h dX12_readAct_193
      · replace h := h.2 c185
        refine lv_iconst hx hb dX12_readAct_188 ki_1 ?_
        refine lv_goto (tgt := 193) hx hb dX12_readAct_189 (by decide) ?_
        exact m_iret S hret hlocks hKX hW hbs hS rfl h dX12_readAct_193
  have b176 : ∀ (M : Mem) (y0 : Int32) (H : Heap) (locs : List Loc) (ls : Array Slot), WPm G M H → va_S (fun q => bs G ≤ q) s.heap H locs → lv_has ls 3 [(0, .ref (ad G 10 0))] → s_X12_readAct_176 P M y0 → W p l e rm_X12_readAct s m AV below meth c H locs 0 0 (MQ below (va_Qi P (WS G) (fun q => bs G ≤ q)) AV s 0 0 (fun q => bs G ≤ q)) (F0 m 176 ls [.int y0]) := by
    intro M y0 H locs ls hW hS hl h
    unfold s_X12_readAct_176 at h
    refine lv_istore_n (lv' := [(1, .int y0), (0, .ref (ad G 10 0))]) hx hb dX12_readAct_176 rfl hl (by decide) rfl (fun ls hl => ?_)
    exact b177 _ _ H locs ls hW hS (lv_sub hl [1, 0] rfl) h
  have b128 : ∀ (M : Mem) (y0 : Int32) (H : Heap) (locs : List Loc) (ls : Array Slot), WPm G M H → va_S (fun q => bs G ≤ q) s.heap H locs → lv_has ls 3 [(0, .ref (ad G 10 0))] → s_X12_readAct_128 P M y0 → W p l e rm_X12_readAct s m AV below meth c H locs 0 0 (MQ below (va_Qi P (WS G) (fun q => bs G ≤ q)) AV s 0 0 (fun q => bs G ≤ q)) (F0 m 128 ls [.int y0]) := by
    intro M y0 H locs ls hW hS hl h
    unfold s_X12_readAct_128 at h
    refine lv_istore_n (lv' := [(1, .int y0), (0, .ref (ad G 10 0))]) hx hb dX12_readAct_128 rfl hl (by decide) rfl (fun ls hl => ?_)
    refine lv_aload_n hx hb dX12_readAct_129 rfl (lv_at hl 1 rfl) ?_
    refine m_geti S hK fk_X12_206 (gi_10_27 G) hW (ci_10 (Nat.le_of_ble_eq_true rfl)) dX12_readAct_130 ?_
    refine lv_if_ne (tgt := 177) hx hb dX12_readAct_133 (by decide) (fun c133 => ?_) (fun c133 => ?_)
    · replace h := h.1 c133
      exact b177 _ _ H locs ls hW hS (lv_sub hl [1, 0] rfl) h
    · replace h := h.2 c133
      refine lv_aload_n hx hb dX12_readAct_136 rfl (lv_at hl 1 rfl) ?_
      refine m_geti S hK fk_X12_167 (gi_10_26 G) hW (ci_10 (Nat.le_of_ble_eq_true rfl)) dX12_readAct_137 ?_
      refine lv_aload_n hx hb dX12_readAct_140 rfl (lv_at hl 1 rfl) ?_
      refine m_geti S hK fk_X12_170 (gi_10_25 G) hW (ci_10 (Nat.le_of_ble_eq_true rfl)) dX12_readAct_141 ?_
      refine lv_icmp_ge (tgt := 177) hx hb dX12_readAct_144 (by decide) (fun c144 => ?_) (fun c144 => ?_)
      · replace h := h.1 c144
        exact b177 _ _ H locs ls hW hS (lv_sub hl [1, 0] rfl) h
      · replace h := h.2 c144
        refine lv_aload_n hx hb dX12_readAct_147 rfl (lv_at hl 1 rfl) ?_
        refine lv_dup hx hb dX12_readAct_148 rfl ?_
        refine m_geti S hK fk_X12_167 (gi_10_26 G) hW (ci_10 (Nat.le_of_ble_eq_true rfl)) dX12_readAct_149 ?_
        refine lv_iconst hx hb dX12_readAct_152 ki_1 ?_
        refine lv_iadd hx hb dX12_readAct_153 ?_
        refine m_put S hK fk_X12_167 tyX12_ok nmX12 rfl pf_X12_26 (pv_10_26 G) hW hS (ci_10 (Nat.le_of_ble_eq_true rfl)) rfl rfl dX12_readAct_154 (fun Mm154 eMm154 H locs hW hS => ?_)
        replace h := h Mm154 eMm154
        refine lv_aload_n hx hb dX12_readAct_157 rfl (lv_at hl 1 rfl) ?_
        refine lv_iconst hx hb dX12_readAct_158 ki_0 ?_
        refine m_ci0 (m_rV S hKX hW (m_szH hbs hS) (c_X12_readOr l ) h lk_X12_238 (m_recv hK hW (ci_10 (Nat.le_of_ble_eq_true rfl)) (rc_10 G) rfl) rfl hl.1 rfl ⟨Nat.le_of_ble_eq_true rfl, Nat.le_of_ble_eq_true rfl⟩ (Nat.le_of_ble_eq_true rfl) ⟨Nat.le_of_ble_eq_true rfl, Nat.le_of_ble_eq_true rfl⟩ dX12_readAct_159) hS rfl rfl (fun rr159 Mm159 H locs h hW hS => ?_)
        refine lv_istore_n (lv' := [(2, .int rr159), (1, .int y0), (0, .ref (ad G 10 0))]) hx hb dX12_readAct_162 rfl hl (by decide) rfl (fun ls hl => ?_)
        refine lv_iload_n hx hb dX12_readAct_163 rfl (lv_at hl 1 rfl) ?_
        refine lv_if_eq (tgt := 175) hx hb dX12_readAct_164 (by decide) (fun c164 => ?_) (fun c164 => ?_)
        · replace h := h.1 c164
          refine lv_iconst hx hb dX12_readAct_175 ki_0 ?_
          exact b176 _ _ H locs ls hW hS (lv_sub hl [2] rfl) h
        · replace h := h.2 c164
          refine lv_iload_n hx hb dX12_readAct_167 rfl (lv_at hl 0 rfl) ?_
          refine lv_if_ne (tgt := 175) hx hb dX12_readAct_168 (by decide) (fun c168 => ?_) (fun c168 => ?_)
          · replace h := h.1 c168
            refine lv_iconst hx hb dX12_readAct_175 ki_0 ?_
            exact b176 _ _ H locs ls hW hS (lv_sub hl [2] rfl) h
          · replace h := h.2 c168
            refine lv_iconst hx hb dX12_readAct_171 ki_1 ?_
            refine lv_goto (tgt := 176) hx hb dX12_readAct_172 (by decide) ?_
            exact b176 _ _ H locs ls hW hS (lv_sub hl [2] rfl) h
  have b104 : ∀ (M : Mem) (y0 : Int32) (y1 : Int32) (H : Heap) (locs : List Loc) (ls : Array Slot), WPm G M H → va_S (fun q => bs G ≤ q) s.heap H locs → lv_has ls 3 [(0, .ref (ad G 10 0))] → s_X12_readAct_104 P M y0 y1 → W p l e rm_X12_readAct s m AV below meth c H locs 0 0 (MQ below (va_Qi P (WS G) (fun q => bs G ≤ q)) AV s 0 0 (fun q => bs G ≤ q)) (F0 m 104 ls [.int y0, .int y1, .ref (ad G 10 0)]) := by
    intro M y0 y1 H locs ls hW hS hl h
    unfold s_X12_readAct_104 at h
    refine lv_iadd hx hb dX12_readAct_104 ?_
    refine m_put S hK fk_X12_167 tyX12_ok nmX12 rfl pf_X12_26 (pv_10_26 G) hW hS (ci_10 (Nat.le_of_ble_eq_true rfl)) rfl rfl dX12_readAct_105 (fun Mm105 eMm105 H locs hW hS => ?_)
    replace h := h Mm105 eMm105
    refine lv_aload_n hx hb dX12_readAct_108 rfl (lv_at hl 0 rfl) ?_
    refine m_geti S hK fk_X12_206 (gi_10_27 G) hW (ci_10 (Nat.le_of_ble_eq_true rfl)) dX12_readAct_109 ?_
    refine lv_if_ne (tgt := 127) hx hb dX12_readAct_112 (by decide) (fun c112 => ?_) (fun c112 => ?_)
    · replace h := h.1 c112
      refine lv_iconst hx hb dX12_readAct_127 ki_0 ?_
      exact b128 _ _ H locs ls hW hS (lv_sub hl [0] rfl) h
    · replace h := h.2 c112
      refine lv_aload_n hx hb dX12_readAct_115 rfl (lv_at hl 0 rfl) ?_
      refine lv_iconst hx hb dX12_readAct_116 ki_1 ?_
      refine m_ci0 (m_rV S hKX hW (m_szH hbs hS) (c_X12_readOr l ) h lk_X12_238 (m_recv hK hW (ci_10 (Nat.le_of_ble_eq_true rfl)) (rc_10 G) rfl) rfl hl.1 rfl ⟨Nat.le_of_ble_eq_true rfl, Nat.le_of_ble_eq_true rfl⟩ (Nat.le_of_ble_eq_true rfl) ⟨Nat.le_of_ble_eq_true rfl, Nat.le_of_ble_eq_true rfl⟩ dX12_readAct_117) hS rfl rfl (fun rr117 Mm117 H locs h hW hS => ?_)
      refine lv_if_eq (tgt := 127) hx hb dX12_readAct_120 (by decide) (fun c120 => ?_) (fun c120 => ?_)
      · replace h := h.1 c120
        refine lv_iconst hx hb dX12_readAct_127 ki_0 ?_
        exact b128 _ _ H locs ls hW hS (lv_sub hl [0] rfl) h
      · replace h := h.2 c120
        refine lv_iconst hx hb dX12_readAct_123 ki_1 ?_
        refine lv_goto (tgt := 128) hx hb dX12_readAct_124 (by decide) ?_
        exact b128 _ _ H locs ls hW hS (lv_sub hl [0] rfl) h
  have b84 : ∀ (M : Mem) (y0 : Int32) (H : Heap) (locs : List Loc) (ls : Array Slot), WPm G M H → va_S (fun q => bs G ≤ q) s.heap H locs → lv_has ls 3 [(0, .ref (ad G 10 0))] → s_X12_readAct_84 P M y0 → W p l e rm_X12_readAct s m AV below meth c H locs 0 0 (MQ below (va_Qi P (WS G) (fun q => bs G ≤ q)) AV s 0 0 (fun q => bs G ≤ q)) (F0 m 84 ls [.int y0, .ref (ad G 10 0)]) := by
    intro M y0 H locs ls hW hS hl h
    unfold s_X12_readAct_84 at h
    obtain ⟨hn84, h⟩ := h
    refine m_put S hK fk_X12_206 tyX12_ok nmX12 rfl pf_X12_27 (pv_10_27 G) hW hS (ci_10 (Nat.le_of_ble_eq_true rfl)) (isB_n hn84) (isB_f hn84) dX12_readAct_84 (fun Mm84 eMm84 H locs hW hS => ?_)
    replace h := h Mm84 eMm84
    refine lv_aload_n hx hb dX12_readAct_87 rfl (lv_at hl 0 rfl) ?_
    refine lv_dup hx hb dX12_readAct_88 rfl ?_
    refine m_geti S hK fk_X12_167 (gi_10_26 G) hW (ci_10 (Nat.le_of_ble_eq_true rfl)) dX12_readAct_89 ?_
    refine lv_aload_n hx hb dX12_readAct_92 rfl (lv_at hl 0 rfl) ?_
    refine m_geti S hK fk_X12_206 (gi_10_27 G) hW (ci_10 (Nat.le_of_ble_eq_true rfl)) dX12_readAct_93 ?_
    refine lv_if_eq (tgt := 103) hx hb dX12_readAct_96 (by decide) (fun c96 => ?_) (fun c96 => ?_)
    · replace h := h.1 c96
      refine lv_iconst hx hb dX12_readAct_103 ki_1 ?_
      exact b104 _ _ _ H locs ls hW hS (lv_sub hl [0] rfl) h
    · replace h := h.2 c96
      refine lv_iconst hx hb dX12_readAct_99 ki_0 ?_
      refine lv_goto (tgt := 104) hx hb dX12_readAct_100 (by decide) ?_
      exact b104 _ _ _ H locs ls hW hS (lv_sub hl [0] rfl) h
  have b58 : ∀ (M : Mem) (y0 : Int32) (y1 : Int32) (H : Heap) (locs : List Loc) (ls : Array Slot), WPm G M H → va_S (fun q => bs G ≤ q) s.heap H locs → lv_has ls 3 [(0, .ref (ad G 10 0))] → s_X12_readAct_58 P M y0 y1 → W p l e rm_X12_readAct s m AV below meth c H locs 0 0 (MQ below (va_Qi P (WS G) (fun q => bs G ≤ q)) AV s 0 0 (fun q => bs G ≤ q)) (F0 m 58 ls [.int y0, .int y1, .ref (ad G 10 0)]) := by
    intro M y0 y1 H locs ls hW hS hl h
    unfold s_X12_readAct_58 at h
    refine lv_iadd hx hb dX12_readAct_58 ?_
    refine m_put S hK fk_X12_167 tyX12_ok nmX12 rfl pf_X12_26 (pv_10_26 G) hW hS (ci_10 (Nat.le_of_ble_eq_true rfl)) rfl rfl dX12_readAct_59 (fun Mm59 eMm59 H locs hW hS => ?_)
    replace h := h Mm59 eMm59
    refine lv_aload_n hx hb dX12_readAct_62 rfl (lv_at hl 0 rfl) ?_
    refine lv_aload_n hx hb dX12_readAct_63 rfl (lv_at hl 0 rfl) ?_
    refine m_geti S hK fk_X12_206 (gi_10_27 G) hW (ci_10 (Nat.le_of_ble_eq_true rfl)) dX12_readAct_64 ?_
    refine lv_if_ne (tgt := 79) hx hb dX12_readAct_67 (by decide) (fun c67 => ?_) (fun c67 => ?_)
    · replace h := h.1 c67
      refine lv_iconst hx hb dX12_readAct_79 ki_1 ?_
      refine lv_goto (tgt := 84) hx hb dX12_readAct_80 (by decide) ?_
      exact b84 _ _ H locs ls hW hS (lv_sub hl [0] rfl) h
    · replace h := h.2 c67
      refine lv_aload_n hx hb dX12_readAct_70 rfl (lv_at hl 0 rfl) ?_
      refine m_ci0 (m_rV S hKX hW (m_szH hbs hS) (c_X12_here l ) h lk_X12_196 (m_recv hK hW (ci_10 (Nat.le_of_ble_eq_true rfl)) (rc_10 G) rfl) rfl hl.1 rfl ⟨Nat.le_of_ble_eq_true rfl, Nat.le_of_ble_eq_true rfl⟩ (Nat.le_of_ble_eq_true rfl) ⟨Nat.le_of_ble_eq_true rfl, Nat.le_of_ble_eq_true rfl⟩ dX12_readAct_71) hS rfl rfl (fun rr71 Mm71 H locs h hW hS => ?_)
      refine lv_bipush hx hb dX12_readAct_74 kb_58 ?_
      refine lv_icmp_eq (tgt := 83) hx hb dX12_readAct_76 (by decide) (fun c76 => ?_) (fun c76 => ?_)
      · replace h := h.1 c76
        refine lv_iconst hx hb dX12_readAct_83 ki_0 ?_
        exact b84 _ _ H locs ls hW hS (lv_sub hl [0] rfl) h
      · replace h := h.2 c76
        refine lv_iconst hx hb dX12_readAct_79 ki_1 ?_
        refine lv_goto (tgt := 84) hx hb dX12_readAct_80 (by decide) ?_
        exact b84 _ _ H locs ls hW hS (lv_sub hl [0] rfl) h
  have b38 : ∀ (M : Mem) (y0 : Int32) (H : Heap) (locs : List Loc) (ls : Array Slot), WPm G M H → va_S (fun q => bs G ≤ q) s.heap H locs → lv_has ls 3 [(0, .ref (ad G 10 0))] → s_X12_readAct_38 P M y0 → W p l e rm_X12_readAct s m AV below meth c H locs 0 0 (MQ below (va_Qi P (WS G) (fun q => bs G ≤ q)) AV s 0 0 (fun q => bs G ≤ q)) (F0 m 38 ls [.int y0, .ref (ad G 10 0)]) := by
    intro M y0 H locs ls hW hS hl h
    unfold s_X12_readAct_38 at h
    obtain ⟨hn38, h⟩ := h
    refine m_put S hK fk_X12_206 tyX12_ok nmX12 rfl pf_X12_27 (pv_10_27 G) hW hS (ci_10 (Nat.le_of_ble_eq_true rfl)) (isB_n hn38) (isB_f hn38) dX12_readAct_38 (fun Mm38 eMm38 H locs hW hS => ?_)
    replace h := h Mm38 eMm38
    refine lv_aload_n hx hb dX12_readAct_41 rfl (lv_at hl 0 rfl) ?_
    refine lv_dup hx hb dX12_readAct_42 rfl ?_
    refine m_geti S hK fk_X12_167 (gi_10_26 G) hW (ci_10 (Nat.le_of_ble_eq_true rfl)) dX12_readAct_43 ?_
    refine lv_aload_n hx hb dX12_readAct_46 rfl (lv_at hl 0 rfl) ?_
    refine m_geti S hK fk_X12_206 (gi_10_27 G) hW (ci_10 (Nat.le_of_ble_eq_true rfl)) dX12_readAct_47 ?_
    refine lv_if_eq (tgt := 57) hx hb dX12_readAct_50 (by decide) (fun c50 => ?_) (fun c50 => ?_)
    · replace h := h.1 c50
      refine lv_iconst hx hb dX12_readAct_57 ki_1 ?_
      exact b58 _ _ _ H locs ls hW hS (lv_sub hl [0] rfl) h
    · replace h := h.2 c50
      refine lv_iconst hx hb dX12_readAct_53 ki_0 ?_
      refine lv_goto (tgt := 58) hx hb dX12_readAct_54 (by decide) ?_
      exact b58 _ _ _ H locs ls hW hS (lv_sub hl [0] rfl) h
  unfold s_X12_readAct at h
  refine lv_aload_n hx hb dX12_readAct_0 rfl (lv_at hl 0 rfl) ?_
  refine lv_iconst hx hb dX12_readAct_1 ki_0 ?_
  refine m_put S hK fk_X12_167 tyX12_ok nmX12 rfl pf_X12_26 (pv_10_26 G) hW hS (ci_10 (Nat.le_of_ble_eq_true rfl)) rfl rfl dX12_readAct_2 (fun Mm2 eMm2 H locs hW hS => ?_)
  replace h := h Mm2 eMm2
  refine lv_aload_n hx hb dX12_readAct_5 rfl (lv_at hl 0 rfl) ?_
  refine lv_aload_n hx hb dX12_readAct_6 rfl (lv_at hl 0 rfl) ?_
  refine m_ci0 (m_rV S hKX hW (m_szH hbs hS) (c_X12_here l ) h lk_X12_196 (m_recv hK hW (ci_10 (Nat.le_of_ble_eq_true rfl)) (rc_10 G) rfl) rfl hl.1 rfl ⟨Nat.le_of_ble_eq_true rfl, Nat.le_of_ble_eq_true rfl⟩ (Nat.le_of_ble_eq_true rfl) ⟨Nat.le_of_ble_eq_true rfl, Nat.le_of_ble_eq_true rfl⟩ dX12_readAct_7) hS rfl rfl (fun rr7 Mm7 H locs h hW hS => ?_)
  refine lv_bipush hx hb dX12_readAct_10 kb_101 ?_
  refine lv_icmp_eq (tgt := 37) hx hb dX12_readAct_12 (by decide) (fun c12 => ?_) (fun c12 => ?_)
  · replace h := h.1 c12
    refine lv_iconst hx hb dX12_readAct_37 ki_0 ?_
    exact b38 _ _ H locs ls hW hS (lv_sub hl [0] rfl) h
  · replace h := h.2 c12
    refine lv_aload_n hx hb dX12_readAct_15 rfl (lv_at hl 0 rfl) ?_
    refine m_ci0 (m_rV S hKX hW (m_szH hbs hS) (c_X12_here l ) h lk_X12_196 (m_recv hK hW (ci_10 (Nat.le_of_ble_eq_true rfl)) (rc_10 G) rfl) rfl hl.1 rfl ⟨Nat.le_of_ble_eq_true rfl, Nat.le_of_ble_eq_true rfl⟩ (Nat.le_of_ble_eq_true rfl) ⟨Nat.le_of_ble_eq_true rfl, Nat.le_of_ble_eq_true rfl⟩ dX12_readAct_16) hS rfl rfl (fun rr16 Mm16 H locs h hW hS => ?_)
    refine lv_bipush hx hb dX12_readAct_19 kb_114 ?_
    refine lv_icmp_eq (tgt := 37) hx hb dX12_readAct_21 (by decide) (fun c21 => ?_) (fun c21 => ?_)
    · replace h := h.1 c21
      refine lv_iconst hx hb dX12_readAct_37 ki_0 ?_
      exact b38 _ _ H locs ls hW hS (lv_sub hl [0] rfl) h
    · replace h := h.2 c21
      refine lv_aload_n hx hb dX12_readAct_24 rfl (lv_at hl 0 rfl) ?_
      refine m_ci0 (m_rV S hKX hW (m_szH hbs hS) (c_X12_here l ) h lk_X12_196 (m_recv hK hW (ci_10 (Nat.le_of_ble_eq_true rfl)) (rc_10 G) rfl) rfl hl.1 rfl ⟨Nat.le_of_ble_eq_true rfl, Nat.le_of_ble_eq_true rfl⟩ (Nat.le_of_ble_eq_true rfl) ⟨Nat.le_of_ble_eq_true rfl, Nat.le_of_ble_eq_true rfl⟩ dX12_readAct_25) hS rfl rfl (fun rr25 Mm25 H locs h hW hS => ?_)
      refine lv_bipush hx hb dX12_readAct_28 kb_111 ?_
      refine lv_icmp_eq (tgt := 37) hx hb dX12_readAct_30 (by decide) (fun c30 => ?_) (fun c30 => ?_)
      · replace h := h.1 c30
        refine lv_iconst hx hb dX12_readAct_37 ki_0 ?_
        exact b38 _ _ H locs ls hW hS (lv_sub hl [0] rfl) h
      · replace h := h.2 c30
        refine lv_iconst hx hb dX12_readAct_33 ki_1 ?_
        refine lv_goto (tgt := 38) hx hb dX12_readAct_34 (by decide) ?_
        exact b38 _ _ H locs ls hW hS (lv_sub hl [0] rfl) h
abbrev rm_X12_lacks : Room := { frames := 1, cells := 0, slots := 0, locals := 22 }
set_option maxHeartbeats 4000000 in
set_option maxRecDepth 100000 in
theorem c_X12_lacks (l : Launch) {G : Gn} {M : Mem} {x1 : Int32} {x2 : Int32} {P : Int32 → Mem → Prop} : MQi l yX12_lacks cX12_lacks 3 (some .int) rm_X12_lacks [.ref (ad G 10 0), .int x1, .int x2] G M (s_X12_lacks M x1 x2 P) P := by
  refine m_enter (by decide +kernel) (Nat.le_of_ble_eq_true rfl) ?_
  intro p e s m below meth c ls H locs S hret hlocks hname hKX hbs hW hS hl h
  obtain ⟨AV, hAV⟩ : ∃ z : Array Value, z = ([.ref (ad G 10 0), .int x1, .int x2] : List Value).toArray := ⟨_, rfl⟩
  rw [← hAV] at S ⊢
  replace S : CallFix p m c cX12_lacks 3 s AV lw_G "MilkDeskModel" := S
  have hK := hKX.1
  have hx := S.1
  have hb := S.2.1
  have hml := S.2.2.1
  have hown := S.2.2.2.1
  have hts := S.2.2.2.2
  replace hl : lv_has ls 3 [(0, .ref (ad G 10 0)), (1, .int x1), (2, .int x2)] := hl
  unfold s_X12_lacks at h
  refine lv_iload_n hx hb dX12_lacks_0 rfl (lv_at hl 1 rfl) ?_
  refine lv_iconst hx hb dX12_lacks_1 ki_0 ?_
  refine lv_bipush hx hb dX12_lacks_2 kb_7 ?_
  refine m_ci0 (m_rS S hKX hW (m_szH hbs hS) (c_X12_in l ) h lk_X12_131 rfl hl.1 rfl ⟨Nat.le_of_ble_eq_true rfl, Nat.le_of_ble_eq_true rfl⟩ (Nat.le_of_ble_eq_true rfl) ⟨Nat.le_of_ble_eq_true rfl, Nat.le_of_ble_eq_true rfl⟩ dX12_lacks_4) hS rfl rfl (fun rr4 Mm4 H locs h hW hS => ?_)
  refine lv_if_ne (tgt := 12) hx hb dX12_lacks_7 (by decide) (fun c7 => ?_) (fun c7 => ?_)
  · replace h := h.1 c7
    refine lv_aload_n hx hb dX12_lacks_12 rfl (lv_at hl 0 rfl) ?_
    refine m_getr S hK fk_X12_102 (gr_10_45 G 0) hW (ci_10 (Nat.le_of_ble_eq_true rfl)) dX12_lacks_13 ?_
    refine lv_iload_n hx hb dX12_lacks_16 rfl (lv_at hl 1 rfl) ?_
    obtain ⟨hb17, h⟩ := h
    refine m_ald S hK (ar_72 G) hW (ci_72 (Nat.le_of_ble_eq_true rfl)) hb17 dX12_lacks_17 ?_
    refine lv_if_ne (tgt := 26) hx hb dX12_lacks_18 (by decide) (fun c18 => ?_) (fun c18 => ?_)
    · replace h := h.1 c18
      refine lv_aload_n hx hb dX12_lacks_26 rfl (lv_at hl 0 rfl) ?_
      refine m_getr S hK fk_X12_102 (gr_10_45 G 0) hW (ci_10 (Nat.le_of_ble_eq_true rfl)) dX12_lacks_27 ?_
      refine lv_iload_n hx hb dX12_lacks_30 rfl (lv_at hl 1 rfl) ?_
      obtain ⟨hb31, h⟩ := h
      refine m_ald S hK (ar_72 G) hW (ci_72 (Nat.le_of_ble_eq_true rfl)) hb31 dX12_lacks_31 ?_
      refine lv_iconst hx hb dX12_lacks_32 ki_2 ?_
      refine lv_icmp_ne (tgt := 46) hx hb dX12_lacks_33 (by decide) (fun c33 => ?_) (fun c33 => ?_)
      · replace h := h.1 c33
        refine lv_bipush hx hb dX12_lacks_46 kb_m12 ?_
        refine lv_goto (tgt := 52) hx hb dX12_lacks_48 (by decide) ?_
        exact m_iret S hret hlocks hKX hW hbs hS rfl h dX12_lacks_52
      · replace h := h.2 c33
        refine lv_aload_n hx hb dX12_lacks_36 rfl (lv_at hl 0 rfl) ?_
        refine m_getr S hK fk_X12_114 (gr_10_49 G 0) hW (ci_10 (Nat.le_of_ble_eq_true rfl)) dX12_lacks_37 ?_
        refine lv_iload_n hx hb dX12_lacks_40 rfl (lv_at hl 1 rfl) ?_
        obtain ⟨hb41, h⟩ := h
        refine m_ald S hK (ar_76 G) hW (ci_76 (Nat.le_of_ble_eq_true rfl)) hb41 dX12_lacks_41 ?_
        refine lv_iload_n hx hb dX12_lacks_42 rfl (lv_at hl 2 rfl) ?_
        refine lv_icmp_eq (tgt := 51) hx hb dX12_lacks_43 (by decide) (fun c43 => ?_) (fun c43 => ?_)
        · replace h := h.1 c43
          refine lv_iconst hx hb dX12_lacks_51 ki_0 ?_
          exact m_iret S hret hlocks hKX hW hbs hS rfl h dX12_lacks_52
        · replace h := h.2 c43
          refine lv_bipush hx hb dX12_lacks_46 kb_m12 ?_
          refine lv_goto (tgt := 52) hx hb dX12_lacks_48 (by decide) ?_
          exact m_iret S hret hlocks hKX hW hbs hS rfl h dX12_lacks_52
    · replace h := h.2 c18
      refine lv_bipush hx hb dX12_lacks_21 kb_m11 ?_
      refine lv_goto (tgt := 52) hx hb dX12_lacks_23 (by decide) ?_
      exact m_iret S hret hlocks hKX hW hbs hS rfl h dX12_lacks_52
  · replace h := h.2 c7
    refine lv_iconst hx hb dX12_lacks_10 ki_m1 ?_
    exact m_iret S hret hlocks hKX hW hbs hS rfl h dX12_lacks_11
abbrev rm_X12_faultOf : Room := { frames := 8, cells := 0, slots := 0, locals := 184 }
set_option maxHeartbeats 4000000 in
set_option maxRecDepth 100000 in
theorem c_X12_faultOf (l : Launch) {G : Gn} {M : Mem} {x1 : Int32} {P : Int32 → Mem → Prop} : MQi l yX12_faultOf cX12_faultOf 2 (some .int) rm_X12_faultOf [.ref (ad G 10 0), .int x1] G M (s_X12_faultOf M x1 P) P := by
  refine m_enter (by decide +kernel) (Nat.le_of_ble_eq_true rfl) ?_
  intro p e s m below meth c ls H locs S hret hlocks hname hKX hbs hW hS hl h
  obtain ⟨AV, hAV⟩ : ∃ z : Array Value, z = ([.ref (ad G 10 0), .int x1] : List Value).toArray := ⟨_, rfl⟩
  rw [← hAV] at S ⊢
  replace S : CallFix p m c cX12_faultOf 2 s AV lw_G "MilkDeskModel" := S
  have hK := hKX.1
  have hx := S.1
  have hb := S.2.1
  have hml := S.2.2.1
  have hown := S.2.2.2.1
  have hts := S.2.2.2.2
  replace hl : lv_has ls 2 [(0, .ref (ad G 10 0)), (1, .int x1)] := hl
  unfold s_X12_faultOf at h
  refine lv_aload_n hx hb dX12_faultOf_0 rfl (lv_at hl 0 rfl) ?_
  refine lv_iconst hx hb dX12_faultOf_1 ki_1 ?_
  refine m_put S hK fk_X12_173 tyX12_ok nmX12 rfl pf_X12_23 (pv_10_23 G) hW hS (ci_10 (Nat.le_of_ble_eq_true rfl)) (isB_n isB_1) (isB_f isB_1) dX12_faultOf_2 (fun Mm2 eMm2 H locs hW hS => ?_)
  replace h := h Mm2 eMm2
  refine lv_aload_n hx hb dX12_faultOf_5 rfl (lv_at hl 0 rfl) ?_
  refine lv_bipush hx hb dX12_faultOf_6 kb_80 ?_
  refine lv_iload_n hx hb dX12_faultOf_8 rfl (lv_at hl 1 rfl) ?_
  refine lv_imul hx hb dX12_faultOf_9 ?_
  refine m_put S hK fk_X12_177 tyX12_ok nmX12 rfl pf_X12_24 (pv_10_24 G) hW hS (ci_10 (Nat.le_of_ble_eq_true rfl)) rfl rfl dX12_faultOf_10 (fun Mm10 eMm10 H locs hW hS => ?_)
  replace h := h Mm10 eMm10
  refine lv_aload_n hx hb dX12_faultOf_13 rfl (lv_at hl 0 rfl) ?_
  refine lv_aload_n hx hb dX12_faultOf_14 rfl (lv_at hl 0 rfl) ?_
  refine m_getr S hK fk_X12_117 (gr_10_50 G 0) hW (ci_10 (Nat.le_of_ble_eq_true rfl)) dX12_faultOf_15 ?_
  refine lv_iload_n hx hb dX12_faultOf_18 rfl (lv_at hl 1 rfl) ?_
  obtain ⟨hb19, h⟩ := h
  refine m_ald S hK (ar_77 G) hW (ci_77 (Nat.le_of_ble_eq_true rfl)) hb19 dX12_faultOf_19 ?_
  refine m_put S hK fk_X12_170 tyX12_ok nmX12 rfl pf_X12_25 (pv_10_25 G) hW hS (ci_10 (Nat.le_of_ble_eq_true rfl)) rfl rfl dX12_faultOf_20 (fun Mm20 eMm20 H locs hW hS => ?_)
  replace h := h Mm20 eMm20
  refine lv_aload_n hx hb dX12_faultOf_23 rfl (lv_at hl 0 rfl) ?_
  refine m_ci0 (m_rV S hKX hW (m_szH hbs hS) (c_X12_readAct l ) h lk_X12_242 (m_recv hK hW (ci_10 (Nat.le_of_ble_eq_true rfl)) (rc_10 G) rfl) rfl hl.1 rfl ⟨Nat.le_of_ble_eq_true rfl, Nat.le_of_ble_eq_true rfl⟩ (Nat.le_of_ble_eq_true rfl) ⟨Nat.le_of_ble_eq_true rfl, Nat.le_of_ble_eq_true rfl⟩ dX12_faultOf_24) hS rfl rfl (fun rr24 Mm24 H locs h hW hS => ?_)
  refine lv_pop hx hb dX12_faultOf_27 rfl ?_
  refine lv_aload_n hx hb dX12_faultOf_28 rfl (lv_at hl 0 rfl) ?_
  refine m_geti S hK fk_X12_206 (gi_10_27 G) hW (ci_10 (Nat.le_of_ble_eq_true rfl)) dX12_faultOf_29 ?_
  refine lv_if_eq (tgt := 42) hx hb dX12_faultOf_32 (by decide) (fun c32 => ?_) (fun c32 => ?_)
  · replace h := h.1 c32
    refine lv_iconst hx hb dX12_faultOf_42 ki_m1 ?_
    exact m_iret S hret hlocks hKX hW hbs hS rfl h dX12_faultOf_43
  · replace h := h.2 c32
    refine lv_aload_n hx hb dX12_faultOf_35 rfl (lv_at hl 0 rfl) ?_
    refine m_geti S hK fk_X12_167 (gi_10_26 G) hW (ci_10 (Nat.le_of_ble_eq_true rfl)) dX12_faultOf_36 ?_
    refine lv_goto (tgt := 43) hx hb dX12_faultOf_39 (by decide) ?_
    exact m_iret S hret hlocks hKX hW hbs hS rfl h dX12_faultOf_43
abbrev rm_X12_fault : Room := { frames := 9, cells := 0, slots := 0, locals := 205 }
set_option maxHeartbeats 4000000 in
set_option maxRecDepth 100000 in
theorem c_X12_fault (l : Launch) {G : Gn} {M : Mem} {x1 : Int32} {P : Int32 → Mem → Prop} : MQi l yX12_fault cX12_fault 4 (some .int) rm_X12_fault [.ref (ad G 10 0), .int x1] G M (s_X12_fault M x1 P) P := by
  refine m_enter (by decide +kernel) (Nat.le_of_ble_eq_true rfl) ?_
  intro p e s m below meth c ls H locs S hret hlocks hname hKX hbs hW hS hl h
  obtain ⟨AV, hAV⟩ : ∃ z : Array Value, z = ([.ref (ad G 10 0), .int x1] : List Value).toArray := ⟨_, rfl⟩
  rw [← hAV] at S ⊢
  replace S : CallFix p m c cX12_fault 4 s AV lw_G "MilkDeskModel" := S
  have hK := hKX.1
  have hx := S.1
  have hb := S.2.1
  have hml := S.2.2.1
  have hown := S.2.2.2.1
  have hts := S.2.2.2.2
  replace hl : lv_has ls 4 [(0, .ref (ad G 10 0)), (1, .int x1)] := hl
  unfold s_X12_fault at h
  refine lv_aload_n hx hb dX12_fault_0 rfl (lv_at hl 0 rfl) ?_
  refine lv_iconst hx hb dX12_fault_1 ki_0 ?_
  refine m_put S hK fk_X12_128 tyX12_ok nmX12 rfl pf_X12_0 (pv_10_0 G) hW hS (ci_10 (Nat.le_of_ble_eq_true rfl)) rfl rfl dX12_fault_2 (fun Mm2 eMm2 H locs hW hS => ?_)
  replace h := h Mm2 eMm2
  refine lv_aload_n hx hb dX12_fault_5 rfl (lv_at hl 0 rfl) ?_
  refine lv_iload_n hx hb dX12_fault_6 rfl (lv_at hl 1 rfl) ?_
  refine lv_iconst hx hb dX12_fault_7 ki_0 ?_
  refine m_ci0 (m_rV S hKX hW (m_szH hbs hS) (c_X12_lacks l ) h lk_X12_245 (m_recv hK hW (ci_10 (Nat.le_of_ble_eq_true rfl)) (rc_10 G) rfl) rfl hl.1 rfl ⟨Nat.le_of_ble_eq_true rfl, Nat.le_of_ble_eq_true rfl⟩ (Nat.le_of_ble_eq_true rfl) ⟨Nat.le_of_ble_eq_true rfl, Nat.le_of_ble_eq_true rfl⟩ dX12_fault_8) hS rfl rfl (fun rr8 Mm8 H locs h hW hS => ?_)
  refine lv_istore_n (lv' := [(2, .int rr8), (0, .ref (ad G 10 0)), (1, .int x1)]) hx hb dX12_fault_11 rfl hl (by decide) rfl (fun ls hl => ?_)
  refine lv_iload_n hx hb dX12_fault_12 rfl (lv_at hl 0 rfl) ?_
  refine lv_if_ge (tgt := 18) hx hb dX12_fault_13 (by decide) (fun c13 => ?_) (fun c13 => ?_)
  · replace h := h.1 c13
    refine lv_aload_n hx hb dX12_fault_18 rfl (lv_at hl 1 rfl) ?_
    refine lv_iload_n hx hb dX12_fault_19 rfl (lv_at hl 2 rfl) ?_
    refine m_ci0 (m_rV S hKX hW (m_szH hbs hS) (c_X12_faultOf l ) h lk_X12_248 (m_recv hK hW (ci_10 (Nat.le_of_ble_eq_true rfl)) (rc_10 G) rfl) rfl hl.1 rfl ⟨Nat.le_of_ble_eq_true rfl, Nat.le_of_ble_eq_true rfl⟩ (Nat.le_of_ble_eq_true rfl) ⟨Nat.le_of_ble_eq_true rfl, Nat.le_of_ble_eq_true rfl⟩ dX12_fault_20) hS rfl rfl (fun rr20 Mm20 H locs h hW hS => ?_)
    refine lv_istore_n (lv' := [(3, .int rr20), (2, .int rr8), (0, .ref (ad G 10 0)), (1, .int x1)]) hx hb dX12_fault_23 rfl hl (by decide) rfl (fun ls hl => ?_)
    refine lv_iload_n hx hb dX12_fault_24 rfl (lv_at hl 0 rfl) ?_
    refine lv_if_ge (tgt := 33) hx hb dX12_fault_25 (by decide) (fun c25 => ?_) (fun c25 => ?_)
    · replace h := h.1 c25
      refine lv_iload_n hx hb dX12_fault_33 rfl (lv_at hl 0 rfl) ?_
      exact m_iret S hret hlocks hKX hW hbs hS rfl h dX12_fault_34
    · replace h := h.2 c25
      refine lv_bipush hx hb dX12_fault_28 kb_m4 ?_
      refine lv_goto (tgt := 34) hx hb dX12_fault_30 (by decide) ?_
      exact m_iret S hret hlocks hKX hW hbs hS rfl h dX12_fault_34
  · replace h := h.2 c13
    refine lv_iload_n hx hb dX12_fault_16 rfl (lv_at hl 0 rfl) ?_
    exact m_iret S hret hlocks hKX hW hbs hS rfl h dX12_fault_17
abbrev rm_X12_act : Room := { frames := 9, cells := 0, slots := 0, locals := 205 }
set_option maxHeartbeats 4000000 in
set_option maxRecDepth 100000 in
theorem c_X12_act (l : Launch) {G : Gn} {M : Mem} {x1 : Int32} {x2 : Int32} {x3 : Int32} {P : Int32 → Mem → Prop} : MQi l yX12_act cX12_act 8 (some .int) rm_X12_act [.ref (ad G 10 0), .int x1, .int x2, .int x3] G M (s_X12_act M x1 x2 x3 P) P := by
  refine m_enter (by decide +kernel) (Nat.le_of_ble_eq_true rfl) ?_
  intro p e s m below meth c ls H locs S hret hlocks hname hKX hbs hW hS hl h
  obtain ⟨AV, hAV⟩ : ∃ z : Array Value, z = ([.ref (ad G 10 0), .int x1, .int x2, .int x3] : List Value).toArray := ⟨_, rfl⟩
  rw [← hAV] at S ⊢
  replace S : CallFix p m c cX12_act 8 s AV lw_G "MilkDeskModel" := S
  have hK := hKX.1
  have hx := S.1
  have hb := S.2.1
  have hml := S.2.2.1
  have hown := S.2.2.2.1
  have hts := S.2.2.2.2
  replace hl : lv_has ls 8 [(0, .ref (ad G 10 0)), (1, .int x1), (2, .int x2), (3, .int x3)] := hl
  have w101 : ∀ (x6 : Int32), ∀ (n : Nat) (a : Mem × Int32), Lz (fun (K101 : Mem × Int32 → Prop) (a : Mem × Int32) => s_X12_act_101 x1 x2 x3 x6 P K101 a.1 a.2) n a → ∀ (H : Heap) (locs : List Loc) (ls : Array Slot), WPm G a.1 H → va_S (fun q => bs G ≤ q) s.heap H locs → lv_has ls 8 [(0, .ref (ad G 10 0)), (1, .int x1), (2, .int x2), (3, .int x3), (6, .int x6), (7, .int a.2)] → W p l e rm_X12_act s m AV below meth c H locs 0 0 (MQ below (va_Qi P (WS G) (fun q => bs G ≤ q)) AV s 0 0 (fun q => bs G ≤ q)) (F0 m 101 ls []) := by
    intro x6
    refine Lz_walk ?_
    rintro K101 kk101 ⟨M, x7⟩ h H locs ls hW hS hl
    replace h : s_X12_act_101 x1 x2 x3 x6 P K101 M x7 := h
    replace hW : WPm G M H := hW
    replace hl : lv_has ls 8 [(0, .ref (ad G 10 0)), (1, .int x1), (2, .int x2), (3, .int x3), (6, .int x6), (7, .int x7)] := hl
    unfold s_X12_act_101 at h
    refine lv_iload hx hb dX12_act_101 (lv_at hl 5 rfl) ?_
    refine lv_aload_n hx hb dX12_act_103 rfl (lv_at hl 0 rfl) ?_
    refine m_getr S hK fk_X12_117 (gr_10_50 G 0) hW (ci_10 (Nat.le_of_ble_eq_true rfl)) dX12_act_104 ?_
    refine lv_iload_n hx hb dX12_act_107 rfl (lv_at hl 1 rfl) ?_
    obtain ⟨hb108, h⟩ := h
    refine m_ald S hK (ar_77 G) hW (ci_77 (Nat.le_of_ble_eq_true rfl)) hb108 dX12_act_108 ?_
    refine lv_icmp_ge (tgt := 148) hx hb dX12_act_109 (by decide) (fun c109 => ?_) (fun c109 => ?_)
    · replace h := h.1 c109
      refine lv_aload_n hx hb dX12_act_148 rfl (lv_at hl 0 rfl) ?_
      refine m_getr S hK fk_X12_52 (gr_10_16 G 0) hW (ci_10 (Nat.le_of_ble_eq_true rfl)) dX12_act_149 ?_
      refine lv_iload hx hb dX12_act_152 (lv_at hl 4 rfl) ?_
      refine lv_aload_n hx hb dX12_act_154 rfl (lv_at hl 0 rfl) ?_
      refine m_getr S hK fk_X12_117 (gr_10_50 G 0) hW (ci_10 (Nat.le_of_ble_eq_true rfl)) dX12_act_155 ?_
      refine lv_iload_n hx hb dX12_act_158 rfl (lv_at hl 1 rfl) ?_
      obtain ⟨hb159, h⟩ := h
      refine m_ald S hK (ar_77 G) hW (ci_77 (Nat.le_of_ble_eq_true rfl)) hb159 dX12_act_159 ?_
      obtain ⟨hb160, h⟩ := h
      refine m_ast S hK (ar_58 G) hW hS (ci_58 (Nat.le_of_ble_eq_true rfl)) hb160 dX12_act_160 (fun Mm160 eMm160 H locs hW hS => ?_)
      replace h := h Mm160 eMm160
      refine lv_aload_n hx hb dX12_act_161 rfl (lv_at hl 0 rfl) ?_
      refine m_getr S hK fk_X12_55 (gr_10_17 G 0) hW (ci_10 (Nat.le_of_ble_eq_true rfl)) dX12_act_162 ?_
      refine lv_iload hx hb dX12_act_165 (lv_at hl 4 rfl) ?_
      refine lv_iload_n hx hb dX12_act_167 rfl (lv_at hl 2 rfl) ?_
      obtain ⟨hb168, h⟩ := h
      refine m_ast S hK (ar_59 G) hW hS (ci_59 (Nat.le_of_ble_eq_true rfl)) hb168 dX12_act_168 (fun Mm168 eMm168 H locs hW hS => ?_)
      replace h := h Mm168 eMm168
      refine lv_aload_n hx hb dX12_act_169 rfl (lv_at hl 0 rfl) ?_
      refine m_getr S hK fk_X12_58 (gr_10_18 G 0) hW (ci_10 (Nat.le_of_ble_eq_true rfl)) dX12_act_170 ?_
      refine lv_iload hx hb dX12_act_173 (lv_at hl 4 rfl) ?_
      refine lv_iload_n hx hb dX12_act_175 rfl (lv_at hl 3 rfl) ?_
      obtain ⟨hb176, h⟩ := h
      refine m_ast S hK (ar_60 G) hW hS (ci_60 (Nat.le_of_ble_eq_true rfl)) hb176 dX12_act_176 (fun Mm176 eMm176 H locs hW hS => ?_)
      replace h := h Mm176 eMm176
      refine lv_aload_n hx hb dX12_act_177 rfl (lv_at hl 0 rfl) ?_
      refine m_getr S hK fk_X12_7 (gr_10_1 G 0) hW (ci_10 (Nat.le_of_ble_eq_true rfl)) dX12_act_178 ?_
      refine lv_sipush hx hb dX12_act_181 ks_160 ?_
      refine lv_iload hx hb dX12_act_184 (lv_at hl 4 rfl) ?_
      refine lv_iadd hx hb dX12_act_186 ?_
      refine lv_ldc hx hb hown (hts _ mw_1442) dX12_act_187 ?_
      obtain ⟨hb189, h⟩ := h
      refine m_ast S hK (ar_44 G) hW hS (ci_44 (Nat.le_of_ble_eq_true rfl)) hb189 dX12_act_189 (fun Mm189 eMm189 H locs hW hS => ?_)
      replace h := h Mm189 eMm189
      refine lv_aload_n hx hb dX12_act_190 rfl (lv_at hl 0 rfl) ?_
      refine m_getr S hK fk_X12_7 (gr_10_1 G 0) hW (ci_10 (Nat.le_of_ble_eq_true rfl)) dX12_act_191 ?_
      refine lv_iconst hx hb dX12_act_194 ki_2 ?_
      refine lv_dup2_11 hx hb dX12_act_195 rfl rfl ?_
      refine m_aldk S hK (ar_44 G) hW (ci_44 (Nat.le_of_ble_eq_true rfl)) kn_2 (Nat.le_of_ble_eq_true rfl) dX12_act_196 ?_
      refine lv_iconst hx hb dX12_act_197 ki_1 ?_
      refine lv_iadd hx hb dX12_act_198 ?_
      refine m_astk S hK (ar_44 G) hW hS (ci_44 (Nat.le_of_ble_eq_true rfl)) kn_2 (Nat.le_of_ble_eq_true rfl) dX12_act_199 (fun Mm199 eMm199 H locs hW hS => ?_)
      replace h := h Mm199 eMm199
      refine lv_aload_n hx hb dX12_act_200 rfl (lv_at hl 0 rfl) ?_
      refine lv_iconst hx hb dX12_act_201 ki_m1 ?_
      refine m_put S hK fk_X12_84 tyX12_ok nmX12 rfl pf_X12_37 (pv_10_37 G) hW hS (ci_10 (Nat.le_of_ble_eq_true rfl)) rfl rfl dX12_act_202 (fun Mm202 eMm202 H locs hW hS => ?_)
      replace h := h Mm202 eMm202
      refine lv_iload hx hb dX12_act_205 (lv_at hl 4 rfl) ?_
      exact m_iret S hret hlocks hKX hW hbs hS rfl h dX12_act_207
    · replace h := h.2 c109
      refine lv_aload_n hx hb dX12_act_112 rfl (lv_at hl 0 rfl) ?_
      refine m_getr S hK fk_X12_49 (gr_10_15 G 0) hW (ci_10 (Nat.le_of_ble_eq_true rfl)) dX12_act_113 ?_
      refine lv_bipush hx hb dX12_act_116 kb_80 ?_
      refine lv_iload hx hb dX12_act_118 (lv_at hl 4 rfl) ?_
      refine lv_imul hx hb dX12_act_120 ?_
      refine lv_iload hx hb dX12_act_121 (lv_at hl 5 rfl) ?_
      refine lv_iadd hx hb dX12_act_123 ?_
      refine lv_aload_n hx hb dX12_act_124 rfl (lv_at hl 0 rfl) ?_
      refine m_getr S hK fk_X12_120 (gr_10_51 G 0) hW (ci_10 (Nat.le_of_ble_eq_true rfl)) dX12_act_125 ?_
      refine lv_bipush hx hb dX12_act_128 kb_80 ?_
      refine lv_iload_n hx hb dX12_act_130 rfl (lv_at hl 1 rfl) ?_
      refine lv_imul hx hb dX12_act_131 ?_
      refine lv_iload hx hb dX12_act_132 (lv_at hl 5 rfl) ?_
      refine lv_iadd hx hb dX12_act_134 ?_
      obtain ⟨hb135, h⟩ := h
      refine m_jald S hK (ar_78 G) hW (ci_78 (Nat.le_of_ble_eq_true rfl)) hb135 dX12_act_135 ?_
      refine lv_l2i hx hb dX12_act_136 rfl ?_
      refine lv_sipush hx hb dX12_act_137 ks_255 ?_
      refine lv_iand hx hb dX12_act_140 ?_
      obtain ⟨hb141, h⟩ := h
      refine m_ast S hK (ar_57 G) hW hS (ci_57 (Nat.le_of_ble_eq_true rfl)) hb141 dX12_act_141 (fun Mm141 eMm141 H locs hW hS => ?_)
      replace h := h Mm141 eMm141
      obtain ⟨x7_142, ex7_142⟩ : ∃ z : Int32, z = x7 + (1 : Int32) := ⟨_, rfl⟩
      replace h := h x7_142 ex7_142
      refine lv_iinc (v := x7_142) (lv' := [(7, .int x7_142), (0, .ref (ad G 10 0)), (1, .int x1), (2, .int x2), (3, .int x3), (6, .int x6)]) hx hb dX12_act_142 hl (k := 5) rfl (by rw [ex7_142, ki_1]) (by decide) rfl (fun ls hl => ?_)
      refine lv_goto (tgt := 101) hx hb dX12_act_145 (by decide) ?_
      exact kk101 _ h H locs ls hW hS (lv_sub hl [1, 2, 3, 4, 5, 0] rfl)
  unfold s_X12_act at h
  refine lv_aload_n hx hb dX12_act_0 rfl (lv_at hl 0 rfl) ?_
  refine lv_iconst hx hb dX12_act_1 ki_0 ?_
  refine m_put S hK fk_X12_128 tyX12_ok nmX12 rfl pf_X12_0 (pv_10_0 G) hW hS (ci_10 (Nat.le_of_ble_eq_true rfl)) rfl rfl dX12_act_2 (fun Mm2 eMm2 H locs hW hS => ?_)
  replace h := h Mm2 eMm2
  refine lv_iload_n hx hb dX12_act_5 rfl (lv_at hl 1 rfl) ?_
  refine lv_iconst hx hb dX12_act_6 ki_0 ?_
  refine lv_bipush hx hb dX12_act_7 kb_7 ?_
  refine m_ci0 (m_rS S hKX hW (m_szH hbs hS) (c_X12_in l ) h lk_X12_131 rfl hl.1 rfl ⟨Nat.le_of_ble_eq_true rfl, Nat.le_of_ble_eq_true rfl⟩ (Nat.le_of_ble_eq_true rfl) ⟨Nat.le_of_ble_eq_true rfl, Nat.le_of_ble_eq_true rfl⟩ dX12_act_9) hS rfl rfl (fun rr9 Mm9 H locs h hW hS => ?_)
  refine lv_if_eq (tgt := 40) hx hb dX12_act_12 (by decide) (fun c12 => ?_) (fun c12 => ?_)
  · replace h := h.1 c12
    refine lv_iconst hx hb dX12_act_40 ki_m1 ?_
    exact m_iret S hret hlocks hKX hW hbs hS rfl h dX12_act_41
  · replace h := h.2 c12
    refine lv_iload_n hx hb dX12_act_15 rfl (lv_at hl 2 rfl) ?_
    refine lv_iconst hx hb dX12_act_16 ki_m1 ?_
    refine lv_iconst hx hb dX12_act_17 ki_3 ?_
    refine m_ci0 (m_rS S hKX hW (m_szH hbs hS) (c_X12_in l ) h lk_X12_131 rfl hl.1 rfl ⟨Nat.le_of_ble_eq_true rfl, Nat.le_of_ble_eq_true rfl⟩ (Nat.le_of_ble_eq_true rfl) ⟨Nat.le_of_ble_eq_true rfl, Nat.le_of_ble_eq_true rfl⟩ dX12_act_18) hS rfl rfl (fun rr18 Mm18 H locs h hW hS => ?_)
    refine lv_if_eq (tgt := 40) hx hb dX12_act_21 (by decide) (fun c21 => ?_) (fun c21 => ?_)
    · replace h := h.1 c21
      refine lv_iconst hx hb dX12_act_40 ki_m1 ?_
      exact m_iret S hret hlocks hKX hW hbs hS rfl h dX12_act_41
    · replace h := h.2 c21
      refine lv_iload_n hx hb dX12_act_24 rfl (lv_at hl 3 rfl) ?_
      refine lv_aload_n hx hb dX12_act_25 rfl (lv_at hl 0 rfl) ?_
      refine m_getr S hK fk_X12_7 (gr_10_1 G 0) hW (ci_10 (Nat.le_of_ble_eq_true rfl)) dX12_act_26 ?_
      refine lv_iconst hx hb dX12_act_29 ki_3 ?_
      refine m_aldk S hK (ar_44 G) hW (ci_44 (Nat.le_of_ble_eq_true rfl)) kn_3 (Nat.le_of_ble_eq_true rfl) dX12_act_30 ?_
      refine lv_sipush hx hb dX12_act_31 ks_400 ?_
      refine m_ci0 (m_rS S hKX hW (m_szH hbs hS) (c_X12_in l ) h lk_X12_131 rfl hl.1 rfl ⟨Nat.le_of_ble_eq_true rfl, Nat.le_of_ble_eq_true rfl⟩ (Nat.le_of_ble_eq_true rfl) ⟨Nat.le_of_ble_eq_true rfl, Nat.le_of_ble_eq_true rfl⟩ dX12_act_34) hS rfl rfl (fun rr34 Mm34 H locs h hW hS => ?_)
      refine lv_if_ne (tgt := 42) hx hb dX12_act_37 (by decide) (fun c37 => ?_) (fun c37 => ?_)
      · replace h := h.1 c37
        refine lv_aload_n hx hb dX12_act_42 rfl (lv_at hl 0 rfl) ?_
        refine m_getr S hK fk_X12_7 (gr_10_1 G 0) hW (ci_10 (Nat.le_of_ble_eq_true rfl)) dX12_act_43 ?_
        refine lv_iconst hx hb dX12_act_46 ki_2 ?_
        refine m_aldk S hK (ar_44 G) hW (ci_44 (Nat.le_of_ble_eq_true rfl)) kn_2 (Nat.le_of_ble_eq_true rfl) dX12_act_47 ?_
        refine lv_bipush hx hb dX12_act_48 kb_16 ?_
        refine lv_icmp_ne (tgt := 56) hx hb dX12_act_50 (by decide) (fun c50 => ?_) (fun c50 => ?_)
        · replace h := h.1 c50
          refine lv_aload_n hx hb dX12_act_56 rfl (lv_at hl 0 rfl) ?_
          refine lv_iload_n hx hb dX12_act_57 rfl (lv_at hl 1 rfl) ?_
          refine lv_iconst hx hb dX12_act_58 ki_0 ?_
          refine m_ci0 (m_rV S hKX hW (m_szH hbs hS) (c_X12_lacks l ) h lk_X12_245 (m_recv hK hW (ci_10 (Nat.le_of_ble_eq_true rfl)) (rc_10 G) rfl) rfl hl.1 rfl ⟨Nat.le_of_ble_eq_true rfl, Nat.le_of_ble_eq_true rfl⟩ (Nat.le_of_ble_eq_true rfl) ⟨Nat.le_of_ble_eq_true rfl, Nat.le_of_ble_eq_true rfl⟩ dX12_act_59) hS rfl rfl (fun rr59 Mm59 H locs h hW hS => ?_)
          refine lv_istore (lv' := [(4, .int rr59), (0, .ref (ad G 10 0)), (1, .int x1), (2, .int x2), (3, .int x3)]) hx hb dX12_act_62 hl (by decide) rfl (fun ls hl => ?_)
          refine lv_iload hx hb dX12_act_64 (lv_at hl 0 rfl) ?_
          refine lv_if_ge (tgt := 72) hx hb dX12_act_66 (by decide) (fun c66 => ?_) (fun c66 => ?_)
          · replace h := h.1 c66
            refine lv_aload_n hx hb dX12_act_72 rfl (lv_at hl 1 rfl) ?_
            refine lv_iload_n hx hb dX12_act_73 rfl (lv_at hl 2 rfl) ?_
            refine m_ci0 (m_rV S hKX hW (m_szH hbs hS) (c_X12_faultOf l ) h lk_X12_248 (m_recv hK hW (ci_10 (Nat.le_of_ble_eq_true rfl)) (rc_10 G) rfl) rfl hl.1 rfl ⟨Nat.le_of_ble_eq_true rfl, Nat.le_of_ble_eq_true rfl⟩ (Nat.le_of_ble_eq_true rfl) ⟨Nat.le_of_ble_eq_true rfl, Nat.le_of_ble_eq_true rfl⟩ dX12_act_74) hS rfl rfl (fun rr74 Mm74 H locs h hW hS => ?_)
            refine lv_istore (lv' := [(5, .int rr74), (4, .int rr59), (0, .ref (ad G 10 0)), (1, .int x1), (2, .int x2), (3, .int x3)]) hx hb dX12_act_77 hl (by decide) rfl (fun ls hl => ?_)
            refine lv_iload hx hb dX12_act_79 (lv_at hl 0 rfl) ?_
            refine lv_if_lt (tgt := 90) hx hb dX12_act_81 (by decide) (fun c81 => ?_) (fun c81 => ?_)
            · replace h := h.1 c81
              refine lv_aload_n hx hb dX12_act_90 rfl (lv_at hl 2 rfl) ?_
              refine m_getr S hK fk_X12_7 (gr_10_1 G 0) hW (ci_10 (Nat.le_of_ble_eq_true rfl)) dX12_act_91 ?_
              refine lv_iconst hx hb dX12_act_94 ki_2 ?_
              refine m_aldk S hK (ar_44 G) hW (ci_44 (Nat.le_of_ble_eq_true rfl)) kn_2 (Nat.le_of_ble_eq_true rfl) dX12_act_95 ?_
              refine lv_topi (fun x6_96 ex6_96 => ?_)
              replace h := h x6_96 ex6_96
              refine lv_istore (lv' := [(6, .int x6_96), (5, .int rr74), (4, .int rr59), (0, .ref (ad G 10 0)), (1, .int x1), (2, .int x2), (3, .int x3)]) hx hb dX12_act_96 hl (by decide) rfl (fun ls hl => ?_)
              refine lv_iconst hx hb dX12_act_98 ki_0 ?_
              refine lv_istore (lv' := [(7, .int (0 : Int32)), (6, .int x6_96), (5, .int rr74), (4, .int rr59), (0, .ref (ad G 10 0)), (1, .int x1), (2, .int x2), (3, .int x3)]) hx hb dX12_act_99 hl (by decide) rfl (fun ls hl => ?_)
              obtain ⟨n101, h⟩ := h
              exact w101 _ n101 _ h H locs ls hW hS (lv_sub hl [4, 5, 6, 7, 1, 0] rfl)
            · replace h := h.2 c81
              refine lv_bipush hx hb dX12_act_84 kb_m100 ?_
              refine lv_iload hx hb dX12_act_86 (lv_at hl 0 rfl) ?_
              refine lv_isub hx hb dX12_act_88 ?_
              exact m_iret S hret hlocks hKX hW hbs hS rfl h dX12_act_89
          · replace h := h.2 c66
            refine lv_iload hx hb dX12_act_69 (lv_at hl 0 rfl) ?_
            exact m_iret S hret hlocks hKX hW hbs hS rfl h dX12_act_71
        · replace h := h.2 c50
          refine lv_bipush hx hb dX12_act_53 kb_m2 ?_
          exact m_iret S hret hlocks hKX hW hbs hS rfl h dX12_act_55
      · replace h := h.2 c37
        refine lv_iconst hx hb dX12_act_40 ki_m1 ?_
        exact m_iret S hret hlocks hKX hW hbs hS rfl h dX12_act_41
abbrev rm_X12_strike : Room := { frames := 1, cells := 0, slots := 0, locals := 22 }
set_option maxHeartbeats 4000000 in
set_option maxRecDepth 100000 in
theorem c_X12_strike (l : Launch) {G : Gn} {M : Mem} {x1 : Int32} {x2 : Int32} {P : Int32 → Mem → Prop} : MQi l yX12_strike cX12_strike 3 (some .int) rm_X12_strike [.ref (ad G 10 0), .int x1, .int x2] G M (s_X12_strike M x1 x2 P) P := by
  refine m_enter (by decide +kernel) (Nat.le_of_ble_eq_true rfl) ?_
  intro p e s m below meth c ls H locs S hret hlocks hname hKX hbs hW hS hl h
  obtain ⟨AV, hAV⟩ : ∃ z : Array Value, z = ([.ref (ad G 10 0), .int x1, .int x2] : List Value).toArray := ⟨_, rfl⟩
  rw [← hAV] at S ⊢
  replace S : CallFix p m c cX12_strike 3 s AV lw_G "MilkDeskModel" := S
  have hK := hKX.1
  have hx := S.1
  have hb := S.2.1
  have hml := S.2.2.1
  have hown := S.2.2.2.1
  have hts := S.2.2.2.2
  replace hl : lv_has ls 3 [(0, .ref (ad G 10 0)), (1, .int x1), (2, .int x2)] := hl
  unfold s_X12_strike at h
  refine lv_aload_n hx hb dX12_strike_0 rfl (lv_at hl 0 rfl) ?_
  refine lv_iconst hx hb dX12_strike_1 ki_0 ?_
  refine m_put S hK fk_X12_128 tyX12_ok nmX12 rfl pf_X12_0 (pv_10_0 G) hW hS (ci_10 (Nat.le_of_ble_eq_true rfl)) rfl rfl dX12_strike_2 (fun Mm2 eMm2 H locs hW hS => ?_)
  replace h := h Mm2 eMm2
  refine lv_iload_n hx hb dX12_strike_5 rfl (lv_at hl 1 rfl) ?_
  refine lv_iconst hx hb dX12_strike_6 ki_0 ?_
  refine lv_aload_n hx hb dX12_strike_7 rfl (lv_at hl 0 rfl) ?_
  refine m_getr S hK fk_X12_7 (gr_10_1 G 0) hW (ci_10 (Nat.le_of_ble_eq_true rfl)) dX12_strike_8 ?_
  refine lv_iconst hx hb dX12_strike_11 ki_2 ?_
  refine m_aldk S hK (ar_44 G) hW (ci_44 (Nat.le_of_ble_eq_true rfl)) kn_2 (Nat.le_of_ble_eq_true rfl) dX12_strike_12 ?_
  refine lv_iconst hx hb dX12_strike_13 ki_1 ?_
  refine lv_isub hx hb dX12_strike_14 ?_
  refine m_ci0 (m_rS S hKX hW (m_szH hbs hS) (c_X12_in l ) h lk_X12_131 rfl hl.1 rfl ⟨Nat.le_of_ble_eq_true rfl, Nat.le_of_ble_eq_true rfl⟩ (Nat.le_of_ble_eq_true rfl) ⟨Nat.le_of_ble_eq_true rfl, Nat.le_of_ble_eq_true rfl⟩ dX12_strike_15) hS rfl rfl (fun rr15 Mm15 H locs h hW hS => ?_)
  refine lv_if_eq (tgt := 37) hx hb dX12_strike_18 (by decide) (fun c18 => ?_) (fun c18 => ?_)
  · replace h := h.1 c18
    refine lv_iconst hx hb dX12_strike_37 ki_m1 ?_
    exact m_iret S hret hlocks hKX hW hbs hS rfl h dX12_strike_38
  · replace h := h.2 c18
    refine lv_iload_n hx hb dX12_strike_21 rfl (lv_at hl 2 rfl) ?_
    refine lv_aload_n hx hb dX12_strike_22 rfl (lv_at hl 0 rfl) ?_
    refine m_getr S hK fk_X12_7 (gr_10_1 G 0) hW (ci_10 (Nat.le_of_ble_eq_true rfl)) dX12_strike_23 ?_
    refine lv_iconst hx hb dX12_strike_26 ki_3 ?_
    refine m_aldk S hK (ar_44 G) hW (ci_44 (Nat.le_of_ble_eq_true rfl)) kn_3 (Nat.le_of_ble_eq_true rfl) dX12_strike_27 ?_
    refine lv_sipush hx hb dX12_strike_28 ks_400 ?_
    refine m_ci0 (m_rS S hKX hW (m_szH hbs hS) (c_X12_in l ) h lk_X12_131 rfl hl.1 rfl ⟨Nat.le_of_ble_eq_true rfl, Nat.le_of_ble_eq_true rfl⟩ (Nat.le_of_ble_eq_true rfl) ⟨Nat.le_of_ble_eq_true rfl, Nat.le_of_ble_eq_true rfl⟩ dX12_strike_31) hS rfl rfl (fun rr31 Mm31 H locs h hW hS => ?_)
    refine lv_if_ne (tgt := 39) hx hb dX12_strike_34 (by decide) (fun c34 => ?_) (fun c34 => ?_)
    · replace h := h.1 c34
      refine lv_aload_n hx hb dX12_strike_39 rfl (lv_at hl 0 rfl) ?_
      refine m_getr S hK fk_X12_7 (gr_10_1 G 0) hW (ci_10 (Nat.le_of_ble_eq_true rfl)) dX12_strike_40 ?_
      refine lv_sipush hx hb dX12_strike_43 ks_160 ?_
      refine lv_iload_n hx hb dX12_strike_46 rfl (lv_at hl 1 rfl) ?_
      refine lv_iadd hx hb dX12_strike_47 ?_
      obtain ⟨hb48, h⟩ := h
      refine m_ald S hK (ar_44 G) hW (ci_44 (Nat.le_of_ble_eq_true rfl)) hb48 dX12_strike_48 ?_
      refine lv_ldc hx hb hown (hts _ mw_1442) dX12_strike_49 ?_
      refine lv_icmp_ge (tgt := 57) hx hb dX12_strike_51 (by decide) (fun c51 => ?_) (fun c51 => ?_)
      · replace h := h.1 c51
        refine lv_aload_n hx hb dX12_strike_57 rfl (lv_at hl 0 rfl) ?_
        refine m_getr S hK fk_X12_7 (gr_10_1 G 0) hW (ci_10 (Nat.le_of_ble_eq_true rfl)) dX12_strike_58 ?_
        refine lv_sipush hx hb dX12_strike_61 ks_160 ?_
        refine lv_iload_n hx hb dX12_strike_64 rfl (lv_at hl 1 rfl) ?_
        refine lv_iadd hx hb dX12_strike_65 ?_
        refine lv_iload_n hx hb dX12_strike_66 rfl (lv_at hl 2 rfl) ?_
        obtain ⟨hb67, h⟩ := h
        refine m_ast S hK (ar_44 G) hW hS (ci_44 (Nat.le_of_ble_eq_true rfl)) hb67 dX12_strike_67 (fun Mm67 eMm67 H locs hW hS => ?_)
        replace h := h Mm67 eMm67
        refine lv_aload_n hx hb dX12_strike_68 rfl (lv_at hl 0 rfl) ?_
        refine lv_iconst hx hb dX12_strike_69 ki_m1 ?_
        refine m_put S hK fk_X12_84 tyX12_ok nmX12 rfl pf_X12_37 (pv_10_37 G) hW hS (ci_10 (Nat.le_of_ble_eq_true rfl)) rfl rfl dX12_strike_70 (fun Mm70 eMm70 H locs hW hS => ?_)
        replace h := h Mm70 eMm70
        refine lv_iconst hx hb dX12_strike_73 ki_1 ?_
        exact m_iret S hret hlocks hKX hW hbs hS rfl h dX12_strike_74
      · replace h := h.2 c51
        refine lv_bipush hx hb dX12_strike_54 kb_m3 ?_
        exact m_iret S hret hlocks hKX hW hbs hS rfl h dX12_strike_56
    · replace h := h.2 c34
      refine lv_iconst hx hb dX12_strike_37 ki_m1 ?_
      exact m_iret S hret hlocks hKX hW hbs hS rfl h dX12_strike_38
abbrev rm_X12_letterOf : Room := { frames := 0, cells := 0, slots := 0, locals := 0 }
set_option maxHeartbeats 4000000 in
set_option maxRecDepth 100000 in
theorem c_X12_letterOf (l : Launch) {G : Gn} {M : Mem} {x0 : Int32} {P : Int32 → Mem → Prop} : MQi l yX12_letterOf cX12_letterOf 1 (some .int) rm_X12_letterOf [.int x0] G M (s_X12_letterOf M x0 P) P := by
  refine m_enter (by decide +kernel) (Nat.le_of_ble_eq_true rfl) ?_
  intro p e s m below meth c ls H locs S hret hlocks hname hKX hbs hW hS hl h
  obtain ⟨AV, hAV⟩ : ∃ z : Array Value, z = ([.int x0] : List Value).toArray := ⟨_, rfl⟩
  rw [← hAV] at S ⊢
  replace S : CallFix p m c cX12_letterOf 1 s AV lw_G "MilkDeskModel" := S
  have hK := hKX.1
  have hx := S.1
  have hb := S.2.1
  have hml := S.2.2.1
  have hown := S.2.2.2.1
  have hts := S.2.2.2.2
  replace hl : lv_has ls 1 [(0, .int x0)] := hl
  unfold s_X12_letterOf at h
  refine lv_iload_n hx hb dX12_letterOf_0 rfl (lv_at hl 0 rfl) ?_
  refine lv_if_ne (tgt := 9) hx hb dX12_letterOf_1 (by decide) (fun c1 => ?_) (fun c1 => ?_)
  · replace h := h.1 c1
    refine lv_iload_n hx hb dX12_letterOf_9 rfl (lv_at hl 0 rfl) ?_
    refine lv_iconst hx hb dX12_letterOf_10 ki_1 ?_
    refine lv_icmp_ne (tgt := 19) hx hb dX12_letterOf_11 (by decide) (fun c11 => ?_) (fun c11 => ?_)
    · replace h := h.1 c11
      refine lv_bipush hx hb dX12_letterOf_19 kb_111 ?_
      exact m_iret S hret hlocks hKX hW hbs hS rfl h dX12_letterOf_21
    · replace h := h.2 c11
      refine lv_bipush hx hb dX12_letterOf_14 kb_114 ?_
      refine lv_goto (tgt := 21) hx hb dX12_letterOf_16 (by decide) ?_
      exact m_iret S hret hlocks hKX hW hbs hS rfl h dX12_letterOf_21
  · replace h := h.2 c1
    refine lv_bipush hx hb dX12_letterOf_4 kb_101 ?_
    refine lv_goto (tgt := 21) hx hb dX12_letterOf_6 (by decide) ?_
    exact m_iret S hret hlocks hKX hW hbs hS rfl h dX12_letterOf_21
abbrev rm_X12_isOf : Room := { frames := 1, cells := 0, slots := 0, locals := 20 }
set_option maxHeartbeats 4000000 in
set_option maxRecDepth 100000 in
theorem c_X12_isOf (l : Launch) {G : Gn} {M : Mem} {x1 : Int32} {x2 : Int32} {x3 : Int32} {x4 : Int32} {P : Int32 → Mem → Prop} : MQi l yX12_isOf cX12_isOf 5 (some .boolean) rm_X12_isOf [.ref (ad G 10 0), .int x1, .int x2, .int x3, .int x4] G M (s_X12_isOf M x1 x2 x3 x4 P) P := by
  refine m_enter (by decide +kernel) (Nat.le_of_ble_eq_true rfl) ?_
  intro p e s m below meth c ls H locs S hret hlocks hname hKX hbs hW hS hl h
  obtain ⟨AV, hAV⟩ : ∃ z : Array Value, z = ([.ref (ad G 10 0), .int x1, .int x2, .int x3, .int x4] : List Value).toArray := ⟨_, rfl⟩
  rw [← hAV] at S ⊢
  replace S : CallFix p m c cX12_isOf 5 s AV lw_G "MilkDeskModel" := S
  have hK := hKX.1
  have hx := S.1
  have hb := S.2.1
  have hml := S.2.2.1
  have hown := S.2.2.2.1
  have hts := S.2.2.2.2
  replace hl : lv_has ls 5 [(0, .ref (ad G 10 0)), (1, .int x1), (2, .int x2), (3, .int x3), (4, .int x4)] := hl
  have b36 : ∀ (M : Mem) (H : Heap) (locs : List Loc) (ls : Array Slot), WPm G M H → va_S (fun q => bs G ≤ q) s.heap H locs → lv_has ls 5 [(0, .ref (ad G 10 0)), (1, .int x1), (4, .int x4)] → s_X12_isOf_36 x1 x4 P M  → W p l e rm_X12_isOf s m AV below meth c H locs 0 0 (MQ below (va_Qi P (WS G) (fun q => bs G ≤ q)) AV s 0 0 (fun q => bs G ≤ q)) (F0 m 36 ls []) := by
    intro M H locs ls hW hS hl h
    unfold s_X12_isOf_36 at h
    refine lv_aload_n hx hb dX12_isOf_36 rfl (lv_at hl 0 rfl) ?_
    refine m_getr S hK fk_X12_58 (gr_10_18 G 0) hW (ci_10 (Nat.le_of_ble_eq_true rfl)) dX12_isOf_37 ?_
    refine lv_iload_n hx hb dX12_isOf_40 rfl (lv_at hl 1 rfl) ?_
    obtain ⟨hb41, h⟩ := h
    refine m_ald S hK (ar_60 G) hW (ci_60 (Nat.le_of_ble_eq_true rfl)) hb41 dX12_isOf_41 ?_
    refine lv_iload hx hb dX12_isOf_42 (lv_at hl 2 rfl) ?_
    refine lv_icmp_gt (tgt := 66) hx hb dX12_isOf_44 (by decide) (fun c44 => ?_) (fun c44 => ?_)
    · replace h := h.1 c44
      refine lv_iconst hx hb dX12_isOf_66 ki_0 ?_
      exact m_iret S hret hlocks hKX hW hbs hS rfl h dX12_isOf_67
    · replace h := h.2 c44
      refine lv_iload hx hb dX12_isOf_47 (lv_at hl 2 rfl) ?_
      refine lv_aload_n hx hb dX12_isOf_49 rfl (lv_at hl 0 rfl) ?_
      refine m_getr S hK fk_X12_7 (gr_10_1 G 0) hW (ci_10 (Nat.le_of_ble_eq_true rfl)) dX12_isOf_50 ?_
      refine lv_sipush hx hb dX12_isOf_53 ks_160 ?_
      refine lv_iload_n hx hb dX12_isOf_56 rfl (lv_at hl 1 rfl) ?_
      refine lv_iadd hx hb dX12_isOf_57 ?_
      obtain ⟨hb58, h⟩ := h
      refine m_ald S hK (ar_44 G) hW (ci_44 (Nat.le_of_ble_eq_true rfl)) hb58 dX12_isOf_58 ?_
      refine lv_icmp_ge (tgt := 66) hx hb dX12_isOf_59 (by decide) (fun c59 => ?_) (fun c59 => ?_)
      · replace h := h.1 c59
        refine lv_iconst hx hb dX12_isOf_66 ki_0 ?_
        exact m_iret S hret hlocks hKX hW hbs hS rfl h dX12_isOf_67
      · replace h := h.2 c59
        refine lv_iconst hx hb dX12_isOf_62 ki_1 ?_
        refine lv_goto (tgt := 67) hx hb dX12_isOf_63 (by decide) ?_
        exact m_iret S hret hlocks hKX hW hbs hS rfl h dX12_isOf_67
  unfold s_X12_isOf at h
  refine lv_aload_n hx hb dX12_isOf_0 rfl (lv_at hl 0 rfl) ?_
  refine m_getr S hK fk_X12_49 (gr_10_15 G 0) hW (ci_10 (Nat.le_of_ble_eq_true rfl)) dX12_isOf_1 ?_
  refine lv_bipush hx hb dX12_isOf_4 kb_80 ?_
  refine lv_iload_n hx hb dX12_isOf_6 rfl (lv_at hl 1 rfl) ?_
  refine lv_imul hx hb dX12_isOf_7 ?_
  obtain ⟨hb8, h⟩ := h
  refine m_ald S hK (ar_57 G) hW (ci_57 (Nat.le_of_ble_eq_true rfl)) hb8 dX12_isOf_8 ?_
  refine lv_iload_n hx hb dX12_isOf_9 rfl (lv_at hl 2 rfl) ?_
  refine m_ci0 (m_rS S hKX hW (m_szH hbs hS) (c_X12_letterOf l ) h lk_X12_256 rfl hl.1 rfl ⟨Nat.le_of_ble_eq_true rfl, Nat.le_of_ble_eq_true rfl⟩ (Nat.le_of_ble_eq_true rfl) ⟨Nat.le_of_ble_eq_true rfl, Nat.le_of_ble_eq_true rfl⟩ dX12_isOf_10) hS rfl rfl (fun rr10 Mm10 H locs h hW hS => ?_)
  refine lv_icmp_ne (tgt := 66) hx hb dX12_isOf_13 (by decide) (fun c13 => ?_) (fun c13 => ?_)
  · replace h := h.1 c13
    refine lv_iconst hx hb dX12_isOf_66 ki_0 ?_
    exact m_iret S hret hlocks hKX hW hbs hS rfl h dX12_isOf_67
  · replace h := h.2 c13
    refine lv_aload_n hx hb dX12_isOf_16 rfl (lv_at hl 0 rfl) ?_
    refine m_getr S hK fk_X12_55 (gr_10_17 G 0) hW (ci_10 (Nat.le_of_ble_eq_true rfl)) dX12_isOf_17 ?_
    refine lv_iload_n hx hb dX12_isOf_20 rfl (lv_at hl 1 rfl) ?_
    obtain ⟨hb21, h⟩ := h
    refine m_ald S hK (ar_59 G) hW (ci_59 (Nat.le_of_ble_eq_true rfl)) hb21 dX12_isOf_21 ?_
    refine lv_iconst hx hb dX12_isOf_22 ki_m1 ?_
    refine lv_icmp_eq (tgt := 36) hx hb dX12_isOf_23 (by decide) (fun c23 => ?_) (fun c23 => ?_)
    · replace h := h.1 c23
      exact b36 _ H locs ls hW hS (lv_sub hl [0, 1, 4] rfl) h
    · replace h := h.2 c23
      refine lv_aload_n hx hb dX12_isOf_26 rfl (lv_at hl 0 rfl) ?_
      refine m_getr S hK fk_X12_55 (gr_10_17 G 0) hW (ci_10 (Nat.le_of_ble_eq_true rfl)) dX12_isOf_27 ?_
      refine lv_iload_n hx hb dX12_isOf_30 rfl (lv_at hl 1 rfl) ?_
      obtain ⟨hb31, h⟩ := h
      refine m_ald S hK (ar_59 G) hW (ci_59 (Nat.le_of_ble_eq_true rfl)) hb31 dX12_isOf_31 ?_
      refine lv_iload_n hx hb dX12_isOf_32 rfl (lv_at hl 3 rfl) ?_
      refine lv_icmp_ne (tgt := 66) hx hb dX12_isOf_33 (by decide) (fun c33 => ?_) (fun c33 => ?_)
      · replace h := h.1 c33
        refine lv_iconst hx hb dX12_isOf_66 ki_0 ?_
        exact m_iret S hret hlocks hKX hW hbs hS rfl h dX12_isOf_67
      · replace h := h.2 c33
        exact b36 _ H locs ls hW hS (lv_sub hl [0, 1, 4] rfl) h
abbrev rm_X12_couldBe : Room := { frames := 2, cells := 0, slots := 0, locals := 44 }
set_option maxHeartbeats 4000000 in
set_option maxRecDepth 100000 in
theorem c_X12_couldBe (l : Launch) {G : Gn} {M : Mem} {x1 : Int32} {x2 : Int32} {x3 : Int32} {x4 : Int32} {P : Int32 → Mem → Prop} : MQi l yX12_couldBe cX12_couldBe 5 (some .boolean) rm_X12_couldBe [.ref (ad G 10 0), .int x1, .int x2, .int x3, .int x4] G M (s_X12_couldBe M x1 x2 x3 x4 P) P := by
  refine m_enter (by decide +kernel) (Nat.le_of_ble_eq_true rfl) ?_
  intro p e s m below meth c ls H locs S hret hlocks hname hKX hbs hW hS hl h
  obtain ⟨AV, hAV⟩ : ∃ z : Array Value, z = ([.ref (ad G 10 0), .int x1, .int x2, .int x3, .int x4] : List Value).toArray := ⟨_, rfl⟩
  rw [← hAV] at S ⊢
  replace S : CallFix p m c cX12_couldBe 5 s AV lw_G "MilkDeskModel" := S
  have hK := hKX.1
  have hx := S.1
  have hb := S.2.1
  have hml := S.2.2.1
  have hown := S.2.2.2.1
  have hts := S.2.2.2.2
  replace hl : lv_has ls 5 [(0, .ref (ad G 10 0)), (1, .int x1), (2, .int x2), (3, .int x3), (4, .int x4)] := hl
  unfold s_X12_couldBe at h
  refine lv_aload_n hx hb dX12_couldBe_0 rfl (lv_at hl 0 rfl) ?_
  refine lv_iload_n hx hb dX12_couldBe_1 rfl (lv_at hl 1 rfl) ?_
  refine lv_iload_n hx hb dX12_couldBe_2 rfl (lv_at hl 2 rfl) ?_
  refine lv_aload_n hx hb dX12_couldBe_3 rfl (lv_at hl 0 rfl) ?_
  refine m_getr S hK fk_X12_19 (gr_10_5 G 0) hW (ci_10 (Nat.le_of_ble_eq_true rfl)) dX12_couldBe_4 ?_
  refine lv_iload_n hx hb dX12_couldBe_7 rfl (lv_at hl 3 rfl) ?_
  obtain ⟨hb8, h⟩ := h
  refine m_ald S hK (ar_47 G) hW (ci_47 (Nat.le_of_ble_eq_true rfl)) hb8 dX12_couldBe_8 ?_
  refine lv_iload hx hb dX12_couldBe_9 (lv_at hl 4 rfl) ?_
  refine m_ci0 (m_rV S hKX hW (m_szH hbs hS) (c_X12_isOf l ) h lk_X12_252 (m_recv hK hW (ci_10 (Nat.le_of_ble_eq_true rfl)) (rc_10 G) rfl) rfl hl.1 rfl ⟨Nat.le_of_ble_eq_true rfl, Nat.le_of_ble_eq_true rfl⟩ (Nat.le_of_ble_eq_true rfl) ⟨Nat.le_of_ble_eq_true rfl, Nat.le_of_ble_eq_true rfl⟩ dX12_couldBe_11) hS rfl rfl (fun rr11 Mm11 H locs h hW hS => ?_)
  obtain ⟨hn14, h⟩ := h
  exact m_iret S hret hlocks hKX hW hbs hS (isB_n hn14) h dX12_couldBe_14
abbrev rm_X12_forceOf : Room := { frames := 2, cells := 0, slots := 0, locals := 44 }
set_option maxHeartbeats 4000000 in
set_option maxRecDepth 100000 in
theorem c_X12_forceOf (l : Launch) {G : Gn} {M : Mem} {x1 : Int32} {x2 : Int32} {x3 : Int32} {P : Int32 → Mem → Prop} : MQi l yX12_forceOf cX12_forceOf 7 (some .int) rm_X12_forceOf [.ref (ad G 10 0), .int x1, .int x2, .int x3] G M (s_X12_forceOf M x1 x2 x3 P) P := by
  refine m_enter (by decide +kernel) (Nat.le_of_ble_eq_true rfl) ?_
  intro p e s m below meth c ls H locs S hret hlocks hname hKX hbs hW hS hl h
  obtain ⟨AV, hAV⟩ : ∃ z : Array Value, z = ([.ref (ad G 10 0), .int x1, .int x2, .int x3] : List Value).toArray := ⟨_, rfl⟩
  rw [← hAV] at S ⊢
  replace S : CallFix p m c cX12_forceOf 7 s AV lw_G "MilkDeskModel" := S
  have hK := hKX.1
  have hx := S.1
  have hb := S.2.1
  have hml := S.2.2.1
  have hown := S.2.2.2.1
  have hts := S.2.2.2.2
  replace hl : lv_has ls 7 [(0, .ref (ad G 10 0)), (1, .int x1), (2, .int x2), (3, .int x3)] := hl
  have b106 : ∀ (M : Mem) (H : Heap) (locs : List Loc) (ls : Array Slot), WPm G M H → va_S (fun q => bs G ≤ q) s.heap H locs → lv_has ls 7 [(0, .ref (ad G 10 0)), (1, .int x1), (2, .int x2), (3, .int x3)] → s_X12_forceOf_106 x1 x2 x3 P M  → W p l e rm_X12_forceOf s m AV below meth c H locs 0 0 (MQ below (va_Qi P (WS G) (fun q => bs G ≤ q)) AV s 0 0 (fun q => bs G ≤ q)) (F0 m 106 ls []) := by
    intro M H locs ls hW hS hl h
    unfold s_X12_forceOf_106 at h
    refine lv_aload_n hx hb dX12_forceOf_106 rfl (lv_at hl 0 rfl) ?_
    refine lv_iload_n hx hb dX12_forceOf_107 rfl (lv_at hl 3 rfl) ?_
    refine m_put S hK fk_X12_84 tyX12_ok nmX12 rfl pf_X12_37 (pv_10_37 G) hW hS (ci_10 (Nat.le_of_ble_eq_true rfl)) rfl rfl dX12_forceOf_108 (fun Mm108 eMm108 H locs hW hS => ?_)
    replace h := h Mm108 eMm108
    refine lv_aload_n hx hb dX12_forceOf_111 rfl (lv_at hl 0 rfl) ?_
    refine m_getr S hK fk_X12_81 (gr_10_36 G 0) hW (ci_10 (Nat.le_of_ble_eq_true rfl)) dX12_forceOf_112 ?_
    refine lv_iconst hx hb dX12_forceOf_115 ki_4 ?_
    refine lv_iload_n hx hb dX12_forceOf_116 rfl (lv_at hl 1 rfl) ?_
    refine lv_imul hx hb dX12_forceOf_117 ?_
    refine lv_aload_n hx hb dX12_forceOf_118 rfl (lv_at hl 0 rfl) ?_
    refine m_getr S hK fk_X12_19 (gr_10_5 G 0) hW (ci_10 (Nat.le_of_ble_eq_true rfl)) dX12_forceOf_119 ?_
    refine lv_iload_n hx hb dX12_forceOf_122 rfl (lv_at hl 2 rfl) ?_
    obtain ⟨hb123, h⟩ := h
    refine m_ald S hK (ar_47 G) hW (ci_47 (Nat.le_of_ble_eq_true rfl)) hb123 dX12_forceOf_123 ?_
    refine lv_iadd hx hb dX12_forceOf_124 ?_
    obtain ⟨hb125, h⟩ := h
    refine m_ald S hK (ar_66 G) hW (ci_66 (Nat.le_of_ble_eq_true rfl)) hb125 dX12_forceOf_125 ?_
    exact m_iret S hret hlocks hKX hW hbs hS rfl h dX12_forceOf_126
  have w3 : ∀ (n : Nat) (a : Mem × Int32), Lz (fun (K3 : Mem × Int32 → Prop) (a : Mem × Int32) => s_X12_forceOf_3 x1 x2 x3 P K3 a.1 a.2) n a → ∀ (H : Heap) (locs : List Loc) (ls : Array Slot), WPm G a.1 H → va_S (fun q => bs G ≤ q) s.heap H locs → lv_has ls 7 [(0, .ref (ad G 10 0)), (1, .int x1), (2, .int x2), (3, .int x3), (4, .int a.2)] → W p l e rm_X12_forceOf s m AV below meth c H locs 0 0 (MQ below (va_Qi P (WS G) (fun q => bs G ≤ q)) AV s 0 0 (fun q => bs G ≤ q)) (F0 m 3 ls []) := by
    refine Lz_walk ?_
    rintro K3 kk3 ⟨M, x4⟩ h H locs ls hW hS hl
    replace h : s_X12_forceOf_3 x1 x2 x3 P K3 M x4 := h
    replace hW : WPm G M H := hW
    replace hl : lv_has ls 7 [(0, .ref (ad G 10 0)), (1, .int x1), (2, .int x2), (3, .int x3), (4, .int x4)] := hl
    have w25 : ∀ (x4 : Int32), ∀ (n : Nat) (a : Mem × Int32 × Int32), Lz (fun (K25 : Mem × Int32 × Int32 → Prop) (a : Mem × Int32 × Int32) => s_X12_forceOf_25 x1 x2 x3 x4 P K3 K25 a.1 a.2.1 a.2.2) n a → ∀ (H : Heap) (locs : List Loc) (ls : Array Slot), WPm G a.1 H → va_S (fun q => bs G ≤ q) s.heap H locs → lv_has ls 7 [(0, .ref (ad G 10 0)), (1, .int x1), (2, .int x2), (3, .int x3), (4, .int x4), (5, .int a.2.1), (6, .int a.2.2)] → W p l e rm_X12_forceOf s m AV below meth c H locs 0 0 (MQ below (va_Qi P (WS G) (fun q => bs G ≤ q)) AV s 0 0 (fun q => bs G ≤ q)) (F0 m 25 ls []) := by
      intro x4
      refine Lz_walk ?_
      rintro K25 kk25 ⟨M, x5, x6⟩ h H locs ls hW hS hl
      replace h : s_X12_forceOf_25 x1 x2 x3 x4 P K3 K25 M x5 x6 := h
      replace hW : WPm G M H := hW
      replace hl : lv_has ls 7 [(0, .ref (ad G 10 0)), (1, .int x1), (2, .int x2), (3, .int x3), (4, .int x4), (5, .int x5), (6, .int x6)] := hl
      have b83 : ∀ (M : Mem) (x6 : Int32) (y0 : Int32) (H : Heap) (locs : List Loc) (ls : Array Slot), WPm G M H → va_S (fun q => bs G ≤ q) s.heap H locs → lv_has ls 7 [(0, .ref (ad G 10 0)), (1, .int x1), (2, .int x2), (3, .int x3), (4, .int x4), (6, .int x6)] → s_X12_forceOf_83 x1 x2 x3 x4 P K3 K25 M x6 y0 → W p l e rm_X12_forceOf s m AV below meth c H locs 0 0 (MQ below (va_Qi P (WS G) (fun q => bs G ≤ q)) AV s 0 0 (fun q => bs G ≤ q)) (F0 m 83 ls [.int y0]) := by
        intro M x6 y0 H locs ls hW hS hl h
        unfold s_X12_forceOf_83 at h
        refine lv_istore (lv' := [(5, .int y0), (0, .ref (ad G 10 0)), (1, .int x1), (2, .int x2), (3, .int x3), (4, .int x4), (6, .int x6)]) hx hb dX12_forceOf_83 hl (by decide) rfl (fun ls hl => ?_)
        obtain ⟨x6_85, ex6_85⟩ : ∃ z : Int32, z = x6 + (1 : Int32) := ⟨_, rfl⟩
        replace h := h x6_85 ex6_85
        refine lv_iinc (v := x6_85) (lv' := [(6, .int x6_85), (5, .int y0), (0, .ref (ad G 10 0)), (1, .int x1), (2, .int x2), (3, .int x3), (4, .int x4)]) hx hb dX12_forceOf_85 hl (k := 6) rfl (by rw [ex6_85, ki_1]) (by decide) rfl (fun ls hl => ?_)
        refine lv_goto (tgt := 25) hx hb dX12_forceOf_88 (by decide) ?_
        exact kk25 _ h H locs ls hW hS (lv_sub hl [2, 3, 4, 5, 6, 1, 0] rfl)
      unfold s_X12_forceOf_25 at h
      refine lv_iload hx hb dX12_forceOf_25 (lv_at hl 6 rfl) ?_
      refine lv_aload_n hx hb dX12_forceOf_27 rfl (lv_at hl 0 rfl) ?_
      refine m_getr S hK fk_X12_7 (gr_10_1 G 0) hW (ci_10 (Nat.le_of_ble_eq_true rfl)) dX12_forceOf_28 ?_
      refine lv_iconst hx hb dX12_forceOf_31 ki_2 ?_
      refine m_aldk S hK (ar_44 G) hW (ci_44 (Nat.le_of_ble_eq_true rfl)) kn_2 (Nat.le_of_ble_eq_true rfl) dX12_forceOf_32 ?_
      refine lv_icmp_ge (tgt := 91) hx hb dX12_forceOf_33 (by decide) (fun c33 => ?_) (fun c33 => ?_)
      · replace h := h.1 c33
        refine lv_aload_n hx hb dX12_forceOf_91 rfl (lv_at hl 0 rfl) ?_
        refine m_getr S hK fk_X12_81 (gr_10_36 G 0) hW (ci_10 (Nat.le_of_ble_eq_true rfl)) dX12_forceOf_92 ?_
        refine lv_iload hx hb dX12_forceOf_95 (lv_at hl 4 rfl) ?_
        refine lv_iload hx hb dX12_forceOf_97 (lv_at hl 5 rfl) ?_
        obtain ⟨hb99, h⟩ := h
        refine m_ast S hK (ar_66 G) hW hS (ci_66 (Nat.le_of_ble_eq_true rfl)) hb99 dX12_forceOf_99 (fun Mm99 eMm99 H locs hW hS => ?_)
        replace h := h Mm99 eMm99
        obtain ⟨x4_100, ex4_100⟩ : ∃ z : Int32, z = x4 + (1 : Int32) := ⟨_, rfl⟩
        replace h := h x4_100 ex4_100
        refine lv_iinc (v := x4_100) (lv' := [(4, .int x4_100), (0, .ref (ad G 10 0)), (1, .int x1), (2, .int x2), (3, .int x3), (5, .int x5), (6, .int x6)]) hx hb dX12_forceOf_100 hl (k := 4) rfl (by rw [ex4_100, ki_1]) (by decide) rfl (fun ls hl => ?_)
        refine lv_goto (tgt := 3) hx hb dX12_forceOf_103 (by decide) ?_
        exact kk3 _ h H locs ls hW hS (lv_sub hl [1, 2, 3, 4, 0] rfl)
      · replace h := h.2 c33
        refine lv_aload_n hx hb dX12_forceOf_36 rfl (lv_at hl 0 rfl) ?_
        refine lv_iload hx hb dX12_forceOf_37 (lv_at hl 6 rfl) ?_
        refine lv_iload hx hb dX12_forceOf_39 (lv_at hl 4 rfl) ?_
        refine lv_iconst hx hb dX12_forceOf_41 ki_4 ?_
        refine lv_idiv hx hb dX12_forceOf_42 nz_4 ?_
        refine lv_iload hx hb dX12_forceOf_43 (lv_at hl 4 rfl) ?_
        refine lv_iconst hx hb dX12_forceOf_45 ki_4 ?_
        refine lv_irem hx hb dX12_forceOf_46 nz_4 ?_
        refine lv_iload_n hx hb dX12_forceOf_47 rfl (lv_at hl 3 rfl) ?_
        refine m_ci0 (m_rV S hKX hW (m_szH hbs hS) (c_X12_isOf l ) h lk_X12_252 (m_recv hK hW (ci_10 (Nat.le_of_ble_eq_true rfl)) (rc_10 G) rfl) rfl hl.1 rfl ⟨Nat.le_of_ble_eq_true rfl, Nat.le_of_ble_eq_true rfl⟩ (Nat.le_of_ble_eq_true rfl) ⟨Nat.le_of_ble_eq_true rfl, Nat.le_of_ble_eq_true rfl⟩ dX12_forceOf_48) hS rfl rfl (fun rr48 Mm48 H locs h hW hS => ?_)
        refine lv_if_eq (tgt := 81) hx hb dX12_forceOf_51 (by decide) (fun c51 => ?_) (fun c51 => ?_)
        · replace h := h.1 c51
          refine lv_iload hx hb dX12_forceOf_81 (lv_at hl 5 rfl) ?_
          exact b83 _ _ _ H locs ls hW hS (lv_sub hl [0, 1, 2, 3, 4, 6] rfl) h
        · replace h := h.2 c51
          refine lv_iload hx hb dX12_forceOf_54 (lv_at hl 5 rfl) ?_
          refine lv_if_lt (tgt := 76) hx hb dX12_forceOf_56 (by decide) (fun c56 => ?_) (fun c56 => ?_)
          · replace h := h.1 c56
            refine lv_iload hx hb dX12_forceOf_76 (lv_at hl 6 rfl) ?_
            refine lv_goto (tgt := 83) hx hb dX12_forceOf_78 (by decide) ?_
            exact b83 _ _ _ H locs ls hW hS (lv_sub hl [0, 1, 2, 3, 4, 6] rfl) h
          · replace h := h.2 c56
            refine lv_aload_n hx hb dX12_forceOf_59 rfl (lv_at hl 0 rfl) ?_
            refine m_getr S hK fk_X12_58 (gr_10_18 G 0) hW (ci_10 (Nat.le_of_ble_eq_true rfl)) dX12_forceOf_60 ?_
            refine lv_iload hx hb dX12_forceOf_63 (lv_at hl 6 rfl) ?_
            obtain ⟨hb65, h⟩ := h
            refine m_ald S hK (ar_60 G) hW (ci_60 (Nat.le_of_ble_eq_true rfl)) hb65 dX12_forceOf_65 ?_
            refine lv_aload_n hx hb dX12_forceOf_66 rfl (lv_at hl 0 rfl) ?_
            refine m_getr S hK fk_X12_58 (gr_10_18 G 0) hW (ci_10 (Nat.le_of_ble_eq_true rfl)) dX12_forceOf_67 ?_
            refine lv_iload hx hb dX12_forceOf_70 (lv_at hl 5 rfl) ?_
            obtain ⟨hb72, h⟩ := h
            refine m_ald S hK (ar_60 G) hW (ci_60 (Nat.le_of_ble_eq_true rfl)) hb72 dX12_forceOf_72 ?_
            refine lv_icmp_lt (tgt := 81) hx hb dX12_forceOf_73 (by decide) (fun c73 => ?_) (fun c73 => ?_)
            · replace h := h.1 c73
              refine lv_iload hx hb dX12_forceOf_81 (lv_at hl 5 rfl) ?_
              exact b83 _ _ _ H locs ls hW hS (lv_sub hl [0, 1, 2, 3, 4, 6] rfl) h
            · replace h := h.2 c73
              refine lv_iload hx hb dX12_forceOf_76 (lv_at hl 6 rfl) ?_
              refine lv_goto (tgt := 83) hx hb dX12_forceOf_78 (by decide) ?_
              exact b83 _ _ _ H locs ls hW hS (lv_sub hl [0, 1, 2, 3, 4, 6] rfl) h
    unfold s_X12_forceOf_3 at h
    refine lv_iload hx hb dX12_forceOf_3 (lv_at hl 4 rfl) ?_
    refine lv_bipush hx hb dX12_forceOf_5 kb_12 ?_
    refine lv_icmp_ge (tgt := 106) hx hb dX12_forceOf_7 (by decide) (fun c7 => ?_) (fun c7 => ?_)
    · replace h := h.1 c7
      exact b106 _ H locs ls hW hS (lv_sub hl [0, 1, 2, 3] rfl) h
    · replace h := h.2 c7
      refine lv_aload_n hx hb dX12_forceOf_10 rfl (lv_at hl 0 rfl) ?_
      refine m_geti S hK fk_X12_84 (gi_10_37 G) hW (ci_10 (Nat.le_of_ble_eq_true rfl)) dX12_forceOf_11 ?_
      refine lv_iload_n hx hb dX12_forceOf_14 rfl (lv_at hl 3 rfl) ?_
      refine lv_icmp_eq (tgt := 106) hx hb dX12_forceOf_15 (by decide) (fun c15 => ?_) (fun c15 => ?_)
      · replace h := h.1 c15
        exact b106 _ H locs ls hW hS (lv_sub hl [0, 1, 2, 3] rfl) h
      · replace h := h.2 c15
        refine lv_bipush hx hb dX12_forceOf_18 kb_m4 ?_
        refine lv_istore (lv' := [(5, .int (-4 : Int32)), (0, .ref (ad G 10 0)), (1, .int x1), (2, .int x2), (3, .int x3), (4, .int x4)]) hx hb dX12_forceOf_20 hl (by decide) rfl (fun ls hl => ?_)
        refine lv_iconst hx hb dX12_forceOf_22 ki_0 ?_
        refine lv_istore (lv' := [(6, .int (0 : Int32)), (5, .int (-4 : Int32)), (0, .ref (ad G 10 0)), (1, .int x1), (2, .int x2), (3, .int x3), (4, .int x4)]) hx hb dX12_forceOf_23 hl (by decide) rfl (fun ls hl => ?_)
        obtain ⟨n25, h⟩ := h
        exact w25 _ n25 _ h H locs ls hW hS (lv_sub hl [2, 3, 4, 5, 6, 1, 0] rfl)
  unfold s_X12_forceOf at h
  refine lv_iconst hx hb dX12_forceOf_0 ki_0 ?_
  refine lv_istore (lv' := [(4, .int (0 : Int32)), (0, .ref (ad G 10 0)), (1, .int x1), (2, .int x2), (3, .int x3)]) hx hb dX12_forceOf_1 hl (by decide) rfl (fun ls hl => ?_)
  obtain ⟨n3, h⟩ := h
  exact w3 n3 _ h H locs ls hW hS (lv_sub hl [1, 2, 3, 4, 0] rfl)
abbrev rm_X12_force : Room := { frames := 3, cells := 0, slots := 0, locals := 70 }
set_option maxHeartbeats 4000000 in
set_option maxRecDepth 100000 in
theorem c_X12_force (l : Launch) {G : Gn} {M : Mem} {x1 : Int32} {x2 : Int32} {x3 : Int32} {P : Int32 → Mem → Prop} : MQi l yX12_force cX12_force 4 (some .int) rm_X12_force [.ref (ad G 10 0), .int x1, .int x2, .int x3] G M (s_X12_force M x1 x2 x3 P) P := by
  refine m_enter (by decide +kernel) (Nat.le_of_ble_eq_true rfl) ?_
  intro p e s m below meth c ls H locs S hret hlocks hname hKX hbs hW hS hl h
  obtain ⟨AV, hAV⟩ : ∃ z : Array Value, z = ([.ref (ad G 10 0), .int x1, .int x2, .int x3] : List Value).toArray := ⟨_, rfl⟩
  rw [← hAV] at S ⊢
  replace S : CallFix p m c cX12_force 4 s AV lw_G "MilkDeskModel" := S
  have hK := hKX.1
  have hx := S.1
  have hb := S.2.1
  have hml := S.2.2.1
  have hown := S.2.2.2.1
  have hts := S.2.2.2.2
  replace hl : lv_has ls 4 [(0, .ref (ad G 10 0)), (1, .int x1), (2, .int x2), (3, .int x3)] := hl
  unfold s_X12_force at h
  refine lv_aload_n hx hb dX12_force_0 rfl (lv_at hl 0 rfl) ?_
  refine lv_iconst hx hb dX12_force_1 ki_0 ?_
  refine m_put S hK fk_X12_128 tyX12_ok nmX12 rfl pf_X12_0 (pv_10_0 G) hW hS (ci_10 (Nat.le_of_ble_eq_true rfl)) rfl rfl dX12_force_2 (fun Mm2 eMm2 H locs hW hS => ?_)
  replace h := h Mm2 eMm2
  refine lv_iload_n hx hb dX12_force_5 rfl (lv_at hl 1 rfl) ?_
  refine lv_iconst hx hb dX12_force_6 ki_0 ?_
  refine lv_iconst hx hb dX12_force_7 ki_2 ?_
  refine m_ci0 (m_rS S hKX hW (m_szH hbs hS) (c_X12_in l ) h lk_X12_131 rfl hl.1 rfl ⟨Nat.le_of_ble_eq_true rfl, Nat.le_of_ble_eq_true rfl⟩ (Nat.le_of_ble_eq_true rfl) ⟨Nat.le_of_ble_eq_true rfl, Nat.le_of_ble_eq_true rfl⟩ dX12_force_8) hS rfl rfl (fun rr8 Mm8 H locs h hW hS => ?_)
  refine lv_if_eq (tgt := 39) hx hb dX12_force_11 (by decide) (fun c11 => ?_) (fun c11 => ?_)
  · replace h := h.1 c11
    refine lv_iconst hx hb dX12_force_39 ki_m1 ?_
    exact m_iret S hret hlocks hKX hW hbs hS rfl h dX12_force_40
  · replace h := h.2 c11
    refine lv_aload_n hx hb dX12_force_14 rfl (lv_at hl 0 rfl) ?_
    refine lv_iload_n hx hb dX12_force_15 rfl (lv_at hl 2 rfl) ?_
    refine m_ci0 (m_rV S hKX hW (m_szH hbs hS) (c_X12_isSchool l ) h lk_X12_139 (m_recv hK hW (ci_10 (Nat.le_of_ble_eq_true rfl)) (rc_10 G) rfl) rfl hl.1 rfl ⟨Nat.le_of_ble_eq_true rfl, Nat.le_of_ble_eq_true rfl⟩ (Nat.le_of_ble_eq_true rfl) ⟨Nat.le_of_ble_eq_true rfl, Nat.le_of_ble_eq_true rfl⟩ dX12_force_16) hS rfl rfl (fun rr16 Mm16 H locs h hW hS => ?_)
    refine lv_if_eq (tgt := 39) hx hb dX12_force_19 (by decide) (fun c19 => ?_) (fun c19 => ?_)
    · replace h := h.1 c19
      refine lv_iconst hx hb dX12_force_39 ki_m1 ?_
      exact m_iret S hret hlocks hKX hW hbs hS rfl h dX12_force_40
    · replace h := h.2 c19
      refine lv_iload_n hx hb dX12_force_22 rfl (lv_at hl 3 rfl) ?_
      refine m_ci0 (m_rS S hKX hW (m_szH hbs hS) (c_X12_isDay l ) h lk_X12_164 rfl hl.1 rfl ⟨Nat.le_of_ble_eq_true rfl, Nat.le_of_ble_eq_true rfl⟩ (Nat.le_of_ble_eq_true rfl) ⟨Nat.le_of_ble_eq_true rfl, Nat.le_of_ble_eq_true rfl⟩ dX12_force_23) hS rfl rfl (fun rr23 Mm23 H locs h hW hS => ?_)
      refine lv_if_eq (tgt := 39) hx hb dX12_force_26 (by decide) (fun c26 => ?_) (fun c26 => ?_)
      · replace h := h.1 c26
        refine lv_iconst hx hb dX12_force_39 ki_m1 ?_
        exact m_iret S hret hlocks hKX hW hbs hS rfl h dX12_force_40
      · replace h := h.2 c26
        refine lv_aload_n hx hb dX12_force_29 rfl (lv_at hl 0 rfl) ?_
        refine lv_iload_n hx hb dX12_force_30 rfl (lv_at hl 1 rfl) ?_
        refine lv_iload_n hx hb dX12_force_31 rfl (lv_at hl 2 rfl) ?_
        refine lv_iload_n hx hb dX12_force_32 rfl (lv_at hl 3 rfl) ?_
        refine m_ci0 (m_rV S hKX hW (m_szH hbs hS) (c_X12_forceOf l ) h lk_X12_259 (m_recv hK hW (ci_10 (Nat.le_of_ble_eq_true rfl)) (rc_10 G) rfl) rfl hl.1 rfl ⟨Nat.le_of_ble_eq_true rfl, Nat.le_of_ble_eq_true rfl⟩ (Nat.le_of_ble_eq_true rfl) ⟨Nat.le_of_ble_eq_true rfl, Nat.le_of_ble_eq_true rfl⟩ dX12_force_33) hS rfl rfl (fun rr33 Mm33 H locs h hW hS => ?_)
        refine lv_goto (tgt := 40) hx hb dX12_force_36 (by decide) ?_
        exact m_iret S hret hlocks hKX hW hbs hS rfl h dX12_force_40
abbrev rm_X12_doesHold : Room := { frames := 8, cells := 0, slots := 0, locals := 184 }
set_option maxHeartbeats 4000000 in
set_option maxRecDepth 100000 in
theorem c_X12_doesHold (l : Launch) {G : Gn} {M : Mem} {x1 : Int32} {x2 : Int32} {x3 : Int32} {x4 : Int32} {P : Int32 → Mem → Prop} : MQi l yX12_doesHold cX12_doesHold 5 (some .boolean) rm_X12_doesHold [.ref (ad G 10 0), .int x1, .int x2, .int x3, .int x4] G M (s_X12_doesHold M x1 x2 x3 x4 P) P := by
  refine m_enter (by decide +kernel) (Nat.le_of_ble_eq_true rfl) ?_
  intro p e s m below meth c ls H locs S hret hlocks hname hKX hbs hW hS hl h
  obtain ⟨AV, hAV⟩ : ∃ z : Array Value, z = ([.ref (ad G 10 0), .int x1, .int x2, .int x3, .int x4] : List Value).toArray := ⟨_, rfl⟩
  rw [← hAV] at S ⊢
  replace S : CallFix p m c cX12_doesHold 5 s AV lw_G "MilkDeskModel" := S
  have hK := hKX.1
  have hx := S.1
  have hb := S.2.1
  have hml := S.2.2.1
  have hown := S.2.2.2.1
  have hts := S.2.2.2.2
  replace hl : lv_has ls 5 [(0, .ref (ad G 10 0)), (1, .int x1), (2, .int x2), (3, .int x3), (4, .int x4)] := hl
  have b48 : ∀ (M : Mem) (y0 : Int32) (H : Heap) (locs : List Loc) (ls : Array Slot), WPm G M H → va_S (fun q => bs G ≤ q) s.heap H locs → lv_has ls 5 [(0, .ref (ad G 10 0)), (4, .int x4)] → s_X12_doesHold_48 x4 P M y0 → W p l e rm_X12_doesHold s m AV below meth c H locs 0 0 (MQ below (va_Qi P (WS G) (fun q => bs G ≤ q)) AV s 0 0 (fun q => bs G ≤ q)) (F0 m 48 ls [.int y0, .ref (ad G 10 0)]) := by
    intro M y0 H locs ls hW hS hl h
    unfold s_X12_doesHold_48 at h
    refine m_put S hK fk_X12_180 tyX12_ok nmX12 rfl pf_X12_30 (pv_10_30 G) hW hS (ci_10 (Nat.le_of_ble_eq_true rfl)) rfl rfl dX12_doesHold_48 (fun Mm48 eMm48 H locs hW hS => ?_)
    replace h := h Mm48 eMm48
    refine lv_aload_n hx hb dX12_doesHold_51 rfl (lv_at hl 0 rfl) ?_
    refine lv_iload hx hb dX12_doesHold_52 (lv_at hl 1 rfl) ?_
    refine m_put S hK fk_X12_186 tyX12_ok nmX12 rfl pf_X12_31 (pv_10_31 G) hW hS (ci_10 (Nat.le_of_ble_eq_true rfl)) rfl rfl dX12_doesHold_54 (fun Mm54 eMm54 H locs hW hS => ?_)
    replace h := h Mm54 eMm54
    refine lv_aload_n hx hb dX12_doesHold_57 rfl (lv_at hl 0 rfl) ?_
    refine m_ci0 (m_rV S hKX hW (m_szH hbs hS) (c_X12_readAct l ) h lk_X12_242 (m_recv hK hW (ci_10 (Nat.le_of_ble_eq_true rfl)) (rc_10 G) rfl) rfl hl.1 rfl ⟨Nat.le_of_ble_eq_true rfl, Nat.le_of_ble_eq_true rfl⟩ (Nat.le_of_ble_eq_true rfl) ⟨Nat.le_of_ble_eq_true rfl, Nat.le_of_ble_eq_true rfl⟩ dX12_doesHold_58) hS rfl rfl (fun rr58 Mm58 H locs h hW hS => ?_)
    obtain ⟨hn61, h⟩ := h
    exact m_iret S hret hlocks hKX hW hbs hS (isB_n hn61) h dX12_doesHold_61
  unfold s_X12_doesHold at h
  refine lv_aload_n hx hb dX12_doesHold_0 rfl (lv_at hl 0 rfl) ?_
  refine lv_iconst hx hb dX12_doesHold_1 ki_0 ?_
  refine m_put S hK fk_X12_173 tyX12_ok nmX12 rfl pf_X12_23 (pv_10_23 G) hW hS (ci_10 (Nat.le_of_ble_eq_true rfl)) (isB_n isB_0) (isB_f isB_0) dX12_doesHold_2 (fun Mm2 eMm2 H locs hW hS => ?_)
  replace h := h Mm2 eMm2
  refine lv_aload_n hx hb dX12_doesHold_5 rfl (lv_at hl 0 rfl) ?_
  refine lv_bipush hx hb dX12_doesHold_6 kb_80 ?_
  refine lv_iload_n hx hb dX12_doesHold_8 rfl (lv_at hl 1 rfl) ?_
  refine lv_imul hx hb dX12_doesHold_9 ?_
  refine m_put S hK fk_X12_177 tyX12_ok nmX12 rfl pf_X12_24 (pv_10_24 G) hW hS (ci_10 (Nat.le_of_ble_eq_true rfl)) rfl rfl dX12_doesHold_10 (fun Mm10 eMm10 H locs hW hS => ?_)
  replace h := h Mm10 eMm10
  refine lv_aload_n hx hb dX12_doesHold_13 rfl (lv_at hl 0 rfl) ?_
  refine lv_aload_n hx hb dX12_doesHold_14 rfl (lv_at hl 0 rfl) ?_
  refine m_getr S hK fk_X12_52 (gr_10_16 G 0) hW (ci_10 (Nat.le_of_ble_eq_true rfl)) dX12_doesHold_15 ?_
  refine lv_iload_n hx hb dX12_doesHold_18 rfl (lv_at hl 1 rfl) ?_
  obtain ⟨hb19, h⟩ := h
  refine m_ald S hK (ar_58 G) hW (ci_58 (Nat.le_of_ble_eq_true rfl)) hb19 dX12_doesHold_19 ?_
  refine m_put S hK fk_X12_170 tyX12_ok nmX12 rfl pf_X12_25 (pv_10_25 G) hW hS (ci_10 (Nat.le_of_ble_eq_true rfl)) rfl rfl dX12_doesHold_20 (fun Mm20 eMm20 H locs hW hS => ?_)
  replace h := h Mm20 eMm20
  refine lv_aload_n hx hb dX12_doesHold_23 rfl (lv_at hl 0 rfl) ?_
  refine lv_iload_n hx hb dX12_doesHold_24 rfl (lv_at hl 2 rfl) ?_
  refine m_put S hK fk_X12_183 tyX12_ok nmX12 rfl pf_X12_29 (pv_10_29 G) hW hS (ci_10 (Nat.le_of_ble_eq_true rfl)) rfl rfl dX12_doesHold_25 (fun Mm25 eMm25 H locs hW hS => ?_)
  replace h := h Mm25 eMm25
  refine lv_aload_n hx hb dX12_doesHold_28 rfl (lv_at hl 0 rfl) ?_
  refine lv_aload_n hx hb dX12_doesHold_29 rfl (lv_at hl 0 rfl) ?_
  refine m_getr S hK fk_X12_49 (gr_10_15 G 0) hW (ci_10 (Nat.le_of_ble_eq_true rfl)) dX12_doesHold_30 ?_
  refine lv_bipush hx hb dX12_doesHold_33 kb_80 ?_
  refine lv_iload_n hx hb dX12_doesHold_35 rfl (lv_at hl 1 rfl) ?_
  refine lv_imul hx hb dX12_doesHold_36 ?_
  obtain ⟨hb37, h⟩ := h
  refine m_ald S hK (ar_57 G) hW (ci_57 (Nat.le_of_ble_eq_true rfl)) hb37 dX12_doesHold_37 ?_
  refine lv_bipush hx hb dX12_doesHold_38 kb_101 ?_
  refine lv_icmp_ne (tgt := 47) hx hb dX12_doesHold_40 (by decide) (fun c40 => ?_) (fun c40 => ?_)
  · replace h := h.1 c40
    refine lv_iconst hx hb dX12_doesHold_47 ki_0 ?_
    exact b48 _ _ H locs ls hW hS (lv_sub hl [0, 4] rfl) h
  · replace h := h.2 c40
    refine lv_iload_n hx hb dX12_doesHold_43 rfl (lv_at hl 3 rfl) ?_
    refine lv_goto (tgt := 48) hx hb dX12_doesHold_44 (by decide) ?_
    exact b48 _ _ H locs ls hW hS (lv_sub hl [0, 4] rfl) h
abbrev rm_X12_holdsFor : Room := { frames := 9, cells := 0, slots := 0, locals := 208 }
set_option maxHeartbeats 4000000 in
set_option maxRecDepth 100000 in
theorem c_X12_holdsFor (l : Launch) {G : Gn} {M : Mem} {x1 : Int32} {x2 : Int32} {x3 : Int32} {x4 : Int32} {P : Int32 → Mem → Prop} : MQi l yX12_holdsFor cX12_holdsFor 6 (some .boolean) rm_X12_holdsFor [.ref (ad G 10 0), .int x1, .int x2, .int x3, .int x4] G M (s_X12_holdsFor M x1 x2 x3 x4 P) P := by
  refine m_enter (by decide +kernel) (Nat.le_of_ble_eq_true rfl) ?_
  intro p e s m below meth c ls H locs S hret hlocks hname hKX hbs hW hS hl h
  obtain ⟨AV, hAV⟩ : ∃ z : Array Value, z = ([.ref (ad G 10 0), .int x1, .int x2, .int x3, .int x4] : List Value).toArray := ⟨_, rfl⟩
  rw [← hAV] at S ⊢
  replace S : CallFix p m c cX12_holdsFor 6 s AV lw_G "MilkDeskModel" := S
  have hK := hKX.1
  have hx := S.1
  have hb := S.2.1
  have hml := S.2.2.1
  have hown := S.2.2.2.1
  have hts := S.2.2.2.2
  replace hl : lv_has ls 6 [(0, .ref (ad G 10 0)), (1, .int x1), (2, .int x2), (3, .int x3), (4, .int x4)] := hl
  unfold s_X12_holdsFor at h
  refine lv_aload_n hx hb dX12_holdsFor_0 rfl (lv_at hl 0 rfl) ?_
  refine lv_iload_n hx hb dX12_holdsFor_1 rfl (lv_at hl 1 rfl) ?_
  refine lv_iload_n hx hb dX12_holdsFor_2 rfl (lv_at hl 2 rfl) ?_
  refine lv_iload hx hb dX12_holdsFor_3 (lv_at hl 4 rfl) ?_
  refine m_ci0 (m_rV S hKX hW (m_szH hbs hS) (c_X12_forceOf l ) h lk_X12_259 (m_recv hK hW (ci_10 (Nat.le_of_ble_eq_true rfl)) (rc_10 G) rfl) rfl hl.1 rfl ⟨Nat.le_of_ble_eq_true rfl, Nat.le_of_ble_eq_true rfl⟩ (Nat.le_of_ble_eq_true rfl) ⟨Nat.le_of_ble_eq_true rfl, Nat.le_of_ble_eq_true rfl⟩ dX12_holdsFor_5) hS rfl rfl (fun rr5 Mm5 H locs h hW hS => ?_)
  refine lv_istore (lv' := [(5, .int rr5), (0, .ref (ad G 10 0)), (1, .int x1), (2, .int x2), (3, .int x3), (4, .int x4)]) hx hb dX12_holdsFor_8 hl (by decide) rfl (fun ls hl => ?_)
  refine lv_iload hx hb dX12_holdsFor_10 (lv_at hl 0 rfl) ?_
  refine lv_if_ge (tgt := 27) hx hb dX12_holdsFor_12 (by decide) (fun c12 => ?_) (fun c12 => ?_)
  · replace h := h.1 c12
    refine lv_aload_n hx hb dX12_holdsFor_27 rfl (lv_at hl 1 rfl) ?_
    refine lv_iload hx hb dX12_holdsFor_28 (lv_at hl 0 rfl) ?_
    refine lv_iload_n hx hb dX12_holdsFor_30 rfl (lv_at hl 3 rfl) ?_
    refine lv_iload_n hx hb dX12_holdsFor_31 rfl (lv_at hl 4 rfl) ?_
    refine lv_iload hx hb dX12_holdsFor_32 (lv_at hl 5 rfl) ?_
    refine m_ci0 (m_rV S hKX hW (m_szH hbs hS) (c_X12_doesHold l ) h lk_X12_263 (m_recv hK hW (ci_10 (Nat.le_of_ble_eq_true rfl)) (rc_10 G) rfl) rfl hl.1 rfl ⟨Nat.le_of_ble_eq_true rfl, Nat.le_of_ble_eq_true rfl⟩ (Nat.le_of_ble_eq_true rfl) ⟨Nat.le_of_ble_eq_true rfl, Nat.le_of_ble_eq_true rfl⟩ dX12_holdsFor_34) hS rfl rfl (fun rr34 Mm34 H locs h hW hS => ?_)
    obtain ⟨hn37, h⟩ := h
    exact m_iret S hret hlocks hKX hW hbs hS (isB_n hn37) h dX12_holdsFor_37
  · replace h := h.2 c12
    refine lv_iload_n hx hb dX12_holdsFor_15 rfl (lv_at hl 2 rfl) ?_
    refine lv_if_ne (tgt := 23) hx hb dX12_holdsFor_16 (by decide) (fun c16 => ?_) (fun c16 => ?_)
    · replace h := h.1 c16
      refine lv_iconst hx hb dX12_holdsFor_23 ki_0 ?_
      refine lv_goto (tgt := 37) hx hb dX12_holdsFor_24 (by decide) ?_
      exact m_iret S hret hlocks hKX hW hbs hS rfl h dX12_holdsFor_37
    · replace h := h.2 c16
      refine lv_iconst hx hb dX12_holdsFor_19 ki_1 ?_
      refine lv_goto (tgt := 37) hx hb dX12_holdsFor_20 (by decide) ?_
      exact m_iret S hret hlocks hKX hW hbs hS rfl h dX12_holdsFor_37
abbrev rm_X12_holds : Room := { frames := 10, cells := 0, slots := 0, locals := 233 }
set_option maxHeartbeats 4000000 in
set_option maxRecDepth 100000 in
theorem c_X12_holds (l : Launch) {G : Gn} {M : Mem} {x1 : Int32} {x2 : Int32} {x3 : Int32} {x4 : Int32} {P : Int32 → Mem → Prop} : MQi l yX12_holds cX12_holds 5 (some .int) rm_X12_holds [.ref (ad G 10 0), .int x1, .int x2, .int x3, .int x4] G M (s_X12_holds M x1 x2 x3 x4 P) P := by
  refine m_enter (by decide +kernel) (Nat.le_of_ble_eq_true rfl) ?_
  intro p e s m below meth c ls H locs S hret hlocks hname hKX hbs hW hS hl h
  obtain ⟨AV, hAV⟩ : ∃ z : Array Value, z = ([.ref (ad G 10 0), .int x1, .int x2, .int x3, .int x4] : List Value).toArray := ⟨_, rfl⟩
  rw [← hAV] at S ⊢
  replace S : CallFix p m c cX12_holds 5 s AV lw_G "MilkDeskModel" := S
  have hK := hKX.1
  have hx := S.1
  have hb := S.2.1
  have hml := S.2.2.1
  have hown := S.2.2.2.1
  have hts := S.2.2.2.2
  replace hl : lv_has ls 5 [(0, .ref (ad G 10 0)), (1, .int x1), (2, .int x2), (3, .int x3), (4, .int x4)] := hl
  unfold s_X12_holds at h
  refine lv_aload_n hx hb dX12_holds_0 rfl (lv_at hl 0 rfl) ?_
  refine lv_iconst hx hb dX12_holds_1 ki_0 ?_
  refine m_put S hK fk_X12_128 tyX12_ok nmX12 rfl pf_X12_0 (pv_10_0 G) hW hS (ci_10 (Nat.le_of_ble_eq_true rfl)) rfl rfl dX12_holds_2 (fun Mm2 eMm2 H locs hW hS => ?_)
  replace h := h Mm2 eMm2
  refine lv_iload_n hx hb dX12_holds_5 rfl (lv_at hl 1 rfl) ?_
  refine lv_iconst hx hb dX12_holds_6 ki_0 ?_
  refine lv_iconst hx hb dX12_holds_7 ki_2 ?_
  refine m_ci0 (m_rS S hKX hW (m_szH hbs hS) (c_X12_in l ) h lk_X12_131 rfl hl.1 rfl ⟨Nat.le_of_ble_eq_true rfl, Nat.le_of_ble_eq_true rfl⟩ (Nat.le_of_ble_eq_true rfl) ⟨Nat.le_of_ble_eq_true rfl, Nat.le_of_ble_eq_true rfl⟩ dX12_holds_8) hS rfl rfl (fun rr8 Mm8 H locs h hW hS => ?_)
  refine lv_if_eq (tgt := 37) hx hb dX12_holds_11 (by decide) (fun c11 => ?_) (fun c11 => ?_)
  · replace h := h.1 c11
    refine lv_iconst hx hb dX12_holds_37 ki_m1 ?_
    exact m_iret S hret hlocks hKX hW hbs hS rfl h dX12_holds_38
  · replace h := h.2 c11
    refine lv_aload_n hx hb dX12_holds_14 rfl (lv_at hl 0 rfl) ?_
    refine lv_iload_n hx hb dX12_holds_15 rfl (lv_at hl 2 rfl) ?_
    refine m_ci0 (m_rV S hKX hW (m_szH hbs hS) (c_X12_isSchool l ) h lk_X12_139 (m_recv hK hW (ci_10 (Nat.le_of_ble_eq_true rfl)) (rc_10 G) rfl) rfl hl.1 rfl ⟨Nat.le_of_ble_eq_true rfl, Nat.le_of_ble_eq_true rfl⟩ (Nat.le_of_ble_eq_true rfl) ⟨Nat.le_of_ble_eq_true rfl, Nat.le_of_ble_eq_true rfl⟩ dX12_holds_16) hS rfl rfl (fun rr16 Mm16 H locs h hW hS => ?_)
    refine lv_if_eq (tgt := 37) hx hb dX12_holds_19 (by decide) (fun c19 => ?_) (fun c19 => ?_)
    · replace h := h.1 c19
      refine lv_iconst hx hb dX12_holds_37 ki_m1 ?_
      exact m_iret S hret hlocks hKX hW hbs hS rfl h dX12_holds_38
    · replace h := h.2 c19
      refine lv_iload_n hx hb dX12_holds_22 rfl (lv_at hl 3 rfl) ?_
      refine m_ci0 (m_rS S hKX hW (m_szH hbs hS) (c_X12_isAge l ) h lk_X12_149 rfl hl.1 rfl ⟨Nat.le_of_ble_eq_true rfl, Nat.le_of_ble_eq_true rfl⟩ (Nat.le_of_ble_eq_true rfl) ⟨Nat.le_of_ble_eq_true rfl, Nat.le_of_ble_eq_true rfl⟩ dX12_holds_23) hS rfl rfl (fun rr23 Mm23 H locs h hW hS => ?_)
      refine lv_if_eq (tgt := 37) hx hb dX12_holds_26 (by decide) (fun c26 => ?_) (fun c26 => ?_)
      · replace h := h.1 c26
        refine lv_iconst hx hb dX12_holds_37 ki_m1 ?_
        exact m_iret S hret hlocks hKX hW hbs hS rfl h dX12_holds_38
      · replace h := h.2 c26
        refine lv_iload hx hb dX12_holds_29 (lv_at hl 4 rfl) ?_
        refine m_ci0 (m_rS S hKX hW (m_szH hbs hS) (c_X12_isDay l ) h lk_X12_164 rfl hl.1 rfl ⟨Nat.le_of_ble_eq_true rfl, Nat.le_of_ble_eq_true rfl⟩ (Nat.le_of_ble_eq_true rfl) ⟨Nat.le_of_ble_eq_true rfl, Nat.le_of_ble_eq_true rfl⟩ dX12_holds_31) hS rfl rfl (fun rr31 Mm31 H locs h hW hS => ?_)
        refine lv_if_ne (tgt := 39) hx hb dX12_holds_34 (by decide) (fun c34 => ?_) (fun c34 => ?_)
        · replace h := h.1 c34
          refine lv_aload_n hx hb dX12_holds_39 rfl (lv_at hl 0 rfl) ?_
          refine lv_iload_n hx hb dX12_holds_40 rfl (lv_at hl 1 rfl) ?_
          refine lv_iload_n hx hb dX12_holds_41 rfl (lv_at hl 2 rfl) ?_
          refine lv_iload_n hx hb dX12_holds_42 rfl (lv_at hl 3 rfl) ?_
          refine lv_iload hx hb dX12_holds_43 (lv_at hl 4 rfl) ?_
          refine m_ci0 (m_rV S hKX hW (m_szH hbs hS) (c_X12_holdsFor l ) h lk_X12_266 (m_recv hK hW (ci_10 (Nat.le_of_ble_eq_true rfl)) (rc_10 G) rfl) rfl hl.1 rfl ⟨Nat.le_of_ble_eq_true rfl, Nat.le_of_ble_eq_true rfl⟩ (Nat.le_of_ble_eq_true rfl) ⟨Nat.le_of_ble_eq_true rfl, Nat.le_of_ble_eq_true rfl⟩ dX12_holds_45) hS rfl rfl (fun rr45 Mm45 H locs h hW hS => ?_)
          refine lv_if_eq (tgt := 55) hx hb dX12_holds_48 (by decide) (fun c48 => ?_) (fun c48 => ?_)
          · replace h := h.1 c48
            refine lv_iconst hx hb dX12_holds_55 ki_0 ?_
            exact m_iret S hret hlocks hKX hW hbs hS rfl h dX12_holds_56
          · replace h := h.2 c48
            refine lv_iconst hx hb dX12_holds_51 ki_1 ?_
            refine lv_goto (tgt := 56) hx hb dX12_holds_52 (by decide) ?_
            exact m_iret S hret hlocks hKX hW hbs hS rfl h dX12_holds_56
        · replace h := h.2 c34
          refine lv_iconst hx hb dX12_holds_37 ki_m1 ?_
          exact m_iret S hret hlocks hKX hW hbs hS rfl h dX12_holds_38
abbrev rm_X12_quarrel : Room := { frames := 9, cells := 0, slots := 0, locals := 208 }
set_option maxHeartbeats 4000000 in
set_option maxRecDepth 100000 in
theorem c_X12_quarrel (l : Launch) {G : Gn} {M : Mem} {x1 : Int32} {x2 : Int32} {x3 : Int32} {x4 : Int32} {P : Int32 → Mem → Prop} : MQi l yX12_quarrel cX12_quarrel 9 (some .int) rm_X12_quarrel [.ref (ad G 10 0), .int x1, .int x2, .int x3, .int x4] G M (s_X12_quarrel M x1 x2 x3 x4 P) P := by
  refine m_enter (by decide +kernel) (Nat.le_of_ble_eq_true rfl) ?_
  intro p e s m below meth c ls H locs S hret hlocks hname hKX hbs hW hS hl h
  obtain ⟨AV, hAV⟩ : ∃ z : Array Value, z = ([.ref (ad G 10 0), .int x1, .int x2, .int x3, .int x4] : List Value).toArray := ⟨_, rfl⟩
  rw [← hAV] at S ⊢
  replace S : CallFix p m c cX12_quarrel 9 s AV lw_G "MilkDeskModel" := S
  have hK := hKX.1
  have hx := S.1
  have hb := S.2.1
  have hml := S.2.2.1
  have hown := S.2.2.2.1
  have hts := S.2.2.2.2
  replace hl : lv_has ls 9 [(0, .ref (ad G 10 0)), (1, .int x1), (2, .int x2), (3, .int x3), (4, .int x4)] := hl
  have w57 : ∀ (n : Nat) (a : Mem × Int32 × Int32 × Int32), Lz (fun (K57 : Mem × Int32 × Int32 × Int32 → Prop) (a : Mem × Int32 × Int32 × Int32) => s_X12_quarrel_57 x1 x2 x3 x4 P K57 a.1 a.2.1 a.2.2.1 a.2.2.2) n a → ∀ (H : Heap) (locs : List Loc) (ls : Array Slot), WPm G a.1 H → va_S (fun q => bs G ≤ q) s.heap H locs → lv_has ls 9 [(0, .ref (ad G 10 0)), (1, .int x1), (2, .int x2), (3, .int x3), (4, .int x4), (5, .int a.2.1), (6, .int a.2.2.1), (7, .int a.2.2.2)] → W p l e rm_X12_quarrel s m AV below meth c H locs 0 0 (MQ below (va_Qi P (WS G) (fun q => bs G ≤ q)) AV s 0 0 (fun q => bs G ≤ q)) (F0 m 57 ls []) := by
    refine Lz_walk ?_
    rintro K57 kk57 ⟨M, x5, x6, x7⟩ h H locs ls hW hS hl
    replace h : s_X12_quarrel_57 x1 x2 x3 x4 P K57 M x5 x6 x7 := h
    replace hW : WPm G M H := hW
    replace hl : lv_has ls 9 [(0, .ref (ad G 10 0)), (1, .int x1), (2, .int x2), (3, .int x3), (4, .int x4), (5, .int x5), (6, .int x6), (7, .int x7)] := hl
    have b113 : ∀ (M : Mem) (x5 : Int32) (x7 : Int32) (y0 : Int32) (H : Heap) (locs : List Loc) (ls : Array Slot), WPm G M H → va_S (fun q => bs G ≤ q) s.heap H locs → lv_has ls 9 [(0, .ref (ad G 10 0)), (1, .int x1), (2, .int x2), (3, .int x3), (4, .int x4), (5, .int x5), (7, .int x7)] → s_X12_quarrel_113 x1 x2 x3 x4 P K57 M x5 x7 y0 → W p l e rm_X12_quarrel s m AV below meth c H locs 0 0 (MQ below (va_Qi P (WS G) (fun q => bs G ≤ q)) AV s 0 0 (fun q => bs G ≤ q)) (F0 m 113 ls [.int y0]) := by
      intro M x5 x7 y0 H locs ls hW hS hl h
      unfold s_X12_quarrel_113 at h
      refine lv_istore (lv' := [(6, .int y0), (0, .ref (ad G 10 0)), (1, .int x1), (2, .int x2), (3, .int x3), (4, .int x4), (5, .int x5), (7, .int x7)]) hx hb dX12_quarrel_113 hl (by decide) rfl (fun ls hl => ?_)
      obtain ⟨x7_115, ex7_115⟩ : ∃ z : Int32, z = x7 + (-1 : Int32) := ⟨_, rfl⟩
      replace h := h x7_115 ex7_115
      refine lv_iinc (v := x7_115) (lv' := [(7, .int x7_115), (6, .int y0), (0, .ref (ad G 10 0)), (1, .int x1), (2, .int x2), (3, .int x3), (4, .int x4), (5, .int x5)]) hx hb dX12_quarrel_115 hl (k := 7) rfl (by rw [ex7_115, ki_m1]) (by decide) rfl (fun ls hl => ?_)
      refine lv_goto (tgt := 57) hx hb dX12_quarrel_118 (by decide) ?_
      exact kk57 _ h H locs ls hW hS (lv_sub hl [2, 3, 4, 5, 6, 7, 1, 0] rfl)
    have b99 : ∀ (M : Mem) (x6 : Int32) (x7 : Int32) (x8 : Int32) (y0 : Int32) (H : Heap) (locs : List Loc) (ls : Array Slot), WPm G M H → va_S (fun q => bs G ≤ q) s.heap H locs → lv_has ls 9 [(0, .ref (ad G 10 0)), (1, .int x1), (2, .int x2), (3, .int x3), (4, .int x4), (6, .int x6), (7, .int x7), (8, .int x8)] → s_X12_quarrel_99 x1 x2 x3 x4 P K57 M x6 x7 x8 y0 → W p l e rm_X12_quarrel s m AV below meth c H locs 0 0 (MQ below (va_Qi P (WS G) (fun q => bs G ≤ q)) AV s 0 0 (fun q => bs G ≤ q)) (F0 m 99 ls [.int y0]) := by
      intro M x6 x7 x8 y0 H locs ls hW hS hl h
      unfold s_X12_quarrel_99 at h
      refine lv_istore (lv' := [(5, .int y0), (0, .ref (ad G 10 0)), (1, .int x1), (2, .int x2), (3, .int x3), (4, .int x4), (6, .int x6), (7, .int x7), (8, .int x8)]) hx hb dX12_quarrel_99 hl (by decide) rfl (fun ls hl => ?_)
      refine lv_iload hx hb dX12_quarrel_101 (lv_at hl 8 rfl) ?_
      refine lv_if_eq (tgt := 111) hx hb dX12_quarrel_103 (by decide) (fun c103 => ?_) (fun c103 => ?_)
      · replace h := h.1 c103
        refine lv_iload hx hb dX12_quarrel_111 (lv_at hl 7 rfl) ?_
        exact b113 _ _ _ _ H locs ls hW hS (lv_sub hl [1, 2, 3, 4, 5, 0, 7] rfl) h
      · replace h := h.2 c103
        refine lv_iload hx hb dX12_quarrel_106 (lv_at hl 6 rfl) ?_
        refine lv_goto (tgt := 113) hx hb dX12_quarrel_108 (by decide) ?_
        exact b113 _ _ _ _ H locs ls hW hS (lv_sub hl [1, 2, 3, 4, 5, 0, 7] rfl) h
    unfold s_X12_quarrel_57 at h
    refine lv_iload hx hb dX12_quarrel_57 (lv_at hl 7 rfl) ?_
    refine lv_if_lt (tgt := 121) hx hb dX12_quarrel_59 (by decide) (fun c59 => ?_) (fun c59 => ?_)
    · replace h := h.1 c59
      refine lv_iload hx hb dX12_quarrel_121 (lv_at hl 5 rfl) ?_
      refine lv_if_lt (tgt := 131) hx hb dX12_quarrel_123 (by decide) (fun c123 => ?_) (fun c123 => ?_)
      · replace h := h.1 c123
        refine lv_bipush hx hb dX12_quarrel_131 kb_m4 ?_
        refine lv_goto (tgt := 144) hx hb dX12_quarrel_133 (by decide) ?_
        exact m_iret S hret hlocks hKX hW hbs hS rfl h dX12_quarrel_144
      · replace h := h.2 c123
        refine lv_iload hx hb dX12_quarrel_126 (lv_at hl 6 rfl) ?_
        refine lv_if_ge (tgt := 136) hx hb dX12_quarrel_128 (by decide) (fun c128 => ?_) (fun c128 => ?_)
        · replace h := h.1 c128
          refine lv_bipush hx hb dX12_quarrel_136 kb_100 ?_
          refine lv_iload hx hb dX12_quarrel_138 (lv_at hl 5 rfl) ?_
          refine lv_imul hx hb dX12_quarrel_140 ?_
          refine lv_iload hx hb dX12_quarrel_141 (lv_at hl 6 rfl) ?_
          refine lv_iadd hx hb dX12_quarrel_143 ?_
          exact m_iret S hret hlocks hKX hW hbs hS rfl h dX12_quarrel_144
        · replace h := h.2 c128
          refine lv_bipush hx hb dX12_quarrel_131 kb_m4 ?_
          refine lv_goto (tgt := 144) hx hb dX12_quarrel_133 (by decide) ?_
          exact m_iret S hret hlocks hKX hW hbs hS rfl h dX12_quarrel_144
    · replace h := h.2 c59
      refine lv_aload_n hx hb dX12_quarrel_62 rfl (lv_at hl 0 rfl) ?_
      refine lv_iload hx hb dX12_quarrel_63 (lv_at hl 7 rfl) ?_
      refine lv_iload_n hx hb dX12_quarrel_65 rfl (lv_at hl 1 rfl) ?_
      refine lv_iload_n hx hb dX12_quarrel_66 rfl (lv_at hl 2 rfl) ?_
      refine lv_iload hx hb dX12_quarrel_67 (lv_at hl 4 rfl) ?_
      refine m_ci0 (m_rV S hKX hW (m_szH hbs hS) (c_X12_couldBe l ) h lk_X12_269 (m_recv hK hW (ci_10 (Nat.le_of_ble_eq_true rfl)) (rc_10 G) rfl) rfl hl.1 rfl ⟨Nat.le_of_ble_eq_true rfl, Nat.le_of_ble_eq_true rfl⟩ (Nat.le_of_ble_eq_true rfl) ⟨Nat.le_of_ble_eq_true rfl, Nat.le_of_ble_eq_true rfl⟩ dX12_quarrel_69) hS rfl rfl (fun rr69 Mm69 H locs h hW hS => ?_)
      refine lv_if_eq (tgt := 115) hx hb dX12_quarrel_72 (by decide) (fun c72 => ?_) (fun c72 => ?_)
      · replace h := h.1 c72
        obtain ⟨x7_115, ex7_115⟩ : ∃ z : Int32, z = x7 + (-1 : Int32) := ⟨_, rfl⟩
        replace h := h x7_115 ex7_115
        refine lv_iinc (v := x7_115) (lv' := [(7, .int x7_115), (0, .ref (ad G 10 0)), (1, .int x1), (2, .int x2), (3, .int x3), (4, .int x4), (5, .int x5), (6, .int x6)]) hx hb dX12_quarrel_115 hl (k := 7) rfl (by rw [ex7_115, ki_m1]) (by decide) rfl (fun ls hl => ?_)
        refine lv_goto (tgt := 57) hx hb dX12_quarrel_118 (by decide) ?_
        exact kk57 _ h H locs ls hW hS (lv_sub hl [1, 2, 3, 4, 5, 6, 7, 0] rfl)
      · replace h := h.2 c72
        refine lv_aload_n hx hb dX12_quarrel_75 rfl (lv_at hl 0 rfl) ?_
        refine lv_iload hx hb dX12_quarrel_76 (lv_at hl 7 rfl) ?_
        refine lv_iload_n hx hb dX12_quarrel_78 rfl (lv_at hl 2 rfl) ?_
        refine lv_iload_n hx hb dX12_quarrel_79 rfl (lv_at hl 3 rfl) ?_
        refine lv_iload hx hb dX12_quarrel_80 (lv_at hl 4 rfl) ?_
        refine m_ci0 (m_rV S hKX hW (m_szH hbs hS) (c_X12_doesHold l ) h lk_X12_263 (m_recv hK hW (ci_10 (Nat.le_of_ble_eq_true rfl)) (rc_10 G) rfl) rfl hl.1 rfl ⟨Nat.le_of_ble_eq_true rfl, Nat.le_of_ble_eq_true rfl⟩ (Nat.le_of_ble_eq_true rfl) ⟨Nat.le_of_ble_eq_true rfl, Nat.le_of_ble_eq_true rfl⟩ dX12_quarrel_82) hS rfl rfl (fun rr82 Mm82 H locs h hW hS => ?_)
        refine lv_istore (lv' := [(8, .int rr82), (0, .ref (ad G 10 0)), (1, .int x1), (2, .int x2), (3, .int x3), (4, .int x4), (5, .int x5), (6, .int x6), (7, .int x7)]) hx hb dX12_quarrel_85 hl (by decide) rfl (fun ls hl => ?_)
        refine lv_iload hx hb dX12_quarrel_87 (lv_at hl 0 rfl) ?_
        refine lv_if_eq (tgt := 97) hx hb dX12_quarrel_89 (by decide) (fun c89 => ?_) (fun c89 => ?_)
        · replace h := h.1 c89
          refine lv_iload hx hb dX12_quarrel_97 (lv_at hl 6 rfl) ?_
          exact b99 _ _ _ _ _ H locs ls hW hS (lv_sub hl [1, 2, 3, 4, 5, 7, 8, 0] rfl) h
        · replace h := h.2 c89
          refine lv_iload hx hb dX12_quarrel_92 (lv_at hl 8 rfl) ?_
          refine lv_goto (tgt := 99) hx hb dX12_quarrel_94 (by decide) ?_
          exact b99 _ _ _ _ _ H locs ls hW hS (lv_sub hl [1, 2, 3, 4, 5, 7, 8, 0] rfl) h
  unfold s_X12_quarrel at h
  refine lv_aload_n hx hb dX12_quarrel_0 rfl (lv_at hl 0 rfl) ?_
  refine lv_iconst hx hb dX12_quarrel_1 ki_0 ?_
  refine m_put S hK fk_X12_128 tyX12_ok nmX12 rfl pf_X12_0 (pv_10_0 G) hW hS (ci_10 (Nat.le_of_ble_eq_true rfl)) rfl rfl dX12_quarrel_2 (fun Mm2 eMm2 H locs hW hS => ?_)
  replace h := h Mm2 eMm2
  refine lv_iload_n hx hb dX12_quarrel_5 rfl (lv_at hl 1 rfl) ?_
  refine lv_iconst hx hb dX12_quarrel_6 ki_0 ?_
  refine lv_iconst hx hb dX12_quarrel_7 ki_2 ?_
  refine m_ci0 (m_rS S hKX hW (m_szH hbs hS) (c_X12_in l ) h lk_X12_131 rfl hl.1 rfl ⟨Nat.le_of_ble_eq_true rfl, Nat.le_of_ble_eq_true rfl⟩ (Nat.le_of_ble_eq_true rfl) ⟨Nat.le_of_ble_eq_true rfl, Nat.le_of_ble_eq_true rfl⟩ dX12_quarrel_8) hS rfl rfl (fun rr8 Mm8 H locs h hW hS => ?_)
  refine lv_if_eq (tgt := 37) hx hb dX12_quarrel_11 (by decide) (fun c11 => ?_) (fun c11 => ?_)
  · replace h := h.1 c11
    refine lv_iconst hx hb dX12_quarrel_37 ki_m1 ?_
    exact m_iret S hret hlocks hKX hW hbs hS rfl h dX12_quarrel_38
  · replace h := h.2 c11
    refine lv_aload_n hx hb dX12_quarrel_14 rfl (lv_at hl 0 rfl) ?_
    refine lv_iload_n hx hb dX12_quarrel_15 rfl (lv_at hl 2 rfl) ?_
    refine m_ci0 (m_rV S hKX hW (m_szH hbs hS) (c_X12_isSchool l ) h lk_X12_139 (m_recv hK hW (ci_10 (Nat.le_of_ble_eq_true rfl)) (rc_10 G) rfl) rfl hl.1 rfl ⟨Nat.le_of_ble_eq_true rfl, Nat.le_of_ble_eq_true rfl⟩ (Nat.le_of_ble_eq_true rfl) ⟨Nat.le_of_ble_eq_true rfl, Nat.le_of_ble_eq_true rfl⟩ dX12_quarrel_16) hS rfl rfl (fun rr16 Mm16 H locs h hW hS => ?_)
    refine lv_if_eq (tgt := 37) hx hb dX12_quarrel_19 (by decide) (fun c19 => ?_) (fun c19 => ?_)
    · replace h := h.1 c19
      refine lv_iconst hx hb dX12_quarrel_37 ki_m1 ?_
      exact m_iret S hret hlocks hKX hW hbs hS rfl h dX12_quarrel_38
    · replace h := h.2 c19
      refine lv_iload_n hx hb dX12_quarrel_22 rfl (lv_at hl 3 rfl) ?_
      refine m_ci0 (m_rS S hKX hW (m_szH hbs hS) (c_X12_isAge l ) h lk_X12_149 rfl hl.1 rfl ⟨Nat.le_of_ble_eq_true rfl, Nat.le_of_ble_eq_true rfl⟩ (Nat.le_of_ble_eq_true rfl) ⟨Nat.le_of_ble_eq_true rfl, Nat.le_of_ble_eq_true rfl⟩ dX12_quarrel_23) hS rfl rfl (fun rr23 Mm23 H locs h hW hS => ?_)
      refine lv_if_eq (tgt := 37) hx hb dX12_quarrel_26 (by decide) (fun c26 => ?_) (fun c26 => ?_)
      · replace h := h.1 c26
        refine lv_iconst hx hb dX12_quarrel_37 ki_m1 ?_
        exact m_iret S hret hlocks hKX hW hbs hS rfl h dX12_quarrel_38
      · replace h := h.2 c26
        refine lv_iload hx hb dX12_quarrel_29 (lv_at hl 4 rfl) ?_
        refine m_ci0 (m_rS S hKX hW (m_szH hbs hS) (c_X12_isDay l ) h lk_X12_164 rfl hl.1 rfl ⟨Nat.le_of_ble_eq_true rfl, Nat.le_of_ble_eq_true rfl⟩ (Nat.le_of_ble_eq_true rfl) ⟨Nat.le_of_ble_eq_true rfl, Nat.le_of_ble_eq_true rfl⟩ dX12_quarrel_31) hS rfl rfl (fun rr31 Mm31 H locs h hW hS => ?_)
        refine lv_if_ne (tgt := 39) hx hb dX12_quarrel_34 (by decide) (fun c34 => ?_) (fun c34 => ?_)
        · replace h := h.1 c34
          refine lv_bipush hx hb dX12_quarrel_39 kb_m4 ?_
          refine lv_istore (lv' := [(5, .int (-4 : Int32)), (0, .ref (ad G 10 0)), (1, .int x1), (2, .int x2), (3, .int x3), (4, .int x4)]) hx hb dX12_quarrel_41 hl (by decide) rfl (fun ls hl => ?_)
          refine lv_bipush hx hb dX12_quarrel_43 kb_m4 ?_
          refine lv_istore (lv' := [(6, .int (-4 : Int32)), (5, .int (-4 : Int32)), (0, .ref (ad G 10 0)), (1, .int x1), (2, .int x2), (3, .int x3), (4, .int x4)]) hx hb dX12_quarrel_45 hl (by decide) rfl (fun ls hl => ?_)
          refine lv_aload_n hx hb dX12_quarrel_47 rfl (lv_at hl 2 rfl) ?_
          refine m_getr S hK fk_X12_7 (gr_10_1 G 0) hW (ci_10 (Nat.le_of_ble_eq_true rfl)) dX12_quarrel_48 ?_
          refine lv_iconst hx hb dX12_quarrel_51 ki_2 ?_
          refine m_aldk S hK (ar_44 G) hW (ci_44 (Nat.le_of_ble_eq_true rfl)) kn_2 (Nat.le_of_ble_eq_true rfl) dX12_quarrel_52 ?_
          refine lv_iconst hx hb dX12_quarrel_53 ki_1 ?_
          refine lv_isub hx hb dX12_quarrel_54 ?_
          refine lv_topi (fun x7_55 ex7_55 => ?_)
          replace h := h x7_55 ex7_55
          refine lv_istore (lv' := [(7, .int x7_55), (6, .int (-4 : Int32)), (5, .int (-4 : Int32)), (0, .ref (ad G 10 0)), (1, .int x1), (2, .int x2), (3, .int x3), (4, .int x4)]) hx hb dX12_quarrel_55 hl (by decide) rfl (fun ls hl => ?_)
          obtain ⟨n57, h⟩ := h
          exact w57 n57 _ h H locs ls hW hS (lv_sub hl [3, 4, 5, 6, 7, 2, 1, 0] rfl)
        · replace h := h.2 c34
          refine lv_iconst hx hb dX12_quarrel_37 ki_m1 ?_
          exact m_iret S hret hlocks hKX hW hbs hS rfl h dX12_quarrel_38
abbrev rm_X12_hundreds : Room := { frames := 0, cells := 0, slots := 0, locals := 0 }
set_option maxHeartbeats 4000000 in
set_option maxRecDepth 100000 in
theorem c_X12_hundreds (l : Launch) {G : Gn} {M : Mem} {x0 : Int32} {x1 : Int32} {P : Int32 → Mem → Prop} : MQi l yX12_hundreds cX12_hundreds 2 (some .int) rm_X12_hundreds [.int x0, .int x1] G M (s_X12_hundreds M x0 x1 P) P := by
  refine m_enter (by decide +kernel) (Nat.le_of_ble_eq_true rfl) ?_
  intro p e s m below meth c ls H locs S hret hlocks hname hKX hbs hW hS hl h
  obtain ⟨AV, hAV⟩ : ∃ z : Array Value, z = ([.int x0, .int x1] : List Value).toArray := ⟨_, rfl⟩
  rw [← hAV] at S ⊢
  replace S : CallFix p m c cX12_hundreds 2 s AV lw_G "MilkDeskModel" := S
  have hK := hKX.1
  have hx := S.1
  have hb := S.2.1
  have hml := S.2.2.1
  have hown := S.2.2.2.1
  have hts := S.2.2.2.2
  replace hl : lv_has ls 2 [(0, .int x0), (1, .int x1)] := hl
  unfold s_X12_hundreds at h
  refine lv_iload_n hx hb dX12_hundreds_0 rfl (lv_at hl 0 rfl) ?_
  refine lv_iload_n hx hb dX12_hundreds_1 rfl (lv_at hl 1 rfl) ?_
  refine lv_imul hx hb dX12_hundreds_2 ?_
  refine lv_bipush hx hb dX12_hundreds_3 kb_100 ?_
  refine lv_idiv hx hb dX12_hundreds_5 nz_100 ?_
  exact m_iret S hret hlocks hKX hW hbs hS rfl h dX12_hundreds_6
abbrev rm_X12_paid : Room := { frames := 1, cells := 0, slots := 0, locals := 21 }
set_option maxHeartbeats 4000000 in
set_option maxRecDepth 100000 in
theorem c_X12_paid (l : Launch) {G : Gn} {M : Mem} {x0 : Int32} {x1 : Int32} {x2 : Int32} {P : Int32 → Mem → Prop} : MQi l yX12_paid cX12_paid 4 (some .int) rm_X12_paid [.int x0, .int x1, .int x2] G M (s_X12_paid M x0 x1 x2 P) P := by
  refine m_enter (by decide +kernel) (Nat.le_of_ble_eq_true rfl) ?_
  intro p e s m below meth c ls H locs S hret hlocks hname hKX hbs hW hS hl h
  obtain ⟨AV, hAV⟩ : ∃ z : Array Value, z = ([.int x0, .int x1, .int x2] : List Value).toArray := ⟨_, rfl⟩
  rw [← hAV] at S ⊢
  replace S : CallFix p m c cX12_paid 4 s AV lw_G "MilkDeskModel" := S
  have hK := hKX.1
  have hx := S.1
  have hb := S.2.1
  have hml := S.2.2.1
  have hown := S.2.2.2.1
  have hts := S.2.2.2.2
  replace hl : lv_has ls 4 [(0, .int x0), (1, .int x1), (2, .int x2)] := hl
  have b72 : ∀ (M : Mem) (x3 : Int32) (H : Heap) (locs : List Loc) (ls : Array Slot), WPm G M H → va_S (fun q => bs G ≤ q) s.heap H locs → lv_has ls 4 [(3, .int x3)] → s_X12_paid_72 P M x3 → W p l e rm_X12_paid s m AV below meth c H locs 0 0 (MQ below (va_Qi P (WS G) (fun q => bs G ≤ q)) AV s 0 0 (fun q => bs G ≤ q)) (F0 m 72 ls []) := by
    intro M x3 H locs ls hW hS hl h
    unfold s_X12_paid_72 at h
    refine lv_iload_n hx hb dX12_paid_72 rfl (lv_at hl 0 rfl) ?_
    refine lv_iconst hx hb dX12_paid_73 ki_2 ?_
    refine lv_idiv hx hb dX12_paid_74 nz_2 ?_
    exact m_iret S hret hlocks hKX hW hbs hS rfl h dX12_paid_75
  have b14 : ∀ (M : Mem) (y0 : Int32) (y1 : Int32) (H : Heap) (locs : List Loc) (ls : Array Slot), WPm G M H → va_S (fun q => bs G ≤ q) s.heap H locs → lv_has ls 4 [(0, .int x0), (1, .int x1), (2, .int x2)] → s_X12_paid_14 x0 x1 x2 P M y0 y1 → W p l e rm_X12_paid s m AV below meth c H locs 0 0 (MQ below (va_Qi P (WS G) (fun q => bs G ≤ q)) AV s 0 0 (fun q => bs G ≤ q)) (F0 m 14 ls [.int y0, .int y1]) := by
    intro M y0 y1 H locs ls hW hS hl h
    unfold s_X12_paid_14 at h
    refine lv_iadd hx hb dX12_paid_14 ?_
    refine lv_topi (fun x3_15 ex3_15 => ?_)
    replace h := h x3_15 ex3_15
    refine lv_istore_n (lv' := [(3, .int x3_15), (0, .int x0), (1, .int x1), (2, .int x2)]) hx hb dX12_paid_15 rfl hl (by decide) rfl (fun ls hl => ?_)
    refine lv_iload_n hx hb dX12_paid_16 rfl (lv_at hl 1 rfl) ?_
    by_cases c17_0 : x0 = (0 : Int32)
    · replace h := h.1 c17_0
      rw [c17_0]
      refine lv_tableIn (off := 39) (tgt := 56) hx hb dX12_paid_17 (by decide +kernel) (by decide +kernel) (by decide +kernel) (by decide) ?_
      refine lv_iload_n hx hb dX12_paid_56 rfl (lv_at hl 2 rfl) ?_
      refine lv_iload_n hx hb dX12_paid_57 rfl (lv_at hl 3 rfl) ?_
      refine m_ci0 (m_rS S hKX hW (m_szH hbs hS) (c_X12_hundreds l ) h lk_X12_272 rfl hl.1 rfl ⟨Nat.le_of_ble_eq_true rfl, Nat.le_of_ble_eq_true rfl⟩ (Nat.le_of_ble_eq_true rfl) ⟨Nat.le_of_ble_eq_true rfl, Nat.le_of_ble_eq_true rfl⟩ dX12_paid_58) hS rfl rfl (fun rr58 Mm58 H locs h hW hS => ?_)
      exact m_iret S hret hlocks hKX hW hbs hS rfl h dX12_paid_61
    · replace h := h.2
      by_cases c17_1 : x0 = (1 : Int32)
      · replace h := h.1 c17_1
        rw [c17_1]
        refine lv_tableIn (off := 45) (tgt := 62) hx hb dX12_paid_17 (by decide +kernel) (by decide +kernel) (by decide +kernel) (by decide) ?_
        refine lv_iload_n hx hb dX12_paid_62 rfl (lv_at hl 0 rfl) ?_
        exact m_iret S hret hlocks hKX hW hbs hS rfl h dX12_paid_63
      · replace h := h.2
        by_cases c17_2 : x0 = (2 : Int32)
        · replace h := h.1 c17_2
          rw [c17_2]
          refine lv_tableIn (off := 47) (tgt := 64) hx hb dX12_paid_17 (by decide +kernel) (by decide +kernel) (by decide +kernel) (by decide) ?_
          refine lv_iload_n hx hb dX12_paid_64 rfl (lv_at hl 2 rfl) ?_
          refine lv_iload_n hx hb dX12_paid_65 rfl (lv_at hl 3 rfl) ?_
          refine m_ci0 (m_rS S hKX hW (m_szH hbs hS) (c_X12_hundreds l ) h lk_X12_272 rfl hl.1 rfl ⟨Nat.le_of_ble_eq_true rfl, Nat.le_of_ble_eq_true rfl⟩ (Nat.le_of_ble_eq_true rfl) ⟨Nat.le_of_ble_eq_true rfl, Nat.le_of_ble_eq_true rfl⟩ dX12_paid_66) hS rfl rfl (fun rr66 Mm66 H locs h hW hS => ?_)
          refine lv_iconst hx hb dX12_paid_69 ki_2 ?_
          refine lv_idiv hx hb dX12_paid_70 nz_2 ?_
          exact m_iret S hret hlocks hKX hW hbs hS rfl h dX12_paid_71
        · replace h := h.2
          by_cases c17_3 : x0 = (3 : Int32)
          · replace h := h.1 c17_3
            rw [c17_3]
            refine lv_tableIn (off := 45) (tgt := 62) hx hb dX12_paid_17 (by decide +kernel) (by decide +kernel) (by decide +kernel) (by decide) ?_
            refine lv_iload_n hx hb dX12_paid_62 rfl (lv_at hl 0 rfl) ?_
            exact m_iret S hret hlocks hKX hW hbs hS rfl h dX12_paid_63
          · replace h := h.2
            by_cases c17_4 : x0 = (4 : Int32)
            · replace h := h.1 c17_4
              rw [c17_4]
              refine lv_tableIn (off := 55) (tgt := 72) hx hb dX12_paid_17 (by decide +kernel) (by decide +kernel) (by decide +kernel) (by decide) ?_
              exact b72 _ _ H locs ls hW hS (lv_sub hl [0] rfl) h
            · replace h := h.2
              by_cases c17_5 : x0 = (5 : Int32)
              · replace h := h.1 c17_5
                rw [c17_5]
                refine lv_tableIn (off := 55) (tgt := 72) hx hb dX12_paid_17 (by decide +kernel) (by decide +kernel) (by decide +kernel) (by decide) ?_
                exact b72 _ _ H locs ls hW hS (lv_sub hl [0] rfl) h
              · replace h := h.2
                replace h := h c17_0 c17_1 c17_2 c17_3 c17_4 c17_5
                refine lv_tableOut (tgt := 76) hx hb dX12_paid_17 (m_out 0 5 (fun z h1 h2 => ?_)) (by decide) ?_
                · have h3 : z = 0 ∨ z = 1 ∨ z = 2 ∨ z = 3 ∨ z = 4 ∨ z = 5 := by omega
                  rcases h3 with rfl | rfl | rfl | rfl | rfl | rfl
                  · exact lv_neT c17_0 (by decide +kernel)
                  · exact lv_neT c17_1 (by decide +kernel)
                  · exact lv_neT c17_2 (by decide +kernel)
                  · exact lv_neT c17_3 (by decide +kernel)
                  · exact lv_neT c17_4 (by decide +kernel)
                  · exact lv_neT c17_5 (by decide +kernel)
                · skip
                  refine lv_iload_n hx hb dX12_paid_76 rfl (lv_at hl 0 rfl) ?_
                  refine lv_if_le (tgt := 86) hx hb dX12_paid_77 (by decide) (fun c77 => ?_) (fun c77 => ?_)
                  · replace h := h.1 c77
                    refine lv_iconst hx hb dX12_paid_86 ki_0 ?_
                    exact m_iret S hret hlocks hKX hW hbs hS rfl h dX12_paid_87
                  · replace h := h.2 c77
                    refine lv_iload_n hx hb dX12_paid_80 rfl (lv_at hl 0 rfl) ?_
                    refine lv_iconst hx hb dX12_paid_81 ki_1 ?_
                    refine lv_isub hx hb dX12_paid_82 ?_
                    refine lv_goto (tgt := 87) hx hb dX12_paid_83 (by decide) ?_
                    exact m_iret S hret hlocks hKX hW hbs hS rfl h dX12_paid_87
  unfold s_X12_paid at h
  refine lv_iload_n hx hb dX12_paid_0 rfl (lv_at hl 1 rfl) ?_
  refine lv_iload_n hx hb dX12_paid_1 rfl (lv_at hl 2 rfl) ?_
  refine m_ci0 (m_rS S hKX hW (m_szH hbs hS) (c_X12_hundreds l ) h lk_X12_272 rfl hl.1 rfl ⟨Nat.le_of_ble_eq_true rfl, Nat.le_of_ble_eq_true rfl⟩ (Nat.le_of_ble_eq_true rfl) ⟨Nat.le_of_ble_eq_true rfl, Nat.le_of_ble_eq_true rfl⟩ dX12_paid_2) hS rfl rfl (fun rr2 Mm2 H locs h hW hS => ?_)
  refine lv_iload_n hx hb dX12_paid_5 rfl (lv_at hl 1 rfl) ?_
  refine lv_if_le (tgt := 13) hx hb dX12_paid_6 (by decide) (fun c6 => ?_) (fun c6 => ?_)
  · replace h := h.1 c6
    refine lv_iconst hx hb dX12_paid_13 ki_0 ?_
    exact b14 _ _ _ H locs ls hW hS (lv_sub hl [0, 1, 2] rfl) h
  · replace h := h.2 c6
    refine lv_iconst hx hb dX12_paid_9 ki_1 ?_
    refine lv_goto (tgt := 14) hx hb dX12_paid_10 (by decide) ?_
    exact b14 _ _ _ H locs ls hW hS (lv_sub hl [0, 1, 2] rfl) h
abbrev rm_X12_orderOf : Room := { frames := 10, cells := 0, slots := 0, locals := 233 }
set_option maxHeartbeats 4000000 in
set_option maxRecDepth 100000 in
theorem c_X12_orderOf (l : Launch) {G : Gn} {M : Mem} {x1 : Int32} {x2 : Int32} {P : Int32 → Mem → Prop} : MQi l yX12_orderOf cX12_orderOf 6 (some .int) rm_X12_orderOf [.ref (ad G 10 0), .int x1, .int x2] G M (s_X12_orderOf M x1 x2 P) P := by
  refine m_enter (by decide +kernel) (Nat.le_of_ble_eq_true rfl) ?_
  intro p e s m below meth c ls H locs S hret hlocks hname hKX hbs hW hS hl h
  obtain ⟨AV, hAV⟩ : ∃ z : Array Value, z = ([.ref (ad G 10 0), .int x1, .int x2] : List Value).toArray := ⟨_, rfl⟩
  rw [← hAV] at S ⊢
  replace S : CallFix p m c cX12_orderOf 6 s AV lw_G "MilkDeskModel" := S
  have hK := hKX.1
  have hx := S.1
  have hb := S.2.1
  have hml := S.2.2.1
  have hown := S.2.2.2.1
  have hts := S.2.2.2.2
  replace hl : lv_has ls 6 [(0, .ref (ad G 10 0)), (1, .int x1), (2, .int x2)] := hl
  have w5 : ∀ (n : Nat) (a : Mem × Int32 × Int32), Lz (fun (K5 : Mem × Int32 × Int32 → Prop) (a : Mem × Int32 × Int32) => s_X12_orderOf_5 x1 x2 P K5 a.1 a.2.1 a.2.2) n a → ∀ (H : Heap) (locs : List Loc) (ls : Array Slot), WPm G a.1 H → va_S (fun q => bs G ≤ q) s.heap H locs → lv_has ls 6 [(0, .ref (ad G 10 0)), (1, .int x1), (2, .int x2), (3, .int a.2.1), (4, .int a.2.2)] → W p l e rm_X12_orderOf s m AV below meth c H locs 0 0 (MQ below (va_Qi P (WS G) (fun q => bs G ≤ q)) AV s 0 0 (fun q => bs G ≤ q)) (F0 m 5 ls []) := by
    refine Lz_walk ?_
    rintro K5 kk5 ⟨M, x3, x4⟩ h H locs ls hW hS hl
    replace h : s_X12_orderOf_5 x1 x2 P K5 M x3 x4 := h
    replace hW : WPm G M H := hW
    replace hl : lv_has ls 6 [(0, .ref (ad G 10 0)), (1, .int x1), (2, .int x2), (3, .int x3), (4, .int x4)] := hl
    have b69 : ∀ (M : Mem) (x4 : Int32) (y0 : Int32) (y1 : Int32) (H : Heap) (locs : List Loc) (ls : Array Slot), WPm G M H → va_S (fun q => bs G ≤ q) s.heap H locs → lv_has ls 6 [(0, .ref (ad G 10 0)), (1, .int x1), (2, .int x2), (4, .int x4)] → s_X12_orderOf_69 x1 x2 P K5 M x4 y0 y1 → W p l e rm_X12_orderOf s m AV below meth c H locs 0 0 (MQ below (va_Qi P (WS G) (fun q => bs G ≤ q)) AV s 0 0 (fun q => bs G ≤ q)) (F0 m 69 ls [.int y0, .int y1]) := by
      intro M x4 y0 y1 H locs ls hW hS hl h
      unfold s_X12_orderOf_69 at h
      refine lv_iadd hx hb dX12_orderOf_69 ?_
      refine lv_topi (fun x3_70 ex3_70 => ?_)
      replace h := h x3_70 ex3_70
      refine lv_istore_n (lv' := [(3, .int x3_70), (0, .ref (ad G 10 0)), (1, .int x1), (2, .int x2), (4, .int x4)]) hx hb dX12_orderOf_70 rfl hl (by decide) rfl (fun ls hl => ?_)
      obtain ⟨x4_71, ex4_71⟩ : ∃ z : Int32, z = x4 + (1 : Int32) := ⟨_, rfl⟩
      replace h := h x4_71 ex4_71
      refine lv_iinc (v := x4_71) (lv' := [(4, .int x4_71), (3, .int x3_70), (0, .ref (ad G 10 0)), (1, .int x1), (2, .int x2)]) hx hb dX12_orderOf_71 hl (k := 4) rfl (by rw [ex4_71, ki_1]) (by decide) rfl (fun ls hl => ?_)
      refine lv_goto (tgt := 5) hx hb dX12_orderOf_74 (by decide) ?_
      exact kk5 _ h H locs ls hW hS (lv_sub hl [2, 3, 4, 1, 0] rfl)
    have b43 : ∀ (M : Mem) (x3 : Int32) (x4 : Int32) (y0 : Int32) (H : Heap) (locs : List Loc) (ls : Array Slot), WPm G M H → va_S (fun q => bs G ≤ q) s.heap H locs → lv_has ls 6 [(0, .ref (ad G 10 0)), (1, .int x1), (2, .int x2), (3, .int x3), (4, .int x4)] → s_X12_orderOf_43 x1 x2 P K5 M x3 x4 y0 → W p l e rm_X12_orderOf s m AV below meth c H locs 0 0 (MQ below (va_Qi P (WS G) (fun q => bs G ≤ q)) AV s 0 0 (fun q => bs G ≤ q)) (F0 m 43 ls [.int y0]) := by
      intro M x3 x4 y0 H locs ls hW hS hl h
      unfold s_X12_orderOf_43 at h
      refine lv_istore (lv' := [(5, .int y0), (0, .ref (ad G 10 0)), (1, .int x1), (2, .int x2), (3, .int x3), (4, .int x4)]) hx hb dX12_orderOf_43 hl (by decide) rfl (fun ls hl => ?_)
      refine lv_iload_n hx hb dX12_orderOf_45 rfl (lv_at hl 4 rfl) ?_
      refine lv_iload hx hb dX12_orderOf_46 (lv_at hl 0 rfl) ?_
      refine lv_if_le (tgt := 68) hx hb dX12_orderOf_48 (by decide) (fun c48 => ?_) (fun c48 => ?_)
      · replace h := h.1 c48
        refine lv_iconst hx hb dX12_orderOf_68 ki_0 ?_
        exact b69 _ _ _ _ H locs ls hW hS (lv_sub hl [1, 2, 3, 5] rfl) h
      · replace h := h.2 c48
        refine lv_aload_n hx hb dX12_orderOf_51 rfl (lv_at hl 1 rfl) ?_
        refine lv_iconst hx hb dX12_orderOf_52 ki_0 ?_
        refine lv_iload_n hx hb dX12_orderOf_53 rfl (lv_at hl 2 rfl) ?_
        refine lv_iload hx hb dX12_orderOf_54 (lv_at hl 5 rfl) ?_
        refine lv_iload_n hx hb dX12_orderOf_56 rfl (lv_at hl 3 rfl) ?_
        refine m_ci0 (m_rV S hKX hW (m_szH hbs hS) (c_X12_holdsFor l ) h lk_X12_266 (m_recv hK hW (ci_10 (Nat.le_of_ble_eq_true rfl)) (rc_10 G) rfl) rfl hl.1 rfl ⟨Nat.le_of_ble_eq_true rfl, Nat.le_of_ble_eq_true rfl⟩ (Nat.le_of_ble_eq_true rfl) ⟨Nat.le_of_ble_eq_true rfl, Nat.le_of_ble_eq_true rfl⟩ dX12_orderOf_57) hS rfl rfl (fun rr57 Mm57 H locs h hW hS => ?_)
        refine lv_if_eq (tgt := 68) hx hb dX12_orderOf_60 (by decide) (fun c60 => ?_) (fun c60 => ?_)
        · replace h := h.1 c60
          refine lv_iconst hx hb dX12_orderOf_68 ki_0 ?_
          exact b69 _ _ _ _ H locs ls hW hS (lv_sub hl [1, 2, 3, 5] rfl) h
        · replace h := h.2 c60
          refine lv_iload hx hb dX12_orderOf_63 (lv_at hl 0 rfl) ?_
          refine lv_goto (tgt := 69) hx hb dX12_orderOf_65 (by decide) ?_
          exact b69 _ _ _ _ H locs ls hW hS (lv_sub hl [1, 2, 3, 5] rfl) h
    unfold s_X12_orderOf_5 at h
    refine lv_iload hx hb dX12_orderOf_5 (lv_at hl 4 rfl) ?_
    refine lv_iconst hx hb dX12_orderOf_7 ki_3 ?_
    refine lv_icmp_ge (tgt := 77) hx hb dX12_orderOf_8 (by decide) (fun c8 => ?_) (fun c8 => ?_)
    · replace h := h.1 c8
      refine lv_iload_n hx hb dX12_orderOf_77 rfl (lv_at hl 3 rfl) ?_
      exact m_iret S hret hlocks hKX hW hbs hS rfl h dX12_orderOf_78
    · replace h := h.2 c8
      refine lv_iload_n hx hb dX12_orderOf_11 rfl (lv_at hl 2 rfl) ?_
      refine lv_bipush hx hb dX12_orderOf_12 kb_7 ?_
      refine lv_irem hx hb dX12_orderOf_14 nz_7 ?_
      refine lv_iconst hx hb dX12_orderOf_15 ki_5 ?_
      refine lv_icmp_ge (tgt := 77) hx hb dX12_orderOf_16 (by decide) (fun c16 => ?_) (fun c16 => ?_)
      · replace h := h.1 c16
        refine lv_iload_n hx hb dX12_orderOf_77 rfl (lv_at hl 3 rfl) ?_
        exact m_iret S hret hlocks hKX hW hbs hS rfl h dX12_orderOf_78
      · replace h := h.2 c16
        refine lv_iload hx hb dX12_orderOf_19 (lv_at hl 4 rfl) ?_
        refine lv_aload_n hx hb dX12_orderOf_21 rfl (lv_at hl 0 rfl) ?_
        refine m_geti S hK fk_X12_70 (gi_10_22 G) hW (ci_10 (Nat.le_of_ble_eq_true rfl)) dX12_orderOf_22 ?_
        refine lv_icmp_ne (tgt := 32) hx hb dX12_orderOf_25 (by decide) (fun c25 => ?_) (fun c25 => ?_)
        · replace h := h.1 c25
          refine lv_aload_n hx hb dX12_orderOf_32 rfl (lv_at hl 0 rfl) ?_
          refine lv_iload_n hx hb dX12_orderOf_33 rfl (lv_at hl 1 rfl) ?_
          refine lv_iload hx hb dX12_orderOf_34 (lv_at hl 4 rfl) ?_
          refine lv_iload_n hx hb dX12_orderOf_36 rfl (lv_at hl 2 rfl) ?_
          refine lv_sipush hx hb dX12_orderOf_37 ks_400 ?_
          refine m_ci0 (m_rV S hKX hW (m_szH hbs hS) (c_X12_headOf l ) h lk_X12_160 (m_recv hK hW (ci_10 (Nat.le_of_ble_eq_true rfl)) (rc_10 G) rfl) rfl hl.1 rfl ⟨Nat.le_of_ble_eq_true rfl, Nat.le_of_ble_eq_true rfl⟩ (Nat.le_of_ble_eq_true rfl) ⟨Nat.le_of_ble_eq_true rfl, Nat.le_of_ble_eq_true rfl⟩ dX12_orderOf_40) hS rfl rfl (fun rr40 Mm40 H locs h hW hS => ?_)
          exact b43 _ _ _ _ H locs ls hW hS (lv_sub hl [0, 1, 2, 3, 4] rfl) h
        · replace h := h.2 c25
          refine lv_iconst hx hb dX12_orderOf_28 ki_0 ?_
          refine lv_goto (tgt := 43) hx hb dX12_orderOf_29 (by decide) ?_
          exact b43 _ _ _ _ H locs ls hW hS (lv_sub hl [0, 1, 2, 3, 4] rfl) h
  unfold s_X12_orderOf at h
  refine lv_iconst hx hb dX12_orderOf_0 ki_0 ?_
  refine lv_istore_n (lv' := [(3, .int (0 : Int32)), (0, .ref (ad G 10 0)), (1, .int x1), (2, .int x2)]) hx hb dX12_orderOf_1 rfl hl (by decide) rfl (fun ls hl => ?_)
  refine lv_iconst hx hb dX12_orderOf_2 ki_0 ?_
  refine lv_istore (lv' := [(4, .int (0 : Int32)), (3, .int (0 : Int32)), (0, .ref (ad G 10 0)), (1, .int x1), (2, .int x2)]) hx hb dX12_orderOf_3 hl (by decide) rfl (fun ls hl => ?_)
  obtain ⟨n5, h⟩ := h
  exact w5 n5 _ h H locs ls hW hS (lv_sub hl [2, 3, 4, 1, 0] rfl)
