abbrev rm_X11_holds : Room := { frames := 4, cells := 0, slots := 0, locals := 98 }
set_option maxHeartbeats 4000000 in
set_option maxRecDepth 100000 in
theorem c_X11_holds (l : Launch) {G : Gn} {M : Mem} {x1 : Int32} {x2 : Int32} {x3 : Int32} {x4 : Int32} {P : Int32 → Mem → Prop} : MQi l yX11_holds cX11_holds 5 (some .int) rm_X11_holds [.ref (ad G 0 0), .int x1, .int x2, .int x3, .int x4] G M (s_X11_holds M x1 x2 x3 x4 P) P := by
  refine m_enter (by decide +kernel) (Nat.le_of_ble_eq_true rfl) ?_
  intro p e s m below meth c ls H locs S hret hlocks hname hKX hbs hW hS hl h
  obtain ⟨AV, hAV⟩ : ∃ z : Array Value, z = ([.ref (ad G 0 0), .int x1, .int x2, .int x3, .int x4] : List Value).toArray := ⟨_, rfl⟩
  rw [← hAV] at S ⊢
  replace S : CallFix p m c cX11_holds 5 s AV lw_G "MilkDesk" := S
  have hK := hKX.1
  have hx := S.1
  have hb := S.2.1
  have hml := S.2.2.1
  have hown := S.2.2.2.1
  have hts := S.2.2.2.2
  replace hl : lv_has ls 5 [(0, .ref (ad G 0 0)), (1, .int x1), (2, .int x2), (3, .int x3), (4, .int x4)] := hl
  unfold s_X11_holds at h
  refine lv_aload_n hx hb dX11_holds_0 rfl (lv_at hl 0 rfl) ?_
  refine lv_iload_n hx hb dX11_holds_1 rfl (lv_at hl 1 rfl) ?_
  refine lv_iload_n hx hb dX11_holds_2 rfl (lv_at hl 2 rfl) ?_
  refine lv_iload_n hx hb dX11_holds_3 rfl (lv_at hl 3 rfl) ?_
  refine lv_iload hx hb dX11_holds_4 (lv_at hl 4 rfl) ?_
  refine m_ci0 (m_rV S hKX hW (m_szH hbs hS) (c_X11_isCase l ) h lk_X11_150 (m_recv hK hW (ci_0 (Nat.le_of_ble_eq_true rfl)) (rc_0 G) rfl) rfl hl.1 rfl ⟨Nat.le_of_ble_eq_true rfl, Nat.le_of_ble_eq_true rfl⟩ (Nat.le_of_ble_eq_true rfl) ⟨Nat.le_of_ble_eq_true rfl, Nat.le_of_ble_eq_true rfl⟩ dX11_holds_6) hS rfl rfl (fun rr6 Mm6 H locs h hW hS => ?_)
  refine lv_if_ne (tgt := 14) hx hb dX11_holds_9 (by decide) (fun c9 => ?_) (fun c9 => ?_)
  · replace h := h.1 c9
    refine lv_aload_n hx hb dX11_holds_14 rfl (lv_at hl 0 rfl) ?_
    refine m_getr S hK fk_X11_12 (gr_0_0 G 0) hW (ci_0 (Nat.le_of_ble_eq_true rfl)) dX11_holds_15 ?_
    refine lv_iload_n hx hb dX11_holds_18 rfl (lv_at hl 1 rfl) ?_
    refine lv_iload_n hx hb dX11_holds_19 rfl (lv_at hl 2 rfl) ?_
    refine lv_iload_n hx hb dX11_holds_20 rfl (lv_at hl 3 rfl) ?_
    refine lv_iload hx hb dX11_holds_21 (lv_at hl 4 rfl) ?_
    refine m_ci0 (m_rV S hKX hW (m_szH hbs hS) (c_X10_purposeHolds l (Nat.le_of_ble_eq_true rfl)) h lk_X11_160 (m_recv hK hW (ci_1 (Nat.le_of_ble_eq_true rfl)) (rc_1 G) rfl) rfl hl.1 rfl ⟨Nat.le_of_ble_eq_true rfl, Nat.le_of_ble_eq_true rfl⟩ (Nat.le_of_ble_eq_true rfl) ⟨Nat.le_of_ble_eq_true rfl, Nat.le_of_ble_eq_true rfl⟩ dX11_holds_23) hS rfl rfl (fun rr23 Mm23 H locs h hW hS => ?_)
    refine lv_if_eq (tgt := 33) hx hb dX11_holds_26 (by decide) (fun c26 => ?_) (fun c26 => ?_)
    · replace h := h.1 c26
      refine lv_iconst hx hb dX11_holds_33 ki_0 ?_
      exact m_iret S hret hlocks hKX hW hbs hS rfl h dX11_holds_34
    · replace h := h.2 c26
      refine lv_iconst hx hb dX11_holds_29 ki_1 ?_
      refine lv_goto (tgt := 34) hx hb dX11_holds_30 (by decide) ?_
      exact m_iret S hret hlocks hKX hW hbs hS rfl h dX11_holds_34
  · replace h := h.2 c9
    refine lv_iconst hx hb dX11_holds_12 ki_m1 ?_
    exact m_iret S hret hlocks hKX hW hbs hS rfl h dX11_holds_13
abbrev rm_X11_quarrel : Room := { frames := 4, cells := 0, slots := 0, locals := 98 }
set_option maxHeartbeats 4000000 in
set_option maxRecDepth 100000 in
theorem c_X11_quarrel (l : Launch) {G : Gn} {M : Mem} {x1 : Int32} {x2 : Int32} {x3 : Int32} {x4 : Int32} {P : Int32 → Mem → Prop} : MQi l yX11_quarrel cX11_quarrel 7 (some .int) rm_X11_quarrel [.ref (ad G 0 0), .int x1, .int x2, .int x3, .int x4] G M (s_X11_quarrel M x1 x2 x3 x4 P) P := by
  refine m_enter (by decide +kernel) (Nat.le_of_ble_eq_true rfl) ?_
  intro p e s m below meth c ls H locs S hret hlocks hname hKX hbs hW hS hl h
  obtain ⟨AV, hAV⟩ : ∃ z : Array Value, z = ([.ref (ad G 0 0), .int x1, .int x2, .int x3, .int x4] : List Value).toArray := ⟨_, rfl⟩
  rw [← hAV] at S ⊢
  replace S : CallFix p m c cX11_quarrel 7 s AV lw_G "MilkDesk" := S
  have hK := hKX.1
  have hx := S.1
  have hb := S.2.1
  have hml := S.2.2.1
  have hown := S.2.2.2.1
  have hts := S.2.2.2.2
  replace hl : lv_has ls 7 [(0, .ref (ad G 0 0)), (1, .int x1), (2, .int x2), (3, .int x3), (4, .int x4)] := hl
  unfold s_X11_quarrel at h
  refine lv_aload_n hx hb dX11_quarrel_0 rfl (lv_at hl 0 rfl) ?_
  refine lv_iload_n hx hb dX11_quarrel_1 rfl (lv_at hl 1 rfl) ?_
  refine lv_iload_n hx hb dX11_quarrel_2 rfl (lv_at hl 2 rfl) ?_
  refine lv_iload_n hx hb dX11_quarrel_3 rfl (lv_at hl 3 rfl) ?_
  refine lv_iload hx hb dX11_quarrel_4 (lv_at hl 4 rfl) ?_
  refine m_ci0 (m_rV S hKX hW (m_szH hbs hS) (c_X11_isCase l ) h lk_X11_150 (m_recv hK hW (ci_0 (Nat.le_of_ble_eq_true rfl)) (rc_0 G) rfl) rfl hl.1 rfl ⟨Nat.le_of_ble_eq_true rfl, Nat.le_of_ble_eq_true rfl⟩ (Nat.le_of_ble_eq_true rfl) ⟨Nat.le_of_ble_eq_true rfl, Nat.le_of_ble_eq_true rfl⟩ dX11_quarrel_6) hS rfl rfl (fun rr6 Mm6 H locs h hW hS => ?_)
  refine lv_if_ne (tgt := 14) hx hb dX11_quarrel_9 (by decide) (fun c9 => ?_) (fun c9 => ?_)
  · replace h := h.1 c9
    refine lv_aload_n hx hb dX11_quarrel_14 rfl (lv_at hl 0 rfl) ?_
    refine m_getr S hK fk_X11_12 (gr_0_0 G 0) hW (ci_0 (Nat.le_of_ble_eq_true rfl)) dX11_quarrel_15 ?_
    refine lv_iconst hx hb dX11_quarrel_18 ki_1 ?_
    refine lv_iload_n hx hb dX11_quarrel_19 rfl (lv_at hl 1 rfl) ?_
    refine lv_iload_n hx hb dX11_quarrel_20 rfl (lv_at hl 2 rfl) ?_
    refine lv_iload_n hx hb dX11_quarrel_21 rfl (lv_at hl 3 rfl) ?_
    refine lv_iload hx hb dX11_quarrel_22 (lv_at hl 4 rfl) ?_
    refine m_ci0 (m_rV S hKX hW (m_szH hbs hS) (c_X10_firstThat l (Nat.le_of_ble_eq_true rfl)) h lk_X11_163 (m_recv hK hW (ci_1 (Nat.le_of_ble_eq_true rfl)) (rc_1 G) rfl) rfl hl.1 rfl ⟨Nat.le_of_ble_eq_true rfl, Nat.le_of_ble_eq_true rfl⟩ (Nat.le_of_ble_eq_true rfl) ⟨Nat.le_of_ble_eq_true rfl, Nat.le_of_ble_eq_true rfl⟩ dX11_quarrel_24) hS rfl rfl (fun rr24 Mm24 H locs h hW hS => ?_)
    refine lv_istore (lv' := [(5, .int rr24), (0, .ref (ad G 0 0)), (1, .int x1), (2, .int x2), (3, .int x3), (4, .int x4)]) hx hb dX11_quarrel_27 hl (by decide) rfl (fun ls hl => ?_)
    refine lv_aload_n hx hb dX11_quarrel_29 rfl (lv_at hl 1 rfl) ?_
    refine m_getr S hK fk_X11_12 (gr_0_0 G 0) hW (ci_0 (Nat.le_of_ble_eq_true rfl)) dX11_quarrel_30 ?_
    refine lv_iconst hx hb dX11_quarrel_33 ki_0 ?_
    refine lv_iload_n hx hb dX11_quarrel_34 rfl (lv_at hl 2 rfl) ?_
    refine lv_iload_n hx hb dX11_quarrel_35 rfl (lv_at hl 3 rfl) ?_
    refine lv_iload_n hx hb dX11_quarrel_36 rfl (lv_at hl 4 rfl) ?_
    refine lv_iload hx hb dX11_quarrel_37 (lv_at hl 5 rfl) ?_
    refine m_ci0 (m_rV S hKX hW (m_szH hbs hS) (c_X10_firstThat l (Nat.le_of_ble_eq_true rfl)) h lk_X11_163 (m_recv hK hW (ci_1 (Nat.le_of_ble_eq_true rfl)) (rc_1 G) rfl) rfl hl.1 rfl ⟨Nat.le_of_ble_eq_true rfl, Nat.le_of_ble_eq_true rfl⟩ (Nat.le_of_ble_eq_true rfl) ⟨Nat.le_of_ble_eq_true rfl, Nat.le_of_ble_eq_true rfl⟩ dX11_quarrel_39) hS rfl rfl (fun rr39 Mm39 H locs h hW hS => ?_)
    refine lv_istore (lv' := [(6, .int rr39), (5, .int rr24), (0, .ref (ad G 0 0)), (1, .int x1), (2, .int x2), (3, .int x3), (4, .int x4)]) hx hb dX11_quarrel_42 hl (by decide) rfl (fun ls hl => ?_)
    refine lv_iload hx hb dX11_quarrel_44 (lv_at hl 1 rfl) ?_
    refine lv_if_lt (tgt := 54) hx hb dX11_quarrel_46 (by decide) (fun c46 => ?_) (fun c46 => ?_)
    · replace h := h.1 c46
      refine lv_bipush hx hb dX11_quarrel_54 kb_m4 ?_
      refine lv_goto (tgt := 67) hx hb dX11_quarrel_56 (by decide) ?_
      exact m_iret S hret hlocks hKX hW hbs hS rfl h dX11_quarrel_67
    · replace h := h.2 c46
      refine lv_iload hx hb dX11_quarrel_49 (lv_at hl 0 rfl) ?_
      refine lv_if_ge (tgt := 59) hx hb dX11_quarrel_51 (by decide) (fun c51 => ?_) (fun c51 => ?_)
      · replace h := h.1 c51
        refine lv_bipush hx hb dX11_quarrel_59 kb_100 ?_
        refine lv_iload hx hb dX11_quarrel_61 (lv_at hl 1 rfl) ?_
        refine lv_imul hx hb dX11_quarrel_63 ?_
        refine lv_iload hx hb dX11_quarrel_64 (lv_at hl 0 rfl) ?_
        refine lv_iadd hx hb dX11_quarrel_66 ?_
        exact m_iret S hret hlocks hKX hW hbs hS rfl h dX11_quarrel_67
      · replace h := h.2 c51
        refine lv_bipush hx hb dX11_quarrel_54 kb_m4 ?_
        refine lv_goto (tgt := 67) hx hb dX11_quarrel_56 (by decide) ?_
        exact m_iret S hret hlocks hKX hW hbs hS rfl h dX11_quarrel_67
  · replace h := h.2 c9
    refine lv_iconst hx hb dX11_quarrel_12 ki_m1 ?_
    exact m_iret S hret hlocks hKX hW hbs hS rfl h dX11_quarrel_13
abbrev rm_X11_go : Room := { frames := 7, cells := 0, slots := 0, locals := 177 }
set_option maxHeartbeats 4000000 in
set_option maxRecDepth 100000 in
theorem c_X11_go (l : Launch) {G : Gn} {M : Mem} {x1 : Int32} {P : Int32 → Mem → Prop} : MQi l yX11_go cX11_go 2 (some .int) rm_X11_go [.ref (ad G 0 0), .int x1] G M (s_X11_go M x1 P) P := by
  refine m_enter (by decide +kernel) (Nat.le_of_ble_eq_true rfl) ?_
  intro p e s m below meth c ls H locs S hret hlocks hname hKX hbs hW hS hl h
  obtain ⟨AV, hAV⟩ : ∃ z : Array Value, z = ([.ref (ad G 0 0), .int x1] : List Value).toArray := ⟨_, rfl⟩
  rw [← hAV] at S ⊢
  replace S : CallFix p m c cX11_go 2 s AV lw_G "MilkDesk" := S
  have hK := hKX.1
  have hx := S.1
  have hb := S.2.1
  have hml := S.2.2.1
  have hown := S.2.2.2.1
  have hts := S.2.2.2.2
  replace hl : lv_has ls 2 [(0, .ref (ad G 0 0)), (1, .int x1)] := hl
  unfold s_X11_go at h
  refine lv_iload_n hx hb dX11_go_0 rfl (lv_at hl 1 rfl) ?_
  refine lv_iconst hx hb dX11_go_1 ki_1 ?_
  refine lv_bipush hx hb dX11_go_2 kb_60 ?_
  refine m_ci0 (m_rS S hKX hW (m_szH hbs hS) (c_X11_within l ) h lk_X11_43 rfl hl.1 rfl ⟨Nat.le_of_ble_eq_true rfl, Nat.le_of_ble_eq_true rfl⟩ (Nat.le_of_ble_eq_true rfl) ⟨Nat.le_of_ble_eq_true rfl, Nat.le_of_ble_eq_true rfl⟩ dX11_go_4) hS rfl rfl (fun rr4 Mm4 H locs h hW hS => ?_)
  refine lv_if_ne (tgt := 12) hx hb dX11_go_7 (by decide) (fun c7 => ?_) (fun c7 => ?_)
  · replace h := h.1 c7
    refine lv_aload_n hx hb dX11_go_12 rfl (lv_at hl 0 rfl) ?_
    refine m_getr S hK fk_X11_12 (gr_0_0 G 0) hW (ci_0 (Nat.le_of_ble_eq_true rfl)) dX11_go_13 ?_
    refine m_geti S hK fk_X11_115 (gi_1_0 G) hW (ci_1 (Nat.le_of_ble_eq_true rfl)) dX11_go_16 ?_
    refine lv_iload_n hx hb dX11_go_19 rfl (lv_at hl 1 rfl) ?_
    refine lv_iadd hx hb dX11_go_20 ?_
    refine lv_sipush hx hb dX11_go_21 ks_400 ?_
    refine lv_icmp_le (tgt := 30) hx hb dX11_go_24 (by decide) (fun c24 => ?_) (fun c24 => ?_)
    · replace h := h.1 c24
      refine lv_aload_n hx hb dX11_go_30 rfl (lv_at hl 0 rfl) ?_
      refine m_getr S hK fk_X11_12 (gr_0_0 G 0) hW (ci_0 (Nat.le_of_ble_eq_true rfl)) dX11_go_31 ?_
      refine lv_iload_n hx hb dX11_go_34 rfl (lv_at hl 1 rfl) ?_
      refine lv_iconst hx hb dX11_go_35 ki_m1 ?_
      refine m_cv0 (m_rV S hKX hW (m_szH hbs hS) (c_X10_passDays l (Nat.le_of_ble_eq_true rfl)) h lk_X11_167 (m_recv hK hW (ci_1 (Nat.le_of_ble_eq_true rfl)) (rc_1 G) rfl) rfl hl.1 rfl ⟨Nat.le_of_ble_eq_true rfl, Nat.le_of_ble_eq_true rfl⟩ (Nat.le_of_ble_eq_true rfl) ⟨Nat.le_of_ble_eq_true rfl, Nat.le_of_ble_eq_true rfl⟩ dX11_go_36) hS rfl rfl (fun Mm36 H locs h hW hS => ?_)
      refine lv_aload_n hx hb dX11_go_39 rfl (lv_at hl 0 rfl) ?_
      refine m_getr S hK fk_X11_12 (gr_0_0 G 0) hW (ci_0 (Nat.le_of_ble_eq_true rfl)) dX11_go_40 ?_
      refine m_geti S hK fk_X11_115 (gi_1_0 G) hW (ci_1 (Nat.le_of_ble_eq_true rfl)) dX11_go_43 ?_
      exact m_iret S hret hlocks hKX hW hbs hS rfl h dX11_go_46
    · replace h := h.2 c24
      refine lv_bipush hx hb dX11_go_27 kb_m2 ?_
      exact m_iret S hret hlocks hKX hW hbs hS rfl h dX11_go_29
  · replace h := h.2 c7
    refine lv_iconst hx hb dX11_go_10 ki_m1 ?_
    exact m_iret S hret hlocks hKX hW hbs hS rfl h dX11_go_11
abbrev rm_X11_of : Room := { frames := 1, cells := 0, slots := 0, locals := 22 }
set_option maxHeartbeats 4000000 in
set_option maxRecDepth 100000 in
theorem c_X11_of (l : Launch) {G : Gn} {M : Mem} {x1 : Int32} {x2 : Int32} {P : Int32 → Mem → Prop} : MQi l yX11_of cX11_of 3 (some .int) rm_X11_of [.ref (ad G 0 0), .int x1, .int x2] G M (s_X11_of M x1 x2 P) P := by
  refine m_enter (by decide +kernel) (Nat.le_of_ble_eq_true rfl) ?_
  intro p e s m below meth c ls H locs S hret hlocks hname hKX hbs hW hS hl h
  obtain ⟨AV, hAV⟩ : ∃ z : Array Value, z = ([.ref (ad G 0 0), .int x1, .int x2] : List Value).toArray := ⟨_, rfl⟩
  rw [← hAV] at S ⊢
  replace S : CallFix p m c cX11_of 3 s AV lw_G "MilkDesk" := S
  have hK := hKX.1
  have hx := S.1
  have hb := S.2.1
  have hml := S.2.2.1
  have hown := S.2.2.2.1
  have hts := S.2.2.2.2
  replace hl : lv_has ls 3 [(0, .ref (ad G 0 0)), (1, .int x1), (2, .int x2)] := hl
  unfold s_X11_of at h
  refine lv_aload_n hx hb dX11_of_0 rfl (lv_at hl 0 rfl) ?_
  refine m_getr S hK fk_X11_12 (gr_0_0 G 0) hW (ci_0 (Nat.le_of_ble_eq_true rfl)) dX11_of_1 ?_
  refine m_getr S hK fk_X11_47 (gr_1_1 G 0) hW (ci_1 (Nat.le_of_ble_eq_true rfl)) dX11_of_4 ?_
  refine lv_iload_n hx hb dX11_of_7 rfl (lv_at hl 1 rfl) ?_
  refine m_ci0 (m_rV S hKX hW (m_szH hbs hS) (c_X8_has l (Nat.le_of_ble_eq_true rfl)) h lk_X11_61 (m_recv hK hW (ci_2 (Nat.le_of_ble_eq_true rfl)) (rc_2 G) rfl) rfl hl.1 rfl ⟨Nat.le_of_ble_eq_true rfl, Nat.le_of_ble_eq_true rfl⟩ (Nat.le_of_ble_eq_true rfl) ⟨Nat.le_of_ble_eq_true rfl, Nat.le_of_ble_eq_true rfl⟩ dX11_of_8) hS rfl rfl (fun rr8 Mm8 H locs h hW hS => ?_)
  refine lv_if_eq (tgt := 24) hx hb dX11_of_11 (by decide) (fun c11 => ?_) (fun c11 => ?_)
  · replace h := h.1 c11
    refine lv_iconst hx hb dX11_of_24 ki_m1 ?_
    exact m_iret S hret hlocks hKX hW hbs hS rfl h dX11_of_25
  · replace h := h.2 c11
    refine lv_iload_n hx hb dX11_of_14 rfl (lv_at hl 2 rfl) ?_
    refine lv_iconst hx hb dX11_of_15 ki_0 ?_
    refine lv_bipush hx hb dX11_of_16 kb_10 ?_
    refine m_ci0 (m_rS S hKX hW (m_szH hbs hS) (c_X11_within l ) h lk_X11_43 rfl hl.1 rfl ⟨Nat.le_of_ble_eq_true rfl, Nat.le_of_ble_eq_true rfl⟩ (Nat.le_of_ble_eq_true rfl) ⟨Nat.le_of_ble_eq_true rfl, Nat.le_of_ble_eq_true rfl⟩ dX11_of_18) hS rfl rfl (fun rr18 Mm18 H locs h hW hS => ?_)
    refine lv_if_ne (tgt := 26) hx hb dX11_of_21 (by decide) (fun c21 => ?_) (fun c21 => ?_)
    · replace h := h.1 c21
      refine lv_aload_n hx hb dX11_of_26 rfl (lv_at hl 0 rfl) ?_
      refine m_getr S hK fk_X11_12 (gr_0_0 G 0) hW (ci_0 (Nat.le_of_ble_eq_true rfl)) dX11_of_27 ?_
      refine m_getr S hK fk_X11_47 (gr_1_1 G 0) hW (ci_1 (Nat.le_of_ble_eq_true rfl)) dX11_of_30 ?_
      refine m_getr S hK fk_X11_171 (gr_2_7 G 0) hW (ci_2 (Nat.le_of_ble_eq_true rfl)) dX11_of_33 ?_
      refine lv_iload_n hx hb dX11_of_36 rfl (lv_at hl 1 rfl) ?_
      refine lv_bipush hx hb dX11_of_37 kb_11 ?_
      refine lv_imul hx hb dX11_of_39 ?_
      refine lv_iload_n hx hb dX11_of_40 rfl (lv_at hl 2 rfl) ?_
      refine lv_iadd hx hb dX11_of_41 ?_
      obtain ⟨hb42, h⟩ := h
      refine m_ald S hK (ar_21 G) hW (ci_21 (Nat.le_of_ble_eq_true rfl)) hb42 dX11_of_42 ?_
      exact m_iret S hret hlocks hKX hW hbs hS rfl h dX11_of_43
    · replace h := h.2 c21
      refine lv_iconst hx hb dX11_of_24 ki_m1 ?_
      exact m_iret S hret hlocks hKX hW hbs hS rfl h dX11_of_25
abbrev rm_X11_order : Room := { frames := 4, cells := 0, slots := 0, locals := 99 }
set_option maxHeartbeats 4000000 in
set_option maxRecDepth 100000 in
theorem c_X11_order (l : Launch) {G : Gn} {M : Mem} {x1 : Int32} {P : Int32 → Mem → Prop} : MQi l yX11_order cX11_order 2 (some .int) rm_X11_order [.ref (ad G 0 0), .int x1] G M (s_X11_order M x1 P) P := by
  refine m_enter (by decide +kernel) (Nat.le_of_ble_eq_true rfl) ?_
  intro p e s m below meth c ls H locs S hret hlocks hname hKX hbs hW hS hl h
  obtain ⟨AV, hAV⟩ : ∃ z : Array Value, z = ([.ref (ad G 0 0), .int x1] : List Value).toArray := ⟨_, rfl⟩
  rw [← hAV] at S ⊢
  replace S : CallFix p m c cX11_order 2 s AV lw_G "MilkDesk" := S
  have hK := hKX.1
  have hx := S.1
  have hb := S.2.1
  have hml := S.2.2.1
  have hown := S.2.2.2.1
  have hts := S.2.2.2.2
  replace hl : lv_has ls 2 [(0, .ref (ad G 0 0)), (1, .int x1)] := hl
  unfold s_X11_order at h
  refine lv_aload_n hx hb dX11_order_0 rfl (lv_at hl 0 rfl) ?_
  refine m_getr S hK fk_X11_12 (gr_0_0 G 0) hW (ci_0 (Nat.le_of_ble_eq_true rfl)) dX11_order_1 ?_
  refine m_getr S hK fk_X11_47 (gr_1_1 G 0) hW (ci_1 (Nat.le_of_ble_eq_true rfl)) dX11_order_4 ?_
  refine lv_iload_n hx hb dX11_order_7 rfl (lv_at hl 1 rfl) ?_
  refine m_ci0 (m_rV S hKX hW (m_szH hbs hS) (c_X8_has l (Nat.le_of_ble_eq_true rfl)) h lk_X11_61 (m_recv hK hW (ci_2 (Nat.le_of_ble_eq_true rfl)) (rc_2 G) rfl) rfl hl.1 rfl ⟨Nat.le_of_ble_eq_true rfl, Nat.le_of_ble_eq_true rfl⟩ (Nat.le_of_ble_eq_true rfl) ⟨Nat.le_of_ble_eq_true rfl, Nat.le_of_ble_eq_true rfl⟩ dX11_order_8) hS rfl rfl (fun rr8 Mm8 H locs h hW hS => ?_)
  refine lv_if_eq (tgt := 33) hx hb dX11_order_11 (by decide) (fun c11 => ?_) (fun c11 => ?_)
  · replace h := h.1 c11
    refine lv_iconst hx hb dX11_order_33 ki_m1 ?_
    exact m_iret S hret hlocks hKX hW hbs hS rfl h dX11_order_34
  · replace h := h.2 c11
    refine lv_aload_n hx hb dX11_order_14 rfl (lv_at hl 0 rfl) ?_
    refine m_getr S hK fk_X11_12 (gr_0_0 G 0) hW (ci_0 (Nat.le_of_ble_eq_true rfl)) dX11_order_15 ?_
    refine lv_iload_n hx hb dX11_order_18 rfl (lv_at hl 1 rfl) ?_
    refine lv_aload_n hx hb dX11_order_19 rfl (lv_at hl 0 rfl) ?_
    refine m_getr S hK fk_X11_12 (gr_0_0 G 0) hW (ci_0 (Nat.le_of_ble_eq_true rfl)) dX11_order_20 ?_
    refine m_geti S hK fk_X11_115 (gi_1_0 G) hW (ci_1 (Nat.le_of_ble_eq_true rfl)) dX11_order_23 ?_
    refine lv_iconst hx hb dX11_order_26 ki_m1 ?_
    refine m_ci0 (m_rV S hKX hW (m_szH hbs hS) (c_X10_ordered l (Nat.le_of_ble_eq_true rfl)) h lk_X11_174 (m_recv hK hW (ci_1 (Nat.le_of_ble_eq_true rfl)) (rc_1 G) rfl) rfl hl.1 rfl ⟨Nat.le_of_ble_eq_true rfl, Nat.le_of_ble_eq_true rfl⟩ (Nat.le_of_ble_eq_true rfl) ⟨Nat.le_of_ble_eq_true rfl, Nat.le_of_ble_eq_true rfl⟩ dX11_order_27) hS rfl rfl (fun rr27 Mm27 H locs h hW hS => ?_)
    refine lv_goto (tgt := 34) hx hb dX11_order_30 (by decide) ?_
    exact m_iret S hret hlocks hKX hW hbs hS rfl h dX11_order_34
abbrev rm_X11_look : Room := { frames := 1, cells := 0, slots := 0, locals := 23 }
set_option maxHeartbeats 4000000 in
set_option maxRecDepth 100000 in
theorem c_X11_look (l : Launch) {G : Gn} {M : Mem} {x1 : Int32} {x2 : Int32} {x3 : Int32} {P : Int32 → Mem → Prop} : MQi l yX11_look cX11_look 4 (some .int) rm_X11_look [.ref (ad G 0 0), .int x1, .int x2, .int x3] G M (s_X11_look M x1 x2 x3 P) P := by
  refine m_enter (by decide +kernel) (Nat.le_of_ble_eq_true rfl) ?_
  intro p e s m below meth c ls H locs S hret hlocks hname hKX hbs hW hS hl h
  obtain ⟨AV, hAV⟩ : ∃ z : Array Value, z = ([.ref (ad G 0 0), .int x1, .int x2, .int x3] : List Value).toArray := ⟨_, rfl⟩
  rw [← hAV] at S ⊢
  replace S : CallFix p m c cX11_look 4 s AV lw_G "MilkDesk" := S
  have hK := hKX.1
  have hx := S.1
  have hb := S.2.1
  have hml := S.2.2.1
  have hown := S.2.2.2.1
  have hts := S.2.2.2.2
  replace hl : lv_has ls 4 [(0, .ref (ad G 0 0)), (1, .int x1), (2, .int x2), (3, .int x3)] := hl
  unfold s_X11_look at h
  refine lv_aload_n hx hb dX11_look_0 rfl (lv_at hl 0 rfl) ?_
  refine m_getr S hK fk_X11_12 (gr_0_0 G 0) hW (ci_0 (Nat.le_of_ble_eq_true rfl)) dX11_look_1 ?_
  refine m_getr S hK fk_X11_47 (gr_1_1 G 0) hW (ci_1 (Nat.le_of_ble_eq_true rfl)) dX11_look_4 ?_
  refine lv_iload_n hx hb dX11_look_7 rfl (lv_at hl 1 rfl) ?_
  refine m_ci0 (m_rV S hKX hW (m_szH hbs hS) (c_X8_has l (Nat.le_of_ble_eq_true rfl)) h lk_X11_61 (m_recv hK hW (ci_2 (Nat.le_of_ble_eq_true rfl)) (rc_2 G) rfl) rfl hl.1 rfl ⟨Nat.le_of_ble_eq_true rfl, Nat.le_of_ble_eq_true rfl⟩ (Nat.le_of_ble_eq_true rfl) ⟨Nat.le_of_ble_eq_true rfl, Nat.le_of_ble_eq_true rfl⟩ dX11_look_8) hS rfl rfl (fun rr8 Mm8 H locs h hW hS => ?_)
  refine lv_if_eq (tgt := 42) hx hb dX11_look_11 (by decide) (fun c11 => ?_) (fun c11 => ?_)
  · replace h := h.1 c11
    refine lv_iconst hx hb dX11_look_42 ki_m1 ?_
    exact m_iret S hret hlocks hKX hW hbs hS rfl h dX11_look_43
  · replace h := h.2 c11
    refine lv_iload_n hx hb dX11_look_14 rfl (lv_at hl 2 rfl) ?_
    refine lv_iconst hx hb dX11_look_15 ki_0 ?_
    refine lv_aload_n hx hb dX11_look_16 rfl (lv_at hl 0 rfl) ?_
    refine m_getr S hK fk_X11_12 (gr_0_0 G 0) hW (ci_0 (Nat.le_of_ble_eq_true rfl)) dX11_look_17 ?_
    refine m_geti S hK fk_X11_115 (gi_1_0 G) hW (ci_1 (Nat.le_of_ble_eq_true rfl)) dX11_look_20 ?_
    refine lv_iconst hx hb dX11_look_23 ki_1 ?_
    refine lv_isub hx hb dX11_look_24 ?_
    refine m_ci0 (m_rS S hKX hW (m_szH hbs hS) (c_X11_within l ) h lk_X11_43 rfl hl.1 rfl ⟨Nat.le_of_ble_eq_true rfl, Nat.le_of_ble_eq_true rfl⟩ (Nat.le_of_ble_eq_true rfl) ⟨Nat.le_of_ble_eq_true rfl, Nat.le_of_ble_eq_true rfl⟩ dX11_look_25) hS rfl rfl (fun rr25 Mm25 H locs h hW hS => ?_)
    refine lv_if_eq (tgt := 42) hx hb dX11_look_28 (by decide) (fun c28 => ?_) (fun c28 => ?_)
    · replace h := h.1 c28
      refine lv_iconst hx hb dX11_look_42 ki_m1 ?_
      exact m_iret S hret hlocks hKX hW hbs hS rfl h dX11_look_43
    · replace h := h.2 c28
      refine lv_iload_n hx hb dX11_look_31 rfl (lv_at hl 3 rfl) ?_
      refine lv_iconst hx hb dX11_look_32 ki_0 ?_
      refine lv_sipush hx hb dX11_look_33 ks_999 ?_
      refine m_ci0 (m_rS S hKX hW (m_szH hbs hS) (c_X11_within l ) h lk_X11_43 rfl hl.1 rfl ⟨Nat.le_of_ble_eq_true rfl, Nat.le_of_ble_eq_true rfl⟩ (Nat.le_of_ble_eq_true rfl) ⟨Nat.le_of_ble_eq_true rfl, Nat.le_of_ble_eq_true rfl⟩ dX11_look_36) hS rfl rfl (fun rr36 Mm36 H locs h hW hS => ?_)
      refine lv_if_ne (tgt := 44) hx hb dX11_look_39 (by decide) (fun c39 => ?_) (fun c39 => ?_)
      · replace h := h.1 c39
        refine lv_aload_n hx hb dX11_look_44 rfl (lv_at hl 0 rfl) ?_
        refine m_getr S hK fk_X11_12 (gr_0_0 G 0) hW (ci_0 (Nat.le_of_ble_eq_true rfl)) dX11_look_45 ?_
        refine m_getr S hK fk_X11_177 (gr_1_5 G 0) hW (ci_1 (Nat.le_of_ble_eq_true rfl)) dX11_look_48 ?_
        refine m_geti S hK fk_X11_181 (gi_6_0 G) hW (ci_6 (Nat.le_of_ble_eq_true rfl)) dX11_look_51 ?_
        refine lv_bipush hx hb dX11_look_54 kb_30 ?_
        refine lv_icmp_lt (tgt := 62) hx hb dX11_look_56 (by decide) (fun c56 => ?_) (fun c56 => ?_)
        · replace h := h.1 c56
          refine lv_aload_n hx hb dX11_look_62 rfl (lv_at hl 0 rfl) ?_
          refine m_getr S hK fk_X11_12 (gr_0_0 G 0) hW (ci_0 (Nat.le_of_ble_eq_true rfl)) dX11_look_63 ?_
          refine m_getr S hK fk_X11_177 (gr_1_5 G 0) hW (ci_1 (Nat.le_of_ble_eq_true rfl)) dX11_look_66 ?_
          refine lv_iload_n hx hb dX11_look_69 rfl (lv_at hl 1 rfl) ?_
          refine lv_iload_n hx hb dX11_look_70 rfl (lv_at hl 2 rfl) ?_
          refine lv_iload_n hx hb dX11_look_71 rfl (lv_at hl 3 rfl) ?_
          refine m_ci0 (m_rV S hKX hW (m_szH hbs hS) (c_X6_draw l (Nat.le_of_ble_eq_true rfl)) h lk_X11_184 (m_recv hK hW (ci_6 (Nat.le_of_ble_eq_true rfl)) (rc_6 G) rfl) rfl hl.1 rfl ⟨Nat.le_of_ble_eq_true rfl, Nat.le_of_ble_eq_true rfl⟩ (Nat.le_of_ble_eq_true rfl) ⟨Nat.le_of_ble_eq_true rfl, Nat.le_of_ble_eq_true rfl⟩ dX11_look_72) hS rfl rfl (fun rr72 Mm72 H locs h hW hS => ?_)
          exact m_iret S hret hlocks hKX hW hbs hS rfl h dX11_look_75
        · replace h := h.2 c56
          refine lv_bipush hx hb dX11_look_59 kb_m2 ?_
          exact m_iret S hret hlocks hKX hW hbs hS rfl h dX11_look_61
      · replace h := h.2 c39
        refine lv_iconst hx hb dX11_look_42 ki_m1 ?_
        exact m_iret S hret hlocks hKX hW hbs hS rfl h dX11_look_43
abbrev rm_X11_byHowMuch : Room := { frames := 3, cells := 0, slots := 0, locals := 70 }
set_option maxHeartbeats 4000000 in
set_option maxRecDepth 100000 in
theorem c_X11_byHowMuch (l : Launch) {G : Gn} {M : Mem} {x1 : Int32} {x2 : Int32} {P : Int32 → Mem → Prop} : MQi l yX11_byHowMuch cX11_byHowMuch 9 (some .int) rm_X11_byHowMuch [.ref (ad G 0 0), .int x1, .int x2] G M (s_X11_byHowMuch M x1 x2 P) P := by
  refine m_enter (by decide +kernel) (Nat.le_of_ble_eq_true rfl) ?_
  intro p e s m below meth c ls H locs S hret hlocks hname hKX hbs hW hS hl h
  obtain ⟨AV, hAV⟩ : ∃ z : Array Value, z = ([.ref (ad G 0 0), .int x1, .int x2] : List Value).toArray := ⟨_, rfl⟩
  rw [← hAV] at S ⊢
  replace S : CallFix p m c cX11_byHowMuch 9 s AV lw_G "MilkDesk" := S
  have hK := hKX.1
  have hx := S.1
  have hb := S.2.1
  have hml := S.2.2.1
  have hown := S.2.2.2.1
  have hts := S.2.2.2.2
  replace hl : lv_has ls 9 [(0, .ref (ad G 0 0)), (1, .int x1), (2, .int x2)] := hl
  have w35 : ∀ (n : Nat) (a : Mem × Int32 × Int32 × Int32 × Int32 × Int32), Lz (fun (K35 : Mem × Int32 × Int32 × Int32 × Int32 × Int32 → Prop) (a : Mem × Int32 × Int32 × Int32 × Int32 × Int32) => s_X11_byHowMuch_35 x1 x2 P K35 a.1 a.2.1 a.2.2.1 a.2.2.2.1 a.2.2.2.2.1 a.2.2.2.2.2) n a → ∀ (H : Heap) (locs : List Loc) (ls : Array Slot), WPm G a.1 H → va_S (fun q => bs G ≤ q) s.heap H locs → lv_has ls 9 [(0, .ref (ad G 0 0)), (1, .int x1), (2, .int x2), (3, .int a.2.1), (4, .int a.2.2.1), (5, .int a.2.2.2.1), (6, .int a.2.2.2.2.1), (7, .int a.2.2.2.2.2)] → W p l e rm_X11_byHowMuch s m AV below meth c H locs 0 0 (MQ below (va_Qi P (WS G) (fun q => bs G ≤ q)) AV s 0 0 (fun q => bs G ≤ q)) (F0 m 35 ls []) := by
    refine Lz_walk ?_
    rintro K35 kk35 ⟨M, x3, x4, x5, x6, x7⟩ h H locs ls hW hS hl
    replace h : s_X11_byHowMuch_35 x1 x2 P K35 M x3 x4 x5 x6 x7 := h
    replace hW : WPm G M H := hW
    replace hl : lv_has ls 9 [(0, .ref (ad G 0 0)), (1, .int x1), (2, .int x2), (3, .int x3), (4, .int x4), (5, .int x5), (6, .int x6), (7, .int x7)] := hl
    have b133 : ∀ (M : Mem) (x3 : Int32) (x4 : Int32) (x5 : Int32) (x7 : Int32) (y0 : Int32) (H : Heap) (locs : List Loc) (ls : Array Slot), WPm G M H → va_S (fun q => bs G ≤ q) s.heap H locs → lv_has ls 9 [(0, .ref (ad G 0 0)), (1, .int x1), (2, .int x2), (3, .int x3), (4, .int x4), (5, .int x5), (7, .int x7)] → s_X11_byHowMuch_133 x1 x2 P K35 M x3 x4 x5 x7 y0 → W p l e rm_X11_byHowMuch s m AV below meth c H locs 0 0 (MQ below (va_Qi P (WS G) (fun q => bs G ≤ q)) AV s 0 0 (fun q => bs G ≤ q)) (F0 m 133 ls [.int y0]) := by
      intro M x3 x4 x5 x7 y0 H locs ls hW hS hl h
      unfold s_X11_byHowMuch_133 at h
      refine lv_istore (lv' := [(6, .int y0), (0, .ref (ad G 0 0)), (1, .int x1), (2, .int x2), (3, .int x3), (4, .int x4), (5, .int x5), (7, .int x7)]) hx hb dX11_byHowMuch_133 hl (by decide) rfl (fun ls hl => ?_)
      obtain ⟨x3_135, ex3_135⟩ : ∃ z : Int32, z = x3 + (1 : Int32) := ⟨_, rfl⟩
      replace h := h x3_135 ex3_135
      refine lv_iinc (v := x3_135) (lv' := [(3, .int x3_135), (6, .int y0), (0, .ref (ad G 0 0)), (1, .int x1), (2, .int x2), (4, .int x4), (5, .int x5), (7, .int x7)]) hx hb dX11_byHowMuch_135 hl (k := 4) rfl (by rw [ex3_135, ki_1]) (by decide) rfl (fun ls hl => ?_)
      obtain ⟨x7_138, ex7_138⟩ : ∃ z : Int32, z = x7 + (1 : Int32) := ⟨_, rfl⟩
      replace h := h x7_138 ex7_138
      refine lv_iinc (v := x7_138) (lv' := [(7, .int x7_138), (3, .int x3_135), (6, .int y0), (0, .ref (ad G 0 0)), (1, .int x1), (2, .int x2), (4, .int x4), (5, .int x5)]) hx hb dX11_byHowMuch_138 hl (k := 7) rfl (by rw [ex7_138, ki_1]) (by decide) rfl (fun ls hl => ?_)
      refine lv_goto (tgt := 35) hx hb dX11_byHowMuch_141 (by decide) ?_
      exact kk35 _ h H locs ls hW hS (lv_sub hl [3, 4, 5, 1, 6, 7, 2, 0] rfl)
    have b115 : ∀ (M : Mem) (x3 : Int32) (x4 : Int32) (x6 : Int32) (x7 : Int32) (x8 : Int32) (y0 : Int32) (H : Heap) (locs : List Loc) (ls : Array Slot), WPm G M H → va_S (fun q => bs G ≤ q) s.heap H locs → lv_has ls 9 [(0, .ref (ad G 0 0)), (1, .int x1), (2, .int x2), (3, .int x3), (4, .int x4), (6, .int x6), (7, .int x7), (8, .int x8)] → s_X11_byHowMuch_115 x1 x2 P K35 M x3 x4 x6 x7 x8 y0 → W p l e rm_X11_byHowMuch s m AV below meth c H locs 0 0 (MQ below (va_Qi P (WS G) (fun q => bs G ≤ q)) AV s 0 0 (fun q => bs G ≤ q)) (F0 m 115 ls [.int y0]) := by
      intro M x3 x4 x6 x7 x8 y0 H locs ls hW hS hl h
      unfold s_X11_byHowMuch_115 at h
      refine lv_istore (lv' := [(5, .int y0), (0, .ref (ad G 0 0)), (1, .int x1), (2, .int x2), (3, .int x3), (4, .int x4), (6, .int x6), (7, .int x7), (8, .int x8)]) hx hb dX11_byHowMuch_115 hl (by decide) rfl (fun ls hl => ?_)
      refine lv_iload_n hx hb dX11_byHowMuch_117 rfl (lv_at hl 4 rfl) ?_
      refine lv_if_ne (tgt := 126) hx hb dX11_byHowMuch_118 (by decide) (fun c118 => ?_) (fun c118 => ?_)
      · replace h := h.1 c118
        refine lv_iload hx hb dX11_byHowMuch_126 (lv_at hl 6 rfl) ?_
        refine lv_iload hx hb dX11_byHowMuch_128 (lv_at hl 8 rfl) ?_
        refine va_mmax hx hb (hml.trans hl.1.symm) hown (hts _ mw_819) (hts _ mw_476) (hts _ mw_13) (hts _ mw_477) (Nat.le_of_ble_eq_true rfl) (Nat.le_of_ble_eq_true rfl) (Nat.zero_le _) (Nat.zero_le _) dX11_byHowMuch_130 ?_
        exact b133 _ _ _ _ _ _ H locs ls hW hS (lv_sub hl [1, 2, 3, 4, 5, 0, 7] rfl) h
      · replace h := h.2 c118
        refine lv_iload hx hb dX11_byHowMuch_121 (lv_at hl 8 rfl) ?_
        refine lv_goto (tgt := 133) hx hb dX11_byHowMuch_123 (by decide) ?_
        exact b133 _ _ _ _ _ _ H locs ls hW hS (lv_sub hl [1, 2, 3, 4, 5, 0, 7] rfl) h
    unfold s_X11_byHowMuch_35 at h
    refine lv_iload hx hb dX11_byHowMuch_35 (lv_at hl 7 rfl) ?_
    refine lv_aload_n hx hb dX11_byHowMuch_37 rfl (lv_at hl 0 rfl) ?_
    refine m_getr S hK fk_X11_12 (gr_0_0 G 0) hW (ci_0 (Nat.le_of_ble_eq_true rfl)) dX11_byHowMuch_38 ?_
    refine m_getr S hK fk_X11_177 (gr_1_5 G 0) hW (ci_1 (Nat.le_of_ble_eq_true rfl)) dX11_byHowMuch_41 ?_
    refine m_geti S hK fk_X11_181 (gi_6_0 G) hW (ci_6 (Nat.le_of_ble_eq_true rfl)) dX11_byHowMuch_44 ?_
    refine lv_icmp_ge (tgt := 144) hx hb dX11_byHowMuch_47 (by decide) (fun c47 => ?_) (fun c47 => ?_)
    · replace h := h.1 c47
      refine lv_iload_n hx hb dX11_byHowMuch_144 rfl (lv_at hl 3 rfl) ?_
      refine lv_if_ne (tgt := 151) hx hb dX11_byHowMuch_145 (by decide) (fun c145 => ?_) (fun c145 => ?_)
      · replace h := h.1 c145
        refine lv_iload_n hx hb dX11_byHowMuch_151 rfl (lv_at hl 2 rfl) ?_
        refine lv_if_ne (tgt := 160) hx hb dX11_byHowMuch_152 (by decide) (fun c152 => ?_) (fun c152 => ?_)
        · replace h := h.1 c152
          refine lv_iload_n hx hb dX11_byHowMuch_160 rfl (lv_at hl 2 rfl) ?_
          refine lv_iconst hx hb dX11_byHowMuch_161 ki_1 ?_
          refine lv_icmp_ne (tgt := 170) hx hb dX11_byHowMuch_162 (by decide) (fun c162 => ?_) (fun c162 => ?_)
          · replace h := h.1 c162
            refine lv_iload hx hb dX11_byHowMuch_170 (lv_at hl 6 rfl) ?_
            exact m_iret S hret hlocks hKX hW hbs hS rfl h dX11_byHowMuch_172
          · replace h := h.2 c162
            refine lv_iload hx hb dX11_byHowMuch_165 (lv_at hl 5 rfl) ?_
            refine lv_goto (tgt := 172) hx hb dX11_byHowMuch_167 (by decide) ?_
            exact m_iret S hret hlocks hKX hW hbs hS rfl h dX11_byHowMuch_172
        · replace h := h.2 c152
          refine lv_iload hx hb dX11_byHowMuch_155 (lv_at hl 4 rfl) ?_
          refine lv_goto (tgt := 172) hx hb dX11_byHowMuch_157 (by decide) ?_
          exact m_iret S hret hlocks hKX hW hbs hS rfl h dX11_byHowMuch_172
      · replace h := h.2 c145
        refine lv_ldc hx hb hown (hts _ mw_820) dX11_byHowMuch_148 ?_
        exact m_iret S hret hlocks hKX hW hbs hS rfl h dX11_byHowMuch_150
    · replace h := h.2 c47
      refine lv_aload_n hx hb dX11_byHowMuch_50 rfl (lv_at hl 0 rfl) ?_
      refine m_getr S hK fk_X11_12 (gr_0_0 G 0) hW (ci_0 (Nat.le_of_ble_eq_true rfl)) dX11_byHowMuch_51 ?_
      refine m_getr S hK fk_X11_47 (gr_1_1 G 0) hW (ci_1 (Nat.le_of_ble_eq_true rfl)) dX11_byHowMuch_54 ?_
      refine m_getr S hK fk_X11_154 (gr_2_1 G 0) hW (ci_2 (Nat.le_of_ble_eq_true rfl)) dX11_byHowMuch_57 ?_
      refine lv_aload_n hx hb dX11_byHowMuch_60 rfl (lv_at hl 0 rfl) ?_
      refine m_getr S hK fk_X11_12 (gr_0_0 G 0) hW (ci_0 (Nat.le_of_ble_eq_true rfl)) dX11_byHowMuch_61 ?_
      refine m_getr S hK fk_X11_177 (gr_1_5 G 0) hW (ci_1 (Nat.le_of_ble_eq_true rfl)) dX11_byHowMuch_64 ?_
      refine m_getr S hK fk_X11_188 (gr_6_1 G 0) hW (ci_6 (Nat.le_of_ble_eq_true rfl)) dX11_byHowMuch_67 ?_
      refine lv_iload hx hb dX11_byHowMuch_70 (lv_at hl 7 rfl) ?_
      obtain ⟨hb72, h⟩ := h
      refine m_ald S hK (ar_36 G) hW (ci_36 (Nat.le_of_ble_eq_true rfl)) hb72 dX11_byHowMuch_72 ?_
      obtain ⟨hb73, h⟩ := h
      refine m_ald S hK (ar_15 G) hW (ci_15 (Nat.le_of_ble_eq_true rfl)) hb73 dX11_byHowMuch_73 ?_
      refine lv_iload_n hx hb dX11_byHowMuch_74 rfl (lv_at hl 1 rfl) ?_
      refine lv_icmp_eq (tgt := 81) hx hb dX11_byHowMuch_75 (by decide) (fun c75 => ?_) (fun c75 => ?_)
      · replace h := h.1 c75
        refine lv_aload_n hx hb dX11_byHowMuch_81 rfl (lv_at hl 0 rfl) ?_
        refine m_getr S hK fk_X11_12 (gr_0_0 G 0) hW (ci_0 (Nat.le_of_ble_eq_true rfl)) dX11_byHowMuch_82 ?_
        refine lv_iload hx hb dX11_byHowMuch_85 (lv_at hl 7 rfl) ?_
        refine m_ci0 (m_rV S hKX hW (m_szH hbs hS) (c_X10_toldTooMany l (Nat.le_of_ble_eq_true rfl)) h lk_X11_191 (m_recv hK hW (ci_1 (Nat.le_of_ble_eq_true rfl)) (rc_1 G) rfl) rfl hl.1 rfl ⟨Nat.le_of_ble_eq_true rfl, Nat.le_of_ble_eq_true rfl⟩ (Nat.le_of_ble_eq_true rfl) ⟨Nat.le_of_ble_eq_true rfl, Nat.le_of_ble_eq_true rfl⟩ dX11_byHowMuch_87) hS rfl rfl (fun rr87 Mm87 H locs h hW hS => ?_)
        refine lv_istore (lv' := [(8, .int rr87), (0, .ref (ad G 0 0)), (1, .int x1), (2, .int x2), (3, .int x3), (4, .int x4), (5, .int x5), (6, .int x6), (7, .int x7)]) hx hb dX11_byHowMuch_90 hl (by decide) rfl (fun ls hl => ?_)
        refine lv_iload hx hb dX11_byHowMuch_92 (lv_at hl 5 rfl) ?_
        refine lv_iload hx hb dX11_byHowMuch_94 (lv_at hl 0 rfl) ?_
        refine lv_iadd hx hb dX11_byHowMuch_96 ?_
        refine lv_topi (fun x4_97 ex4_97 => ?_)
        replace h := h x4_97 ex4_97
        refine lv_istore (lv' := [(4, .int x4_97), (8, .int rr87), (0, .ref (ad G 0 0)), (1, .int x1), (2, .int x2), (3, .int x3), (5, .int x5), (6, .int x6), (7, .int x7)]) hx hb dX11_byHowMuch_97 hl (by decide) rfl (fun ls hl => ?_)
        refine lv_iload_n hx hb dX11_byHowMuch_99 rfl (lv_at hl 5 rfl) ?_
        refine lv_if_ne (tgt := 108) hx hb dX11_byHowMuch_100 (by decide) (fun c100 => ?_) (fun c100 => ?_)
        · replace h := h.1 c100
          refine lv_iload hx hb dX11_byHowMuch_108 (lv_at hl 6 rfl) ?_
          refine lv_iload hx hb dX11_byHowMuch_110 (lv_at hl 1 rfl) ?_
          refine va_mmin hx hb (hml.trans hl.1.symm) hown (hts _ mw_818) (hts _ mw_473) (hts _ mw_13) (hts _ mw_474) (Nat.le_of_ble_eq_true rfl) (Nat.le_of_ble_eq_true rfl) (Nat.zero_le _) (Nat.zero_le _) dX11_byHowMuch_112 ?_
          exact b115 _ _ _ _ _ _ _ H locs ls hW hS (lv_sub hl [2, 3, 4, 5, 0, 7, 8, 1] rfl) h
        · replace h := h.2 c100
          refine lv_iload hx hb dX11_byHowMuch_103 (lv_at hl 1 rfl) ?_
          refine lv_goto (tgt := 115) hx hb dX11_byHowMuch_105 (by decide) ?_
          exact b115 _ _ _ _ _ _ _ H locs ls hW hS (lv_sub hl [2, 3, 4, 5, 0, 7, 8, 1] rfl) h
      · replace h := h.2 c75
        refine lv_goto (tgt := 138) hx hb dX11_byHowMuch_78 (by decide) ?_
        obtain ⟨x7_138, ex7_138⟩ : ∃ z : Int32, z = x7 + (1 : Int32) := ⟨_, rfl⟩
        replace h := h x7_138 ex7_138
        refine lv_iinc (v := x7_138) (lv' := [(7, .int x7_138), (0, .ref (ad G 0 0)), (1, .int x1), (2, .int x2), (3, .int x3), (4, .int x4), (5, .int x5), (6, .int x6)]) hx hb dX11_byHowMuch_138 hl (k := 7) rfl (by rw [ex7_138, ki_1]) (by decide) rfl (fun ls hl => ?_)
        refine lv_goto (tgt := 35) hx hb dX11_byHowMuch_141 (by decide) ?_
        exact kk35 _ h H locs ls hW hS (lv_sub hl [1, 2, 3, 4, 5, 6, 7, 0] rfl)
  unfold s_X11_byHowMuch at h
  refine lv_iload_n hx hb dX11_byHowMuch_0 rfl (lv_at hl 1 rfl) ?_
  refine lv_iconst hx hb dX11_byHowMuch_1 ki_0 ?_
  refine lv_iconst hx hb dX11_byHowMuch_2 ki_3 ?_
  refine m_ci0 (m_rS S hKX hW (m_szH hbs hS) (c_X11_within l ) h lk_X11_43 rfl hl.1 rfl ⟨Nat.le_of_ble_eq_true rfl, Nat.le_of_ble_eq_true rfl⟩ (Nat.le_of_ble_eq_true rfl) ⟨Nat.le_of_ble_eq_true rfl, Nat.le_of_ble_eq_true rfl⟩ dX11_byHowMuch_3) hS rfl rfl (fun rr3 Mm3 H locs h hW hS => ?_)
  refine lv_if_eq (tgt := 18) hx hb dX11_byHowMuch_6 (by decide) (fun c6 => ?_) (fun c6 => ?_)
  · replace h := h.1 c6
    refine lv_ldc hx hb hown (hts _ mw_813) dX11_byHowMuch_18 ?_
    exact m_iret S hret hlocks hKX hW hbs hS rfl h dX11_byHowMuch_20
  · replace h := h.2 c6
    refine lv_iload_n hx hb dX11_byHowMuch_9 rfl (lv_at hl 2 rfl) ?_
    refine lv_iconst hx hb dX11_byHowMuch_10 ki_0 ?_
    refine lv_iconst hx hb dX11_byHowMuch_11 ki_2 ?_
    refine m_ci0 (m_rS S hKX hW (m_szH hbs hS) (c_X11_within l ) h lk_X11_43 rfl hl.1 rfl ⟨Nat.le_of_ble_eq_true rfl, Nat.le_of_ble_eq_true rfl⟩ (Nat.le_of_ble_eq_true rfl) ⟨Nat.le_of_ble_eq_true rfl, Nat.le_of_ble_eq_true rfl⟩ dX11_byHowMuch_12) hS rfl rfl (fun rr12 Mm12 H locs h hW hS => ?_)
    refine lv_if_ne (tgt := 21) hx hb dX11_byHowMuch_15 (by decide) (fun c15 => ?_) (fun c15 => ?_)
    · replace h := h.1 c15
      refine lv_iconst hx hb dX11_byHowMuch_21 ki_0 ?_
      refine lv_istore_n (lv' := [(3, .int (0 : Int32)), (0, .ref (ad G 0 0)), (1, .int x1), (2, .int x2)]) hx hb dX11_byHowMuch_22 rfl hl (by decide) rfl (fun ls hl => ?_)
      refine lv_iconst hx hb dX11_byHowMuch_23 ki_0 ?_
      refine lv_istore (lv' := [(4, .int (0 : Int32)), (3, .int (0 : Int32)), (0, .ref (ad G 0 0)), (1, .int x1), (2, .int x2)]) hx hb dX11_byHowMuch_24 hl (by decide) rfl (fun ls hl => ?_)
      refine lv_iconst hx hb dX11_byHowMuch_26 ki_0 ?_
      refine lv_istore (lv' := [(5, .int (0 : Int32)), (4, .int (0 : Int32)), (3, .int (0 : Int32)), (0, .ref (ad G 0 0)), (1, .int x1), (2, .int x2)]) hx hb dX11_byHowMuch_27 hl (by decide) rfl (fun ls hl => ?_)
      refine lv_iconst hx hb dX11_byHowMuch_29 ki_0 ?_
      refine lv_istore (lv' := [(6, .int (0 : Int32)), (5, .int (0 : Int32)), (4, .int (0 : Int32)), (3, .int (0 : Int32)), (0, .ref (ad G 0 0)), (1, .int x1), (2, .int x2)]) hx hb dX11_byHowMuch_30 hl (by decide) rfl (fun ls hl => ?_)
      refine lv_iconst hx hb dX11_byHowMuch_32 ki_0 ?_
      refine lv_istore (lv' := [(7, .int (0 : Int32)), (6, .int (0 : Int32)), (5, .int (0 : Int32)), (4, .int (0 : Int32)), (3, .int (0 : Int32)), (0, .ref (ad G 0 0)), (1, .int x1), (2, .int x2)]) hx hb dX11_byHowMuch_33 hl (by decide) rfl (fun ls hl => ?_)
      obtain ⟨n35, h⟩ := h
      exact w35 n35 _ h H locs ls hW hS (lv_sub hl [5, 6, 7, 4, 3, 2, 1, 0] rfl)
    · replace h := h.2 c15
      refine lv_ldc hx hb hown (hts _ mw_813) dX11_byHowMuch_18 ?_
      exact m_iret S hret hlocks hKX hW hbs hS rfl h dX11_byHowMuch_20
abbrev rm_X11_round : Room := { frames := 29, cells := 0, slots := 0, locals := 813 }
set_option maxHeartbeats 4000000 in
set_option maxRecDepth 100000 in
theorem c_X11_round (l : Launch) {G : Gn} {M : Mem} {x1 : Int32} {x2 : Int32} {x3 : Int32} {x4 : Int32} {P : Int32 → Mem → Prop} : MQi l yX11_round cX11_round 7 (some .int) rm_X11_round [.ref (ad G 0 0), .int x1, .int x2, .int x3, .int x4] G M (s_X11_round M x1 x2 x3 x4 P) P := by
  refine m_enter (by decide +kernel) (Nat.le_of_ble_eq_true rfl) ?_
  intro p e s m below meth c ls H locs S hret hlocks hname hKX hbs hW hS hl h
  obtain ⟨AV, hAV⟩ : ∃ z : Array Value, z = ([.ref (ad G 0 0), .int x1, .int x2, .int x3, .int x4] : List Value).toArray := ⟨_, rfl⟩
  rw [← hAV] at S ⊢
  replace S : CallFix p m c cX11_round 7 s AV lw_G "MilkDesk" := S
  have hK := hKX.1
  have hx := S.1
  have hb := S.2.1
  have hml := S.2.2.1
  have hown := S.2.2.2.1
  have hts := S.2.2.2.2
  replace hl : lv_has ls 7 [(0, .ref (ad G 0 0)), (1, .int x1), (2, .int x2), (3, .int x3), (4, .int x4)] := hl
  unfold s_X11_round at h
  refine lv_aload_n hx hb dX11_round_0 rfl (lv_at hl 0 rfl) ?_
  refine lv_iload_n hx hb dX11_round_1 rfl (lv_at hl 3 rfl) ?_
  refine m_cq0 (m_rV S hKX hW (m_szH hbs hS) (c_X11_shelfAt l ) h lk_X11_100 (m_recv hK hW (ci_0 (Nat.le_of_ble_eq_true rfl)) (rc_0 G) rfl) rfl hl.1 rfl ⟨Nat.le_of_ble_eq_true rfl, Nat.le_of_ble_eq_true rfl⟩ (Nat.le_of_ble_eq_true rfl) ⟨Nat.le_of_ble_eq_true rfl, Nat.le_of_ble_eq_true rfl⟩ dX11_round_2) hS rfl rfl (fun Mm2 H locs h hW hS => ?_) (fun d2 Mm2 H locs h hW hS => ?_)
  · replace h := h.1 rfl
    refine lv_astoreN (lv' := [(5, .null), (0, .ref (ad G 0 0)), (1, .int x1), (2, .int x2), (3, .int x3), (4, .int x4)]) hx hb dX11_round_5 hl (by decide) rfl (fun ls hl => ?_)
    refine lv_aloadN hx hb dX11_round_7 (lv_at hl 0 rfl) ?_
    refine lv_ifnullN (tgt := 48) hx hb dX11_round_9 (by decide) ?_
    refine lv_iconst hx hb dX11_round_48 ki_m1 ?_
    exact m_iret S hret hlocks hKX hW hbs hS rfl h dX11_round_49
  · obtain ⟨hi_d2, h⟩ := h.2 d2 rfl
    refine lv_astore (lv' := [(5, .ref (ad G 7 d2)), (0, .ref (ad G 0 0)), (1, .int x1), (2, .int x2), (3, .int x3), (4, .int x4)]) hx hb dX11_round_5 hl (by decide) rfl (fun ls hl => ?_)
    refine lv_aload hx hb dX11_round_7 (lv_at hl 0 rfl) ?_
    refine lv_ifnull hx hb dX11_round_9 ?_
    refine lv_aload_n hx hb dX11_round_12 rfl (lv_at hl 1 rfl) ?_
    refine m_getr S hK fk_X11_12 (gr_0_0 G 0) hW (ci_0 (Nat.le_of_ble_eq_true rfl)) dX11_round_13 ?_
    refine m_getr S hK fk_X11_75 (gr_1_2 G 0) hW (ci_1 (Nat.le_of_ble_eq_true rfl)) dX11_round_16 ?_
    refine lv_iload_n hx hb dX11_round_19 rfl (lv_at hl 2 rfl) ?_
    refine m_ci0 (m_rV S hKX hW (m_szH hbs hS) (c_X4_has l (Nat.le_of_ble_eq_true rfl)) h lk_X11_85 (m_recv hK hW (ci_3 (Nat.le_of_ble_eq_true rfl)) (rc_3 G) rfl) rfl hl.1 rfl ⟨Nat.le_of_ble_eq_true rfl, Nat.le_of_ble_eq_true rfl⟩ (Nat.le_of_ble_eq_true rfl) ⟨Nat.le_of_ble_eq_true rfl, Nat.le_of_ble_eq_true rfl⟩ dX11_round_20) hS rfl rfl (fun rr20 Mm20 H locs h hW hS => ?_)
    refine lv_if_eq (tgt := 48) hx hb dX11_round_23 (by decide) (fun c23 => ?_) (fun c23 => ?_)
    · replace h := h.1 c23
      refine lv_iconst hx hb dX11_round_48 ki_m1 ?_
      exact m_iret S hret hlocks hKX hW hbs hS rfl h dX11_round_49
    · replace h := h.2 c23
      refine lv_iload_n hx hb dX11_round_26 rfl (lv_at hl 3 rfl) ?_
      refine lv_iconst hx hb dX11_round_27 ki_0 ?_
      refine lv_sipush hx hb dX11_round_28 ks_600 ?_
      refine m_ci0 (m_rS S hKX hW (m_szH hbs hS) (c_X11_within l ) h lk_X11_43 rfl hl.1 rfl ⟨Nat.le_of_ble_eq_true rfl, Nat.le_of_ble_eq_true rfl⟩ (Nat.le_of_ble_eq_true rfl) ⟨Nat.le_of_ble_eq_true rfl, Nat.le_of_ble_eq_true rfl⟩ dX11_round_31) hS rfl rfl (fun rr31 Mm31 H locs h hW hS => ?_)
      refine lv_if_eq (tgt := 48) hx hb dX11_round_34 (by decide) (fun c34 => ?_) (fun c34 => ?_)
      · replace h := h.1 c34
        refine lv_iconst hx hb dX11_round_48 ki_m1 ?_
        exact m_iret S hret hlocks hKX hW hbs hS rfl h dX11_round_49
      · replace h := h.2 c34
        refine lv_iload hx hb dX11_round_37 (lv_at hl 5 rfl) ?_
        refine lv_iconst hx hb dX11_round_39 ki_m1 ?_
        refine lv_bipush hx hb dX11_round_40 kb_6 ?_
        refine m_ci0 (m_rS S hKX hW (m_szH hbs hS) (c_X11_within l ) h lk_X11_43 rfl hl.1 rfl ⟨Nat.le_of_ble_eq_true rfl, Nat.le_of_ble_eq_true rfl⟩ (Nat.le_of_ble_eq_true rfl) ⟨Nat.le_of_ble_eq_true rfl, Nat.le_of_ble_eq_true rfl⟩ dX11_round_42) hS rfl rfl (fun rr42 Mm42 H locs h hW hS => ?_)
        refine lv_if_ne (tgt := 50) hx hb dX11_round_45 (by decide) (fun c45 => ?_) (fun c45 => ?_)
        · replace h := h.1 c45
          refine lv_aload hx hb dX11_round_50 (lv_at hl 0 rfl) ?_
          refine m_ci0 (m_rS S hKX hW (m_szH hbs hS) (c_X11_byteRowRefusal l hi_d2) h lk_X11_126 rfl hl.1 rfl ⟨Nat.le_of_ble_eq_true rfl, Nat.le_of_ble_eq_true rfl⟩ (Nat.le_of_ble_eq_true rfl) ⟨Nat.le_of_ble_eq_true rfl, Nat.le_of_ble_eq_true rfl⟩ dX11_round_52) hS rfl rfl (fun rr52 Mm52 H locs h hW hS => ?_)
          refine lv_istore (lv' := [(6, .int rr52), (5, .ref (ad G 7 d2)), (0, .ref (ad G 0 0)), (1, .int x1), (2, .int x2), (3, .int x3), (4, .int x4)]) hx hb dX11_round_55 hl (by decide) rfl (fun ls hl => ?_)
          refine lv_iload hx hb dX11_round_57 (lv_at hl 0 rfl) ?_
          refine lv_if_eq (tgt := 65) hx hb dX11_round_59 (by decide) (fun c59 => ?_) (fun c59 => ?_)
          · replace h := h.1 c59
            refine lv_aload_n hx hb dX11_round_65 rfl (lv_at hl 2 rfl) ?_
            refine m_getr S hK fk_X11_32 (gr_0_6 G 0) hW (ci_0 (Nat.le_of_ble_eq_true rfl)) dX11_round_66 ?_
            refine lv_aload hx hb dX11_round_69 (lv_at hl 1 rfl) ?_
            refine lv_aload_n hx hb dX11_round_71 rfl (lv_at hl 2 rfl) ?_
            refine m_getr S hK fk_X11_12 (gr_0_0 G 0) hW (ci_0 (Nat.le_of_ble_eq_true rfl)) dX11_round_72 ?_
            refine m_getr S hK fk_X11_47 (gr_1_1 G 0) hW (ci_1 (Nat.le_of_ble_eq_true rfl)) dX11_round_75 ?_
            refine m_ci0 (m_rV S hKX hW (m_szH hbs hS) (c_X7_takeStops l hi_d2 (Nat.le_of_ble_eq_true rfl)) h lk_X11_203 (m_recv hK hW (ci_9 (Nat.le_of_ble_eq_true rfl)) (rc_9 G) rfl) rfl hl.1 rfl ⟨Nat.le_of_ble_eq_true rfl, Nat.le_of_ble_eq_true rfl⟩ (Nat.le_of_ble_eq_true rfl) ⟨Nat.le_of_ble_eq_true rfl, Nat.le_of_ble_eq_true rfl⟩ dX11_round_78) hS rfl rfl (fun rr78 Mm78 H locs h hW hS => ?_)
            refine lv_if_ne (tgt := 87) hx hb dX11_round_81 (by decide) (fun c81 => ?_) (fun c81 => ?_)
            · replace h := h.1 c81
              refine lv_aload_n hx hb dX11_round_87 rfl (lv_at hl 2 rfl) ?_
              refine m_getr S hK fk_X11_32 (gr_0_6 G 0) hW (ci_0 (Nat.le_of_ble_eq_true rfl)) dX11_round_88 ?_
              refine lv_aload_n hx hb dX11_round_91 rfl (lv_at hl 2 rfl) ?_
              refine m_getr S hK fk_X11_12 (gr_0_0 G 0) hW (ci_0 (Nat.le_of_ble_eq_true rfl)) dX11_round_92 ?_
              refine m_getr S hK fk_X11_75 (gr_1_2 G 0) hW (ci_1 (Nat.le_of_ble_eq_true rfl)) dX11_round_95 ?_
              refine m_getr S hK fk_X11_207 (gr_3_1 G 0) hW (ci_3 (Nat.le_of_ble_eq_true rfl)) dX11_round_98 ?_
              refine lv_iload_n hx hb dX11_round_101 rfl (lv_at hl 3 rfl) ?_
              obtain ⟨hb102, h⟩ := h
              refine m_ald S hK (ar_22 G) hW (ci_22 (Nat.le_of_ble_eq_true rfl)) hb102 dX11_round_102 ?_
              refine lv_aload_n hx hb dX11_round_103 rfl (lv_at hl 2 rfl) ?_
              refine m_getr S hK fk_X11_12 (gr_0_0 G 0) hW (ci_0 (Nat.le_of_ble_eq_true rfl)) dX11_round_104 ?_
              refine m_getr S hK fk_X11_75 (gr_1_2 G 0) hW (ci_1 (Nat.le_of_ble_eq_true rfl)) dX11_round_107 ?_
              refine m_getr S hK fk_X11_210 (gr_3_2 G 0) hW (ci_3 (Nat.le_of_ble_eq_true rfl)) dX11_round_110 ?_
              refine lv_iload_n hx hb dX11_round_113 rfl (lv_at hl 3 rfl) ?_
              obtain ⟨hb114, h⟩ := h
              refine m_ald S hK (ar_23 G) hW (ci_23 (Nat.le_of_ble_eq_true rfl)) hb114 dX11_round_114 ?_
              refine lv_iload_n hx hb dX11_round_115 rfl (lv_at hl 4 rfl) ?_
              refine m_ci0 (m_rV S hKX hW (m_szH hbs hS) (c_X7_find l ) h lk_X11_213 (m_recv hK hW (ci_9 (Nat.le_of_ble_eq_true rfl)) (rc_9 G) rfl) rfl hl.1 rfl ⟨Nat.le_of_ble_eq_true rfl, Nat.le_of_ble_eq_true rfl⟩ (Nat.le_of_ble_eq_true rfl) ⟨Nat.le_of_ble_eq_true rfl, Nat.le_of_ble_eq_true rfl⟩ dX11_round_116) hS rfl rfl (fun rr116 Mm116 H locs h hW hS => ?_)
              refine lv_if_ne (tgt := 125) hx hb dX11_round_119 (by decide) (fun c119 => ?_) (fun c119 => ?_)
              · replace h := h.1 c119
                refine lv_iload hx hb dX11_round_125 (lv_at hl 6 rfl) ?_
                refine lv_if_ge (tgt := 140) hx hb dX11_round_127 (by decide) (fun c127 => ?_) (fun c127 => ?_)
                · replace h := h.1 c127
                  refine lv_aload_n hx hb dX11_round_140 rfl (lv_at hl 2 rfl) ?_
                  refine m_getr S hK fk_X11_32 (gr_0_6 G 0) hW (ci_0 (Nat.le_of_ble_eq_true rfl)) dX11_round_141 ?_
                  refine lv_iload hx hb dX11_round_144 (lv_at hl 6 rfl) ?_
                  refine m_ci0 (m_rV S hKX hW (m_szH hbs hS) (c_X7_bestStop l ) h lk_X11_219 (m_recv hK hW (ci_9 (Nat.le_of_ble_eq_true rfl)) (rc_9 G) rfl) rfl hl.1 rfl ⟨Nat.le_of_ble_eq_true rfl, Nat.le_of_ble_eq_true rfl⟩ (Nat.le_of_ble_eq_true rfl) ⟨Nat.le_of_ble_eq_true rfl, Nat.le_of_ble_eq_true rfl⟩ dX11_round_146) hS rfl rfl (fun rr146 Mm146 H locs h hW hS => ?_)
                  exact m_iret S hret hlocks hKX hW hbs hS rfl h dX11_round_149
                · replace h := h.2 c127
                  refine lv_aload_n hx hb dX11_round_130 rfl (lv_at hl 2 rfl) ?_
                  refine m_getr S hK fk_X11_32 (gr_0_6 G 0) hW (ci_0 (Nat.le_of_ble_eq_true rfl)) dX11_round_131 ?_
                  refine m_geti S hK fk_X11_216 (gi_9_0 G) hW (ci_9 (Nat.le_of_ble_eq_true rfl)) dX11_round_134 ?_
                  refine lv_goto (tgt := 149) hx hb dX11_round_137 (by decide) ?_
                  exact m_iret S hret hlocks hKX hW hbs hS rfl h dX11_round_149
              · replace h := h.2 c119
                refine lv_bipush hx hb dX11_round_122 kb_m4 ?_
                exact m_iret S hret hlocks hKX hW hbs hS rfl h dX11_round_124
            · replace h := h.2 c81
              refine lv_bipush hx hb dX11_round_84 kb_m13 ?_
              exact m_iret S hret hlocks hKX hW hbs hS rfl h dX11_round_86
          · replace h := h.2 c59
            refine lv_iload hx hb dX11_round_62 (lv_at hl 0 rfl) ?_
            exact m_iret S hret hlocks hKX hW hbs hS rfl h dX11_round_64
        · replace h := h.2 c45
          refine lv_iconst hx hb dX11_round_48 ki_m1 ?_
          exact m_iret S hret hlocks hKX hW hbs hS rfl h dX11_round_49
abbrev rm_X11_judge : Room := { frames := 3, cells := 0, slots := 0, locals := 73 }
set_option maxHeartbeats 4000000 in
set_option maxRecDepth 100000 in
theorem c_X11_judge (l : Launch) {G : Gn} {M : Mem} {x1 : Int32} {x2 : Int32} {x3 : Int32} {P : Int32 → Mem → Prop} : MQi l yX11_judge cX11_judge 6 (some .int) rm_X11_judge [.ref (ad G 0 0), .int x1, .int x2, .int x3] G M (s_X11_judge M x1 x2 x3 P) P := by
  refine m_enter (by decide +kernel) (Nat.le_of_ble_eq_true rfl) ?_
  intro p e s m below meth c ls H locs S hret hlocks hname hKX hbs hW hS hl h
  obtain ⟨AV, hAV⟩ : ∃ z : Array Value, z = ([.ref (ad G 0 0), .int x1, .int x2, .int x3] : List Value).toArray := ⟨_, rfl⟩
  rw [← hAV] at S ⊢
  replace S : CallFix p m c cX11_judge 6 s AV lw_G "MilkDesk" := S
  have hK := hKX.1
  have hx := S.1
  have hb := S.2.1
  have hml := S.2.2.1
  have hown := S.2.2.2.1
  have hts := S.2.2.2.2
  replace hl : lv_has ls 6 [(0, .ref (ad G 0 0)), (1, .int x1), (2, .int x2), (3, .int x3)] := hl
  unfold s_X11_judge at h
  refine lv_aload_n hx hb dX11_judge_0 rfl (lv_at hl 0 rfl) ?_
  refine lv_iload_n hx hb dX11_judge_1 rfl (lv_at hl 3 rfl) ?_
  refine m_cq0 (m_rV S hKX hW (m_szH hbs hS) (c_X11_shelfAt l ) h lk_X11_100 (m_recv hK hW (ci_0 (Nat.le_of_ble_eq_true rfl)) (rc_0 G) rfl) rfl hl.1 rfl ⟨Nat.le_of_ble_eq_true rfl, Nat.le_of_ble_eq_true rfl⟩ (Nat.le_of_ble_eq_true rfl) ⟨Nat.le_of_ble_eq_true rfl, Nat.le_of_ble_eq_true rfl⟩ dX11_judge_2) hS rfl rfl (fun Mm2 H locs h hW hS => ?_) (fun d2 Mm2 H locs h hW hS => ?_)
  · replace h := h.1 rfl
    refine lv_astoreN (lv' := [(4, .null), (0, .ref (ad G 0 0)), (1, .int x1), (2, .int x2), (3, .int x3)]) hx hb dX11_judge_5 hl (by decide) rfl (fun ls hl => ?_)
    refine lv_aloadN hx hb dX11_judge_7 (lv_at hl 0 rfl) ?_
    refine lv_ifnullN (tgt := 37) hx hb dX11_judge_9 (by decide) ?_
    refine lv_iconst hx hb dX11_judge_37 ki_m1 ?_
    exact m_iret S hret hlocks hKX hW hbs hS rfl h dX11_judge_38
  · obtain ⟨hi_d2, h⟩ := h.2 d2 rfl
    refine lv_astore (lv' := [(4, .ref (ad G 7 d2)), (0, .ref (ad G 0 0)), (1, .int x1), (2, .int x2), (3, .int x3)]) hx hb dX11_judge_5 hl (by decide) rfl (fun ls hl => ?_)
    refine lv_aload hx hb dX11_judge_7 (lv_at hl 0 rfl) ?_
    refine lv_ifnull hx hb dX11_judge_9 ?_
    refine lv_aload_n hx hb dX11_judge_12 rfl (lv_at hl 1 rfl) ?_
    refine m_getr S hK fk_X11_12 (gr_0_0 G 0) hW (ci_0 (Nat.le_of_ble_eq_true rfl)) dX11_judge_13 ?_
    refine m_getr S hK fk_X11_75 (gr_1_2 G 0) hW (ci_1 (Nat.le_of_ble_eq_true rfl)) dX11_judge_16 ?_
    refine lv_iload_n hx hb dX11_judge_19 rfl (lv_at hl 2 rfl) ?_
    refine m_ci0 (m_rV S hKX hW (m_szH hbs hS) (c_X4_has l (Nat.le_of_ble_eq_true rfl)) h lk_X11_85 (m_recv hK hW (ci_3 (Nat.le_of_ble_eq_true rfl)) (rc_3 G) rfl) rfl hl.1 rfl ⟨Nat.le_of_ble_eq_true rfl, Nat.le_of_ble_eq_true rfl⟩ (Nat.le_of_ble_eq_true rfl) ⟨Nat.le_of_ble_eq_true rfl, Nat.le_of_ble_eq_true rfl⟩ dX11_judge_20) hS rfl rfl (fun rr20 Mm20 H locs h hW hS => ?_)
    refine lv_if_eq (tgt := 37) hx hb dX11_judge_23 (by decide) (fun c23 => ?_) (fun c23 => ?_)
    · replace h := h.1 c23
      refine lv_iconst hx hb dX11_judge_37 ki_m1 ?_
      exact m_iret S hret hlocks hKX hW hbs hS rfl h dX11_judge_38
    · replace h := h.2 c23
      refine lv_iload_n hx hb dX11_judge_26 rfl (lv_at hl 3 rfl) ?_
      refine lv_iconst hx hb dX11_judge_27 ki_0 ?_
      refine lv_sipush hx hb dX11_judge_28 ks_600 ?_
      refine m_ci0 (m_rS S hKX hW (m_szH hbs hS) (c_X11_within l ) h lk_X11_43 rfl hl.1 rfl ⟨Nat.le_of_ble_eq_true rfl, Nat.le_of_ble_eq_true rfl⟩ (Nat.le_of_ble_eq_true rfl) ⟨Nat.le_of_ble_eq_true rfl, Nat.le_of_ble_eq_true rfl⟩ dX11_judge_31) hS rfl rfl (fun rr31 Mm31 H locs h hW hS => ?_)
      refine lv_if_ne (tgt := 39) hx hb dX11_judge_34 (by decide) (fun c34 => ?_) (fun c34 => ?_)
      · replace h := h.1 c34
        refine lv_aload hx hb dX11_judge_39 (lv_at hl 0 rfl) ?_
        refine m_ci0 (m_rS S hKX hW (m_szH hbs hS) (c_X11_byteRowRefusal l hi_d2) h lk_X11_126 rfl hl.1 rfl ⟨Nat.le_of_ble_eq_true rfl, Nat.le_of_ble_eq_true rfl⟩ (Nat.le_of_ble_eq_true rfl) ⟨Nat.le_of_ble_eq_true rfl, Nat.le_of_ble_eq_true rfl⟩ dX11_judge_41) hS rfl rfl (fun rr41 Mm41 H locs h hW hS => ?_)
        refine lv_istore (lv' := [(5, .int rr41), (4, .ref (ad G 7 d2)), (0, .ref (ad G 0 0)), (1, .int x1), (2, .int x2), (3, .int x3)]) hx hb dX11_judge_44 hl (by decide) rfl (fun ls hl => ?_)
        refine lv_iload hx hb dX11_judge_46 (lv_at hl 0 rfl) ?_
        refine lv_if_eq (tgt := 56) hx hb dX11_judge_48 (by decide) (fun c48 => ?_) (fun c48 => ?_)
        · replace h := h.1 c48
          refine lv_aload_n hx hb dX11_judge_56 rfl (lv_at hl 2 rfl) ?_
          refine m_getr S hK fk_X11_12 (gr_0_0 G 0) hW (ci_0 (Nat.le_of_ble_eq_true rfl)) dX11_judge_57 ?_
          refine lv_iload_n hx hb dX11_judge_60 rfl (lv_at hl 3 rfl) ?_
          refine lv_iload_n hx hb dX11_judge_61 rfl (lv_at hl 4 rfl) ?_
          refine lv_aload hx hb dX11_judge_62 (lv_at hl 1 rfl) ?_
          refine m_ci0 (m_rV S hKX hW (m_szH hbs hS) (c_X10_firstWrongStop l (Nat.le_of_ble_eq_true rfl) hi_d2) h lk_X11_222 (m_recv hK hW (ci_1 (Nat.le_of_ble_eq_true rfl)) (rc_1 G) rfl) rfl hl.1 rfl ⟨Nat.le_of_ble_eq_true rfl, Nat.le_of_ble_eq_true rfl⟩ (Nat.le_of_ble_eq_true rfl) ⟨Nat.le_of_ble_eq_true rfl, Nat.le_of_ble_eq_true rfl⟩ dX11_judge_64) hS rfl rfl (fun rr64 Mm64 H locs h hW hS => ?_)
          exact m_iret S hret hlocks hKX hW hbs hS rfl h dX11_judge_67
        · replace h := h.2 c48
          refine lv_iload hx hb dX11_judge_51 (lv_at hl 0 rfl) ?_
          refine lv_goto (tgt := 67) hx hb dX11_judge_53 (by decide) ?_
          exact m_iret S hret hlocks hKX hW hbs hS rfl h dX11_judge_67
      · replace h := h.2 c34
        refine lv_iconst hx hb dX11_judge_37 ki_m1 ?_
        exact m_iret S hret hlocks hKX hW hbs hS rfl h dX11_judge_38
abbrev rm_X11_bought : Room := { frames := 7, cells := 0, slots := 0, locals := 177 }
set_option maxHeartbeats 4000000 in
set_option maxRecDepth 100000 in
theorem c_X11_bought (l : Launch) {G : Gn} {M : Mem} {x1 : Int32} {x2 : Int32} {P : Int32 → Mem → Prop} : MQi l yX11_bought cX11_bought 6 (some .int) rm_X11_bought [.ref (ad G 0 0), .int x1, .int x2] G M (s_X11_bought M x1 x2 P) P := by
  refine m_enter (by decide +kernel) (Nat.le_of_ble_eq_true rfl) ?_
  intro p e s m below meth c ls H locs S hret hlocks hname hKX hbs hW hS hl h
  obtain ⟨AV, hAV⟩ : ∃ z : Array Value, z = ([.ref (ad G 0 0), .int x1, .int x2] : List Value).toArray := ⟨_, rfl⟩
  rw [← hAV] at S ⊢
  replace S : CallFix p m c cX11_bought 6 s AV lw_G "MilkDesk" := S
  have hK := hKX.1
  have hx := S.1
  have hb := S.2.1
  have hml := S.2.2.1
  have hown := S.2.2.2.1
  have hts := S.2.2.2.2
  replace hl : lv_has ls 6 [(0, .ref (ad G 0 0)), (1, .int x1), (2, .int x2)] := hl
  have w80 : ∀ (n : Nat) (a : Mem × Int32), Lz (fun (K80 : Mem × Int32 → Prop) (a : Mem × Int32) => s_X11_bought_80 x1 P K80 a.1 a.2) n a → ∀ (H : Heap) (locs : List Loc) (ls : Array Slot), WPm G a.1 H → va_S (fun q => bs G ≤ q) s.heap H locs → lv_has ls 6 [(0, .ref (ad G 0 0)), (1, .int x1), (3, .int a.2)] → W p l e rm_X11_bought s m AV below meth c H locs 0 0 (MQ below (va_Qi P (WS G) (fun q => bs G ≤ q)) AV s 0 0 (fun q => bs G ≤ q)) (F0 m 80 ls []) := by
    refine Lz_walk ?_
    rintro K80 kk80 ⟨M, x3⟩ h H locs ls hW hS hl
    replace h : s_X11_bought_80 x1 P K80 M x3 := h
    replace hW : WPm G M H := hW
    replace hl : lv_has ls 6 [(0, .ref (ad G 0 0)), (1, .int x1), (3, .int x3)] := hl
    have b133 : ∀ (M : Mem) (x3 : Int32) (x4 : Int32) (y0 : Int32) (H : Heap) (locs : List Loc) (ls : Array Slot), WPm G M H → va_S (fun q => bs G ≤ q) s.heap H locs → lv_has ls 6 [(0, .ref (ad G 0 0)), (1, .int x1), (3, .int x3), (4, .int x4)] → s_X11_bought_133 x1 P K80 M x3 x4 y0 → W p l e rm_X11_bought s m AV below meth c H locs 0 0 (MQ below (va_Qi P (WS G) (fun q => bs G ≤ q)) AV s 0 0 (fun q => bs G ≤ q)) (F0 m 133 ls [.int y0]) := by
      intro M x3 x4 y0 H locs ls hW hS hl h
      unfold s_X11_bought_133 at h
      refine lv_istore (lv' := [(5, .int y0), (0, .ref (ad G 0 0)), (1, .int x1), (3, .int x3), (4, .int x4)]) hx hb dX11_bought_133 hl (by decide) rfl (fun ls hl => ?_)
      refine lv_iload hx hb dX11_bought_135 (lv_at hl 0 rfl) ?_
      refine lv_if_eq (tgt := 172) hx hb dX11_bought_137 (by decide) (fun c137 => ?_) (fun c137 => ?_)
      · replace h := h.1 c137
        obtain ⟨x3_172, ex3_172⟩ : ∃ z : Int32, z = x3 + (1 : Int32) := ⟨_, rfl⟩
        replace h := h x3_172 ex3_172
        refine lv_iinc (v := x3_172) (lv' := [(3, .int x3_172), (5, .int y0), (0, .ref (ad G 0 0)), (1, .int x1), (4, .int x4)]) hx hb dX11_bought_172 hl (k := 3) rfl (by rw [ex3_172, ki_1]) (by decide) rfl (fun ls hl => ?_)
        refine lv_goto (tgt := 80) hx hb dX11_bought_175 (by decide) ?_
        exact kk80 _ h H locs ls hW hS (lv_sub hl [2, 3, 0] rfl)
      · replace h := h.2 c137
        refine lv_aload_n hx hb dX11_bought_140 rfl (lv_at hl 1 rfl) ?_
        refine m_getr S hK fk_X11_19 (gr_0_2 G 0) hW (ci_0 (Nat.le_of_ble_eq_true rfl)) dX11_bought_141 ?_
        refine m_getr S hK fk_X11_47 (gr_1_1 G 2) hW (ci_1 (Nat.le_of_ble_eq_true rfl)) dX11_bought_144 ?_
        refine m_getr S hK fk_X11_171 (gr_2_7 G 2) hW (ci_2 (Nat.le_of_ble_eq_true rfl)) dX11_bought_147 ?_
        refine lv_iload hx hb dX11_bought_150 (lv_at hl 4 rfl) ?_
        obtain ⟨hb152, h⟩ := h
        refine m_ald S hK (ar_21 G) hW (ci_21 (Nat.le_of_ble_eq_true rfl)) hb152 dX11_bought_152 ?_
        refine lv_aload_n hx hb dX11_bought_153 rfl (lv_at hl 1 rfl) ?_
        refine m_getr S hK fk_X11_12 (gr_0_0 G 0) hW (ci_0 (Nat.le_of_ble_eq_true rfl)) dX11_bought_154 ?_
        refine m_getr S hK fk_X11_47 (gr_1_1 G 0) hW (ci_1 (Nat.le_of_ble_eq_true rfl)) dX11_bought_157 ?_
        refine m_getr S hK fk_X11_171 (gr_2_7 G 0) hW (ci_2 (Nat.le_of_ble_eq_true rfl)) dX11_bought_160 ?_
        refine lv_iload hx hb dX11_bought_163 (lv_at hl 4 rfl) ?_
        obtain ⟨hb165, h⟩ := h
        refine m_ald S hK (ar_21 G) hW (ci_21 (Nat.le_of_ble_eq_true rfl)) hb165 dX11_bought_165 ?_
        refine lv_icmp_eq (tgt := 172) hx hb dX11_bought_166 (by decide) (fun c166 => ?_) (fun c166 => ?_)
        · replace h := h.1 c166
          obtain ⟨x3_172, ex3_172⟩ : ∃ z : Int32, z = x3 + (1 : Int32) := ⟨_, rfl⟩
          replace h := h x3_172 ex3_172
          refine lv_iinc (v := x3_172) (lv' := [(3, .int x3_172), (5, .int y0), (0, .ref (ad G 0 0)), (1, .int x1), (4, .int x4)]) hx hb dX11_bought_172 hl (k := 3) rfl (by rw [ex3_172, ki_1]) (by decide) rfl (fun ls hl => ?_)
          refine lv_goto (tgt := 80) hx hb dX11_bought_175 (by decide) ?_
          exact kk80 _ h H locs ls hW hS (lv_sub hl [2, 3, 0] rfl)
        · replace h := h.2 c166
          refine lv_bipush hx hb dX11_bought_169 kb_m4 ?_
          exact m_iret S hret hlocks hKX hW hbs hS rfl h dX11_bought_171
    unfold s_X11_bought_80 at h
    refine lv_iload_n hx hb dX11_bought_80 rfl (lv_at hl 2 rfl) ?_
    refine lv_aload_n hx hb dX11_bought_81 rfl (lv_at hl 0 rfl) ?_
    refine m_getr S hK fk_X11_12 (gr_0_0 G 0) hW (ci_0 (Nat.le_of_ble_eq_true rfl)) dX11_bought_82 ?_
    refine m_getr S hK fk_X11_47 (gr_1_1 G 0) hW (ci_1 (Nat.le_of_ble_eq_true rfl)) dX11_bought_85 ?_
    refine m_geti S hK fk_X11_51 (gi_2_0 G) hW (ci_2 (Nat.le_of_ble_eq_true rfl)) dX11_bought_88 ?_
    refine lv_icmp_ge (tgt := 178) hx hb dX11_bought_91 (by decide) (fun c91 => ?_) (fun c91 => ?_)
    · replace h := h.1 c91
      refine lv_iconst hx hb dX11_bought_178 ki_0 ?_
      refine lv_sipush hx hb dX11_bought_179 ks_1000 ?_
      refine lv_aload_n hx hb dX11_bought_182 rfl (lv_at hl 0 rfl) ?_
      refine m_getr S hK fk_X11_19 (gr_0_2 G 0) hW (ci_0 (Nat.le_of_ble_eq_true rfl)) dX11_bought_183 ?_
      refine m_getr S hK fk_X11_75 (gr_1_2 G 2) hW (ci_1 (Nat.le_of_ble_eq_true rfl)) dX11_bought_186 ?_
      refine m_getr S hK fk_X11_233 (gr_3_7 G 2) hW (ci_3 (Nat.le_of_ble_eq_true rfl)) dX11_bought_189 ?_
      refine lv_iload_n hx hb dX11_bought_192 rfl (lv_at hl 1 rfl) ?_
      obtain ⟨hb193, h⟩ := h
      refine m_ald S hK (ar_28 G) hW (ci_28 (Nat.le_of_ble_eq_true rfl)) hb193 dX11_bought_193 ?_
      refine lv_isub hx hb dX11_bought_194 ?_
      refine va_mmax hx hb (hml.trans hl.1.symm) hown (hts _ mw_819) (hts _ mw_476) (hts _ mw_13) (hts _ mw_477) (Nat.le_of_ble_eq_true rfl) (Nat.le_of_ble_eq_true rfl) (Nat.zero_le _) (Nat.zero_le _) dX11_bought_195 ?_
      exact m_iret S hret hlocks hKX hW hbs hS rfl h dX11_bought_198
    · replace h := h.2 c91
      refine lv_iload_n hx hb dX11_bought_94 rfl (lv_at hl 2 rfl) ?_
      refine lv_bipush hx hb dX11_bought_95 kb_11 ?_
      refine lv_imul hx hb dX11_bought_97 ?_
      refine lv_iconst hx hb dX11_bought_98 ki_2 ?_
      refine lv_iadd hx hb dX11_bought_99 ?_
      refine lv_topi (fun x4_100 ex4_100 => ?_)
      replace h := h x4_100 ex4_100
      refine lv_istore (lv' := [(4, .int x4_100), (0, .ref (ad G 0 0)), (1, .int x1), (3, .int x3)]) hx hb dX11_bought_100 hl (by decide) rfl (fun ls hl => ?_)
      refine lv_aload_n hx hb dX11_bought_102 rfl (lv_at hl 1 rfl) ?_
      refine m_getr S hK fk_X11_12 (gr_0_0 G 0) hW (ci_0 (Nat.le_of_ble_eq_true rfl)) dX11_bought_103 ?_
      refine m_getr S hK fk_X11_75 (gr_1_2 G 0) hW (ci_1 (Nat.le_of_ble_eq_true rfl)) dX11_bought_106 ?_
      refine lv_aload_n hx hb dX11_bought_109 rfl (lv_at hl 1 rfl) ?_
      refine m_getr S hK fk_X11_12 (gr_0_0 G 0) hW (ci_0 (Nat.le_of_ble_eq_true rfl)) dX11_bought_110 ?_
      refine m_getr S hK fk_X11_47 (gr_1_1 G 0) hW (ci_1 (Nat.le_of_ble_eq_true rfl)) dX11_bought_113 ?_
      refine m_getr S hK fk_X11_154 (gr_2_1 G 0) hW (ci_2 (Nat.le_of_ble_eq_true rfl)) dX11_bought_116 ?_
      refine lv_iload_n hx hb dX11_bought_119 rfl (lv_at hl 3 rfl) ?_
      obtain ⟨hb120, h⟩ := h
      refine m_ald S hK (ar_15 G) hW (ci_15 (Nat.le_of_ble_eq_true rfl)) hb120 dX11_bought_120 ?_
      refine m_ci0 (m_rV S hKX hW (m_szH hbs hS) (c_X4_winner l (Nat.le_of_ble_eq_true rfl)) h lk_X11_89 (m_recv hK hW (ci_3 (Nat.le_of_ble_eq_true rfl)) (rc_3 G) rfl) rfl hl.1 rfl ⟨Nat.le_of_ble_eq_true rfl, Nat.le_of_ble_eq_true rfl⟩ (Nat.le_of_ble_eq_true rfl) ⟨Nat.le_of_ble_eq_true rfl, Nat.le_of_ble_eq_true rfl⟩ dX11_bought_121) hS rfl rfl (fun rr121 Mm121 H locs h hW hS => ?_)
      refine lv_iload_n hx hb dX11_bought_124 rfl (lv_at hl 2 rfl) ?_
      refine lv_icmp_ne (tgt := 132) hx hb dX11_bought_125 (by decide) (fun c125 => ?_) (fun c125 => ?_)
      · replace h := h.1 c125
        refine lv_iconst hx hb dX11_bought_132 ki_0 ?_
        exact b133 _ _ _ _ H locs ls hW hS (lv_sub hl [1, 2, 3, 0] rfl) h
      · replace h := h.2 c125
        refine lv_iconst hx hb dX11_bought_128 ki_1 ?_
        refine lv_goto (tgt := 133) hx hb dX11_bought_129 (by decide) ?_
        exact b133 _ _ _ _ H locs ls hW hS (lv_sub hl [1, 2, 3, 0] rfl) h
  unfold s_X11_bought at h
  refine lv_aload_n hx hb dX11_bought_0 rfl (lv_at hl 0 rfl) ?_
  refine m_getr S hK fk_X11_12 (gr_0_0 G 0) hW (ci_0 (Nat.le_of_ble_eq_true rfl)) dX11_bought_1 ?_
  refine m_getr S hK fk_X11_75 (gr_1_2 G 0) hW (ci_1 (Nat.le_of_ble_eq_true rfl)) dX11_bought_4 ?_
  refine lv_iload_n hx hb dX11_bought_7 rfl (lv_at hl 1 rfl) ?_
  refine m_ci0 (m_rV S hKX hW (m_szH hbs hS) (c_X4_has l (Nat.le_of_ble_eq_true rfl)) h lk_X11_85 (m_recv hK hW (ci_3 (Nat.le_of_ble_eq_true rfl)) (rc_3 G) rfl) rfl hl.1 rfl ⟨Nat.le_of_ble_eq_true rfl, Nat.le_of_ble_eq_true rfl⟩ (Nat.le_of_ble_eq_true rfl) ⟨Nat.le_of_ble_eq_true rfl, Nat.le_of_ble_eq_true rfl⟩ dX11_bought_8) hS rfl rfl (fun rr8 Mm8 H locs h hW hS => ?_)
  refine lv_if_eq (tgt := 24) hx hb dX11_bought_11 (by decide) (fun c11 => ?_) (fun c11 => ?_)
  · replace h := h.1 c11
    refine lv_iconst hx hb dX11_bought_24 ki_m1 ?_
    exact m_iret S hret hlocks hKX hW hbs hS rfl h dX11_bought_25
  · replace h := h.2 c11
    refine lv_iload_n hx hb dX11_bought_14 rfl (lv_at hl 2 rfl) ?_
    refine lv_iconst hx hb dX11_bought_15 ki_1 ?_
    refine lv_bipush hx hb dX11_bought_16 kb_20 ?_
    refine m_ci0 (m_rS S hKX hW (m_szH hbs hS) (c_X11_within l ) h lk_X11_43 rfl hl.1 rfl ⟨Nat.le_of_ble_eq_true rfl, Nat.le_of_ble_eq_true rfl⟩ (Nat.le_of_ble_eq_true rfl) ⟨Nat.le_of_ble_eq_true rfl, Nat.le_of_ble_eq_true rfl⟩ dX11_bought_18) hS rfl rfl (fun rr18 Mm18 H locs h hW hS => ?_)
    refine lv_if_ne (tgt := 26) hx hb dX11_bought_21 (by decide) (fun c21 => ?_) (fun c21 => ?_)
    · replace h := h.1 c21
      refine lv_aload_n hx hb dX11_bought_26 rfl (lv_at hl 0 rfl) ?_
      refine m_getr S hK fk_X11_12 (gr_0_0 G 0) hW (ci_0 (Nat.le_of_ble_eq_true rfl)) dX11_bought_27 ?_
      refine m_geti S hK fk_X11_115 (gi_1_0 G) hW (ci_1 (Nat.le_of_ble_eq_true rfl)) dX11_bought_30 ?_
      refine lv_iload_n hx hb dX11_bought_33 rfl (lv_at hl 2 rfl) ?_
      refine lv_iadd hx hb dX11_bought_34 ?_
      refine lv_sipush hx hb dX11_bought_35 ks_400 ?_
      refine lv_icmp_le (tgt := 44) hx hb dX11_bought_38 (by decide) (fun c38 => ?_) (fun c38 => ?_)
      · replace h := h.1 c38
        refine lv_aload_n hx hb dX11_bought_44 rfl (lv_at hl 0 rfl) ?_
        refine m_getr S hK fk_X11_19 (gr_0_2 G 0) hW (ci_0 (Nat.le_of_ble_eq_true rfl)) dX11_bought_45 ?_
        refine lv_aload_n hx hb dX11_bought_48 rfl (lv_at hl 0 rfl) ?_
        refine m_getr S hK fk_X11_12 (gr_0_0 G 0) hW (ci_0 (Nat.le_of_ble_eq_true rfl)) dX11_bought_49 ?_
        refine m_cv0 (m_rV S hKX hW (m_szH hbs hS) (c_X10_copyFrom l (Nat.le_of_ble_eq_true rfl) (Nat.le_of_ble_eq_true rfl)) h lk_X11_226 (m_recv hK hW (ci_1 (Nat.le_of_ble_eq_true rfl)) (rc_1 G) rfl) rfl hl.1 rfl ⟨Nat.le_of_ble_eq_true rfl, Nat.le_of_ble_eq_true rfl⟩ (Nat.le_of_ble_eq_true rfl) ⟨Nat.le_of_ble_eq_true rfl, Nat.le_of_ble_eq_true rfl⟩ dX11_bought_52) hS rfl rfl (fun Mm52 H locs h hW hS => ?_)
        refine lv_aload_n hx hb dX11_bought_55 rfl (lv_at hl 0 rfl) ?_
        refine m_getr S hK fk_X11_19 (gr_0_2 G 0) hW (ci_0 (Nat.le_of_ble_eq_true rfl)) dX11_bought_56 ?_
        refine m_getr S hK fk_X11_75 (gr_1_2 G 2) hW (ci_1 (Nat.le_of_ble_eq_true rfl)) dX11_bought_59 ?_
        refine lv_iload_n hx hb dX11_bought_62 rfl (lv_at hl 1 rfl) ?_
        refine lv_sipush hx hb dX11_bought_63 ks_1000 ?_
        refine m_cv0 (m_rV S hKX hW (m_szH hbs hS) (c_X4_stock l (Nat.le_of_ble_eq_true rfl)) h lk_X11_230 (m_recv hK hW (ci_3 (Nat.le_of_ble_eq_true rfl)) (rc_3 G) rfl) rfl hl.1 rfl ⟨Nat.le_of_ble_eq_true rfl, Nat.le_of_ble_eq_true rfl⟩ (Nat.le_of_ble_eq_true rfl) ⟨Nat.le_of_ble_eq_true rfl, Nat.le_of_ble_eq_true rfl⟩ dX11_bought_66) hS rfl rfl (fun Mm66 H locs h hW hS => ?_)
        refine lv_aload_n hx hb dX11_bought_69 rfl (lv_at hl 0 rfl) ?_
        refine m_getr S hK fk_X11_19 (gr_0_2 G 0) hW (ci_0 (Nat.le_of_ble_eq_true rfl)) dX11_bought_70 ?_
        refine lv_iload_n hx hb dX11_bought_73 rfl (lv_at hl 2 rfl) ?_
        refine lv_iconst hx hb dX11_bought_74 ki_m1 ?_
        refine m_cv0 (m_rV S hKX hW (m_szH hbs hS) (c_X10_passDays l (Nat.le_of_ble_eq_true rfl)) h lk_X11_167 (m_recv hK hW (ci_1 (Nat.le_of_ble_eq_true rfl)) (rc_1 G) rfl) rfl hl.1 rfl ⟨Nat.le_of_ble_eq_true rfl, Nat.le_of_ble_eq_true rfl⟩ (Nat.le_of_ble_eq_true rfl) ⟨Nat.le_of_ble_eq_true rfl, Nat.le_of_ble_eq_true rfl⟩ dX11_bought_75) hS rfl rfl (fun Mm75 H locs h hW hS => ?_)
        refine lv_iconst hx hb dX11_bought_78 ki_0 ?_
        refine lv_istore_n (lv' := [(3, .int (0 : Int32)), (0, .ref (ad G 0 0)), (1, .int x1), (2, .int x2)]) hx hb dX11_bought_79 rfl hl (by decide) rfl (fun ls hl => ?_)
        obtain ⟨n80, h⟩ := h
        exact w80 n80 _ h H locs ls hW hS (lv_sub hl [1, 2, 0] rfl)
      · replace h := h.2 c38
        refine lv_bipush hx hb dX11_bought_41 kb_m2 ?_
        exact m_iret S hret hlocks hKX hW hbs hS rfl h dX11_bought_43
    · replace h := h.2 c21
      refine lv_iconst hx hb dX11_bought_24 ki_m1 ?_
      exact m_iret S hret hlocks hKX hW hbs hS rfl h dX11_bought_25
abbrev rm_X11_digit : Room := { frames := 0, cells := 0, slots := 0, locals := 0 }
set_option maxHeartbeats 4000000 in
set_option maxRecDepth 100000 in
theorem c_X11_digit (l : Launch) {G : Gn} {M : Mem} {x0 : Int32} {x1 : Int32} {P : Int32 → Mem → Prop} : MQi l yX11_digit cX11_digit 2 (some .int) rm_X11_digit [.int x0, .int x1] G M (s_X11_digit M x0 x1 P) P := by
  refine m_enter (by decide +kernel) (Nat.le_of_ble_eq_true rfl) ?_
  intro p e s m below meth c ls H locs S hret hlocks hname hKX hbs hW hS hl h
  obtain ⟨AV, hAV⟩ : ∃ z : Array Value, z = ([.int x0, .int x1] : List Value).toArray := ⟨_, rfl⟩
  rw [← hAV] at S ⊢
  replace S : CallFix p m c cX11_digit 2 s AV lw_G "MilkDesk" := S
  have hK := hKX.1
  have hx := S.1
  have hb := S.2.1
  have hml := S.2.2.1
  have hown := S.2.2.2.1
  have hts := S.2.2.2.2
  replace hl : lv_has ls 2 [(0, .int x0), (1, .int x1)] := hl
  unfold s_X11_digit at h
  refine lv_iload_n hx hb dX11_digit_0 rfl (lv_at hl 0 rfl) ?_
  refine lv_iconst hx hb dX11_digit_1 ki_2 ?_
  refine lv_iload_n hx hb dX11_digit_2 rfl (lv_at hl 1 rfl) ?_
  refine lv_imul hx hb dX11_digit_3 ?_
  refine lv_ishr hx hb dX11_digit_4 ?_
  refine lv_iconst hx hb dX11_digit_5 ki_3 ?_
  refine lv_iand hx hb dX11_digit_6 ?_
  exact m_iret S hret hlocks hKX hW hbs hS rfl h dX11_digit_7
abbrev rm_X11_isShireOrder : Room := { frames := 1, cells := 0, slots := 0, locals := 22 }
set_option maxHeartbeats 4000000 in
set_option maxRecDepth 100000 in
theorem c_X11_isShireOrder (l : Launch) {G : Gn} {M : Mem} {x0 : Int32} {P : Int32 → Mem → Prop} : MQi l yX11_isShireOrder cX11_isShireOrder 3 (some .boolean) rm_X11_isShireOrder [.int x0] G M (s_X11_isShireOrder M x0 P) P := by
  refine m_enter (by decide +kernel) (Nat.le_of_ble_eq_true rfl) ?_
  intro p e s m below meth c ls H locs S hret hlocks hname hKX hbs hW hS hl h
  obtain ⟨AV, hAV⟩ : ∃ z : Array Value, z = ([.int x0] : List Value).toArray := ⟨_, rfl⟩
  rw [← hAV] at S ⊢
  replace S : CallFix p m c cX11_isShireOrder 3 s AV lw_G "MilkDesk" := S
  have hK := hKX.1
  have hx := S.1
  have hb := S.2.1
  have hml := S.2.2.1
  have hown := S.2.2.2.1
  have hts := S.2.2.2.2
  replace hl : lv_has ls 3 [(0, .int x0)] := hl
  have w17 : ∀ (n : Nat) (a : Mem × Int32 × Int32), Lz (fun (K17 : Mem × Int32 × Int32 → Prop) (a : Mem × Int32 × Int32) => s_X11_isShireOrder_17 x0 P K17 a.1 a.2.1 a.2.2) n a → ∀ (H : Heap) (locs : List Loc) (ls : Array Slot), WPm G a.1 H → va_S (fun q => bs G ≤ q) s.heap H locs → lv_has ls 3 [(0, .int x0), (1, .int a.2.1), (2, .int a.2.2)] → W p l e rm_X11_isShireOrder s m AV below meth c H locs 0 0 (MQ below (va_Qi P (WS G) (fun q => bs G ≤ q)) AV s 0 0 (fun q => bs G ≤ q)) (F0 m 17 ls []) := by
    refine Lz_walk ?_
    rintro K17 kk17 ⟨M, x1, x2⟩ h H locs ls hW hS hl
    replace h : s_X11_isShireOrder_17 x0 P K17 M x1 x2 := h
    replace hW : WPm G M H := hW
    replace hl : lv_has ls 3 [(0, .int x0), (1, .int x1), (2, .int x2)] := hl
    unfold s_X11_isShireOrder_17 at h
    refine lv_iload_n hx hb dX11_isShireOrder_17 rfl (lv_at hl 2 rfl) ?_
    refine lv_iconst hx hb dX11_isShireOrder_18 ki_4 ?_
    refine lv_icmp_ge (tgt := 38) hx hb dX11_isShireOrder_19 (by decide) (fun c19 => ?_) (fun c19 => ?_)
    · replace h := h.1 c19
      refine lv_iload_n hx hb dX11_isShireOrder_38 rfl (lv_at hl 1 rfl) ?_
      refine lv_bipush hx hb dX11_isShireOrder_39 kb_15 ?_
      refine lv_icmp_ne (tgt := 48) hx hb dX11_isShireOrder_41 (by decide) (fun c41 => ?_) (fun c41 => ?_)
      · replace h := h.1 c41
        refine lv_iconst hx hb dX11_isShireOrder_48 ki_0 ?_
        exact m_iret S hret hlocks hKX hW hbs hS rfl h dX11_isShireOrder_49
      · replace h := h.2 c41
        refine lv_iconst hx hb dX11_isShireOrder_44 ki_1 ?_
        refine lv_goto (tgt := 49) hx hb dX11_isShireOrder_45 (by decide) ?_
        exact m_iret S hret hlocks hKX hW hbs hS rfl h dX11_isShireOrder_49
    · replace h := h.2 c19
      refine lv_iload_n hx hb dX11_isShireOrder_22 rfl (lv_at hl 1 rfl) ?_
      refine lv_iconst hx hb dX11_isShireOrder_23 ki_1 ?_
      refine lv_iload_n hx hb dX11_isShireOrder_24 rfl (lv_at hl 0 rfl) ?_
      refine lv_iload_n hx hb dX11_isShireOrder_25 rfl (lv_at hl 2 rfl) ?_
      refine m_ci0 (m_rS S hKX hW (m_szH hbs hS) (c_X11_digit l ) h lk_X11_239 rfl hl.1 rfl ⟨Nat.le_of_ble_eq_true rfl, Nat.le_of_ble_eq_true rfl⟩ (Nat.le_of_ble_eq_true rfl) ⟨Nat.le_of_ble_eq_true rfl, Nat.le_of_ble_eq_true rfl⟩ dX11_isShireOrder_26) hS rfl rfl (fun rr26 Mm26 H locs h hW hS => ?_)
      refine lv_ishl hx hb dX11_isShireOrder_29 ?_
      refine lv_ior hx hb dX11_isShireOrder_30 ?_
      refine lv_topi (fun x1_31 ex1_31 => ?_)
      replace h := h x1_31 ex1_31
      refine lv_istore_n (lv' := [(1, .int x1_31), (0, .int x0), (2, .int x2)]) hx hb dX11_isShireOrder_31 rfl hl (by decide) rfl (fun ls hl => ?_)
      obtain ⟨x2_32, ex2_32⟩ : ∃ z : Int32, z = x2 + (1 : Int32) := ⟨_, rfl⟩
      replace h := h x2_32 ex2_32
      refine lv_iinc (v := x2_32) (lv' := [(2, .int x2_32), (1, .int x1_31), (0, .int x0)]) hx hb dX11_isShireOrder_32 hl (k := 2) rfl (by rw [ex2_32, ki_1]) (by decide) rfl (fun ls hl => ?_)
      refine lv_goto (tgt := 17) hx hb dX11_isShireOrder_35 (by decide) ?_
      exact kk17 _ h H locs ls hW hS (lv_sub hl [2, 1, 0] rfl)
  unfold s_X11_isShireOrder at h
  refine lv_iload_n hx hb dX11_isShireOrder_0 rfl (lv_at hl 0 rfl) ?_
  refine lv_iconst hx hb dX11_isShireOrder_1 ki_0 ?_
  refine lv_sipush hx hb dX11_isShireOrder_2 ks_255 ?_
  refine m_ci0 (m_rS S hKX hW (m_szH hbs hS) (c_X11_within l ) h lk_X11_43 rfl hl.1 rfl ⟨Nat.le_of_ble_eq_true rfl, Nat.le_of_ble_eq_true rfl⟩ (Nat.le_of_ble_eq_true rfl) ⟨Nat.le_of_ble_eq_true rfl, Nat.le_of_ble_eq_true rfl⟩ dX11_isShireOrder_5) hS rfl rfl (fun rr5 Mm5 H locs h hW hS => ?_)
  refine lv_if_ne (tgt := 13) hx hb dX11_isShireOrder_8 (by decide) (fun c8 => ?_) (fun c8 => ?_)
  · replace h := h.1 c8
    refine lv_iconst hx hb dX11_isShireOrder_13 ki_0 ?_
    refine lv_istore_n (lv' := [(1, .int (0 : Int32)), (0, .int x0)]) hx hb dX11_isShireOrder_14 rfl hl (by decide) rfl (fun ls hl => ?_)
    refine lv_iconst hx hb dX11_isShireOrder_15 ki_0 ?_
    refine lv_istore_n (lv' := [(2, .int (0 : Int32)), (1, .int (0 : Int32)), (0, .int x0)]) hx hb dX11_isShireOrder_16 rfl hl (by decide) rfl (fun ls hl => ?_)
    obtain ⟨n17, h⟩ := h
    exact w17 n17 _ h H locs ls hW hS (lv_sub hl [2, 1, 0] rfl)
  · replace h := h.2 c8
    refine lv_iconst hx hb dX11_isShireOrder_11 ki_0 ?_
    exact m_iret S hret hlocks hKX hW hbs hS rfl h dX11_isShireOrder_12
abbrev rm_X11_parted : Room := { frames := 5, cells := 0, slots := 0, locals := 123 }
set_option maxHeartbeats 4000000 in
set_option maxRecDepth 100000 in
theorem c_X11_parted (l : Launch) {G : Gn} {M : Mem} {x1 : Int32} {x2 : Int32} {x3 : Int32} {x4 : Int32} {P : Int32 → Mem → Prop} : MQi l yX11_parted cX11_parted 9 (some .int) rm_X11_parted [.ref (ad G 0 0), .int x1, .int x2, .int x3, .int x4] G M (s_X11_parted M x1 x2 x3 x4 P) P := by
  refine m_enter (by decide +kernel) (Nat.le_of_ble_eq_true rfl) ?_
  intro p e s m below meth c ls H locs S hret hlocks hname hKX hbs hW hS hl h
  obtain ⟨AV, hAV⟩ : ∃ z : Array Value, z = ([.ref (ad G 0 0), .int x1, .int x2, .int x3, .int x4] : List Value).toArray := ⟨_, rfl⟩
  rw [← hAV] at S ⊢
  replace S : CallFix p m c cX11_parted 9 s AV lw_G "MilkDesk" := S
  have hK := hKX.1
  have hx := S.1
  have hb := S.2.1
  have hml := S.2.2.1
  have hown := S.2.2.2.1
  have hts := S.2.2.2.2
  replace hl : lv_has ls 9 [(0, .ref (ad G 0 0)), (1, .int x1), (2, .int x2), (3, .int x3), (4, .int x4)] := hl
  have w55 : ∀ (n : Nat) (a : Mem × Int32 × Int32), Lz (fun (K55 : Mem × Int32 × Int32 → Prop) (a : Mem × Int32 × Int32) => s_X11_parted_55 x2 x3 x4 P K55 a.1 a.2.1 a.2.2) n a → ∀ (H : Heap) (locs : List Loc) (ls : Array Slot), WPm G a.1 H → va_S (fun q => bs G ≤ q) s.heap H locs → lv_has ls 9 [(0, .ref (ad G 0 0)), (2, .int x2), (3, .int x3), (4, .int x4), (5, .int a.2.1), (6, .int a.2.2)] → W p l e rm_X11_parted s m AV below meth c H locs 0 0 (MQ below (va_Qi P (WS G) (fun q => bs G ≤ q)) AV s 0 0 (fun q => bs G ≤ q)) (F0 m 55 ls []) := by
    refine Lz_walk ?_
    rintro K55 kk55 ⟨M, x5, x6⟩ h H locs ls hW hS hl
    replace h : s_X11_parted_55 x2 x3 x4 P K55 M x5 x6 := h
    replace hW : WPm G M H := hW
    replace hl : lv_has ls 9 [(0, .ref (ad G 0 0)), (2, .int x2), (3, .int x3), (4, .int x4), (5, .int x5), (6, .int x6)] := hl
    unfold s_X11_parted_55 at h
    refine lv_iload hx hb dX11_parted_55 (lv_at hl 5 rfl) ?_
    refine lv_iconst hx hb dX11_parted_57 ki_4 ?_
    refine lv_icmp_ge (tgt := 109) hx hb dX11_parted_58 (by decide) (fun c58 => ?_) (fun c58 => ?_)
    · replace h := h.1 c58
      refine lv_iconst hx hb dX11_parted_109 ki_0 ?_
      exact m_iret S hret hlocks hKX hW hbs hS rfl h dX11_parted_110
    · replace h := h.2 c58
      refine lv_iload_n hx hb dX11_parted_61 rfl (lv_at hl 2 rfl) ?_
      refine lv_iload hx hb dX11_parted_62 (lv_at hl 5 rfl) ?_
      refine m_ci0 (m_rS S hKX hW (m_szH hbs hS) (c_X11_digit l ) h lk_X11_239 rfl hl.1 rfl ⟨Nat.le_of_ble_eq_true rfl, Nat.le_of_ble_eq_true rfl⟩ (Nat.le_of_ble_eq_true rfl) ⟨Nat.le_of_ble_eq_true rfl, Nat.le_of_ble_eq_true rfl⟩ dX11_parted_64) hS rfl rfl (fun rr64 Mm64 H locs h hW hS => ?_)
      refine lv_istore (lv' := [(7, .int rr64), (0, .ref (ad G 0 0)), (2, .int x2), (3, .int x3), (4, .int x4), (5, .int x5), (6, .int x6)]) hx hb dX11_parted_67 hl (by decide) rfl (fun ls hl => ?_)
      refine lv_iload hx hb dX11_parted_69 (lv_at hl 5 rfl) ?_
      refine lv_aload_n hx hb dX11_parted_71 rfl (lv_at hl 1 rfl) ?_
      refine m_getr S hK fk_X11_12 (gr_0_0 G 0) hW (ci_0 (Nat.le_of_ble_eq_true rfl)) dX11_parted_72 ?_
      refine lv_iload hx hb dX11_parted_75 (lv_at hl 0 rfl) ?_
      refine lv_iload_n hx hb dX11_parted_77 rfl (lv_at hl 2 rfl) ?_
      refine m_ci0 (m_rV S hKX hW (m_szH hbs hS) (c_X10_orderedInShire l (Nat.le_of_ble_eq_true rfl)) h lk_X11_242 (m_recv hK hW (ci_1 (Nat.le_of_ble_eq_true rfl)) (rc_1 G) rfl) rfl hl.1 rfl ⟨Nat.le_of_ble_eq_true rfl, Nat.le_of_ble_eq_true rfl⟩ (Nat.le_of_ble_eq_true rfl) ⟨Nat.le_of_ble_eq_true rfl, Nat.le_of_ble_eq_true rfl⟩ dX11_parted_78) hS rfl rfl (fun rr78 Mm78 H locs h hW hS => ?_)
      refine va_mmin hx hb (hml.trans hl.1.symm) hown (hts _ mw_818) (hts _ mw_473) (hts _ mw_13) (hts _ mw_474) (Nat.le_of_ble_eq_true rfl) (Nat.le_of_ble_eq_true rfl) (Nat.zero_le _) (Nat.zero_le _) dX11_parted_81 ?_
      refine lv_topi (fun x8_84 ex8_84 => ?_)
      replace h := h x8_84 ex8_84
      refine lv_istore (lv' := [(8, .int x8_84), (7, .int rr64), (0, .ref (ad G 0 0)), (2, .int x2), (3, .int x3), (4, .int x4), (5, .int x5), (6, .int x6)]) hx hb dX11_parted_84 hl (by decide) rfl (fun ls hl => ?_)
      refine lv_iload hx hb dX11_parted_86 (lv_at hl 1 rfl) ?_
      refine lv_iload hx hb dX11_parted_88 (lv_at hl 5 rfl) ?_
      refine lv_icmp_ne (tgt := 96) hx hb dX11_parted_90 (by decide) (fun c90 => ?_) (fun c90 => ?_)
      · replace h := h.1 c90
        refine lv_iload hx hb dX11_parted_96 (lv_at hl 6 rfl) ?_
        refine lv_iload hx hb dX11_parted_98 (lv_at hl 0 rfl) ?_
        refine lv_isub hx hb dX11_parted_100 ?_
        refine lv_topi (fun x5_101 ex5_101 => ?_)
        replace h := h x5_101 ex5_101
        refine lv_istore (lv' := [(5, .int x5_101), (8, .int x8_84), (7, .int rr64), (0, .ref (ad G 0 0)), (2, .int x2), (3, .int x3), (4, .int x4), (6, .int x6)]) hx hb dX11_parted_101 hl (by decide) rfl (fun ls hl => ?_)
        obtain ⟨x6_103, ex6_103⟩ : ∃ z : Int32, z = x6 + (1 : Int32) := ⟨_, rfl⟩
        replace h := h x6_103 ex6_103
        refine lv_iinc (v := x6_103) (lv' := [(6, .int x6_103), (5, .int x5_101), (8, .int x8_84), (7, .int rr64), (0, .ref (ad G 0 0)), (2, .int x2), (3, .int x3), (4, .int x4)]) hx hb dX11_parted_103 hl (k := 7) rfl (by rw [ex6_103, ki_1]) (by decide) rfl (fun ls hl => ?_)
        refine lv_goto (tgt := 55) hx hb dX11_parted_106 (by decide) ?_
        exact kk55 _ h H locs ls hW hS (lv_sub hl [4, 5, 6, 7, 1, 0] rfl)
      · replace h := h.2 c90
        refine lv_iload hx hb dX11_parted_93 (lv_at hl 0 rfl) ?_
        exact m_iret S hret hlocks hKX hW hbs hS rfl h dX11_parted_95
  unfold s_X11_parted at h
  refine lv_iload_n hx hb dX11_parted_0 rfl (lv_at hl 1 rfl) ?_
  refine lv_iconst hx hb dX11_parted_1 ki_0 ?_
  refine lv_sipush hx hb dX11_parted_2 ks_9999 ?_
  refine m_ci0 (m_rS S hKX hW (m_szH hbs hS) (c_X11_within l ) h lk_X11_43 rfl hl.1 rfl ⟨Nat.le_of_ble_eq_true rfl, Nat.le_of_ble_eq_true rfl⟩ (Nat.le_of_ble_eq_true rfl) ⟨Nat.le_of_ble_eq_true rfl, Nat.le_of_ble_eq_true rfl⟩ dX11_parted_5) hS rfl rfl (fun rr5 Mm5 H locs h hW hS => ?_)
  refine lv_if_eq (tgt := 28) hx hb dX11_parted_8 (by decide) (fun c8 => ?_) (fun c8 => ?_)
  · replace h := h.1 c8
    refine lv_iconst hx hb dX11_parted_28 ki_m1 ?_
    exact m_iret S hret hlocks hKX hW hbs hS rfl h dX11_parted_29
  · replace h := h.2 c8
    refine lv_iload_n hx hb dX11_parted_11 rfl (lv_at hl 2 rfl) ?_
    refine lv_aload_n hx hb dX11_parted_12 rfl (lv_at hl 0 rfl) ?_
    refine m_getr S hK fk_X11_12 (gr_0_0 G 0) hW (ci_0 (Nat.le_of_ble_eq_true rfl)) dX11_parted_13 ?_
    refine m_geti S hK fk_X11_115 (gi_1_0 G) hW (ci_1 (Nat.le_of_ble_eq_true rfl)) dX11_parted_16 ?_
    refine lv_sipush hx hb dX11_parted_19 ks_400 ?_
    refine m_ci0 (m_rS S hKX hW (m_szH hbs hS) (c_X11_within l ) h lk_X11_43 rfl hl.1 rfl ⟨Nat.le_of_ble_eq_true rfl, Nat.le_of_ble_eq_true rfl⟩ (Nat.le_of_ble_eq_true rfl) ⟨Nat.le_of_ble_eq_true rfl, Nat.le_of_ble_eq_true rfl⟩ dX11_parted_22) hS rfl rfl (fun rr22 Mm22 H locs h hW hS => ?_)
    refine lv_if_ne (tgt := 30) hx hb dX11_parted_25 (by decide) (fun c25 => ?_) (fun c25 => ?_)
    · replace h := h.1 c25
      refine lv_iload_n hx hb dX11_parted_30 rfl (lv_at hl 3 rfl) ?_
      refine m_ci0 (m_rS S hKX hW (m_szH hbs hS) (c_X11_isShireOrder l ) h lk_X11_236 rfl hl.1 rfl ⟨Nat.le_of_ble_eq_true rfl, Nat.le_of_ble_eq_true rfl⟩ (Nat.le_of_ble_eq_true rfl) ⟨Nat.le_of_ble_eq_true rfl, Nat.le_of_ble_eq_true rfl⟩ dX11_parted_31) hS rfl rfl (fun rr31 Mm31 H locs h hW hS => ?_)
      refine lv_if_eq (tgt := 47) hx hb dX11_parted_34 (by decide) (fun c34 => ?_) (fun c34 => ?_)
      · replace h := h.1 c34
        refine lv_iconst hx hb dX11_parted_47 ki_m1 ?_
        exact m_iret S hret hlocks hKX hW hbs hS rfl h dX11_parted_48
      · replace h := h.2 c34
        refine lv_iload hx hb dX11_parted_37 (lv_at hl 4 rfl) ?_
        refine lv_iconst hx hb dX11_parted_39 ki_0 ?_
        refine lv_iconst hx hb dX11_parted_40 ki_3 ?_
        refine m_ci0 (m_rS S hKX hW (m_szH hbs hS) (c_X11_within l ) h lk_X11_43 rfl hl.1 rfl ⟨Nat.le_of_ble_eq_true rfl, Nat.le_of_ble_eq_true rfl⟩ (Nat.le_of_ble_eq_true rfl) ⟨Nat.le_of_ble_eq_true rfl, Nat.le_of_ble_eq_true rfl⟩ dX11_parted_41) hS rfl rfl (fun rr41 Mm41 H locs h hW hS => ?_)
        refine lv_if_ne (tgt := 49) hx hb dX11_parted_44 (by decide) (fun c44 => ?_) (fun c44 => ?_)
        · replace h := h.1 c44
          refine lv_iload_n hx hb dX11_parted_49 rfl (lv_at hl 1 rfl) ?_
          refine lv_istore (lv' := [(5, .int x1), (0, .ref (ad G 0 0)), (1, .int x1), (2, .int x2), (3, .int x3), (4, .int x4)]) hx hb dX11_parted_50 hl (by decide) rfl (fun ls hl => ?_)
          refine lv_iconst hx hb dX11_parted_52 ki_0 ?_
          refine lv_istore (lv' := [(6, .int (0 : Int32)), (5, .int x1), (0, .ref (ad G 0 0)), (1, .int x1), (2, .int x2), (3, .int x3), (4, .int x4)]) hx hb dX11_parted_53 hl (by decide) rfl (fun ls hl => ?_)
          obtain ⟨n55, h⟩ := h
          exact w55 n55 _ h H locs ls hW hS (lv_sub hl [2, 4, 5, 6, 1, 0] rfl)
        · replace h := h.2 c44
          refine lv_iconst hx hb dX11_parted_47 ki_m1 ?_
          exact m_iret S hret hlocks hKX hW hbs hS rfl h dX11_parted_48
    · replace h := h.2 c25
      refine lv_iconst hx hb dX11_parted_28 ki_m1 ?_
      exact m_iret S hret hlocks hKX hW hbs hS rfl h dX11_parted_29
abbrev rm_X11_away : Room := { frames := 7, cells := 0, slots := 0, locals := 177 }
set_option maxHeartbeats 4000000 in
set_option maxRecDepth 100000 in
theorem c_X11_away (l : Launch) {G : Gn} {M : Mem} {x1 : Int32} {x2 : Int32} {x3 : Int32} {P : Int32 → Mem → Prop} : MQi l yX11_away cX11_away 6 (some .int) rm_X11_away [.ref (ad G 0 0), .int x1, .int x2, .int x3] G M (s_X11_away M x1 x2 x3 P) P := by
  refine m_enter (by decide +kernel) (Nat.le_of_ble_eq_true rfl) ?_
  intro p e s m below meth c ls H locs S hret hlocks hname hKX hbs hW hS hl h
  obtain ⟨AV, hAV⟩ : ∃ z : Array Value, z = ([.ref (ad G 0 0), .int x1, .int x2, .int x3] : List Value).toArray := ⟨_, rfl⟩
  rw [← hAV] at S ⊢
  replace S : CallFix p m c cX11_away 6 s AV lw_G "MilkDesk" := S
  have hK := hKX.1
  have hx := S.1
  have hb := S.2.1
  have hml := S.2.2.1
  have hown := S.2.2.2.1
  have hts := S.2.2.2.2
  replace hl : lv_has ls 6 [(0, .ref (ad G 0 0)), (1, .int x1), (2, .int x2), (3, .int x3)] := hl
  have b69 : ∀ (M : Mem) (y0 : Int32) (H : Heap) (locs : List Loc) (ls : Array Slot), WPm G M H → va_S (fun q => bs G ≤ q) s.heap H locs → lv_has ls 6 [(0, .ref (ad G 0 0)), (1, .int x1), (2, .int x2)] → s_X11_away_69 x1 x2 P M y0 → W p l e rm_X11_away s m AV below meth c H locs 0 0 (MQ below (va_Qi P (WS G) (fun q => bs G ≤ q)) AV s 0 0 (fun q => bs G ≤ q)) (F0 m 69 ls [.int y0]) := by
    intro M y0 H locs ls hW hS hl h
    unfold s_X11_away_69 at h
    refine lv_istore (lv' := [(4, .int y0), (0, .ref (ad G 0 0)), (1, .int x1), (2, .int x2)]) hx hb dX11_away_69 hl (by decide) rfl (fun ls hl => ?_)
    refine lv_aload_n hx hb dX11_away_71 rfl (lv_at hl 1 rfl) ?_
    refine m_getr S hK fk_X11_19 (gr_0_2 G 0) hW (ci_0 (Nat.le_of_ble_eq_true rfl)) dX11_away_72 ?_
    refine lv_aload_n hx hb dX11_away_75 rfl (lv_at hl 1 rfl) ?_
    refine m_getr S hK fk_X11_12 (gr_0_0 G 0) hW (ci_0 (Nat.le_of_ble_eq_true rfl)) dX11_away_76 ?_
    refine m_cv0 (m_rV S hKX hW (m_szH hbs hS) (c_X10_copyFrom l (Nat.le_of_ble_eq_true rfl) (Nat.le_of_ble_eq_true rfl)) h lk_X11_226 (m_recv hK hW (ci_1 (Nat.le_of_ble_eq_true rfl)) (rc_1 G) rfl) rfl hl.1 rfl ⟨Nat.le_of_ble_eq_true rfl, Nat.le_of_ble_eq_true rfl⟩ (Nat.le_of_ble_eq_true rfl) ⟨Nat.le_of_ble_eq_true rfl, Nat.le_of_ble_eq_true rfl⟩ dX11_away_79) hS rfl rfl (fun Mm79 H locs h hW hS => ?_)
    refine lv_aload_n hx hb dX11_away_82 rfl (lv_at hl 1 rfl) ?_
    refine m_getr S hK fk_X11_19 (gr_0_2 G 0) hW (ci_0 (Nat.le_of_ble_eq_true rfl)) dX11_away_83 ?_
    refine lv_iload_n hx hb dX11_away_86 rfl (lv_at hl 3 rfl) ?_
    refine lv_iconst hx hb dX11_away_87 ki_m1 ?_
    refine m_cv0 (m_rV S hKX hW (m_szH hbs hS) (c_X10_passDays l (Nat.le_of_ble_eq_true rfl)) h lk_X11_167 (m_recv hK hW (ci_1 (Nat.le_of_ble_eq_true rfl)) (rc_1 G) rfl) rfl hl.1 rfl ⟨Nat.le_of_ble_eq_true rfl, Nat.le_of_ble_eq_true rfl⟩ (Nat.le_of_ble_eq_true rfl) ⟨Nat.le_of_ble_eq_true rfl, Nat.le_of_ble_eq_true rfl⟩ dX11_away_88) hS rfl rfl (fun Mm88 H locs h hW hS => ?_)
    refine lv_aload_n hx hb dX11_away_91 rfl (lv_at hl 1 rfl) ?_
    refine m_getr S hK fk_X11_19 (gr_0_2 G 0) hW (ci_0 (Nat.le_of_ble_eq_true rfl)) dX11_away_92 ?_
    refine m_getr S hK fk_X11_47 (gr_1_1 G 2) hW (ci_1 (Nat.le_of_ble_eq_true rfl)) dX11_away_95 ?_
    refine lv_iload hx hb dX11_away_98 (lv_at hl 0 rfl) ?_
    refine m_ci0 (m_rV S hKX hW (m_szH hbs hS) (c_X8_all l (Nat.le_of_ble_eq_true rfl)) h lk_X11_246 (m_recv hK hW (ci_2 (Nat.le_of_ble_eq_true rfl)) (rc_2 G) rfl) rfl hl.1 rfl ⟨Nat.le_of_ble_eq_true rfl, Nat.le_of_ble_eq_true rfl⟩ (Nat.le_of_ble_eq_true rfl) ⟨Nat.le_of_ble_eq_true rfl, Nat.le_of_ble_eq_true rfl⟩ dX11_away_100) hS rfl rfl (fun rr100 Mm100 H locs h hW hS => ?_)
    refine lv_istore (lv' := [(5, .int rr100), (4, .int y0), (0, .ref (ad G 0 0)), (1, .int x1), (2, .int x2)]) hx hb dX11_away_103 hl (by decide) rfl (fun ls hl => ?_)
    refine lv_aload_n hx hb dX11_away_105 rfl (lv_at hl 2 rfl) ?_
    refine m_getr S hK fk_X11_19 (gr_0_2 G 0) hW (ci_0 (Nat.le_of_ble_eq_true rfl)) dX11_away_106 ?_
    refine lv_aload_n hx hb dX11_away_109 rfl (lv_at hl 2 rfl) ?_
    refine m_getr S hK fk_X11_12 (gr_0_0 G 0) hW (ci_0 (Nat.le_of_ble_eq_true rfl)) dX11_away_110 ?_
    refine m_cv0 (m_rV S hKX hW (m_szH hbs hS) (c_X10_copyFrom l (Nat.le_of_ble_eq_true rfl) (Nat.le_of_ble_eq_true rfl)) h lk_X11_226 (m_recv hK hW (ci_1 (Nat.le_of_ble_eq_true rfl)) (rc_1 G) rfl) rfl hl.1 rfl ⟨Nat.le_of_ble_eq_true rfl, Nat.le_of_ble_eq_true rfl⟩ (Nat.le_of_ble_eq_true rfl) ⟨Nat.le_of_ble_eq_true rfl, Nat.le_of_ble_eq_true rfl⟩ dX11_away_113) hS rfl rfl (fun Mm113 H locs h hW hS => ?_)
    refine lv_aload_n hx hb dX11_away_116 rfl (lv_at hl 2 rfl) ?_
    refine m_getr S hK fk_X11_19 (gr_0_2 G 0) hW (ci_0 (Nat.le_of_ble_eq_true rfl)) dX11_away_117 ?_
    refine lv_iload_n hx hb dX11_away_120 rfl (lv_at hl 4 rfl) ?_
    refine lv_iload_n hx hb dX11_away_121 rfl (lv_at hl 3 rfl) ?_
    refine m_cv0 (m_rV S hKX hW (m_szH hbs hS) (c_X10_passDays l (Nat.le_of_ble_eq_true rfl)) h lk_X11_167 (m_recv hK hW (ci_1 (Nat.le_of_ble_eq_true rfl)) (rc_1 G) rfl) rfl hl.1 rfl ⟨Nat.le_of_ble_eq_true rfl, Nat.le_of_ble_eq_true rfl⟩ (Nat.le_of_ble_eq_true rfl) ⟨Nat.le_of_ble_eq_true rfl, Nat.le_of_ble_eq_true rfl⟩ dX11_away_122) hS rfl rfl (fun Mm122 H locs h hW hS => ?_)
    refine lv_iload hx hb dX11_away_125 (lv_at hl 0 rfl) ?_
    refine lv_aload_n hx hb dX11_away_127 rfl (lv_at hl 2 rfl) ?_
    refine m_getr S hK fk_X11_19 (gr_0_2 G 0) hW (ci_0 (Nat.le_of_ble_eq_true rfl)) dX11_away_128 ?_
    refine m_getr S hK fk_X11_47 (gr_1_1 G 2) hW (ci_1 (Nat.le_of_ble_eq_true rfl)) dX11_away_131 ?_
    refine lv_iload hx hb dX11_away_134 (lv_at hl 1 rfl) ?_
    refine m_ci0 (m_rV S hKX hW (m_szH hbs hS) (c_X8_all l (Nat.le_of_ble_eq_true rfl)) h lk_X11_246 (m_recv hK hW (ci_2 (Nat.le_of_ble_eq_true rfl)) (rc_2 G) rfl) rfl hl.1 rfl ⟨Nat.le_of_ble_eq_true rfl, Nat.le_of_ble_eq_true rfl⟩ (Nat.le_of_ble_eq_true rfl) ⟨Nat.le_of_ble_eq_true rfl, Nat.le_of_ble_eq_true rfl⟩ dX11_away_136) hS rfl rfl (fun rr136 Mm136 H locs h hW hS => ?_)
    refine lv_isub hx hb dX11_away_139 ?_
    exact m_iret S hret hlocks hKX hW hbs hS rfl h dX11_away_140
  unfold s_X11_away at h
  refine lv_iload_n hx hb dX11_away_0 rfl (lv_at hl 1 rfl) ?_
  refine lv_iconst hx hb dX11_away_1 ki_0 ?_
  refine lv_iconst hx hb dX11_away_2 ki_2 ?_
  refine m_ci0 (m_rS S hKX hW (m_szH hbs hS) (c_X11_within l ) h lk_X11_43 rfl hl.1 rfl ⟨Nat.le_of_ble_eq_true rfl, Nat.le_of_ble_eq_true rfl⟩ (Nat.le_of_ble_eq_true rfl) ⟨Nat.le_of_ble_eq_true rfl, Nat.le_of_ble_eq_true rfl⟩ dX11_away_3) hS rfl rfl (fun rr3 Mm3 H locs h hW hS => ?_)
  refine lv_if_eq (tgt := 28) hx hb dX11_away_6 (by decide) (fun c6 => ?_) (fun c6 => ?_)
  · replace h := h.1 c6
    refine lv_ldc hx hb hown (hts _ mw_813) dX11_away_28 ?_
    exact m_iret S hret hlocks hKX hW hbs hS rfl h dX11_away_30
  · replace h := h.2 c6
    refine lv_iload_n hx hb dX11_away_9 rfl (lv_at hl 2 rfl) ?_
    refine lv_iconst hx hb dX11_away_10 ki_1 ?_
    refine lv_bipush hx hb dX11_away_11 kb_60 ?_
    refine m_ci0 (m_rS S hKX hW (m_szH hbs hS) (c_X11_within l ) h lk_X11_43 rfl hl.1 rfl ⟨Nat.le_of_ble_eq_true rfl, Nat.le_of_ble_eq_true rfl⟩ (Nat.le_of_ble_eq_true rfl) ⟨Nat.le_of_ble_eq_true rfl, Nat.le_of_ble_eq_true rfl⟩ dX11_away_13) hS rfl rfl (fun rr13 Mm13 H locs h hW hS => ?_)
    refine lv_if_eq (tgt := 28) hx hb dX11_away_16 (by decide) (fun c16 => ?_) (fun c16 => ?_)
    · replace h := h.1 c16
      refine lv_ldc hx hb hown (hts _ mw_813) dX11_away_28 ?_
      exact m_iret S hret hlocks hKX hW hbs hS rfl h dX11_away_30
    · replace h := h.2 c16
      refine lv_iload_n hx hb dX11_away_19 rfl (lv_at hl 3 rfl) ?_
      refine lv_iconst hx hb dX11_away_20 ki_0 ?_
      refine lv_iconst hx hb dX11_away_21 ki_2 ?_
      refine m_ci0 (m_rS S hKX hW (m_szH hbs hS) (c_X11_within l ) h lk_X11_43 rfl hl.1 rfl ⟨Nat.le_of_ble_eq_true rfl, Nat.le_of_ble_eq_true rfl⟩ (Nat.le_of_ble_eq_true rfl) ⟨Nat.le_of_ble_eq_true rfl, Nat.le_of_ble_eq_true rfl⟩ dX11_away_22) hS rfl rfl (fun rr22 Mm22 H locs h hW hS => ?_)
      refine lv_if_ne (tgt := 31) hx hb dX11_away_25 (by decide) (fun c25 => ?_) (fun c25 => ?_)
      · replace h := h.1 c25
        refine lv_aload_n hx hb dX11_away_31 rfl (lv_at hl 0 rfl) ?_
        refine m_getr S hK fk_X11_12 (gr_0_0 G 0) hW (ci_0 (Nat.le_of_ble_eq_true rfl)) dX11_away_32 ?_
        refine m_geti S hK fk_X11_115 (gi_1_0 G) hW (ci_1 (Nat.le_of_ble_eq_true rfl)) dX11_away_35 ?_
        refine lv_iload_n hx hb dX11_away_38 rfl (lv_at hl 2 rfl) ?_
        refine lv_iadd hx hb dX11_away_39 ?_
        refine lv_sipush hx hb dX11_away_40 ks_400 ?_
        refine lv_icmp_le (tgt := 49) hx hb dX11_away_43 (by decide) (fun c43 => ?_) (fun c43 => ?_)
        · replace h := h.1 c43
          refine lv_iload_n hx hb dX11_away_49 rfl (lv_at hl 3 rfl) ?_
          refine lv_if_ne (tgt := 57) hx hb dX11_away_50 (by decide) (fun c50 => ?_) (fun c50 => ?_)
          · replace h := h.1 c50
            refine lv_iload_n hx hb dX11_away_57 rfl (lv_at hl 3 rfl) ?_
            refine lv_iconst hx hb dX11_away_58 ki_1 ?_
            refine lv_icmp_ne (tgt := 67) hx hb dX11_away_59 (by decide) (fun c59 => ?_) (fun c59 => ?_)
            · replace h := h.1 c59
              refine lv_bipush hx hb dX11_away_67 kb_8 ?_
              exact b69 _ _ H locs ls hW hS (lv_sub hl [0, 1, 2] rfl) h
            · replace h := h.2 c59
              refine lv_bipush hx hb dX11_away_62 kb_10 ?_
              refine lv_goto (tgt := 69) hx hb dX11_away_64 (by decide) ?_
              exact b69 _ _ H locs ls hW hS (lv_sub hl [0, 1, 2] rfl) h
          · replace h := h.2 c50
            refine lv_iconst hx hb dX11_away_53 ki_5 ?_
            refine lv_goto (tgt := 69) hx hb dX11_away_54 (by decide) ?_
            exact b69 _ _ H locs ls hW hS (lv_sub hl [0, 1, 2] rfl) h
        · replace h := h.2 c43
          refine lv_ldc hx hb hown (hts _ mw_923) dX11_away_46 ?_
          exact m_iret S hret hlocks hKX hW hbs hS rfl h dX11_away_48
      · replace h := h.2 c25
        refine lv_ldc hx hb hown (hts _ mw_813) dX11_away_28 ?_
        exact m_iret S hret hlocks hKX hW hbs hS rfl h dX11_away_30
abbrev rm_X11_beside : Room := { frames := 3, cells := 0, slots := 0, locals := 72 }
set_option maxHeartbeats 4000000 in
set_option maxRecDepth 100000 in
theorem c_X11_beside (l : Launch) {G : Gn} {M : Mem} {x1 : Int32} {x2 : Int32} {x3 : Int32} {P : Int32 → Mem → Prop} : MQi l yX11_beside cX11_beside 10 (some .int) rm_X11_beside [.ref (ad G 0 0), .int x1, .int x2, .int x3] G M (s_X11_beside M x1 x2 x3 P) P := by
  refine m_enter (by decide +kernel) (Nat.le_of_ble_eq_true rfl) ?_
  intro p e s m below meth c ls H locs S hret hlocks hname hKX hbs hW hS hl h
  obtain ⟨AV, hAV⟩ : ∃ z : Array Value, z = ([.ref (ad G 0 0), .int x1, .int x2, .int x3] : List Value).toArray := ⟨_, rfl⟩
  rw [← hAV] at S ⊢
  replace S : CallFix p m c cX11_beside 10 s AV lw_G "MilkDesk" := S
  have hK := hKX.1
  have hx := S.1
  have hb := S.2.1
  have hml := S.2.2.1
  have hown := S.2.2.2.1
  have hts := S.2.2.2.2
  replace hl : lv_has ls 10 [(0, .ref (ad G 0 0)), (1, .int x1), (2, .int x2), (3, .int x3)] := hl
  have w62 : ∀ (d2 : Nat) (hi_d2 : d2 < 8), ∀ (n : Nat) (a : Mem × Int32 × Int32 × Int32), Lz (fun (K62 : Mem × Int32 × Int32 × Int32 → Prop) (a : Mem × Int32 × Int32 × Int32) => s_X11_beside_62 d2 x2 x3 P K62 a.1 a.2.1 a.2.2.1 a.2.2.2) n a → ∀ (H : Heap) (locs : List Loc) (ls : Array Slot), WPm G a.1 H → va_S (fun q => bs G ≤ q) s.heap H locs → lv_has ls 10 [(0, .ref (ad G 0 0)), (2, .int x2), (3, .int x3), (4, .ref (ad G 7 d2)), (6, .int a.2.1), (7, .int a.2.2.1), (8, .int a.2.2.2)] → W p l e rm_X11_beside s m AV below meth c H locs 0 0 (MQ below (va_Qi P (WS G) (fun q => bs G ≤ q)) AV s 0 0 (fun q => bs G ≤ q)) (F0 m 62 ls []) := by
    intro d2 hi_d2
    refine Lz_walk ?_
    rintro K62 kk62 ⟨M, x6, x7, x8⟩ h H locs ls hW hS hl
    replace h : s_X11_beside_62 d2 x2 x3 P K62 M x6 x7 x8 := h
    replace hW : WPm G M H := hW
    replace hl : lv_has ls 10 [(0, .ref (ad G 0 0)), (2, .int x2), (3, .int x3), (4, .ref (ad G 7 d2)), (6, .int x6), (7, .int x7), (8, .int x8)] := hl
    have w80 : ∀ (x8 : Int32), ∀ (n : Nat) (a : Mem × Int32 × Int32 × Int32), Lz (fun (K80 : Mem × Int32 × Int32 × Int32 → Prop) (a : Mem × Int32 × Int32 × Int32) => s_X11_beside_80 d2 x2 x3 x8 P K62 K80 a.1 a.2.1 a.2.2.1 a.2.2.2) n a → ∀ (H : Heap) (locs : List Loc) (ls : Array Slot), WPm G a.1 H → va_S (fun q => bs G ≤ q) s.heap H locs → lv_has ls 10 [(0, .ref (ad G 0 0)), (2, .int x2), (3, .int x3), (4, .ref (ad G 7 d2)), (6, .int a.2.1), (7, .int a.2.2.1), (8, .int x8), (9, .int a.2.2.2)] → W p l e rm_X11_beside s m AV below meth c H locs 0 0 (MQ below (va_Qi P (WS G) (fun q => bs G ≤ q)) AV s 0 0 (fun q => bs G ≤ q)) (F0 m 80 ls []) := by
      intro x8
      refine Lz_walk ?_
      rintro K80 kk80 ⟨M, x6, x7, x9⟩ h H locs ls hW hS hl
      replace h : s_X11_beside_80 d2 x2 x3 x8 P K62 K80 M x6 x7 x9 := h
      replace hW : WPm G M H := hW
      replace hl : lv_has ls 10 [(0, .ref (ad G 0 0)), (2, .int x2), (3, .int x3), (4, .ref (ad G 7 d2)), (6, .int x6), (7, .int x7), (8, .int x8), (9, .int x9)] := hl
      unfold s_X11_beside_80 at h
      refine lv_iload hx hb dX11_beside_80 (lv_at hl 7 rfl) ?_
      refine lv_aload_n hx hb dX11_beside_82 rfl (lv_at hl 0 rfl) ?_
      refine m_getr S hK fk_X11_12 (gr_0_0 G 0) hW (ci_0 (Nat.le_of_ble_eq_true rfl)) dX11_beside_83 ?_
      refine m_getr S hK fk_X11_47 (gr_1_1 G 0) hW (ci_1 (Nat.le_of_ble_eq_true rfl)) dX11_beside_86 ?_
      refine m_geti S hK fk_X11_51 (gi_2_0 G) hW (ci_2 (Nat.le_of_ble_eq_true rfl)) dX11_beside_89 ?_
      refine lv_icmp_ge (tgt := 183) hx hb dX11_beside_92 (by decide) (fun c92 => ?_) (fun c92 => ?_)
      · replace h := h.1 c92
        obtain ⟨x8_183, ex8_183⟩ : ∃ z : Int32, z = x8 + (1 : Int32) := ⟨_, rfl⟩
        replace h := h x8_183 ex8_183
        refine lv_iinc (v := x8_183) (lv' := [(8, .int x8_183), (0, .ref (ad G 0 0)), (2, .int x2), (3, .int x3), (4, .ref (ad G 7 d2)), (6, .int x6), (7, .int x7), (9, .int x9)]) hx hb dX11_beside_183 hl (k := 6) rfl (by rw [ex8_183, ki_1]) (by decide) rfl (fun ls hl => ?_)
        refine lv_goto (tgt := 62) hx hb dX11_beside_186 (by decide) ?_
        exact kk62 _ h H locs ls hW hS (lv_sub hl [1, 2, 3, 4, 5, 6, 0] rfl)
      · replace h := h.2 c92
        refine lv_aload hx hb dX11_beside_95 (lv_at hl 3 rfl) ?_
        refine lv_iload hx hb dX11_beside_97 (lv_at hl 6 rfl) ?_
        refine lv_iconst hx hb dX11_beside_99 ki_1 ?_
        refine m_ci0 (m_rV S hKX hW (m_szH hbs hS) (c_X9_isAt l hi_d2) h lk_X11_250 (m_recv hK hW (ci_7 hi_d2) (rc_7 G) rfl) rfl hl.1 rfl ⟨Nat.le_of_ble_eq_true rfl, Nat.le_of_ble_eq_true rfl⟩ (Nat.le_of_ble_eq_true rfl) ⟨Nat.le_of_ble_eq_true rfl, Nat.le_of_ble_eq_true rfl⟩ dX11_beside_100) hS rfl rfl (fun rr100 Mm100 H locs h hW hS => ?_)
        refine lv_if_eq (tgt := 177) hx hb dX11_beside_103 (by decide) (fun c103 => ?_) (fun c103 => ?_)
        · replace h := h.1 c103
          obtain ⟨x9_177, ex9_177⟩ : ∃ z : Int32, z = x9 + (1 : Int32) := ⟨_, rfl⟩
          replace h := h x9_177 ex9_177
          refine lv_iinc (v := x9_177) (lv' := [(9, .int x9_177), (0, .ref (ad G 0 0)), (2, .int x2), (3, .int x3), (4, .ref (ad G 7 d2)), (6, .int x6), (7, .int x7), (8, .int x8)]) hx hb dX11_beside_177 hl (k := 7) rfl (by rw [ex9_177, ki_1]) (by decide) rfl (fun ls hl => ?_)
          refine lv_goto (tgt := 80) hx hb dX11_beside_180 (by decide) ?_
          exact kk80 _ h H locs ls hW hS (lv_sub hl [1, 2, 3, 4, 5, 6, 7, 0] rfl)
        · replace h := h.2 c103
          refine lv_aload hx hb dX11_beside_106 (lv_at hl 3 rfl) ?_
          refine lv_iload hx hb dX11_beside_108 (lv_at hl 7 rfl) ?_
          refine lv_iconst hx hb dX11_beside_110 ki_0 ?_
          refine m_ci0 (m_rV S hKX hW (m_szH hbs hS) (c_X9_isAt l hi_d2) h lk_X11_250 (m_recv hK hW (ci_7 hi_d2) (rc_7 G) rfl) rfl hl.1 rfl ⟨Nat.le_of_ble_eq_true rfl, Nat.le_of_ble_eq_true rfl⟩ (Nat.le_of_ble_eq_true rfl) ⟨Nat.le_of_ble_eq_true rfl, Nat.le_of_ble_eq_true rfl⟩ dX11_beside_111) hS rfl rfl (fun rr111 Mm111 H locs h hW hS => ?_)
          refine lv_if_eq (tgt := 177) hx hb dX11_beside_114 (by decide) (fun c114 => ?_) (fun c114 => ?_)
          · replace h := h.1 c114
            obtain ⟨x9_177, ex9_177⟩ : ∃ z : Int32, z = x9 + (1 : Int32) := ⟨_, rfl⟩
            replace h := h x9_177 ex9_177
            refine lv_iinc (v := x9_177) (lv' := [(9, .int x9_177), (0, .ref (ad G 0 0)), (2, .int x2), (3, .int x3), (4, .ref (ad G 7 d2)), (6, .int x6), (7, .int x7), (8, .int x8)]) hx hb dX11_beside_177 hl (k := 7) rfl (by rw [ex9_177, ki_1]) (by decide) rfl (fun ls hl => ?_)
            refine lv_goto (tgt := 80) hx hb dX11_beside_180 (by decide) ?_
            exact kk80 _ h H locs ls hW hS (lv_sub hl [1, 2, 3, 4, 5, 6, 7, 0] rfl)
          · replace h := h.2 c114
            refine lv_aload_n hx hb dX11_beside_117 rfl (lv_at hl 0 rfl) ?_
            refine m_getr S hK fk_X11_12 (gr_0_0 G 0) hW (ci_0 (Nat.le_of_ble_eq_true rfl)) dX11_beside_118 ?_
            refine lv_iload hx hb dX11_beside_121 (lv_at hl 6 rfl) ?_
            refine lv_iload hx hb dX11_beside_123 (lv_at hl 7 rfl) ?_
            refine lv_iload_n hx hb dX11_beside_125 rfl (lv_at hl 1 rfl) ?_
            refine m_ci0 (m_rV S hKX hW (m_szH hbs hS) (c_X10_areLike l (Nat.le_of_ble_eq_true rfl)) h lk_X11_254 (m_recv hK hW (ci_1 (Nat.le_of_ble_eq_true rfl)) (rc_1 G) rfl) rfl hl.1 rfl ⟨Nat.le_of_ble_eq_true rfl, Nat.le_of_ble_eq_true rfl⟩ (Nat.le_of_ble_eq_true rfl) ⟨Nat.le_of_ble_eq_true rfl, Nat.le_of_ble_eq_true rfl⟩ dX11_beside_126) hS rfl rfl (fun rr126 Mm126 H locs h hW hS => ?_)
            refine lv_if_eq (tgt := 177) hx hb dX11_beside_129 (by decide) (fun c129 => ?_) (fun c129 => ?_)
            · replace h := h.1 c129
              obtain ⟨x9_177, ex9_177⟩ : ∃ z : Int32, z = x9 + (1 : Int32) := ⟨_, rfl⟩
              replace h := h x9_177 ex9_177
              refine lv_iinc (v := x9_177) (lv' := [(9, .int x9_177), (0, .ref (ad G 0 0)), (2, .int x2), (3, .int x3), (4, .ref (ad G 7 d2)), (6, .int x6), (7, .int x7), (8, .int x8)]) hx hb dX11_beside_177 hl (k := 7) rfl (by rw [ex9_177, ki_1]) (by decide) rfl (fun ls hl => ?_)
              refine lv_goto (tgt := 80) hx hb dX11_beside_180 (by decide) ?_
              exact kk80 _ h H locs ls hW hS (lv_sub hl [1, 2, 3, 4, 5, 6, 7, 0] rfl)
            · replace h := h.2 c129
              obtain ⟨x6_132, ex6_132⟩ : ∃ z : Int32, z = x6 + (1 : Int32) := ⟨_, rfl⟩
              replace h := h x6_132 ex6_132
              refine lv_iinc (v := x6_132) (lv' := [(6, .int x6_132), (0, .ref (ad G 0 0)), (2, .int x2), (3, .int x3), (4, .ref (ad G 7 d2)), (7, .int x7), (8, .int x8), (9, .int x9)]) hx hb dX11_beside_132 hl (k := 4) rfl (by rw [ex6_132, ki_1]) (by decide) rfl (fun ls hl => ?_)
              refine lv_iload hx hb dX11_beside_135 (lv_at hl 5 rfl) ?_
              refine lv_aload_n hx hb dX11_beside_137 rfl (lv_at hl 1 rfl) ?_
              refine m_getr S hK fk_X11_12 (gr_0_0 G 0) hW (ci_0 (Nat.le_of_ble_eq_true rfl)) dX11_beside_138 ?_
              refine m_getr S hK fk_X11_47 (gr_1_1 G 0) hW (ci_1 (Nat.le_of_ble_eq_true rfl)) dX11_beside_141 ?_
              refine m_getr S hK fk_X11_171 (gr_2_7 G 0) hW (ci_2 (Nat.le_of_ble_eq_true rfl)) dX11_beside_144 ?_
              refine lv_iload hx hb dX11_beside_147 (lv_at hl 6 rfl) ?_
              refine lv_bipush hx hb dX11_beside_149 kb_11 ?_
              refine lv_imul hx hb dX11_beside_151 ?_
              refine lv_iconst hx hb dX11_beside_152 ki_5 ?_
              refine lv_iadd hx hb dX11_beside_153 ?_
              obtain ⟨hb154, h⟩ := h
              refine m_ald S hK (ar_21 G) hW (ci_21 (Nat.le_of_ble_eq_true rfl)) hb154 dX11_beside_154 ?_
              refine lv_aload_n hx hb dX11_beside_155 rfl (lv_at hl 1 rfl) ?_
              refine m_getr S hK fk_X11_12 (gr_0_0 G 0) hW (ci_0 (Nat.le_of_ble_eq_true rfl)) dX11_beside_156 ?_
              refine m_getr S hK fk_X11_47 (gr_1_1 G 0) hW (ci_1 (Nat.le_of_ble_eq_true rfl)) dX11_beside_159 ?_
              refine m_getr S hK fk_X11_171 (gr_2_7 G 0) hW (ci_2 (Nat.le_of_ble_eq_true rfl)) dX11_beside_162 ?_
              refine lv_iload hx hb dX11_beside_165 (lv_at hl 7 rfl) ?_
              refine lv_bipush hx hb dX11_beside_167 kb_11 ?_
              refine lv_imul hx hb dX11_beside_169 ?_
              refine lv_iconst hx hb dX11_beside_170 ki_5 ?_
              refine lv_iadd hx hb dX11_beside_171 ?_
              obtain ⟨hb172, h⟩ := h
              refine m_ald S hK (ar_21 G) hW (ci_21 (Nat.le_of_ble_eq_true rfl)) hb172 dX11_beside_172 ?_
              refine lv_isub hx hb dX11_beside_173 ?_
              refine lv_iadd hx hb dX11_beside_174 ?_
              refine lv_topi (fun x7_175 ex7_175 => ?_)
              replace h := h x7_175 ex7_175
              refine lv_istore (lv' := [(7, .int x7_175), (6, .int x6_132), (0, .ref (ad G 0 0)), (2, .int x2), (3, .int x3), (4, .ref (ad G 7 d2)), (8, .int x8), (9, .int x9)]) hx hb dX11_beside_175 hl (by decide) rfl (fun ls hl => ?_)
              obtain ⟨x9_177, ex9_177⟩ : ∃ z : Int32, z = x9 + (1 : Int32) := ⟨_, rfl⟩
              replace h := h x9_177 ex9_177
              refine lv_iinc (v := x9_177) (lv' := [(9, .int x9_177), (7, .int x7_175), (6, .int x6_132), (0, .ref (ad G 0 0)), (2, .int x2), (3, .int x3), (4, .ref (ad G 7 d2)), (8, .int x8)]) hx hb dX11_beside_177 hl (k := 7) rfl (by rw [ex9_177, ki_1]) (by decide) rfl (fun ls hl => ?_)
              refine lv_goto (tgt := 80) hx hb dX11_beside_180 (by decide) ?_
              exact kk80 _ h H locs ls hW hS (lv_sub hl [3, 4, 5, 6, 2, 1, 7, 0] rfl)
    unfold s_X11_beside_62 at h
    refine lv_iload hx hb dX11_beside_62 (lv_at hl 6 rfl) ?_
    refine lv_aload_n hx hb dX11_beside_64 rfl (lv_at hl 0 rfl) ?_
    refine m_getr S hK fk_X11_12 (gr_0_0 G 0) hW (ci_0 (Nat.le_of_ble_eq_true rfl)) dX11_beside_65 ?_
    refine m_getr S hK fk_X11_47 (gr_1_1 G 0) hW (ci_1 (Nat.le_of_ble_eq_true rfl)) dX11_beside_68 ?_
    refine m_geti S hK fk_X11_51 (gi_2_0 G) hW (ci_2 (Nat.le_of_ble_eq_true rfl)) dX11_beside_71 ?_
    refine lv_icmp_ge (tgt := 189) hx hb dX11_beside_74 (by decide) (fun c74 => ?_) (fun c74 => ?_)
    · replace h := h.1 c74
      refine lv_iload_n hx hb dX11_beside_189 rfl (lv_at hl 2 rfl) ?_
      refine lv_if_ne (tgt := 198) hx hb dX11_beside_190 (by decide) (fun c190 => ?_) (fun c190 => ?_)
      · replace h := h.1 c190
        refine lv_iload hx hb dX11_beside_198 (lv_at hl 4 rfl) ?_
        exact m_iret S hret hlocks hKX hW hbs hS rfl h dX11_beside_200
      · replace h := h.2 c190
        refine lv_iload hx hb dX11_beside_193 (lv_at hl 5 rfl) ?_
        refine lv_goto (tgt := 200) hx hb dX11_beside_195 (by decide) ?_
        exact m_iret S hret hlocks hKX hW hbs hS rfl h dX11_beside_200
    · replace h := h.2 c74
      refine lv_iconst hx hb dX11_beside_77 ki_0 ?_
      refine lv_istore (lv' := [(9, .int (0 : Int32)), (0, .ref (ad G 0 0)), (2, .int x2), (3, .int x3), (4, .ref (ad G 7 d2)), (6, .int x6), (7, .int x7), (8, .int x8)]) hx hb dX11_beside_78 hl (by decide) rfl (fun ls hl => ?_)
      obtain ⟨n80, h⟩ := h
      exact w80 _ n80 _ h H locs ls hW hS (lv_sub hl [1, 2, 3, 4, 5, 6, 7, 0] rfl)
  unfold s_X11_beside at h
  refine lv_aload_n hx hb dX11_beside_0 rfl (lv_at hl 0 rfl) ?_
  refine lv_iload_n hx hb dX11_beside_1 rfl (lv_at hl 1 rfl) ?_
  refine m_cq0 (m_rV S hKX hW (m_szH hbs hS) (c_X11_shelfAt l ) h lk_X11_100 (m_recv hK hW (ci_0 (Nat.le_of_ble_eq_true rfl)) (rc_0 G) rfl) rfl hl.1 rfl ⟨Nat.le_of_ble_eq_true rfl, Nat.le_of_ble_eq_true rfl⟩ (Nat.le_of_ble_eq_true rfl) ⟨Nat.le_of_ble_eq_true rfl, Nat.le_of_ble_eq_true rfl⟩ dX11_beside_2) hS rfl rfl (fun Mm2 H locs h hW hS => ?_) (fun d2 Mm2 H locs h hW hS => ?_)
  · replace h := h.1 rfl
    refine lv_astoreN (lv' := [(4, .null), (0, .ref (ad G 0 0)), (1, .int x1), (2, .int x2), (3, .int x3)]) hx hb dX11_beside_5 hl (by decide) rfl (fun ls hl => ?_)
    refine lv_aloadN hx hb dX11_beside_7 (lv_at hl 0 rfl) ?_
    refine lv_ifnullN (tgt := 32) hx hb dX11_beside_9 (by decide) ?_
    refine lv_ldc hx hb hown (hts _ mw_813) dX11_beside_32 ?_
    exact m_iret S hret hlocks hKX hW hbs hS rfl h dX11_beside_34
  · obtain ⟨hi_d2, h⟩ := h.2 d2 rfl
    refine lv_astore (lv' := [(4, .ref (ad G 7 d2)), (0, .ref (ad G 0 0)), (1, .int x1), (2, .int x2), (3, .int x3)]) hx hb dX11_beside_5 hl (by decide) rfl (fun ls hl => ?_)
    refine lv_aload hx hb dX11_beside_7 (lv_at hl 0 rfl) ?_
    refine lv_ifnull hx hb dX11_beside_9 ?_
    refine lv_iload_n hx hb dX11_beside_12 rfl (lv_at hl 3 rfl) ?_
    refine lv_iconst hx hb dX11_beside_13 ki_0 ?_
    refine lv_sipush hx hb dX11_beside_14 ks_600 ?_
    refine m_ci0 (m_rS S hKX hW (m_szH hbs hS) (c_X11_within l ) h lk_X11_43 rfl hl.1 rfl ⟨Nat.le_of_ble_eq_true rfl, Nat.le_of_ble_eq_true rfl⟩ (Nat.le_of_ble_eq_true rfl) ⟨Nat.le_of_ble_eq_true rfl, Nat.le_of_ble_eq_true rfl⟩ dX11_beside_17) hS rfl rfl (fun rr17 Mm17 H locs h hW hS => ?_)
    refine lv_if_eq (tgt := 32) hx hb dX11_beside_20 (by decide) (fun c20 => ?_) (fun c20 => ?_)
    · replace h := h.1 c20
      refine lv_ldc hx hb hown (hts _ mw_813) dX11_beside_32 ?_
      exact m_iret S hret hlocks hKX hW hbs hS rfl h dX11_beside_34
    · replace h := h.2 c20
      refine lv_iload_n hx hb dX11_beside_23 rfl (lv_at hl 4 rfl) ?_
      refine lv_iconst hx hb dX11_beside_24 ki_0 ?_
      refine lv_iconst hx hb dX11_beside_25 ki_1 ?_
      refine m_ci0 (m_rS S hKX hW (m_szH hbs hS) (c_X11_within l ) h lk_X11_43 rfl hl.1 rfl ⟨Nat.le_of_ble_eq_true rfl, Nat.le_of_ble_eq_true rfl⟩ (Nat.le_of_ble_eq_true rfl) ⟨Nat.le_of_ble_eq_true rfl, Nat.le_of_ble_eq_true rfl⟩ dX11_beside_26) hS rfl rfl (fun rr26 Mm26 H locs h hW hS => ?_)
      refine lv_if_ne (tgt := 35) hx hb dX11_beside_29 (by decide) (fun c29 => ?_) (fun c29 => ?_)
      · replace h := h.1 c29
        refine lv_aload hx hb dX11_beside_35 (lv_at hl 0 rfl) ?_
        refine m_ci0 (m_rS S hKX hW (m_szH hbs hS) (c_X11_byteRowRefusal l hi_d2) h lk_X11_126 rfl hl.1 rfl ⟨Nat.le_of_ble_eq_true rfl, Nat.le_of_ble_eq_true rfl⟩ (Nat.le_of_ble_eq_true rfl) ⟨Nat.le_of_ble_eq_true rfl, Nat.le_of_ble_eq_true rfl⟩ dX11_beside_37) hS rfl rfl (fun rr37 Mm37 H locs h hW hS => ?_)
        refine lv_istore (lv' := [(5, .int rr37), (4, .ref (ad G 7 d2)), (0, .ref (ad G 0 0)), (1, .int x1), (2, .int x2), (3, .int x3)]) hx hb dX11_beside_40 hl (by decide) rfl (fun ls hl => ?_)
        refine lv_iload hx hb dX11_beside_42 (lv_at hl 0 rfl) ?_
        refine lv_if_eq (tgt := 53) hx hb dX11_beside_44 (by decide) (fun c44 => ?_) (fun c44 => ?_)
        · replace h := h.1 c44
          refine lv_iconst hx hb dX11_beside_53 ki_0 ?_
          refine lv_istore (lv' := [(6, .int (0 : Int32)), (5, .int rr37), (4, .ref (ad G 7 d2)), (0, .ref (ad G 0 0)), (1, .int x1), (2, .int x2), (3, .int x3)]) hx hb dX11_beside_54 hl (by decide) rfl (fun ls hl => ?_)
          refine lv_iconst hx hb dX11_beside_56 ki_0 ?_
          refine lv_istore (lv' := [(7, .int (0 : Int32)), (6, .int (0 : Int32)), (5, .int rr37), (4, .ref (ad G 7 d2)), (0, .ref (ad G 0 0)), (1, .int x1), (2, .int x2), (3, .int x3)]) hx hb dX11_beside_57 hl (by decide) rfl (fun ls hl => ?_)
          refine lv_iconst hx hb dX11_beside_59 ki_0 ?_
          refine lv_istore (lv' := [(8, .int (0 : Int32)), (7, .int (0 : Int32)), (6, .int (0 : Int32)), (5, .int rr37), (4, .ref (ad G 7 d2)), (0, .ref (ad G 0 0)), (1, .int x1), (2, .int x2), (3, .int x3)]) hx hb dX11_beside_60 hl (by decide) rfl (fun ls hl => ?_)
          obtain ⟨n62, h⟩ := h
          exact w62 d2 hi_d2 n62 _ h H locs ls hW hS (lv_sub hl [5, 7, 8, 4, 2, 1, 0] rfl)
        · replace h := h.2 c44
          refine lv_ldc hx hb hown (hts _ mw_932) dX11_beside_47 ?_
          refine lv_iload hx hb dX11_beside_49 (lv_at hl 0 rfl) ?_
          refine lv_iadd hx hb dX11_beside_51 ?_
          exact m_iret S hret hlocks hKX hW hbs hS rfl h dX11_beside_52
      · replace h := h.2 c29
        refine lv_ldc hx hb hown (hts _ mw_813) dX11_beside_32 ?_
        exact m_iret S hret hlocks hKX hW hbs hS rfl h dX11_beside_34
abbrev rm_X11_image : Room := { frames := 4, cells := 0, slots := 0, locals := 128 }
set_option maxHeartbeats 4000000 in
set_option maxRecDepth 100000 in
theorem c_X11_image (l : Launch) {G : Gn} {M : Mem} {P : Int32 → Mem → Prop} : MQi l yX11_image cX11_image 1 (some .int) rm_X11_image [.ref (ad G 0 0)] G M (s_X11_image M P) P := by
  refine m_enter (by decide +kernel) (Nat.le_of_ble_eq_true rfl) ?_
  intro p e s m below meth c ls H locs S hret hlocks hname hKX hbs hW hS hl h
  obtain ⟨AV, hAV⟩ : ∃ z : Array Value, z = ([.ref (ad G 0 0)] : List Value).toArray := ⟨_, rfl⟩
  rw [← hAV] at S ⊢
  replace S : CallFix p m c cX11_image 1 s AV lw_G "MilkDesk" := S
  have hK := hKX.1
  have hx := S.1
  have hb := S.2.1
  have hml := S.2.2.1
  have hown := S.2.2.2.1
  have hts := S.2.2.2.2
  replace hl : lv_has ls 1 [(0, .ref (ad G 0 0))] := hl
  unfold s_X11_image at h
  refine lv_aload_n hx hb dX11_image_0 rfl (lv_at hl 0 rfl) ?_
  refine m_getr S hK fk_X11_16 (gr_0_1 G 0) hW (ci_0 (Nat.le_of_ble_eq_true rfl)) dX11_image_1 ?_
  refine lv_aload_n hx hb dX11_image_4 rfl (lv_at hl 0 rfl) ?_
  refine m_getr S hK fk_X11_12 (gr_0_0 G 0) hW (ci_0 (Nat.le_of_ble_eq_true rfl)) dX11_image_5 ?_
  refine m_cv0 (m_rV S hKX hW (m_szH hbs hS) (c_X10_copyFrom l (Nat.le_of_ble_eq_true rfl) (Nat.le_of_ble_eq_true rfl)) h lk_X11_226 (m_recv hK hW (ci_1 (Nat.le_of_ble_eq_true rfl)) (rc_1 G) rfl) rfl hl.1 rfl ⟨Nat.le_of_ble_eq_true rfl, Nat.le_of_ble_eq_true rfl⟩ (Nat.le_of_ble_eq_true rfl) ⟨Nat.le_of_ble_eq_true rfl, Nat.le_of_ble_eq_true rfl⟩ dX11_image_8) hS rfl rfl (fun Mm8 H locs h hW hS => ?_)
  refine lv_aload_n hx hb dX11_image_11 rfl (lv_at hl 0 rfl) ?_
  refine lv_iconst hx hb dX11_image_12 ki_1 ?_
  refine m_put S hK fk_X11_257 tyX11_ok nmX11 rfl pf_X11_3 (pv_0_3 G) hW hS (ci_0 (Nat.le_of_ble_eq_true rfl)) (isB_n isB_1) (isB_f isB_1) dX11_image_13 (fun Mm13 eMm13 H locs hW hS => ?_)
  replace h := h Mm13 eMm13
  refine lv_aload_n hx hb dX11_image_16 rfl (lv_at hl 0 rfl) ?_
  refine m_getr S hK fk_X11_12 (gr_0_0 G 0) hW (ci_0 (Nat.le_of_ble_eq_true rfl)) dX11_image_17 ?_
  refine m_geti S hK fk_X11_115 (gi_1_0 G) hW (ci_1 (Nat.le_of_ble_eq_true rfl)) dX11_image_20 ?_
  exact m_iret S hret hlocks hKX hW hbs hS rfl h dX11_image_23
abbrev rm_X11_restore : Room := { frames := 4, cells := 0, slots := 0, locals := 128 }
set_option maxHeartbeats 4000000 in
set_option maxRecDepth 100000 in
theorem c_X11_restore (l : Launch) {G : Gn} {M : Mem} {P : Int32 → Mem → Prop} : MQi l yX11_restore cX11_restore 1 (some .int) rm_X11_restore [.ref (ad G 0 0)] G M (s_X11_restore M P) P := by
  refine m_enter (by decide +kernel) (Nat.le_of_ble_eq_true rfl) ?_
  intro p e s m below meth c ls H locs S hret hlocks hname hKX hbs hW hS hl h
  obtain ⟨AV, hAV⟩ : ∃ z : Array Value, z = ([.ref (ad G 0 0)] : List Value).toArray := ⟨_, rfl⟩
  rw [← hAV] at S ⊢
  replace S : CallFix p m c cX11_restore 1 s AV lw_G "MilkDesk" := S
  have hK := hKX.1
  have hx := S.1
  have hb := S.2.1
  have hml := S.2.2.1
  have hown := S.2.2.2.1
  have hts := S.2.2.2.2
  replace hl : lv_has ls 1 [(0, .ref (ad G 0 0))] := hl
  unfold s_X11_restore at h
  refine lv_aload_n hx hb dX11_restore_0 rfl (lv_at hl 0 rfl) ?_
  refine m_geti S hK fk_X11_257 (gi_0_3 G) hW (ci_0 (Nat.le_of_ble_eq_true rfl)) dX11_restore_1 ?_
  refine lv_if_ne (tgt := 10) hx hb dX11_restore_4 (by decide) (fun c4 => ?_) (fun c4 => ?_)
  · replace h := h.1 c4
    refine lv_aload_n hx hb dX11_restore_10 rfl (lv_at hl 0 rfl) ?_
    refine m_getr S hK fk_X11_12 (gr_0_0 G 0) hW (ci_0 (Nat.le_of_ble_eq_true rfl)) dX11_restore_11 ?_
    refine lv_aload_n hx hb dX11_restore_14 rfl (lv_at hl 0 rfl) ?_
    refine m_getr S hK fk_X11_16 (gr_0_1 G 0) hW (ci_0 (Nat.le_of_ble_eq_true rfl)) dX11_restore_15 ?_
    refine m_cv0 (m_rV S hKX hW (m_szH hbs hS) (c_X10_copyFrom l (Nat.le_of_ble_eq_true rfl) (Nat.le_of_ble_eq_true rfl)) h lk_X11_226 (m_recv hK hW (ci_1 (Nat.le_of_ble_eq_true rfl)) (rc_1 G) rfl) rfl hl.1 rfl ⟨Nat.le_of_ble_eq_true rfl, Nat.le_of_ble_eq_true rfl⟩ (Nat.le_of_ble_eq_true rfl) ⟨Nat.le_of_ble_eq_true rfl, Nat.le_of_ble_eq_true rfl⟩ dX11_restore_18) hS rfl rfl (fun Mm18 H locs h hW hS => ?_)
    refine lv_aload_n hx hb dX11_restore_21 rfl (lv_at hl 0 rfl) ?_
    refine m_getr S hK fk_X11_12 (gr_0_0 G 0) hW (ci_0 (Nat.le_of_ble_eq_true rfl)) dX11_restore_22 ?_
    refine m_geti S hK fk_X11_115 (gi_1_0 G) hW (ci_1 (Nat.le_of_ble_eq_true rfl)) dX11_restore_25 ?_
    exact m_iret S hret hlocks hKX hW hbs hS rfl h dX11_restore_28
  · replace h := h.2 c4
    refine lv_bipush hx hb dX11_restore_7 kb_m3 ?_
    exact m_iret S hret hlocks hKX hW hbs hS rfl h dX11_restore_9
abbrev rm_X11_count : Room := { frames := 1, cells := 0, slots := 0, locals := 23 }
set_option maxHeartbeats 4000000 in
set_option maxRecDepth 100000 in
theorem c_X11_count (l : Launch) {G : Gn} {M : Mem} {x1 : Int32} {P : Int32 → Mem → Prop} : MQi l yX11_count cX11_count 2 (some .int) rm_X11_count [.ref (ad G 0 0), .int x1] G M (s_X11_count M x1 P) P := by
  refine m_enter (by decide +kernel) (Nat.le_of_ble_eq_true rfl) ?_
  intro p e s m below meth c ls H locs S hret hlocks hname hKX hbs hW hS hl h
  obtain ⟨AV, hAV⟩ : ∃ z : Array Value, z = ([.ref (ad G 0 0), .int x1] : List Value).toArray := ⟨_, rfl⟩
  rw [← hAV] at S ⊢
  replace S : CallFix p m c cX11_count 2 s AV lw_G "MilkDesk" := S
  have hK := hKX.1
  have hx := S.1
  have hb := S.2.1
  have hml := S.2.2.1
  have hown := S.2.2.2.1
  have hts := S.2.2.2.2
  replace hl : lv_has ls 2 [(0, .ref (ad G 0 0)), (1, .int x1)] := hl
  unfold s_X11_count at h
  refine lv_iload_n hx hb dX11_count_0 rfl (lv_at hl 1 rfl) ?_
  by_cases c1_0 : x1 = (0 : Int32)
  · replace h := h.1 c1_0
    rw [c1_0]
    refine lv_tableIn (off := 51) (tgt := 52) hx hb dX11_count_1 (by decide +kernel) (by decide +kernel) (by decide +kernel) (by decide) ?_
    refine lv_aload_n hx hb dX11_count_52 rfl (lv_at hl 0 rfl) ?_
    refine m_getr S hK fk_X11_12 (gr_0_0 G 0) hW (ci_0 (Nat.le_of_ble_eq_true rfl)) dX11_count_53 ?_
    refine m_getr S hK fk_X11_47 (gr_1_1 G 0) hW (ci_1 (Nat.le_of_ble_eq_true rfl)) dX11_count_56 ?_
    refine m_geti S hK fk_X11_51 (gi_2_0 G) hW (ci_2 (Nat.le_of_ble_eq_true rfl)) dX11_count_59 ?_
    exact m_iret S hret hlocks hKX hW hbs hS rfl h dX11_count_62
  · replace h := h.2
    by_cases c1_1 : x1 = (1 : Int32)
    · replace h := h.1 c1_1
      rw [c1_1]
      refine lv_tableIn (off := 62) (tgt := 63) hx hb dX11_count_1 (by decide +kernel) (by decide +kernel) (by decide +kernel) (by decide) ?_
      refine lv_aload_n hx hb dX11_count_63 rfl (lv_at hl 0 rfl) ?_
      refine m_getr S hK fk_X11_12 (gr_0_0 G 0) hW (ci_0 (Nat.le_of_ble_eq_true rfl)) dX11_count_64 ?_
      refine m_getr S hK fk_X11_75 (gr_1_2 G 0) hW (ci_1 (Nat.le_of_ble_eq_true rfl)) dX11_count_67 ?_
      refine m_geti S hK fk_X11_79 (gi_3_0 G) hW (ci_3 (Nat.le_of_ble_eq_true rfl)) dX11_count_70 ?_
      exact m_iret S hret hlocks hKX hW hbs hS rfl h dX11_count_73
    · replace h := h.2
      by_cases c1_2 : x1 = (2 : Int32)
      · replace h := h.1 c1_2
        rw [c1_2]
        refine lv_tableIn (off := 73) (tgt := 74) hx hb dX11_count_1 (by decide +kernel) (by decide +kernel) (by decide +kernel) (by decide) ?_
        refine lv_aload_n hx hb dX11_count_74 rfl (lv_at hl 0 rfl) ?_
        refine m_getr S hK fk_X11_12 (gr_0_0 G 0) hW (ci_0 (Nat.le_of_ble_eq_true rfl)) dX11_count_75 ?_
        refine m_getr S hK fk_X11_132 (gr_1_4 G 0) hW (ci_1 (Nat.le_of_ble_eq_true rfl)) dX11_count_78 ?_
        refine m_geti S hK fk_X11_136 (gi_5_0 G) hW (ci_5 (Nat.le_of_ble_eq_true rfl)) dX11_count_81 ?_
        exact m_iret S hret hlocks hKX hW hbs hS rfl h dX11_count_84
      · replace h := h.2
        by_cases c1_3 : x1 = (3 : Int32)
        · replace h := h.1 c1_3
          rw [c1_3]
          refine lv_tableIn (off := 84) (tgt := 85) hx hb dX11_count_1 (by decide +kernel) (by decide +kernel) (by decide +kernel) (by decide) ?_
          refine lv_aload_n hx hb dX11_count_85 rfl (lv_at hl 0 rfl) ?_
          refine m_getr S hK fk_X11_12 (gr_0_0 G 0) hW (ci_0 (Nat.le_of_ble_eq_true rfl)) dX11_count_86 ?_
          refine m_geti S hK fk_X11_115 (gi_1_0 G) hW (ci_1 (Nat.le_of_ble_eq_true rfl)) dX11_count_89 ?_
          exact m_iret S hret hlocks hKX hW hbs hS rfl h dX11_count_92
        · replace h := h.2
          by_cases c1_4 : x1 = (4 : Int32)
          · replace h := h.1 c1_4
            rw [c1_4]
            refine lv_tableIn (off := 92) (tgt := 93) hx hb dX11_count_1 (by decide +kernel) (by decide +kernel) (by decide +kernel) (by decide) ?_
            refine lv_aload_n hx hb dX11_count_93 rfl (lv_at hl 0 rfl) ?_
            refine m_getr S hK fk_X11_12 (gr_0_0 G 0) hW (ci_0 (Nat.le_of_ble_eq_true rfl)) dX11_count_94 ?_
            refine m_getr S hK fk_X11_177 (gr_1_5 G 0) hW (ci_1 (Nat.le_of_ble_eq_true rfl)) dX11_count_97 ?_
            refine m_geti S hK fk_X11_181 (gi_6_0 G) hW (ci_6 (Nat.le_of_ble_eq_true rfl)) dX11_count_100 ?_
            exact m_iret S hret hlocks hKX hW hbs hS rfl h dX11_count_103
          · replace h := h.2
            by_cases c1_5 : x1 = (5 : Int32)
            · replace h := h.1 c1_5
              rw [c1_5]
              refine lv_tableIn (off := 103) (tgt := 104) hx hb dX11_count_1 (by decide +kernel) (by decide +kernel) (by decide +kernel) (by decide) ?_
              refine lv_aload_n hx hb dX11_count_104 rfl (lv_at hl 0 rfl) ?_
              refine m_getr S hK fk_X11_12 (gr_0_0 G 0) hW (ci_0 (Nat.le_of_ble_eq_true rfl)) dX11_count_105 ?_
              refine m_getr S hK fk_X11_75 (gr_1_2 G 0) hW (ci_1 (Nat.le_of_ble_eq_true rfl)) dX11_count_108 ?_
              refine m_ci0 (m_rV S hKX hW (m_szH hbs hS) (c_X4_allBottles l (Nat.le_of_ble_eq_true rfl)) h lk_X11_261 (m_recv hK hW (ci_3 (Nat.le_of_ble_eq_true rfl)) (rc_3 G) rfl) rfl hl.1 rfl ⟨Nat.le_of_ble_eq_true rfl, Nat.le_of_ble_eq_true rfl⟩ (Nat.le_of_ble_eq_true rfl) ⟨Nat.le_of_ble_eq_true rfl, Nat.le_of_ble_eq_true rfl⟩ dX11_count_111) hS rfl rfl (fun rr111 Mm111 H locs h hW hS => ?_)
              exact m_iret S hret hlocks hKX hW hbs hS rfl h dX11_count_114
            · replace h := h.2
              by_cases c1_6 : x1 = (6 : Int32)
              · replace h := h.1 c1_6
                rw [c1_6]
                refine lv_tableIn (off := 114) (tgt := 115) hx hb dX11_count_1 (by decide +kernel) (by decide +kernel) (by decide +kernel) (by decide) ?_
                refine lv_aload_n hx hb dX11_count_115 rfl (lv_at hl 0 rfl) ?_
                refine m_getr S hK fk_X11_12 (gr_0_0 G 0) hW (ci_0 (Nat.le_of_ble_eq_true rfl)) dX11_count_116 ?_
                refine m_getr S hK fk_X11_47 (gr_1_1 G 0) hW (ci_1 (Nat.le_of_ble_eq_true rfl)) dX11_count_119 ?_
                refine lv_bipush hx hb dX11_count_122 kb_8 ?_
                refine m_ci0 (m_rV S hKX hW (m_szH hbs hS) (c_X8_all l (Nat.le_of_ble_eq_true rfl)) h lk_X11_246 (m_recv hK hW (ci_2 (Nat.le_of_ble_eq_true rfl)) (rc_2 G) rfl) rfl hl.1 rfl ⟨Nat.le_of_ble_eq_true rfl, Nat.le_of_ble_eq_true rfl⟩ (Nat.le_of_ble_eq_true rfl) ⟨Nat.le_of_ble_eq_true rfl, Nat.le_of_ble_eq_true rfl⟩ dX11_count_124) hS rfl rfl (fun rr124 Mm124 H locs h hW hS => ?_)
                exact m_iret S hret hlocks hKX hW hbs hS rfl h dX11_count_127
              · replace h := h.2
                by_cases c1_7 : x1 = (7 : Int32)
                · replace h := h.1 c1_7
                  rw [c1_7]
                  refine lv_tableIn (off := 127) (tgt := 128) hx hb dX11_count_1 (by decide +kernel) (by decide +kernel) (by decide +kernel) (by decide) ?_
                  refine lv_aload_n hx hb dX11_count_128 rfl (lv_at hl 0 rfl) ?_
                  refine m_getr S hK fk_X11_12 (gr_0_0 G 0) hW (ci_0 (Nat.le_of_ble_eq_true rfl)) dX11_count_129 ?_
                  refine m_getr S hK fk_X11_47 (gr_1_1 G 0) hW (ci_1 (Nat.le_of_ble_eq_true rfl)) dX11_count_132 ?_
                  refine lv_iconst hx hb dX11_count_135 ki_3 ?_
                  refine m_ci0 (m_rV S hKX hW (m_szH hbs hS) (c_X8_all l (Nat.le_of_ble_eq_true rfl)) h lk_X11_246 (m_recv hK hW (ci_2 (Nat.le_of_ble_eq_true rfl)) (rc_2 G) rfl) rfl hl.1 rfl ⟨Nat.le_of_ble_eq_true rfl, Nat.le_of_ble_eq_true rfl⟩ (Nat.le_of_ble_eq_true rfl) ⟨Nat.le_of_ble_eq_true rfl, Nat.le_of_ble_eq_true rfl⟩ dX11_count_136) hS rfl rfl (fun rr136 Mm136 H locs h hW hS => ?_)
                  exact m_iret S hret hlocks hKX hW hbs hS rfl h dX11_count_139
                · replace h := h.2
                  by_cases c1_8 : x1 = (8 : Int32)
                  · replace h := h.1 c1_8
                    rw [c1_8]
                    refine lv_tableIn (off := 139) (tgt := 140) hx hb dX11_count_1 (by decide +kernel) (by decide +kernel) (by decide +kernel) (by decide) ?_
                    refine lv_aload_n hx hb dX11_count_140 rfl (lv_at hl 0 rfl) ?_
                    refine m_getr S hK fk_X11_12 (gr_0_0 G 0) hW (ci_0 (Nat.le_of_ble_eq_true rfl)) dX11_count_141 ?_
                    refine m_getr S hK fk_X11_104 (gr_1_3 G 0) hW (ci_1 (Nat.le_of_ble_eq_true rfl)) dX11_count_144 ?_
                    refine m_geti S hK fk_X11_108 (gi_4_0 G) hW (ci_4 (Nat.le_of_ble_eq_true rfl)) dX11_count_147 ?_
                    exact m_iret S hret hlocks hKX hW hbs hS rfl h dX11_count_150
                  · replace h := h.2
                    replace h := h c1_0 c1_1 c1_2 c1_3 c1_4 c1_5 c1_6 c1_7 c1_8
                    refine lv_tableOut (tgt := 151) hx hb dX11_count_1 (m_out 0 8 (fun z h1 h2 => ?_)) (by decide) ?_
                    · have h3 : z = 0 ∨ z = 1 ∨ z = 2 ∨ z = 3 ∨ z = 4 ∨ z = 5 ∨ z = 6 ∨ z = 7 ∨ z = 8 := by omega
                      rcases h3 with rfl | rfl | rfl | rfl | rfl | rfl | rfl | rfl | rfl
                      · exact lv_neT c1_0 (by decide +kernel)
                      · exact lv_neT c1_1 (by decide +kernel)
                      · exact lv_neT c1_2 (by decide +kernel)
                      · exact lv_neT c1_3 (by decide +kernel)
                      · exact lv_neT c1_4 (by decide +kernel)
                      · exact lv_neT c1_5 (by decide +kernel)
                      · exact lv_neT c1_6 (by decide +kernel)
                      · exact lv_neT c1_7 (by decide +kernel)
                      · exact lv_neT c1_8 (by decide +kernel)
                    · skip
                      refine lv_iconst hx hb dX11_count_151 ki_m1 ?_
                      exact m_iret S hret hlocks hKX hW hbs hS rfl h dX11_count_152
abbrev rm_X11_keep : Room := { frames := 1, cells := 0, slots := 0, locals := 23 }
set_option maxHeartbeats 4000000 in
set_option maxRecDepth 100000 in
theorem c_X11_keep (l : Launch) {G : Gn} {M : Mem} {x1 : Int32} {x2 : Int32} {x3 : Int32} {x4 : Int32} {x5 : Int32} {P : Int32 → Mem → Prop} : MQi l yX11_keep cX11_keep 7 (some .int) rm_X11_keep [.ref (ad G 0 0), .int x1, .int x2, .int x3, .int x4, .int x5] G M (s_X11_keep M x1 x2 x3 x4 x5 P) P := by
  refine m_enter (by decide +kernel) (Nat.le_of_ble_eq_true rfl) ?_
  intro p e s m below meth c ls H locs S hret hlocks hname hKX hbs hW hS hl h
  obtain ⟨AV, hAV⟩ : ∃ z : Array Value, z = ([.ref (ad G 0 0), .int x1, .int x2, .int x3, .int x4, .int x5] : List Value).toArray := ⟨_, rfl⟩
  rw [← hAV] at S ⊢
  replace S : CallFix p m c cX11_keep 7 s AV lw_G "MilkDesk" := S
  have hK := hKX.1
  have hx := S.1
  have hb := S.2.1
  have hml := S.2.2.1
  have hown := S.2.2.2.1
  have hts := S.2.2.2.2
  replace hl : lv_has ls 7 [(0, .ref (ad G 0 0)), (1, .int x1), (2, .int x2), (3, .int x3), (4, .int x4), (5, .int x5)] := hl
  unfold s_X11_keep at h
  refine lv_aload_n hx hb dX11_keep_0 rfl (lv_at hl 0 rfl) ?_
  refine lv_iload_n hx hb dX11_keep_1 rfl (lv_at hl 1 rfl) ?_
  refine m_cq0 (m_rV S hKX hW (m_szH hbs hS) (c_X11_shelfAt l ) h lk_X11_100 (m_recv hK hW (ci_0 (Nat.le_of_ble_eq_true rfl)) (rc_0 G) rfl) rfl hl.1 rfl ⟨Nat.le_of_ble_eq_true rfl, Nat.le_of_ble_eq_true rfl⟩ (Nat.le_of_ble_eq_true rfl) ⟨Nat.le_of_ble_eq_true rfl, Nat.le_of_ble_eq_true rfl⟩ dX11_keep_2) hS rfl rfl (fun Mm2 H locs h hW hS => ?_) (fun d2 Mm2 H locs h hW hS => ?_)
  · replace h := h.1 rfl
    refine lv_astoreN (lv' := [(6, .null), (0, .ref (ad G 0 0)), (1, .int x1), (2, .int x2), (3, .int x3), (4, .int x4), (5, .int x5)]) hx hb dX11_keep_5 hl (by decide) rfl (fun ls hl => ?_)
    refine lv_aloadN hx hb dX11_keep_7 (lv_at hl 0 rfl) ?_
    refine lv_ifnullN (tgt := 21) hx hb dX11_keep_9 (by decide) ?_
    refine lv_iconst hx hb dX11_keep_21 ki_m1 ?_
    exact m_iret S hret hlocks hKX hW hbs hS rfl h dX11_keep_22
  · obtain ⟨hi_d2, h⟩ := h.2 d2 rfl
    refine lv_astore (lv' := [(6, .ref (ad G 7 d2)), (0, .ref (ad G 0 0)), (1, .int x1), (2, .int x2), (3, .int x3), (4, .int x4), (5, .int x5)]) hx hb dX11_keep_5 hl (by decide) rfl (fun ls hl => ?_)
    refine lv_aload hx hb dX11_keep_7 (lv_at hl 0 rfl) ?_
    refine lv_ifnull hx hb dX11_keep_9 ?_
    refine lv_iload_n hx hb dX11_keep_12 rfl (lv_at hl 3 rfl) ?_
    refine lv_iconst hx hb dX11_keep_13 ki_0 ?_
    refine lv_iconst hx hb dX11_keep_14 ki_1 ?_
    refine m_ci0 (m_rS S hKX hW (m_szH hbs hS) (c_X11_within l ) h lk_X11_43 rfl hl.1 rfl ⟨Nat.le_of_ble_eq_true rfl, Nat.le_of_ble_eq_true rfl⟩ (Nat.le_of_ble_eq_true rfl) ⟨Nat.le_of_ble_eq_true rfl, Nat.le_of_ble_eq_true rfl⟩ dX11_keep_15) hS rfl rfl (fun rr15 Mm15 H locs h hW hS => ?_)
    refine lv_if_ne (tgt := 23) hx hb dX11_keep_18 (by decide) (fun c18 => ?_) (fun c18 => ?_)
    · replace h := h.1 c18
      refine lv_iload_n hx hb dX11_keep_23 rfl (lv_at hl 3 rfl) ?_
      refine lv_if_ne (tgt := 34) hx hb dX11_keep_24 (by decide) (fun c24 => ?_) (fun c24 => ?_)
      · replace h := h.1 c24
        refine lv_iload_n hx hb dX11_keep_34 rfl (lv_at hl 4 rfl) ?_
        refine lv_iconst hx hb dX11_keep_35 ki_0 ?_
        refine lv_bipush hx hb dX11_keep_36 kb_6 ?_
        refine m_ci0 (m_rS S hKX hW (m_szH hbs hS) (c_X11_within l ) h lk_X11_43 rfl hl.1 rfl ⟨Nat.le_of_ble_eq_true rfl, Nat.le_of_ble_eq_true rfl⟩ (Nat.le_of_ble_eq_true rfl) ⟨Nat.le_of_ble_eq_true rfl, Nat.le_of_ble_eq_true rfl⟩ dX11_keep_38) hS rfl rfl (fun rr38 Mm38 H locs h hW hS => ?_)
        refine lv_if_eq (tgt := 67) hx hb dX11_keep_41 (by decide) (fun c41 => ?_) (fun c41 => ?_)
        · replace h := h.1 c41
          refine lv_iconst hx hb dX11_keep_67 ki_m1 ?_
          exact m_iret S hret hlocks hKX hW hbs hS rfl h dX11_keep_68
        · replace h := h.2 c41
          refine lv_iload hx hb dX11_keep_44 (lv_at hl 5 rfl) ?_
          refine lv_iconst hx hb dX11_keep_46 ki_0 ?_
          refine lv_sipush hx hb dX11_keep_47 ks_9999 ?_
          refine m_ci0 (m_rS S hKX hW (m_szH hbs hS) (c_X11_within l ) h lk_X11_43 rfl hl.1 rfl ⟨Nat.le_of_ble_eq_true rfl, Nat.le_of_ble_eq_true rfl⟩ (Nat.le_of_ble_eq_true rfl) ⟨Nat.le_of_ble_eq_true rfl, Nat.le_of_ble_eq_true rfl⟩ dX11_keep_50) hS rfl rfl (fun rr50 Mm50 H locs h hW hS => ?_)
          refine lv_if_eq (tgt := 67) hx hb dX11_keep_53 (by decide) (fun c53 => ?_) (fun c53 => ?_)
          · replace h := h.1 c53
            refine lv_iconst hx hb dX11_keep_67 ki_m1 ?_
            exact m_iret S hret hlocks hKX hW hbs hS rfl h dX11_keep_68
          · replace h := h.2 c53
            refine lv_iload hx hb dX11_keep_56 (lv_at hl 6 rfl) ?_
            refine lv_iconst hx hb dX11_keep_58 ki_0 ?_
            refine lv_bipush hx hb dX11_keep_59 kb_11 ?_
            refine m_ci0 (m_rS S hKX hW (m_szH hbs hS) (c_X11_within l ) h lk_X11_43 rfl hl.1 rfl ⟨Nat.le_of_ble_eq_true rfl, Nat.le_of_ble_eq_true rfl⟩ (Nat.le_of_ble_eq_true rfl) ⟨Nat.le_of_ble_eq_true rfl, Nat.le_of_ble_eq_true rfl⟩ dX11_keep_61) hS rfl rfl (fun rr61 Mm61 H locs h hW hS => ?_)
            refine lv_if_ne (tgt := 69) hx hb dX11_keep_64 (by decide) (fun c64 => ?_) (fun c64 => ?_)
            · replace h := h.1 c64
              refine lv_aload hx hb dX11_keep_69 (lv_at hl 0 rfl) ?_
              refine lv_iload_n hx hb dX11_keep_71 rfl (lv_at hl 4 rfl) ?_
              refine lv_iload hx hb dX11_keep_72 (lv_at hl 5 rfl) ?_
              refine lv_iload hx hb dX11_keep_74 (lv_at hl 6 rfl) ?_
              refine m_cv0 (m_rV S hKX hW (m_szH hbs hS) (c_X9_holdCrate l hi_d2) h lk_X11_270 (m_recv hK hW (ci_7 hi_d2) (rc_7 G) rfl) rfl hl.1 rfl ⟨Nat.le_of_ble_eq_true rfl, Nat.le_of_ble_eq_true rfl⟩ (Nat.le_of_ble_eq_true rfl) ⟨Nat.le_of_ble_eq_true rfl, Nat.le_of_ble_eq_true rfl⟩ dX11_keep_76) hS rfl rfl (fun Mm76 H locs h hW hS => ?_)
              refine lv_iconst hx hb dX11_keep_79 ki_0 ?_
              exact m_iret S hret hlocks hKX hW hbs hS rfl h dX11_keep_80
            · replace h := h.2 c64
              refine lv_iconst hx hb dX11_keep_67 ki_m1 ?_
              exact m_iret S hret hlocks hKX hW hbs hS rfl h dX11_keep_68
      · replace h := h.2 c24
        refine lv_aload hx hb dX11_keep_27 (lv_at hl 0 rfl) ?_
        refine m_cv0 (m_rV S hKX hW (m_szH hbs hS) (c_X9_clear l hi_d2) h lk_X11_265 (m_recv hK hW (ci_7 hi_d2) (rc_7 G) rfl) rfl hl.1 rfl ⟨Nat.le_of_ble_eq_true rfl, Nat.le_of_ble_eq_true rfl⟩ (Nat.le_of_ble_eq_true rfl) ⟨Nat.le_of_ble_eq_true rfl, Nat.le_of_ble_eq_true rfl⟩ dX11_keep_29) hS rfl rfl (fun Mm29 H locs h hW hS => ?_)
        refine lv_iconst hx hb dX11_keep_32 ki_0 ?_
        exact m_iret S hret hlocks hKX hW hbs hS rfl h dX11_keep_33
    · replace h := h.2 c18
      refine lv_iconst hx hb dX11_keep_21 ki_m1 ?_
      exact m_iret S hret hlocks hKX hW hbs hS rfl h dX11_keep_22
abbrev rm_X11_row : Room := { frames := 1, cells := 0, slots := 0, locals := 23 }
set_option maxHeartbeats 4000000 in
set_option maxRecDepth 100000 in
theorem c_X11_row (l : Launch) {G : Gn} {M : Mem} {x1 : Int32} {x2 : Int32} {x3 : Int32} {P : Int32 → Mem → Prop} : MQi l yX11_row cX11_row 5 (some .int) rm_X11_row [.ref (ad G 0 0), .int x1, .int x2, .int x3] G M (s_X11_row M x1 x2 x3 P) P := by
  refine m_enter (by decide +kernel) (Nat.le_of_ble_eq_true rfl) ?_
  intro p e s m below meth c ls H locs S hret hlocks hname hKX hbs hW hS hl h
  obtain ⟨AV, hAV⟩ : ∃ z : Array Value, z = ([.ref (ad G 0 0), .int x1, .int x2, .int x3] : List Value).toArray := ⟨_, rfl⟩
  rw [← hAV] at S ⊢
  replace S : CallFix p m c cX11_row 5 s AV lw_G "MilkDesk" := S
  have hK := hKX.1
  have hx := S.1
  have hb := S.2.1
  have hml := S.2.2.1
  have hown := S.2.2.2.1
  have hts := S.2.2.2.2
  replace hl : lv_has ls 5 [(0, .ref (ad G 0 0)), (1, .int x1), (2, .int x2), (3, .int x3)] := hl
  unfold s_X11_row at h
  refine lv_aload_n hx hb dX11_row_0 rfl (lv_at hl 0 rfl) ?_
  refine lv_iload_n hx hb dX11_row_1 rfl (lv_at hl 1 rfl) ?_
  refine m_cq0 (m_rV S hKX hW (m_szH hbs hS) (c_X11_shelfAt l ) h lk_X11_100 (m_recv hK hW (ci_0 (Nat.le_of_ble_eq_true rfl)) (rc_0 G) rfl) rfl hl.1 rfl ⟨Nat.le_of_ble_eq_true rfl, Nat.le_of_ble_eq_true rfl⟩ (Nat.le_of_ble_eq_true rfl) ⟨Nat.le_of_ble_eq_true rfl, Nat.le_of_ble_eq_true rfl⟩ dX11_row_2) hS rfl rfl (fun Mm2 H locs h hW hS => ?_) (fun d2 Mm2 H locs h hW hS => ?_)
  · replace h := h.1 rfl
    refine lv_astoreN (lv' := [(4, .null), (0, .ref (ad G 0 0)), (1, .int x1), (2, .int x2), (3, .int x3)]) hx hb dX11_row_5 hl (by decide) rfl (fun ls hl => ?_)
    refine lv_aloadN hx hb dX11_row_7 (lv_at hl 0 rfl) ?_
    refine lv_ifnullN (tgt := 27) hx hb dX11_row_9 (by decide) ?_
    refine lv_iconst hx hb dX11_row_27 ki_m1 ?_
    exact m_iret S hret hlocks hKX hW hbs hS rfl h dX11_row_28
  · obtain ⟨hi_d2, h⟩ := h.2 d2 rfl
    refine lv_astore (lv' := [(4, .ref (ad G 7 d2)), (0, .ref (ad G 0 0)), (1, .int x1), (2, .int x2), (3, .int x3)]) hx hb dX11_row_5 hl (by decide) rfl (fun ls hl => ?_)
    refine lv_aload hx hb dX11_row_7 (lv_at hl 0 rfl) ?_
    refine lv_ifnull hx hb dX11_row_9 ?_
    refine lv_iload_n hx hb dX11_row_12 rfl (lv_at hl 3 rfl) ?_
    refine lv_iconst hx hb dX11_row_13 ki_0 ?_
    refine lv_iconst hx hb dX11_row_14 ki_2 ?_
    refine m_ci0 (m_rS S hKX hW (m_szH hbs hS) (c_X11_within l ) h lk_X11_43 rfl hl.1 rfl ⟨Nat.le_of_ble_eq_true rfl, Nat.le_of_ble_eq_true rfl⟩ (Nat.le_of_ble_eq_true rfl) ⟨Nat.le_of_ble_eq_true rfl, Nat.le_of_ble_eq_true rfl⟩ dX11_row_15) hS rfl rfl (fun rr15 Mm15 H locs h hW hS => ?_)
    refine lv_if_eq (tgt := 27) hx hb dX11_row_18 (by decide) (fun c18 => ?_) (fun c18 => ?_)
    · replace h := h.1 c18
      refine lv_iconst hx hb dX11_row_27 ki_m1 ?_
      exact m_iret S hret hlocks hKX hW hbs hS rfl h dX11_row_28
    · replace h := h.2 c18
      refine lv_iload_n hx hb dX11_row_21 rfl (lv_at hl 4 rfl) ?_
      refine lv_bipush hx hb dX11_row_22 kb_80 ?_
      refine lv_icmp_le (tgt := 29) hx hb dX11_row_24 (by decide) (fun c24 => ?_) (fun c24 => ?_)
      · replace h := h.1 c24
        refine lv_iload_n hx hb dX11_row_29 rfl (lv_at hl 4 rfl) ?_
        refine lv_if_ge (tgt := 36) hx hb dX11_row_30 (by decide) (fun c30 => ?_) (fun c30 => ?_)
        · replace h := h.1 c30
          refine lv_aload hx hb dX11_row_36 (lv_at hl 0 rfl) ?_
          refine lv_iload_n hx hb dX11_row_38 rfl (lv_at hl 3 rfl) ?_
          refine lv_iload_n hx hb dX11_row_39 rfl (lv_at hl 4 rfl) ?_
          refine m_cv0 (m_rV S hKX hW (m_szH hbs hS) (c_X9_holdRow l hi_d2) h lk_X11_274 (m_recv hK hW (ci_7 hi_d2) (rc_7 G) rfl) rfl hl.1 rfl ⟨Nat.le_of_ble_eq_true rfl, Nat.le_of_ble_eq_true rfl⟩ (Nat.le_of_ble_eq_true rfl) ⟨Nat.le_of_ble_eq_true rfl, Nat.le_of_ble_eq_true rfl⟩ dX11_row_40) hS rfl rfl (fun Mm40 H locs h hW hS => ?_)
          refine lv_iconst hx hb dX11_row_43 ki_0 ?_
          exact m_iret S hret hlocks hKX hW hbs hS rfl h dX11_row_44
        · replace h := h.2 c30
          refine lv_bipush hx hb dX11_row_33 kb_m14 ?_
          exact m_iret S hret hlocks hKX hW hbs hS rfl h dX11_row_35
      · replace h := h.2 c24
        refine lv_iconst hx hb dX11_row_27 ki_m1 ?_
        exact m_iret S hret hlocks hKX hW hbs hS rfl h dX11_row_28
abbrev rm_X11_put : Room := { frames := 2, cells := 0, slots := 0, locals := 40 }
set_option maxHeartbeats 4000000 in
set_option maxRecDepth 100000 in
theorem c_X11_put (l : Launch) {G : Gn} {M : Mem} {x1 : Int32} {x2 : Int32} {x3 : Int32} {P : Int32 → Mem → Prop} : MQi l yX11_put cX11_put 6 (some .int) rm_X11_put [.ref (ad G 0 0), .int x1, .int x2, .int x3] G M (s_X11_put M x1 x2 x3 P) P := by
  refine m_enter (by decide +kernel) (Nat.le_of_ble_eq_true rfl) ?_
  intro p e s m below meth c ls H locs S hret hlocks hname hKX hbs hW hS hl h
  obtain ⟨AV, hAV⟩ : ∃ z : Array Value, z = ([.ref (ad G 0 0), .int x1, .int x2, .int x3] : List Value).toArray := ⟨_, rfl⟩
  rw [← hAV] at S ⊢
  replace S : CallFix p m c cX11_put 6 s AV lw_G "MilkDesk" := S
  have hK := hKX.1
  have hx := S.1
  have hb := S.2.1
  have hml := S.2.2.1
  have hown := S.2.2.2.1
  have hts := S.2.2.2.2
  replace hl : lv_has ls 6 [(0, .ref (ad G 0 0)), (1, .int x1), (2, .int x2), (3, .int x3)] := hl
  unfold s_X11_put at h
  refine lv_aload_n hx hb dX11_put_0 rfl (lv_at hl 0 rfl) ?_
  refine lv_iload_n hx hb dX11_put_1 rfl (lv_at hl 1 rfl) ?_
  refine m_cq0 (m_rV S hKX hW (m_szH hbs hS) (c_X11_shelfAt l ) h lk_X11_100 (m_recv hK hW (ci_0 (Nat.le_of_ble_eq_true rfl)) (rc_0 G) rfl) rfl hl.1 rfl ⟨Nat.le_of_ble_eq_true rfl, Nat.le_of_ble_eq_true rfl⟩ (Nat.le_of_ble_eq_true rfl) ⟨Nat.le_of_ble_eq_true rfl, Nat.le_of_ble_eq_true rfl⟩ dX11_put_2) hS rfl rfl (fun Mm2 H locs h hW hS => ?_) (fun d2 Mm2 H locs h hW hS => ?_)
  · replace h := h.1 rfl
    refine lv_astoreN (lv' := [(4, .null), (0, .ref (ad G 0 0)), (1, .int x1), (2, .int x2), (3, .int x3)]) hx hb dX11_put_5 hl (by decide) rfl (fun ls hl => ?_)
    refine lv_aloadN hx hb dX11_put_7 (lv_at hl 0 rfl) ?_
    refine lv_ifnonnullN hx hb dX11_put_9 ?_
    refine lv_iconst hx hb dX11_put_12 ki_m1 ?_
    exact m_iret S hret hlocks hKX hW hbs hS rfl h dX11_put_13
  · obtain ⟨hi_d2, h⟩ := h.2 d2 rfl
    refine lv_astore (lv' := [(4, .ref (ad G 7 d2)), (0, .ref (ad G 0 0)), (1, .int x1), (2, .int x2), (3, .int x3)]) hx hb dX11_put_5 hl (by decide) rfl (fun ls hl => ?_)
    refine lv_aload hx hb dX11_put_7 (lv_at hl 0 rfl) ?_
    refine lv_ifnonnull (tgt := 14) hx hb dX11_put_9 (by decide) ?_
    refine lv_aload hx hb dX11_put_14 (lv_at hl 0 rfl) ?_
    refine m_ci0 (m_rS S hKX hW (m_szH hbs hS) (c_X11_rowRefusal l hi_d2) h lk_X11_111 rfl hl.1 rfl ⟨Nat.le_of_ble_eq_true rfl, Nat.le_of_ble_eq_true rfl⟩ (Nat.le_of_ble_eq_true rfl) ⟨Nat.le_of_ble_eq_true rfl, Nat.le_of_ble_eq_true rfl⟩ dX11_put_16) hS rfl rfl (fun rr16 Mm16 H locs h hW hS => ?_)
    refine lv_istore (lv' := [(5, .int rr16), (4, .ref (ad G 7 d2)), (0, .ref (ad G 0 0)), (1, .int x1), (2, .int x2), (3, .int x3)]) hx hb dX11_put_19 hl (by decide) rfl (fun ls hl => ?_)
    refine lv_iload hx hb dX11_put_21 (lv_at hl 0 rfl) ?_
    refine lv_if_eq (tgt := 29) hx hb dX11_put_23 (by decide) (fun c23 => ?_) (fun c23 => ?_)
    · replace h := h.1 c23
      refine lv_aload hx hb dX11_put_29 (lv_at hl 1 rfl) ?_
      refine lv_iload_n hx hb dX11_put_31 rfl (lv_at hl 4 rfl) ?_
      refine m_ci0 (m_rV S hKX hW (m_szH hbs hS) (c_X9_hasPlace l hi_d2) h lk_X11_277 (m_recv hK hW (ci_7 hi_d2) (rc_7 G) rfl) rfl hl.1 rfl ⟨Nat.le_of_ble_eq_true rfl, Nat.le_of_ble_eq_true rfl⟩ (Nat.le_of_ble_eq_true rfl) ⟨Nat.le_of_ble_eq_true rfl, Nat.le_of_ble_eq_true rfl⟩ dX11_put_32) hS rfl rfl (fun rr32 Mm32 H locs h hW hS => ?_)
      refine lv_if_ne (tgt := 41) hx hb dX11_put_35 (by decide) (fun c35 => ?_) (fun c35 => ?_)
      · replace h := h.1 c35
        refine lv_aload hx hb dX11_put_41 (lv_at hl 1 rfl) ?_
        refine lv_iload_n hx hb dX11_put_43 rfl (lv_at hl 4 rfl) ?_
        refine lv_iload_n hx hb dX11_put_44 rfl (lv_at hl 5 rfl) ?_
        refine m_cv0 (m_rV S hKX hW (m_szH hbs hS) (c_X9_write l hi_d2) h lk_X11_280 (m_recv hK hW (ci_7 hi_d2) (rc_7 G) rfl) rfl hl.1 rfl ⟨Nat.le_of_ble_eq_true rfl, Nat.le_of_ble_eq_true rfl⟩ (Nat.le_of_ble_eq_true rfl) ⟨Nat.le_of_ble_eq_true rfl, Nat.le_of_ble_eq_true rfl⟩ dX11_put_45) hS rfl rfl (fun Mm45 H locs h hW hS => ?_)
        refine lv_iconst hx hb dX11_put_48 ki_0 ?_
        exact m_iret S hret hlocks hKX hW hbs hS rfl h dX11_put_49
      · replace h := h.2 c35
        refine lv_bipush hx hb dX11_put_38 kb_m13 ?_
        exact m_iret S hret hlocks hKX hW hbs hS rfl h dX11_put_40
    · replace h := h.2 c23
      refine lv_iload hx hb dX11_put_26 (lv_at hl 0 rfl) ?_
      exact m_iret S hret hlocks hKX hW hbs hS rfl h dX11_put_28
abbrev rm_X11_copy : Room := { frames := 1, cells := 0, slots := 0, locals := 64 }
set_option maxHeartbeats 4000000 in
set_option maxRecDepth 100000 in
theorem c_X11_copy (l : Launch) {G : Gn} {M : Mem} {x1 : Int32} {x2 : Int32} {x3 : Int32} {x4 : Int32} {x5 : Int32} {P : Int32 → Mem → Prop} : MQi l yX11_copy cX11_copy 8 (some .int) rm_X11_copy [.ref (ad G 0 0), .int x1, .int x2, .int x3, .int x4, .int x5] G M (s_X11_copy M x1 x2 x3 x4 x5 P) P := by
  refine m_enter (by decide +kernel) (Nat.le_of_ble_eq_true rfl) ?_
  intro p e s m below meth c ls H locs S hret hlocks hname hKX hbs hW hS hl h
  obtain ⟨AV, hAV⟩ : ∃ z : Array Value, z = ([.ref (ad G 0 0), .int x1, .int x2, .int x3, .int x4, .int x5] : List Value).toArray := ⟨_, rfl⟩
  rw [← hAV] at S ⊢
  replace S : CallFix p m c cX11_copy 8 s AV lw_G "MilkDesk" := S
  have hK := hKX.1
  have hx := S.1
  have hb := S.2.1
  have hml := S.2.2.1
  have hown := S.2.2.2.1
  have hts := S.2.2.2.2
  replace hl : lv_has ls 8 [(0, .ref (ad G 0 0)), (1, .int x1), (2, .int x2), (3, .int x3), (4, .int x4), (5, .int x5)] := hl
  unfold s_X11_copy at h
  refine lv_aload_n hx hb dX11_copy_0 rfl (lv_at hl 0 rfl) ?_
  refine lv_iload_n hx hb dX11_copy_1 rfl (lv_at hl 1 rfl) ?_
  refine m_cq0 (m_rV S hKX hW (m_szH hbs hS) (c_X11_shelfAt l ) h lk_X11_100 (m_recv hK hW (ci_0 (Nat.le_of_ble_eq_true rfl)) (rc_0 G) rfl) rfl hl.1 rfl ⟨Nat.le_of_ble_eq_true rfl, Nat.le_of_ble_eq_true rfl⟩ (Nat.le_of_ble_eq_true rfl) ⟨Nat.le_of_ble_eq_true rfl, Nat.le_of_ble_eq_true rfl⟩ dX11_copy_2) hS rfl rfl (fun Mm2 H locs h hW hS => ?_) (fun d2 Mm2 H locs h hW hS => ?_)
  · replace h := h.1 rfl
    refine lv_astoreN (lv' := [(6, .null), (0, .ref (ad G 0 0)), (1, .int x1), (2, .int x2), (3, .int x3), (4, .int x4), (5, .int x5)]) hx hb dX11_copy_5 hl (by decide) rfl (fun ls hl => ?_)
    refine lv_aload_n hx hb dX11_copy_7 rfl (lv_at hl 1 rfl) ?_
    refine lv_iload_n hx hb dX11_copy_8 rfl (lv_at hl 4 rfl) ?_
    refine m_cq0 (m_rV S hKX hW (m_szH hbs hS) (c_X11_shelfAt l ) h lk_X11_100 (m_recv hK hW (ci_0 (Nat.le_of_ble_eq_true rfl)) (rc_0 G) rfl) rfl hl.1 rfl ⟨Nat.le_of_ble_eq_true rfl, Nat.le_of_ble_eq_true rfl⟩ (Nat.le_of_ble_eq_true rfl) ⟨Nat.le_of_ble_eq_true rfl, Nat.le_of_ble_eq_true rfl⟩ dX11_copy_9) hS rfl rfl (fun Mm9 H locs h hW hS => ?_) (fun d9 Mm9 H locs h hW hS => ?_)
    · replace h := h.1 rfl
      refine lv_astoreN (lv' := [(7, .null), (6, .null), (0, .ref (ad G 0 0)), (1, .int x1), (2, .int x2), (3, .int x3), (4, .int x4), (5, .int x5)]) hx hb dX11_copy_12 hl (by decide) rfl (fun ls hl => ?_)
      refine lv_aloadN hx hb dX11_copy_14 (lv_at hl 1 rfl) ?_
      refine lv_ifnullN (tgt := 24) hx hb dX11_copy_16 (by decide) ?_
      refine lv_iconst hx hb dX11_copy_24 ki_m1 ?_
      exact m_iret S hret hlocks hKX hW hbs hS rfl h dX11_copy_25
    · obtain ⟨hi_d9, h⟩ := h.2 d9 rfl
      refine lv_astore (lv' := [(7, .ref (ad G 7 d9)), (6, .null), (0, .ref (ad G 0 0)), (1, .int x1), (2, .int x2), (3, .int x3), (4, .int x4), (5, .int x5)]) hx hb dX11_copy_12 hl (by decide) rfl (fun ls hl => ?_)
      refine lv_aloadN hx hb dX11_copy_14 (lv_at hl 1 rfl) ?_
      refine lv_ifnullN (tgt := 24) hx hb dX11_copy_16 (by decide) ?_
      refine lv_iconst hx hb dX11_copy_24 ki_m1 ?_
      exact m_iret S hret hlocks hKX hW hbs hS rfl h dX11_copy_25
  · obtain ⟨hi_d2, h⟩ := h.2 d2 rfl
    refine lv_astore (lv' := [(6, .ref (ad G 7 d2)), (0, .ref (ad G 0 0)), (1, .int x1), (2, .int x2), (3, .int x3), (4, .int x4), (5, .int x5)]) hx hb dX11_copy_5 hl (by decide) rfl (fun ls hl => ?_)
    refine lv_aload_n hx hb dX11_copy_7 rfl (lv_at hl 1 rfl) ?_
    refine lv_iload_n hx hb dX11_copy_8 rfl (lv_at hl 4 rfl) ?_
    refine m_cq0 (m_rV S hKX hW (m_szH hbs hS) (c_X11_shelfAt l ) h lk_X11_100 (m_recv hK hW (ci_0 (Nat.le_of_ble_eq_true rfl)) (rc_0 G) rfl) rfl hl.1 rfl ⟨Nat.le_of_ble_eq_true rfl, Nat.le_of_ble_eq_true rfl⟩ (Nat.le_of_ble_eq_true rfl) ⟨Nat.le_of_ble_eq_true rfl, Nat.le_of_ble_eq_true rfl⟩ dX11_copy_9) hS rfl rfl (fun Mm9 H locs h hW hS => ?_) (fun d9 Mm9 H locs h hW hS => ?_)
    · replace h := h.1 rfl
      refine lv_astoreN (lv' := [(7, .null), (6, .ref (ad G 7 d2)), (0, .ref (ad G 0 0)), (1, .int x1), (2, .int x2), (3, .int x3), (4, .int x4), (5, .int x5)]) hx hb dX11_copy_12 hl (by decide) rfl (fun ls hl => ?_)
      refine lv_aload hx hb dX11_copy_14 (lv_at hl 1 rfl) ?_
      refine lv_ifnull hx hb dX11_copy_16 ?_
      refine lv_aloadN hx hb dX11_copy_19 (lv_at hl 0 rfl) ?_
      refine lv_ifnonnullN hx hb dX11_copy_21 ?_
      refine lv_iconst hx hb dX11_copy_24 ki_m1 ?_
      exact m_iret S hret hlocks hKX hW hbs hS rfl h dX11_copy_25
    · obtain ⟨hi_d9, h⟩ := h.2 d9 rfl
      refine lv_astore (lv' := [(7, .ref (ad G 7 d9)), (6, .ref (ad G 7 d2)), (0, .ref (ad G 0 0)), (1, .int x1), (2, .int x2), (3, .int x3), (4, .int x4), (5, .int x5)]) hx hb dX11_copy_12 hl (by decide) rfl (fun ls hl => ?_)
      refine lv_aload hx hb dX11_copy_14 (lv_at hl 1 rfl) ?_
      refine lv_ifnull hx hb dX11_copy_16 ?_
      refine lv_aload hx hb dX11_copy_19 (lv_at hl 0 rfl) ?_
      refine lv_ifnonnull (tgt := 26) hx hb dX11_copy_21 (by decide) ?_
      refine lv_aload hx hb dX11_copy_26 (lv_at hl 1 rfl) ?_
      refine m_ci0 (m_rV S hKX hW (m_szH hbs hS) (c_X9_isEmpty l hi_d2) h lk_X11_298 (m_recv hK hW (ci_7 hi_d2) (rc_7 G) rfl) rfl hl.1 rfl ⟨Nat.le_of_ble_eq_true rfl, Nat.le_of_ble_eq_true rfl⟩ (Nat.le_of_ble_eq_true rfl) ⟨Nat.le_of_ble_eq_true rfl, Nat.le_of_ble_eq_true rfl⟩ dX11_copy_28) hS rfl rfl (fun rr28 Mm28 H locs h hW hS => ?_)
      refine lv_if_ne (tgt := 42) hx hb dX11_copy_31 (by decide) (fun c31 => ?_) (fun c31 => ?_)
      · replace h := h.1 c31
        refine lv_bipush hx hb dX11_copy_42 kb_m11 ?_
        exact m_iret S hret hlocks hKX hW hbs hS rfl h dX11_copy_44
      · replace h := h.2 c31
        refine lv_aload hx hb dX11_copy_34 (lv_at hl 0 rfl) ?_
        refine m_ci0 (m_rV S hKX hW (m_szH hbs hS) (c_X9_isEmpty l hi_d9) h lk_X11_298 (m_recv hK hW (ci_7 hi_d9) (rc_7 G) rfl) rfl hl.1 rfl ⟨Nat.le_of_ble_eq_true rfl, Nat.le_of_ble_eq_true rfl⟩ (Nat.le_of_ble_eq_true rfl) ⟨Nat.le_of_ble_eq_true rfl, Nat.le_of_ble_eq_true rfl⟩ dX11_copy_36) hS rfl rfl (fun rr36 Mm36 H locs h hW hS => ?_)
        refine lv_if_eq (tgt := 45) hx hb dX11_copy_39 (by decide) (fun c39 => ?_) (fun c39 => ?_)
        · replace h := h.1 c39
          refine lv_aload hx hb dX11_copy_45 (lv_at hl 1 rfl) ?_
          refine m_ci0 (m_rV S hKX hW (m_szH hbs hS) (c_X9_isRow l hi_d2) h lk_X11_302 (m_recv hK hW (ci_7 hi_d2) (rc_7 G) rfl) rfl hl.1 rfl ⟨Nat.le_of_ble_eq_true rfl, Nat.le_of_ble_eq_true rfl⟩ (Nat.le_of_ble_eq_true rfl) ⟨Nat.le_of_ble_eq_true rfl, Nat.le_of_ble_eq_true rfl⟩ dX11_copy_47) hS rfl rfl (fun rr47 Mm47 H locs h hW hS => ?_)
          refine lv_if_eq (tgt := 74) hx hb dX11_copy_50 (by decide) (fun c50 => ?_) (fun c50 => ?_)
          · replace h := h.1 c50
            refine lv_bipush hx hb dX11_copy_74 kb_m12 ?_
            exact m_iret S hret hlocks hKX hW hbs hS rfl h dX11_copy_76
          · replace h := h.2 c50
            refine lv_aload hx hb dX11_copy_53 (lv_at hl 0 rfl) ?_
            refine m_ci0 (m_rV S hKX hW (m_szH hbs hS) (c_X9_isRow l hi_d9) h lk_X11_302 (m_recv hK hW (ci_7 hi_d9) (rc_7 G) rfl) rfl hl.1 rfl ⟨Nat.le_of_ble_eq_true rfl, Nat.le_of_ble_eq_true rfl⟩ (Nat.le_of_ble_eq_true rfl) ⟨Nat.le_of_ble_eq_true rfl, Nat.le_of_ble_eq_true rfl⟩ dX11_copy_55) hS rfl rfl (fun rr55 Mm55 H locs h hW hS => ?_)
            refine lv_if_eq (tgt := 74) hx hb dX11_copy_58 (by decide) (fun c58 => ?_) (fun c58 => ?_)
            · replace h := h.1 c58
              refine lv_bipush hx hb dX11_copy_74 kb_m12 ?_
              exact m_iret S hret hlocks hKX hW hbs hS rfl h dX11_copy_76
            · replace h := h.2 c58
              refine lv_aload hx hb dX11_copy_61 (lv_at hl 1 rfl) ?_
              refine m_geti S hK fk_X11_305 (gi_7_4 G) hW (ci_7 hi_d2) dX11_copy_63 ?_
              refine lv_aload hx hb dX11_copy_66 (lv_at hl 0 rfl) ?_
              refine m_geti S hK fk_X11_305 (gi_7_4 G) hW (ci_7 hi_d9) dX11_copy_68 ?_
              refine lv_icmp_eq (tgt := 77) hx hb dX11_copy_71 (by decide) (fun c71 => ?_) (fun c71 => ?_)
              · replace h := h.1 c71
                refine lv_aload hx hb dX11_copy_77 (lv_at hl 1 rfl) ?_
                refine lv_iload_n hx hb dX11_copy_79 rfl (lv_at hl 4 rfl) ?_
                refine lv_iload hx hb dX11_copy_80 (lv_at hl 7 rfl) ?_
                refine m_ci0 (m_rV S hKX hW (m_szH hbs hS) (c_X9_hasPlaces l hi_d2) h lk_X11_308 (m_recv hK hW (ci_7 hi_d2) (rc_7 G) rfl) rfl hl.1 rfl ⟨Nat.le_of_ble_eq_true rfl, Nat.le_of_ble_eq_true rfl⟩ (Nat.le_of_ble_eq_true rfl) ⟨Nat.le_of_ble_eq_true rfl, Nat.le_of_ble_eq_true rfl⟩ dX11_copy_82) hS rfl rfl (fun rr82 Mm82 H locs h hW hS => ?_)
                refine lv_if_eq (tgt := 100) hx hb dX11_copy_85 (by decide) (fun c85 => ?_) (fun c85 => ?_)
                · replace h := h.1 c85
                  refine lv_bipush hx hb dX11_copy_100 kb_m13 ?_
                  exact m_iret S hret hlocks hKX hW hbs hS rfl h dX11_copy_102
                · replace h := h.2 c85
                  refine lv_aload hx hb dX11_copy_88 (lv_at hl 0 rfl) ?_
                  refine lv_iload hx hb dX11_copy_90 (lv_at hl 6 rfl) ?_
                  refine lv_iload hx hb dX11_copy_92 (lv_at hl 7 rfl) ?_
                  refine m_ci0 (m_rV S hKX hW (m_szH hbs hS) (c_X9_hasPlaces l hi_d9) h lk_X11_308 (m_recv hK hW (ci_7 hi_d9) (rc_7 G) rfl) rfl hl.1 rfl ⟨Nat.le_of_ble_eq_true rfl, Nat.le_of_ble_eq_true rfl⟩ (Nat.le_of_ble_eq_true rfl) ⟨Nat.le_of_ble_eq_true rfl, Nat.le_of_ble_eq_true rfl⟩ dX11_copy_94) hS rfl rfl (fun rr94 Mm94 H locs h hW hS => ?_)
                  refine lv_if_ne (tgt := 103) hx hb dX11_copy_97 (by decide) (fun c97 => ?_) (fun c97 => ?_)
                  · replace h := h.1 c97
                    refine lv_aload hx hb dX11_copy_103 (lv_at hl 1 rfl) ?_
                    refine m_getr S hK fk_X11_295 (gr_7_6 G d2) hW (ci_7 hi_d2) dX11_copy_105 ?_
                    refine lv_iload_n hx hb dX11_copy_108 rfl (lv_at hl 4 rfl) ?_
                    refine lv_aload hx hb dX11_copy_109 (lv_at hl 0 rfl) ?_
                    refine m_getr S hK fk_X11_295 (gr_7_6 G d9) hW (ci_7 hi_d9) dX11_copy_111 ?_
                    refine lv_iload hx hb dX11_copy_114 (lv_at hl 6 rfl) ?_
                    refine lv_iload hx hb dX11_copy_116 (lv_at hl 7 rfl) ?_
                    obtain ⟨hc118, h⟩ := h
                    refine m_acopy S hK hml hl.1 (ar_39 G) (ar_39 G) hW hS (ci_39 hi_d2) (ci_39 hi_d9) (hts _ mw_848) (hts _ mw_647) (hts _ mw_646) (hts _ mw_19) hc118 (Nat.le_of_ble_eq_true rfl) (Nat.le_of_ble_eq_true rfl) dX11_copy_118 (fun Mm118 eMm118 H locs hW hS => ?_)
                    replace h := h Mm118 eMm118
                    refine lv_iload hx hb dX11_copy_121 (lv_at hl 7 rfl) ?_
                    exact m_iret S hret hlocks hKX hW hbs hS rfl h dX11_copy_123
                  · replace h := h.2 c97
                    refine lv_bipush hx hb dX11_copy_100 kb_m13 ?_
                    exact m_iret S hret hlocks hKX hW hbs hS rfl h dX11_copy_102
              · replace h := h.2 c71
                refine lv_bipush hx hb dX11_copy_74 kb_m12 ?_
                exact m_iret S hret hlocks hKX hW hbs hS rfl h dX11_copy_76
        · replace h := h.2 c39
          refine lv_bipush hx hb dX11_copy_42 kb_m11 ?_
          exact m_iret S hret hlocks hKX hW hbs hS rfl h dX11_copy_44
abbrev rm_X11_crateRefusal : Room := { frames := 1, cells := 0, slots := 0, locals := 20 }
set_option maxHeartbeats 4000000 in
set_option maxRecDepth 100000 in
theorem c_X11_crateRefusal (l : Launch) {G : Gn} {M : Mem} {d : Nat} {P : Int32 → Mem → Prop} (hi_d : d < 8) : MQi l yX11_crateRefusal cX11_crateRefusal 1 (some .int) rm_X11_crateRefusal [.ref (ad G 7 d)] G M (s_X11_crateRefusal d M P) P := by
  refine m_enter (by decide +kernel) (Nat.le_of_ble_eq_true rfl) ?_
  intro p e s m below meth c ls H locs S hret hlocks hname hKX hbs hW hS hl h
  obtain ⟨AV, hAV⟩ : ∃ z : Array Value, z = ([.ref (ad G 7 d)] : List Value).toArray := ⟨_, rfl⟩
  rw [← hAV] at S ⊢
  replace S : CallFix p m c cX11_crateRefusal 1 s AV lw_G "MilkDesk" := S
  have hK := hKX.1
  have hx := S.1
  have hb := S.2.1
  have hml := S.2.2.1
  have hown := S.2.2.2.1
  have hts := S.2.2.2.2
  replace hl : lv_has ls 1 [(0, .ref (ad G 7 d))] := hl
  unfold s_X11_crateRefusal at h
  refine lv_aload_n hx hb dX11_crateRefusal_0 rfl (lv_at hl 0 rfl) ?_
  refine m_ci0 (m_rV S hKX hW (m_szH hbs hS) (c_X9_isEmpty l hi_d) h lk_X11_298 (m_recv hK hW (ci_7 hi_d) (rc_7 G) rfl) rfl hl.1 rfl ⟨Nat.le_of_ble_eq_true rfl, Nat.le_of_ble_eq_true rfl⟩ (Nat.le_of_ble_eq_true rfl) ⟨Nat.le_of_ble_eq_true rfl, Nat.le_of_ble_eq_true rfl⟩ dX11_crateRefusal_1) hS rfl rfl (fun rr1 Mm1 H locs h hW hS => ?_)
  refine lv_if_eq (tgt := 10) hx hb dX11_crateRefusal_4 (by decide) (fun c4 => ?_) (fun c4 => ?_)
  · replace h := h.1 c4
    refine lv_aload_n hx hb dX11_crateRefusal_10 rfl (lv_at hl 0 rfl) ?_
    refine m_ci0 (m_rV S hKX hW (m_szH hbs hS) (c_X9_isRow l hi_d) h lk_X11_302 (m_recv hK hW (ci_7 hi_d) (rc_7 G) rfl) rfl hl.1 rfl ⟨Nat.le_of_ble_eq_true rfl, Nat.le_of_ble_eq_true rfl⟩ (Nat.le_of_ble_eq_true rfl) ⟨Nat.le_of_ble_eq_true rfl, Nat.le_of_ble_eq_true rfl⟩ dX11_crateRefusal_11) hS rfl rfl (fun rr11 Mm11 H locs h hW hS => ?_)
    refine lv_if_eq (tgt := 22) hx hb dX11_crateRefusal_14 (by decide) (fun c14 => ?_) (fun c14 => ?_)
    · replace h := h.1 c14
      refine lv_iconst hx hb dX11_crateRefusal_22 ki_0 ?_
      exact m_iret S hret hlocks hKX hW hbs hS rfl h dX11_crateRefusal_23
    · replace h := h.2 c14
      refine lv_bipush hx hb dX11_crateRefusal_17 kb_m12 ?_
      refine lv_goto (tgt := 23) hx hb dX11_crateRefusal_19 (by decide) ?_
      exact m_iret S hret hlocks hKX hW hbs hS rfl h dX11_crateRefusal_23
  · replace h := h.2 c4
    refine lv_bipush hx hb dX11_crateRefusal_7 kb_m11 ?_
    exact m_iret S hret hlocks hKX hW hbs hS rfl h dX11_crateRefusal_9
abbrev rm_X11_crate : Room := { frames := 2, cells := 0, slots := 0, locals := 40 }
set_option maxHeartbeats 4000000 in
set_option maxRecDepth 100000 in
theorem c_X11_crate (l : Launch) {G : Gn} {M : Mem} {x1 : Int32} {x2 : Int32} {x3 : Int32} {P : Int32 → Mem → Prop} : MQi l yX11_crate cX11_crate 6 (some .int) rm_X11_crate [.ref (ad G 0 0), .int x1, .int x2, .int x3] G M (s_X11_crate M x1 x2 x3 P) P := by
  refine m_enter (by decide +kernel) (Nat.le_of_ble_eq_true rfl) ?_
  intro p e s m below meth c ls H locs S hret hlocks hname hKX hbs hW hS hl h
  obtain ⟨AV, hAV⟩ : ∃ z : Array Value, z = ([.ref (ad G 0 0), .int x1, .int x2, .int x3] : List Value).toArray := ⟨_, rfl⟩
  rw [← hAV] at S ⊢
  replace S : CallFix p m c cX11_crate 6 s AV lw_G "MilkDesk" := S
  have hK := hKX.1
  have hx := S.1
  have hb := S.2.1
  have hml := S.2.2.1
  have hown := S.2.2.2.1
  have hts := S.2.2.2.2
  replace hl : lv_has ls 6 [(0, .ref (ad G 0 0)), (1, .int x1), (2, .int x2), (3, .int x3)] := hl
  unfold s_X11_crate at h
  refine lv_aload_n hx hb dX11_crate_0 rfl (lv_at hl 0 rfl) ?_
  refine lv_iload_n hx hb dX11_crate_1 rfl (lv_at hl 1 rfl) ?_
  refine m_cq0 (m_rV S hKX hW (m_szH hbs hS) (c_X11_shelfAt l ) h lk_X11_100 (m_recv hK hW (ci_0 (Nat.le_of_ble_eq_true rfl)) (rc_0 G) rfl) rfl hl.1 rfl ⟨Nat.le_of_ble_eq_true rfl, Nat.le_of_ble_eq_true rfl⟩ (Nat.le_of_ble_eq_true rfl) ⟨Nat.le_of_ble_eq_true rfl, Nat.le_of_ble_eq_true rfl⟩ dX11_crate_2) hS rfl rfl (fun Mm2 H locs h hW hS => ?_) (fun d2 Mm2 H locs h hW hS => ?_)
  · replace h := h.1 rfl
    refine lv_astoreN (lv' := [(4, .null), (0, .ref (ad G 0 0)), (1, .int x1), (2, .int x2), (3, .int x3)]) hx hb dX11_crate_5 hl (by decide) rfl (fun ls hl => ?_)
    refine lv_aloadN hx hb dX11_crate_7 (lv_at hl 0 rfl) ?_
    refine lv_ifnullN (tgt := 32) hx hb dX11_crate_9 (by decide) ?_
    refine lv_iconst hx hb dX11_crate_32 ki_m1 ?_
    exact m_iret S hret hlocks hKX hW hbs hS rfl h dX11_crate_33
  · obtain ⟨hi_d2, h⟩ := h.2 d2 rfl
    refine lv_astore (lv' := [(4, .ref (ad G 7 d2)), (0, .ref (ad G 0 0)), (1, .int x1), (2, .int x2), (3, .int x3)]) hx hb dX11_crate_5 hl (by decide) rfl (fun ls hl => ?_)
    refine lv_aload hx hb dX11_crate_7 (lv_at hl 0 rfl) ?_
    refine lv_ifnull hx hb dX11_crate_9 ?_
    refine lv_iload_n hx hb dX11_crate_12 rfl (lv_at hl 3 rfl) ?_
    refine lv_iconst hx hb dX11_crate_13 ki_0 ?_
    refine lv_iconst hx hb dX11_crate_14 ki_1 ?_
    refine m_ci0 (m_rS S hKX hW (m_szH hbs hS) (c_X11_within l ) h lk_X11_43 rfl hl.1 rfl ⟨Nat.le_of_ble_eq_true rfl, Nat.le_of_ble_eq_true rfl⟩ (Nat.le_of_ble_eq_true rfl) ⟨Nat.le_of_ble_eq_true rfl, Nat.le_of_ble_eq_true rfl⟩ dX11_crate_15) hS rfl rfl (fun rr15 Mm15 H locs h hW hS => ?_)
    refine lv_if_eq (tgt := 32) hx hb dX11_crate_18 (by decide) (fun c18 => ?_) (fun c18 => ?_)
    · replace h := h.1 c18
      refine lv_iconst hx hb dX11_crate_32 ki_m1 ?_
      exact m_iret S hret hlocks hKX hW hbs hS rfl h dX11_crate_33
    · replace h := h.2 c18
      refine lv_iload_n hx hb dX11_crate_21 rfl (lv_at hl 4 rfl) ?_
      refine lv_iconst hx hb dX11_crate_22 ki_0 ?_
      refine lv_sipush hx hb dX11_crate_23 ks_999 ?_
      refine m_ci0 (m_rS S hKX hW (m_szH hbs hS) (c_X11_within l ) h lk_X11_43 rfl hl.1 rfl ⟨Nat.le_of_ble_eq_true rfl, Nat.le_of_ble_eq_true rfl⟩ (Nat.le_of_ble_eq_true rfl) ⟨Nat.le_of_ble_eq_true rfl, Nat.le_of_ble_eq_true rfl⟩ dX11_crate_26) hS rfl rfl (fun rr26 Mm26 H locs h hW hS => ?_)
      refine lv_if_ne (tgt := 34) hx hb dX11_crate_29 (by decide) (fun c29 => ?_) (fun c29 => ?_)
      · replace h := h.1 c29
        refine lv_aload hx hb dX11_crate_34 (lv_at hl 0 rfl) ?_
        refine m_ci0 (m_rS S hKX hW (m_szH hbs hS) (c_X11_crateRefusal l hi_d2) h lk_X11_317 rfl hl.1 rfl ⟨Nat.le_of_ble_eq_true rfl, Nat.le_of_ble_eq_true rfl⟩ (Nat.le_of_ble_eq_true rfl) ⟨Nat.le_of_ble_eq_true rfl, Nat.le_of_ble_eq_true rfl⟩ dX11_crate_36) hS rfl rfl (fun rr36 Mm36 H locs h hW hS => ?_)
        refine lv_istore (lv' := [(5, .int rr36), (4, .ref (ad G 7 d2)), (0, .ref (ad G 0 0)), (1, .int x1), (2, .int x2), (3, .int x3)]) hx hb dX11_crate_39 hl (by decide) rfl (fun ls hl => ?_)
        refine lv_iload hx hb dX11_crate_41 (lv_at hl 0 rfl) ?_
        refine lv_if_eq (tgt := 49) hx hb dX11_crate_43 (by decide) (fun c43 => ?_) (fun c43 => ?_)
        · replace h := h.1 c43
          refine lv_iload_n hx hb dX11_crate_49 rfl (lv_at hl 4 rfl) ?_
          refine lv_if_ne (tgt := 69) hx hb dX11_crate_50 (by decide) (fun c50 => ?_) (fun c50 => ?_)
          · replace h := h.1 c50
            refine lv_aload hx hb dX11_crate_69 (lv_at hl 1 rfl) ?_
            refine m_geti S hK fk_X11_320 (gi_7_1 G) hW (ci_7 hi_d2) dX11_crate_71 ?_
            refine lv_aload hx hb dX11_crate_74 (lv_at hl 1 rfl) ?_
            refine m_geti S hK fk_X11_323 (gi_7_2 G) hW (ci_7 hi_d2) dX11_crate_76 ?_
            refine lv_iload_n hx hb dX11_crate_79 rfl (lv_at hl 5 rfl) ?_
            refine m_ci0 (m_rS S hKX hW (m_szH hbs hS) (c_X3_paid l ) h lk_X11_328 rfl hl.1 rfl ⟨Nat.le_of_ble_eq_true rfl, Nat.le_of_ble_eq_true rfl⟩ (Nat.le_of_ble_eq_true rfl) ⟨Nat.le_of_ble_eq_true rfl, Nat.le_of_ble_eq_true rfl⟩ dX11_crate_80) hS rfl rfl (fun rr80 Mm80 H locs h hW hS => ?_)
            exact m_iret S hret hlocks hKX hW hbs hS rfl h dX11_crate_83
          · replace h := h.2 c50
            refine lv_aload hx hb dX11_crate_53 (lv_at hl 1 rfl) ?_
            refine m_geti S hK fk_X11_320 (gi_7_1 G) hW (ci_7 hi_d2) dX11_crate_55 ?_
            refine lv_aload hx hb dX11_crate_58 (lv_at hl 1 rfl) ?_
            refine m_geti S hK fk_X11_323 (gi_7_2 G) hW (ci_7 hi_d2) dX11_crate_60 ?_
            refine m_ci0 (m_rS S hKX hW (m_szH hbs hS) (c_X3_drunk l ) h lk_X11_325 rfl hl.1 rfl ⟨Nat.le_of_ble_eq_true rfl, Nat.le_of_ble_eq_true rfl⟩ (Nat.le_of_ble_eq_true rfl) ⟨Nat.le_of_ble_eq_true rfl, Nat.le_of_ble_eq_true rfl⟩ dX11_crate_63) hS rfl rfl (fun rr63 Mm63 H locs h hW hS => ?_)
            refine lv_goto (tgt := 83) hx hb dX11_crate_66 (by decide) ?_
            exact m_iret S hret hlocks hKX hW hbs hS rfl h dX11_crate_83
        · replace h := h.2 c43
          refine lv_iload hx hb dX11_crate_46 (lv_at hl 0 rfl) ?_
          exact m_iret S hret hlocks hKX hW hbs hS rfl h dX11_crate_48
      · replace h := h.2 c29
        refine lv_iconst hx hb dX11_crate_32 ki_m1 ?_
        exact m_iret S hret hlocks hKX hW hbs hS rfl h dX11_crate_33
abbrev rm_X12_thrown : Room := { frames := 0, cells := 0, slots := 0, locals := 0 }
set_option maxHeartbeats 4000000 in
set_option maxRecDepth 100000 in
theorem c_X12_thrown (l : Launch) {G : Gn} {M : Mem} {P : Int32 → Mem → Prop} : MQi l yX12_thrown cX12_thrown 1 (some .int) rm_X12_thrown [.ref (ad G 10 0)] G M (s_X12_thrown M P) P := by
  refine m_enter (by decide +kernel) (Nat.le_of_ble_eq_true rfl) ?_
  intro p e s m below meth c ls H locs S hret hlocks hname hKX hbs hW hS hl h
  obtain ⟨AV, hAV⟩ : ∃ z : Array Value, z = ([.ref (ad G 10 0)] : List Value).toArray := ⟨_, rfl⟩
  rw [← hAV] at S ⊢
  replace S : CallFix p m c cX12_thrown 1 s AV lw_G "MilkDeskModel" := S
  have hK := hKX.1
  have hx := S.1
  have hb := S.2.1
  have hml := S.2.2.1
  have hown := S.2.2.2.1
  have hts := S.2.2.2.2
  replace hl : lv_has ls 1 [(0, .ref (ad G 10 0))] := hl
  unfold s_X12_thrown at h
  refine lv_aload_n hx hb dX12_thrown_0 rfl (lv_at hl 0 rfl) ?_
  refine m_geti S hK fk_X12_128 (gi_10_0 G) hW (ci_10 (Nat.le_of_ble_eq_true rfl)) dX12_thrown_1 ?_
  exact m_iret S hret hlocks hKX hW hbs hS rfl h dX12_thrown_4
abbrev rm_X12_in : Room := { frames := 0, cells := 0, slots := 0, locals := 0 }
set_option maxHeartbeats 4000000 in
set_option maxRecDepth 100000 in
theorem c_X12_in (l : Launch) {G : Gn} {M : Mem} {x0 : Int32} {x1 : Int32} {x2 : Int32} {P : Int32 → Mem → Prop} : MQi l yX12_in cX12_in 3 (some .boolean) rm_X12_in [.int x0, .int x1, .int x2] G M (s_X12_in M x0 x1 x2 P) P := by
  refine m_enter (by decide +kernel) (Nat.le_of_ble_eq_true rfl) ?_
  intro p e s m below meth c ls H locs S hret hlocks hname hKX hbs hW hS hl h
  obtain ⟨AV, hAV⟩ : ∃ z : Array Value, z = ([.int x0, .int x1, .int x2] : List Value).toArray := ⟨_, rfl⟩
  rw [← hAV] at S ⊢
  replace S : CallFix p m c cX12_in 3 s AV lw_G "MilkDeskModel" := S
  have hK := hKX.1
  have hx := S.1
  have hb := S.2.1
  have hml := S.2.2.1
  have hown := S.2.2.2.1
  have hts := S.2.2.2.2
  replace hl : lv_has ls 3 [(0, .int x0), (1, .int x1), (2, .int x2)] := hl
  unfold s_X12_in at h
  refine lv_iload_n hx hb dX12_in_0 rfl (lv_at hl 0 rfl) ?_
  refine lv_iload_n hx hb dX12_in_1 rfl (lv_at hl 1 rfl) ?_
  refine lv_icmp_lt (tgt := 14) hx hb dX12_in_2 (by decide) (fun c2 => ?_) (fun c2 => ?_)
  · replace h := h.1 c2
    refine lv_iconst hx hb dX12_in_14 ki_0 ?_
    exact m_iret S hret hlocks hKX hW hbs hS rfl h dX12_in_15
  · replace h := h.2 c2
    refine lv_iload_n hx hb dX12_in_5 rfl (lv_at hl 0 rfl) ?_
    refine lv_iload_n hx hb dX12_in_6 rfl (lv_at hl 2 rfl) ?_
    refine lv_icmp_gt (tgt := 14) hx hb dX12_in_7 (by decide) (fun c7 => ?_) (fun c7 => ?_)
    · replace h := h.1 c7
      refine lv_iconst hx hb dX12_in_14 ki_0 ?_
      exact m_iret S hret hlocks hKX hW hbs hS rfl h dX12_in_15
    · replace h := h.2 c7
      refine lv_iconst hx hb dX12_in_10 ki_1 ?_
      refine lv_goto (tgt := 15) hx hb dX12_in_11 (by decide) ?_
      exact m_iret S hret hlocks hKX hW hbs hS rfl h dX12_in_15
abbrev rm_X12_isSchool : Room := { frames := 1, cells := 0, slots := 0, locals := 22 }
set_option maxHeartbeats 4000000 in
set_option maxRecDepth 100000 in
theorem c_X12_isSchool (l : Launch) {G : Gn} {M : Mem} {x1 : Int32} {P : Int32 → Mem → Prop} : MQi l yX12_isSchool cX12_isSchool 2 (some .boolean) rm_X12_isSchool [.ref (ad G 10 0), .int x1] G M (s_X12_isSchool M x1 P) P := by
  refine m_enter (by decide +kernel) (Nat.le_of_ble_eq_true rfl) ?_
  intro p e s m below meth c ls H locs S hret hlocks hname hKX hbs hW hS hl h
  obtain ⟨AV, hAV⟩ : ∃ z : Array Value, z = ([.ref (ad G 10 0), .int x1] : List Value).toArray := ⟨_, rfl⟩
  rw [← hAV] at S ⊢
  replace S : CallFix p m c cX12_isSchool 2 s AV lw_G "MilkDeskModel" := S
  have hK := hKX.1
  have hx := S.1
  have hb := S.2.1
  have hml := S.2.2.1
  have hown := S.2.2.2.1
  have hts := S.2.2.2.2
  replace hl : lv_has ls 2 [(0, .ref (ad G 10 0)), (1, .int x1)] := hl
  unfold s_X12_isSchool at h
  refine lv_iload_n hx hb dX12_isSchool_0 rfl (lv_at hl 1 rfl) ?_
  refine lv_iconst hx hb dX12_isSchool_1 ki_0 ?_
  refine lv_aload_n hx hb dX12_isSchool_2 rfl (lv_at hl 0 rfl) ?_
  refine m_getr S hK fk_X12_7 (gr_10_1 G 0) hW (ci_10 (Nat.le_of_ble_eq_true rfl)) dX12_isSchool_3 ?_
  refine lv_iconst hx hb dX12_isSchool_6 ki_0 ?_
  refine m_aldk S hK (ar_44 G) hW (ci_44 (Nat.le_of_ble_eq_true rfl)) kn_0 (Nat.le_of_ble_eq_true rfl) dX12_isSchool_7 ?_
  refine lv_iconst hx hb dX12_isSchool_8 ki_1 ?_
  refine lv_isub hx hb dX12_isSchool_9 ?_
  refine m_ci0 (m_rS S hKX hW (m_szH hbs hS) (c_X12_in l ) h lk_X12_131 rfl hl.1 rfl ⟨Nat.le_of_ble_eq_true rfl, Nat.le_of_ble_eq_true rfl⟩ (Nat.le_of_ble_eq_true rfl) ⟨Nat.le_of_ble_eq_true rfl, Nat.le_of_ble_eq_true rfl⟩ dX12_isSchool_10) hS rfl rfl (fun rr10 Mm10 H locs h hW hS => ?_)
  obtain ⟨hn13, h⟩ := h
  exact m_iret S hret hlocks hKX hW hbs hS (isB_n hn13) h dX12_isSchool_13
abbrev rm_X12_isDairy : Room := { frames := 1, cells := 0, slots := 0, locals := 22 }
set_option maxHeartbeats 4000000 in
set_option maxRecDepth 100000 in
theorem c_X12_isDairy (l : Launch) {G : Gn} {M : Mem} {x1 : Int32} {P : Int32 → Mem → Prop} : MQi l yX12_isDairy cX12_isDairy 2 (some .boolean) rm_X12_isDairy [.ref (ad G 10 0), .int x1] G M (s_X12_isDairy M x1 P) P := by
  refine m_enter (by decide +kernel) (Nat.le_of_ble_eq_true rfl) ?_
  intro p e s m below meth c ls H locs S hret hlocks hname hKX hbs hW hS hl h
  obtain ⟨AV, hAV⟩ : ∃ z : Array Value, z = ([.ref (ad G 10 0), .int x1] : List Value).toArray := ⟨_, rfl⟩
  rw [← hAV] at S ⊢
  replace S : CallFix p m c cX12_isDairy 2 s AV lw_G "MilkDeskModel" := S
  have hK := hKX.1
  have hx := S.1
  have hb := S.2.1
  have hml := S.2.2.1
  have hown := S.2.2.2.1
  have hts := S.2.2.2.2
  replace hl : lv_has ls 2 [(0, .ref (ad G 10 0)), (1, .int x1)] := hl
  unfold s_X12_isDairy at h
  refine lv_iload_n hx hb dX12_isDairy_0 rfl (lv_at hl 1 rfl) ?_
  refine lv_iconst hx hb dX12_isDairy_1 ki_0 ?_
  refine lv_aload_n hx hb dX12_isDairy_2 rfl (lv_at hl 0 rfl) ?_
  refine m_getr S hK fk_X12_7 (gr_10_1 G 0) hW (ci_10 (Nat.le_of_ble_eq_true rfl)) dX12_isDairy_3 ?_
  refine lv_iconst hx hb dX12_isDairy_6 ki_1 ?_
  refine m_aldk S hK (ar_44 G) hW (ci_44 (Nat.le_of_ble_eq_true rfl)) kn_1 (Nat.le_of_ble_eq_true rfl) dX12_isDairy_7 ?_
  refine lv_iconst hx hb dX12_isDairy_8 ki_1 ?_
  refine lv_isub hx hb dX12_isDairy_9 ?_
  refine m_ci0 (m_rS S hKX hW (m_szH hbs hS) (c_X12_in l ) h lk_X12_131 rfl hl.1 rfl ⟨Nat.le_of_ble_eq_true rfl, Nat.le_of_ble_eq_true rfl⟩ (Nat.le_of_ble_eq_true rfl) ⟨Nat.le_of_ble_eq_true rfl, Nat.le_of_ble_eq_true rfl⟩ dX12_isDairy_10) hS rfl rfl (fun rr10 Mm10 H locs h hW hS => ?_)
  obtain ⟨hn13, h⟩ := h
  exact m_iret S hret hlocks hKX hW hbs hS (isB_n hn13) h dX12_isDairy_13
abbrev rm_X12_isShire : Room := { frames := 1, cells := 0, slots := 0, locals := 22 }
set_option maxHeartbeats 4000000 in
set_option maxRecDepth 100000 in
theorem c_X12_isShire (l : Launch) {G : Gn} {M : Mem} {x0 : Int32} {P : Int32 → Mem → Prop} : MQi l yX12_isShire cX12_isShire 1 (some .boolean) rm_X12_isShire [.int x0] G M (s_X12_isShire M x0 P) P := by
  refine m_enter (by decide +kernel) (Nat.le_of_ble_eq_true rfl) ?_
  intro p e s m below meth c ls H locs S hret hlocks hname hKX hbs hW hS hl h
  obtain ⟨AV, hAV⟩ : ∃ z : Array Value, z = ([.int x0] : List Value).toArray := ⟨_, rfl⟩
  rw [← hAV] at S ⊢
  replace S : CallFix p m c cX12_isShire 1 s AV lw_G "MilkDeskModel" := S
  have hK := hKX.1
  have hx := S.1
  have hb := S.2.1
  have hml := S.2.2.1
  have hown := S.2.2.2.1
  have hts := S.2.2.2.2
  replace hl : lv_has ls 1 [(0, .int x0)] := hl
  unfold s_X12_isShire at h
  refine lv_iload_n hx hb dX12_isShire_0 rfl (lv_at hl 0 rfl) ?_
  refine lv_iconst hx hb dX12_isShire_1 ki_0 ?_
  refine lv_iconst hx hb dX12_isShire_2 ki_3 ?_
  refine m_ci0 (m_rS S hKX hW (m_szH hbs hS) (c_X12_in l ) h lk_X12_131 rfl hl.1 rfl ⟨Nat.le_of_ble_eq_true rfl, Nat.le_of_ble_eq_true rfl⟩ (Nat.le_of_ble_eq_true rfl) ⟨Nat.le_of_ble_eq_true rfl, Nat.le_of_ble_eq_true rfl⟩ dX12_isShire_3) hS rfl rfl (fun rr3 Mm3 H locs h hW hS => ?_)
  obtain ⟨hn6, h⟩ := h
  exact m_iret S hret hlocks hKX hW hbs hS (isB_n hn6) h dX12_isShire_6
abbrev rm_X12_isAge : Room := { frames := 1, cells := 0, slots := 0, locals := 22 }
set_option maxHeartbeats 4000000 in
set_option maxRecDepth 100000 in
theorem c_X12_isAge (l : Launch) {G : Gn} {M : Mem} {x0 : Int32} {P : Int32 → Mem → Prop} : MQi l yX12_isAge cX12_isAge 1 (some .boolean) rm_X12_isAge [.int x0] G M (s_X12_isAge M x0 P) P := by
  refine m_enter (by decide +kernel) (Nat.le_of_ble_eq_true rfl) ?_
  intro p e s m below meth c ls H locs S hret hlocks hname hKX hbs hW hS hl h
  obtain ⟨AV, hAV⟩ : ∃ z : Array Value, z = ([.int x0] : List Value).toArray := ⟨_, rfl⟩
  rw [← hAV] at S ⊢
  replace S : CallFix p m c cX12_isAge 1 s AV lw_G "MilkDeskModel" := S
  have hK := hKX.1
  have hx := S.1
  have hb := S.2.1
  have hml := S.2.2.1
  have hown := S.2.2.2.1
  have hts := S.2.2.2.2
  replace hl : lv_has ls 1 [(0, .int x0)] := hl
  unfold s_X12_isAge at h
  refine lv_iload_n hx hb dX12_isAge_0 rfl (lv_at hl 0 rfl) ?_
  refine lv_iconst hx hb dX12_isAge_1 ki_0 ?_
  refine lv_iconst hx hb dX12_isAge_2 ki_2 ?_
  refine m_ci0 (m_rS S hKX hW (m_szH hbs hS) (c_X12_in l ) h lk_X12_131 rfl hl.1 rfl ⟨Nat.le_of_ble_eq_true rfl, Nat.le_of_ble_eq_true rfl⟩ (Nat.le_of_ble_eq_true rfl) ⟨Nat.le_of_ble_eq_true rfl, Nat.le_of_ble_eq_true rfl⟩ dX12_isAge_3) hS rfl rfl (fun rr3 Mm3 H locs h hW hS => ?_)
  obtain ⟨hn6, h⟩ := h
  exact m_iret S hret hlocks hKX hW hbs hS (isB_n hn6) h dX12_isAge_6
abbrev rm_X12_isDay : Room := { frames := 1, cells := 0, slots := 0, locals := 22 }
set_option maxHeartbeats 4000000 in
set_option maxRecDepth 100000 in
theorem c_X12_isDay (l : Launch) {G : Gn} {M : Mem} {x0 : Int32} {P : Int32 → Mem → Prop} : MQi l yX12_isDay cX12_isDay 1 (some .boolean) rm_X12_isDay [.int x0] G M (s_X12_isDay M x0 P) P := by
  refine m_enter (by decide +kernel) (Nat.le_of_ble_eq_true rfl) ?_
  intro p e s m below meth c ls H locs S hret hlocks hname hKX hbs hW hS hl h
  obtain ⟨AV, hAV⟩ : ∃ z : Array Value, z = ([.int x0] : List Value).toArray := ⟨_, rfl⟩
  rw [← hAV] at S ⊢
  replace S : CallFix p m c cX12_isDay 1 s AV lw_G "MilkDeskModel" := S
  have hK := hKX.1
  have hx := S.1
  have hb := S.2.1
  have hml := S.2.2.1
  have hown := S.2.2.2.1
  have hts := S.2.2.2.2
  replace hl : lv_has ls 1 [(0, .int x0)] := hl
  unfold s_X12_isDay at h
  refine lv_iload_n hx hb dX12_isDay_0 rfl (lv_at hl 0 rfl) ?_
  refine lv_iconst hx hb dX12_isDay_1 ki_0 ?_
  refine lv_sipush hx hb dX12_isDay_2 ks_400 ?_
  refine m_ci0 (m_rS S hKX hW (m_szH hbs hS) (c_X12_in l ) h lk_X12_131 rfl hl.1 rfl ⟨Nat.le_of_ble_eq_true rfl, Nat.le_of_ble_eq_true rfl⟩ (Nat.le_of_ble_eq_true rfl) ⟨Nat.le_of_ble_eq_true rfl, Nat.le_of_ble_eq_true rfl⟩ dX12_isDay_5) hS rfl rfl (fun rr5 Mm5 H locs h hW hS => ?_)
  obtain ⟨hn8, h⟩ := h
  exact m_iret S hret hlocks hKX hW hbs hS (isB_n hn8) h dX12_isDay_8
abbrev rm_X12_school : Room := { frames := 2, cells := 0, slots := 0, locals := 42 }
set_option maxHeartbeats 4000000 in
set_option maxRecDepth 100000 in
theorem c_X12_school (l : Launch) {G : Gn} {M : Mem} {x1 : Int32} {x2 : Int32} {P : Int32 → Mem → Prop} : MQi l yX12_school cX12_school 5 (some .int) rm_X12_school [.ref (ad G 10 0), .int x1, .int x2] G M (s_X12_school M x1 x2 P) P := by
  refine m_enter (by decide +kernel) (Nat.le_of_ble_eq_true rfl) ?_
  intro p e s m below meth c ls H locs S hret hlocks hname hKX hbs hW hS hl h
  obtain ⟨AV, hAV⟩ : ∃ z : Array Value, z = ([.ref (ad G 10 0), .int x1, .int x2] : List Value).toArray := ⟨_, rfl⟩
  rw [← hAV] at S ⊢
  replace S : CallFix p m c cX12_school 5 s AV lw_G "MilkDeskModel" := S
  have hK := hKX.1
  have hx := S.1
  have hb := S.2.1
  have hml := S.2.2.1
  have hown := S.2.2.2.1
  have hts := S.2.2.2.2
  replace hl : lv_has ls 5 [(0, .ref (ad G 10 0)), (1, .int x1), (2, .int x2)] := hl
  have w108 : ∀ (x3 : Int32), ∀ (n : Nat) (a : Mem × Int32), Lz (fun (K108 : Mem × Int32 → Prop) (a : Mem × Int32) => s_X12_school_108 x3 P K108 a.1 a.2) n a → ∀ (H : Heap) (locs : List Loc) (ls : Array Slot), WPm G a.1 H → va_S (fun q => bs G ≤ q) s.heap H locs → lv_has ls 5 [(0, .ref (ad G 10 0)), (3, .int x3), (4, .int a.2)] → W p l e rm_X12_school s m AV below meth c H locs 0 0 (MQ below (va_Qi P (WS G) (fun q => bs G ≤ q)) AV s 0 0 (fun q => bs G ≤ q)) (F0 m 108 ls []) := by
    intro x3
    refine Lz_walk ?_
    rintro K108 kk108 ⟨M, x4⟩ h H locs ls hW hS hl
    replace h : s_X12_school_108 x3 P K108 M x4 := h
    replace hW : WPm G M H := hW
    replace hl : lv_has ls 5 [(0, .ref (ad G 10 0)), (3, .int x3), (4, .int x4)] := hl
    unfold s_X12_school_108 at h
    refine lv_iload hx hb dX12_school_108 (lv_at hl 2 rfl) ?_
    refine lv_bipush hx hb dX12_school_110 kb_11 ?_
    refine lv_icmp_ge (tgt := 138) hx hb dX12_school_112 (by decide) (fun c112 => ?_) (fun c112 => ?_)
    · replace h := h.1 c112
      refine lv_aload_n hx hb dX12_school_138 rfl (lv_at hl 0 rfl) ?_
      refine m_getr S hK fk_X12_7 (gr_10_1 G 0) hW (ci_10 (Nat.le_of_ble_eq_true rfl)) dX12_school_139 ?_
      refine lv_iconst hx hb dX12_school_142 ki_0 ?_
      refine lv_dup2_11 hx hb dX12_school_143 rfl rfl ?_
      refine m_aldk S hK (ar_44 G) hW (ci_44 (Nat.le_of_ble_eq_true rfl)) kn_0 (Nat.le_of_ble_eq_true rfl) dX12_school_144 ?_
      refine lv_iconst hx hb dX12_school_145 ki_1 ?_
      refine lv_iadd hx hb dX12_school_146 ?_
      refine m_astk S hK (ar_44 G) hW hS (ci_44 (Nat.le_of_ble_eq_true rfl)) kn_0 (Nat.le_of_ble_eq_true rfl) dX12_school_147 (fun Mm147 eMm147 H locs hW hS => ?_)
      replace h := h Mm147 eMm147
      refine lv_iload_n hx hb dX12_school_148 rfl (lv_at hl 1 rfl) ?_
      exact m_iret S hret hlocks hKX hW hbs hS rfl h dX12_school_149
    · replace h := h.2 c112
      refine lv_aload_n hx hb dX12_school_115 rfl (lv_at hl 0 rfl) ?_
      refine m_getr S hK fk_X12_7 (gr_10_1 G 0) hW (ci_10 (Nat.le_of_ble_eq_true rfl)) dX12_school_116 ?_
      refine lv_sipush hx hb dX12_school_119 ks_180 ?_
      refine lv_bipush hx hb dX12_school_122 kb_11 ?_
      refine lv_iload_n hx hb dX12_school_124 rfl (lv_at hl 1 rfl) ?_
      refine lv_imul hx hb dX12_school_125 ?_
      refine lv_iadd hx hb dX12_school_126 ?_
      refine lv_iload hx hb dX12_school_127 (lv_at hl 2 rfl) ?_
      refine lv_iadd hx hb dX12_school_129 ?_
      refine lv_iconst hx hb dX12_school_130 ki_0 ?_
      obtain ⟨hb131, h⟩ := h
      refine m_ast S hK (ar_44 G) hW hS (ci_44 (Nat.le_of_ble_eq_true rfl)) hb131 dX12_school_131 (fun Mm131 eMm131 H locs hW hS => ?_)
      replace h := h Mm131 eMm131
      obtain ⟨x4_132, ex4_132⟩ : ∃ z : Int32, z = x4 + (1 : Int32) := ⟨_, rfl⟩
      replace h := h x4_132 ex4_132
      refine lv_iinc (v := x4_132) (lv' := [(4, .int x4_132), (0, .ref (ad G 10 0)), (3, .int x3)]) hx hb dX12_school_132 hl (k := 2) rfl (by rw [ex4_132, ki_1]) (by decide) rfl (fun ls hl => ?_)
      refine lv_goto (tgt := 108) hx hb dX12_school_135 (by decide) ?_
      exact kk108 _ h H locs ls hW hS (lv_sub hl [1, 2, 0] rfl)
  unfold s_X12_school at h
  refine lv_aload_n hx hb dX12_school_0 rfl (lv_at hl 0 rfl) ?_
  refine lv_iconst hx hb dX12_school_1 ki_0 ?_
  refine m_put S hK fk_X12_128 tyX12_ok nmX12 rfl pf_X12_0 (pv_10_0 G) hW hS (ci_10 (Nat.le_of_ble_eq_true rfl)) rfl rfl dX12_school_2 (fun Mm2 eMm2 H locs hW hS => ?_)
  replace h := h Mm2 eMm2
  refine lv_iload_n hx hb dX12_school_5 rfl (lv_at hl 1 rfl) ?_
  refine m_ci0 (m_rS S hKX hW (m_szH hbs hS) (c_X12_isShire l ) h lk_X12_135 rfl hl.1 rfl ⟨Nat.le_of_ble_eq_true rfl, Nat.le_of_ble_eq_true rfl⟩ (Nat.le_of_ble_eq_true rfl) ⟨Nat.le_of_ble_eq_true rfl, Nat.le_of_ble_eq_true rfl⟩ dX12_school_6) hS rfl rfl (fun rr6 Mm6 H locs h hW hS => ?_)
  refine lv_if_eq (tgt := 23) hx hb dX12_school_9 (by decide) (fun c9 => ?_) (fun c9 => ?_)
  · replace h := h.1 c9
    refine lv_iconst hx hb dX12_school_23 ki_m1 ?_
    exact m_iret S hret hlocks hKX hW hbs hS rfl h dX12_school_24
  · replace h := h.2 c9
    refine lv_iload_n hx hb dX12_school_12 rfl (lv_at hl 2 rfl) ?_
    refine lv_iconst hx hb dX12_school_13 ki_0 ?_
    refine lv_sipush hx hb dX12_school_14 ks_9999 ?_
    refine m_ci0 (m_rS S hKX hW (m_szH hbs hS) (c_X12_in l ) h lk_X12_131 rfl hl.1 rfl ⟨Nat.le_of_ble_eq_true rfl, Nat.le_of_ble_eq_true rfl⟩ (Nat.le_of_ble_eq_true rfl) ⟨Nat.le_of_ble_eq_true rfl, Nat.le_of_ble_eq_true rfl⟩ dX12_school_17) hS rfl rfl (fun rr17 Mm17 H locs h hW hS => ?_)
    refine lv_if_ne (tgt := 25) hx hb dX12_school_20 (by decide) (fun c20 => ?_) (fun c20 => ?_)
    · replace h := h.1 c20
      refine lv_aload_n hx hb dX12_school_25 rfl (lv_at hl 0 rfl) ?_
      refine m_getr S hK fk_X12_7 (gr_10_1 G 0) hW (ci_10 (Nat.le_of_ble_eq_true rfl)) dX12_school_26 ?_
      refine lv_iconst hx hb dX12_school_29 ki_0 ?_
      refine m_aldk S hK (ar_44 G) hW (ci_44 (Nat.le_of_ble_eq_true rfl)) kn_0 (Nat.le_of_ble_eq_true rfl) dX12_school_30 ?_
      refine lv_bipush hx hb dX12_school_31 kb_12 ?_
      refine lv_icmp_ne (tgt := 39) hx hb dX12_school_33 (by decide) (fun c33 => ?_) (fun c33 => ?_)
      · replace h := h.1 c33
        refine lv_aload_n hx hb dX12_school_39 rfl (lv_at hl 0 rfl) ?_
        refine m_getr S hK fk_X12_7 (gr_10_1 G 0) hW (ci_10 (Nat.le_of_ble_eq_true rfl)) dX12_school_40 ?_
        refine lv_iconst hx hb dX12_school_43 ki_0 ?_
        refine m_aldk S hK (ar_44 G) hW (ci_44 (Nat.le_of_ble_eq_true rfl)) kn_0 (Nat.le_of_ble_eq_true rfl) dX12_school_44 ?_
        refine lv_topi (fun x3_45 ex3_45 => ?_)
        replace h := h x3_45 ex3_45
        refine lv_istore_n (lv' := [(3, .int x3_45), (0, .ref (ad G 10 0)), (1, .int x1), (2, .int x2)]) hx hb dX12_school_45 rfl hl (by decide) rfl (fun ls hl => ?_)
        refine lv_aload_n hx hb dX12_school_46 rfl (lv_at hl 1 rfl) ?_
        refine m_getr S hK fk_X12_19 (gr_10_5 G 0) hW (ci_10 (Nat.le_of_ble_eq_true rfl)) dX12_school_47 ?_
        refine lv_iload_n hx hb dX12_school_50 rfl (lv_at hl 0 rfl) ?_
        refine lv_iload_n hx hb dX12_school_51 rfl (lv_at hl 2 rfl) ?_
        obtain ⟨hb52, h⟩ := h
        refine m_ast S hK (ar_47 G) hW hS (ci_47 (Nat.le_of_ble_eq_true rfl)) hb52 dX12_school_52 (fun Mm52 eMm52 H locs hW hS => ?_)
        replace h := h Mm52 eMm52
        refine lv_aload_n hx hb dX12_school_53 rfl (lv_at hl 1 rfl) ?_
        refine m_getr S hK fk_X12_22 (gr_10_6 G 0) hW (ci_10 (Nat.le_of_ble_eq_true rfl)) dX12_school_54 ?_
        refine lv_iload_n hx hb dX12_school_57 rfl (lv_at hl 0 rfl) ?_
        refine lv_iload_n hx hb dX12_school_58 rfl (lv_at hl 3 rfl) ?_
        refine lv_bipush hx hb dX12_school_59 kb_100 ?_
        refine lv_idiv hx hb dX12_school_61 nz_100 ?_
        obtain ⟨hb62, h⟩ := h
        refine m_ast S hK (ar_48 G) hW hS (ci_48 (Nat.le_of_ble_eq_true rfl)) hb62 dX12_school_62 (fun Mm62 eMm62 H locs hW hS => ?_)
        replace h := h Mm62 eMm62
        refine lv_aload_n hx hb dX12_school_63 rfl (lv_at hl 1 rfl) ?_
        refine m_getr S hK fk_X12_25 (gr_10_7 G 0) hW (ci_10 (Nat.le_of_ble_eq_true rfl)) dX12_school_64 ?_
        refine lv_iload_n hx hb dX12_school_67 rfl (lv_at hl 0 rfl) ?_
        refine lv_iload_n hx hb dX12_school_68 rfl (lv_at hl 3 rfl) ?_
        refine lv_bipush hx hb dX12_school_69 kb_100 ?_
        refine lv_irem hx hb dX12_school_71 nz_100 ?_
        obtain ⟨hb72, h⟩ := h
        refine m_ast S hK (ar_49 G) hW hS (ci_49 (Nat.le_of_ble_eq_true rfl)) hb72 dX12_school_72 (fun Mm72 eMm72 H locs hW hS => ?_)
        replace h := h Mm72 eMm72
        refine lv_aload_n hx hb dX12_school_73 rfl (lv_at hl 1 rfl) ?_
        refine m_getr S hK fk_X12_7 (gr_10_1 G 0) hW (ci_10 (Nat.le_of_ble_eq_true rfl)) dX12_school_74 ?_
        refine lv_bipush hx hb dX12_school_77 kb_10 ?_
        refine lv_iload_n hx hb dX12_school_79 rfl (lv_at hl 0 rfl) ?_
        refine lv_iadd hx hb dX12_school_80 ?_
        refine lv_iconst hx hb dX12_school_81 ki_0 ?_
        obtain ⟨hb82, h⟩ := h
        refine m_ast S hK (ar_44 G) hW hS (ci_44 (Nat.le_of_ble_eq_true rfl)) hb82 dX12_school_82 (fun Mm82 eMm82 H locs hW hS => ?_)
        replace h := h Mm82 eMm82
        refine lv_aload_n hx hb dX12_school_83 rfl (lv_at hl 1 rfl) ?_
        refine m_getr S hK fk_X12_7 (gr_10_1 G 0) hW (ci_10 (Nat.le_of_ble_eq_true rfl)) dX12_school_84 ?_
        refine lv_bipush hx hb dX12_school_87 kb_30 ?_
        refine lv_iload_n hx hb dX12_school_89 rfl (lv_at hl 0 rfl) ?_
        refine lv_iadd hx hb dX12_school_90 ?_
        refine lv_iconst hx hb dX12_school_91 ki_0 ?_
        obtain ⟨hb92, h⟩ := h
        refine m_ast S hK (ar_44 G) hW hS (ci_44 (Nat.le_of_ble_eq_true rfl)) hb92 dX12_school_92 (fun Mm92 eMm92 H locs hW hS => ?_)
        replace h := h Mm92 eMm92
        refine lv_aload_n hx hb dX12_school_93 rfl (lv_at hl 1 rfl) ?_
        refine m_getr S hK fk_X12_7 (gr_10_1 G 0) hW (ci_10 (Nat.le_of_ble_eq_true rfl)) dX12_school_94 ?_
        refine lv_bipush hx hb dX12_school_97 kb_50 ?_
        refine lv_iload_n hx hb dX12_school_99 rfl (lv_at hl 0 rfl) ?_
        refine lv_iadd hx hb dX12_school_100 ?_
        refine lv_sipush hx hb dX12_school_101 ks_660 ?_
        obtain ⟨hb104, h⟩ := h
        refine m_ast S hK (ar_44 G) hW hS (ci_44 (Nat.le_of_ble_eq_true rfl)) hb104 dX12_school_104 (fun Mm104 eMm104 H locs hW hS => ?_)
        replace h := h Mm104 eMm104
        refine lv_iconst hx hb dX12_school_105 ki_0 ?_
        refine lv_istore (lv' := [(4, .int (0 : Int32)), (3, .int x3_45), (0, .ref (ad G 10 0)), (1, .int x1), (2, .int x2)]) hx hb dX12_school_106 hl (by decide) rfl (fun ls hl => ?_)
        obtain ⟨n108, h⟩ := h
        exact w108 _ n108 _ h H locs ls hW hS (lv_sub hl [2, 1, 0] rfl)
      · replace h := h.2 c33
        refine lv_bipush hx hb dX12_school_36 kb_m2 ?_
        exact m_iret S hret hlocks hKX hW hbs hS rfl h dX12_school_38
    · replace h := h.2 c20
      refine lv_iconst hx hb dX12_school_23 ki_m1 ?_
      exact m_iret S hret hlocks hKX hW hbs hS rfl h dX12_school_24
abbrev rm_X12_set : Room := { frames := 2, cells := 0, slots := 0, locals := 43 }
set_option maxHeartbeats 4000000 in
set_option maxRecDepth 100000 in
theorem c_X12_set (l : Launch) {G : Gn} {M : Mem} {x1 : Int32} {x2 : Int32} {x3 : Int32} {P : Int32 → Mem → Prop} : MQi l yX12_set cX12_set 6 (some .int) rm_X12_set [.ref (ad G 10 0), .int x1, .int x2, .int x3] G M (s_X12_set M x1 x2 x3 P) P := by
  refine m_enter (by decide +kernel) (Nat.le_of_ble_eq_true rfl) ?_
  intro p e s m below meth c ls H locs S hret hlocks hname hKX hbs hW hS hl h
  obtain ⟨AV, hAV⟩ : ∃ z : Array Value, z = ([.ref (ad G 10 0), .int x1, .int x2, .int x3] : List Value).toArray := ⟨_, rfl⟩
  rw [← hAV] at S ⊢
  replace S : CallFix p m c cX12_set 6 s AV lw_G "MilkDeskModel" := S
  have hK := hKX.1
  have hx := S.1
  have hb := S.2.1
  have hml := S.2.2.1
  have hown := S.2.2.2.1
  have hts := S.2.2.2.2
  replace hl : lv_has ls 6 [(0, .ref (ad G 10 0)), (1, .int x1), (2, .int x2), (3, .int x3)] := hl
  have b66 : ∀ (M : Mem) (y0 : Int32) (H : Heap) (locs : List Loc) (ls : Array Slot), WPm G M H → va_S (fun q => bs G ≤ q) s.heap H locs → lv_has ls 6 [(0, .ref (ad G 10 0)), (1, .int x1), (3, .int x3)] → s_X12_set_66 x1 x3 P M y0 → W p l e rm_X12_set s m AV below meth c H locs 0 0 (MQ below (va_Qi P (WS G) (fun q => bs G ≤ q)) AV s 0 0 (fun q => bs G ≤ q)) (F0 m 66 ls [.int y0]) := by
    intro M y0 H locs ls hW hS hl h
    unfold s_X12_set_66 at h
    refine lv_iload_n hx hb dX12_set_66 rfl (lv_at hl 1 rfl) ?_
    refine lv_iadd hx hb dX12_set_67 ?_
    refine lv_topi (fun x4_68 ex4_68 => ?_)
    replace h := h x4_68 ex4_68
    refine lv_istore (lv' := [(4, .int x4_68), (0, .ref (ad G 10 0)), (1, .int x1), (3, .int x3)]) hx hb dX12_set_68 hl (by decide) rfl (fun ls hl => ?_)
    refine lv_aload_n hx hb dX12_set_70 rfl (lv_at hl 1 rfl) ?_
    refine m_getr S hK fk_X12_7 (gr_10_1 G 0) hW (ci_10 (Nat.le_of_ble_eq_true rfl)) dX12_set_71 ?_
    refine lv_iload hx hb dX12_set_74 (lv_at hl 0 rfl) ?_
    obtain ⟨hb76, h⟩ := h
    refine m_ald S hK (ar_44 G) hW (ci_44 (Nat.le_of_ble_eq_true rfl)) hb76 dX12_set_76 ?_
    refine lv_topi (fun x5_77 ex5_77 => ?_)
    replace h := h x5_77 ex5_77
    refine lv_istore (lv' := [(5, .int x5_77), (4, .int x4_68), (0, .ref (ad G 10 0)), (1, .int x1), (3, .int x3)]) hx hb dX12_set_77 hl (by decide) rfl (fun ls hl => ?_)
    refine lv_aload_n hx hb dX12_set_79 rfl (lv_at hl 2 rfl) ?_
    refine m_getr S hK fk_X12_7 (gr_10_1 G 0) hW (ci_10 (Nat.le_of_ble_eq_true rfl)) dX12_set_80 ?_
    refine lv_iload hx hb dX12_set_83 (lv_at hl 1 rfl) ?_
    refine lv_iload_n hx hb dX12_set_85 rfl (lv_at hl 4 rfl) ?_
    obtain ⟨hb86, h⟩ := h
    refine m_ast S hK (ar_44 G) hW hS (ci_44 (Nat.le_of_ble_eq_true rfl)) hb86 dX12_set_86 (fun Mm86 eMm86 H locs hW hS => ?_)
    replace h := h Mm86 eMm86
    refine lv_iload hx hb dX12_set_87 (lv_at hl 0 rfl) ?_
    exact m_iret S hret hlocks hKX hW hbs hS rfl h dX12_set_89
  have b37 : ∀ (M : Mem) (y0 : Int32) (y1 : Int32) (y2 : Int32) (H : Heap) (locs : List Loc) (ls : Array Slot), WPm G M H → va_S (fun q => bs G ≤ q) s.heap H locs → lv_has ls 6 [(0, .ref (ad G 10 0)), (1, .int x1), (2, .int x2), (3, .int x3)] → s_X12_set_37 x1 x2 x3 P M y0 y1 y2 → W p l e rm_X12_set s m AV below meth c H locs 0 0 (MQ below (va_Qi P (WS G) (fun q => bs G ≤ q)) AV s 0 0 (fun q => bs G ≤ q)) (F0 m 37 ls [.int y0, .int y1, .int y2]) := by
    intro M y0 y1 y2 H locs ls hW hS hl h
    unfold s_X12_set_37 at h
    refine m_ci0 (m_rS S hKX hW (m_szH hbs hS) (c_X12_in l ) h lk_X12_131 rfl hl.1 rfl ⟨Nat.le_of_ble_eq_true rfl, Nat.le_of_ble_eq_true rfl⟩ (Nat.le_of_ble_eq_true rfl) ⟨Nat.le_of_ble_eq_true rfl, Nat.le_of_ble_eq_true rfl⟩ dX12_set_37) hS rfl rfl (fun rr37 Mm37 H locs h hW hS => ?_)
    refine lv_if_ne (tgt := 45) hx hb dX12_set_40 (by decide) (fun c40 => ?_) (fun c40 => ?_)
    · replace h := h.1 c40
      refine lv_iload_n hx hb dX12_set_45 rfl (lv_at hl 2 rfl) ?_
      refine lv_if_ne (tgt := 54) hx hb dX12_set_46 (by decide) (fun c46 => ?_) (fun c46 => ?_)
      · replace h := h.1 c46
        refine lv_iload_n hx hb dX12_set_54 rfl (lv_at hl 2 rfl) ?_
        refine lv_iconst hx hb dX12_set_55 ki_1 ?_
        refine lv_icmp_ne (tgt := 64) hx hb dX12_set_56 (by decide) (fun c56 => ?_) (fun c56 => ?_)
        · replace h := h.1 c56
          refine lv_bipush hx hb dX12_set_64 kb_50 ?_
          exact b66 _ _ H locs ls hW hS (lv_sub hl [0, 1, 3] rfl) h
        · replace h := h.2 c56
          refine lv_bipush hx hb dX12_set_59 kb_30 ?_
          refine lv_goto (tgt := 66) hx hb dX12_set_61 (by decide) ?_
          exact b66 _ _ H locs ls hW hS (lv_sub hl [0, 1, 3] rfl) h
      · replace h := h.2 c46
        refine lv_bipush hx hb dX12_set_49 kb_10 ?_
        refine lv_goto (tgt := 66) hx hb dX12_set_51 (by decide) ?_
        exact b66 _ _ H locs ls hW hS (lv_sub hl [0, 1, 3] rfl) h
    · replace h := h.2 c40
      refine lv_iconst hx hb dX12_set_43 ki_m1 ?_
      exact m_iret S hret hlocks hKX hW hbs hS rfl h dX12_set_44
  unfold s_X12_set at h
  refine lv_aload_n hx hb dX12_set_0 rfl (lv_at hl 0 rfl) ?_
  refine lv_iconst hx hb dX12_set_1 ki_0 ?_
  refine m_put S hK fk_X12_128 tyX12_ok nmX12 rfl pf_X12_0 (pv_10_0 G) hW hS (ci_10 (Nat.le_of_ble_eq_true rfl)) rfl rfl dX12_set_2 (fun Mm2 eMm2 H locs hW hS => ?_)
  replace h := h Mm2 eMm2
  refine lv_aload_n hx hb dX12_set_5 rfl (lv_at hl 0 rfl) ?_
  refine lv_iload_n hx hb dX12_set_6 rfl (lv_at hl 1 rfl) ?_
  refine m_ci0 (m_rV S hKX hW (m_szH hbs hS) (c_X12_isSchool l ) h lk_X12_139 (m_recv hK hW (ci_10 (Nat.le_of_ble_eq_true rfl)) (rc_10 G) rfl) rfl hl.1 rfl ⟨Nat.le_of_ble_eq_true rfl, Nat.le_of_ble_eq_true rfl⟩ (Nat.le_of_ble_eq_true rfl) ⟨Nat.le_of_ble_eq_true rfl, Nat.le_of_ble_eq_true rfl⟩ dX12_set_7) hS rfl rfl (fun rr7 Mm7 H locs h hW hS => ?_)
  refine lv_if_eq (tgt := 43) hx hb dX12_set_10 (by decide) (fun c10 => ?_) (fun c10 => ?_)
  · replace h := h.1 c10
    refine lv_iconst hx hb dX12_set_43 ki_m1 ?_
    exact m_iret S hret hlocks hKX hW hbs hS rfl h dX12_set_44
  · replace h := h.2 c10
    refine lv_iload_n hx hb dX12_set_13 rfl (lv_at hl 2 rfl) ?_
    refine lv_iconst hx hb dX12_set_14 ki_0 ?_
    refine lv_iconst hx hb dX12_set_15 ki_2 ?_
    refine m_ci0 (m_rS S hKX hW (m_szH hbs hS) (c_X12_in l ) h lk_X12_131 rfl hl.1 rfl ⟨Nat.le_of_ble_eq_true rfl, Nat.le_of_ble_eq_true rfl⟩ (Nat.le_of_ble_eq_true rfl) ⟨Nat.le_of_ble_eq_true rfl, Nat.le_of_ble_eq_true rfl⟩ dX12_set_16) hS rfl rfl (fun rr16 Mm16 H locs h hW hS => ?_)
    refine lv_if_eq (tgt := 43) hx hb dX12_set_19 (by decide) (fun c19 => ?_) (fun c19 => ?_)
    · replace h := h.1 c19
      refine lv_iconst hx hb dX12_set_43 ki_m1 ?_
      exact m_iret S hret hlocks hKX hW hbs hS rfl h dX12_set_44
    · replace h := h.2 c19
      refine lv_iload_n hx hb dX12_set_22 rfl (lv_at hl 3 rfl) ?_
      refine lv_iconst hx hb dX12_set_23 ki_0 ?_
      refine lv_iload_n hx hb dX12_set_24 rfl (lv_at hl 2 rfl) ?_
      refine lv_iconst hx hb dX12_set_25 ki_2 ?_
      refine lv_icmp_ne (tgt := 35) hx hb dX12_set_26 (by decide) (fun c26 => ?_) (fun c26 => ?_)
      · replace h := h.1 c26
        refine lv_bipush hx hb dX12_set_35 kb_100 ?_
        exact b37 _ _ _ _ H locs ls hW hS (lv_sub hl [0, 1, 2, 3] rfl) h
      · replace h := h.2 c26
        refine lv_sipush hx hb dX12_set_29 ks_999 ?_
        refine lv_goto (tgt := 37) hx hb dX12_set_32 (by decide) ?_
        exact b37 _ _ _ _ H locs ls hW hS (lv_sub hl [0, 1, 2, 3] rfl) h
abbrev rm_X12_dairy : Room := { frames := 1, cells := 0, slots := 0, locals := 22 }
set_option maxHeartbeats 4000000 in
set_option maxRecDepth 100000 in
theorem c_X12_dairy (l : Launch) {G : Gn} {M : Mem} {x1 : Int32} {x2 : Int32} {x3 : Int32} {P : Int32 → Mem → Prop} : MQi l yX12_dairy cX12_dairy 6 (some .int) rm_X12_dairy [.ref (ad G 10 0), .int x1, .int x2, .int x3] G M (s_X12_dairy M x1 x2 x3 P) P := by
  refine m_enter (by decide +kernel) (Nat.le_of_ble_eq_true rfl) ?_
  intro p e s m below meth c ls H locs S hret hlocks hname hKX hbs hW hS hl h
  obtain ⟨AV, hAV⟩ : ∃ z : Array Value, z = ([.ref (ad G 10 0), .int x1, .int x2, .int x3] : List Value).toArray := ⟨_, rfl⟩
  rw [← hAV] at S ⊢
  replace S : CallFix p m c cX12_dairy 6 s AV lw_G "MilkDeskModel" := S
  have hK := hKX.1
  have hx := S.1
  have hb := S.2.1
  have hml := S.2.2.1
  have hown := S.2.2.2.1
  have hts := S.2.2.2.2
  replace hl : lv_has ls 6 [(0, .ref (ad G 10 0)), (1, .int x1), (2, .int x2), (3, .int x3)] := hl
  have w105 : ∀ (x4 : Int32), ∀ (n : Nat) (a : Mem × Int32), Lz (fun (K105 : Mem × Int32 → Prop) (a : Mem × Int32) => s_X12_dairy_105 x4 P K105 a.1 a.2) n a → ∀ (H : Heap) (locs : List Loc) (ls : Array Slot), WPm G a.1 H → va_S (fun q => bs G ≤ q) s.heap H locs → lv_has ls 6 [(0, .ref (ad G 10 0)), (4, .int x4), (5, .int a.2)] → W p l e rm_X12_dairy s m AV below meth c H locs 0 0 (MQ below (va_Qi P (WS G) (fun q => bs G ≤ q)) AV s 0 0 (fun q => bs G ≤ q)) (F0 m 105 ls []) := by
    intro x4
    refine Lz_walk ?_
    rintro K105 kk105 ⟨M, x5⟩ h H locs ls hW hS hl
    replace h : s_X12_dairy_105 x4 P K105 M x5 := h
    replace hW : WPm G M H := hW
    replace hl : lv_has ls 6 [(0, .ref (ad G 10 0)), (4, .int x4), (5, .int x5)] := hl
    unfold s_X12_dairy_105 at h
    refine lv_iload hx hb dX12_dairy_105 (lv_at hl 2 rfl) ?_
    refine lv_iconst hx hb dX12_dairy_107 ki_4 ?_
    refine lv_icmp_ge (tgt := 133) hx hb dX12_dairy_108 (by decide) (fun c108 => ?_) (fun c108 => ?_)
    · replace h := h.1 c108
      refine lv_aload_n hx hb dX12_dairy_133 rfl (lv_at hl 0 rfl) ?_
      refine m_getr S hK fk_X12_7 (gr_10_1 G 0) hW (ci_10 (Nat.le_of_ble_eq_true rfl)) dX12_dairy_134 ?_
      refine lv_iconst hx hb dX12_dairy_137 ki_1 ?_
      refine lv_dup2_11 hx hb dX12_dairy_138 rfl rfl ?_
      refine m_aldk S hK (ar_44 G) hW (ci_44 (Nat.le_of_ble_eq_true rfl)) kn_1 (Nat.le_of_ble_eq_true rfl) dX12_dairy_139 ?_
      refine lv_iconst hx hb dX12_dairy_140 ki_1 ?_
      refine lv_iadd hx hb dX12_dairy_141 ?_
      refine m_astk S hK (ar_44 G) hW hS (ci_44 (Nat.le_of_ble_eq_true rfl)) kn_1 (Nat.le_of_ble_eq_true rfl) dX12_dairy_142 (fun Mm142 eMm142 H locs hW hS => ?_)
      replace h := h Mm142 eMm142
      refine lv_iload hx hb dX12_dairy_143 (lv_at hl 1 rfl) ?_
      exact m_iret S hret hlocks hKX hW hbs hS rfl h dX12_dairy_145
    · replace h := h.2 c108
      refine lv_aload_n hx hb dX12_dairy_111 rfl (lv_at hl 0 rfl) ?_
      refine m_getr S hK fk_X12_7 (gr_10_1 G 0) hW (ci_10 (Nat.le_of_ble_eq_true rfl)) dX12_dairy_112 ?_
      refine lv_bipush hx hb dX12_dairy_115 kb_80 ?_
      refine lv_iconst hx hb dX12_dairy_117 ki_4 ?_
      refine lv_iload hx hb dX12_dairy_118 (lv_at hl 1 rfl) ?_
      refine lv_imul hx hb dX12_dairy_120 ?_
      refine lv_iadd hx hb dX12_dairy_121 ?_
      refine lv_iload hx hb dX12_dairy_122 (lv_at hl 2 rfl) ?_
      refine lv_iadd hx hb dX12_dairy_124 ?_
      refine lv_iconst hx hb dX12_dairy_125 ki_m1 ?_
      obtain ⟨hb126, h⟩ := h
      refine m_ast S hK (ar_44 G) hW hS (ci_44 (Nat.le_of_ble_eq_true rfl)) hb126 dX12_dairy_126 (fun Mm126 eMm126 H locs hW hS => ?_)
      replace h := h Mm126 eMm126
      obtain ⟨x5_127, ex5_127⟩ : ∃ z : Int32, z = x5 + (1 : Int32) := ⟨_, rfl⟩
      replace h := h x5_127 ex5_127
      refine lv_iinc (v := x5_127) (lv' := [(5, .int x5_127), (0, .ref (ad G 10 0)), (4, .int x4)]) hx hb dX12_dairy_127 hl (k := 2) rfl (by rw [ex5_127, ki_1]) (by decide) rfl (fun ls hl => ?_)
      refine lv_goto (tgt := 105) hx hb dX12_dairy_130 (by decide) ?_
      exact kk105 _ h H locs ls hW hS (lv_sub hl [1, 2, 0] rfl)
  unfold s_X12_dairy at h
  refine lv_aload_n hx hb dX12_dairy_0 rfl (lv_at hl 0 rfl) ?_
  refine lv_iconst hx hb dX12_dairy_1 ki_0 ?_
  refine m_put S hK fk_X12_128 tyX12_ok nmX12 rfl pf_X12_0 (pv_10_0 G) hW hS (ci_10 (Nat.le_of_ble_eq_true rfl)) rfl rfl dX12_dairy_2 (fun Mm2 eMm2 H locs hW hS => ?_)
  replace h := h Mm2 eMm2
  refine lv_iload_n hx hb dX12_dairy_5 rfl (lv_at hl 1 rfl) ?_
  refine lv_iconst hx hb dX12_dairy_6 ki_0 ?_
  refine lv_sipush hx hb dX12_dairy_7 ks_9999 ?_
  refine m_ci0 (m_rS S hKX hW (m_szH hbs hS) (c_X12_in l ) h lk_X12_131 rfl hl.1 rfl ⟨Nat.le_of_ble_eq_true rfl, Nat.le_of_ble_eq_true rfl⟩ (Nat.le_of_ble_eq_true rfl) ⟨Nat.le_of_ble_eq_true rfl, Nat.le_of_ble_eq_true rfl⟩ dX12_dairy_10) hS rfl rfl (fun rr10 Mm10 H locs h hW hS => ?_)
  refine lv_if_eq (tgt := 38) hx hb dX12_dairy_13 (by decide) (fun c13 => ?_) (fun c13 => ?_)
  · replace h := h.1 c13
    refine lv_iconst hx hb dX12_dairy_38 ki_m1 ?_
    exact m_iret S hret hlocks hKX hW hbs hS rfl h dX12_dairy_39
  · replace h := h.2 c13
    refine lv_iload_n hx hb dX12_dairy_16 rfl (lv_at hl 2 rfl) ?_
    refine lv_iconst hx hb dX12_dairy_17 ki_0 ?_
    refine lv_sipush hx hb dX12_dairy_18 ks_9999 ?_
    refine m_ci0 (m_rS S hKX hW (m_szH hbs hS) (c_X12_in l ) h lk_X12_131 rfl hl.1 rfl ⟨Nat.le_of_ble_eq_true rfl, Nat.le_of_ble_eq_true rfl⟩ (Nat.le_of_ble_eq_true rfl) ⟨Nat.le_of_ble_eq_true rfl, Nat.le_of_ble_eq_true rfl⟩ dX12_dairy_21) hS rfl rfl (fun rr21 Mm21 H locs h hW hS => ?_)
    refine lv_if_eq (tgt := 38) hx hb dX12_dairy_24 (by decide) (fun c24 => ?_) (fun c24 => ?_)
    · replace h := h.1 c24
      refine lv_iconst hx hb dX12_dairy_38 ki_m1 ?_
      exact m_iret S hret hlocks hKX hW hbs hS rfl h dX12_dairy_39
    · replace h := h.2 c24
      refine lv_iload_n hx hb dX12_dairy_27 rfl (lv_at hl 3 rfl) ?_
      refine lv_iconst hx hb dX12_dairy_28 ki_1 ?_
      refine lv_sipush hx hb dX12_dairy_29 ks_9999 ?_
      refine m_ci0 (m_rS S hKX hW (m_szH hbs hS) (c_X12_in l ) h lk_X12_131 rfl hl.1 rfl ⟨Nat.le_of_ble_eq_true rfl, Nat.le_of_ble_eq_true rfl⟩ (Nat.le_of_ble_eq_true rfl) ⟨Nat.le_of_ble_eq_true rfl, Nat.le_of_ble_eq_true rfl⟩ dX12_dairy_32) hS rfl rfl (fun rr32 Mm32 H locs h hW hS => ?_)
      refine lv_if_ne (tgt := 40) hx hb dX12_dairy_35 (by decide) (fun c35 => ?_) (fun c35 => ?_)
      · replace h := h.1 c35
        refine lv_aload_n hx hb dX12_dairy_40 rfl (lv_at hl 0 rfl) ?_
        refine m_getr S hK fk_X12_7 (gr_10_1 G 0) hW (ci_10 (Nat.le_of_ble_eq_true rfl)) dX12_dairy_41 ?_
        refine lv_iconst hx hb dX12_dairy_44 ki_1 ?_
        refine m_aldk S hK (ar_44 G) hW (ci_44 (Nat.le_of_ble_eq_true rfl)) kn_1 (Nat.le_of_ble_eq_true rfl) dX12_dairy_45 ?_
        refine lv_iconst hx hb dX12_dairy_46 ki_5 ?_
        refine lv_icmp_ne (tgt := 53) hx hb dX12_dairy_47 (by decide) (fun c47 => ?_) (fun c47 => ?_)
        · replace h := h.1 c47
          refine lv_aload_n hx hb dX12_dairy_53 rfl (lv_at hl 0 rfl) ?_
          refine m_getr S hK fk_X12_7 (gr_10_1 G 0) hW (ci_10 (Nat.le_of_ble_eq_true rfl)) dX12_dairy_54 ?_
          refine lv_iconst hx hb dX12_dairy_57 ki_1 ?_
          refine m_aldk S hK (ar_44 G) hW (ci_44 (Nat.le_of_ble_eq_true rfl)) kn_1 (Nat.le_of_ble_eq_true rfl) dX12_dairy_58 ?_
          refine lv_topi (fun x4_59 ex4_59 => ?_)
          replace h := h x4_59 ex4_59
          refine lv_istore (lv' := [(4, .int x4_59), (0, .ref (ad G 10 0)), (1, .int x1), (2, .int x2), (3, .int x3)]) hx hb dX12_dairy_59 hl (by decide) rfl (fun ls hl => ?_)
          refine lv_aload_n hx hb dX12_dairy_61 rfl (lv_at hl 1 rfl) ?_
          refine m_getr S hK fk_X12_28 (gr_10_8 G 0) hW (ci_10 (Nat.le_of_ble_eq_true rfl)) dX12_dairy_62 ?_
          refine lv_iload hx hb dX12_dairy_65 (lv_at hl 0 rfl) ?_
          refine lv_iload_n hx hb dX12_dairy_67 rfl (lv_at hl 2 rfl) ?_
          refine lv_bipush hx hb dX12_dairy_68 kb_100 ?_
          refine lv_idiv hx hb dX12_dairy_70 nz_100 ?_
          obtain ⟨hb71, h⟩ := h
          refine m_ast S hK (ar_50 G) hW hS (ci_50 (Nat.le_of_ble_eq_true rfl)) hb71 dX12_dairy_71 (fun Mm71 eMm71 H locs hW hS => ?_)
          replace h := h Mm71 eMm71
          refine lv_aload_n hx hb dX12_dairy_72 rfl (lv_at hl 1 rfl) ?_
          refine m_getr S hK fk_X12_31 (gr_10_9 G 0) hW (ci_10 (Nat.le_of_ble_eq_true rfl)) dX12_dairy_73 ?_
          refine lv_iload hx hb dX12_dairy_76 (lv_at hl 0 rfl) ?_
          refine lv_iload_n hx hb dX12_dairy_78 rfl (lv_at hl 2 rfl) ?_
          refine lv_bipush hx hb dX12_dairy_79 kb_100 ?_
          refine lv_irem hx hb dX12_dairy_81 nz_100 ?_
          obtain ⟨hb82, h⟩ := h
          refine m_ast S hK (ar_51 G) hW hS (ci_51 (Nat.le_of_ble_eq_true rfl)) hb82 dX12_dairy_82 (fun Mm82 eMm82 H locs hW hS => ?_)
          replace h := h Mm82 eMm82
          refine lv_aload_n hx hb dX12_dairy_83 rfl (lv_at hl 1 rfl) ?_
          refine m_getr S hK fk_X12_34 (gr_10_10 G 0) hW (ci_10 (Nat.le_of_ble_eq_true rfl)) dX12_dairy_84 ?_
          refine lv_iload hx hb dX12_dairy_87 (lv_at hl 0 rfl) ?_
          refine lv_iload_n hx hb dX12_dairy_89 rfl (lv_at hl 4 rfl) ?_
          obtain ⟨hb90, h⟩ := h
          refine m_ast S hK (ar_52 G) hW hS (ci_52 (Nat.le_of_ble_eq_true rfl)) hb90 dX12_dairy_90 (fun Mm90 eMm90 H locs hW hS => ?_)
          replace h := h Mm90 eMm90
          refine lv_aload_n hx hb dX12_dairy_91 rfl (lv_at hl 1 rfl) ?_
          refine m_getr S hK fk_X12_7 (gr_10_1 G 0) hW (ci_10 (Nat.le_of_ble_eq_true rfl)) dX12_dairy_92 ?_
          refine lv_bipush hx hb dX12_dairy_95 kb_70 ?_
          refine lv_iload hx hb dX12_dairy_97 (lv_at hl 0 rfl) ?_
          refine lv_iadd hx hb dX12_dairy_99 ?_
          refine lv_iload_n hx hb dX12_dairy_100 rfl (lv_at hl 3 rfl) ?_
          obtain ⟨hb101, h⟩ := h
          refine m_ast S hK (ar_44 G) hW hS (ci_44 (Nat.le_of_ble_eq_true rfl)) hb101 dX12_dairy_101 (fun Mm101 eMm101 H locs hW hS => ?_)
          replace h := h Mm101 eMm101
          refine lv_iconst hx hb dX12_dairy_102 ki_0 ?_
          refine lv_istore (lv' := [(5, .int (0 : Int32)), (4, .int x4_59), (0, .ref (ad G 10 0)), (1, .int x1), (2, .int x2), (3, .int x3)]) hx hb dX12_dairy_103 hl (by decide) rfl (fun ls hl => ?_)
          obtain ⟨n105, h⟩ := h
          exact w105 _ n105 _ h H locs ls hW hS (lv_sub hl [2, 1, 0] rfl)
        · replace h := h.2 c47
          refine lv_bipush hx hb dX12_dairy_50 kb_m2 ?_
          exact m_iret S hret hlocks hKX hW hbs hS rfl h dX12_dairy_52
      · replace h := h.2 c35
        refine lv_iconst hx hb dX12_dairy_38 ki_m1 ?_
        exact m_iret S hret hlocks hKX hW hbs hS rfl h dX12_dairy_39
abbrev rm_X12_bid : Room := { frames := 2, cells := 0, slots := 0, locals := 43 }
set_option maxHeartbeats 4000000 in
set_option maxRecDepth 100000 in
theorem c_X12_bid (l : Launch) {G : Gn} {M : Mem} {x1 : Int32} {x2 : Int32} {x3 : Int32} {P : Int32 → Mem → Prop} : MQi l yX12_bid cX12_bid 5 (some .int) rm_X12_bid [.ref (ad G 10 0), .int x1, .int x2, .int x3] G M (s_X12_bid M x1 x2 x3 P) P := by
  refine m_enter (by decide +kernel) (Nat.le_of_ble_eq_true rfl) ?_
  intro p e s m below meth c ls H locs S hret hlocks hname hKX hbs hW hS hl h
  obtain ⟨AV, hAV⟩ : ∃ z : Array Value, z = ([.ref (ad G 10 0), .int x1, .int x2, .int x3] : List Value).toArray := ⟨_, rfl⟩
  rw [← hAV] at S ⊢
  replace S : CallFix p m c cX12_bid 5 s AV lw_G "MilkDeskModel" := S
  have hK := hKX.1
  have hx := S.1
  have hb := S.2.1
  have hml := S.2.2.1
  have hown := S.2.2.2.1
  have hts := S.2.2.2.2
  replace hl : lv_has ls 5 [(0, .ref (ad G 10 0)), (1, .int x1), (2, .int x2), (3, .int x3)] := hl
  unfold s_X12_bid at h
  refine lv_aload_n hx hb dX12_bid_0 rfl (lv_at hl 0 rfl) ?_
  refine lv_iconst hx hb dX12_bid_1 ki_0 ?_
  refine m_put S hK fk_X12_128 tyX12_ok nmX12 rfl pf_X12_0 (pv_10_0 G) hW hS (ci_10 (Nat.le_of_ble_eq_true rfl)) rfl rfl dX12_bid_2 (fun Mm2 eMm2 H locs hW hS => ?_)
  replace h := h Mm2 eMm2
  refine lv_aload_n hx hb dX12_bid_5 rfl (lv_at hl 0 rfl) ?_
  refine lv_iload_n hx hb dX12_bid_6 rfl (lv_at hl 1 rfl) ?_
  refine m_ci0 (m_rV S hKX hW (m_szH hbs hS) (c_X12_isDairy l ) h lk_X12_142 (m_recv hK hW (ci_10 (Nat.le_of_ble_eq_true rfl)) (rc_10 G) rfl) rfl hl.1 rfl ⟨Nat.le_of_ble_eq_true rfl, Nat.le_of_ble_eq_true rfl⟩ (Nat.le_of_ble_eq_true rfl) ⟨Nat.le_of_ble_eq_true rfl, Nat.le_of_ble_eq_true rfl⟩ dX12_bid_7) hS rfl rfl (fun rr7 Mm7 H locs h hW hS => ?_)
  refine lv_if_eq (tgt := 31) hx hb dX12_bid_10 (by decide) (fun c10 => ?_) (fun c10 => ?_)
  · replace h := h.1 c10
    refine lv_iconst hx hb dX12_bid_31 ki_m1 ?_
    exact m_iret S hret hlocks hKX hW hbs hS rfl h dX12_bid_32
  · replace h := h.2 c10
    refine lv_iload_n hx hb dX12_bid_13 rfl (lv_at hl 2 rfl) ?_
    refine m_ci0 (m_rS S hKX hW (m_szH hbs hS) (c_X12_isShire l ) h lk_X12_135 rfl hl.1 rfl ⟨Nat.le_of_ble_eq_true rfl, Nat.le_of_ble_eq_true rfl⟩ (Nat.le_of_ble_eq_true rfl) ⟨Nat.le_of_ble_eq_true rfl, Nat.le_of_ble_eq_true rfl⟩ dX12_bid_14) hS rfl rfl (fun rr14 Mm14 H locs h hW hS => ?_)
    refine lv_if_eq (tgt := 31) hx hb dX12_bid_17 (by decide) (fun c17 => ?_) (fun c17 => ?_)
    · replace h := h.1 c17
      refine lv_iconst hx hb dX12_bid_31 ki_m1 ?_
      exact m_iret S hret hlocks hKX hW hbs hS rfl h dX12_bid_32
    · replace h := h.2 c17
      refine lv_iload_n hx hb dX12_bid_20 rfl (lv_at hl 3 rfl) ?_
      refine lv_iconst hx hb dX12_bid_21 ki_m1 ?_
      refine lv_sipush hx hb dX12_bid_22 ks_999 ?_
      refine m_ci0 (m_rS S hKX hW (m_szH hbs hS) (c_X12_in l ) h lk_X12_131 rfl hl.1 rfl ⟨Nat.le_of_ble_eq_true rfl, Nat.le_of_ble_eq_true rfl⟩ (Nat.le_of_ble_eq_true rfl) ⟨Nat.le_of_ble_eq_true rfl, Nat.le_of_ble_eq_true rfl⟩ dX12_bid_25) hS rfl rfl (fun rr25 Mm25 H locs h hW hS => ?_)
      refine lv_if_ne (tgt := 33) hx hb dX12_bid_28 (by decide) (fun c28 => ?_) (fun c28 => ?_)
      · replace h := h.1 c28
        refine lv_aload_n hx hb dX12_bid_33 rfl (lv_at hl 0 rfl) ?_
        refine m_getr S hK fk_X12_7 (gr_10_1 G 0) hW (ci_10 (Nat.le_of_ble_eq_true rfl)) dX12_bid_34 ?_
        refine lv_bipush hx hb dX12_bid_37 kb_80 ?_
        refine lv_iconst hx hb dX12_bid_39 ki_4 ?_
        refine lv_iload_n hx hb dX12_bid_40 rfl (lv_at hl 1 rfl) ?_
        refine lv_imul hx hb dX12_bid_41 ?_
        refine lv_iadd hx hb dX12_bid_42 ?_
        refine lv_iload_n hx hb dX12_bid_43 rfl (lv_at hl 2 rfl) ?_
        refine lv_iadd hx hb dX12_bid_44 ?_
        obtain ⟨hb45, h⟩ := h
        refine m_ald S hK (ar_44 G) hW (ci_44 (Nat.le_of_ble_eq_true rfl)) hb45 dX12_bid_45 ?_
        refine lv_topi (fun x4_46 ex4_46 => ?_)
        replace h := h x4_46 ex4_46
        refine lv_istore (lv' := [(4, .int x4_46), (0, .ref (ad G 10 0)), (1, .int x1), (2, .int x2), (3, .int x3)]) hx hb dX12_bid_46 hl (by decide) rfl (fun ls hl => ?_)
        refine lv_aload_n hx hb dX12_bid_48 rfl (lv_at hl 1 rfl) ?_
        refine m_getr S hK fk_X12_7 (gr_10_1 G 0) hW (ci_10 (Nat.le_of_ble_eq_true rfl)) dX12_bid_49 ?_
        refine lv_bipush hx hb dX12_bid_52 kb_80 ?_
        refine lv_iconst hx hb dX12_bid_54 ki_4 ?_
        refine lv_iload_n hx hb dX12_bid_55 rfl (lv_at hl 2 rfl) ?_
        refine lv_imul hx hb dX12_bid_56 ?_
        refine lv_iadd hx hb dX12_bid_57 ?_
        refine lv_iload_n hx hb dX12_bid_58 rfl (lv_at hl 3 rfl) ?_
        refine lv_iadd hx hb dX12_bid_59 ?_
        refine lv_iload_n hx hb dX12_bid_60 rfl (lv_at hl 4 rfl) ?_
        obtain ⟨hb61, h⟩ := h
        refine m_ast S hK (ar_44 G) hW hS (ci_44 (Nat.le_of_ble_eq_true rfl)) hb61 dX12_bid_61 (fun Mm61 eMm61 H locs hW hS => ?_)
        replace h := h Mm61 eMm61
        refine lv_iload hx hb dX12_bid_62 (lv_at hl 0 rfl) ?_
        refine lv_if_ge (tgt := 72) hx hb dX12_bid_64 (by decide) (fun c64 => ?_) (fun c64 => ?_)
        · replace h := h.1 c64
          refine lv_iload hx hb dX12_bid_72 (lv_at hl 0 rfl) ?_
          exact m_iret S hret hlocks hKX hW hbs hS rfl h dX12_bid_74
        · replace h := h.2 c64
          refine lv_bipush hx hb dX12_bid_67 kb_m4 ?_
          refine lv_goto (tgt := 74) hx hb dX12_bid_69 (by decide) ?_
          exact m_iret S hret hlocks hKX hW hbs hS rfl h dX12_bid_74
      · replace h := h.2 c28
        refine lv_iconst hx hb dX12_bid_31 ki_m1 ?_
        exact m_iret S hret hlocks hKX hW hbs hS rfl h dX12_bid_32
abbrev rm_X12_wonBy : Room := { frames := 0, cells := 0, slots := 0, locals := 0 }
set_option maxHeartbeats 4000000 in
set_option maxRecDepth 100000 in
theorem c_X12_wonBy (l : Launch) {G : Gn} {M : Mem} {x1 : Int32} {P : Int32 → Mem → Prop} : MQi l yX12_wonBy cX12_wonBy 5 (some .int) rm_X12_wonBy [.ref (ad G 10 0), .int x1] G M (s_X12_wonBy M x1 P) P := by
  refine m_enter (by decide +kernel) (Nat.le_of_ble_eq_true rfl) ?_
  intro p e s m below meth c ls H locs S hret hlocks hname hKX hbs hW hS hl h
  obtain ⟨AV, hAV⟩ : ∃ z : Array Value, z = ([.ref (ad G 10 0), .int x1] : List Value).toArray := ⟨_, rfl⟩
  rw [← hAV] at S ⊢
  replace S : CallFix p m c cX12_wonBy 5 s AV lw_G "MilkDeskModel" := S
  have hK := hKX.1
  have hx := S.1
  have hb := S.2.1
  have hml := S.2.2.1
  have hown := S.2.2.2.1
  have hts := S.2.2.2.2
  replace hl : lv_has ls 5 [(0, .ref (ad G 10 0)), (1, .int x1)] := hl
  have w5 : ∀ (n : Nat) (a : Mem × Int32 × Int32), Lz (fun (K5 : Mem × Int32 × Int32 → Prop) (a : Mem × Int32 × Int32) => s_X12_wonBy_5 x1 P K5 a.1 a.2.1 a.2.2) n a → ∀ (H : Heap) (locs : List Loc) (ls : Array Slot), WPm G a.1 H → va_S (fun q => bs G ≤ q) s.heap H locs → lv_has ls 5 [(0, .ref (ad G 10 0)), (1, .int x1), (2, .int a.2.1), (3, .int a.2.2)] → W p l e rm_X12_wonBy s m AV below meth c H locs 0 0 (MQ below (va_Qi P (WS G) (fun q => bs G ≤ q)) AV s 0 0 (fun q => bs G ≤ q)) (F0 m 5 ls []) := by
    refine Lz_walk ?_
    rintro K5 kk5 ⟨M, x2, x3⟩ h H locs ls hW hS hl
    replace h : s_X12_wonBy_5 x1 P K5 M x2 x3 := h
    replace hW : WPm G M H := hW
    replace hl : lv_has ls 5 [(0, .ref (ad G 10 0)), (1, .int x1), (2, .int x2), (3, .int x3)] := hl
    have b62 : ∀ (M : Mem) (x3 : Int32) (y0 : Int32) (H : Heap) (locs : List Loc) (ls : Array Slot), WPm G M H → va_S (fun q => bs G ≤ q) s.heap H locs → lv_has ls 5 [(0, .ref (ad G 10 0)), (1, .int x1), (3, .int x3)] → s_X12_wonBy_62 x1 P K5 M x3 y0 → W p l e rm_X12_wonBy s m AV below meth c H locs 0 0 (MQ below (va_Qi P (WS G) (fun q => bs G ≤ q)) AV s 0 0 (fun q => bs G ≤ q)) (F0 m 62 ls [.int y0]) := by
      intro M x3 y0 H locs ls hW hS hl h
      unfold s_X12_wonBy_62 at h
      refine lv_istore_n (lv' := [(2, .int y0), (0, .ref (ad G 10 0)), (1, .int x1), (3, .int x3)]) hx hb dX12_wonBy_62 rfl hl (by decide) rfl (fun ls hl => ?_)
      obtain ⟨x3_63, ex3_63⟩ : ∃ z : Int32, z = x3 + (1 : Int32) := ⟨_, rfl⟩
      replace h := h x3_63 ex3_63
      refine lv_iinc (v := x3_63) (lv' := [(3, .int x3_63), (2, .int y0), (0, .ref (ad G 10 0)), (1, .int x1)]) hx hb dX12_wonBy_63 hl (k := 3) rfl (by rw [ex3_63, ki_1]) (by decide) rfl (fun ls hl => ?_)
      refine lv_goto (tgt := 5) hx hb dX12_wonBy_66 (by decide) ?_
      exact kk5 _ h H locs ls hW hS (lv_sub hl [2, 3, 1, 0] rfl)
    unfold s_X12_wonBy_5 at h
    refine lv_iload_n hx hb dX12_wonBy_5 rfl (lv_at hl 3 rfl) ?_
    refine lv_aload_n hx hb dX12_wonBy_6 rfl (lv_at hl 0 rfl) ?_
    refine m_getr S hK fk_X12_7 (gr_10_1 G 0) hW (ci_10 (Nat.le_of_ble_eq_true rfl)) dX12_wonBy_7 ?_
    refine lv_iconst hx hb dX12_wonBy_10 ki_1 ?_
    refine m_aldk S hK (ar_44 G) hW (ci_44 (Nat.le_of_ble_eq_true rfl)) kn_1 (Nat.le_of_ble_eq_true rfl) dX12_wonBy_11 ?_
    refine lv_icmp_ge (tgt := 69) hx hb dX12_wonBy_12 (by decide) (fun c12 => ?_) (fun c12 => ?_)
    · replace h := h.1 c12
      refine lv_iload_n hx hb dX12_wonBy_69 rfl (lv_at hl 2 rfl) ?_
      exact m_iret S hret hlocks hKX hW hbs hS rfl h dX12_wonBy_70
    · replace h := h.2 c12
      refine lv_aload_n hx hb dX12_wonBy_15 rfl (lv_at hl 0 rfl) ?_
      refine m_getr S hK fk_X12_7 (gr_10_1 G 0) hW (ci_10 (Nat.le_of_ble_eq_true rfl)) dX12_wonBy_16 ?_
      refine lv_bipush hx hb dX12_wonBy_19 kb_80 ?_
      refine lv_iconst hx hb dX12_wonBy_21 ki_4 ?_
      refine lv_iload_n hx hb dX12_wonBy_22 rfl (lv_at hl 3 rfl) ?_
      refine lv_imul hx hb dX12_wonBy_23 ?_
      refine lv_iadd hx hb dX12_wonBy_24 ?_
      refine lv_iload_n hx hb dX12_wonBy_25 rfl (lv_at hl 1 rfl) ?_
      refine lv_iadd hx hb dX12_wonBy_26 ?_
      obtain ⟨hb27, h⟩ := h
      refine m_ald S hK (ar_44 G) hW (ci_44 (Nat.le_of_ble_eq_true rfl)) hb27 dX12_wonBy_27 ?_
      refine lv_topi (fun x4_28 ex4_28 => ?_)
      replace h := h x4_28 ex4_28
      refine lv_istore (lv' := [(4, .int x4_28), (0, .ref (ad G 10 0)), (1, .int x1), (2, .int x2), (3, .int x3)]) hx hb dX12_wonBy_28 hl (by decide) rfl (fun ls hl => ?_)
      refine lv_iload hx hb dX12_wonBy_30 (lv_at hl 0 rfl) ?_
      refine lv_if_lt (tgt := 61) hx hb dX12_wonBy_32 (by decide) (fun c32 => ?_) (fun c32 => ?_)
      · replace h := h.1 c32
        refine lv_iload_n hx hb dX12_wonBy_61 rfl (lv_at hl 3 rfl) ?_
        exact b62 _ _ _ H locs ls hW hS (lv_sub hl [1, 2, 4] rfl) h
      · replace h := h.2 c32
        refine lv_iload_n hx hb dX12_wonBy_35 rfl (lv_at hl 3 rfl) ?_
        refine lv_if_lt (tgt := 57) hx hb dX12_wonBy_36 (by decide) (fun c36 => ?_) (fun c36 => ?_)
        · replace h := h.1 c36
          refine lv_iload_n hx hb dX12_wonBy_57 rfl (lv_at hl 4 rfl) ?_
          refine lv_goto (tgt := 62) hx hb dX12_wonBy_58 (by decide) ?_
          exact b62 _ _ _ H locs ls hW hS (lv_sub hl [1, 2, 4] rfl) h
        · replace h := h.2 c36
          refine lv_iload hx hb dX12_wonBy_39 (lv_at hl 0 rfl) ?_
          refine lv_aload_n hx hb dX12_wonBy_41 rfl (lv_at hl 1 rfl) ?_
          refine m_getr S hK fk_X12_7 (gr_10_1 G 0) hW (ci_10 (Nat.le_of_ble_eq_true rfl)) dX12_wonBy_42 ?_
          refine lv_bipush hx hb dX12_wonBy_45 kb_80 ?_
          refine lv_iconst hx hb dX12_wonBy_47 ki_4 ?_
          refine lv_iload_n hx hb dX12_wonBy_48 rfl (lv_at hl 3 rfl) ?_
          refine lv_imul hx hb dX12_wonBy_49 ?_
          refine lv_iadd hx hb dX12_wonBy_50 ?_
          refine lv_iload_n hx hb dX12_wonBy_51 rfl (lv_at hl 2 rfl) ?_
          refine lv_iadd hx hb dX12_wonBy_52 ?_
          obtain ⟨hb53, h⟩ := h
          refine m_ald S hK (ar_44 G) hW (ci_44 (Nat.le_of_ble_eq_true rfl)) hb53 dX12_wonBy_53 ?_
          refine lv_icmp_ge (tgt := 61) hx hb dX12_wonBy_54 (by decide) (fun c54 => ?_) (fun c54 => ?_)
          · replace h := h.1 c54
            refine lv_iload_n hx hb dX12_wonBy_61 rfl (lv_at hl 3 rfl) ?_
            exact b62 _ _ _ H locs ls hW hS (lv_sub hl [1, 2, 4] rfl) h
          · replace h := h.2 c54
            refine lv_iload_n hx hb dX12_wonBy_57 rfl (lv_at hl 4 rfl) ?_
            refine lv_goto (tgt := 62) hx hb dX12_wonBy_58 (by decide) ?_
            exact b62 _ _ _ H locs ls hW hS (lv_sub hl [1, 2, 4] rfl) h
  unfold s_X12_wonBy at h
  refine lv_bipush hx hb dX12_wonBy_0 kb_m4 ?_
  refine lv_istore_n (lv' := [(2, .int (-4 : Int32)), (0, .ref (ad G 10 0)), (1, .int x1)]) hx hb dX12_wonBy_2 rfl hl (by decide) rfl (fun ls hl => ?_)
  refine lv_iconst hx hb dX12_wonBy_3 ki_0 ?_
  refine lv_istore_n (lv' := [(3, .int (0 : Int32)), (2, .int (-4 : Int32)), (0, .ref (ad G 10 0)), (1, .int x1)]) hx hb dX12_wonBy_4 rfl hl (by decide) rfl (fun ls hl => ?_)
  obtain ⟨n5, h⟩ := h
  exact w5 n5 _ h H locs ls hW hS (lv_sub hl [2, 3, 1, 0] rfl)
abbrev rm_X12_won : Room := { frames := 2, cells := 0, slots := 0, locals := 42 }
set_option maxHeartbeats 4000000 in
set_option maxRecDepth 100000 in
theorem c_X12_won (l : Launch) {G : Gn} {M : Mem} {x1 : Int32} {P : Int32 → Mem → Prop} : MQi l yX12_won cX12_won 2 (some .int) rm_X12_won [.ref (ad G 10 0), .int x1] G M (s_X12_won M x1 P) P := by
  refine m_enter (by decide +kernel) (Nat.le_of_ble_eq_true rfl) ?_
  intro p e s m below meth c ls H locs S hret hlocks hname hKX hbs hW hS hl h
  obtain ⟨AV, hAV⟩ : ∃ z : Array Value, z = ([.ref (ad G 10 0), .int x1] : List Value).toArray := ⟨_, rfl⟩
  rw [← hAV] at S ⊢
  replace S : CallFix p m c cX12_won 2 s AV lw_G "MilkDeskModel" := S
  have hK := hKX.1
  have hx := S.1
  have hb := S.2.1
  have hml := S.2.2.1
  have hown := S.2.2.2.1
  have hts := S.2.2.2.2
  replace hl : lv_has ls 2 [(0, .ref (ad G 10 0)), (1, .int x1)] := hl
  unfold s_X12_won at h
  refine lv_aload_n hx hb dX12_won_0 rfl (lv_at hl 0 rfl) ?_
  refine lv_iconst hx hb dX12_won_1 ki_0 ?_
  refine m_put S hK fk_X12_128 tyX12_ok nmX12 rfl pf_X12_0 (pv_10_0 G) hW hS (ci_10 (Nat.le_of_ble_eq_true rfl)) rfl rfl dX12_won_2 (fun Mm2 eMm2 H locs hW hS => ?_)
  replace h := h Mm2 eMm2
  refine lv_iload_n hx hb dX12_won_5 rfl (lv_at hl 1 rfl) ?_
  refine m_ci0 (m_rS S hKX hW (m_szH hbs hS) (c_X12_isShire l ) h lk_X12_135 rfl hl.1 rfl ⟨Nat.le_of_ble_eq_true rfl, Nat.le_of_ble_eq_true rfl⟩ (Nat.le_of_ble_eq_true rfl) ⟨Nat.le_of_ble_eq_true rfl, Nat.le_of_ble_eq_true rfl⟩ dX12_won_6) hS rfl rfl (fun rr6 Mm6 H locs h hW hS => ?_)
  refine lv_if_eq (tgt := 20) hx hb dX12_won_9 (by decide) (fun c9 => ?_) (fun c9 => ?_)
  · replace h := h.1 c9
    refine lv_iconst hx hb dX12_won_20 ki_m1 ?_
    exact m_iret S hret hlocks hKX hW hbs hS rfl h dX12_won_21
  · replace h := h.2 c9
    refine lv_aload_n hx hb dX12_won_12 rfl (lv_at hl 0 rfl) ?_
    refine lv_iload_n hx hb dX12_won_13 rfl (lv_at hl 1 rfl) ?_
    refine m_ci0 (m_rV S hKX hW (m_szH hbs hS) (c_X12_wonBy l ) h lk_X12_145 (m_recv hK hW (ci_10 (Nat.le_of_ble_eq_true rfl)) (rc_10 G) rfl) rfl hl.1 rfl ⟨Nat.le_of_ble_eq_true rfl, Nat.le_of_ble_eq_true rfl⟩ (Nat.le_of_ble_eq_true rfl) ⟨Nat.le_of_ble_eq_true rfl, Nat.le_of_ble_eq_true rfl⟩ dX12_won_14) hS rfl rfl (fun rr14 Mm14 H locs h hW hS => ?_)
    refine lv_goto (tgt := 21) hx hb dX12_won_17 (by decide) ?_
    exact m_iret S hret hlocks hKX hW hbs hS rfl h dX12_won_21
abbrev rm_X12_bottles : Room := { frames := 2, cells := 0, slots := 0, locals := 43 }
set_option maxHeartbeats 4000000 in
set_option maxRecDepth 100000 in
theorem c_X12_bottles (l : Launch) {G : Gn} {M : Mem} {x1 : Int32} {P : Int32 → Mem → Prop} : MQi l yX12_bottles cX12_bottles 2 (some .int) rm_X12_bottles [.ref (ad G 10 0), .int x1] G M (s_X12_bottles M x1 P) P := by
  refine m_enter (by decide +kernel) (Nat.le_of_ble_eq_true rfl) ?_
  intro p e s m below meth c ls H locs S hret hlocks hname hKX hbs hW hS hl h
  obtain ⟨AV, hAV⟩ : ∃ z : Array Value, z = ([.ref (ad G 10 0), .int x1] : List Value).toArray := ⟨_, rfl⟩
  rw [← hAV] at S ⊢
  replace S : CallFix p m c cX12_bottles 2 s AV lw_G "MilkDeskModel" := S
  have hK := hKX.1
  have hx := S.1
  have hb := S.2.1
  have hml := S.2.2.1
  have hown := S.2.2.2.1
  have hts := S.2.2.2.2
  replace hl : lv_has ls 2 [(0, .ref (ad G 10 0)), (1, .int x1)] := hl
  unfold s_X12_bottles at h
  refine lv_aload_n hx hb dX12_bottles_0 rfl (lv_at hl 0 rfl) ?_
  refine lv_iconst hx hb dX12_bottles_1 ki_0 ?_
  refine m_put S hK fk_X12_128 tyX12_ok nmX12 rfl pf_X12_0 (pv_10_0 G) hW hS (ci_10 (Nat.le_of_ble_eq_true rfl)) rfl rfl dX12_bottles_2 (fun Mm2 eMm2 H locs hW hS => ?_)
  replace h := h Mm2 eMm2
  refine lv_aload_n hx hb dX12_bottles_5 rfl (lv_at hl 0 rfl) ?_
  refine lv_iload_n hx hb dX12_bottles_6 rfl (lv_at hl 1 rfl) ?_
  refine m_ci0 (m_rV S hKX hW (m_szH hbs hS) (c_X12_isDairy l ) h lk_X12_142 (m_recv hK hW (ci_10 (Nat.le_of_ble_eq_true rfl)) (rc_10 G) rfl) rfl hl.1 rfl ⟨Nat.le_of_ble_eq_true rfl, Nat.le_of_ble_eq_true rfl⟩ (Nat.le_of_ble_eq_true rfl) ⟨Nat.le_of_ble_eq_true rfl, Nat.le_of_ble_eq_true rfl⟩ dX12_bottles_7) hS rfl rfl (fun rr7 Mm7 H locs h hW hS => ?_)
  refine lv_if_eq (tgt := 25) hx hb dX12_bottles_10 (by decide) (fun c10 => ?_) (fun c10 => ?_)
  · replace h := h.1 c10
    refine lv_iconst hx hb dX12_bottles_25 ki_m1 ?_
    exact m_iret S hret hlocks hKX hW hbs hS rfl h dX12_bottles_26
  · replace h := h.2 c10
    refine lv_aload_n hx hb dX12_bottles_13 rfl (lv_at hl 0 rfl) ?_
    refine m_getr S hK fk_X12_7 (gr_10_1 G 0) hW (ci_10 (Nat.le_of_ble_eq_true rfl)) dX12_bottles_14 ?_
    refine lv_bipush hx hb dX12_bottles_17 kb_70 ?_
    refine lv_iload_n hx hb dX12_bottles_19 rfl (lv_at hl 1 rfl) ?_
    refine lv_iadd hx hb dX12_bottles_20 ?_
    obtain ⟨hb21, h⟩ := h
    refine m_ald S hK (ar_44 G) hW (ci_44 (Nat.le_of_ble_eq_true rfl)) hb21 dX12_bottles_21 ?_
    refine lv_goto (tgt := 26) hx hb dX12_bottles_22 (by decide) ?_
    exact m_iret S hret hlocks hKX hW hbs hS rfl h dX12_bottles_26
abbrev rm_X12_month : Room := { frames := 1, cells := 0, slots := 0, locals := 22 }
set_option maxHeartbeats 4000000 in
set_option maxRecDepth 100000 in
theorem c_X12_month (l : Launch) {G : Gn} {M : Mem} {x1 : Int32} {x2 : Int32} {x3 : Int32} {P : Int32 → Mem → Prop} : MQi l yX12_month cX12_month 6 (some .int) rm_X12_month [.ref (ad G 10 0), .int x1, .int x2, .int x3] G M (s_X12_month M x1 x2 x3 P) P := by
  refine m_enter (by decide +kernel) (Nat.le_of_ble_eq_true rfl) ?_
  intro p e s m below meth c ls H locs S hret hlocks hname hKX hbs hW hS hl h
  obtain ⟨AV, hAV⟩ : ∃ z : Array Value, z = ([.ref (ad G 10 0), .int x1, .int x2, .int x3] : List Value).toArray := ⟨_, rfl⟩
  rw [← hAV] at S ⊢
  replace S : CallFix p m c cX12_month 6 s AV lw_G "MilkDeskModel" := S
  have hK := hKX.1
  have hx := S.1
  have hb := S.2.1
  have hml := S.2.2.1
  have hown := S.2.2.2.1
  have hts := S.2.2.2.2
  replace hl : lv_has ls 6 [(0, .ref (ad G 10 0)), (1, .int x1), (2, .int x2), (3, .int x3)] := hl
  have b77 : ∀ (M : Mem) (y0 : Int32) (H : Heap) (locs : List Loc) (ls : Array Slot), WPm G M H → va_S (fun q => bs G ≤ q) s.heap H locs → lv_has ls 6 [(0, .ref (ad G 10 0)), (1, .int x1), (3, .int x3)] → s_X12_month_77 x1 x3 P M y0 → W p l e rm_X12_month s m AV below meth c H locs 0 0 (MQ below (va_Qi P (WS G) (fun q => bs G ≤ q)) AV s 0 0 (fun q => bs G ≤ q)) (F0 m 77 ls [.int y0]) := by
    intro M y0 H locs ls hW hS hl h
    unfold s_X12_month_77 at h
    refine lv_iload_n hx hb dX12_month_77 rfl (lv_at hl 1 rfl) ?_
    refine lv_iadd hx hb dX12_month_78 ?_
    refine lv_topi (fun x4_79 ex4_79 => ?_)
    replace h := h x4_79 ex4_79
    refine lv_istore (lv' := [(4, .int x4_79), (0, .ref (ad G 10 0)), (1, .int x1), (3, .int x3)]) hx hb dX12_month_79 hl (by decide) rfl (fun ls hl => ?_)
    refine lv_aload_n hx hb dX12_month_81 rfl (lv_at hl 1 rfl) ?_
    refine m_getr S hK fk_X12_7 (gr_10_1 G 0) hW (ci_10 (Nat.le_of_ble_eq_true rfl)) dX12_month_82 ?_
    refine lv_iload hx hb dX12_month_85 (lv_at hl 0 rfl) ?_
    obtain ⟨hb87, h⟩ := h
    refine m_ald S hK (ar_44 G) hW (ci_44 (Nat.le_of_ble_eq_true rfl)) hb87 dX12_month_87 ?_
    refine lv_topi (fun x5_88 ex5_88 => ?_)
    replace h := h x5_88 ex5_88
    refine lv_istore (lv' := [(5, .int x5_88), (4, .int x4_79), (0, .ref (ad G 10 0)), (1, .int x1), (3, .int x3)]) hx hb dX12_month_88 hl (by decide) rfl (fun ls hl => ?_)
    refine lv_aload_n hx hb dX12_month_90 rfl (lv_at hl 2 rfl) ?_
    refine m_getr S hK fk_X12_7 (gr_10_1 G 0) hW (ci_10 (Nat.le_of_ble_eq_true rfl)) dX12_month_91 ?_
    refine lv_iload hx hb dX12_month_94 (lv_at hl 1 rfl) ?_
    refine lv_iload_n hx hb dX12_month_96 rfl (lv_at hl 4 rfl) ?_
    obtain ⟨hb97, h⟩ := h
    refine m_ast S hK (ar_44 G) hW hS (ci_44 (Nat.le_of_ble_eq_true rfl)) hb97 dX12_month_97 (fun Mm97 eMm97 H locs hW hS => ?_)
    replace h := h Mm97 eMm97
    refine lv_iload hx hb dX12_month_98 (lv_at hl 0 rfl) ?_
    exact m_iret S hret hlocks hKX hW hbs hS rfl h dX12_month_100
  have b47 : ∀ (M : Mem) (y0 : Int32) (y1 : Int32) (y2 : Int32) (H : Heap) (locs : List Loc) (ls : Array Slot), WPm G M H → va_S (fun q => bs G ≤ q) s.heap H locs → lv_has ls 6 [(0, .ref (ad G 10 0)), (1, .int x1), (2, .int x2), (3, .int x3)] → s_X12_month_47 x1 x2 x3 P M y0 y1 y2 → W p l e rm_X12_month s m AV below meth c H locs 0 0 (MQ below (va_Qi P (WS G) (fun q => bs G ≤ q)) AV s 0 0 (fun q => bs G ≤ q)) (F0 m 47 ls [.int y0, .int y1, .int y2]) := by
    intro M y0 y1 y2 H locs ls hW hS hl h
    unfold s_X12_month_47 at h
    refine m_ci0 (m_rS S hKX hW (m_szH hbs hS) (c_X12_in l ) h lk_X12_131 rfl hl.1 rfl ⟨Nat.le_of_ble_eq_true rfl, Nat.le_of_ble_eq_true rfl⟩ (Nat.le_of_ble_eq_true rfl) ⟨Nat.le_of_ble_eq_true rfl, Nat.le_of_ble_eq_true rfl⟩ dX12_month_47) hS rfl rfl (fun rr47 Mm47 H locs h hW hS => ?_)
    refine lv_if_ne (tgt := 55) hx hb dX12_month_50 (by decide) (fun c50 => ?_) (fun c50 => ?_)
    · replace h := h.1 c50
      refine lv_iload_n hx hb dX12_month_55 rfl (lv_at hl 2 rfl) ?_
      refine lv_if_ne (tgt := 64) hx hb dX12_month_56 (by decide) (fun c56 => ?_) (fun c56 => ?_)
      · replace h := h.1 c56
        refine lv_iload_n hx hb dX12_month_64 rfl (lv_at hl 2 rfl) ?_
        refine lv_iconst hx hb dX12_month_65 ki_1 ?_
        refine lv_icmp_ne (tgt := 74) hx hb dX12_month_66 (by decide) (fun c66 => ?_) (fun c66 => ?_)
        · replace h := h.1 c66
          refine lv_sipush hx hb dX12_month_74 ks_140 ?_
          exact b77 _ _ H locs ls hW hS (lv_sub hl [0, 1, 3] rfl) h
        · replace h := h.2 c66
          refine lv_bipush hx hb dX12_month_69 kb_120 ?_
          refine lv_goto (tgt := 77) hx hb dX12_month_71 (by decide) ?_
          exact b77 _ _ H locs ls hW hS (lv_sub hl [0, 1, 3] rfl) h
      · replace h := h.2 c56
        refine lv_bipush hx hb dX12_month_59 kb_100 ?_
        refine lv_goto (tgt := 77) hx hb dX12_month_61 (by decide) ?_
        exact b77 _ _ H locs ls hW hS (lv_sub hl [0, 1, 3] rfl) h
    · replace h := h.2 c50
      refine lv_iconst hx hb dX12_month_53 ki_m1 ?_
      exact m_iret S hret hlocks hKX hW hbs hS rfl h dX12_month_54
  unfold s_X12_month at h
  refine lv_aload_n hx hb dX12_month_0 rfl (lv_at hl 0 rfl) ?_
  refine lv_iconst hx hb dX12_month_1 ki_0 ?_
  refine m_put S hK fk_X12_128 tyX12_ok nmX12 rfl pf_X12_0 (pv_10_0 G) hW hS (ci_10 (Nat.le_of_ble_eq_true rfl)) rfl rfl dX12_month_2 (fun Mm2 eMm2 H locs hW hS => ?_)
  replace h := h Mm2 eMm2
  refine lv_iload_n hx hb dX12_month_5 rfl (lv_at hl 1 rfl) ?_
  refine lv_iconst hx hb dX12_month_6 ki_0 ?_
  refine lv_bipush hx hb dX12_month_7 kb_11 ?_
  refine m_ci0 (m_rS S hKX hW (m_szH hbs hS) (c_X12_in l ) h lk_X12_131 rfl hl.1 rfl ⟨Nat.le_of_ble_eq_true rfl, Nat.le_of_ble_eq_true rfl⟩ (Nat.le_of_ble_eq_true rfl) ⟨Nat.le_of_ble_eq_true rfl, Nat.le_of_ble_eq_true rfl⟩ dX12_month_9) hS rfl rfl (fun rr9 Mm9 H locs h hW hS => ?_)
  refine lv_if_eq (tgt := 53) hx hb dX12_month_12 (by decide) (fun c12 => ?_) (fun c12 => ?_)
  · replace h := h.1 c12
    refine lv_iconst hx hb dX12_month_53 ki_m1 ?_
    exact m_iret S hret hlocks hKX hW hbs hS rfl h dX12_month_54
  · replace h := h.2 c12
    refine lv_iload_n hx hb dX12_month_15 rfl (lv_at hl 2 rfl) ?_
    refine lv_iconst hx hb dX12_month_16 ki_0 ?_
    refine lv_iconst hx hb dX12_month_17 ki_2 ?_
    refine m_ci0 (m_rS S hKX hW (m_szH hbs hS) (c_X12_in l ) h lk_X12_131 rfl hl.1 rfl ⟨Nat.le_of_ble_eq_true rfl, Nat.le_of_ble_eq_true rfl⟩ (Nat.le_of_ble_eq_true rfl) ⟨Nat.le_of_ble_eq_true rfl, Nat.le_of_ble_eq_true rfl⟩ dX12_month_18) hS rfl rfl (fun rr18 Mm18 H locs h hW hS => ?_)
    refine lv_if_eq (tgt := 53) hx hb dX12_month_21 (by decide) (fun c21 => ?_) (fun c21 => ?_)
    · replace h := h.1 c21
      refine lv_iconst hx hb dX12_month_53 ki_m1 ?_
      exact m_iret S hret hlocks hKX hW hbs hS rfl h dX12_month_54
    · replace h := h.2 c21
      refine lv_iload_n hx hb dX12_month_24 rfl (lv_at hl 3 rfl) ?_
      refine lv_iconst hx hb dX12_month_25 ki_0 ?_
      refine lv_iload_n hx hb dX12_month_26 rfl (lv_at hl 2 rfl) ?_
      refine lv_if_ne (tgt := 35) hx hb dX12_month_27 (by decide) (fun c27 => ?_) (fun c27 => ?_)
      · replace h := h.1 c27
        refine lv_iload_n hx hb dX12_month_35 rfl (lv_at hl 2 rfl) ?_
        refine lv_iconst hx hb dX12_month_36 ki_1 ?_
        refine lv_icmp_ne (tgt := 45) hx hb dX12_month_37 (by decide) (fun c37 => ?_) (fun c37 => ?_)
        · replace h := h.1 c37
          refine lv_ldc hx hb hown (hts _ mw_1141) dX12_month_45 ?_
          exact b47 _ _ _ _ H locs ls hW hS (lv_sub hl [0, 1, 2, 3] rfl) h
        · replace h := h.2 c37
          refine lv_bipush hx hb dX12_month_40 kb_99 ?_
          refine lv_goto (tgt := 47) hx hb dX12_month_42 (by decide) ?_
          exact b47 _ _ _ _ H locs ls hW hS (lv_sub hl [0, 1, 2, 3] rfl) h
      · replace h := h.2 c27
        refine lv_bipush hx hb dX12_month_30 kb_100 ?_
        refine lv_goto (tgt := 47) hx hb dX12_month_32 (by decide) ?_
        exact b47 _ _ _ _ H locs ls hW hS (lv_sub hl [0, 1, 2, 3] rfl) h
abbrev rm_X12_heads : Room := { frames := 2, cells := 0, slots := 0, locals := 42 }
set_option maxHeartbeats 4000000 in
set_option maxRecDepth 100000 in
theorem c_X12_heads (l : Launch) {G : Gn} {M : Mem} {x1 : Int32} {x2 : Int32} {P : Int32 → Mem → Prop} : MQi l yX12_heads cX12_heads 9 (some .int) rm_X12_heads [.ref (ad G 10 0), .int x1, .int x2] G M (s_X12_heads M x1 x2 P) P := by
  refine m_enter (by decide +kernel) (Nat.le_of_ble_eq_true rfl) ?_
  intro p e s m below meth c ls H locs S hret hlocks hname hKX hbs hW hS hl h
  obtain ⟨AV, hAV⟩ : ∃ z : Array Value, z = ([.ref (ad G 10 0), .int x1, .int x2] : List Value).toArray := ⟨_, rfl⟩
  rw [← hAV] at S ⊢
  replace S : CallFix p m c cX12_heads 9 s AV lw_G "MilkDeskModel" := S
  have hK := hKX.1
  have hx := S.1
  have hb := S.2.1
  have hml := S.2.2.1
  have hown := S.2.2.2.1
  have hts := S.2.2.2.2
  replace hl : lv_has ls 9 [(0, .ref (ad G 10 0)), (1, .int x1), (2, .int x2)] := hl
  have w158 : ∀ (x3 : Int32) (x4 : Int64), ∀ (n : Nat) (a : Mem × Int32), Lz (fun (K158 : Mem × Int32 → Prop) (a : Mem × Int32) => s_X12_heads_158 x2 x3 x4 P K158 a.1 a.2) n a → ∀ (H : Heap) (locs : List Loc) (ls : Array Slot), WPm G a.1 H → va_S (fun q => bs G ≤ q) s.heap H locs → lv_has ls 9 [(0, .ref (ad G 10 0)), (2, .int x2), (3, .int x3), (4, .long x4), (6, .int a.2)] → W p l e rm_X12_heads s m AV below meth c H locs 0 0 (MQ below (va_Qi P (WS G) (fun q => bs G ≤ q)) AV s 0 0 (fun q => bs G ≤ q)) (F0 m 158 ls []) := by
    intro x3 x4
    refine Lz_walk ?_
    rintro K158 kk158 ⟨M, x6⟩ h H locs ls hW hS hl
    replace h : s_X12_heads_158 x2 x3 x4 P K158 M x6 := h
    replace hW : WPm G M H := hW
    replace hl : lv_has ls 9 [(0, .ref (ad G 10 0)), (2, .int x2), (3, .int x3), (4, .long x4), (6, .int x6)] := hl
    have b247 : ∀ (M : Mem) (x6 : Int32) (y0 : Int32) (y1 : Int32) (H : Heap) (locs : List Loc) (ls : Array Slot), WPm G M H → va_S (fun q => bs G ≤ q) s.heap H locs → lv_has ls 9 [(0, .ref (ad G 10 0)), (2, .int x2), (3, .int x3), (4, .long x4), (6, .int x6)] → s_X12_heads_247 x2 x3 x4 P K158 M x6 y0 y1 → W p l e rm_X12_heads s m AV below meth c H locs 0 0 (MQ below (va_Qi P (WS G) (fun q => bs G ≤ q)) AV s 0 0 (fun q => bs G ≤ q)) (F0 m 247 ls [.int y0, .int y1, .ref (ad G 56 0)]) := by
      intro M x6 y0 y1 H locs ls hW hS hl h
      unfold s_X12_heads_247 at h
      obtain ⟨hb247, h⟩ := h
      refine m_ast S hK (ar_56 G) hW hS (ci_56 (Nat.le_of_ble_eq_true rfl)) hb247 dX12_heads_247 (fun Mm247 eMm247 H locs hW hS => ?_)
      replace h := h Mm247 eMm247
      obtain ⟨x6_248, ex6_248⟩ : ∃ z : Int32, z = x6 + (1 : Int32) := ⟨_, rfl⟩
      replace h := h x6_248 ex6_248
      refine lv_iinc (v := x6_248) (lv' := [(6, .int x6_248), (0, .ref (ad G 10 0)), (2, .int x2), (3, .int x3), (4, .long x4)]) hx hb dX12_heads_248 hl (k := 4) rfl (by rw [ex6_248, ki_1]) (by decide) rfl (fun ls hl => ?_)
      refine lv_goto (tgt := 158) hx hb dX12_heads_251 (by decide) ?_
      exact kk158 _ h H locs ls hW hS (lv_sub hl [1, 2, 3, 4, 0] rfl)
    have b193 : ∀ (M : Mem) (x6 : Int32) (y0 : Int64) (H : Heap) (locs : List Loc) (ls : Array Slot), WPm G M H → va_S (fun q => bs G ≤ q) s.heap H locs → lv_has ls 9 [(0, .ref (ad G 10 0)), (2, .int x2), (3, .int x3), (4, .long x4), (6, .int x6)] → s_X12_heads_193 x2 x3 x4 P K158 M x6 y0 → W p l e rm_X12_heads s m AV below meth c H locs 0 0 (MQ below (va_Qi P (WS G) (fun q => bs G ≤ q)) AV s 0 0 (fun q => bs G ≤ q)) (F0 m 193 ls [.long y0]) := by
      intro M x6 y0 H locs ls hW hS hl h
      unfold s_X12_heads_193 at h
      refine lv_lstore (lv' := [(7, .long y0), (0, .ref (ad G 10 0)), (2, .int x2), (3, .int x3), (4, .long x4), (6, .int x6)]) hx hb dX12_heads_193 hl (by decide) rfl (fun ls hl => ?_)
      refine lv_aload_n hx hb dX12_heads_195 rfl (lv_at hl 1 rfl) ?_
      refine m_getr S hK fk_X12_46 (gr_10_14 G 0) hW (ci_10 (Nat.le_of_ble_eq_true rfl)) dX12_heads_196 ?_
      refine lv_bipush hx hb dX12_heads_199 kb_12 ?_
      refine lv_iload_n hx hb dX12_heads_201 rfl (lv_at hl 3 rfl) ?_
      refine lv_imul hx hb dX12_heads_202 ?_
      refine lv_iload hx hb dX12_heads_203 (lv_at hl 5 rfl) ?_
      refine lv_iadd hx hb dX12_heads_205 ?_
      refine lv_lload hx hb dX12_heads_206 (lv_at hl 0 rfl) ?_
      refine lv_lload hx hb dX12_heads_208 (lv_at hl 4 rfl) ?_
      refine W.lcmp hx hb dX12_heads_210 ?_
      refine lv_if_ne (tgt := 218) hx hb dX12_heads_211 (by decide) (fun c211 => ?_) (fun c211 => ?_)
      · replace h := h.1 c211
        refine lv_lload hx hb dX12_heads_218 (lv_at hl 0 rfl) ?_
        refine lv_lconst (v := (0 : Int64)) hx hb dX12_heads_220 (by decide +kernel) ?_
        refine W.lcmp hx hb dX12_heads_221 ?_
        refine lv_if_ge (tgt := 229) hx hb dX12_heads_222 (by decide) (fun c222 => ?_) (fun c222 => ?_)
        · replace h := h.1 c222
          refine lv_lload hx hb dX12_heads_229 (lv_at hl 0 rfl) ?_
          refine lv_ldc2 hx hb hown (hts _ mw_1364) dX12_heads_231 ?_
          refine W.lcmp hx hb dX12_heads_234 ?_
          refine lv_if_le (tgt := 244) hx hb dX12_heads_235 (by decide) (fun c235 => ?_) (fun c235 => ?_)
          · replace h := h.1 c235
            refine lv_lload hx hb dX12_heads_244 (lv_at hl 0 rfl) ?_
            refine lv_l2i hx hb dX12_heads_246 rfl ?_
            exact b247 _ _ _ _ H locs ls hW hS (lv_sub hl [1, 2, 3, 4, 5] rfl) h
          · replace h := h.2 c235
            refine lv_sipush hx hb dX12_heads_238 ks_200 ?_
            refine lv_goto (tgt := 247) hx hb dX12_heads_241 (by decide) ?_
            exact b247 _ _ _ _ H locs ls hW hS (lv_sub hl [1, 2, 3, 4, 5] rfl) h
        · replace h := h.2 c222
          refine lv_iconst hx hb dX12_heads_225 ki_0 ?_
          refine lv_goto (tgt := 247) hx hb dX12_heads_226 (by decide) ?_
          exact b247 _ _ _ _ H locs ls hW hS (lv_sub hl [1, 2, 3, 4, 5] rfl) h
      · replace h := h.2 c211
        refine lv_iconst hx hb dX12_heads_214 ki_m1 ?_
        refine lv_goto (tgt := 247) hx hb dX12_heads_215 (by decide) ?_
        exact b247 _ _ _ _ H locs ls hW hS (lv_sub hl [1, 2, 3, 4, 5] rfl) h
    unfold s_X12_heads_158 at h
    refine lv_iload hx hb dX12_heads_158 (lv_at hl 4 rfl) ?_
    refine lv_bipush hx hb dX12_heads_160 kb_12 ?_
    refine lv_icmp_ge (tgt := 254) hx hb dX12_heads_162 (by decide) (fun c162 => ?_) (fun c162 => ?_)
    · replace h := h.1 c162
      refine lv_aload_n hx hb dX12_heads_254 rfl (lv_at hl 0 rfl) ?_
      refine m_getr S hK fk_X12_7 (gr_10_1 G 0) hW (ci_10 (Nat.le_of_ble_eq_true rfl)) dX12_heads_255 ?_
      refine lv_iconst hx hb dX12_heads_258 ki_5 ?_
      refine lv_dup2_11 hx hb dX12_heads_259 rfl rfl ?_
      refine m_aldk S hK (ar_44 G) hW (ci_44 (Nat.le_of_ble_eq_true rfl)) kn_5 (Nat.le_of_ble_eq_true rfl) dX12_heads_260 ?_
      refine lv_iconst hx hb dX12_heads_261 ki_1 ?_
      refine lv_iadd hx hb dX12_heads_262 ?_
      refine m_astk S hK (ar_44 G) hW hS (ci_44 (Nat.le_of_ble_eq_true rfl)) kn_5 (Nat.le_of_ble_eq_true rfl) dX12_heads_263 (fun Mm263 eMm263 H locs hW hS => ?_)
      replace h := h Mm263 eMm263
      refine lv_aload_n hx hb dX12_heads_264 rfl (lv_at hl 0 rfl) ?_
      refine m_getr S hK fk_X12_43 (gr_10_13 G 0) hW (ci_10 (Nat.le_of_ble_eq_true rfl)) dX12_heads_265 ?_
      refine lv_iload_n hx hb dX12_heads_268 rfl (lv_at hl 2 rfl) ?_
      obtain ⟨hb269, h⟩ := h
      refine m_ald S hK (ar_55 G) hW (ci_55 (Nat.le_of_ble_eq_true rfl)) hb269 dX12_heads_269 ?_
      exact m_iret S hret hlocks hKX hW hbs hS rfl h dX12_heads_270
    · replace h := h.2 c162
      refine lv_iload hx hb dX12_heads_165 (lv_at hl 4 rfl) ?_
      refine lv_aload_n hx hb dX12_heads_167 rfl (lv_at hl 0 rfl) ?_
      refine m_getr S hK fk_X12_117 (gr_10_50 G 0) hW (ci_10 (Nat.le_of_ble_eq_true rfl)) dX12_heads_168 ?_
      refine lv_iload_n hx hb dX12_heads_171 rfl (lv_at hl 1 rfl) ?_
      obtain ⟨hb172, h⟩ := h
      refine m_ald S hK (ar_77 G) hW (ci_77 (Nat.le_of_ble_eq_true rfl)) hb172 dX12_heads_172 ?_
      refine lv_icmp_ge (tgt := 191) hx hb dX12_heads_173 (by decide) (fun c173 => ?_) (fun c173 => ?_)
      · replace h := h.1 c173
        refine lv_lload hx hb dX12_heads_191 (lv_at hl 3 rfl) ?_
        exact b193 _ _ _ H locs ls hW hS (lv_sub hl [0, 1, 2, 3, 4] rfl) h
      · replace h := h.2 c173
        refine lv_aload_n hx hb dX12_heads_176 rfl (lv_at hl 0 rfl) ?_
        refine m_getr S hK fk_X12_120 (gr_10_51 G 0) hW (ci_10 (Nat.le_of_ble_eq_true rfl)) dX12_heads_177 ?_
        refine lv_bipush hx hb dX12_heads_180 kb_80 ?_
        refine lv_iload_n hx hb dX12_heads_182 rfl (lv_at hl 1 rfl) ?_
        refine lv_imul hx hb dX12_heads_183 ?_
        refine lv_iload hx hb dX12_heads_184 (lv_at hl 4 rfl) ?_
        refine lv_iadd hx hb dX12_heads_186 ?_
        obtain ⟨hb187, h⟩ := h
        refine m_jald S hK (ar_78 G) hW (ci_78 (Nat.le_of_ble_eq_true rfl)) hb187 dX12_heads_187 ?_
        refine lv_goto (tgt := 193) hx hb dX12_heads_188 (by decide) ?_
        exact b193 _ _ _ H locs ls hW hS (lv_sub hl [0, 1, 2, 3, 4] rfl) h
  have b104 : ∀ (M : Mem) (x3 : Int32) (y0 : Int64) (H : Heap) (locs : List Loc) (ls : Array Slot), WPm G M H → va_S (fun q => bs G ≤ q) s.heap H locs → lv_has ls 9 [(0, .ref (ad G 10 0)), (1, .int x1), (2, .int x2), (3, .int x3)] → s_X12_heads_104 x1 x2 P M x3 y0 → W p l e rm_X12_heads s m AV below meth c H locs 0 0 (MQ below (va_Qi P (WS G) (fun q => bs G ≤ q)) AV s 0 0 (fun q => bs G ≤ q)) (F0 m 104 ls [.long y0]) := by
    intro M x3 y0 H locs ls hW hS hl h
    unfold s_X12_heads_104 at h
    refine lv_lstore (lv' := [(4, .long y0), (0, .ref (ad G 10 0)), (1, .int x1), (2, .int x2), (3, .int x3)]) hx hb dX12_heads_104 hl (by decide) rfl (fun ls hl => ?_)
    refine lv_aload_n hx hb dX12_heads_106 rfl (lv_at hl 1 rfl) ?_
    refine m_getr S hK fk_X12_37 (gr_10_11 G 0) hW (ci_10 (Nat.le_of_ble_eq_true rfl)) dX12_heads_107 ?_
    refine lv_iload_n hx hb dX12_heads_110 rfl (lv_at hl 4 rfl) ?_
    refine lv_iload_n hx hb dX12_heads_111 rfl (lv_at hl 2 rfl) ?_
    obtain ⟨hb112, h⟩ := h
    refine m_ast S hK (ar_53 G) hW hS (ci_53 (Nat.le_of_ble_eq_true rfl)) hb112 dX12_heads_112 (fun Mm112 eMm112 H locs hW hS => ?_)
    replace h := h Mm112 eMm112
    refine lv_aload_n hx hb dX12_heads_113 rfl (lv_at hl 1 rfl) ?_
    refine m_getr S hK fk_X12_40 (gr_10_12 G 0) hW (ci_10 (Nat.le_of_ble_eq_true rfl)) dX12_heads_114 ?_
    refine lv_iload_n hx hb dX12_heads_117 rfl (lv_at hl 4 rfl) ?_
    refine lv_aload_n hx hb dX12_heads_118 rfl (lv_at hl 1 rfl) ?_
    refine m_getr S hK fk_X12_7 (gr_10_1 G 0) hW (ci_10 (Nat.le_of_ble_eq_true rfl)) dX12_heads_119 ?_
    refine lv_iconst hx hb dX12_heads_122 ki_3 ?_
    refine m_aldk S hK (ar_44 G) hW (ci_44 (Nat.le_of_ble_eq_true rfl)) kn_3 (Nat.le_of_ble_eq_true rfl) dX12_heads_123 ?_
    obtain ⟨hb124, h⟩ := h
    refine m_ast S hK (ar_54 G) hW hS (ci_54 (Nat.le_of_ble_eq_true rfl)) hb124 dX12_heads_124 (fun Mm124 eMm124 H locs hW hS => ?_)
    replace h := h Mm124 eMm124
    refine lv_aload_n hx hb dX12_heads_125 rfl (lv_at hl 1 rfl) ?_
    refine m_getr S hK fk_X12_43 (gr_10_13 G 0) hW (ci_10 (Nat.le_of_ble_eq_true rfl)) dX12_heads_126 ?_
    refine lv_iload_n hx hb dX12_heads_129 rfl (lv_at hl 4 rfl) ?_
    refine lv_aload_n hx hb dX12_heads_130 rfl (lv_at hl 1 rfl) ?_
    refine m_getr S hK fk_X12_7 (gr_10_1 G 0) hW (ci_10 (Nat.le_of_ble_eq_true rfl)) dX12_heads_131 ?_
    refine lv_iconst hx hb dX12_heads_134 ki_3 ?_
    refine m_aldk S hK (ar_44 G) hW (ci_44 (Nat.le_of_ble_eq_true rfl)) kn_3 (Nat.le_of_ble_eq_true rfl) dX12_heads_135 ?_
    refine lv_bipush hx hb dX12_heads_136 kb_10 ?_
    refine lv_aload_n hx hb dX12_heads_138 rfl (lv_at hl 1 rfl) ?_
    refine m_getr S hK fk_X12_7 (gr_10_1 G 0) hW (ci_10 (Nat.le_of_ble_eq_true rfl)) dX12_heads_139 ?_
    refine lv_iconst hx hb dX12_heads_142 ki_3 ?_
    refine m_aldk S hK (ar_44 G) hW (ci_44 (Nat.le_of_ble_eq_true rfl)) kn_3 (Nat.le_of_ble_eq_true rfl) dX12_heads_143 ?_
    refine lv_bipush hx hb dX12_heads_144 kb_7 ?_
    refine lv_irem hx hb dX12_heads_146 nz_7 ?_
    refine lv_isub hx hb dX12_heads_147 ?_
    refine lv_bipush hx hb dX12_heads_148 kb_7 ?_
    refine lv_irem hx hb dX12_heads_150 nz_7 ?_
    refine lv_iadd hx hb dX12_heads_151 ?_
    refine lv_iconst hx hb dX12_heads_152 ki_4 ?_
    refine lv_iadd hx hb dX12_heads_153 ?_
    obtain ⟨hb154, h⟩ := h
    refine m_ast S hK (ar_55 G) hW hS (ci_55 (Nat.le_of_ble_eq_true rfl)) hb154 dX12_heads_154 (fun Mm154 eMm154 H locs hW hS => ?_)
    replace h := h Mm154 eMm154
    refine lv_iconst hx hb dX12_heads_155 ki_0 ?_
    refine lv_istore (lv' := [(6, .int (0 : Int32)), (4, .long y0), (0, .ref (ad G 10 0)), (1, .int x1), (2, .int x2), (3, .int x3)]) hx hb dX12_heads_156 hl (by decide) rfl (fun ls hl => ?_)
    obtain ⟨n158, h⟩ := h
    exact w158 _ _ n158 _ h H locs ls hW hS (lv_sub hl [2, 4, 5, 1, 0] rfl)
  unfold s_X12_heads at h
  refine lv_aload_n hx hb dX12_heads_0 rfl (lv_at hl 0 rfl) ?_
  refine lv_iconst hx hb dX12_heads_1 ki_0 ?_
  refine m_put S hK fk_X12_128 tyX12_ok nmX12 rfl pf_X12_0 (pv_10_0 G) hW hS (ci_10 (Nat.le_of_ble_eq_true rfl)) rfl rfl dX12_heads_2 (fun Mm2 eMm2 H locs hW hS => ?_)
  replace h := h Mm2 eMm2
  refine lv_iload_n hx hb dX12_heads_5 rfl (lv_at hl 1 rfl) ?_
  refine m_ci0 (m_rS S hKX hW (m_szH hbs hS) (c_X12_isAge l ) h lk_X12_149 rfl hl.1 rfl ⟨Nat.le_of_ble_eq_true rfl, Nat.le_of_ble_eq_true rfl⟩ (Nat.le_of_ble_eq_true rfl) ⟨Nat.le_of_ble_eq_true rfl, Nat.le_of_ble_eq_true rfl⟩ dX12_heads_6) hS rfl rfl (fun rr6 Mm6 H locs h hW hS => ?_)
  refine lv_if_eq (tgt := 22) hx hb dX12_heads_9 (by decide) (fun c9 => ?_) (fun c9 => ?_)
  · replace h := h.1 c9
    refine lv_iconst hx hb dX12_heads_22 ki_m1 ?_
    exact m_iret S hret hlocks hKX hW hbs hS rfl h dX12_heads_23
  · replace h := h.2 c9
    refine lv_iload_n hx hb dX12_heads_12 rfl (lv_at hl 2 rfl) ?_
    refine lv_iconst hx hb dX12_heads_13 ki_0 ?_
    refine lv_bipush hx hb dX12_heads_14 kb_7 ?_
    refine m_ci0 (m_rS S hKX hW (m_szH hbs hS) (c_X12_in l ) h lk_X12_131 rfl hl.1 rfl ⟨Nat.le_of_ble_eq_true rfl, Nat.le_of_ble_eq_true rfl⟩ (Nat.le_of_ble_eq_true rfl) ⟨Nat.le_of_ble_eq_true rfl, Nat.le_of_ble_eq_true rfl⟩ dX12_heads_16) hS rfl rfl (fun rr16 Mm16 H locs h hW hS => ?_)
    refine lv_if_ne (tgt := 24) hx hb dX12_heads_19 (by decide) (fun c19 => ?_) (fun c19 => ?_)
    · replace h := h.1 c19
      refine lv_aload_n hx hb dX12_heads_24 rfl (lv_at hl 0 rfl) ?_
      refine m_getr S hK fk_X12_7 (gr_10_1 G 0) hW (ci_10 (Nat.le_of_ble_eq_true rfl)) dX12_heads_25 ?_
      refine lv_iconst hx hb dX12_heads_28 ki_5 ?_
      refine m_aldk S hK (ar_44 G) hW (ci_44 (Nat.le_of_ble_eq_true rfl)) kn_5 (Nat.le_of_ble_eq_true rfl) dX12_heads_29 ?_
      refine lv_bipush hx hb dX12_heads_30 kb_16 ?_
      refine lv_icmp_ne (tgt := 38) hx hb dX12_heads_32 (by decide) (fun c32 => ?_) (fun c32 => ?_)
      · replace h := h.1 c32
        refine lv_aload_n hx hb dX12_heads_38 rfl (lv_at hl 0 rfl) ?_
        refine m_getr S hK fk_X12_102 (gr_10_45 G 0) hW (ci_10 (Nat.le_of_ble_eq_true rfl)) dX12_heads_39 ?_
        refine lv_iload_n hx hb dX12_heads_42 rfl (lv_at hl 2 rfl) ?_
        obtain ⟨hb43, h⟩ := h
        refine m_ald S hK (ar_72 G) hW (ci_72 (Nat.le_of_ble_eq_true rfl)) hb43 dX12_heads_43 ?_
        refine lv_if_ne (tgt := 50) hx hb dX12_heads_44 (by decide) (fun c44 => ?_) (fun c44 => ?_)
        · replace h := h.1 c44
          refine lv_aload_n hx hb dX12_heads_50 rfl (lv_at hl 0 rfl) ?_
          refine m_getr S hK fk_X12_102 (gr_10_45 G 0) hW (ci_10 (Nat.le_of_ble_eq_true rfl)) dX12_heads_51 ?_
          refine lv_iload_n hx hb dX12_heads_54 rfl (lv_at hl 2 rfl) ?_
          obtain ⟨hb55, h⟩ := h
          refine m_ald S hK (ar_72 G) hW (ci_72 (Nat.le_of_ble_eq_true rfl)) hb55 dX12_heads_55 ?_
          refine lv_iconst hx hb dX12_heads_56 ki_2 ?_
          refine lv_icmp_eq (tgt := 63) hx hb dX12_heads_57 (by decide) (fun c57 => ?_) (fun c57 => ?_)
          · replace h := h.1 c57
            refine lv_aload_n hx hb dX12_heads_63 rfl (lv_at hl 0 rfl) ?_
            refine m_getr S hK fk_X12_7 (gr_10_1 G 0) hW (ci_10 (Nat.le_of_ble_eq_true rfl)) dX12_heads_64 ?_
            refine lv_iconst hx hb dX12_heads_67 ki_5 ?_
            refine m_aldk S hK (ar_44 G) hW (ci_44 (Nat.le_of_ble_eq_true rfl)) kn_5 (Nat.le_of_ble_eq_true rfl) dX12_heads_68 ?_
            refine lv_topi (fun x3_69 ex3_69 => ?_)
            replace h := h x3_69 ex3_69
            refine lv_istore_n (lv' := [(3, .int x3_69), (0, .ref (ad G 10 0)), (1, .int x1), (2, .int x2)]) hx hb dX12_heads_69 rfl hl (by decide) rfl (fun ls hl => ?_)
            refine lv_aload_n hx hb dX12_heads_70 rfl (lv_at hl 1 rfl) ?_
            refine m_getr S hK fk_X12_114 (gr_10_49 G 0) hW (ci_10 (Nat.le_of_ble_eq_true rfl)) dX12_heads_71 ?_
            refine lv_iload_n hx hb dX12_heads_74 rfl (lv_at hl 3 rfl) ?_
            obtain ⟨hb75, h⟩ := h
            refine m_ald S hK (ar_76 G) hW (ci_76 (Nat.le_of_ble_eq_true rfl)) hb75 dX12_heads_75 ?_
            refine lv_if_ne (tgt := 85) hx hb dX12_heads_76 (by decide) (fun c76 => ?_) (fun c76 => ?_)
            · replace h := h.1 c76
              refine lv_aload_n hx hb dX12_heads_85 rfl (lv_at hl 1 rfl) ?_
              refine m_getr S hK fk_X12_114 (gr_10_49 G 0) hW (ci_10 (Nat.le_of_ble_eq_true rfl)) dX12_heads_86 ?_
              refine lv_iload_n hx hb dX12_heads_89 rfl (lv_at hl 3 rfl) ?_
              obtain ⟨hb90, h⟩ := h
              refine m_ald S hK (ar_76 G) hW (ci_76 (Nat.le_of_ble_eq_true rfl)) hb90 dX12_heads_90 ?_
              refine lv_iconst hx hb dX12_heads_91 ki_1 ?_
              refine lv_icmp_ne (tgt := 101) hx hb dX12_heads_92 (by decide) (fun c92 => ?_) (fun c92 => ?_)
              · replace h := h.1 c92
                refine lv_ldc2 hx hb hown (hts _ mw_1363) dX12_heads_101 ?_
                exact b104 _ _ _ H locs ls hW hS (lv_sub hl [1, 2, 3, 0] rfl) h
              · replace h := h.2 c92
                refine lv_ldc2 hx hb hown (hts _ mw_1362) dX12_heads_95 ?_
                refine lv_goto (tgt := 104) hx hb dX12_heads_98 (by decide) ?_
                exact b104 _ _ _ H locs ls hW hS (lv_sub hl [1, 2, 3, 0] rfl) h
            · replace h := h.2 c76
              refine lv_ldc2 hx hb hown (hts _ mw_1361) dX12_heads_79 ?_
              refine lv_goto (tgt := 104) hx hb dX12_heads_82 (by decide) ?_
              exact b104 _ _ _ H locs ls hW hS (lv_sub hl [1, 2, 3, 0] rfl) h
          · replace h := h.2 c57
            refine lv_bipush hx hb dX12_heads_60 kb_m12 ?_
            exact m_iret S hret hlocks hKX hW hbs hS rfl h dX12_heads_62
        · replace h := h.2 c44
          refine lv_bipush hx hb dX12_heads_47 kb_m11 ?_
          exact m_iret S hret hlocks hKX hW hbs hS rfl h dX12_heads_49
      · replace h := h.2 c32
        refine lv_bipush hx hb dX12_heads_35 kb_m2 ?_
        exact m_iret S hret hlocks hKX hW hbs hS rfl h dX12_heads_37
    · replace h := h.2 c19
      refine lv_iconst hx hb dX12_heads_22 ki_m1 ?_
      exact m_iret S hret hlocks hKX hW hbs hS rfl h dX12_heads_23
abbrev rm_X12_headOf : Room := { frames := 0, cells := 0, slots := 0, locals := 0 }
set_option maxHeartbeats 4000000 in
set_option maxRecDepth 100000 in
theorem c_X12_headOf (l : Launch) {G : Gn} {M : Mem} {x1 : Int32} {x2 : Int32} {x3 : Int32} {x4 : Int32} {P : Int32 → Mem → Prop} : MQi l yX12_headOf cX12_headOf 7 (some .int) rm_X12_headOf [.ref (ad G 10 0), .int x1, .int x2, .int x3, .int x4] G M (s_X12_headOf M x1 x2 x3 x4 P) P := by
  refine m_enter (by decide +kernel) (Nat.le_of_ble_eq_true rfl) ?_
  intro p e s m below meth c ls H locs S hret hlocks hname hKX hbs hW hS hl h
  obtain ⟨AV, hAV⟩ : ∃ z : Array Value, z = ([.ref (ad G 10 0), .int x1, .int x2, .int x3, .int x4] : List Value).toArray := ⟨_, rfl⟩
  rw [← hAV] at S ⊢
  replace S : CallFix p m c cX12_headOf 7 s AV lw_G "MilkDeskModel" := S
  have hK := hKX.1
  have hx := S.1
  have hb := S.2.1
  have hml := S.2.2.1
  have hown := S.2.2.2.1
  have hts := S.2.2.2.2
  replace hl : lv_has ls 7 [(0, .ref (ad G 10 0)), (1, .int x1), (2, .int x2), (3, .int x3), (4, .int x4)] := hl
  have w13 : ∀ (n : Nat) (a : Mem × Int32 × Int32), Lz (fun (K13 : Mem × Int32 × Int32 → Prop) (a : Mem × Int32 × Int32) => s_X12_headOf_13 x1 x2 x3 x4 P K13 a.1 a.2.1 a.2.2) n a → ∀ (H : Heap) (locs : List Loc) (ls : Array Slot), WPm G a.1 H → va_S (fun q => bs G ≤ q) s.heap H locs → lv_has ls 7 [(0, .ref (ad G 10 0)), (1, .int x1), (2, .int x2), (3, .int x3), (4, .int x4), (5, .int a.2.1), (6, .int a.2.2)] → W p l e rm_X12_headOf s m AV below meth c H locs 0 0 (MQ below (va_Qi P (WS G) (fun q => bs G ≤ q)) AV s 0 0 (fun q => bs G ≤ q)) (F0 m 13 ls []) := by
    refine Lz_walk ?_
    rintro K13 kk13 ⟨M, x5, x6⟩ h H locs ls hW hS hl
    replace h : s_X12_headOf_13 x1 x2 x3 x4 P K13 M x5 x6 := h
    replace hW : WPm G M H := hW
    replace hl : lv_has ls 7 [(0, .ref (ad G 10 0)), (1, .int x1), (2, .int x2), (3, .int x3), (4, .int x4), (5, .int x5), (6, .int x6)] := hl
    have b62 : ∀ (M : Mem) (x6 : Int32) (y0 : Int32) (H : Heap) (locs : List Loc) (ls : Array Slot), WPm G M H → va_S (fun q => bs G ≤ q) s.heap H locs → lv_has ls 7 [(0, .ref (ad G 10 0)), (1, .int x1), (2, .int x2), (3, .int x3), (4, .int x4), (6, .int x6)] → s_X12_headOf_62 x1 x2 x3 x4 P K13 M x6 y0 → W p l e rm_X12_headOf s m AV below meth c H locs 0 0 (MQ below (va_Qi P (WS G) (fun q => bs G ≤ q)) AV s 0 0 (fun q => bs G ≤ q)) (F0 m 62 ls [.int y0]) := by
      intro M x6 y0 H locs ls hW hS hl h
      unfold s_X12_headOf_62 at h
      refine lv_istore (lv' := [(5, .int y0), (0, .ref (ad G 10 0)), (1, .int x1), (2, .int x2), (3, .int x3), (4, .int x4), (6, .int x6)]) hx hb dX12_headOf_62 hl (by decide) rfl (fun ls hl => ?_)
      refine lv_iload hx hb dX12_headOf_64 (lv_at hl 0 rfl) ?_
      refine lv_if_eq (tgt := 97) hx hb dX12_headOf_66 (by decide) (fun c66 => ?_) (fun c66 => ?_)
      · replace h := h.1 c66
        obtain ⟨x6_97, ex6_97⟩ : ∃ z : Int32, z = x6 + (-1 : Int32) := ⟨_, rfl⟩
        replace h := h x6_97 ex6_97
        refine lv_iinc (v := x6_97) (lv' := [(6, .int x6_97), (5, .int y0), (0, .ref (ad G 10 0)), (1, .int x1), (2, .int x2), (3, .int x3), (4, .int x4)]) hx hb dX12_headOf_97 hl (k := 6) rfl (by rw [ex6_97, ki_m1]) (by decide) rfl (fun ls hl => ?_)
        refine lv_goto (tgt := 13) hx hb dX12_headOf_100 (by decide) ?_
        exact kk13 _ h H locs ls hW hS (lv_sub hl [2, 3, 4, 5, 6, 1, 0] rfl)
      · replace h := h.2 c66
        refine lv_aload_n hx hb dX12_headOf_69 rfl (lv_at hl 1 rfl) ?_
        refine m_getr S hK fk_X12_46 (gr_10_14 G 0) hW (ci_10 (Nat.le_of_ble_eq_true rfl)) dX12_headOf_70 ?_
        refine lv_bipush hx hb dX12_headOf_73 kb_12 ?_
        refine lv_iload hx hb dX12_headOf_75 (lv_at hl 6 rfl) ?_
        refine lv_imul hx hb dX12_headOf_77 ?_
        refine lv_iload_n hx hb dX12_headOf_78 rfl (lv_at hl 2 rfl) ?_
        refine lv_iadd hx hb dX12_headOf_79 ?_
        obtain ⟨hb80, h⟩ := h
        refine m_ald S hK (ar_56 G) hW (ci_56 (Nat.le_of_ble_eq_true rfl)) hb80 dX12_headOf_80 ?_
        refine lv_if_lt (tgt := 97) hx hb dX12_headOf_81 (by decide) (fun c81 => ?_) (fun c81 => ?_)
        · replace h := h.1 c81
          obtain ⟨x6_97, ex6_97⟩ : ∃ z : Int32, z = x6 + (-1 : Int32) := ⟨_, rfl⟩
          replace h := h x6_97 ex6_97
          refine lv_iinc (v := x6_97) (lv' := [(6, .int x6_97), (5, .int y0), (0, .ref (ad G 10 0)), (1, .int x1), (2, .int x2), (3, .int x3), (4, .int x4)]) hx hb dX12_headOf_97 hl (k := 6) rfl (by rw [ex6_97, ki_m1]) (by decide) rfl (fun ls hl => ?_)
          refine lv_goto (tgt := 13) hx hb dX12_headOf_100 (by decide) ?_
          exact kk13 _ h H locs ls hW hS (lv_sub hl [2, 3, 4, 5, 6, 1, 0] rfl)
        · replace h := h.2 c81
          refine lv_aload_n hx hb dX12_headOf_84 rfl (lv_at hl 1 rfl) ?_
          refine m_getr S hK fk_X12_46 (gr_10_14 G 0) hW (ci_10 (Nat.le_of_ble_eq_true rfl)) dX12_headOf_85 ?_
          refine lv_bipush hx hb dX12_headOf_88 kb_12 ?_
          refine lv_iload hx hb dX12_headOf_90 (lv_at hl 6 rfl) ?_
          refine lv_imul hx hb dX12_headOf_92 ?_
          refine lv_iload_n hx hb dX12_headOf_93 rfl (lv_at hl 2 rfl) ?_
          refine lv_iadd hx hb dX12_headOf_94 ?_
          obtain ⟨hb95, h⟩ := h
          refine m_ald S hK (ar_56 G) hW (ci_56 (Nat.le_of_ble_eq_true rfl)) hb95 dX12_headOf_95 ?_
          exact m_iret S hret hlocks hKX hW hbs hS rfl h dX12_headOf_96
    unfold s_X12_headOf_13 at h
    refine lv_iload hx hb dX12_headOf_13 (lv_at hl 6 rfl) ?_
    refine lv_if_lt (tgt := 103) hx hb dX12_headOf_15 (by decide) (fun c15 => ?_) (fun c15 => ?_)
    · replace h := h.1 c15
      refine lv_iconst hx hb dX12_headOf_103 ki_0 ?_
      exact m_iret S hret hlocks hKX hW hbs hS rfl h dX12_headOf_104
    · replace h := h.2 c15
      refine lv_aload_n hx hb dX12_headOf_18 rfl (lv_at hl 0 rfl) ?_
      refine m_getr S hK fk_X12_37 (gr_10_11 G 0) hW (ci_10 (Nat.le_of_ble_eq_true rfl)) dX12_headOf_19 ?_
      refine lv_iload hx hb dX12_headOf_22 (lv_at hl 6 rfl) ?_
      obtain ⟨hb24, h⟩ := h
      refine m_ald S hK (ar_53 G) hW (ci_53 (Nat.le_of_ble_eq_true rfl)) hb24 dX12_headOf_24 ?_
      refine lv_iload_n hx hb dX12_headOf_25 rfl (lv_at hl 2 rfl) ?_
      refine lv_icmp_ne (tgt := 97) hx hb dX12_headOf_26 (by decide) (fun c26 => ?_) (fun c26 => ?_)
      · replace h := h.1 c26
        obtain ⟨x6_97, ex6_97⟩ : ∃ z : Int32, z = x6 + (-1 : Int32) := ⟨_, rfl⟩
        replace h := h x6_97 ex6_97
        refine lv_iinc (v := x6_97) (lv' := [(6, .int x6_97), (0, .ref (ad G 10 0)), (1, .int x1), (2, .int x2), (3, .int x3), (4, .int x4), (5, .int x5)]) hx hb dX12_headOf_97 hl (k := 6) rfl (by rw [ex6_97, ki_m1]) (by decide) rfl (fun ls hl => ?_)
        refine lv_goto (tgt := 13) hx hb dX12_headOf_100 (by decide) ?_
        exact kk13 _ h H locs ls hW hS (lv_sub hl [1, 2, 3, 4, 5, 6, 0] rfl)
      · replace h := h.2 c26
        refine lv_iload hx hb dX12_headOf_29 (lv_at hl 5 rfl) ?_
        refine lv_if_ne (tgt := 57) hx hb dX12_headOf_31 (by decide) (fun c31 => ?_) (fun c31 => ?_)
        · replace h := h.1 c31
          refine lv_iconst hx hb dX12_headOf_57 ki_1 ?_
          refine lv_goto (tgt := 62) hx hb dX12_headOf_58 (by decide) ?_
          exact b62 _ _ _ H locs ls hW hS (lv_sub hl [0, 1, 2, 3, 4, 6] rfl) h
        · replace h := h.2 c31
          refine lv_aload_n hx hb dX12_headOf_34 rfl (lv_at hl 0 rfl) ?_
          refine m_getr S hK fk_X12_43 (gr_10_13 G 0) hW (ci_10 (Nat.le_of_ble_eq_true rfl)) dX12_headOf_35 ?_
          refine lv_iload hx hb dX12_headOf_38 (lv_at hl 6 rfl) ?_
          obtain ⟨hb40, h⟩ := h
          refine m_ald S hK (ar_55 G) hW (ci_55 (Nat.le_of_ble_eq_true rfl)) hb40 dX12_headOf_40 ?_
          refine lv_iload_n hx hb dX12_headOf_41 rfl (lv_at hl 3 rfl) ?_
          refine lv_icmp_gt (tgt := 61) hx hb dX12_headOf_42 (by decide) (fun c42 => ?_) (fun c42 => ?_)
          · replace h := h.1 c42
            refine lv_iconst hx hb dX12_headOf_61 ki_0 ?_
            exact b62 _ _ _ H locs ls hW hS (lv_sub hl [0, 1, 2, 3, 4, 6] rfl) h
          · replace h := h.2 c42
            refine lv_aload_n hx hb dX12_headOf_45 rfl (lv_at hl 0 rfl) ?_
            refine m_getr S hK fk_X12_40 (gr_10_12 G 0) hW (ci_10 (Nat.le_of_ble_eq_true rfl)) dX12_headOf_46 ?_
            refine lv_iload hx hb dX12_headOf_49 (lv_at hl 6 rfl) ?_
            obtain ⟨hb51, h⟩ := h
            refine m_ald S hK (ar_54 G) hW (ci_54 (Nat.le_of_ble_eq_true rfl)) hb51 dX12_headOf_51 ?_
            refine lv_iload hx hb dX12_headOf_52 (lv_at hl 4 rfl) ?_
            refine lv_icmp_gt (tgt := 61) hx hb dX12_headOf_54 (by decide) (fun c54 => ?_) (fun c54 => ?_)
            · replace h := h.1 c54
              refine lv_iconst hx hb dX12_headOf_61 ki_0 ?_
              exact b62 _ _ _ H locs ls hW hS (lv_sub hl [0, 1, 2, 3, 4, 6] rfl) h
            · replace h := h.2 c54
              refine lv_iconst hx hb dX12_headOf_57 ki_1 ?_
              refine lv_goto (tgt := 62) hx hb dX12_headOf_58 (by decide) ?_
              exact b62 _ _ _ H locs ls hW hS (lv_sub hl [0, 1, 2, 3, 4, 6] rfl) h
  unfold s_X12_headOf at h
  refine lv_iconst hx hb dX12_headOf_0 ki_0 ?_
  refine lv_istore (lv' := [(5, .int (0 : Int32)), (0, .ref (ad G 10 0)), (1, .int x1), (2, .int x2), (3, .int x3), (4, .int x4)]) hx hb dX12_headOf_1 hl (by decide) rfl (fun ls hl => ?_)
  refine lv_aload_n hx hb dX12_headOf_3 rfl (lv_at hl 1 rfl) ?_
  refine m_getr S hK fk_X12_7 (gr_10_1 G 0) hW (ci_10 (Nat.le_of_ble_eq_true rfl)) dX12_headOf_4 ?_
  refine lv_iconst hx hb dX12_headOf_7 ki_5 ?_
  refine m_aldk S hK (ar_44 G) hW (ci_44 (Nat.le_of_ble_eq_true rfl)) kn_5 (Nat.le_of_ble_eq_true rfl) dX12_headOf_8 ?_
  refine lv_iconst hx hb dX12_headOf_9 ki_1 ?_
  refine lv_isub hx hb dX12_headOf_10 ?_
  refine lv_topi (fun x6_11 ex6_11 => ?_)
  replace h := h x6_11 ex6_11
  refine lv_istore (lv' := [(6, .int x6_11), (5, .int (0 : Int32)), (0, .ref (ad G 10 0)), (1, .int x1), (2, .int x2), (3, .int x3), (4, .int x4)]) hx hb dX12_headOf_11 hl (by decide) rfl (fun ls hl => ?_)
  obtain ⟨n13, h⟩ := h
  exact w13 n13 _ h H locs ls hW hS (lv_sub hl [2, 3, 4, 5, 6, 1, 0] rfl)
