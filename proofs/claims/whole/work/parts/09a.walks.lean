abbrev rm_X0_valueOf : Room := { frames := 0, cells := 0, slots := 0, locals := 0 }
set_option maxHeartbeats 4000000 in
set_option maxRecDepth 100000 in
theorem c_X0_valueOf (l : Launch) {G : Gn} {M : Mem} {w : Nat} {x0 : Int32} {P : Int32 → Mem → Prop} (hi_w : w < 3) : MQi l yX0_valueOf cX0_valueOf 3 (some .int) rm_X0_valueOf [.int x0, .ref (ad G 13 w)] G M (s_X0_valueOf w M x0 P) P := by
  refine m_enter (by decide +kernel) (Nat.le_of_ble_eq_true rfl) ?_
  intro p e s m below meth c ls H locs S hret hlocks hname hKX hbs hW hS hl h
  obtain ⟨AV, hAV⟩ : ∃ z : Array Value, z = ([.int x0, .ref (ad G 13 w)] : List Value).toArray := ⟨_, rfl⟩
  rw [← hAV] at S ⊢
  replace S : CallFix p m c cX0_valueOf 3 s AV lw_G "MilkDesk$Act" := S
  have hK := hKX.1
  have hx := S.1
  have hb := S.2.1
  have hml := S.2.2.1
  have hown := S.2.2.2.1
  have hts := S.2.2.2.2
  replace hl : lv_has ls 3 [(0, .int x0), (1, .ref (ad G 13 w))] := hl
  unfold s_X0_valueOf at h
  refine lv_iload_n hx hb dX0_valueOf_0 rfl (lv_at hl 0 rfl) ?_
  refine lv_sipush hx hb dX0_valueOf_1 ks_10000 ?_
  refine lv_isub hx hb dX0_valueOf_4 ?_
  refine lv_topi (fun x2_5 ex2_5 => ?_)
  replace h := h x2_5 ex2_5
  refine lv_istore_n (lv' := [(2, .int x2_5), (0, .int x0), (1, .ref (ad G 13 w))]) hx hb dX0_valueOf_5 rfl hl (by decide) rfl (fun ls hl => ?_)
  refine lv_iload_n hx hb dX0_valueOf_6 rfl (lv_at hl 0 rfl) ?_
  refine lv_if_lt (tgt := 22) hx hb dX0_valueOf_7 (by decide) (fun c7 => ?_) (fun c7 => ?_)
  · replace h := h.1 c7
    refine lv_iload_n hx hb dX0_valueOf_22 rfl (lv_at hl 1 rfl) ?_
    exact m_iret S hret hlocks hKX hW hbs hS rfl h dX0_valueOf_23
  · replace h := h.2 c7
    refine lv_iload_n hx hb dX0_valueOf_10 rfl (lv_at hl 0 rfl) ?_
    refine lv_aload_n hx hb dX0_valueOf_11 rfl (lv_at hl 2 rfl) ?_
    refine m_alen S hK (ar_13 G) hW (ci_13 hi_w) al_10 dX0_valueOf_12 ?_
    refine lv_icmp_ge (tgt := 22) hx hb dX0_valueOf_13 (by decide) (fun c13 => ?_) (fun c13 => ?_)
    · replace h := h.1 c13
      refine lv_iload_n hx hb dX0_valueOf_22 rfl (lv_at hl 1 rfl) ?_
      exact m_iret S hret hlocks hKX hW hbs hS rfl h dX0_valueOf_23
    · replace h := h.2 c13
      refine lv_aload_n hx hb dX0_valueOf_16 rfl (lv_at hl 2 rfl) ?_
      refine lv_iload_n hx hb dX0_valueOf_17 rfl (lv_at hl 0 rfl) ?_
      obtain ⟨hb18, h⟩ := h
      refine m_ald S hK (ar_13 G) hW (ci_13 hi_w) hb18 dX0_valueOf_18 ?_
      refine lv_goto (tgt := 23) hx hb dX0_valueOf_19 (by decide) ?_
      exact m_iret S hret hlocks hKX hW hbs hS rfl h dX0_valueOf_23
abbrev rm_X0_joined : Room := { frames := 0, cells := 0, slots := 0, locals := 0 }
set_option maxHeartbeats 4000000 in
set_option maxRecDepth 100000 in
theorem c_X0_joined (l : Launch) {G : Gn} {M : Mem} {x0 : Int32} {x1 : Int32} {x2 : Int32} {P : Int32 → Mem → Prop} : MQi l yX0_joined cX0_joined 3 (some .int) rm_X0_joined [.int x0, .int x1, .int x2] G M (s_X0_joined M x0 x1 x2 P) P := by
  refine m_enter (by decide +kernel) (Nat.le_of_ble_eq_true rfl) ?_
  intro p e s m below meth c ls H locs S hret hlocks hname hKX hbs hW hS hl h
  obtain ⟨AV, hAV⟩ : ∃ z : Array Value, z = ([.int x0, .int x1, .int x2] : List Value).toArray := ⟨_, rfl⟩
  rw [← hAV] at S ⊢
  replace S : CallFix p m c cX0_joined 3 s AV lw_G "MilkDesk$Act" := S
  have hK := hKX.1
  have hx := S.1
  have hb := S.2.1
  have hml := S.2.2.1
  have hown := S.2.2.2.1
  have hts := S.2.2.2.2
  replace hl : lv_has ls 3 [(0, .int x0), (1, .int x1), (2, .int x2)] := hl
  unfold s_X0_joined at h
  refine lv_iload_n hx hb dX0_joined_0 rfl (lv_at hl 0 rfl) ?_
  by_cases c1_0 : x0 = (38 : Int32)
  · replace h := h.1 c1_0
    rw [c1_0]
    refine lv_lookup (off := 100) (tgt := 101) hx hb dX0_joined_1 (by decide +kernel) (by decide +kernel) (by decide) ?_
    refine lv_iload_n hx hb dX0_joined_101 rfl (lv_at hl 1 rfl) ?_
    refine lv_iload_n hx hb dX0_joined_102 rfl (lv_at hl 2 rfl) ?_
    refine lv_iand hx hb dX0_joined_103 ?_
    exact m_iret S hret hlocks hKX hW hbs hS rfl h dX0_joined_104
  · replace h := h.2
    by_cases c1_1 : x0 = (43 : Int32)
    · replace h := h.1 c1_1
      rw [c1_1]
      refine lv_lookup (off := 59) (tgt := 60) hx hb dX0_joined_1 (by decide +kernel) (by decide +kernel) (by decide) ?_
      refine lv_iload_n hx hb dX0_joined_60 rfl (lv_at hl 1 rfl) ?_
      refine lv_iload_n hx hb dX0_joined_61 rfl (lv_at hl 2 rfl) ?_
      refine lv_iadd hx hb dX0_joined_62 ?_
      exact m_iret S hret hlocks hKX hW hbs hS rfl h dX0_joined_63
    · replace h := h.2
      by_cases c1_2 : x0 = (45 : Int32)
      · replace h := h.1 c1_2
        rw [c1_2]
        refine lv_lookup (off := 63) (tgt := 64) hx hb dX0_joined_1 (by decide +kernel) (by decide +kernel) (by decide) ?_
        refine lv_iload_n hx hb dX0_joined_64 rfl (lv_at hl 1 rfl) ?_
        refine lv_iload_n hx hb dX0_joined_65 rfl (lv_at hl 2 rfl) ?_
        refine lv_isub hx hb dX0_joined_66 ?_
        exact m_iret S hret hlocks hKX hW hbs hS rfl h dX0_joined_67
      · replace h := h.2
        by_cases c1_3 : x0 = (60 : Int32)
        · replace h := h.1 c1_3
          rw [c1_3]
          refine lv_lookup (off := 67) (tgt := 68) hx hb dX0_joined_1 (by decide +kernel) (by decide +kernel) (by decide) ?_
          refine lv_iload_n hx hb dX0_joined_68 rfl (lv_at hl 1 rfl) ?_
          refine lv_iload_n hx hb dX0_joined_69 rfl (lv_at hl 2 rfl) ?_
          refine lv_icmp_ge (tgt := 77) hx hb dX0_joined_70 (by decide) (fun c70 => ?_) (fun c70 => ?_)
          · replace h := h.1 c70
            refine lv_iconst hx hb dX0_joined_77 ki_0 ?_
            exact m_iret S hret hlocks hKX hW hbs hS rfl h dX0_joined_78
          · replace h := h.2 c70
            refine lv_iconst hx hb dX0_joined_73 ki_1 ?_
            refine lv_goto (tgt := 78) hx hb dX0_joined_74 (by decide) ?_
            exact m_iret S hret hlocks hKX hW hbs hS rfl h dX0_joined_78
        · replace h := h.2
          by_cases c1_4 : x0 = (61 : Int32)
          · replace h := h.1 c1_4
            rw [c1_4]
            refine lv_lookup (off := 89) (tgt := 90) hx hb dX0_joined_1 (by decide +kernel) (by decide +kernel) (by decide) ?_
            refine lv_iload_n hx hb dX0_joined_90 rfl (lv_at hl 1 rfl) ?_
            refine lv_iload_n hx hb dX0_joined_91 rfl (lv_at hl 2 rfl) ?_
            refine lv_icmp_ne (tgt := 99) hx hb dX0_joined_92 (by decide) (fun c92 => ?_) (fun c92 => ?_)
            · replace h := h.1 c92
              refine lv_iconst hx hb dX0_joined_99 ki_0 ?_
              exact m_iret S hret hlocks hKX hW hbs hS rfl h dX0_joined_100
            · replace h := h.2 c92
              refine lv_iconst hx hb dX0_joined_95 ki_1 ?_
              refine lv_goto (tgt := 100) hx hb dX0_joined_96 (by decide) ?_
              exact m_iret S hret hlocks hKX hW hbs hS rfl h dX0_joined_100
          · replace h := h.2
            by_cases c1_5 : x0 = (62 : Int32)
            · replace h := h.1 c1_5
              rw [c1_5]
              refine lv_lookup (off := 78) (tgt := 79) hx hb dX0_joined_1 (by decide +kernel) (by decide +kernel) (by decide) ?_
              refine lv_iload_n hx hb dX0_joined_79 rfl (lv_at hl 1 rfl) ?_
              refine lv_iload_n hx hb dX0_joined_80 rfl (lv_at hl 2 rfl) ?_
              refine lv_icmp_le (tgt := 88) hx hb dX0_joined_81 (by decide) (fun c81 => ?_) (fun c81 => ?_)
              · replace h := h.1 c81
                refine lv_iconst hx hb dX0_joined_88 ki_0 ?_
                exact m_iret S hret hlocks hKX hW hbs hS rfl h dX0_joined_89
              · replace h := h.2 c81
                refine lv_iconst hx hb dX0_joined_84 ki_1 ?_
                refine lv_goto (tgt := 89) hx hb dX0_joined_85 (by decide) ?_
                exact m_iret S hret hlocks hKX hW hbs hS rfl h dX0_joined_89
            · replace h := h.2
              replace h := h c1_0 c1_1 c1_2 c1_3 c1_4 c1_5
              refine lv_lookup (off := 104) (tgt := 105) hx hb dX0_joined_1 (by decide +kernel) ((lv_osw c1_0 (by decide +kernel)).trans ((lv_osw c1_1 (by decide +kernel)).trans ((lv_osw c1_2 (by decide +kernel)).trans ((lv_osw c1_3 (by decide +kernel)).trans ((lv_osw c1_4 (by decide +kernel)).trans ((lv_osw c1_5 (by decide +kernel)).trans (rfl))))))) (by decide) ?_
              refine lv_iload_n hx hb dX0_joined_105 rfl (lv_at hl 1 rfl) ?_
              refine lv_iload_n hx hb dX0_joined_106 rfl (lv_at hl 2 rfl) ?_
              refine lv_ior hx hb dX0_joined_107 ?_
              exact m_iret S hret hlocks hKX hW hbs hS rfl h dX0_joined_108
abbrev rm_X0_isMet : Room := { frames := 1, cells := 0, slots := 0, locals := 22 }
set_option maxHeartbeats 4000000 in
set_option maxRecDepth 100000 in
theorem c_X0_isMet (l : Launch) {G : Gn} {M : Mem} {ac w : Nat} {P : Int32 → Mem → Prop} (hi_ac : ac < M.2.2 2 0 0) (hi_w : w < 3) : MQi l yX0_isMet cX0_isMet 6 (some .boolean) rm_X0_isMet [.ref (M.2.2 0 0 ac), .ref (ad G 13 w), .ref (ad G 14 w)] G M (s_X0_isMet ac w M P) P := by
  refine m_enter (by decide +kernel) (Nat.le_of_ble_eq_true rfl) ?_
  intro p e s m below meth c ls H locs S hret hlocks hname hKX hbs hW hS hl h
  obtain ⟨AV, hAV⟩ : ∃ z : Array Value, z = ([.ref (M.2.2 0 0 ac), .ref (ad G 13 w), .ref (ad G 14 w)] : List Value).toArray := ⟨_, rfl⟩
  rw [← hAV] at S ⊢
  replace S : CallFix p m c cX0_isMet 6 s AV lw_G "MilkDesk$Act" := S
  have hK := hKX.1
  have hx := S.1
  have hb := S.2.1
  have hml := S.2.2.1
  have hown := S.2.2.2.1
  have hts := S.2.2.2.2
  replace hl : lv_has ls 6 [(0, .ref (M.2.2 0 0 ac)), (1, .ref (ad G 13 w)), (2, .ref (ad G 14 w))] := hl
  have w5 : ∀ (n : Nat) (a : Mem × Int32 × Int32), Lz (fun (K5 : Mem × Int32 × Int32 → Prop) (a : Mem × Int32 × Int32) => s_X0_isMet_5 ac w P K5 a.1 a.2.1 a.2.2) n a → ∀ (H : Heap) (locs : List Loc) (ls : Array Slot) (hi_ac : ac < a.1.2.2 2 0 0), WPm G a.1 H → va_S (fun q => bs G ≤ q) s.heap H locs → lv_has ls 6 [(0, .ref (a.1.2.2 0 0 ac)), (1, .ref (ad G 13 w)), (2, .ref (ad G 14 w)), (3, .int a.2.1), (4, .int a.2.2)] → W p l e rm_X0_isMet s m AV below meth c H locs 0 0 (MQ below (va_Qi P (WS G) (fun q => bs G ≤ q)) AV s 0 0 (fun q => bs G ≤ q)) (F0 m 5 ls []) := by
    refine Lz_walk ?_
    rintro K5 kk5 ⟨M, x3, x4⟩ h H locs ls hi_ac hW hS hl
    replace hi_ac : ac < M.2.2 2 0 0 := hi_ac
    replace h : s_X0_isMet_5 ac w P K5 M x3 x4 := h
    replace hW : WPm G M H := hW
    replace hl : lv_has ls 6 [(0, .ref (M.2.2 0 0 ac)), (1, .ref (ad G 13 w)), (2, .ref (ad G 14 w)), (3, .int x3), (4, .int x4)] := hl
    have b77 : ∀ (M : Mem) (hi_ac : ac < M.2.2 2 0 0) (x3 : Int32) (x4 : Int32) (x5 : Int32) (H : Heap) (locs : List Loc) (ls : Array Slot), WPm G M H → va_S (fun q => bs G ≤ q) s.heap H locs → lv_has ls 6 [(0, .ref (M.2.2 0 0 ac)), (1, .ref (ad G 13 w)), (2, .ref (ad G 14 w)), (3, .int x3), (4, .int x4), (5, .int x5)] → s_X0_isMet_77 ac w P K5 M x3 x4 x5 → W p l e rm_X0_isMet s m AV below meth c H locs 0 0 (MQ below (va_Qi P (WS G) (fun q => bs G ≤ q)) AV s 0 0 (fun q => bs G ≤ q)) (F0 m 77 ls []) := by
      intro M hi_ac x3 x4 x5 H locs ls hW hS hl h
      unfold s_X0_isMet_77 at h
      refine lv_iload_n hx hb dX0_isMet_77 rfl (lv_at hl 3 rfl) ?_
      refine lv_iconst hx hb dX0_isMet_78 ki_2 ?_
      refine lv_icmp_lt (tgt := 104) hx hb dX0_isMet_79 (by decide) (fun c79 => ?_) (fun c79 => ?_)
      · replace h := h.1 c79
        obtain ⟨x4_104, ex4_104⟩ : ∃ z : Int32, z = x4 + (1 : Int32) := ⟨_, rfl⟩
        replace h := h x4_104 ex4_104
        refine lv_iinc (v := x4_104) (lv' := [(4, .int x4_104), (0, .ref (M.2.2 0 0 ac)), (1, .ref (ad G 13 w)), (2, .ref (ad G 14 w)), (3, .int x3), (5, .int x5)]) hx hb dX0_isMet_104 hl (k := 4) rfl (by rw [ex4_104, ki_1]) (by decide) rfl (fun ls hl => ?_)
        refine lv_goto (tgt := 5) hx hb dX0_isMet_107 (by decide) ?_
        exact kk5 _ h H locs ls hi_ac hW hS (lv_sub hl [1, 2, 3, 4, 0] rfl)
      · replace h := h.2 c79
        obtain ⟨x3_82, ex3_82⟩ : ∃ z : Int32, z = x3 + (-1 : Int32) := ⟨_, rfl⟩
        replace h := h x3_82 ex3_82
        refine lv_iinc (v := x3_82) (lv' := [(3, .int x3_82), (0, .ref (M.2.2 0 0 ac)), (1, .ref (ad G 13 w)), (2, .ref (ad G 14 w)), (4, .int x4), (5, .int x5)]) hx hb dX0_isMet_82 hl (k := 3) rfl (by rw [ex3_82, ki_m1]) (by decide) rfl (fun ls hl => ?_)
        refine lv_aload_n hx hb dX0_isMet_85 rfl (lv_at hl 3 rfl) ?_
        refine lv_iload_n hx hb dX0_isMet_86 rfl (lv_at hl 0 rfl) ?_
        refine lv_iconst hx hb dX0_isMet_87 ki_1 ?_
        refine lv_isub hx hb dX0_isMet_88 ?_
        refine lv_iload hx hb dX0_isMet_89 (lv_at hl 5 rfl) ?_
        refine lv_ineg hx hb dX0_isMet_91 ?_
        refine lv_aload_n hx hb dX0_isMet_92 rfl (lv_at hl 3 rfl) ?_
        refine lv_iload_n hx hb dX0_isMet_93 rfl (lv_at hl 0 rfl) ?_
        refine lv_iconst hx hb dX0_isMet_94 ki_1 ?_
        refine lv_isub hx hb dX0_isMet_95 ?_
        obtain ⟨hb96, h⟩ := h
        refine m_ald S hK (ar_14 G) hW (ci_14 hi_w) hb96 dX0_isMet_96 ?_
        refine lv_aload_n hx hb dX0_isMet_97 rfl (lv_at hl 3 rfl) ?_
        refine lv_iload_n hx hb dX0_isMet_98 rfl (lv_at hl 0 rfl) ?_
        obtain ⟨hb99, h⟩ := h
        refine m_ald S hK (ar_14 G) hW (ci_14 hi_w) hb99 dX0_isMet_99 ?_
        refine m_ci0 (m_rS S hKX hW (m_szH hbs hS) (c_X0_joined l ) h lk_X0_42 rfl hl.1 rfl ⟨Nat.le_of_ble_eq_true rfl, Nat.le_of_ble_eq_true rfl⟩ (Nat.le_of_ble_eq_true rfl) ⟨Nat.le_of_ble_eq_true rfl, Nat.le_of_ble_eq_true rfl⟩ dX0_isMet_100) hS rfl rfl (fun rr100 Mm100 H locs h hW hS => ?_)
        obtain ⟨hk100, h⟩ := h
        replace hi_ac : ac < Mm100.2.2 2 0 0 := by rw [hk100]; exact hi_ac
        replace hl : lv_has ls 6 [(3, .int x3_82), (0, .ref (Mm100.2.2 0 0 ac)), (1, .ref (ad G 13 w)), (2, .ref (ad G 14 w)), (4, .int x4), (5, .int x5)] := by rw [hk100]; exact hl
        obtain ⟨hb103, h⟩ := h
        refine m_ast S hK (ar_14 G) hW hS (ci_14 hi_w) hb103 dX0_isMet_103 (fun Mm103 eMm103 H locs hW hS => ?_)
        replace h := h Mm103 eMm103
        have hk103 : Mm103.2.2 = Mm100.2.2 := by rw [eMm103]; rfl
        replace hi_ac : ac < Mm103.2.2 2 0 0 := by rw [hk103]; exact hi_ac
        replace hl : lv_has ls 6 [(3, .int x3_82), (0, .ref (Mm103.2.2 0 0 ac)), (1, .ref (ad G 13 w)), (2, .ref (ad G 14 w)), (4, .int x4), (5, .int x5)] := by rw [hk103]; exact hl
        obtain ⟨x4_104, ex4_104⟩ : ∃ z : Int32, z = x4 + (1 : Int32) := ⟨_, rfl⟩
        replace h := h x4_104 ex4_104
        refine lv_iinc (v := x4_104) (lv' := [(4, .int x4_104), (3, .int x3_82), (0, .ref (Mm103.2.2 0 0 ac)), (1, .ref (ad G 13 w)), (2, .ref (ad G 14 w)), (5, .int x5)]) hx hb dX0_isMet_104 hl (k := 4) rfl (by rw [ex4_104, ki_1]) (by decide) rfl (fun ls hl => ?_)
        refine lv_goto (tgt := 5) hx hb dX0_isMet_107 (by decide) ?_
        exact kk5 _ h H locs ls hi_ac hW hS (lv_sub hl [2, 3, 4, 1, 0] rfl)
    have b50 : ∀ (M : Mem) (hi_ac : ac < M.2.2 2 0 0) (x3 : Int32) (x4 : Int32) (x5 : Int32) (H : Heap) (locs : List Loc) (ls : Array Slot), WPm G M H → va_S (fun q => bs G ≤ q) s.heap H locs → lv_has ls 6 [(0, .ref (M.2.2 0 0 ac)), (1, .ref (ad G 13 w)), (2, .ref (ad G 14 w)), (3, .int x3), (4, .int x4), (5, .int x5)] → s_X0_isMet_50 ac w P K5 M x3 x4 x5 → W p l e rm_X0_isMet s m AV below meth c H locs 0 0 (MQ below (va_Qi P (WS G) (fun q => bs G ≤ q)) AV s 0 0 (fun q => bs G ≤ q)) (F0 m 50 ls []) := by
      intro M hi_ac x3 x4 x5 H locs ls hW hS hl h
      unfold s_X0_isMet_50 at h
      refine lv_iload hx hb dX0_isMet_50 (lv_at hl 5 rfl) ?_
      refine lv_bipush hx hb dX0_isMet_52 kb_m33 ?_
      refine lv_icmp_ne (tgt := 77) hx hb dX0_isMet_54 (by decide) (fun c54 => ?_) (fun c54 => ?_)
      · replace h := h.1 c54
        exact b77 _ hi_ac _ _ _ H locs ls hW hS (lv_sub hl [0, 1, 2, 3, 4, 5] rfl) h
      · replace h := h.2 c54
        refine lv_iload_n hx hb dX0_isMet_57 rfl (lv_at hl 3 rfl) ?_
        refine lv_iconst hx hb dX0_isMet_58 ki_1 ?_
        refine lv_icmp_lt (tgt := 77) hx hb dX0_isMet_59 (by decide) (fun c59 => ?_) (fun c59 => ?_)
        · replace h := h.1 c59
          exact b77 _ hi_ac _ _ _ H locs ls hW hS (lv_sub hl [0, 1, 2, 3, 4, 5] rfl) h
        · replace h := h.2 c59
          refine lv_aload_n hx hb dX0_isMet_62 rfl (lv_at hl 2 rfl) ?_
          refine lv_iload_n hx hb dX0_isMet_63 rfl (lv_at hl 3 rfl) ?_
          refine lv_iconst hx hb dX0_isMet_64 ki_1 ?_
          refine lv_isub hx hb dX0_isMet_65 ?_
          refine lv_iconst hx hb dX0_isMet_66 ki_1 ?_
          refine lv_aload_n hx hb dX0_isMet_67 rfl (lv_at hl 2 rfl) ?_
          refine lv_iload_n hx hb dX0_isMet_68 rfl (lv_at hl 3 rfl) ?_
          refine lv_iconst hx hb dX0_isMet_69 ki_1 ?_
          refine lv_isub hx hb dX0_isMet_70 ?_
          obtain ⟨hb71, h⟩ := h
          refine m_ald S hK (ar_14 G) hW (ci_14 hi_w) hb71 dX0_isMet_71 ?_
          refine lv_isub hx hb dX0_isMet_72 ?_
          obtain ⟨hb73, h⟩ := h
          refine m_ast S hK (ar_14 G) hW hS (ci_14 hi_w) hb73 dX0_isMet_73 (fun Mm73 eMm73 H locs hW hS => ?_)
          replace h := h Mm73 eMm73
          have hk73 : Mm73.2.2 = M.2.2 := by rw [eMm73]; rfl
          replace hi_ac : ac < Mm73.2.2 2 0 0 := by rw [hk73]; exact hi_ac
          replace hl : lv_has ls 6 [(0, .ref (Mm73.2.2 0 0 ac)), (1, .ref (ad G 13 w)), (2, .ref (ad G 14 w)), (3, .int x3), (4, .int x4), (5, .int x5)] := by rw [hk73]; exact hl
          refine lv_goto (tgt := 104) hx hb dX0_isMet_74 (by decide) ?_
          obtain ⟨x4_104, ex4_104⟩ : ∃ z : Int32, z = x4 + (1 : Int32) := ⟨_, rfl⟩
          replace h := h x4_104 ex4_104
          refine lv_iinc (v := x4_104) (lv' := [(4, .int x4_104), (0, .ref (Mm73.2.2 0 0 ac)), (1, .ref (ad G 13 w)), (2, .ref (ad G 14 w)), (3, .int x3), (5, .int x5)]) hx hb dX0_isMet_104 hl (k := 4) rfl (by rw [ex4_104, ki_1]) (by decide) rfl (fun ls hl => ?_)
          refine lv_goto (tgt := 5) hx hb dX0_isMet_107 (by decide) ?_
          exact kk5 _ h H locs ls hi_ac hW hS (lv_sub hl [1, 2, 3, 4, 0] rfl)
    unfold s_X0_isMet_5 at h
    refine lv_iload hx hb dX0_isMet_5 (lv_at hl 4 rfl) ?_
    refine lv_aload_n hx hb dX0_isMet_7 rfl (lv_at hl 0 rfl) ?_
    refine m_getactr S hK fk_X0_28 hW hi_ac dX0_isMet_8 ?_
    refine m_alenst S hK hW hi_ac dX0_isMet_11 ?_
    refine lv_icmp_ge (tgt := 110) hx hb dX0_isMet_12 (by decide) (fun c12 => ?_) (fun c12 => ?_)
    · replace h := h.1 c12
      refine lv_iload_n hx hb dX0_isMet_110 rfl (lv_at hl 3 rfl) ?_
      refine lv_iconst hx hb dX0_isMet_111 ki_1 ?_
      refine lv_icmp_ne (tgt := 126) hx hb dX0_isMet_112 (by decide) (fun c112 => ?_) (fun c112 => ?_)
      · replace h := h.1 c112
        refine lv_iconst hx hb dX0_isMet_126 ki_0 ?_
        exact m_iret S hret hlocks hKX hW hbs hS rfl h dX0_isMet_127
      · replace h := h.2 c112
        refine lv_aload_n hx hb dX0_isMet_115 rfl (lv_at hl 2 rfl) ?_
        refine lv_iconst hx hb dX0_isMet_116 ki_0 ?_
        refine m_aldk S hK (ar_14 G) hW (ci_14 hi_w) kn_0 (Nat.le_of_ble_eq_true rfl) dX0_isMet_117 ?_
        refine lv_iconst hx hb dX0_isMet_118 ki_1 ?_
        refine lv_icmp_ne (tgt := 126) hx hb dX0_isMet_119 (by decide) (fun c119 => ?_) (fun c119 => ?_)
        · replace h := h.1 c119
          refine lv_iconst hx hb dX0_isMet_126 ki_0 ?_
          exact m_iret S hret hlocks hKX hW hbs hS rfl h dX0_isMet_127
        · replace h := h.2 c119
          refine lv_iconst hx hb dX0_isMet_122 ki_1 ?_
          refine lv_goto (tgt := 127) hx hb dX0_isMet_123 (by decide) ?_
          exact m_iret S hret hlocks hKX hW hbs hS rfl h dX0_isMet_127
    · replace h := h.2 c12
      refine lv_aload_n hx hb dX0_isMet_15 rfl (lv_at hl 0 rfl) ?_
      refine m_getactr S hK fk_X0_28 hW hi_ac dX0_isMet_16 ?_
      refine lv_iload hx hb dX0_isMet_19 (lv_at hl 4 rfl) ?_
      obtain ⟨hb21, h⟩ := h
      refine m_aldst S hK hW hi_ac hb21 dX0_isMet_21 ?_
      refine lv_topi (fun x5_22 ex5_22 => ?_)
      replace h := h x5_22 ex5_22
      refine lv_istore (lv' := [(5, .int x5_22), (0, .ref (M.2.2 0 0 ac)), (1, .ref (ad G 13 w)), (2, .ref (ad G 14 w)), (3, .int x3), (4, .int x4)]) hx hb dX0_isMet_22 hl (by decide) rfl (fun ls hl => ?_)
      refine lv_iload hx hb dX0_isMet_24 (lv_at hl 0 rfl) ?_
      refine lv_if_lt (tgt := 50) hx hb dX0_isMet_26 (by decide) (fun c26 => ?_) (fun c26 => ?_)
      · replace h := h.1 c26
        exact b50 _ hi_ac _ _ _ H locs ls hW hS (lv_sub hl [1, 2, 3, 4, 5, 0] rfl) h
      · replace h := h.2 c26
        refine lv_iload_n hx hb dX0_isMet_29 rfl (lv_at hl 4 rfl) ?_
        refine lv_aload_n hx hb dX0_isMet_30 rfl (lv_at hl 3 rfl) ?_
        refine m_alen S hK (ar_14 G) hW (ci_14 hi_w) al_80 dX0_isMet_31 ?_
        refine lv_icmp_ge (tgt := 50) hx hb dX0_isMet_32 (by decide) (fun c32 => ?_) (fun c32 => ?_)
        · replace h := h.1 c32
          exact b50 _ hi_ac _ _ _ H locs ls hW hS (lv_sub hl [1, 2, 3, 4, 5, 0] rfl) h
        · replace h := h.2 c32
          refine lv_aload_n hx hb dX0_isMet_35 rfl (lv_at hl 3 rfl) ?_
          refine lv_iload_n hx hb dX0_isMet_36 rfl (lv_at hl 4 rfl) ?_
          refine lv_iload hx hb dX0_isMet_37 (lv_at hl 0 rfl) ?_
          refine lv_aload_n hx hb dX0_isMet_39 rfl (lv_at hl 2 rfl) ?_
          refine m_ci0 (m_rS S hKX hW (m_szH hbs hS) (c_X0_valueOf l hi_w) h lk_X0_38 rfl hl.1 rfl ⟨Nat.le_of_ble_eq_true rfl, Nat.le_of_ble_eq_true rfl⟩ (Nat.le_of_ble_eq_true rfl) ⟨Nat.le_of_ble_eq_true rfl, Nat.le_of_ble_eq_true rfl⟩ dX0_isMet_40) hS rfl rfl (fun rr40 Mm40 H locs h hW hS => ?_)
          obtain ⟨hk40, h⟩ := h
          replace hi_ac : ac < Mm40.2.2 2 0 0 := by rw [hk40]; exact hi_ac
          replace hl : lv_has ls 6 [(5, .int x5_22), (0, .ref (Mm40.2.2 0 0 ac)), (1, .ref (ad G 13 w)), (2, .ref (ad G 14 w)), (3, .int x3), (4, .int x4)] := by rw [hk40]; exact hl
          obtain ⟨hb43, h⟩ := h
          refine m_ast S hK (ar_14 G) hW hS (ci_14 hi_w) hb43 dX0_isMet_43 (fun Mm43 eMm43 H locs hW hS => ?_)
          replace h := h Mm43 eMm43
          have hk43 : Mm43.2.2 = Mm40.2.2 := by rw [eMm43]; rfl
          replace hi_ac : ac < Mm43.2.2 2 0 0 := by rw [hk43]; exact hi_ac
          replace hl : lv_has ls 6 [(5, .int x5_22), (0, .ref (Mm43.2.2 0 0 ac)), (1, .ref (ad G 13 w)), (2, .ref (ad G 14 w)), (3, .int x3), (4, .int x4)] := by rw [hk43]; exact hl
          obtain ⟨x3_44, ex3_44⟩ : ∃ z : Int32, z = x3 + (1 : Int32) := ⟨_, rfl⟩
          replace h := h x3_44 ex3_44
          refine lv_iinc (v := x3_44) (lv' := [(3, .int x3_44), (5, .int x5_22), (0, .ref (Mm43.2.2 0 0 ac)), (1, .ref (ad G 13 w)), (2, .ref (ad G 14 w)), (4, .int x4)]) hx hb dX0_isMet_44 hl (k := 4) rfl (by rw [ex3_44, ki_1]) (by decide) rfl (fun ls hl => ?_)
          refine lv_goto (tgt := 104) hx hb dX0_isMet_47 (by decide) ?_
          obtain ⟨x4_104, ex4_104⟩ : ∃ z : Int32, z = x4 + (1 : Int32) := ⟨_, rfl⟩
          replace h := h x4_104 ex4_104
          refine lv_iinc (v := x4_104) (lv' := [(4, .int x4_104), (3, .int x3_44), (5, .int x5_22), (0, .ref (Mm43.2.2 0 0 ac)), (1, .ref (ad G 13 w)), (2, .ref (ad G 14 w))]) hx hb dX0_isMet_104 hl (k := 5) rfl (by rw [ex4_104, ki_1]) (by decide) rfl (fun ls hl => ?_)
          refine lv_goto (tgt := 5) hx hb dX0_isMet_107 (by decide) ?_
          exact kk5 _ h H locs ls hi_ac hW hS (lv_sub hl [3, 4, 5, 1, 0] rfl)
  unfold s_X0_isMet at h
  refine lv_iconst hx hb dX0_isMet_0 ki_0 ?_
  refine lv_istore_n (lv' := [(3, .int (0 : Int32)), (0, .ref (M.2.2 0 0 ac)), (1, .ref (ad G 13 w)), (2, .ref (ad G 14 w))]) hx hb dX0_isMet_1 rfl hl (by decide) rfl (fun ls hl => ?_)
  refine lv_iconst hx hb dX0_isMet_2 ki_0 ?_
  refine lv_istore (lv' := [(4, .int (0 : Int32)), (3, .int (0 : Int32)), (0, .ref (M.2.2 0 0 ac)), (1, .ref (ad G 13 w)), (2, .ref (ad G 14 w))]) hx hb dX0_isMet_3 hl (by decide) rfl (fun ls hl => ?_)
  obtain ⟨n5, h⟩ := h
  exact w5 n5 _ h H locs ls hi_ac hW hS (lv_sub hl [2, 3, 4, 1, 0] rfl)
abbrev rm_X1_has : Room := { frames := 0, cells := 0, slots := 0, locals := 0 }
set_option maxHeartbeats 4000000 in
set_option maxRecDepth 100000 in
theorem c_X1_has (l : Launch) {G : Gn} {M : Mem} {w : Nat} {x1 : Int32} {P : Int32 → Mem → Prop} (hi_w : w < 3) : MQi l yX1_has cX1_has 2 (some .boolean) rm_X1_has [.ref (ad G 5 w), .int x1] G M (s_X1_has w M x1 P) P := by
  refine m_enter (by decide +kernel) (Nat.le_of_ble_eq_true rfl) ?_
  intro p e s m below meth c ls H locs S hret hlocks hname hKX hbs hW hS hl h
  obtain ⟨AV, hAV⟩ : ∃ z : Array Value, z = ([.ref (ad G 5 w), .int x1] : List Value).toArray := ⟨_, rfl⟩
  rw [← hAV] at S ⊢
  replace S : CallFix p m c cX1_has 2 s AV lw_G "MilkDesk$ActBook" := S
  have hK := hKX.1
  have hx := S.1
  have hb := S.2.1
  have hml := S.2.2.1
  have hown := S.2.2.2.1
  have hts := S.2.2.2.2
  replace hl : lv_has ls 2 [(0, .ref (ad G 5 w)), (1, .int x1)] := hl
  unfold s_X1_has at h
  refine lv_iload_n hx hb dX1_has_0 rfl (lv_at hl 1 rfl) ?_
  refine lv_if_lt (tgt := 16) hx hb dX1_has_1 (by decide) (fun c1 => ?_) (fun c1 => ?_)
  · replace h := h.1 c1
    refine lv_iconst hx hb dX1_has_16 ki_0 ?_
    exact m_iret S hret hlocks hKX hW hbs hS rfl h dX1_has_17
  · replace h := h.2 c1
    refine lv_iload_n hx hb dX1_has_4 rfl (lv_at hl 1 rfl) ?_
    refine lv_aload_n hx hb dX1_has_5 rfl (lv_at hl 0 rfl) ?_
    refine m_geti S hK fk_X1_21 (gi_5_0 G) hW (ci_5 hi_w) dX1_has_6 ?_
    refine lv_icmp_ge (tgt := 16) hx hb dX1_has_9 (by decide) (fun c9 => ?_) (fun c9 => ?_)
    · replace h := h.1 c9
      refine lv_iconst hx hb dX1_has_16 ki_0 ?_
      exact m_iret S hret hlocks hKX hW hbs hS rfl h dX1_has_17
    · replace h := h.2 c9
      refine lv_iconst hx hb dX1_has_12 ki_1 ?_
      refine lv_goto (tgt := 17) hx hb dX1_has_13 (by decide) ?_
      exact m_iret S hret hlocks hKX hW hbs hS rfl h dX1_has_17
abbrev rm_X1_tell : Room := { frames := 0, cells := 0, slots := 0, locals := 0 }
set_option maxHeartbeats 4000000 in
set_option maxRecDepth 100000 in
theorem c_X1_tell (l : Launch) {G : Gn} {M : Mem} {w ac : Nat} {P : Int32 → Mem → Prop} (hi_w : w < 3) (hi_ac : ac < M.2.2 2 0 0) : MQi l yX1_tell cX1_tell 2 (some .int) rm_X1_tell [.ref (ad G 5 w), .ref (M.2.2 0 0 ac)] G M (s_X1_tell w ac M P) P := by
  refine m_enter (by decide +kernel) (Nat.le_of_ble_eq_true rfl) ?_
  intro p e s m below meth c ls H locs S hret hlocks hname hKX hbs hW hS hl h
  obtain ⟨AV, hAV⟩ : ∃ z : Array Value, z = ([.ref (ad G 5 w), .ref (M.2.2 0 0 ac)] : List Value).toArray := ⟨_, rfl⟩
  rw [← hAV] at S ⊢
  replace S : CallFix p m c cX1_tell 2 s AV lw_G "MilkDesk$ActBook" := S
  have hK := hKX.1
  have hx := S.1
  have hb := S.2.1
  have hml := S.2.2.1
  have hown := S.2.2.2.1
  have hts := S.2.2.2.2
  replace hl : lv_has ls 2 [(0, .ref (ad G 5 w)), (1, .ref (M.2.2 0 0 ac))] := hl
  unfold s_X1_tell at h
  refine lv_aload_n hx hb dX1_tell_0 rfl (lv_at hl 0 rfl) ?_
  refine m_getr S hK fk_X1_11 (gr_5_1 G w) hW (ci_5 hi_w) dX1_tell_1 ?_
  refine lv_aload_n hx hb dX1_tell_4 rfl (lv_at hl 0 rfl) ?_
  refine m_geti S hK fk_X1_21 (gi_5_0 G) hW (ci_5 hi_w) dX1_tell_5 ?_
  refine lv_aload_n hx hb dX1_tell_8 rfl (lv_at hl 1 rfl) ?_
  obtain ⟨hb9, h⟩ := h
  refine m_aastA S hK hW hS hi_w hi_ac hb9 dX1_tell_9 (fun Mm9 eMm9 H locs hW hS => ?_)
  replace h := h Mm9 eMm9
  refine lv_aload_n hx hb dX1_tell_10 rfl (lv_at hl 0 rfl) ?_
  refine m_getr S hK fk_X1_17 (gr_5_2 G w) hW (ci_5 hi_w) dX1_tell_11 ?_
  refine lv_aload_n hx hb dX1_tell_14 rfl (lv_at hl 0 rfl) ?_
  refine m_geti S hK fk_X1_21 (gi_5_0 G) hW (ci_5 hi_w) dX1_tell_15 ?_
  refine lv_sipush hx hb dX1_tell_18 ks_401 ?_
  obtain ⟨hb21, h⟩ := h
  refine m_ast S hK (ar_35 G) hW hS (ci_35 hi_w) hb21 dX1_tell_21 (fun Mm21 eMm21 H locs hW hS => ?_)
  replace h := h Mm21 eMm21
  replace hl : lv_has ls 2 [(0, .ref (ad G 5 w))] := lv_sub hl [0] rfl
  refine lv_aload_n hx hb dX1_tell_22 rfl (lv_at hl 0 rfl) ?_
  refine lv_dup hx hb dX1_tell_23 rfl ?_
  refine m_geti S hK fk_X1_21 (gi_5_0 G) hW (ci_5 hi_w) dX1_tell_24 ?_
  refine lv_iconst hx hb dX1_tell_27 ki_1 ?_
  refine lv_iadd hx hb dX1_tell_28 ?_
  refine m_put S hK fk_X1_21 tyX1_ok nmX1 rfl pf_X1_0 (pv_5_0 G) hW hS (ci_5 hi_w) rfl rfl dX1_tell_29 (fun Mm29 eMm29 H locs hW hS => ?_)
  replace h := h Mm29 eMm29
  refine lv_aload_n hx hb dX1_tell_32 rfl (lv_at hl 0 rfl) ?_
  refine m_geti S hK fk_X1_21 (gi_5_0 G) hW (ci_5 hi_w) dX1_tell_33 ?_
  refine lv_iconst hx hb dX1_tell_36 ki_1 ?_
  refine lv_isub hx hb dX1_tell_37 ?_
  exact m_iret S hret hlocks hKX hW hbs hS rfl h dX1_tell_38
abbrev rm_X1_meets : Room := { frames := 2, cells := 0, slots := 0, locals := 47 }
set_option maxHeartbeats 4000000 in
set_option maxRecDepth 100000 in
theorem c_X1_meets (l : Launch) {G : Gn} {M : Mem} {w : Nat} {x1 : Int32} {P : Int32 → Mem → Prop} (hi_w : w < 3) : MQi l yX1_meets cX1_meets 5 (some .boolean) rm_X1_meets [.ref (ad G 5 w), .int x1, .ref (ad G 13 w), .ref (ad G 14 w)] G M (s_X1_meets w M x1 P) P := by
  refine m_enter (by decide +kernel) (Nat.le_of_ble_eq_true rfl) ?_
  intro p e s m below meth c ls H locs S hret hlocks hname hKX hbs hW hS hl h
  obtain ⟨AV, hAV⟩ : ∃ z : Array Value, z = ([.ref (ad G 5 w), .int x1, .ref (ad G 13 w), .ref (ad G 14 w)] : List Value).toArray := ⟨_, rfl⟩
  rw [← hAV] at S ⊢
  replace S : CallFix p m c cX1_meets 5 s AV lw_G "MilkDesk$ActBook" := S
  have hK := hKX.1
  have hx := S.1
  have hb := S.2.1
  have hml := S.2.2.1
  have hown := S.2.2.2.1
  have hts := S.2.2.2.2
  replace hl : lv_has ls 5 [(0, .ref (ad G 5 w)), (1, .int x1), (2, .ref (ad G 13 w)), (3, .ref (ad G 14 w))] := hl
  have b18 : ∀ (M : Mem) (H : Heap) (locs : List Loc) (ls : Array Slot), WPm G M H → va_S (fun q => bs G ≤ q) s.heap H locs → lv_has ls 5 [(2, .ref (ad G 13 w)), (3, .ref (ad G 14 w))] → s_X1_meets_18 w P M  → W p l e rm_X1_meets s m AV below meth c H locs 0 0 (MQ below (va_Qi P (WS G) (fun q => bs G ≤ q)) AV s 0 0 (fun q => bs G ≤ q)) (F0 m 18 ls [.null]) := by
    intro M H locs ls hW hS hl h
    unfold s_X1_meets_18 at h
    refine lv_astoreN (lv' := [(4, .null), (2, .ref (ad G 13 w)), (3, .ref (ad G 14 w))]) hx hb dX1_meets_18 hl (by decide) rfl (fun ls hl => ?_)
    refine lv_aloadN hx hb dX1_meets_20 (lv_at hl 0 rfl) ?_
    refine lv_ifnullN (tgt := 39) hx hb dX1_meets_22 (by decide) ?_
    refine lv_iconst hx hb dX1_meets_39 ki_0 ?_
    exact m_iret S hret hlocks hKX hW hbs hS rfl h dX1_meets_40
  have b18b : ∀ (a13 : Nat) (M : Mem) (hi_a13 : a13 < M.2.2 2 0 0) (H : Heap) (locs : List Loc) (ls : Array Slot), WPm G M H → va_S (fun q => bs G ≤ q) s.heap H locs → lv_has ls 5 [(2, .ref (ad G 13 w)), (3, .ref (ad G 14 w))] → s_X1_meets_18b w a13 P M  → W p l e rm_X1_meets s m AV below meth c H locs 0 0 (MQ below (va_Qi P (WS G) (fun q => bs G ≤ q)) AV s 0 0 (fun q => bs G ≤ q)) (F0 m 18 ls [.ref (M.2.2 0 0 a13)]) := by
    intro a13 M hi_a13 H locs ls hW hS hl h
    unfold s_X1_meets_18b at h
    refine lv_astore (lv' := [(4, .ref (M.2.2 0 0 a13)), (2, .ref (ad G 13 w)), (3, .ref (ad G 14 w))]) hx hb dX1_meets_18 hl (by decide) rfl (fun ls hl => ?_)
    refine lv_aload hx hb dX1_meets_20 (lv_at hl 0 rfl) ?_
    refine lv_ifnull hx hb dX1_meets_22 ?_
    refine lv_aload hx hb dX1_meets_25 (lv_at hl 0 rfl) ?_
    refine lv_aload_n hx hb dX1_meets_27 rfl (lv_at hl 1 rfl) ?_
    refine lv_aload_n hx hb dX1_meets_28 rfl (lv_at hl 2 rfl) ?_
    refine m_ci0 (m_rV S hKX hW (m_szH hbs hS) (c_X0_isMet l hi_a13 hi_w) h lk_X1_29 (m_recvA hK hW hi_a13) rfl hl.1 rfl ⟨Nat.le_of_ble_eq_true rfl, Nat.le_of_ble_eq_true rfl⟩ (Nat.le_of_ble_eq_true rfl) ⟨Nat.le_of_ble_eq_true rfl, Nat.le_of_ble_eq_true rfl⟩ dX1_meets_29) hS rfl rfl (fun rr29 Mm29 H locs h hW hS => ?_)
    replace hl : lv_has ls 5 [(2, .ref (ad G 13 w)), (3, .ref (ad G 14 w))] := lv_sub hl [1, 2] rfl
    refine lv_if_eq (tgt := 39) hx hb dX1_meets_32 (by decide) (fun c32 => ?_) (fun c32 => ?_)
    · replace h := h.1 c32
      refine lv_iconst hx hb dX1_meets_39 ki_0 ?_
      exact m_iret S hret hlocks hKX hW hbs hS rfl h dX1_meets_40
    · replace h := h.2 c32
      refine lv_iconst hx hb dX1_meets_35 ki_1 ?_
      refine lv_goto (tgt := 40) hx hb dX1_meets_36 (by decide) ?_
      exact m_iret S hret hlocks hKX hW hbs hS rfl h dX1_meets_40
  unfold s_X1_meets at h
  refine lv_aload_n hx hb dX1_meets_0 rfl (lv_at hl 0 rfl) ?_
  refine lv_iload_n hx hb dX1_meets_1 rfl (lv_at hl 1 rfl) ?_
  refine m_ci0 (m_rV S hKX hW (m_szH hbs hS) (c_X1_has l hi_w) h lk_X1_25 (m_recv hK hW (ci_5 hi_w) (rc_5 G) rfl) rfl hl.1 rfl ⟨Nat.le_of_ble_eq_true rfl, Nat.le_of_ble_eq_true rfl⟩ (Nat.le_of_ble_eq_true rfl) ⟨Nat.le_of_ble_eq_true rfl, Nat.le_of_ble_eq_true rfl⟩ dX1_meets_2) hS rfl rfl (fun rr2 Mm2 H locs h hW hS => ?_)
  refine lv_if_eq (tgt := 17) hx hb dX1_meets_5 (by decide) (fun c5 => ?_) (fun c5 => ?_)
  · replace h := h.1 c5
    refine lv_null hx hb dX1_meets_17 ?_
    exact b18 _ H locs ls hW hS (lv_sub hl [2, 3] rfl) h
  · replace h := h.2 c5
    refine lv_aload_n hx hb dX1_meets_8 rfl (lv_at hl 0 rfl) ?_
    refine m_getr S hK fk_X1_11 (gr_5_1 G w) hW (ci_5 hi_w) dX1_meets_9 ?_
    refine lv_iload_n hx hb dX1_meets_12 rfl (lv_at hl 1 rfl) ?_
    obtain ⟨hb13, h⟩ := h
    refine m_aaldT S hK hW hi_w hb13 dX1_meets_13 (fun c13 => ?_) (fun a13 c13 => ?_)
    · replace h := h.1 c13
      refine lv_goto (tgt := 18) hx hb dX1_meets_14 (by decide) ?_
      exact b18 _ H locs ls hW hS (lv_sub hl [2, 3] rfl) h
    · obtain ⟨hi_a13, h⟩ := h.2 a13 c13
      refine lv_goto (tgt := 18) hx hb dX1_meets_14 (by decide) ?_
      exact b18b a13 _ hi_a13 H locs ls hW hS (lv_sub hl [2, 3] rfl) h
abbrev rm_X1_couldBeInForce : Room := { frames := 1, cells := 0, slots := 0, locals := 21 }
set_option maxHeartbeats 4000000 in
set_option maxRecDepth 100000 in
theorem c_X1_couldBeInForce (l : Launch) {G : Gn} {M : Mem} {w : Nat} {x1 : Int32} {x2 : Int32} {x3 : Int32} {x4 : Int32} {P : Int32 → Mem → Prop} (hi_w : w < 3) : MQi l yX1_couldBeInForce cX1_couldBeInForce 6 (some .boolean) rm_X1_couldBeInForce [.ref (ad G 5 w), .int x1, .int x2, .int x3, .int x4] G M (s_X1_couldBeInForce w M x1 x2 x3 x4 P) P := by
  refine m_enter (by decide +kernel) (Nat.le_of_ble_eq_true rfl) ?_
  intro p e s m below meth c ls H locs S hret hlocks hname hKX hbs hW hS hl h
  obtain ⟨AV, hAV⟩ : ∃ z : Array Value, z = ([.ref (ad G 5 w), .int x1, .int x2, .int x3, .int x4] : List Value).toArray := ⟨_, rfl⟩
  rw [← hAV] at S ⊢
  replace S : CallFix p m c cX1_couldBeInForce 6 s AV lw_G "MilkDesk$ActBook" := S
  have hK := hKX.1
  have hx := S.1
  have hb := S.2.1
  have hml := S.2.2.1
  have hown := S.2.2.2.1
  have hts := S.2.2.2.2
  replace hl : lv_has ls 6 [(0, .ref (ad G 5 w)), (1, .int x1), (2, .int x2), (3, .int x3), (4, .int x4)] := hl
  have b52 : ∀ (a13 : Nat) (M : Mem) (hi_a13 : a13 < M.2.2 2 0 0) (H : Heap) (locs : List Loc) (ls : Array Slot), WPm G M H → va_S (fun q => bs G ≤ q) s.heap H locs → lv_has ls 6 [(0, .ref (ad G 5 w)), (1, .int x1), (4, .int x4), (5, .ref (M.2.2 0 0 a13))] → s_X1_couldBeInForce_52 w a13 x1 x4 P M  → W p l e rm_X1_couldBeInForce s m AV below meth c H locs 0 0 (MQ below (va_Qi P (WS G) (fun q => bs G ≤ q)) AV s 0 0 (fun q => bs G ≤ q)) (F0 m 52 ls []) := by
    intro a13 M hi_a13 H locs ls hW hS hl h
    unfold s_X1_couldBeInForce_52 at h
    refine lv_aload hx hb dX1_couldBeInForce_52 (lv_at hl 3 rfl) ?_
    refine m_getact S hK fk_X1_39 (by decide) hW hi_a13 dX1_couldBeInForce_54 ?_
    refine lv_iload hx hb dX1_couldBeInForce_57 (lv_at hl 2 rfl) ?_
    refine lv_icmp_gt (tgt := 77) hx hb dX1_couldBeInForce_59 (by decide) (fun c59 => ?_) (fun c59 => ?_)
    · replace h := h.1 c59
      refine lv_iconst hx hb dX1_couldBeInForce_77 ki_0 ?_
      exact m_iret S hret hlocks hKX hW hbs hS rfl h dX1_couldBeInForce_78
    · replace h := h.2 c59
      refine lv_iload hx hb dX1_couldBeInForce_62 (lv_at hl 2 rfl) ?_
      refine lv_aload_n hx hb dX1_couldBeInForce_64 rfl (lv_at hl 0 rfl) ?_
      refine m_getr S hK fk_X1_17 (gr_5_2 G w) hW (ci_5 hi_w) dX1_couldBeInForce_65 ?_
      refine lv_iload_n hx hb dX1_couldBeInForce_68 rfl (lv_at hl 1 rfl) ?_
      obtain ⟨hb69, h⟩ := h
      refine m_ald S hK (ar_35 G) hW (ci_35 hi_w) hb69 dX1_couldBeInForce_69 ?_
      refine lv_icmp_ge (tgt := 77) hx hb dX1_couldBeInForce_70 (by decide) (fun c70 => ?_) (fun c70 => ?_)
      · replace h := h.1 c70
        refine lv_iconst hx hb dX1_couldBeInForce_77 ki_0 ?_
        exact m_iret S hret hlocks hKX hW hbs hS rfl h dX1_couldBeInForce_78
      · replace h := h.2 c70
        refine lv_iconst hx hb dX1_couldBeInForce_73 ki_1 ?_
        refine lv_goto (tgt := 78) hx hb dX1_couldBeInForce_74 (by decide) ?_
        exact m_iret S hret hlocks hKX hW hbs hS rfl h dX1_couldBeInForce_78
  have b18 : ∀ (M : Mem) (H : Heap) (locs : List Loc) (ls : Array Slot), WPm G M H → va_S (fun q => bs G ≤ q) s.heap H locs → lv_has ls 6 [(0, .ref (ad G 5 w)), (1, .int x1), (2, .int x2), (3, .int x3), (4, .int x4)] → s_X1_couldBeInForce_18 w x1 x2 x3 x4 P M  → W p l e rm_X1_couldBeInForce s m AV below meth c H locs 0 0 (MQ below (va_Qi P (WS G) (fun q => bs G ≤ q)) AV s 0 0 (fun q => bs G ≤ q)) (F0 m 18 ls [.null]) := by
    intro M H locs ls hW hS hl h
    unfold s_X1_couldBeInForce_18 at h
    refine lv_astoreN (lv' := [(5, .null), (0, .ref (ad G 5 w)), (1, .int x1), (2, .int x2), (3, .int x3), (4, .int x4)]) hx hb dX1_couldBeInForce_18 hl (by decide) rfl (fun ls hl => ?_)
    refine lv_aloadN hx hb dX1_couldBeInForce_20 (lv_at hl 0 rfl) ?_
    refine lv_ifnullN (tgt := 77) hx hb dX1_couldBeInForce_22 (by decide) ?_
    refine lv_iconst hx hb dX1_couldBeInForce_77 ki_0 ?_
    exact m_iret S hret hlocks hKX hW hbs hS rfl h dX1_couldBeInForce_78
  have b18b : ∀ (a13 : Nat) (M : Mem) (hi_a13 : a13 < M.2.2 2 0 0) (H : Heap) (locs : List Loc) (ls : Array Slot), WPm G M H → va_S (fun q => bs G ≤ q) s.heap H locs → lv_has ls 6 [(0, .ref (ad G 5 w)), (1, .int x1), (2, .int x2), (3, .int x3), (4, .int x4)] → s_X1_couldBeInForce_18b w a13 x1 x2 x3 x4 P M  → W p l e rm_X1_couldBeInForce s m AV below meth c H locs 0 0 (MQ below (va_Qi P (WS G) (fun q => bs G ≤ q)) AV s 0 0 (fun q => bs G ≤ q)) (F0 m 18 ls [.ref (M.2.2 0 0 a13)]) := by
    intro a13 M hi_a13 H locs ls hW hS hl h
    unfold s_X1_couldBeInForce_18b at h
    refine lv_astore (lv' := [(5, .ref (M.2.2 0 0 a13)), (0, .ref (ad G 5 w)), (1, .int x1), (2, .int x2), (3, .int x3), (4, .int x4)]) hx hb dX1_couldBeInForce_18 hl (by decide) rfl (fun ls hl => ?_)
    refine lv_aload hx hb dX1_couldBeInForce_20 (lv_at hl 0 rfl) ?_
    refine lv_ifnull hx hb dX1_couldBeInForce_22 ?_
    refine lv_aload hx hb dX1_couldBeInForce_25 (lv_at hl 0 rfl) ?_
    refine m_getact S hK fk_X1_33 (by decide) hW hi_a13 dX1_couldBeInForce_27 ?_
    refine lv_iload_n hx hb dX1_couldBeInForce_30 rfl (lv_at hl 3 rfl) ?_
    refine lv_icmp_ne (tgt := 77) hx hb dX1_couldBeInForce_31 (by decide) (fun c31 => ?_) (fun c31 => ?_)
    · replace h := h.1 c31
      refine lv_iconst hx hb dX1_couldBeInForce_77 ki_0 ?_
      exact m_iret S hret hlocks hKX hW hbs hS rfl h dX1_couldBeInForce_78
    · replace h := h.2 c31
      refine lv_aload hx hb dX1_couldBeInForce_34 (lv_at hl 0 rfl) ?_
      refine m_getact S hK fk_X1_36 (by decide) hW hi_a13 dX1_couldBeInForce_36 ?_
      refine lv_iconst hx hb dX1_couldBeInForce_39 ki_m1 ?_
      refine lv_icmp_eq (tgt := 52) hx hb dX1_couldBeInForce_40 (by decide) (fun c40 => ?_) (fun c40 => ?_)
      · replace h := h.1 c40
        exact b52 a13 _ hi_a13 H locs ls hW hS (lv_sub hl [1, 2, 5, 0] rfl) h
      · replace h := h.2 c40
        refine lv_aload hx hb dX1_couldBeInForce_43 (lv_at hl 0 rfl) ?_
        refine m_getact S hK fk_X1_36 (by decide) hW hi_a13 dX1_couldBeInForce_45 ?_
        refine lv_iload_n hx hb dX1_couldBeInForce_48 rfl (lv_at hl 4 rfl) ?_
        refine lv_icmp_ne (tgt := 77) hx hb dX1_couldBeInForce_49 (by decide) (fun c49 => ?_) (fun c49 => ?_)
        · replace h := h.1 c49
          refine lv_iconst hx hb dX1_couldBeInForce_77 ki_0 ?_
          exact m_iret S hret hlocks hKX hW hbs hS rfl h dX1_couldBeInForce_78
        · replace h := h.2 c49
          exact b52 a13 _ hi_a13 H locs ls hW hS (lv_sub hl [1, 2, 5, 0] rfl) h
  unfold s_X1_couldBeInForce at h
  refine lv_aload_n hx hb dX1_couldBeInForce_0 rfl (lv_at hl 0 rfl) ?_
  refine lv_iload_n hx hb dX1_couldBeInForce_1 rfl (lv_at hl 1 rfl) ?_
  refine m_ci0 (m_rV S hKX hW (m_szH hbs hS) (c_X1_has l hi_w) h lk_X1_25 (m_recv hK hW (ci_5 hi_w) (rc_5 G) rfl) rfl hl.1 rfl ⟨Nat.le_of_ble_eq_true rfl, Nat.le_of_ble_eq_true rfl⟩ (Nat.le_of_ble_eq_true rfl) ⟨Nat.le_of_ble_eq_true rfl, Nat.le_of_ble_eq_true rfl⟩ dX1_couldBeInForce_2) hS rfl rfl (fun rr2 Mm2 H locs h hW hS => ?_)
  refine lv_if_eq (tgt := 17) hx hb dX1_couldBeInForce_5 (by decide) (fun c5 => ?_) (fun c5 => ?_)
  · replace h := h.1 c5
    refine lv_null hx hb dX1_couldBeInForce_17 ?_
    exact b18 _ H locs ls hW hS (lv_sub hl [0, 1, 2, 3, 4] rfl) h
  · replace h := h.2 c5
    refine lv_aload_n hx hb dX1_couldBeInForce_8 rfl (lv_at hl 0 rfl) ?_
    refine m_getr S hK fk_X1_11 (gr_5_1 G w) hW (ci_5 hi_w) dX1_couldBeInForce_9 ?_
    refine lv_iload_n hx hb dX1_couldBeInForce_12 rfl (lv_at hl 1 rfl) ?_
    obtain ⟨hb13, h⟩ := h
    refine m_aaldT S hK hW hi_w hb13 dX1_couldBeInForce_13 (fun c13 => ?_) (fun a13 c13 => ?_)
    · replace h := h.1 c13
      refine lv_goto (tgt := 18) hx hb dX1_couldBeInForce_14 (by decide) ?_
      exact b18 _ H locs ls hW hS (lv_sub hl [0, 1, 2, 3, 4] rfl) h
    · obtain ⟨hi_a13, h⟩ := h.2 a13 c13
      refine lv_goto (tgt := 18) hx hb dX1_couldBeInForce_14 (by decide) ?_
      exact b18b a13 _ hi_a13 H locs ls hW hS (lv_sub hl [0, 1, 2, 3, 4] rfl) h
abbrev rm_X1_inForce : Room := { frames := 2, cells := 0, slots := 0, locals := 46 }
set_option maxHeartbeats 4000000 in
set_option maxRecDepth 100000 in
theorem c_X1_inForce (l : Launch) {G : Gn} {M : Mem} {w : Nat} {x1 : Int32} {x2 : Int32} {x3 : Int32} {P : Int32 → Mem → Prop} (hi_w : w < 3) : MQi l yX1_inForce cX1_inForce 8 (some .int) rm_X1_inForce [.ref (ad G 5 w), .int x1, .int x2, .int x3] G M (s_X1_inForce w M x1 x2 x3 P) P := by
  refine m_enter (by decide +kernel) (Nat.le_of_ble_eq_true rfl) ?_
  intro p e s m below meth c ls H locs S hret hlocks hname hKX hbs hW hS hl h
  obtain ⟨AV, hAV⟩ : ∃ z : Array Value, z = ([.ref (ad G 5 w), .int x1, .int x2, .int x3] : List Value).toArray := ⟨_, rfl⟩
  rw [← hAV] at S ⊢
  replace S : CallFix p m c cX1_inForce 8 s AV lw_G "MilkDesk$ActBook" := S
  have hK := hKX.1
  have hx := S.1
  have hb := S.2.1
  have hml := S.2.2.1
  have hown := S.2.2.2.1
  have hts := S.2.2.2.2
  replace hl : lv_has ls 8 [(0, .ref (ad G 5 w)), (1, .int x1), (2, .int x2), (3, .int x3)] := hl
  have w9 : ∀ (n : Nat) (a : Mem × Int32 × Int32 × Int32), Lz (fun (K9 : Mem × Int32 × Int32 × Int32 → Prop) (a : Mem × Int32 × Int32 × Int32) => s_X1_inForce_9 w x1 x2 x3 P K9 a.1 a.2.1 a.2.2.1 a.2.2.2) n a → ∀ (H : Heap) (locs : List Loc) (ls : Array Slot), WPm G a.1 H → va_S (fun q => bs G ≤ q) s.heap H locs → lv_has ls 8 [(0, .ref (ad G 5 w)), (1, .int x1), (2, .int x2), (3, .int x3), (4, .int a.2.1), (5, .int a.2.2.1), (6, .int a.2.2.2)] → W p l e rm_X1_inForce s m AV below meth c H locs 0 0 (MQ below (va_Qi P (WS G) (fun q => bs G ≤ q)) AV s 0 0 (fun q => bs G ≤ q)) (F0 m 9 ls []) := by
    refine Lz_walk ?_
    rintro K9 kk9 ⟨M, x4, x5, x6⟩ h H locs ls hW hS hl
    replace h : s_X1_inForce_9 w x1 x2 x3 P K9 M x4 x5 x6 := h
    replace hW : WPm G M H := hW
    replace hl : lv_has ls 8 [(0, .ref (ad G 5 w)), (1, .int x1), (2, .int x2), (3, .int x3), (4, .int x4), (5, .int x5), (6, .int x6)] := hl
    unfold s_X1_inForce_9 at h
    refine lv_iload hx hb dX1_inForce_9 (lv_at hl 6 rfl) ?_
    refine lv_aload_n hx hb dX1_inForce_11 rfl (lv_at hl 0 rfl) ?_
    refine m_geti S hK fk_X1_21 (gi_5_0 G) hW (ci_5 hi_w) dX1_inForce_12 ?_
    refine lv_icmp_ge (tgt := 71) hx hb dX1_inForce_15 (by decide) (fun c15 => ?_) (fun c15 => ?_)
    · replace h := h.1 c15
      refine lv_iload hx hb dX1_inForce_71 (lv_at hl 4 rfl) ?_
      exact m_iret S hret hlocks hKX hW hbs hS rfl h dX1_inForce_73
    · replace h := h.2 c15
      refine lv_aload_n hx hb dX1_inForce_18 rfl (lv_at hl 0 rfl) ?_
      refine m_getr S hK fk_X1_11 (gr_5_1 G w) hW (ci_5 hi_w) dX1_inForce_19 ?_
      refine lv_iload hx hb dX1_inForce_22 (lv_at hl 6 rfl) ?_
      obtain ⟨hb24, h⟩ := h
      refine m_aaldT S hK hW hi_w hb24 dX1_inForce_24 (fun c24 => ?_) (fun a24 c24 => ?_)
      · replace h := h.1 c24
        refine lv_astoreN (lv' := [(7, .null), (0, .ref (ad G 5 w)), (1, .int x1), (2, .int x2), (3, .int x3), (4, .int x4), (5, .int x5), (6, .int x6)]) hx hb dX1_inForce_25 hl (by decide) rfl (fun ls hl => ?_)
        refine lv_aloadN hx hb dX1_inForce_27 (lv_at hl 0 rfl) ?_
        refine lv_ifnullN (tgt := 65) hx hb dX1_inForce_29 (by decide) ?_
        obtain ⟨x6_65, ex6_65⟩ : ∃ z : Int32, z = x6 + (1 : Int32) := ⟨_, rfl⟩
        replace h := h x6_65 ex6_65
        refine lv_iinc (v := x6_65) (lv' := [(6, .int x6_65), (7, .null), (0, .ref (ad G 5 w)), (1, .int x1), (2, .int x2), (3, .int x3), (4, .int x4), (5, .int x5)]) hx hb dX1_inForce_65 hl (k := 7) rfl (by rw [ex6_65, ki_1]) (by decide) rfl (fun ls hl => ?_)
        refine lv_goto (tgt := 9) hx hb dX1_inForce_68 (by decide) ?_
        exact kk9 _ h H locs ls hW hS (lv_sub hl [2, 3, 4, 5, 6, 7, 0] rfl)
      · obtain ⟨hi_a24, h⟩ := h.2 a24 c24
        refine lv_astore (lv' := [(7, .ref (M.2.2 0 0 a24)), (0, .ref (ad G 5 w)), (1, .int x1), (2, .int x2), (3, .int x3), (4, .int x4), (5, .int x5), (6, .int x6)]) hx hb dX1_inForce_25 hl (by decide) rfl (fun ls hl => ?_)
        refine lv_aload hx hb dX1_inForce_27 (lv_at hl 0 rfl) ?_
        refine lv_ifnull hx hb dX1_inForce_29 ?_
        refine lv_aload_n hx hb dX1_inForce_32 rfl (lv_at hl 1 rfl) ?_
        refine lv_iload hx hb dX1_inForce_33 (lv_at hl 7 rfl) ?_
        refine lv_iload_n hx hb dX1_inForce_35 rfl (lv_at hl 2 rfl) ?_
        refine lv_iload_n hx hb dX1_inForce_36 rfl (lv_at hl 3 rfl) ?_
        refine lv_iload_n hx hb dX1_inForce_37 rfl (lv_at hl 4 rfl) ?_
        refine m_ci0 (m_rV S hKX hW (m_szH hbs hS) (c_X1_couldBeInForce l hi_w) h lk_X1_42 (m_recv hK hW (ci_5 hi_w) (rc_5 G) rfl) rfl hl.1 rfl ⟨Nat.le_of_ble_eq_true rfl, Nat.le_of_ble_eq_true rfl⟩ (Nat.le_of_ble_eq_true rfl) ⟨Nat.le_of_ble_eq_true rfl, Nat.le_of_ble_eq_true rfl⟩ dX1_inForce_38) hS rfl rfl (fun rr38 Mm38 H locs h hW hS => ?_)
        obtain ⟨hk38, h⟩ := h
        replace hi_a24 : a24 < Mm38.2.2 2 0 0 := by rw [hk38]; exact hi_a24
        replace hl : lv_has ls 8 [(7, .ref (Mm38.2.2 0 0 a24)), (0, .ref (ad G 5 w)), (1, .int x1), (2, .int x2), (3, .int x3), (4, .int x4), (5, .int x5), (6, .int x6)] := by rw [hk38]; exact hl
        refine lv_if_eq (tgt := 65) hx hb dX1_inForce_41 (by decide) (fun c41 => ?_) (fun c41 => ?_)
        · replace h := h.1 c41
          obtain ⟨x6_65, ex6_65⟩ : ∃ z : Int32, z = x6 + (1 : Int32) := ⟨_, rfl⟩
          replace h := h x6_65 ex6_65
          refine lv_iinc (v := x6_65) (lv' := [(6, .int x6_65), (7, .ref (Mm38.2.2 0 0 a24)), (0, .ref (ad G 5 w)), (1, .int x1), (2, .int x2), (3, .int x3), (4, .int x4), (5, .int x5)]) hx hb dX1_inForce_65 hl (k := 7) rfl (by rw [ex6_65, ki_1]) (by decide) rfl (fun ls hl => ?_)
          refine lv_goto (tgt := 9) hx hb dX1_inForce_68 (by decide) ?_
          exact kk9 _ h H locs ls hW hS (lv_sub hl [2, 3, 4, 5, 6, 7, 0] rfl)
        · replace h := h.2 c41
          refine lv_aload hx hb dX1_inForce_44 (lv_at hl 0 rfl) ?_
          refine m_getact S hK fk_X1_39 (by decide) hW hi_a24 dX1_inForce_46 ?_
          refine lv_iload hx hb dX1_inForce_49 (lv_at hl 6 rfl) ?_
          refine lv_icmp_lt (tgt := 65) hx hb dX1_inForce_51 (by decide) (fun c51 => ?_) (fun c51 => ?_)
          · replace h := h.1 c51
            obtain ⟨x6_65, ex6_65⟩ : ∃ z : Int32, z = x6 + (1 : Int32) := ⟨_, rfl⟩
            replace h := h x6_65 ex6_65
            refine lv_iinc (v := x6_65) (lv' := [(6, .int x6_65), (7, .ref (Mm38.2.2 0 0 a24)), (0, .ref (ad G 5 w)), (1, .int x1), (2, .int x2), (3, .int x3), (4, .int x4), (5, .int x5)]) hx hb dX1_inForce_65 hl (k := 7) rfl (by rw [ex6_65, ki_1]) (by decide) rfl (fun ls hl => ?_)
            refine lv_goto (tgt := 9) hx hb dX1_inForce_68 (by decide) ?_
            exact kk9 _ h H locs ls hW hS (lv_sub hl [2, 3, 4, 5, 6, 7, 0] rfl)
          · replace h := h.2 c51
            refine lv_iload hx hb dX1_inForce_54 (lv_at hl 7 rfl) ?_
            refine lv_istore (lv' := [(4, .int x6), (7, .ref (Mm38.2.2 0 0 a24)), (0, .ref (ad G 5 w)), (1, .int x1), (2, .int x2), (3, .int x3), (5, .int x5), (6, .int x6)]) hx hb dX1_inForce_56 hl (by decide) rfl (fun ls hl => ?_)
            refine lv_aload hx hb dX1_inForce_58 (lv_at hl 1 rfl) ?_
            refine m_getact S hK fk_X1_39 (by decide) hW hi_a24 dX1_inForce_60 ?_
            refine lv_topi (fun x5_63 ex5_63 => ?_)
            replace h := h x5_63 ex5_63
            refine lv_istore (lv' := [(5, .int x5_63), (4, .int x6), (7, .ref (Mm38.2.2 0 0 a24)), (0, .ref (ad G 5 w)), (1, .int x1), (2, .int x2), (3, .int x3), (6, .int x6)]) hx hb dX1_inForce_63 hl (by decide) rfl (fun ls hl => ?_)
            obtain ⟨x6_65, ex6_65⟩ : ∃ z : Int32, z = x6 + (1 : Int32) := ⟨_, rfl⟩
            replace h := h x6_65 ex6_65
            refine lv_iinc (v := x6_65) (lv' := [(6, .int x6_65), (5, .int x5_63), (4, .int x6), (7, .ref (Mm38.2.2 0 0 a24)), (0, .ref (ad G 5 w)), (1, .int x1), (2, .int x2), (3, .int x3)]) hx hb dX1_inForce_65 hl (k := 7) rfl (by rw [ex6_65, ki_1]) (by decide) rfl (fun ls hl => ?_)
            refine lv_goto (tgt := 9) hx hb dX1_inForce_68 (by decide) ?_
            exact kk9 _ h H locs ls hW hS (lv_sub hl [4, 5, 6, 7, 2, 1, 0] rfl)
  unfold s_X1_inForce at h
  refine lv_iconst hx hb dX1_inForce_0 ki_m1 ?_
  refine lv_istore (lv' := [(4, .int (-1 : Int32)), (0, .ref (ad G 5 w)), (1, .int x1), (2, .int x2), (3, .int x3)]) hx hb dX1_inForce_1 hl (by decide) rfl (fun ls hl => ?_)
  refine lv_iconst hx hb dX1_inForce_3 ki_0 ?_
  refine lv_istore (lv' := [(5, .int (0 : Int32)), (4, .int (-1 : Int32)), (0, .ref (ad G 5 w)), (1, .int x1), (2, .int x2), (3, .int x3)]) hx hb dX1_inForce_4 hl (by decide) rfl (fun ls hl => ?_)
  refine lv_iconst hx hb dX1_inForce_6 ki_0 ?_
  refine lv_istore (lv' := [(6, .int (0 : Int32)), (5, .int (0 : Int32)), (4, .int (-1 : Int32)), (0, .ref (ad G 5 w)), (1, .int x1), (2, .int x2), (3, .int x3)]) hx hb dX1_inForce_7 hl (by decide) rfl (fun ls hl => ?_)
  obtain ⟨n9, h⟩ := h
  exact w9 n9 _ h H locs ls hW hS (lv_sub hl [3, 4, 5, 6, 2, 1, 0] rfl)
abbrev rm_X11_copyAll : Room := { frames := 1, cells := 0, slots := 0, locals := 64 }
set_option maxHeartbeats 4000000 in
set_option maxRecDepth 100000 in
theorem c_X11_copyAll (l : Launch) {G : Gn} {M : Mem} {n k1 i1 k2 i2 : Nat} {P : Mem → Prop} (h1 : AI G k1 n) (h2 : AI G k2 n) (hi1 : i1 < cntK k1) (hi2 : i2 < cntK k2) (hn : n < 2147483648) : MQv l yX11_copyAll cX11_copyAll 2 none rm_X11_copyAll [.ref (ad G k1 i1), .ref (ad G k2 i2)] G M (s_X11_copyAll n k1 i1 k2 i2 M P) P := by
  refine m_enter (by decide +kernel) (Nat.le_of_ble_eq_true rfl) ?_
  intro p e s m below meth c ls H locs S hret hlocks hname hKX hbs hW hS hl h
  obtain ⟨AV, hAV⟩ : ∃ z : Array Value, z = ([.ref (ad G k1 i1), .ref (ad G k2 i2)] : List Value).toArray := ⟨_, rfl⟩
  rw [← hAV] at S ⊢
  replace S : CallFix p m c cX11_copyAll 2 s AV lw_G "MilkDesk" := S
  have hK := hKX.1
  have hx := S.1
  have hb := S.2.1
  have hml := S.2.2.1
  have hown := S.2.2.2.1
  have hts := S.2.2.2.2
  replace hl : lv_has ls 2 [(0, .ref (ad G k1 i1)), (1, .ref (ad G k2 i2))] := hl
  refine lv_aload_n hx hb dX11_copyAll_0 rfl (lv_at hl 0 rfl) ?_
  refine lv_iconst hx hb dX11_copyAll_1 ki_0 ?_
  refine lv_aload_n hx hb dX11_copyAll_2 rfl (lv_at hl 1 rfl) ?_
  refine lv_iconst hx hb dX11_copyAll_3 ki_0 ?_
  refine lv_aload_n hx hb dX11_copyAll_4 rfl (lv_at hl 0 rfl) ?_
  refine m_alen S hK h1 hW hi1 rfl dX11_copyAll_5 ?_
  refine lv_aload_n hx hb dX11_copyAll_6 rfl (lv_at hl 1 rfl) ?_
  refine m_alen S hK h2 hW hi2 rfl dX11_copyAll_7 ?_
  refine va_mmin hx hb (hml.trans hl.1.symm) hown (hts _ mw_818) (hts _ mw_473) (hts _ mw_13) (hts _ mw_474) (Nat.le_of_ble_eq_true rfl) (Nat.le_of_ble_eq_true rfl) (Nat.zero_le _) (Nat.zero_le _) dX11_copyAll_8 ?_
  rw [ite_self]
  have e0 : (0 : Int32).toNatClampNeg = 0 := by decide
  have en : (Int32.ofNat n).toNatClampNeg = n := nI_clamp hn
  refine m_acopy S hK hml hl.1 h1 h2 hW hS hi1 hi2 (hts _ mw_848) (hts _ mw_647) (hts _ mw_646) (hts _ mw_19) ⟨by decide, by decide, nI_pos hn, by rw [e0, en]; omega, by rw [e0, en]; omega⟩ (Nat.le_of_ble_eq_true rfl) (Nat.le_of_ble_eq_true rfl) dX11_copyAll_11 (fun Mm11 eMm11 H locs hW hS => ?_)
  rw [e0, en] at eMm11
  replace h := h Mm11 eMm11
  exact m_vret S hret hlocks hKX hW hbs hS h dX11_copyAll_14

abbrev rm_X1_copyFrom : Room := { frames := 2, cells := 0, slots := 0, locals := 85 }
set_option maxHeartbeats 4000000 in
set_option maxRecDepth 100000 in
theorem c_X1_copyFrom (l : Launch) {G : Gn} {M : Mem} {w v : Nat} {P : Mem → Prop} (hi_w : w < 3) (hi_v : v < 3) : MQv l yX1_copyFrom cX1_copyFrom 3 none rm_X1_copyFrom [.ref (ad G 5 w), .ref (ad G 5 v)] G M (s_X1_copyFrom w v M P) P := by
  refine m_enter (by decide +kernel) (Nat.le_of_ble_eq_true rfl) ?_
  intro p e s m below meth c ls H locs S hret hlocks hname hKX hbs hW hS hl h
  obtain ⟨AV, hAV⟩ : ∃ z : Array Value, z = ([.ref (ad G 5 w), .ref (ad G 5 v)] : List Value).toArray := ⟨_, rfl⟩
  rw [← hAV] at S ⊢
  replace S : CallFix p m c cX1_copyFrom 3 s AV lw_G "MilkDesk$ActBook" := S
  have hK := hKX.1
  have hx := S.1
  have hb := S.2.1
  have hml := S.2.2.1
  have hown := S.2.2.2.1
  have hts := S.2.2.2.2
  replace hl : lv_has ls 3 [(0, .ref (ad G 5 w)), (1, .ref (ad G 5 v))] := hl
  have w10 : ∀ (n : Nat) (a : Mem × Int32), Lz (fun (K10 : Mem × Int32 → Prop) (a : Mem × Int32) => s_X1_copyFrom_10 w v P K10 a.1 a.2) n a → ∀ (H : Heap) (locs : List Loc) (ls : Array Slot), WPm G a.1 H → va_S (fun q => bs G ≤ q) s.heap H locs → lv_has ls 3 [(0, .ref (ad G 5 w)), (1, .ref (ad G 5 v)), (2, .int a.2)] → W p l e rm_X1_copyFrom s m AV below meth c H locs 0 0 (MQ below (va_Qv P (WS G) (fun q => bs G ≤ q)) AV s 0 0 (fun q => bs G ≤ q)) (F0 m 10 ls []) := by
    refine Lz_walk ?_
    rintro K10 kk10 ⟨M, x2⟩ h H locs ls hW hS hl
    replace h : s_X1_copyFrom_10 w v P K10 M x2 := h
    replace hW : WPm G M H := hW
    replace hl : lv_has ls 3 [(0, .ref (ad G 5 w)), (1, .ref (ad G 5 v)), (2, .int x2)] := hl
    unfold s_X1_copyFrom_10 at h
    refine lv_iload_n hx hb dX1_copyFrom_10 rfl (lv_at hl 2 rfl) ?_
    refine lv_bipush hx hb dX1_copyFrom_11 kb_16 ?_
    refine lv_icmp_ge (tgt := 34) hx hb dX1_copyFrom_13 (by decide) (fun c13 => ?_) (fun c13 => ?_)
    · replace h := h.1 c13
      refine lv_aload_n hx hb dX1_copyFrom_34 rfl (lv_at hl 1 rfl) ?_
      refine m_getr S hK fk_X1_17 (gr_5_2 G v) hW (ci_5 hi_v) dX1_copyFrom_35 ?_
      refine lv_aload_n hx hb dX1_copyFrom_38 rfl (lv_at hl 0 rfl) ?_
      refine m_getr S hK fk_X1_17 (gr_5_2 G w) hW (ci_5 hi_w) dX1_copyFrom_39 ?_
      refine m_cv0 (m_rN S hKX hW (m_szH hbs hS) (c_X11_copyAll l (ar_35 G) (ar_35 G) (ci_35 hi_v) (ci_35 hi_w) (Nat.le_of_ble_eq_true rfl)) h lk_X1_46 rfl hl.1 rfl ⟨Nat.le_of_ble_eq_true rfl, Nat.le_of_ble_eq_true rfl⟩ (Nat.le_of_ble_eq_true rfl) ⟨Nat.le_of_ble_eq_true rfl, Nat.le_of_ble_eq_true rfl⟩ dX1_copyFrom_42) hS rfl rfl (fun Mm42 H locs h hW hS => ?_)
      exact m_vret S hret hlocks hKX hW hbs hS h dX1_copyFrom_45
    · replace h := h.2 c13
      refine lv_aload_n hx hb dX1_copyFrom_16 rfl (lv_at hl 0 rfl) ?_
      refine m_getr S hK fk_X1_11 (gr_5_1 G w) hW (ci_5 hi_w) dX1_copyFrom_17 ?_
      refine lv_iload_n hx hb dX1_copyFrom_20 rfl (lv_at hl 2 rfl) ?_
      refine lv_aload_n hx hb dX1_copyFrom_21 rfl (lv_at hl 1 rfl) ?_
      refine m_getr S hK fk_X1_11 (gr_5_1 G v) hW (ci_5 hi_v) dX1_copyFrom_22 ?_
      refine lv_iload_n hx hb dX1_copyFrom_25 rfl (lv_at hl 2 rfl) ?_
      obtain ⟨hb26, h⟩ := h
      refine m_aaldT S hK hW hi_v hb26 dX1_copyFrom_26 (fun c26 => ?_) (fun a26 c26 => ?_)
      · replace h := h.1 c26
        obtain ⟨hb27, h⟩ := h
        refine m_aastN S hK hW hS hi_w hb27 dX1_copyFrom_27 (fun Mm27 eMm27 H locs hW hS => ?_)
        replace h := h Mm27 eMm27
        obtain ⟨x2_28, ex2_28⟩ : ∃ z : Int32, z = x2 + (1 : Int32) := ⟨_, rfl⟩
        replace h := h x2_28 ex2_28
        refine lv_iinc (v := x2_28) (lv' := [(2, .int x2_28), (0, .ref (ad G 5 w)), (1, .ref (ad G 5 v))]) hx hb dX1_copyFrom_28 hl (k := 2) rfl (by rw [ex2_28, ki_1]) (by decide) rfl (fun ls hl => ?_)
        refine lv_goto (tgt := 10) hx hb dX1_copyFrom_31 (by decide) ?_
        exact kk10 _ h H locs ls hW hS (lv_sub hl [1, 2, 0] rfl)
      · obtain ⟨hi_a26, h⟩ := h.2 a26 c26
        obtain ⟨hb27, h⟩ := h
        refine m_aastA S hK hW hS hi_w hi_a26 hb27 dX1_copyFrom_27 (fun Mm27 eMm27 H locs hW hS => ?_)
        replace h := h Mm27 eMm27
        obtain ⟨x2_28, ex2_28⟩ : ∃ z : Int32, z = x2 + (1 : Int32) := ⟨_, rfl⟩
        replace h := h x2_28 ex2_28
        refine lv_iinc (v := x2_28) (lv' := [(2, .int x2_28), (0, .ref (ad G 5 w)), (1, .ref (ad G 5 v))]) hx hb dX1_copyFrom_28 hl (k := 2) rfl (by rw [ex2_28, ki_1]) (by decide) rfl (fun ls hl => ?_)
        refine lv_goto (tgt := 10) hx hb dX1_copyFrom_31 (by decide) ?_
        exact kk10 _ h H locs ls hW hS (lv_sub hl [1, 2, 0] rfl)
  unfold s_X1_copyFrom at h
  refine lv_aload_n hx hb dX1_copyFrom_0 rfl (lv_at hl 0 rfl) ?_
  refine lv_aload_n hx hb dX1_copyFrom_1 rfl (lv_at hl 1 rfl) ?_
  refine m_geti S hK fk_X1_21 (gi_5_0 G) hW (ci_5 hi_v) dX1_copyFrom_2 ?_
  refine m_put S hK fk_X1_21 tyX1_ok nmX1 rfl pf_X1_0 (pv_5_0 G) hW hS (ci_5 hi_w) rfl rfl dX1_copyFrom_5 (fun Mm5 eMm5 H locs hW hS => ?_)
  replace h := h Mm5 eMm5
  refine lv_iconst hx hb dX1_copyFrom_8 ki_0 ?_
  refine lv_istore_n (lv' := [(2, .int (0 : Int32)), (0, .ref (ad G 5 w)), (1, .ref (ad G 5 v))]) hx hb dX1_copyFrom_9 rfl hl (by decide) rfl (fun ls hl => ?_)
  obtain ⟨n10, h⟩ := h
  exact w10 n10 _ h H locs ls hW hS (lv_sub hl [1, 2, 0] rfl)
abbrev rm_X2_here : Room := { frames := 0, cells := 0, slots := 0, locals := 0 }
set_option maxHeartbeats 4000000 in
set_option maxRecDepth 100000 in
theorem c_X2_here (l : Launch) {G : Gn} {M : Mem} {P : Int32 → Mem → Prop} : MQi l yX2_here cX2_here 1 (some .int) rm_X2_here [.ref (ad G 8 0)] G M (s_X2_here M P) P := by
  refine m_enter (by decide +kernel) (Nat.le_of_ble_eq_true rfl) ?_
  intro p e s m below meth c ls H locs S hret hlocks hname hKX hbs hW hS hl h
  obtain ⟨AV, hAV⟩ : ∃ z : Array Value, z = ([.ref (ad G 8 0)] : List Value).toArray := ⟨_, rfl⟩
  rw [← hAV] at S ⊢
  replace S : CallFix p m c cX2_here 1 s AV lw_G "MilkDesk$ActReader" := S
  have hK := hKX.1
  have hx := S.1
  have hb := S.2.1
  have hml := S.2.2.1
  have hown := S.2.2.2.1
  have hts := S.2.2.2.2
  replace hl : lv_has ls 1 [(0, .ref (ad G 8 0))] := hl
  unfold s_X2_here at h
  refine lv_aload_n hx hb dX2_here_0 rfl (lv_at hl 0 rfl) ?_
  refine m_geti S hK fk_X2_34 (gi_8_5 G) hW (ci_8 (Nat.le_of_ble_eq_true rfl)) dX2_here_1 ?_
  refine lv_if_lt (tgt := 30) hx hb dX2_here_4 (by decide) (fun c4 => ?_) (fun c4 => ?_)
  · replace h := h.1 c4
    refine lv_sipush hx hb dX2_here_30 ks_m1000 ?_
    exact m_iret S hret hlocks hKX hW hbs hS rfl h dX2_here_33
  · replace h := h.2 c4
    refine lv_aload_n hx hb dX2_here_7 rfl (lv_at hl 0 rfl) ?_
    refine m_geti S hK fk_X2_34 (gi_8_5 G) hW (ci_8 (Nat.le_of_ble_eq_true rfl)) dX2_here_8 ?_
    refine lv_aload_n hx hb dX2_here_11 rfl (lv_at hl 0 rfl) ?_
    refine m_geti S hK fk_X2_33 (gi_8_4 G) hW (ci_8 (Nat.le_of_ble_eq_true rfl)) dX2_here_12 ?_
    refine lv_icmp_ge (tgt := 30) hx hb dX2_here_15 (by decide) (fun c15 => ?_) (fun c15 => ?_)
    · replace h := h.1 c15
      refine lv_sipush hx hb dX2_here_30 ks_m1000 ?_
      exact m_iret S hret hlocks hKX hW hbs hS rfl h dX2_here_33
    · replace h := h.2 c15
      refine lv_aload_n hx hb dX2_here_18 rfl (lv_at hl 0 rfl) ?_
      obtain ⟨d2, ht19, hi_d2, h⟩ := h
      refine m_gettext S hK fk_X2_15 hW ht19 dX2_here_19 ?_
      refine lv_aload_n hx hb dX2_here_22 rfl (lv_at hl 0 rfl) ?_
      refine m_geti S hK fk_X2_34 (gi_8_5 G) hW (ci_8 (Nat.le_of_ble_eq_true rfl)) dX2_here_23 ?_
      obtain ⟨hb26, h⟩ := h
      refine m_ald S hK (ar_39 G) hW (ci_39 hi_d2) hb26 dX2_here_26 ?_
      refine lv_goto (tgt := 33) hx hb dX2_here_27 (by decide) ?_
      exact m_iret S hret hlocks hKX hW hbs hS rfl h dX2_here_33
abbrev rm_X2_fail : Room := { frames := 0, cells := 0, slots := 0, locals := 0 }
set_option maxHeartbeats 4000000 in
set_option maxRecDepth 100000 in
theorem c_X2_fail (l : Launch) {G : Gn} {M : Mem} {P : Mem → Prop} : MQv l yX2_fail cX2_fail 1 none rm_X2_fail [.ref (ad G 8 0)] G M (s_X2_fail M P) P := by
  refine m_enter (by decide +kernel) (Nat.le_of_ble_eq_true rfl) ?_
  intro p e s m below meth c ls H locs S hret hlocks hname hKX hbs hW hS hl h
  obtain ⟨AV, hAV⟩ : ∃ z : Array Value, z = ([.ref (ad G 8 0)] : List Value).toArray := ⟨_, rfl⟩
  rw [← hAV] at S ⊢
  replace S : CallFix p m c cX2_fail 1 s AV lw_G "MilkDesk$ActReader" := S
  have hK := hKX.1
  have hx := S.1
  have hb := S.2.1
  have hml := S.2.2.1
  have hown := S.2.2.2.1
  have hts := S.2.2.2.2
  replace hl : lv_has ls 1 [(0, .ref (ad G 8 0))] := hl
  unfold s_X2_fail at h
  refine lv_aload_n hx hb dX2_fail_0 rfl (lv_at hl 0 rfl) ?_
  refine m_geti S hK fk_X2_37 (gi_8_6 G) hW (ci_8 (Nat.le_of_ble_eq_true rfl)) dX2_fail_1 ?_
  refine lv_if_ge (tgt := 15) hx hb dX2_fail_4 (by decide) (fun c4 => ?_) (fun c4 => ?_)
  · replace h := h.1 c4
    exact m_vret S hret hlocks hKX hW hbs hS h dX2_fail_15
  · replace h := h.2 c4
    refine lv_aload_n hx hb dX2_fail_7 rfl (lv_at hl 0 rfl) ?_
    refine lv_aload_n hx hb dX2_fail_8 rfl (lv_at hl 0 rfl) ?_
    refine m_geti S hK fk_X2_34 (gi_8_5 G) hW (ci_8 (Nat.le_of_ble_eq_true rfl)) dX2_fail_9 ?_
    refine m_put S hK fk_X2_37 tyX2_ok nmX2 rfl pf_X2_6 (pv_8_6 G) hW hS (ci_8 (Nat.le_of_ble_eq_true rfl)) rfl rfl dX2_fail_12 (fun Mm12 eMm12 H locs hW hS => ?_)
    replace h := h Mm12 eMm12
    exact m_vret S hret hlocks hKX hW hbs hS h dX2_fail_15
abbrev rm_X2_readSign : Room := { frames := 1, cells := 0, slots := 0, locals := 20 }
set_option maxHeartbeats 4000000 in
set_option maxRecDepth 100000 in
theorem c_X2_readSign (l : Launch) {G : Gn} {M : Mem} {x1 : Int32} {P : Mem → Prop} : MQv l yX2_readSign cX2_readSign 2 none rm_X2_readSign [.ref (ad G 8 0), .int x1] G M (s_X2_readSign M x1 P) P := by
  refine m_enter (by decide +kernel) (Nat.le_of_ble_eq_true rfl) ?_
  intro p e s m below meth c ls H locs S hret hlocks hname hKX hbs hW hS hl h
  obtain ⟨AV, hAV⟩ : ∃ z : Array Value, z = ([.ref (ad G 8 0), .int x1] : List Value).toArray := ⟨_, rfl⟩
  rw [← hAV] at S ⊢
  replace S : CallFix p m c cX2_readSign 2 s AV lw_G "MilkDesk$ActReader" := S
  have hK := hKX.1
  have hx := S.1
  have hb := S.2.1
  have hml := S.2.2.1
  have hown := S.2.2.2.1
  have hts := S.2.2.2.2
  replace hl : lv_has ls 2 [(0, .ref (ad G 8 0)), (1, .int x1)] := hl
  have b28 : ∀ (M : Mem) (H : Heap) (locs : List Loc) (ls : Array Slot), WPm G M H → va_S (fun q => bs G ≤ q) s.heap H locs → lv_has ls 2 [(0, .ref (ad G 8 0))] → s_X2_readSign_28 P M  → W p l e rm_X2_readSign s m AV below meth c H locs 0 0 (MQ below (va_Qv P (WS G) (fun q => bs G ≤ q)) AV s 0 0 (fun q => bs G ≤ q)) (F0 m 28 ls []) := by
    intro M H locs ls hW hS hl h
    unfold s_X2_readSign_28 at h
    refine lv_aload_n hx hb dX2_readSign_28 rfl (lv_at hl 0 rfl) ?_
    refine m_cv0 (m_rV S hKX hW (m_szH hbs hS) (c_X2_fail l ) h lk_X2_77 (m_recv hK hW (ci_8 (Nat.le_of_ble_eq_true rfl)) (rc_8 G) rfl) rfl hl.1 rfl ⟨Nat.le_of_ble_eq_true rfl, Nat.le_of_ble_eq_true rfl⟩ (Nat.le_of_ble_eq_true rfl) ⟨Nat.le_of_ble_eq_true rfl, Nat.le_of_ble_eq_true rfl⟩ dX2_readSign_29) hS rfl rfl (fun Mm29 H locs h hW hS => ?_)
    exact m_vret S hret hlocks hKX hW hbs hS h dX2_readSign_32
  unfold s_X2_readSign at h
  refine lv_aload_n hx hb dX2_readSign_0 rfl (lv_at hl 0 rfl) ?_
  refine m_geti S hK fk_X2_37 (gi_8_6 G) hW (ci_8 (Nat.le_of_ble_eq_true rfl)) dX2_readSign_1 ?_
  refine lv_if_ge (tgt := 28) hx hb dX2_readSign_4 (by decide) (fun c4 => ?_) (fun c4 => ?_)
  · replace h := h.1 c4
    exact b28 _ H locs ls hW hS (lv_sub hl [0] rfl) h
  · replace h := h.2 c4
    refine lv_aload_n hx hb dX2_readSign_7 rfl (lv_at hl 0 rfl) ?_
    refine m_ci0 (m_rV S hKX hW (m_szH hbs hS) (c_X2_here l ) h lk_X2_43 (m_recv hK hW (ci_8 (Nat.le_of_ble_eq_true rfl)) (rc_8 G) rfl) rfl hl.1 rfl ⟨Nat.le_of_ble_eq_true rfl, Nat.le_of_ble_eq_true rfl⟩ (Nat.le_of_ble_eq_true rfl) ⟨Nat.le_of_ble_eq_true rfl, Nat.le_of_ble_eq_true rfl⟩ dX2_readSign_8) hS rfl rfl (fun rr8 Mm8 H locs h hW hS => ?_)
    refine lv_iload_n hx hb dX2_readSign_11 rfl (lv_at hl 1 rfl) ?_
    refine lv_icmp_ne (tgt := 28) hx hb dX2_readSign_12 (by decide) (fun c12 => ?_) (fun c12 => ?_)
    · replace h := h.1 c12
      exact b28 _ H locs ls hW hS (lv_sub hl [0] rfl) h
    · replace h := h.2 c12
      refine lv_aload_n hx hb dX2_readSign_15 rfl (lv_at hl 0 rfl) ?_
      refine lv_dup hx hb dX2_readSign_16 rfl ?_
      refine m_geti S hK fk_X2_34 (gi_8_5 G) hW (ci_8 (Nat.le_of_ble_eq_true rfl)) dX2_readSign_17 ?_
      refine lv_iconst hx hb dX2_readSign_20 ki_1 ?_
      refine lv_iadd hx hb dX2_readSign_21 ?_
      refine m_put S hK fk_X2_34 tyX2_ok nmX2 rfl pf_X2_5 (pv_8_5 G) hW hS (ci_8 (Nat.le_of_ble_eq_true rfl)) rfl rfl dX2_readSign_22 (fun Mm22 eMm22 H locs hW hS => ?_)
      replace h := h Mm22 eMm22
      refine lv_goto (tgt := 32) hx hb dX2_readSign_25 (by decide) ?_
      exact m_vret S hret hlocks hKX hW hbs hS h dX2_readSign_32
abbrev rm_X2_isDigit : Room := { frames := 0, cells := 0, slots := 0, locals := 0 }
set_option maxHeartbeats 4000000 in
set_option maxRecDepth 100000 in
theorem c_X2_isDigit (l : Launch) {G : Gn} {M : Mem} {x0 : Int32} {P : Int32 → Mem → Prop} : MQi l yX2_isDigit cX2_isDigit 1 (some .boolean) rm_X2_isDigit [.int x0] G M (s_X2_isDigit M x0 P) P := by
  refine m_enter (by decide +kernel) (Nat.le_of_ble_eq_true rfl) ?_
  intro p e s m below meth c ls H locs S hret hlocks hname hKX hbs hW hS hl h
  obtain ⟨AV, hAV⟩ : ∃ z : Array Value, z = ([.int x0] : List Value).toArray := ⟨_, rfl⟩
  rw [← hAV] at S ⊢
  replace S : CallFix p m c cX2_isDigit 1 s AV lw_G "MilkDesk$ActReader" := S
  have hK := hKX.1
  have hx := S.1
  have hb := S.2.1
  have hml := S.2.2.1
  have hown := S.2.2.2.1
  have hts := S.2.2.2.2
  replace hl : lv_has ls 1 [(0, .int x0)] := hl
  unfold s_X2_isDigit at h
  refine lv_iload_n hx hb dX2_isDigit_0 rfl (lv_at hl 0 rfl) ?_
  refine lv_bipush hx hb dX2_isDigit_1 kb_48 ?_
  refine lv_icmp_lt (tgt := 16) hx hb dX2_isDigit_3 (by decide) (fun c3 => ?_) (fun c3 => ?_)
  · replace h := h.1 c3
    refine lv_iconst hx hb dX2_isDigit_16 ki_0 ?_
    exact m_iret S hret hlocks hKX hW hbs hS rfl h dX2_isDigit_17
  · replace h := h.2 c3
    refine lv_iload_n hx hb dX2_isDigit_6 rfl (lv_at hl 0 rfl) ?_
    refine lv_bipush hx hb dX2_isDigit_7 kb_57 ?_
    refine lv_icmp_gt (tgt := 16) hx hb dX2_isDigit_9 (by decide) (fun c9 => ?_) (fun c9 => ?_)
    · replace h := h.1 c9
      refine lv_iconst hx hb dX2_isDigit_16 ki_0 ?_
      exact m_iret S hret hlocks hKX hW hbs hS rfl h dX2_isDigit_17
    · replace h := h.2 c9
      refine lv_iconst hx hb dX2_isDigit_12 ki_1 ?_
      refine lv_goto (tgt := 17) hx hb dX2_isDigit_13 (by decide) ?_
      exact m_iret S hret hlocks hKX hW hbs hS rfl h dX2_isDigit_17
abbrev rm_X2_addStep : Room := { frames := 0, cells := 0, slots := 0, locals := 0 }
set_option maxHeartbeats 4000000 in
set_option maxRecDepth 100000 in
theorem c_X2_addStep (l : Launch) {G : Gn} {M : Mem} {x1 : Int32} {P : Mem → Prop} : MQv l yX2_addStep cX2_addStep 2 none rm_X2_addStep [.ref (ad G 8 0), .int x1] G M (s_X2_addStep M x1 P) P := by
  refine m_enter (by decide +kernel) (Nat.le_of_ble_eq_true rfl) ?_
  intro p e s m below meth c ls H locs S hret hlocks hname hKX hbs hW hS hl h
  obtain ⟨AV, hAV⟩ : ∃ z : Array Value, z = ([.ref (ad G 8 0), .int x1] : List Value).toArray := ⟨_, rfl⟩
  rw [← hAV] at S ⊢
  replace S : CallFix p m c cX2_addStep 2 s AV lw_G "MilkDesk$ActReader" := S
  have hK := hKX.1
  have hx := S.1
  have hb := S.2.1
  have hml := S.2.2.1
  have hown := S.2.2.2.1
  have hts := S.2.2.2.2
  replace hl : lv_has ls 2 [(0, .ref (ad G 8 0)), (1, .int x1)] := hl
  unfold s_X2_addStep at h
  refine lv_aload_n hx hb dX2_addStep_0 rfl (lv_at hl 0 rfl) ?_
  refine m_geti S hK fk_X2_40 (gi_8_1 G) hW (ci_8 (Nat.le_of_ble_eq_true rfl)) dX2_addStep_1 ?_
  refine lv_aload_n hx hb dX2_addStep_4 rfl (lv_at hl 0 rfl) ?_
  refine m_getr S hK fk_X2_9 (gr_8_0 G 0) hW (ci_8 (Nat.le_of_ble_eq_true rfl)) dX2_addStep_5 ?_
  refine m_alen S hK (ar_40 G) hW (ci_40 (Nat.le_of_ble_eq_true rfl)) al_80 dX2_addStep_8 ?_
  refine lv_icmp_ge (tgt := 32) hx hb dX2_addStep_9 (by decide) (fun c9 => ?_) (fun c9 => ?_)
  · replace h := h.1 c9
    exact m_vret S hret hlocks hKX hW hbs hS h dX2_addStep_32
  · replace h := h.2 c9
    refine lv_aload_n hx hb dX2_addStep_12 rfl (lv_at hl 0 rfl) ?_
    refine m_getr S hK fk_X2_9 (gr_8_0 G 0) hW (ci_8 (Nat.le_of_ble_eq_true rfl)) dX2_addStep_13 ?_
    refine lv_aload_n hx hb dX2_addStep_16 rfl (lv_at hl 0 rfl) ?_
    refine m_geti S hK fk_X2_40 (gi_8_1 G) hW (ci_8 (Nat.le_of_ble_eq_true rfl)) dX2_addStep_17 ?_
    refine lv_iload_n hx hb dX2_addStep_20 rfl (lv_at hl 1 rfl) ?_
    obtain ⟨hb21, h⟩ := h
    refine m_ast S hK (ar_40 G) hW hS (ci_40 (Nat.le_of_ble_eq_true rfl)) hb21 dX2_addStep_21 (fun Mm21 eMm21 H locs hW hS => ?_)
    replace h := h Mm21 eMm21
    refine lv_aload_n hx hb dX2_addStep_22 rfl (lv_at hl 0 rfl) ?_
    refine lv_dup hx hb dX2_addStep_23 rfl ?_
    refine m_geti S hK fk_X2_40 (gi_8_1 G) hW (ci_8 (Nat.le_of_ble_eq_true rfl)) dX2_addStep_24 ?_
    refine lv_iconst hx hb dX2_addStep_27 ki_1 ?_
    refine lv_iadd hx hb dX2_addStep_28 ?_
    refine m_put S hK fk_X2_40 tyX2_ok nmX2 rfl pf_X2_1 (pv_8_1 G) hW hS (ci_8 (Nat.le_of_ble_eq_true rfl)) rfl rfl dX2_addStep_29 (fun Mm29 eMm29 H locs hW hS => ?_)
    replace h := h Mm29 eMm29
    exact m_vret S hret hlocks hKX hW hbs hS h dX2_addStep_32
abbrev rm_X2_readNumber : Room := { frames := 1, cells := 0, slots := 0, locals := 21 }
set_option maxHeartbeats 4000000 in
set_option maxRecDepth 100000 in
theorem c_X2_readNumber (l : Launch) {G : Gn} {M : Mem} {P : Mem → Prop} : MQv l yX2_readNumber cX2_readNumber 4 none rm_X2_readNumber [.ref (ad G 8 0)] G M (s_X2_readNumber M P) P := by
  refine m_enter (by decide +kernel) (Nat.le_of_ble_eq_true rfl) ?_
  intro p e s m below meth c ls H locs S hret hlocks hname hKX hbs hW hS hl h
  obtain ⟨AV, hAV⟩ : ∃ z : Array Value, z = ([.ref (ad G 8 0)] : List Value).toArray := ⟨_, rfl⟩
  rw [← hAV] at S ⊢
  replace S : CallFix p m c cX2_readNumber 4 s AV lw_G "MilkDesk$ActReader" := S
  have hK := hKX.1
  have hx := S.1
  have hb := S.2.1
  have hml := S.2.2.1
  have hown := S.2.2.2.1
  have hts := S.2.2.2.2
  replace hl : lv_has ls 4 [(0, .ref (ad G 8 0))] := hl
  have b63 : ∀ (M : Mem) (x2 : Int32) (H : Heap) (locs : List Loc) (ls : Array Slot), WPm G M H → va_S (fun q => bs G ≤ q) s.heap H locs → lv_has ls 4 [(0, .ref (ad G 8 0)), (2, .int x2)] → s_X2_readNumber_63 P M x2 → W p l e rm_X2_readNumber s m AV below meth c H locs 0 0 (MQ below (va_Qv P (WS G) (fun q => bs G ≤ q)) AV s 0 0 (fun q => bs G ≤ q)) (F0 m 63 ls []) := by
    intro M x2 H locs ls hW hS hl h
    unfold s_X2_readNumber_63 at h
    refine lv_aload_n hx hb dX2_readNumber_63 rfl (lv_at hl 0 rfl) ?_
    refine lv_iload_n hx hb dX2_readNumber_64 rfl (lv_at hl 1 rfl) ?_
    refine m_cv0 (m_rV S hKX hW (m_szH hbs hS) (c_X2_addStep l ) h lk_X2_63 (m_recv hK hW (ci_8 (Nat.le_of_ble_eq_true rfl)) (rc_8 G) rfl) rfl hl.1 rfl ⟨Nat.le_of_ble_eq_true rfl, Nat.le_of_ble_eq_true rfl⟩ (Nat.le_of_ble_eq_true rfl) ⟨Nat.le_of_ble_eq_true rfl, Nat.le_of_ble_eq_true rfl⟩ dX2_readNumber_65) hS rfl rfl (fun Mm65 H locs h hW hS => ?_)
    exact m_vret S hret hlocks hKX hW hbs hS h dX2_readNumber_68
  have w19 : ∀ (x1 : Int32), ∀ (n : Nat) (a : Mem × Int32 × Int32), Lz (fun (K19 : Mem × Int32 × Int32 → Prop) (a : Mem × Int32 × Int32) => s_X2_readNumber_19 x1 P K19 a.1 a.2.1 a.2.2) n a → ∀ (H : Heap) (locs : List Loc) (ls : Array Slot), WPm G a.1 H → va_S (fun q => bs G ≤ q) s.heap H locs → lv_has ls 4 [(0, .ref (ad G 8 0)), (1, .int x1), (2, .int a.2.1), (3, .int a.2.2)] → W p l e rm_X2_readNumber s m AV below meth c H locs 0 0 (MQ below (va_Qv P (WS G) (fun q => bs G ≤ q)) AV s 0 0 (fun q => bs G ≤ q)) (F0 m 19 ls []) := by
    intro x1
    refine Lz_walk ?_
    rintro K19 kk19 ⟨M, x2, x3⟩ h H locs ls hW hS hl
    replace h : s_X2_readNumber_19 x1 P K19 M x2 x3 := h
    replace hW : WPm G M H := hW
    replace hl : lv_has ls 4 [(0, .ref (ad G 8 0)), (1, .int x1), (2, .int x2), (3, .int x3)] := hl
    unfold s_X2_readNumber_19 at h
    refine lv_iload_n hx hb dX2_readNumber_19 rfl (lv_at hl 3 rfl) ?_
    refine lv_iload_n hx hb dX2_readNumber_20 rfl (lv_at hl 1 rfl) ?_
    refine lv_icmp_ge (tgt := 63) hx hb dX2_readNumber_21 (by decide) (fun c21 => ?_) (fun c21 => ?_)
    · replace h := h.1 c21
      exact b63 _ _ H locs ls hW hS (lv_sub hl [0, 2] rfl) h
    · replace h := h.2 c21
      refine lv_aload_n hx hb dX2_readNumber_24 rfl (lv_at hl 0 rfl) ?_
      refine m_ci0 (m_rV S hKX hW (m_szH hbs hS) (c_X2_here l ) h lk_X2_43 (m_recv hK hW (ci_8 (Nat.le_of_ble_eq_true rfl)) (rc_8 G) rfl) rfl hl.1 rfl ⟨Nat.le_of_ble_eq_true rfl, Nat.le_of_ble_eq_true rfl⟩ (Nat.le_of_ble_eq_true rfl) ⟨Nat.le_of_ble_eq_true rfl, Nat.le_of_ble_eq_true rfl⟩ dX2_readNumber_25) hS rfl rfl (fun rr25 Mm25 H locs h hW hS => ?_)
      refine m_ci0 (m_rS S hKX hW (m_szH hbs hS) (c_X2_isDigit l ) h lk_X2_104 rfl hl.1 rfl ⟨Nat.le_of_ble_eq_true rfl, Nat.le_of_ble_eq_true rfl⟩ (Nat.le_of_ble_eq_true rfl) ⟨Nat.le_of_ble_eq_true rfl, Nat.le_of_ble_eq_true rfl⟩ dX2_readNumber_28) hS rfl rfl (fun rr28 Mm28 H locs h hW hS => ?_)
      refine lv_if_eq (tgt := 63) hx hb dX2_readNumber_31 (by decide) (fun c31 => ?_) (fun c31 => ?_)
      · replace h := h.1 c31
        exact b63 _ _ H locs ls hW hS (lv_sub hl [0, 2] rfl) h
      · replace h := h.2 c31
        refine lv_iload_n hx hb dX2_readNumber_34 rfl (lv_at hl 2 rfl) ?_
        refine lv_bipush hx hb dX2_readNumber_35 kb_10 ?_
        refine lv_imul hx hb dX2_readNumber_37 ?_
        refine lv_aload_n hx hb dX2_readNumber_38 rfl (lv_at hl 0 rfl) ?_
        refine m_ci0 (m_rV S hKX hW (m_szH hbs hS) (c_X2_here l ) h lk_X2_43 (m_recv hK hW (ci_8 (Nat.le_of_ble_eq_true rfl)) (rc_8 G) rfl) rfl hl.1 rfl ⟨Nat.le_of_ble_eq_true rfl, Nat.le_of_ble_eq_true rfl⟩ (Nat.le_of_ble_eq_true rfl) ⟨Nat.le_of_ble_eq_true rfl, Nat.le_of_ble_eq_true rfl⟩ dX2_readNumber_39) hS rfl rfl (fun rr39 Mm39 H locs h hW hS => ?_)
        refine lv_iadd hx hb dX2_readNumber_42 ?_
        refine lv_bipush hx hb dX2_readNumber_43 kb_48 ?_
        refine lv_isub hx hb dX2_readNumber_45 ?_
        refine lv_topi (fun x2_46 ex2_46 => ?_)
        replace h := h x2_46 ex2_46
        refine lv_istore_n (lv' := [(2, .int x2_46), (0, .ref (ad G 8 0)), (1, .int x1), (3, .int x3)]) hx hb dX2_readNumber_46 rfl hl (by decide) rfl (fun ls hl => ?_)
        refine lv_aload_n hx hb dX2_readNumber_47 rfl (lv_at hl 1 rfl) ?_
        refine lv_dup hx hb dX2_readNumber_48 rfl ?_
        refine m_geti S hK fk_X2_34 (gi_8_5 G) hW (ci_8 (Nat.le_of_ble_eq_true rfl)) dX2_readNumber_49 ?_
        refine lv_iconst hx hb dX2_readNumber_52 ki_1 ?_
        refine lv_iadd hx hb dX2_readNumber_53 ?_
        refine m_put S hK fk_X2_34 tyX2_ok nmX2 rfl pf_X2_5 (pv_8_5 G) hW hS (ci_8 (Nat.le_of_ble_eq_true rfl)) rfl rfl dX2_readNumber_54 (fun Mm54 eMm54 H locs hW hS => ?_)
        replace h := h Mm54 eMm54
        obtain ⟨x3_57, ex3_57⟩ : ∃ z : Int32, z = x3 + (1 : Int32) := ⟨_, rfl⟩
        replace h := h x3_57 ex3_57
        refine lv_iinc (v := x3_57) (lv' := [(3, .int x3_57), (2, .int x2_46), (0, .ref (ad G 8 0)), (1, .int x1)]) hx hb dX2_readNumber_57 hl (k := 3) rfl (by rw [ex3_57, ki_1]) (by decide) rfl (fun ls hl => ?_)
        refine lv_goto (tgt := 19) hx hb dX2_readNumber_60 (by decide) ?_
        exact kk19 _ h H locs ls hW hS (lv_sub hl [2, 3, 1, 0] rfl)
  have b14 : ∀ (M : Mem) (y0 : Int32) (H : Heap) (locs : List Loc) (ls : Array Slot), WPm G M H → va_S (fun q => bs G ≤ q) s.heap H locs → lv_has ls 4 [(0, .ref (ad G 8 0))] → s_X2_readNumber_14 P M y0 → W p l e rm_X2_readNumber s m AV below meth c H locs 0 0 (MQ below (va_Qv P (WS G) (fun q => bs G ≤ q)) AV s 0 0 (fun q => bs G ≤ q)) (F0 m 14 ls [.int y0]) := by
    intro M y0 H locs ls hW hS hl h
    unfold s_X2_readNumber_14 at h
    refine lv_istore_n (lv' := [(1, .int y0), (0, .ref (ad G 8 0))]) hx hb dX2_readNumber_14 rfl hl (by decide) rfl (fun ls hl => ?_)
    refine lv_iconst hx hb dX2_readNumber_15 ki_0 ?_
    refine lv_istore_n (lv' := [(2, .int (0 : Int32)), (1, .int y0), (0, .ref (ad G 8 0))]) hx hb dX2_readNumber_16 rfl hl (by decide) rfl (fun ls hl => ?_)
    refine lv_iconst hx hb dX2_readNumber_17 ki_0 ?_
    refine lv_istore_n (lv' := [(3, .int (0 : Int32)), (2, .int (0 : Int32)), (1, .int y0), (0, .ref (ad G 8 0))]) hx hb dX2_readNumber_18 rfl hl (by decide) rfl (fun ls hl => ?_)
    obtain ⟨n19, h⟩ := h
    exact w19 _ n19 _ h H locs ls hW hS (lv_sub hl [3, 2, 1, 0] rfl)
  unfold s_X2_readNumber at h
  refine lv_aload_n hx hb dX2_readNumber_0 rfl (lv_at hl 0 rfl) ?_
  refine m_ci0 (m_rV S hKX hW (m_szH hbs hS) (c_X2_here l ) h lk_X2_43 (m_recv hK hW (ci_8 (Nat.le_of_ble_eq_true rfl)) (rc_8 G) rfl) rfl hl.1 rfl ⟨Nat.le_of_ble_eq_true rfl, Nat.le_of_ble_eq_true rfl⟩ (Nat.le_of_ble_eq_true rfl) ⟨Nat.le_of_ble_eq_true rfl, Nat.le_of_ble_eq_true rfl⟩ dX2_readNumber_1) hS rfl rfl (fun rr1 Mm1 H locs h hW hS => ?_)
  refine lv_bipush hx hb dX2_readNumber_4 kb_48 ?_
  refine lv_icmp_ne (tgt := 13) hx hb dX2_readNumber_6 (by decide) (fun c6 => ?_) (fun c6 => ?_)
  · replace h := h.1 c6
    refine lv_iconst hx hb dX2_readNumber_13 ki_4 ?_
    exact b14 _ _ H locs ls hW hS (lv_sub hl [0] rfl) h
  · replace h := h.2 c6
    refine lv_iconst hx hb dX2_readNumber_9 ki_1 ?_
    refine lv_goto (tgt := 14) hx hb dX2_readNumber_10 (by decide) ?_
    exact b14 _ _ H locs ls hW hS (lv_sub hl [0] rfl) h
abbrev rm_X2_readAtom : Room := { frames := 7, cells := 0, slots := 0, locals := 221 }
set_option maxHeartbeats 4000000 in
set_option maxRecDepth 100000 in
theorem c_X2_readAtom (l : Launch) {G : Gn} {M : Mem} {P : Mem → Prop} : MQv l yX2_readAtom cX2_readAtom 2 none rm_X2_readAtom [.ref (ad G 8 0)] G M (s_X2_readAtom M P) P := by
  refine m_enter (by decide +kernel) (Nat.le_of_ble_eq_true rfl) ?_
  intro p e s m below meth c ls H locs S hret hlocks hname hKX hbs hW hS hl h
  obtain ⟨AV, hAV⟩ : ∃ z : Array Value, z = ([.ref (ad G 8 0)] : List Value).toArray := ⟨_, rfl⟩
  rw [← hAV] at S ⊢
  replace S : CallFix p m c cX2_readAtom 2 s AV lw_G "MilkDesk$ActReader" := S
  have hK := hKX.1
  have hx := S.1
  have hb := S.2.1
  have hml := S.2.2.1
  have hown := S.2.2.2.1
  have hts := S.2.2.2.2
  replace hl : lv_has ls 2 [(0, .ref (ad G 8 0))] := hl
  unfold s_X2_readAtom at h
  refine lv_aload_n hx hb dX2_readAtom_0 rfl (lv_at hl 0 rfl) ?_
  refine m_geti S hK fk_X2_37 (gi_8_6 G) hW (ci_8 (Nat.le_of_ble_eq_true rfl)) dX2_readAtom_1 ?_
  refine lv_if_lt (tgt := 8) hx hb dX2_readAtom_4 (by decide) (fun c4 => ?_) (fun c4 => ?_)
  · replace h := h.1 c4
    refine lv_aload_n hx hb dX2_readAtom_8 rfl (lv_at hl 0 rfl) ?_
    refine m_ci0 (m_rV S hKX hW (m_szH hbs hS) (c_X2_here l ) h lk_X2_43 (m_recv hK hW (ci_8 (Nat.le_of_ble_eq_true rfl)) (rc_8 G) rfl) rfl hl.1 rfl ⟨Nat.le_of_ble_eq_true rfl, Nat.le_of_ble_eq_true rfl⟩ (Nat.le_of_ble_eq_true rfl) ⟨Nat.le_of_ble_eq_true rfl, Nat.le_of_ble_eq_true rfl⟩ dX2_readAtom_9) hS rfl rfl (fun rr9 Mm9 H locs h hW hS => ?_)
    refine va_ldcS hx hb hown (xf_102 hKX.2) dX2_readAtom_12 ?_
    refine m_ci0 (m_rS S hKX hW (m_szH hbs hS) (c_X2_placeOf l (k := 0) (Nat.le_of_ble_eq_true rfl)) h lk_X2_49 rfl hl.1 rfl ⟨Nat.le_of_ble_eq_true rfl, Nat.le_of_ble_eq_true rfl⟩ (Nat.le_of_ble_eq_true rfl) ⟨Nat.le_of_ble_eq_true rfl, Nat.le_of_ble_eq_true rfl⟩ dX2_readAtom_14) hS rfl rfl (fun rr14 Mm14 H locs h hW hS => ?_)
    refine lv_istore_n (lv' := [(1, .int rr14), (0, .ref (ad G 8 0))]) hx hb dX2_readAtom_17 rfl hl (by decide) rfl (fun ls hl => ?_)
    refine lv_aload_n hx hb dX2_readAtom_18 rfl (lv_at hl 1 rfl) ?_
    refine m_ci0 (m_rV S hKX hW (m_szH hbs hS) (c_X2_here l ) h lk_X2_43 (m_recv hK hW (ci_8 (Nat.le_of_ble_eq_true rfl)) (rc_8 G) rfl) rfl hl.1 rfl ⟨Nat.le_of_ble_eq_true rfl, Nat.le_of_ble_eq_true rfl⟩ (Nat.le_of_ble_eq_true rfl) ⟨Nat.le_of_ble_eq_true rfl, Nat.le_of_ble_eq_true rfl⟩ dX2_readAtom_19) hS rfl rfl (fun rr19 Mm19 H locs h hW hS => ?_)
    refine m_ci0 (m_rS S hKX hW (m_szH hbs hS) (c_X2_isDigit l ) h lk_X2_104 rfl hl.1 rfl ⟨Nat.le_of_ble_eq_true rfl, Nat.le_of_ble_eq_true rfl⟩ (Nat.le_of_ble_eq_true rfl) ⟨Nat.le_of_ble_eq_true rfl, Nat.le_of_ble_eq_true rfl⟩ dX2_readAtom_22) hS rfl rfl (fun rr22 Mm22 H locs h hW hS => ?_)
    refine lv_if_eq (tgt := 35) hx hb dX2_readAtom_25 (by decide) (fun c25 => ?_) (fun c25 => ?_)
    · replace h := h.1 c25
      refine lv_iload_n hx hb dX2_readAtom_35 rfl (lv_at hl 0 rfl) ?_
      refine lv_if_lt (tgt := 61) hx hb dX2_readAtom_36 (by decide) (fun c36 => ?_) (fun c36 => ?_)
      · replace h := h.1 c36
        refine lv_aload_n hx hb dX2_readAtom_61 rfl (lv_at hl 1 rfl) ?_
        refine m_cv0 (m_rV S hKX hW (m_szH hbs hS) (c_X2_fail l ) h lk_X2_77 (m_recv hK hW (ci_8 (Nat.le_of_ble_eq_true rfl)) (rc_8 G) rfl) rfl hl.1 rfl ⟨Nat.le_of_ble_eq_true rfl, Nat.le_of_ble_eq_true rfl⟩ (Nat.le_of_ble_eq_true rfl) ⟨Nat.le_of_ble_eq_true rfl, Nat.le_of_ble_eq_true rfl⟩ dX2_readAtom_62) hS rfl rfl (fun Mm62 H locs h hW hS => ?_)
        exact m_vret S hret hlocks hKX hW hbs hS h dX2_readAtom_65
      · replace h := h.2 c36
        refine lv_aload_n hx hb dX2_readAtom_39 rfl (lv_at hl 1 rfl) ?_
        refine lv_sipush hx hb dX2_readAtom_40 ks_10000 ?_
        refine lv_iload_n hx hb dX2_readAtom_43 rfl (lv_at hl 0 rfl) ?_
        refine lv_iadd hx hb dX2_readAtom_44 ?_
        refine m_cv0 (m_rV S hKX hW (m_szH hbs hS) (c_X2_addStep l ) h lk_X2_63 (m_recv hK hW (ci_8 (Nat.le_of_ble_eq_true rfl)) (rc_8 G) rfl) rfl hl.1 rfl ⟨Nat.le_of_ble_eq_true rfl, Nat.le_of_ble_eq_true rfl⟩ (Nat.le_of_ble_eq_true rfl) ⟨Nat.le_of_ble_eq_true rfl, Nat.le_of_ble_eq_true rfl⟩ dX2_readAtom_45) hS rfl rfl (fun Mm45 H locs h hW hS => ?_)
        refine lv_aload_n hx hb dX2_readAtom_48 rfl (lv_at hl 1 rfl) ?_
        refine lv_dup hx hb dX2_readAtom_49 rfl ?_
        refine m_geti S hK fk_X2_34 (gi_8_5 G) hW (ci_8 (Nat.le_of_ble_eq_true rfl)) dX2_readAtom_50 ?_
        refine lv_iconst hx hb dX2_readAtom_53 ki_1 ?_
        refine lv_iadd hx hb dX2_readAtom_54 ?_
        refine m_put S hK fk_X2_34 tyX2_ok nmX2 rfl pf_X2_5 (pv_8_5 G) hW hS (ci_8 (Nat.le_of_ble_eq_true rfl)) rfl rfl dX2_readAtom_55 (fun Mm55 eMm55 H locs hW hS => ?_)
        replace h := h Mm55 eMm55
        refine lv_goto (tgt := 65) hx hb dX2_readAtom_58 (by decide) ?_
        exact m_vret S hret hlocks hKX hW hbs hS h dX2_readAtom_65
    · replace h := h.2 c25
      refine lv_aload_n hx hb dX2_readAtom_28 rfl (lv_at hl 1 rfl) ?_
      refine m_cv0 (m_rV S hKX hW (m_szH hbs hS) (c_X2_readNumber l ) h lk_X2_108 (m_recv hK hW (ci_8 (Nat.le_of_ble_eq_true rfl)) (rc_8 G) rfl) rfl hl.1 rfl ⟨Nat.le_of_ble_eq_true rfl, Nat.le_of_ble_eq_true rfl⟩ (Nat.le_of_ble_eq_true rfl) ⟨Nat.le_of_ble_eq_true rfl, Nat.le_of_ble_eq_true rfl⟩ dX2_readAtom_29) hS rfl rfl (fun Mm29 H locs h hW hS => ?_)
      refine lv_goto (tgt := 65) hx hb dX2_readAtom_32 (by decide) ?_
      exact m_vret S hret hlocks hKX hW hbs hS h dX2_readAtom_65
  · replace h := h.2 c4
    exact m_vret S hret hlocks hKX hW hbs hS h dX2_readAtom_7
abbrev rm_X2_readSum : Room := { frames := 8, cells := 0, slots := 0, locals := 242 }
set_option maxHeartbeats 4000000 in
set_option maxRecDepth 100000 in
theorem c_X2_readSum (l : Launch) {G : Gn} {M : Mem} {P : Mem → Prop} : MQv l yX2_readSum cX2_readSum 3 none rm_X2_readSum [.ref (ad G 8 0)] G M (s_X2_readSum M P) P := by
  refine m_enter (by decide +kernel) (Nat.le_of_ble_eq_true rfl) ?_
  intro p e s m below meth c ls H locs S hret hlocks hname hKX hbs hW hS hl h
  obtain ⟨AV, hAV⟩ : ∃ z : Array Value, z = ([.ref (ad G 8 0)] : List Value).toArray := ⟨_, rfl⟩
  rw [← hAV] at S ⊢
  replace S : CallFix p m c cX2_readSum 3 s AV lw_G "MilkDesk$ActReader" := S
  have hK := hKX.1
  have hx := S.1
  have hb := S.2.1
  have hml := S.2.2.1
  have hown := S.2.2.2.1
  have hts := S.2.2.2.2
  replace hl : lv_has ls 3 [(0, .ref (ad G 8 0))] := hl
  have w6 : ∀ (n : Nat) (a : Mem × Int32), Lz (fun (K6 : Mem × Int32 → Prop) (a : Mem × Int32) => s_X2_readSum_6 P K6 a.1 a.2) n a → ∀ (H : Heap) (locs : List Loc) (ls : Array Slot), WPm G a.1 H → va_S (fun q => bs G ≤ q) s.heap H locs → lv_has ls 3 [(0, .ref (ad G 8 0)), (1, .int a.2)] → W p l e rm_X2_readSum s m AV below meth c H locs 0 0 (MQ below (va_Qv P (WS G) (fun q => bs G ≤ q)) AV s 0 0 (fun q => bs G ≤ q)) (F0 m 6 ls []) := by
    refine Lz_walk ?_
    rintro K6 kk6 ⟨M, x1⟩ h H locs ls hW hS hl
    replace h : s_X2_readSum_6 P K6 M x1 := h
    replace hW : WPm G M H := hW
    replace hl : lv_has ls 3 [(0, .ref (ad G 8 0)), (1, .int x1)] := hl
    unfold s_X2_readSum_6 at h
    refine lv_iload_n hx hb dX2_readSum_6 rfl (lv_at hl 1 rfl) ?_
    refine lv_aload_n hx hb dX2_readSum_7 rfl (lv_at hl 0 rfl) ?_
    refine m_geti S hK fk_X2_33 (gi_8_4 G) hW (ci_8 (Nat.le_of_ble_eq_true rfl)) dX2_readSum_8 ?_
    refine lv_icmp_ge (tgt := 64) hx hb dX2_readSum_11 (by decide) (fun c11 => ?_) (fun c11 => ?_)
    · replace h := h.1 c11
      exact m_vret S hret hlocks hKX hW hbs hS h dX2_readSum_64
    · replace h := h.2 c11
      refine lv_aload_n hx hb dX2_readSum_14 rfl (lv_at hl 0 rfl) ?_
      refine m_geti S hK fk_X2_37 (gi_8_6 G) hW (ci_8 (Nat.le_of_ble_eq_true rfl)) dX2_readSum_15 ?_
      refine lv_if_ge (tgt := 64) hx hb dX2_readSum_18 (by decide) (fun c18 => ?_) (fun c18 => ?_)
      · replace h := h.1 c18
        exact m_vret S hret hlocks hKX hW hbs hS h dX2_readSum_64
      · replace h := h.2 c18
        refine lv_aload_n hx hb dX2_readSum_21 rfl (lv_at hl 0 rfl) ?_
        refine m_ci0 (m_rV S hKX hW (m_szH hbs hS) (c_X2_here l ) h lk_X2_43 (m_recv hK hW (ci_8 (Nat.le_of_ble_eq_true rfl)) (rc_8 G) rfl) rfl hl.1 rfl ⟨Nat.le_of_ble_eq_true rfl, Nat.le_of_ble_eq_true rfl⟩ (Nat.le_of_ble_eq_true rfl) ⟨Nat.le_of_ble_eq_true rfl, Nat.le_of_ble_eq_true rfl⟩ dX2_readSum_22) hS rfl rfl (fun rr22 Mm22 H locs h hW hS => ?_)
        refine va_ldcS hx hb hown (xf_100 hKX.2) dX2_readSum_25 ?_
        refine m_ci0 (m_rS S hKX hW (m_szH hbs hS) (c_X2_placeOf l (k := 2) (Nat.le_of_ble_eq_true rfl)) h lk_X2_49 rfl hl.1 rfl ⟨Nat.le_of_ble_eq_true rfl, Nat.le_of_ble_eq_true rfl⟩ (Nat.le_of_ble_eq_true rfl) ⟨Nat.le_of_ble_eq_true rfl, Nat.le_of_ble_eq_true rfl⟩ dX2_readSum_27) hS rfl rfl (fun rr27 Mm27 H locs h hW hS => ?_)
        refine lv_if_lt (tgt := 64) hx hb dX2_readSum_30 (by decide) (fun c30 => ?_) (fun c30 => ?_)
        · replace h := h.1 c30
          exact m_vret S hret hlocks hKX hW hbs hS h dX2_readSum_64
        · replace h := h.2 c30
          refine lv_aload_n hx hb dX2_readSum_33 rfl (lv_at hl 0 rfl) ?_
          refine m_ci0 (m_rV S hKX hW (m_szH hbs hS) (c_X2_here l ) h lk_X2_43 (m_recv hK hW (ci_8 (Nat.le_of_ble_eq_true rfl)) (rc_8 G) rfl) rfl hl.1 rfl ⟨Nat.le_of_ble_eq_true rfl, Nat.le_of_ble_eq_true rfl⟩ (Nat.le_of_ble_eq_true rfl) ⟨Nat.le_of_ble_eq_true rfl, Nat.le_of_ble_eq_true rfl⟩ dX2_readSum_34) hS rfl rfl (fun rr34 Mm34 H locs h hW hS => ?_)
          refine lv_istore_n (lv' := [(2, .int rr34), (0, .ref (ad G 8 0)), (1, .int x1)]) hx hb dX2_readSum_37 rfl hl (by decide) rfl (fun ls hl => ?_)
          refine lv_aload_n hx hb dX2_readSum_38 rfl (lv_at hl 1 rfl) ?_
          refine lv_dup hx hb dX2_readSum_39 rfl ?_
          refine m_geti S hK fk_X2_34 (gi_8_5 G) hW (ci_8 (Nat.le_of_ble_eq_true rfl)) dX2_readSum_40 ?_
          refine lv_iconst hx hb dX2_readSum_43 ki_1 ?_
          refine lv_iadd hx hb dX2_readSum_44 ?_
          refine m_put S hK fk_X2_34 tyX2_ok nmX2 rfl pf_X2_5 (pv_8_5 G) hW hS (ci_8 (Nat.le_of_ble_eq_true rfl)) rfl rfl dX2_readSum_45 (fun Mm45 eMm45 H locs hW hS => ?_)
          replace h := h Mm45 eMm45
          refine lv_aload_n hx hb dX2_readSum_48 rfl (lv_at hl 1 rfl) ?_
          refine m_cv0 (m_rV S hKX hW (m_szH hbs hS) (c_X2_readAtom l ) h lk_X2_97 (m_recv hK hW (ci_8 (Nat.le_of_ble_eq_true rfl)) (rc_8 G) rfl) rfl hl.1 rfl ⟨Nat.le_of_ble_eq_true rfl, Nat.le_of_ble_eq_true rfl⟩ (Nat.le_of_ble_eq_true rfl) ⟨Nat.le_of_ble_eq_true rfl, Nat.le_of_ble_eq_true rfl⟩ dX2_readSum_49) hS rfl rfl (fun Mm49 H locs h hW hS => ?_)
          refine lv_aload_n hx hb dX2_readSum_52 rfl (lv_at hl 1 rfl) ?_
          refine lv_iload_n hx hb dX2_readSum_53 rfl (lv_at hl 0 rfl) ?_
          refine lv_ineg hx hb dX2_readSum_54 ?_
          refine m_cv0 (m_rV S hKX hW (m_szH hbs hS) (c_X2_addStep l ) h lk_X2_63 (m_recv hK hW (ci_8 (Nat.le_of_ble_eq_true rfl)) (rc_8 G) rfl) rfl hl.1 rfl ⟨Nat.le_of_ble_eq_true rfl, Nat.le_of_ble_eq_true rfl⟩ (Nat.le_of_ble_eq_true rfl) ⟨Nat.le_of_ble_eq_true rfl, Nat.le_of_ble_eq_true rfl⟩ dX2_readSum_55) hS rfl rfl (fun Mm55 H locs h hW hS => ?_)
          obtain ⟨x1_58, ex1_58⟩ : ∃ z : Int32, z = x1 + (1 : Int32) := ⟨_, rfl⟩
          replace h := h x1_58 ex1_58
          refine lv_iinc (v := x1_58) (lv' := [(1, .int x1_58), (2, .int rr34), (0, .ref (ad G 8 0))]) hx hb dX2_readSum_58 hl (k := 2) rfl (by rw [ex1_58, ki_1]) (by decide) rfl (fun ls hl => ?_)
          refine lv_goto (tgt := 6) hx hb dX2_readSum_61 (by decide) ?_
          exact kk6 _ h H locs ls hW hS (lv_sub hl [2, 0] rfl)
  unfold s_X2_readSum at h
  refine lv_aload_n hx hb dX2_readSum_0 rfl (lv_at hl 0 rfl) ?_
  refine m_cv0 (m_rV S hKX hW (m_szH hbs hS) (c_X2_readAtom l ) h lk_X2_97 (m_recv hK hW (ci_8 (Nat.le_of_ble_eq_true rfl)) (rc_8 G) rfl) rfl hl.1 rfl ⟨Nat.le_of_ble_eq_true rfl, Nat.le_of_ble_eq_true rfl⟩ (Nat.le_of_ble_eq_true rfl) ⟨Nat.le_of_ble_eq_true rfl, Nat.le_of_ble_eq_true rfl⟩ dX2_readSum_1) hS rfl rfl (fun Mm1 H locs h hW hS => ?_)
  refine lv_iconst hx hb dX2_readSum_4 ki_0 ?_
  refine lv_istore_n (lv' := [(1, .int (0 : Int32)), (0, .ref (ad G 8 0))]) hx hb dX2_readSum_5 rfl hl (by decide) rfl (fun ls hl => ?_)
  obtain ⟨n6, h⟩ := h
  exact w6 n6 _ h H locs ls hW hS (lv_sub hl [1, 0] rfl)
abbrev rm_X2_readComparison : Room := { frames := 9, cells := 0, slots := 0, locals := 264 }
set_option maxHeartbeats 4000000 in
set_option maxRecDepth 100000 in
theorem c_X2_readComparison (l : Launch) {G : Gn} {M : Mem} {P : Mem → Prop} : MQv l yX2_readComparison cX2_readComparison 2 none rm_X2_readComparison [.ref (ad G 8 0)] G M (s_X2_readComparison M P) P := by
  refine m_enter (by decide +kernel) (Nat.le_of_ble_eq_true rfl) ?_
  intro p e s m below meth c ls H locs S hret hlocks hname hKX hbs hW hS hl h
  obtain ⟨AV, hAV⟩ : ∃ z : Array Value, z = ([.ref (ad G 8 0)] : List Value).toArray := ⟨_, rfl⟩
  rw [← hAV] at S ⊢
  replace S : CallFix p m c cX2_readComparison 2 s AV lw_G "MilkDesk$ActReader" := S
  have hK := hKX.1
  have hx := S.1
  have hb := S.2.1
  have hml := S.2.2.1
  have hown := S.2.2.2.1
  have hts := S.2.2.2.2
  replace hl : lv_has ls 2 [(0, .ref (ad G 8 0))] := hl
  have b25 : ∀ (M : Mem) (H : Heap) (locs : List Loc) (ls : Array Slot), WPm G M H → va_S (fun q => bs G ≤ q) s.heap H locs → lv_has ls 2 [(0, .ref (ad G 8 0))] → s_X2_readComparison_25 P M  → W p l e rm_X2_readComparison s m AV below meth c H locs 0 0 (MQ below (va_Qv P (WS G) (fun q => bs G ≤ q)) AV s 0 0 (fun q => bs G ≤ q)) (F0 m 25 ls []) := by
    intro M H locs ls hW hS hl h
    unfold s_X2_readComparison_25 at h
    refine lv_aload_n hx hb dX2_readComparison_25 rfl (lv_at hl 0 rfl) ?_
    refine m_cv0 (m_rV S hKX hW (m_szH hbs hS) (c_X2_fail l ) h lk_X2_77 (m_recv hK hW (ci_8 (Nat.le_of_ble_eq_true rfl)) (rc_8 G) rfl) rfl hl.1 rfl ⟨Nat.le_of_ble_eq_true rfl, Nat.le_of_ble_eq_true rfl⟩ (Nat.le_of_ble_eq_true rfl) ⟨Nat.le_of_ble_eq_true rfl, Nat.le_of_ble_eq_true rfl⟩ dX2_readComparison_26) hS rfl rfl (fun Mm26 H locs h hW hS => ?_)
    exact m_vret S hret hlocks hKX hW hbs hS h dX2_readComparison_29
  unfold s_X2_readComparison at h
  refine lv_aload_n hx hb dX2_readComparison_0 rfl (lv_at hl 0 rfl) ?_
  refine m_cv0 (m_rV S hKX hW (m_szH hbs hS) (c_X2_readSum l ) h lk_X2_92 (m_recv hK hW (ci_8 (Nat.le_of_ble_eq_true rfl)) (rc_8 G) rfl) rfl hl.1 rfl ⟨Nat.le_of_ble_eq_true rfl, Nat.le_of_ble_eq_true rfl⟩ (Nat.le_of_ble_eq_true rfl) ⟨Nat.le_of_ble_eq_true rfl, Nat.le_of_ble_eq_true rfl⟩ dX2_readComparison_1) hS rfl rfl (fun Mm1 H locs h hW hS => ?_)
  refine lv_aload_n hx hb dX2_readComparison_4 rfl (lv_at hl 0 rfl) ?_
  refine m_ci0 (m_rV S hKX hW (m_szH hbs hS) (c_X2_here l ) h lk_X2_43 (m_recv hK hW (ci_8 (Nat.le_of_ble_eq_true rfl)) (rc_8 G) rfl) rfl hl.1 rfl ⟨Nat.le_of_ble_eq_true rfl, Nat.le_of_ble_eq_true rfl⟩ (Nat.le_of_ble_eq_true rfl) ⟨Nat.le_of_ble_eq_true rfl, Nat.le_of_ble_eq_true rfl⟩ dX2_readComparison_5) hS rfl rfl (fun rr5 Mm5 H locs h hW hS => ?_)
  refine lv_istore_n (lv' := [(1, .int rr5), (0, .ref (ad G 8 0))]) hx hb dX2_readComparison_8 rfl hl (by decide) rfl (fun ls hl => ?_)
  refine lv_aload_n hx hb dX2_readComparison_9 rfl (lv_at hl 1 rfl) ?_
  refine m_geti S hK fk_X2_37 (gi_8_6 G) hW (ci_8 (Nat.le_of_ble_eq_true rfl)) dX2_readComparison_10 ?_
  refine lv_if_ge (tgt := 25) hx hb dX2_readComparison_13 (by decide) (fun c13 => ?_) (fun c13 => ?_)
  · replace h := h.1 c13
    exact b25 _ H locs ls hW hS (lv_sub hl [1] rfl) h
  · replace h := h.2 c13
    refine lv_iload_n hx hb dX2_readComparison_16 rfl (lv_at hl 0 rfl) ?_
    refine va_ldcS hx hb hown (xf_95 hKX.2) dX2_readComparison_17 ?_
    refine m_ci0 (m_rS S hKX hW (m_szH hbs hS) (c_X2_placeOf l (k := 3) (Nat.le_of_ble_eq_true rfl)) h lk_X2_49 rfl hl.1 rfl ⟨Nat.le_of_ble_eq_true rfl, Nat.le_of_ble_eq_true rfl⟩ (Nat.le_of_ble_eq_true rfl) ⟨Nat.le_of_ble_eq_true rfl, Nat.le_of_ble_eq_true rfl⟩ dX2_readComparison_19) hS rfl rfl (fun rr19 Mm19 H locs h hW hS => ?_)
    refine lv_if_ge (tgt := 30) hx hb dX2_readComparison_22 (by decide) (fun c22 => ?_) (fun c22 => ?_)
    · replace h := h.1 c22
      refine lv_aload_n hx hb dX2_readComparison_30 rfl (lv_at hl 1 rfl) ?_
      refine lv_dup hx hb dX2_readComparison_31 rfl ?_
      refine m_geti S hK fk_X2_34 (gi_8_5 G) hW (ci_8 (Nat.le_of_ble_eq_true rfl)) dX2_readComparison_32 ?_
      refine lv_iconst hx hb dX2_readComparison_35 ki_1 ?_
      refine lv_iadd hx hb dX2_readComparison_36 ?_
      refine m_put S hK fk_X2_34 tyX2_ok nmX2 rfl pf_X2_5 (pv_8_5 G) hW hS (ci_8 (Nat.le_of_ble_eq_true rfl)) rfl rfl dX2_readComparison_37 (fun Mm37 eMm37 H locs hW hS => ?_)
      replace h := h Mm37 eMm37
      refine lv_aload_n hx hb dX2_readComparison_40 rfl (lv_at hl 1 rfl) ?_
      refine m_cv0 (m_rV S hKX hW (m_szH hbs hS) (c_X2_readSum l ) h lk_X2_92 (m_recv hK hW (ci_8 (Nat.le_of_ble_eq_true rfl)) (rc_8 G) rfl) rfl hl.1 rfl ⟨Nat.le_of_ble_eq_true rfl, Nat.le_of_ble_eq_true rfl⟩ (Nat.le_of_ble_eq_true rfl) ⟨Nat.le_of_ble_eq_true rfl, Nat.le_of_ble_eq_true rfl⟩ dX2_readComparison_41) hS rfl rfl (fun Mm41 H locs h hW hS => ?_)
      refine lv_aload_n hx hb dX2_readComparison_44 rfl (lv_at hl 1 rfl) ?_
      refine lv_iload_n hx hb dX2_readComparison_45 rfl (lv_at hl 0 rfl) ?_
      refine lv_ineg hx hb dX2_readComparison_46 ?_
      refine m_cv0 (m_rV S hKX hW (m_szH hbs hS) (c_X2_addStep l ) h lk_X2_63 (m_recv hK hW (ci_8 (Nat.le_of_ble_eq_true rfl)) (rc_8 G) rfl) rfl hl.1 rfl ⟨Nat.le_of_ble_eq_true rfl, Nat.le_of_ble_eq_true rfl⟩ (Nat.le_of_ble_eq_true rfl) ⟨Nat.le_of_ble_eq_true rfl, Nat.le_of_ble_eq_true rfl⟩ dX2_readComparison_47) hS rfl rfl (fun Mm47 H locs h hW hS => ?_)
      exact m_vret S hret hlocks hKX hW hbs hS h dX2_readComparison_50
    · replace h := h.2 c22
      exact b25 _ H locs ls hW hS (lv_sub hl [1] rfl) h
abbrev rm_X2_readBracket (F L : Nat) : Room := { frames := F + 2, cells := 0, slots := 0, locals := L + 41 }
set_option maxHeartbeats 4000000 in
set_option maxRecDepth 100000 in
theorem c_X2_readBracket (l : Launch) {G : Gn} {RO : Mem → Int32 → (Mem → Prop) → Prop} {F L : Nat} (hRO : ∀ (M : Mem) (z0 : Int32) (P : Mem → Prop), MQv l yX2_readOr cX2_readOr 3 none { frames := F, cells := 0, slots := 0, locals := L } [.ref (ad G 8 0), .int z0] G M (RO M z0 P) P) {M : Mem} {x1 : Int32} {P : Mem → Prop} : MQv l yX2_readBracket cX2_readBracket 2 none (rm_X2_readBracket F L) [.ref (ad G 8 0), .int x1] G M (s_X2_readBracket RO M x1 P) P := by
  refine m_enter (by decide +kernel) (Nat.le_of_ble_eq_true rfl) ?_
  intro p e s m below meth c ls H locs S hret hlocks hname hKX hbs hW hS hl h
  obtain ⟨AV, hAV⟩ : ∃ z : Array Value, z = ([.ref (ad G 8 0), .int x1] : List Value).toArray := ⟨_, rfl⟩
  rw [← hAV] at S ⊢
  replace S : CallFix p m c cX2_readBracket 2 s AV lw_G "MilkDesk$ActReader" := S
  have hK := hKX.1
  have hx := S.1
  have hb := S.2.1
  have hml := S.2.2.1
  have hown := S.2.2.2.1
  have hts := S.2.2.2.2
  replace hl : lv_has ls 2 [(0, .ref (ad G 8 0)), (1, .int x1)] := hl
  unfold s_X2_readBracket at h
  refine lv_iload_n hx hb dX2_readBracket_0 rfl (lv_at hl 1 rfl) ?_
  refine lv_bipush hx hb dX2_readBracket_1 kb_8 ?_
  refine lv_icmp_lt (tgt := 11) hx hb dX2_readBracket_3 (by decide) (fun c3 => ?_) (fun c3 => ?_)
  · replace h := h.1 c3
    refine lv_aload_n hx hb dX2_readBracket_11 rfl (lv_at hl 0 rfl) ?_
    refine lv_dup hx hb dX2_readBracket_12 rfl ?_
    refine m_geti S hK fk_X2_34 (gi_8_5 G) hW (ci_8 (Nat.le_of_ble_eq_true rfl)) dX2_readBracket_13 ?_
    refine lv_iconst hx hb dX2_readBracket_16 ki_1 ?_
    refine lv_iadd hx hb dX2_readBracket_17 ?_
    refine m_put S hK fk_X2_34 tyX2_ok nmX2 rfl pf_X2_5 (pv_8_5 G) hW hS (ci_8 (Nat.le_of_ble_eq_true rfl)) rfl rfl dX2_readBracket_18 (fun Mm18 eMm18 H locs hW hS => ?_)
    replace h := h Mm18 eMm18
    refine lv_aload_n hx hb dX2_readBracket_21 rfl (lv_at hl 0 rfl) ?_
    refine lv_iload_n hx hb dX2_readBracket_22 rfl (lv_at hl 1 rfl) ?_
    refine lv_iconst hx hb dX2_readBracket_23 ki_1 ?_
    refine lv_iadd hx hb dX2_readBracket_24 ?_
    refine m_cv0 (m_rV S hKX hW (m_szH hbs hS) (hRO _ _ _ ) h lk_X2_60 (m_recv hK hW (ci_8 (Nat.le_of_ble_eq_true rfl)) (rc_8 G) rfl) rfl hl.1 rfl ⟨by show F + 1 ≤ F + 2; omega, by show 8 + (3 + 11) + L ≤ L + 41; omega⟩ (Nat.le_of_ble_eq_true rfl) ⟨Nat.le_of_ble_eq_true rfl, Nat.le_of_ble_eq_true rfl⟩ dX2_readBracket_25) hS rfl rfl (fun Mm25 H locs h hW hS => ?_)
    refine lv_aload_n hx hb dX2_readBracket_28 rfl (lv_at hl 0 rfl) ?_
    refine lv_bipush hx hb dX2_readBracket_29 kb_41 ?_
    refine m_cv0 (m_rV S hKX hW (m_szH hbs hS) (c_X2_readSign l ) h lk_X2_56 (m_recv hK hW (ci_8 (Nat.le_of_ble_eq_true rfl)) (rc_8 G) rfl) rfl hl.1 rfl ⟨by show 1 + 1 ≤ F + 2; omega, by show 8 + (2 + 11) + 20 ≤ L + 41; omega⟩ (Nat.le_of_ble_eq_true rfl) ⟨Nat.le_of_ble_eq_true rfl, Nat.le_of_ble_eq_true rfl⟩ dX2_readBracket_31) hS rfl rfl (fun Mm31 H locs h hW hS => ?_)
    exact m_vret S hret hlocks hKX hW hbs hS h dX2_readBracket_34
  · replace h := h.2 c3
    refine lv_aload_n hx hb dX2_readBracket_6 rfl (lv_at hl 0 rfl) ?_
    refine m_cv0 (m_rV S hKX hW (m_szH hbs hS) (c_X2_fail l ) h lk_X2_77 (m_recv hK hW (ci_8 (Nat.le_of_ble_eq_true rfl)) (rc_8 G) rfl) rfl hl.1 rfl ⟨by show 0 + 1 ≤ F + 2; omega, by show 8 + (1 + 11) + 0 ≤ L + 41; omega⟩ (Nat.le_of_ble_eq_true rfl) ⟨Nat.le_of_ble_eq_true rfl, Nat.le_of_ble_eq_true rfl⟩ dX2_readBracket_7) hS rfl rfl (fun Mm7 H locs h hW hS => ?_)
    exact m_vret S hret hlocks hKX hW hbs hS h dX2_readBracket_10
abbrev rm_X2_readTest (F L : Nat) : Room := { frames := F + 10, cells := 0, slots := 0, locals := L + 285 }
set_option maxHeartbeats 4000000 in
set_option maxRecDepth 100000 in
theorem c_X2_readTest (l : Launch) {G : Gn} {RO : Mem → Int32 → (Mem → Prop) → Prop} {F L : Nat} (hRO : ∀ (M : Mem) (z0 : Int32) (P : Mem → Prop), MQv l yX2_readOr cX2_readOr 3 none { frames := F, cells := 0, slots := 0, locals := L } [.ref (ad G 8 0), .int z0] G M (RO M z0 P) P) {M : Mem} {x1 : Int32} {P : Mem → Prop} : MQv l yX2_readTest cX2_readTest 4 none (rm_X2_readTest F L) [.ref (ad G 8 0), .int x1] G M (s_X2_readTest RO M x1 P) P := by
  refine m_enter (by decide +kernel) (Nat.le_of_ble_eq_true rfl) ?_
  intro p e s m below meth c ls H locs S hret hlocks hname hKX hbs hW hS hl h
  obtain ⟨AV, hAV⟩ : ∃ z : Array Value, z = ([.ref (ad G 8 0), .int x1] : List Value).toArray := ⟨_, rfl⟩
  rw [← hAV] at S ⊢
  replace S : CallFix p m c cX2_readTest 4 s AV lw_G "MilkDesk$ActReader" := S
  have hK := hKX.1
  have hx := S.1
  have hb := S.2.1
  have hml := S.2.2.1
  have hown := S.2.2.2.1
  have hts := S.2.2.2.2
  replace hl : lv_has ls 4 [(0, .ref (ad G 8 0)), (1, .int x1)] := hl
  have b82 : ∀ (M : Mem) (x2 : Int32) (H : Heap) (locs : List Loc) (ls : Array Slot), WPm G M H → va_S (fun q => bs G ≤ q) s.heap H locs → lv_has ls 4 [(0, .ref (ad G 8 0)), (2, .int x2)] → s_X2_readTest_82 RO P M x2 → W p l e (rm_X2_readTest F L) s m AV below meth c H locs 0 0 (MQ below (va_Qv P (WS G) (fun q => bs G ≤ q)) AV s 0 0 (fun q => bs G ≤ q)) (F0 m 82 ls []) := by
    intro M x2 H locs ls hW hS hl h
    unfold s_X2_readTest_82 at h
    refine lv_iload_n hx hb dX2_readTest_82 rfl (lv_at hl 1 rfl) ?_
    refine lv_if_eq (tgt := 92) hx hb dX2_readTest_83 (by decide) (fun c83 => ?_) (fun c83 => ?_)
    · replace h := h.1 c83
      exact m_vret S hret hlocks hKX hW hbs hS h dX2_readTest_92
    · replace h := h.2 c83
      refine lv_aload_n hx hb dX2_readTest_86 rfl (lv_at hl 0 rfl) ?_
      refine lv_bipush hx hb dX2_readTest_87 kb_m33 ?_
      refine m_cv0 (m_rV S hKX hW (m_szH hbs hS) (c_X2_addStep l ) h lk_X2_63 (m_recv hK hW (ci_8 (Nat.le_of_ble_eq_true rfl)) (rc_8 G) rfl) rfl hl.1 rfl ⟨by show 0 + 1 ≤ F + 10; omega, by show 8 + (2 + 11) + 0 ≤ L + 285; omega⟩ (Nat.le_of_ble_eq_true rfl) ⟨Nat.le_of_ble_eq_true rfl, Nat.le_of_ble_eq_true rfl⟩ dX2_readTest_89) hS rfl rfl (fun Mm89 H locs h hW hS => ?_)
      exact m_vret S hret hlocks hKX hW hbs hS h dX2_readTest_92
  have b78 : ∀ (M : Mem) (x2 : Int32) (H : Heap) (locs : List Loc) (ls : Array Slot), WPm G M H → va_S (fun q => bs G ≤ q) s.heap H locs → lv_has ls 4 [(0, .ref (ad G 8 0)), (2, .int x2)] → s_X2_readTest_78 RO P M x2 → W p l e (rm_X2_readTest F L) s m AV below meth c H locs 0 0 (MQ below (va_Qv P (WS G) (fun q => bs G ≤ q)) AV s 0 0 (fun q => bs G ≤ q)) (F0 m 78 ls []) := by
    intro M x2 H locs ls hW hS hl h
    unfold s_X2_readTest_78 at h
    refine lv_aload_n hx hb dX2_readTest_78 rfl (lv_at hl 0 rfl) ?_
    refine m_cv0 (m_rV S hKX hW (m_szH hbs hS) (c_X2_readComparison l ) h lk_X2_89 (m_recv hK hW (ci_8 (Nat.le_of_ble_eq_true rfl)) (rc_8 G) rfl) rfl hl.1 rfl ⟨by show 9 + 1 ≤ F + 10; omega, by show 8 + (2 + 11) + 264 ≤ L + 285; omega⟩ (Nat.le_of_ble_eq_true rfl) ⟨Nat.le_of_ble_eq_true rfl, Nat.le_of_ble_eq_true rfl⟩ dX2_readTest_79) hS rfl rfl (fun Mm79 H locs h hW hS => ?_)
    exact b82 _ _ H locs ls hW hS (lv_sub hl [0, 1] rfl) h
  have b54 : ∀ (M : Mem) (x2 : Int32) (H : Heap) (locs : List Loc) (ls : Array Slot), WPm G M H → va_S (fun q => bs G ≤ q) s.heap H locs → lv_has ls 4 [(0, .ref (ad G 8 0)), (1, .int x1), (2, .int x2)] → s_X2_readTest_54 RO x1 P M x2 → W p l e (rm_X2_readTest F L) s m AV below meth c H locs 0 0 (MQ below (va_Qv P (WS G) (fun q => bs G ≤ q)) AV s 0 0 (fun q => bs G ≤ q)) (F0 m 54 ls []) := by
    intro M x2 H locs ls hW hS hl h
    unfold s_X2_readTest_54 at h
    refine lv_aload_n hx hb dX2_readTest_54 rfl (lv_at hl 0 rfl) ?_
    refine m_ci0 (m_rV S hKX hW (m_szH hbs hS) (c_X2_here l ) h lk_X2_43 (m_recv hK hW (ci_8 (Nat.le_of_ble_eq_true rfl)) (rc_8 G) rfl) rfl hl.1 rfl ⟨by show 0 + 1 ≤ F + 10; omega, by show 8 + (1 + 11) + 0 ≤ L + 285; omega⟩ (Nat.le_of_ble_eq_true rfl) ⟨Nat.le_of_ble_eq_true rfl, Nat.le_of_ble_eq_true rfl⟩ dX2_readTest_55) hS rfl rfl (fun rr55 Mm55 H locs h hW hS => ?_)
    refine lv_bipush hx hb dX2_readTest_58 kb_40 ?_
    refine lv_icmp_ne (tgt := 78) hx hb dX2_readTest_60 (by decide) (fun c60 => ?_) (fun c60 => ?_)
    · replace h := h.1 c60
      exact b78 _ _ H locs ls hW hS (lv_sub hl [0, 2] rfl) h
    · replace h := h.2 c60
      refine lv_aload_n hx hb dX2_readTest_63 rfl (lv_at hl 0 rfl) ?_
      refine m_geti S hK fk_X2_37 (gi_8_6 G) hW (ci_8 (Nat.le_of_ble_eq_true rfl)) dX2_readTest_64 ?_
      refine lv_if_ge (tgt := 78) hx hb dX2_readTest_67 (by decide) (fun c67 => ?_) (fun c67 => ?_)
      · replace h := h.1 c67
        exact b78 _ _ H locs ls hW hS (lv_sub hl [0, 2] rfl) h
      · replace h := h.2 c67
        refine lv_aload_n hx hb dX2_readTest_70 rfl (lv_at hl 0 rfl) ?_
        refine lv_iload_n hx hb dX2_readTest_71 rfl (lv_at hl 1 rfl) ?_
        refine m_cv0 (m_rV S hKX hW (m_szH hbs hS) (c_X2_readBracket l hRO ) h lk_X2_86 (m_recv hK hW (ci_8 (Nat.le_of_ble_eq_true rfl)) (rc_8 G) rfl) rfl hl.1 rfl ⟨by show F + 2 + 1 ≤ F + 10; omega, by show 8 + (2 + 11) + (L + 41) ≤ L + 285; omega⟩ (Nat.le_of_ble_eq_true rfl) ⟨Nat.le_of_ble_eq_true rfl, Nat.le_of_ble_eq_true rfl⟩ dX2_readTest_72) hS rfl rfl (fun Mm72 H locs h hW hS => ?_)
        refine lv_goto (tgt := 82) hx hb dX2_readTest_75 (by decide) ?_
        exact b82 _ _ H locs ls hW hS (lv_sub hl [0, 2] rfl) h
  have w4 : ∀ (n : Nat) (a : Mem × Int32 × Int32), Lz (fun (K4 : Mem × Int32 × Int32 → Prop) (a : Mem × Int32 × Int32) => s_X2_readTest_4 RO x1 P K4 a.1 a.2.1 a.2.2) n a → ∀ (H : Heap) (locs : List Loc) (ls : Array Slot), WPm G a.1 H → va_S (fun q => bs G ≤ q) s.heap H locs → lv_has ls 4 [(0, .ref (ad G 8 0)), (1, .int x1), (2, .int a.2.1), (3, .int a.2.2)] → W p l e (rm_X2_readTest F L) s m AV below meth c H locs 0 0 (MQ below (va_Qv P (WS G) (fun q => bs G ≤ q)) AV s 0 0 (fun q => bs G ≤ q)) (F0 m 4 ls []) := by
    refine Lz_walk ?_
    rintro K4 kk4 ⟨M, x2, x3⟩ h H locs ls hW hS hl
    replace h : s_X2_readTest_4 RO x1 P K4 M x2 x3 := h
    replace hW : WPm G M H := hW
    replace hl : lv_has ls 4 [(0, .ref (ad G 8 0)), (1, .int x1), (2, .int x2), (3, .int x3)] := hl
    have b47 : ∀ (M : Mem) (x3 : Int32) (y0 : Int32) (H : Heap) (locs : List Loc) (ls : Array Slot), WPm G M H → va_S (fun q => bs G ≤ q) s.heap H locs → lv_has ls 4 [(0, .ref (ad G 8 0)), (1, .int x1), (3, .int x3)] → s_X2_readTest_47 RO x1 P K4 M x3 y0 → W p l e (rm_X2_readTest F L) s m AV below meth c H locs 0 0 (MQ below (va_Qv P (WS G) (fun q => bs G ≤ q)) AV s 0 0 (fun q => bs G ≤ q)) (F0 m 47 ls [.int y0]) := by
      intro M x3 y0 H locs ls hW hS hl h
      unfold s_X2_readTest_47 at h
      refine lv_istore_n (lv' := [(2, .int y0), (0, .ref (ad G 8 0)), (1, .int x1), (3, .int x3)]) hx hb dX2_readTest_47 rfl hl (by decide) rfl (fun ls hl => ?_)
      obtain ⟨x3_48, ex3_48⟩ : ∃ z : Int32, z = x3 + (1 : Int32) := ⟨_, rfl⟩
      replace h := h x3_48 ex3_48
      refine lv_iinc (v := x3_48) (lv' := [(3, .int x3_48), (2, .int y0), (0, .ref (ad G 8 0)), (1, .int x1)]) hx hb dX2_readTest_48 hl (k := 3) rfl (by rw [ex3_48, ki_1]) (by decide) rfl (fun ls hl => ?_)
      refine lv_goto (tgt := 4) hx hb dX2_readTest_51 (by decide) ?_
      exact kk4 _ h H locs ls hW hS (lv_sub hl [2, 3, 1, 0] rfl)
    unfold s_X2_readTest_4 at h
    refine lv_iload_n hx hb dX2_readTest_4 rfl (lv_at hl 3 rfl) ?_
    refine lv_aload_n hx hb dX2_readTest_5 rfl (lv_at hl 0 rfl) ?_
    refine m_geti S hK fk_X2_33 (gi_8_4 G) hW (ci_8 (Nat.le_of_ble_eq_true rfl)) dX2_readTest_6 ?_
    refine lv_icmp_ge (tgt := 54) hx hb dX2_readTest_9 (by decide) (fun c9 => ?_) (fun c9 => ?_)
    · replace h := h.1 c9
      exact b54 _ _ H locs ls hW hS (lv_sub hl [0, 1, 2] rfl) h
    · replace h := h.2 c9
      refine lv_aload_n hx hb dX2_readTest_12 rfl (lv_at hl 0 rfl) ?_
      refine m_geti S hK fk_X2_37 (gi_8_6 G) hW (ci_8 (Nat.le_of_ble_eq_true rfl)) dX2_readTest_13 ?_
      refine lv_if_ge (tgt := 54) hx hb dX2_readTest_16 (by decide) (fun c16 => ?_) (fun c16 => ?_)
      · replace h := h.1 c16
        exact b54 _ _ H locs ls hW hS (lv_sub hl [0, 1, 2] rfl) h
      · replace h := h.2 c16
        refine lv_aload_n hx hb dX2_readTest_19 rfl (lv_at hl 0 rfl) ?_
        refine m_ci0 (m_rV S hKX hW (m_szH hbs hS) (c_X2_here l ) h lk_X2_43 (m_recv hK hW (ci_8 (Nat.le_of_ble_eq_true rfl)) (rc_8 G) rfl) rfl hl.1 rfl ⟨by show 0 + 1 ≤ F + 10; omega, by show 8 + (1 + 11) + 0 ≤ L + 285; omega⟩ (Nat.le_of_ble_eq_true rfl) ⟨Nat.le_of_ble_eq_true rfl, Nat.le_of_ble_eq_true rfl⟩ dX2_readTest_20) hS rfl rfl (fun rr20 Mm20 H locs h hW hS => ?_)
        refine lv_bipush hx hb dX2_readTest_23 kb_33 ?_
        refine lv_icmp_ne (tgt := 54) hx hb dX2_readTest_25 (by decide) (fun c25 => ?_) (fun c25 => ?_)
        · replace h := h.1 c25
          exact b54 _ _ H locs ls hW hS (lv_sub hl [0, 1, 2] rfl) h
        · replace h := h.2 c25
          refine lv_aload_n hx hb dX2_readTest_28 rfl (lv_at hl 0 rfl) ?_
          refine lv_dup hx hb dX2_readTest_29 rfl ?_
          refine m_geti S hK fk_X2_34 (gi_8_5 G) hW (ci_8 (Nat.le_of_ble_eq_true rfl)) dX2_readTest_30 ?_
          refine lv_iconst hx hb dX2_readTest_33 ki_1 ?_
          refine lv_iadd hx hb dX2_readTest_34 ?_
          refine m_put S hK fk_X2_34 tyX2_ok nmX2 rfl pf_X2_5 (pv_8_5 G) hW hS (ci_8 (Nat.le_of_ble_eq_true rfl)) rfl rfl dX2_readTest_35 (fun Mm35 eMm35 H locs hW hS => ?_)
          replace h := h Mm35 eMm35
          refine lv_iload_n hx hb dX2_readTest_38 rfl (lv_at hl 2 rfl) ?_
          refine lv_if_ne (tgt := 46) hx hb dX2_readTest_39 (by decide) (fun c39 => ?_) (fun c39 => ?_)
          · replace h := h.1 c39
            refine lv_iconst hx hb dX2_readTest_46 ki_0 ?_
            exact b47 _ _ _ H locs ls hW hS (lv_sub hl [0, 1, 3] rfl) h
          · replace h := h.2 c39
            refine lv_iconst hx hb dX2_readTest_42 ki_1 ?_
            refine lv_goto (tgt := 47) hx hb dX2_readTest_43 (by decide) ?_
            exact b47 _ _ _ H locs ls hW hS (lv_sub hl [0, 1, 3] rfl) h
  unfold s_X2_readTest at h
  refine lv_iconst hx hb dX2_readTest_0 ki_0 ?_
  refine lv_istore_n (lv' := [(2, .int (0 : Int32)), (0, .ref (ad G 8 0)), (1, .int x1)]) hx hb dX2_readTest_1 rfl hl (by decide) rfl (fun ls hl => ?_)
  refine lv_iconst hx hb dX2_readTest_2 ki_0 ?_
  refine lv_istore_n (lv' := [(3, .int (0 : Int32)), (2, .int (0 : Int32)), (0, .ref (ad G 8 0)), (1, .int x1)]) hx hb dX2_readTest_3 rfl hl (by decide) rfl (fun ls hl => ?_)
  obtain ⟨n4, h⟩ := h
  exact w4 n4 _ h H locs ls hW hS (lv_sub hl [2, 3, 1, 0] rfl)
abbrev rm_X2_readAnd (F L : Nat) : Room := { frames := F + 11, cells := 0, slots := 0, locals := L + 308 }
set_option maxHeartbeats 4000000 in
set_option maxRecDepth 100000 in
theorem c_X2_readAnd (l : Launch) {G : Gn} {RO : Mem → Int32 → (Mem → Prop) → Prop} {F L : Nat} (hRO : ∀ (M : Mem) (z0 : Int32) (P : Mem → Prop), MQv l yX2_readOr cX2_readOr 3 none { frames := F, cells := 0, slots := 0, locals := L } [.ref (ad G 8 0), .int z0] G M (RO M z0 P) P) {M : Mem} {x1 : Int32} {P : Mem → Prop} : MQv l yX2_readAnd cX2_readAnd 3 none (rm_X2_readAnd F L) [.ref (ad G 8 0), .int x1] G M (s_X2_readAnd RO M x1 P) P := by
  refine m_enter (by decide +kernel) (Nat.le_of_ble_eq_true rfl) ?_
  intro p e s m below meth c ls H locs S hret hlocks hname hKX hbs hW hS hl h
  obtain ⟨AV, hAV⟩ : ∃ z : Array Value, z = ([.ref (ad G 8 0), .int x1] : List Value).toArray := ⟨_, rfl⟩
  rw [← hAV] at S ⊢
  replace S : CallFix p m c cX2_readAnd 3 s AV lw_G "MilkDesk$ActReader" := S
  have hK := hKX.1
  have hx := S.1
  have hb := S.2.1
  have hml := S.2.2.1
  have hown := S.2.2.2.1
  have hts := S.2.2.2.2
  replace hl : lv_has ls 3 [(0, .ref (ad G 8 0)), (1, .int x1)] := hl
  have w7 : ∀ (n : Nat) (a : Mem × Int32), Lz (fun (K7 : Mem × Int32 → Prop) (a : Mem × Int32) => s_X2_readAnd_7 RO x1 P K7 a.1 a.2) n a → ∀ (H : Heap) (locs : List Loc) (ls : Array Slot), WPm G a.1 H → va_S (fun q => bs G ≤ q) s.heap H locs → lv_has ls 3 [(0, .ref (ad G 8 0)), (1, .int x1), (2, .int a.2)] → W p l e (rm_X2_readAnd F L) s m AV below meth c H locs 0 0 (MQ below (va_Qv P (WS G) (fun q => bs G ≤ q)) AV s 0 0 (fun q => bs G ≤ q)) (F0 m 7 ls []) := by
    refine Lz_walk ?_
    rintro K7 kk7 ⟨M, x2⟩ h H locs ls hW hS hl
    replace h : s_X2_readAnd_7 RO x1 P K7 M x2 := h
    replace hW : WPm G M H := hW
    replace hl : lv_has ls 3 [(0, .ref (ad G 8 0)), (1, .int x1), (2, .int x2)] := hl
    unfold s_X2_readAnd_7 at h
    refine lv_iload_n hx hb dX2_readAnd_7 rfl (lv_at hl 2 rfl) ?_
    refine lv_aload_n hx hb dX2_readAnd_8 rfl (lv_at hl 0 rfl) ?_
    refine m_geti S hK fk_X2_33 (gi_8_4 G) hW (ci_8 (Nat.le_of_ble_eq_true rfl)) dX2_readAnd_9 ?_
    refine lv_icmp_ge (tgt := 58) hx hb dX2_readAnd_12 (by decide) (fun c12 => ?_) (fun c12 => ?_)
    · replace h := h.1 c12
      exact m_vret S hret hlocks hKX hW hbs hS h dX2_readAnd_58
    · replace h := h.2 c12
      refine lv_aload_n hx hb dX2_readAnd_15 rfl (lv_at hl 0 rfl) ?_
      refine m_geti S hK fk_X2_37 (gi_8_6 G) hW (ci_8 (Nat.le_of_ble_eq_true rfl)) dX2_readAnd_16 ?_
      refine lv_if_ge (tgt := 58) hx hb dX2_readAnd_19 (by decide) (fun c19 => ?_) (fun c19 => ?_)
      · replace h := h.1 c19
        exact m_vret S hret hlocks hKX hW hbs hS h dX2_readAnd_58
      · replace h := h.2 c19
        refine lv_aload_n hx hb dX2_readAnd_22 rfl (lv_at hl 0 rfl) ?_
        refine m_ci0 (m_rV S hKX hW (m_szH hbs hS) (c_X2_here l ) h lk_X2_43 (m_recv hK hW (ci_8 (Nat.le_of_ble_eq_true rfl)) (rc_8 G) rfl) rfl hl.1 rfl ⟨by show 0 + 1 ≤ F + 11; omega, by show 8 + (1 + 11) + 0 ≤ L + 308; omega⟩ (Nat.le_of_ble_eq_true rfl) ⟨Nat.le_of_ble_eq_true rfl, Nat.le_of_ble_eq_true rfl⟩ dX2_readAnd_23) hS rfl rfl (fun rr23 Mm23 H locs h hW hS => ?_)
        refine lv_bipush hx hb dX2_readAnd_26 kb_38 ?_
        refine lv_icmp_ne (tgt := 58) hx hb dX2_readAnd_28 (by decide) (fun c28 => ?_) (fun c28 => ?_)
        · replace h := h.1 c28
          exact m_vret S hret hlocks hKX hW hbs hS h dX2_readAnd_58
        · replace h := h.2 c28
          refine lv_aload_n hx hb dX2_readAnd_31 rfl (lv_at hl 0 rfl) ?_
          refine lv_dup hx hb dX2_readAnd_32 rfl ?_
          refine m_geti S hK fk_X2_34 (gi_8_5 G) hW (ci_8 (Nat.le_of_ble_eq_true rfl)) dX2_readAnd_33 ?_
          refine lv_iconst hx hb dX2_readAnd_36 ki_1 ?_
          refine lv_iadd hx hb dX2_readAnd_37 ?_
          refine m_put S hK fk_X2_34 tyX2_ok nmX2 rfl pf_X2_5 (pv_8_5 G) hW hS (ci_8 (Nat.le_of_ble_eq_true rfl)) rfl rfl dX2_readAnd_38 (fun Mm38 eMm38 H locs hW hS => ?_)
          replace h := h Mm38 eMm38
          refine lv_aload_n hx hb dX2_readAnd_41 rfl (lv_at hl 0 rfl) ?_
          refine lv_iload_n hx hb dX2_readAnd_42 rfl (lv_at hl 1 rfl) ?_
          refine m_cv0 (m_rV S hKX hW (m_szH hbs hS) (c_X2_readTest l hRO ) h lk_X2_83 (m_recv hK hW (ci_8 (Nat.le_of_ble_eq_true rfl)) (rc_8 G) rfl) rfl hl.1 rfl ⟨by show F + 10 + 1 ≤ F + 11; omega, by show 8 + (4 + 11) + (L + 285) ≤ L + 308; omega⟩ (Nat.le_of_ble_eq_true rfl) ⟨Nat.le_of_ble_eq_true rfl, Nat.le_of_ble_eq_true rfl⟩ dX2_readAnd_43) hS rfl rfl (fun Mm43 H locs h hW hS => ?_)
          refine lv_aload_n hx hb dX2_readAnd_46 rfl (lv_at hl 0 rfl) ?_
          refine lv_bipush hx hb dX2_readAnd_47 kb_m38 ?_
          refine m_cv0 (m_rV S hKX hW (m_szH hbs hS) (c_X2_addStep l ) h lk_X2_63 (m_recv hK hW (ci_8 (Nat.le_of_ble_eq_true rfl)) (rc_8 G) rfl) rfl hl.1 rfl ⟨by show 0 + 1 ≤ F + 11; omega, by show 8 + (2 + 11) + 0 ≤ L + 308; omega⟩ (Nat.le_of_ble_eq_true rfl) ⟨Nat.le_of_ble_eq_true rfl, Nat.le_of_ble_eq_true rfl⟩ dX2_readAnd_49) hS rfl rfl (fun Mm49 H locs h hW hS => ?_)
          obtain ⟨x2_52, ex2_52⟩ : ∃ z : Int32, z = x2 + (1 : Int32) := ⟨_, rfl⟩
          replace h := h x2_52 ex2_52
          refine lv_iinc (v := x2_52) (lv' := [(2, .int x2_52), (0, .ref (ad G 8 0)), (1, .int x1)]) hx hb dX2_readAnd_52 hl (k := 2) rfl (by rw [ex2_52, ki_1]) (by decide) rfl (fun ls hl => ?_)
          refine lv_goto (tgt := 7) hx hb dX2_readAnd_55 (by decide) ?_
          exact kk7 _ h H locs ls hW hS (lv_sub hl [1, 2, 0] rfl)
  unfold s_X2_readAnd at h
  refine lv_aload_n hx hb dX2_readAnd_0 rfl (lv_at hl 0 rfl) ?_
  refine lv_iload_n hx hb dX2_readAnd_1 rfl (lv_at hl 1 rfl) ?_
  refine m_cv0 (m_rV S hKX hW (m_szH hbs hS) (c_X2_readTest l hRO ) h lk_X2_83 (m_recv hK hW (ci_8 (Nat.le_of_ble_eq_true rfl)) (rc_8 G) rfl) rfl hl.1 rfl ⟨by show F + 10 + 1 ≤ F + 11; omega, by show 8 + (4 + 11) + (L + 285) ≤ L + 308; omega⟩ (Nat.le_of_ble_eq_true rfl) ⟨Nat.le_of_ble_eq_true rfl, Nat.le_of_ble_eq_true rfl⟩ dX2_readAnd_2) hS rfl rfl (fun Mm2 H locs h hW hS => ?_)
  refine lv_iconst hx hb dX2_readAnd_5 ki_0 ?_
  refine lv_istore_n (lv' := [(2, .int (0 : Int32)), (0, .ref (ad G 8 0)), (1, .int x1)]) hx hb dX2_readAnd_6 rfl hl (by decide) rfl (fun ls hl => ?_)
  obtain ⟨n7, h⟩ := h
  exact w7 n7 _ h H locs ls hW hS (lv_sub hl [1, 2, 0] rfl)
abbrev rm_X2_readOr (F L : Nat) : Room := { frames := F + 12, cells := 0, slots := 0, locals := L + 330 }
set_option maxHeartbeats 4000000 in
set_option maxRecDepth 100000 in
theorem c_X2_readOr (l : Launch) {G : Gn} {RO : Mem → Int32 → (Mem → Prop) → Prop} {F L : Nat} (hRO : ∀ (M : Mem) (z0 : Int32) (P : Mem → Prop), MQv l yX2_readOr cX2_readOr 3 none { frames := F, cells := 0, slots := 0, locals := L } [.ref (ad G 8 0), .int z0] G M (RO M z0 P) P) {M : Mem} {x1 : Int32} {P : Mem → Prop} : MQv l yX2_readOr cX2_readOr 3 none (rm_X2_readOr F L) [.ref (ad G 8 0), .int x1] G M (s_X2_readOr RO M x1 P) P := by
  refine m_enter (by decide +kernel) (Nat.le_of_ble_eq_true rfl) ?_
  intro p e s m below meth c ls H locs S hret hlocks hname hKX hbs hW hS hl h
  obtain ⟨AV, hAV⟩ : ∃ z : Array Value, z = ([.ref (ad G 8 0), .int x1] : List Value).toArray := ⟨_, rfl⟩
  rw [← hAV] at S ⊢
  replace S : CallFix p m c cX2_readOr 3 s AV lw_G "MilkDesk$ActReader" := S
  have hK := hKX.1
  have hx := S.1
  have hb := S.2.1
  have hml := S.2.2.1
  have hown := S.2.2.2.1
  have hts := S.2.2.2.2
  replace hl : lv_has ls 3 [(0, .ref (ad G 8 0)), (1, .int x1)] := hl
  have w7 : ∀ (n : Nat) (a : Mem × Int32), Lz (fun (K7 : Mem × Int32 → Prop) (a : Mem × Int32) => s_X2_readOr_7 RO x1 P K7 a.1 a.2) n a → ∀ (H : Heap) (locs : List Loc) (ls : Array Slot), WPm G a.1 H → va_S (fun q => bs G ≤ q) s.heap H locs → lv_has ls 3 [(0, .ref (ad G 8 0)), (1, .int x1), (2, .int a.2)] → W p l e (rm_X2_readOr F L) s m AV below meth c H locs 0 0 (MQ below (va_Qv P (WS G) (fun q => bs G ≤ q)) AV s 0 0 (fun q => bs G ≤ q)) (F0 m 7 ls []) := by
    refine Lz_walk ?_
    rintro K7 kk7 ⟨M, x2⟩ h H locs ls hW hS hl
    replace h : s_X2_readOr_7 RO x1 P K7 M x2 := h
    replace hW : WPm G M H := hW
    replace hl : lv_has ls 3 [(0, .ref (ad G 8 0)), (1, .int x1), (2, .int x2)] := hl
    unfold s_X2_readOr_7 at h
    refine lv_iload_n hx hb dX2_readOr_7 rfl (lv_at hl 2 rfl) ?_
    refine lv_aload_n hx hb dX2_readOr_8 rfl (lv_at hl 0 rfl) ?_
    refine m_geti S hK fk_X2_33 (gi_8_4 G) hW (ci_8 (Nat.le_of_ble_eq_true rfl)) dX2_readOr_9 ?_
    refine lv_icmp_ge (tgt := 58) hx hb dX2_readOr_12 (by decide) (fun c12 => ?_) (fun c12 => ?_)
    · replace h := h.1 c12
      exact m_vret S hret hlocks hKX hW hbs hS h dX2_readOr_58
    · replace h := h.2 c12
      refine lv_aload_n hx hb dX2_readOr_15 rfl (lv_at hl 0 rfl) ?_
      refine m_geti S hK fk_X2_37 (gi_8_6 G) hW (ci_8 (Nat.le_of_ble_eq_true rfl)) dX2_readOr_16 ?_
      refine lv_if_ge (tgt := 58) hx hb dX2_readOr_19 (by decide) (fun c19 => ?_) (fun c19 => ?_)
      · replace h := h.1 c19
        exact m_vret S hret hlocks hKX hW hbs hS h dX2_readOr_58
      · replace h := h.2 c19
        refine lv_aload_n hx hb dX2_readOr_22 rfl (lv_at hl 0 rfl) ?_
        refine m_ci0 (m_rV S hKX hW (m_szH hbs hS) (c_X2_here l ) h lk_X2_43 (m_recv hK hW (ci_8 (Nat.le_of_ble_eq_true rfl)) (rc_8 G) rfl) rfl hl.1 rfl ⟨by show 0 + 1 ≤ F + 12; omega, by show 8 + (1 + 11) + 0 ≤ L + 330; omega⟩ (Nat.le_of_ble_eq_true rfl) ⟨Nat.le_of_ble_eq_true rfl, Nat.le_of_ble_eq_true rfl⟩ dX2_readOr_23) hS rfl rfl (fun rr23 Mm23 H locs h hW hS => ?_)
        refine lv_bipush hx hb dX2_readOr_26 kb_124 ?_
        refine lv_icmp_ne (tgt := 58) hx hb dX2_readOr_28 (by decide) (fun c28 => ?_) (fun c28 => ?_)
        · replace h := h.1 c28
          exact m_vret S hret hlocks hKX hW hbs hS h dX2_readOr_58
        · replace h := h.2 c28
          refine lv_aload_n hx hb dX2_readOr_31 rfl (lv_at hl 0 rfl) ?_
          refine lv_dup hx hb dX2_readOr_32 rfl ?_
          refine m_geti S hK fk_X2_34 (gi_8_5 G) hW (ci_8 (Nat.le_of_ble_eq_true rfl)) dX2_readOr_33 ?_
          refine lv_iconst hx hb dX2_readOr_36 ki_1 ?_
          refine lv_iadd hx hb dX2_readOr_37 ?_
          refine m_put S hK fk_X2_34 tyX2_ok nmX2 rfl pf_X2_5 (pv_8_5 G) hW hS (ci_8 (Nat.le_of_ble_eq_true rfl)) rfl rfl dX2_readOr_38 (fun Mm38 eMm38 H locs hW hS => ?_)
          replace h := h Mm38 eMm38
          refine lv_aload_n hx hb dX2_readOr_41 rfl (lv_at hl 0 rfl) ?_
          refine lv_iload_n hx hb dX2_readOr_42 rfl (lv_at hl 1 rfl) ?_
          refine m_cv0 (m_rV S hKX hW (m_szH hbs hS) (c_X2_readAnd l hRO ) h lk_X2_80 (m_recv hK hW (ci_8 (Nat.le_of_ble_eq_true rfl)) (rc_8 G) rfl) rfl hl.1 rfl ⟨by show F + 11 + 1 ≤ F + 12; omega, by show 8 + (3 + 11) + (L + 308) ≤ L + 330; omega⟩ (Nat.le_of_ble_eq_true rfl) ⟨Nat.le_of_ble_eq_true rfl, Nat.le_of_ble_eq_true rfl⟩ dX2_readOr_43) hS rfl rfl (fun Mm43 H locs h hW hS => ?_)
          refine lv_aload_n hx hb dX2_readOr_46 rfl (lv_at hl 0 rfl) ?_
          refine lv_bipush hx hb dX2_readOr_47 kb_m124 ?_
          refine m_cv0 (m_rV S hKX hW (m_szH hbs hS) (c_X2_addStep l ) h lk_X2_63 (m_recv hK hW (ci_8 (Nat.le_of_ble_eq_true rfl)) (rc_8 G) rfl) rfl hl.1 rfl ⟨by show 0 + 1 ≤ F + 12; omega, by show 8 + (2 + 11) + 0 ≤ L + 330; omega⟩ (Nat.le_of_ble_eq_true rfl) ⟨Nat.le_of_ble_eq_true rfl, Nat.le_of_ble_eq_true rfl⟩ dX2_readOr_49) hS rfl rfl (fun Mm49 H locs h hW hS => ?_)
          obtain ⟨x2_52, ex2_52⟩ : ∃ z : Int32, z = x2 + (1 : Int32) := ⟨_, rfl⟩
          replace h := h x2_52 ex2_52
          refine lv_iinc (v := x2_52) (lv' := [(2, .int x2_52), (0, .ref (ad G 8 0)), (1, .int x1)]) hx hb dX2_readOr_52 hl (k := 2) rfl (by rw [ex2_52, ki_1]) (by decide) rfl (fun ls hl => ?_)
          refine lv_goto (tgt := 7) hx hb dX2_readOr_55 (by decide) ?_
          exact kk7 _ h H locs ls hW hS (lv_sub hl [1, 2, 0] rfl)
  unfold s_X2_readOr at h
  refine lv_aload_n hx hb dX2_readOr_0 rfl (lv_at hl 0 rfl) ?_
  refine lv_iload_n hx hb dX2_readOr_1 rfl (lv_at hl 1 rfl) ?_
  refine m_cv0 (m_rV S hKX hW (m_szH hbs hS) (c_X2_readAnd l hRO ) h lk_X2_80 (m_recv hK hW (ci_8 (Nat.le_of_ble_eq_true rfl)) (rc_8 G) rfl) rfl hl.1 rfl ⟨by show F + 11 + 1 ≤ F + 12; omega, by show 8 + (3 + 11) + (L + 308) ≤ L + 330; omega⟩ (Nat.le_of_ble_eq_true rfl) ⟨Nat.le_of_ble_eq_true rfl, Nat.le_of_ble_eq_true rfl⟩ dX2_readOr_2) hS rfl rfl (fun Mm2 H locs h hW hS => ?_)
  refine lv_iconst hx hb dX2_readOr_5 ki_0 ?_
  refine lv_istore_n (lv' := [(2, .int (0 : Int32)), (0, .ref (ad G 8 0)), (1, .int x1)]) hx hb dX2_readOr_6 rfl hl (by decide) rfl (fun ls hl => ?_)
  obtain ⟨n7, h⟩ := h
  exact w7 n7 _ h H locs ls hW hS (lv_sub hl [1, 2, 0] rfl)
theorem cr_X2_readOr (l : Launch) {G : Gn} : ∀ (n : Nat) (M : Mem) (z0 : Int32) (P : Mem → Prop), MQv l yX2_readOr cX2_readOr 3 none { frames := 12 * n, cells := 0, slots := 0, locals := 330 * n } [.ref (ad G 8 0), .int z0] G M (sr_X2_readOr n M z0 P) P := by
  intro n
  induction n with
  | zero =>
    intro M z0 P
    refine m_enter (by decide +kernel) (Nat.le_of_ble_eq_true rfl) ?_
    intro p e s m below meth c ls H locs S hret hlocks hname hKX hbs hW hS hl h
    exact h.elim
  | succ n ih =>
    intro M z0 P
    exact c_X2_readOr l (RO := sr_X2_readOr n) (F := 12 * n) (L := 330 * n) ih
abbrev rm_X2_firstFault : Room := { frames := 121, cells := 0, slots := 0, locals := 3322 }
set_option maxHeartbeats 4000000 in
set_option maxRecDepth 100000 in
theorem c_X2_firstFault (l : Launch) {G : Gn} {M : Mem} {d : Nat} {P : Int32 → Mem → Prop} (hi_d : d < 8) : MQi l yX2_firstFault cX2_firstFault 2 (some .int) rm_X2_firstFault [.ref (ad G 8 0), .ref (ad G 7 d)] G M (s_X2_firstFault d M P) P := by
  refine m_enter (by decide +kernel) (Nat.le_of_ble_eq_true rfl) ?_
  intro p e s m below meth c ls H locs S hret hlocks hname hKX hbs hW hS hl h
  obtain ⟨AV, hAV⟩ : ∃ z : Array Value, z = ([.ref (ad G 8 0), .ref (ad G 7 d)] : List Value).toArray := ⟨_, rfl⟩
  rw [← hAV] at S ⊢
  replace S : CallFix p m c cX2_firstFault 2 s AV lw_G "MilkDesk$ActReader" := S
  have hK := hKX.1
  have hx := S.1
  have hb := S.2.1
  have hml := S.2.2.1
  have hown := S.2.2.2.1
  have hts := S.2.2.2.2
  replace hl : lv_has ls 2 [(0, .ref (ad G 8 0)), (1, .ref (ad G 7 d))] := hl
  have b150 : ∀ (M : Mem) (H : Heap) (locs : List Loc) (ls : Array Slot), WPm G M H → va_S (fun q => bs G ≤ q) s.heap H locs → lv_has ls 2 [(0, .ref (ad G 8 0))] → s_X2_firstFault_150 d P M  → W p l e rm_X2_firstFault s m AV below meth c H locs 0 0 (MQ below (va_Qi P (WS G) (fun q => bs G ≤ q)) AV s 0 0 (fun q => bs G ≤ q)) (F0 m 150 ls []) := by
    intro M H locs ls hW hS hl h
    unfold s_X2_firstFault_150 at h
    refine lv_aload_n hx hb dX2_firstFault_150 rfl (lv_at hl 0 rfl) ?_
    refine m_geti S hK fk_X2_37 (gi_8_6 G) hW (ci_8 (Nat.le_of_ble_eq_true rfl)) dX2_firstFault_151 ?_
    exact m_iret S hret hlocks hKX hW hbs hS rfl h dX2_firstFault_154
  have b125 : ∀ (M : Mem) (H : Heap) (locs : List Loc) (ls : Array Slot), WPm G M H → va_S (fun q => bs G ≤ q) s.heap H locs → lv_has ls 2 [(0, .ref (ad G 8 0))] → s_X2_firstFault_125 d P M  → W p l e rm_X2_firstFault s m AV below meth c H locs 0 0 (MQ below (va_Qi P (WS G) (fun q => bs G ≤ q)) AV s 0 0 (fun q => bs G ≤ q)) (F0 m 125 ls []) := by
    intro M H locs ls hW hS hl h
    unfold s_X2_firstFault_125 at h
    refine lv_aload_n hx hb dX2_firstFault_125 rfl (lv_at hl 0 rfl) ?_
    refine m_geti S hK fk_X2_37 (gi_8_6 G) hW (ci_8 (Nat.le_of_ble_eq_true rfl)) dX2_firstFault_126 ?_
    refine lv_if_ge (tgt := 150) hx hb dX2_firstFault_129 (by decide) (fun c129 => ?_) (fun c129 => ?_)
    · replace h := h.1 c129
      exact b150 _ H locs ls hW hS (lv_sub hl [0] rfl) h
    · replace h := h.2 c129
      refine lv_aload_n hx hb dX2_firstFault_132 rfl (lv_at hl 0 rfl) ?_
      refine m_geti S hK fk_X2_34 (gi_8_5 G) hW (ci_8 (Nat.le_of_ble_eq_true rfl)) dX2_firstFault_133 ?_
      refine lv_aload_n hx hb dX2_firstFault_136 rfl (lv_at hl 0 rfl) ?_
      refine m_geti S hK fk_X2_33 (gi_8_4 G) hW (ci_8 (Nat.le_of_ble_eq_true rfl)) dX2_firstFault_137 ?_
      refine lv_icmp_ge (tgt := 150) hx hb dX2_firstFault_140 (by decide) (fun c140 => ?_) (fun c140 => ?_)
      · replace h := h.1 c140
        exact b150 _ H locs ls hW hS (lv_sub hl [0] rfl) h
      · replace h := h.2 c140
        refine lv_aload_n hx hb dX2_firstFault_143 rfl (lv_at hl 0 rfl) ?_
        refine m_geti S hK fk_X2_34 (gi_8_5 G) hW (ci_8 (Nat.le_of_ble_eq_true rfl)) dX2_firstFault_144 ?_
        refine lv_goto (tgt := 154) hx hb dX2_firstFault_147 (by decide) ?_
        exact m_iret S hret hlocks hKX hW hbs hS rfl h dX2_firstFault_154
  unfold s_X2_firstFault at h
  refine lv_aload_n hx hb dX2_firstFault_0 rfl (lv_at hl 0 rfl) ?_
  refine lv_aload_n hx hb dX2_firstFault_1 rfl (lv_at hl 1 rfl) ?_
  refine m_getr S hK fk_X2_18 (gr_7_6 G d) hW (ci_7 hi_d) dX2_firstFault_2 ?_
  refine m_puttext S hK fk_X2_15 hW hS hi_d dX2_firstFault_5 (fun Mm5 eMm5 H locs hW hS => ?_)
  replace h := h Mm5 eMm5
  refine lv_aload_n hx hb dX2_firstFault_8 rfl (lv_at hl 0 rfl) ?_
  refine lv_aload_n hx hb dX2_firstFault_9 rfl (lv_at hl 1 rfl) ?_
  refine m_geti S hK fk_X2_23 (gi_7_5 G) hW (ci_7 hi_d) dX2_firstFault_10 ?_
  refine lv_aload_n hx hb dX2_firstFault_13 rfl (lv_at hl 0 rfl) ?_
  obtain ⟨d2, ht14, hi_d2, h⟩ := h
  refine m_gettext S hK fk_X2_15 hW ht14 dX2_firstFault_14 ?_
  refine m_alen S hK (ar_39 G) hW (ci_39 hi_d2) al_80 dX2_firstFault_17 ?_
  refine va_mmin hx hb (hml.trans hl.1.symm) hown (hts _ mw_497) (hts _ mw_473) (hts _ mw_13) (hts _ mw_474) (Nat.le_of_ble_eq_true rfl) (Nat.le_of_ble_eq_true rfl) (Nat.zero_le _) (Nat.zero_le _) dX2_firstFault_18 ?_
  refine m_put S hK fk_X2_33 tyX2_ok nmX2 rfl pf_X2_4 (pv_8_4 G) hW hS (ci_8 (Nat.le_of_ble_eq_true rfl)) rfl rfl dX2_firstFault_21 (fun Mm21 eMm21 H locs hW hS => ?_)
  replace h := h Mm21 eMm21
  refine lv_aload_n hx hb dX2_firstFault_24 rfl (lv_at hl 0 rfl) ?_
  refine lv_iconst hx hb dX2_firstFault_25 ki_0 ?_
  refine m_put S hK fk_X2_34 tyX2_ok nmX2 rfl pf_X2_5 (pv_8_5 G) hW hS (ci_8 (Nat.le_of_ble_eq_true rfl)) rfl rfl dX2_firstFault_26 (fun Mm26 eMm26 H locs hW hS => ?_)
  replace h := h Mm26 eMm26
  refine lv_aload_n hx hb dX2_firstFault_29 rfl (lv_at hl 0 rfl) ?_
  refine lv_iconst hx hb dX2_firstFault_30 ki_m1 ?_
  refine m_put S hK fk_X2_37 tyX2_ok nmX2 rfl pf_X2_6 (pv_8_6 G) hW hS (ci_8 (Nat.le_of_ble_eq_true rfl)) rfl rfl dX2_firstFault_31 (fun Mm31 eMm31 H locs hW hS => ?_)
  replace h := h Mm31 eMm31
  refine lv_aload_n hx hb dX2_firstFault_34 rfl (lv_at hl 0 rfl) ?_
  refine lv_iconst hx hb dX2_firstFault_35 ki_0 ?_
  refine m_put S hK fk_X2_40 tyX2_ok nmX2 rfl pf_X2_1 (pv_8_1 G) hW hS (ci_8 (Nat.le_of_ble_eq_true rfl)) rfl rfl dX2_firstFault_36 (fun Mm36 eMm36 H locs hW hS => ?_)
  replace h := h Mm36 eMm36
  refine lv_aload_n hx hb dX2_firstFault_39 rfl (lv_at hl 0 rfl) ?_
  refine lv_aload_n hx hb dX2_firstFault_40 rfl (lv_at hl 0 rfl) ?_
  refine m_ci0 (m_rV S hKX hW (m_szH hbs hS) (c_X2_here l ) h lk_X2_43 (m_recv hK hW (ci_8 (Nat.le_of_ble_eq_true rfl)) (rc_8 G) rfl) rfl hl.1 rfl ⟨Nat.le_of_ble_eq_true rfl, Nat.le_of_ble_eq_true rfl⟩ (Nat.le_of_ble_eq_true rfl) ⟨Nat.le_of_ble_eq_true rfl, Nat.le_of_ble_eq_true rfl⟩ dX2_firstFault_41) hS rfl rfl (fun rr41 Mm41 H locs h hW hS => ?_)
  refine va_ldcS hx hb hown (xf_47 hKX.2) dX2_firstFault_44 ?_
  refine m_ci0 (m_rS S hKX hW (m_szH hbs hS) (c_X2_placeOf l (k := 1) (Nat.le_of_ble_eq_true rfl)) h lk_X2_49 rfl hl.1 rfl ⟨Nat.le_of_ble_eq_true rfl, Nat.le_of_ble_eq_true rfl⟩ (Nat.le_of_ble_eq_true rfl) ⟨Nat.le_of_ble_eq_true rfl, Nat.le_of_ble_eq_true rfl⟩ dX2_firstFault_46) hS rfl rfl (fun rr46 Mm46 H locs h hW hS => ?_)
  refine m_put S hK fk_X2_53 tyX2_ok nmX2 rfl pf_X2_2 (pv_8_2 G) hW hS (ci_8 (Nat.le_of_ble_eq_true rfl)) rfl rfl dX2_firstFault_49 (fun Mm49 eMm49 H locs hW hS => ?_)
  replace h := h Mm49 eMm49
  refine lv_aload_n hx hb dX2_firstFault_52 rfl (lv_at hl 0 rfl) ?_
  refine m_geti S hK fk_X2_53 (gi_8_2 G) hW (ci_8 (Nat.le_of_ble_eq_true rfl)) dX2_firstFault_53 ?_
  refine lv_if_ge (tgt := 61) hx hb dX2_firstFault_56 (by decide) (fun c56 => ?_) (fun c56 => ?_)
  · replace h := h.1 c56
    refine lv_aload_n hx hb dX2_firstFault_61 rfl (lv_at hl 0 rfl) ?_
    refine lv_dup hx hb dX2_firstFault_62 rfl ?_
    refine m_geti S hK fk_X2_34 (gi_8_5 G) hW (ci_8 (Nat.le_of_ble_eq_true rfl)) dX2_firstFault_63 ?_
    refine lv_iconst hx hb dX2_firstFault_66 ki_1 ?_
    refine lv_iadd hx hb dX2_firstFault_67 ?_
    refine m_put S hK fk_X2_34 tyX2_ok nmX2 rfl pf_X2_5 (pv_8_5 G) hW hS (ci_8 (Nat.le_of_ble_eq_true rfl)) rfl rfl dX2_firstFault_68 (fun Mm68 eMm68 H locs hW hS => ?_)
    replace h := h Mm68 eMm68
    refine lv_aload_n hx hb dX2_firstFault_71 rfl (lv_at hl 0 rfl) ?_
    refine lv_bipush hx hb dX2_firstFault_72 kb_58 ?_
    refine m_cv0 (m_rV S hKX hW (m_szH hbs hS) (c_X2_readSign l ) h lk_X2_56 (m_recv hK hW (ci_8 (Nat.le_of_ble_eq_true rfl)) (rc_8 G) rfl) rfl hl.1 rfl ⟨Nat.le_of_ble_eq_true rfl, Nat.le_of_ble_eq_true rfl⟩ (Nat.le_of_ble_eq_true rfl) ⟨Nat.le_of_ble_eq_true rfl, Nat.le_of_ble_eq_true rfl⟩ dX2_firstFault_74) hS rfl rfl (fun Mm74 H locs h hW hS => ?_)
    refine lv_aload_n hx hb dX2_firstFault_77 rfl (lv_at hl 0 rfl) ?_
    refine lv_iconst hx hb dX2_firstFault_78 ki_0 ?_
    refine m_cv0 (m_rV S hKX hW (m_szH hbs hS) (cr_X2_readOr l 10 _ _ _ ) h lk_X2_60 (m_recv hK hW (ci_8 (Nat.le_of_ble_eq_true rfl)) (rc_8 G) rfl) rfl hl.1 rfl ⟨Nat.le_of_ble_eq_true rfl, Nat.le_of_ble_eq_true rfl⟩ (Nat.le_of_ble_eq_true rfl) ⟨Nat.le_of_ble_eq_true rfl, Nat.le_of_ble_eq_true rfl⟩ dX2_firstFault_79) hS rfl rfl (fun Mm79 H locs h hW hS => ?_)
    refine lv_aload_n hx hb dX2_firstFault_82 rfl (lv_at hl 0 rfl) ?_
    refine m_geti S hK fk_X2_37 (gi_8_6 G) hW (ci_8 (Nat.le_of_ble_eq_true rfl)) dX2_firstFault_83 ?_
    refine lv_if_ge (tgt := 125) hx hb dX2_firstFault_86 (by decide) (fun c86 => ?_) (fun c86 => ?_)
    · replace h := h.1 c86
      exact b125 _ H locs ls hW hS (lv_sub hl [0] rfl) h
    · replace h := h.2 c86
      refine lv_aload_n hx hb dX2_firstFault_89 rfl (lv_at hl 0 rfl) ?_
      refine m_ci0 (m_rV S hKX hW (m_szH hbs hS) (c_X2_here l ) h lk_X2_43 (m_recv hK hW (ci_8 (Nat.le_of_ble_eq_true rfl)) (rc_8 G) rfl) rfl hl.1 rfl ⟨Nat.le_of_ble_eq_true rfl, Nat.le_of_ble_eq_true rfl⟩ (Nat.le_of_ble_eq_true rfl) ⟨Nat.le_of_ble_eq_true rfl, Nat.le_of_ble_eq_true rfl⟩ dX2_firstFault_90) hS rfl rfl (fun rr90 Mm90 H locs h hW hS => ?_)
      refine lv_bipush hx hb dX2_firstFault_93 kb_117 ?_
      refine lv_icmp_ne (tgt := 125) hx hb dX2_firstFault_95 (by decide) (fun c95 => ?_) (fun c95 => ?_)
      · replace h := h.1 c95
        exact b125 _ H locs ls hW hS (lv_sub hl [0] rfl) h
      · replace h := h.2 c95
        refine lv_aload_n hx hb dX2_firstFault_98 rfl (lv_at hl 0 rfl) ?_
        refine lv_dup hx hb dX2_firstFault_99 rfl ?_
        refine m_geti S hK fk_X2_34 (gi_8_5 G) hW (ci_8 (Nat.le_of_ble_eq_true rfl)) dX2_firstFault_100 ?_
        refine lv_iconst hx hb dX2_firstFault_103 ki_1 ?_
        refine lv_iadd hx hb dX2_firstFault_104 ?_
        refine m_put S hK fk_X2_34 tyX2_ok nmX2 rfl pf_X2_5 (pv_8_5 G) hW hS (ci_8 (Nat.le_of_ble_eq_true rfl)) rfl rfl dX2_firstFault_105 (fun Mm105 eMm105 H locs hW hS => ?_)
        replace h := h Mm105 eMm105
        refine lv_aload_n hx hb dX2_firstFault_108 rfl (lv_at hl 0 rfl) ?_
        refine lv_iconst hx hb dX2_firstFault_109 ki_0 ?_
        refine m_cv0 (m_rV S hKX hW (m_szH hbs hS) (cr_X2_readOr l 10 _ _ _ ) h lk_X2_60 (m_recv hK hW (ci_8 (Nat.le_of_ble_eq_true rfl)) (rc_8 G) rfl) rfl hl.1 rfl ⟨Nat.le_of_ble_eq_true rfl, Nat.le_of_ble_eq_true rfl⟩ (Nat.le_of_ble_eq_true rfl) ⟨Nat.le_of_ble_eq_true rfl, Nat.le_of_ble_eq_true rfl⟩ dX2_firstFault_110) hS rfl rfl (fun Mm110 H locs h hW hS => ?_)
        refine lv_aload_n hx hb dX2_firstFault_113 rfl (lv_at hl 0 rfl) ?_
        refine lv_bipush hx hb dX2_firstFault_114 kb_m33 ?_
        refine m_cv0 (m_rV S hKX hW (m_szH hbs hS) (c_X2_addStep l ) h lk_X2_63 (m_recv hK hW (ci_8 (Nat.le_of_ble_eq_true rfl)) (rc_8 G) rfl) rfl hl.1 rfl ⟨Nat.le_of_ble_eq_true rfl, Nat.le_of_ble_eq_true rfl⟩ (Nat.le_of_ble_eq_true rfl) ⟨Nat.le_of_ble_eq_true rfl, Nat.le_of_ble_eq_true rfl⟩ dX2_firstFault_116) hS rfl rfl (fun Mm116 H locs h hW hS => ?_)
        refine lv_aload_n hx hb dX2_firstFault_119 rfl (lv_at hl 0 rfl) ?_
        refine lv_bipush hx hb dX2_firstFault_120 kb_m38 ?_
        refine m_cv0 (m_rV S hKX hW (m_szH hbs hS) (c_X2_addStep l ) h lk_X2_63 (m_recv hK hW (ci_8 (Nat.le_of_ble_eq_true rfl)) (rc_8 G) rfl) rfl hl.1 rfl ⟨Nat.le_of_ble_eq_true rfl, Nat.le_of_ble_eq_true rfl⟩ (Nat.le_of_ble_eq_true rfl) ⟨Nat.le_of_ble_eq_true rfl, Nat.le_of_ble_eq_true rfl⟩ dX2_firstFault_122) hS rfl rfl (fun Mm122 H locs h hW hS => ?_)
        exact b125 _ H locs ls hW hS (lv_sub hl [0] rfl) h
  · replace h := h.2 c56
    refine lv_iconst hx hb dX2_firstFault_59 ki_0 ?_
    exact m_iret S hret hlocks hKX hW hbs hS rfl h dX2_firstFault_60
abbrev rm_X3_drunk : Room := { frames := 0, cells := 0, slots := 0, locals := 0 }
set_option maxHeartbeats 4000000 in
set_option maxRecDepth 100000 in
theorem c_X3_drunk (l : Launch) {G : Gn} {M : Mem} {x0 : Int32} {x1 : Int32} {P : Int32 → Mem → Prop} : MQi l yX3_drunk cX3_drunk 2 (some .int) rm_X3_drunk [.int x0, .int x1] G M (s_X3_drunk M x0 x1 P) P := by
  refine m_enter (by decide +kernel) (Nat.le_of_ble_eq_true rfl) ?_
  intro p e s m below meth c ls H locs S hret hlocks hname hKX hbs hW hS hl h
  obtain ⟨AV, hAV⟩ : ∃ z : Array Value, z = ([.int x0, .int x1] : List Value).toArray := ⟨_, rfl⟩
  rw [← hAV] at S ⊢
  replace S : CallFix p m c cX3_drunk 2 s AV lw_G "MilkDesk$Crates" := S
  have hK := hKX.1
  have hx := S.1
  have hb := S.2.1
  have hml := S.2.2.1
  have hown := S.2.2.2.1
  have hts := S.2.2.2.2
  replace hl : lv_has ls 2 [(0, .int x0), (1, .int x1)] := hl
  unfold s_X3_drunk at h
  refine lv_iload_n hx hb dX3_drunk_0 rfl (lv_at hl 0 rfl) ?_
  by_cases c1_0 : x0 = (0 : Int32)
  · replace h := h.1 c1_0
    rw [c1_0]
    refine lv_tableIn (off := 31) (tgt := 32) hx hb dX3_drunk_1 (by decide +kernel) (by decide +kernel) (by decide +kernel) (by decide) ?_
    refine lv_iconst hx hb dX3_drunk_32 ki_3 ?_
    refine lv_iload_n hx hb dX3_drunk_33 rfl (lv_at hl 1 rfl) ?_
    refine lv_imul hx hb dX3_drunk_34 ?_
    exact m_iret S hret hlocks hKX hW hbs hS rfl h dX3_drunk_35
  · replace h := h.2
    by_cases c1_1 : x0 = (1 : Int32)
    · replace h := h.1 c1_1
      rw [c1_1]
      refine lv_tableIn (off := 35) (tgt := 36) hx hb dX3_drunk_1 (by decide +kernel) (by decide +kernel) (by decide +kernel) (by decide) ?_
      refine lv_iload_n hx hb dX3_drunk_36 rfl (lv_at hl 1 rfl) ?_
      exact m_iret S hret hlocks hKX hW hbs hS rfl h dX3_drunk_37
    · replace h := h.2
      by_cases c1_2 : x0 = (2 : Int32)
      · replace h := h.1 c1_2
        rw [c1_2]
        refine lv_tableIn (off := 37) (tgt := 38) hx hb dX3_drunk_1 (by decide +kernel) (by decide +kernel) (by decide +kernel) (by decide) ?_
        refine lv_iconst hx hb dX3_drunk_38 ki_2 ?_
        refine lv_iload_n hx hb dX3_drunk_39 rfl (lv_at hl 1 rfl) ?_
        refine lv_imul hx hb dX3_drunk_40 ?_
        exact m_iret S hret hlocks hKX hW hbs hS rfl h dX3_drunk_41
      · replace h := h.2
        by_cases c1_3 : x0 = (3 : Int32)
        · replace h := h.1 c1_3
          rw [c1_3]
          refine lv_tableIn (off := 41) (tgt := 42) hx hb dX3_drunk_1 (by decide +kernel) (by decide +kernel) (by decide +kernel) (by decide) ?_
          refine lv_iload_n hx hb dX3_drunk_42 rfl (lv_at hl 1 rfl) ?_
          refine lv_iconst hx hb dX3_drunk_43 ki_2 ?_
          refine lv_idiv hx hb dX3_drunk_44 nz_2 ?_
          exact m_iret S hret hlocks hKX hW hbs hS rfl h dX3_drunk_45
        · replace h := h.2
          replace h := h c1_0 c1_1 c1_2 c1_3
          refine lv_tableOut (tgt := 46) hx hb dX3_drunk_1 (m_out 0 3 (fun z h1 h2 => ?_)) (by decide) ?_
          · have h3 : z = 0 ∨ z = 1 ∨ z = 2 ∨ z = 3 := by omega
            rcases h3 with rfl | rfl | rfl | rfl
            · exact lv_neT c1_0 (by decide +kernel)
            · exact lv_neT c1_1 (by decide +kernel)
            · exact lv_neT c1_2 (by decide +kernel)
            · exact lv_neT c1_3 (by decide +kernel)
          · skip
            refine lv_iconst hx hb dX3_drunk_46 ki_0 ?_
            exact m_iret S hret hlocks hKX hW hbs hS rfl h dX3_drunk_47
abbrev rm_X3_paid : Room := { frames := 0, cells := 0, slots := 0, locals := 0 }
set_option maxHeartbeats 4000000 in
set_option maxRecDepth 100000 in
theorem c_X3_paid (l : Launch) {G : Gn} {M : Mem} {x0 : Int32} {x1 : Int32} {x2 : Int32} {P : Int32 → Mem → Prop} : MQi l yX3_paid cX3_paid 5 (some .int) rm_X3_paid [.int x0, .int x1, .int x2] G M (s_X3_paid M x0 x1 x2 P) P := by
  refine m_enter (by decide +kernel) (Nat.le_of_ble_eq_true rfl) ?_
  intro p e s m below meth c ls H locs S hret hlocks hname hKX hbs hW hS hl h
  obtain ⟨AV, hAV⟩ : ∃ z : Array Value, z = ([.int x0, .int x1, .int x2] : List Value).toArray := ⟨_, rfl⟩
  rw [← hAV] at S ⊢
  replace S : CallFix p m c cX3_paid 5 s AV lw_G "MilkDesk$Crates" := S
  have hK := hKX.1
  have hx := S.1
  have hb := S.2.1
  have hml := S.2.2.1
  have hown := S.2.2.2.1
  have hts := S.2.2.2.2
  replace hl : lv_has ls 5 [(0, .int x0), (1, .int x1), (2, .int x2)] := hl
  have b18 : ∀ (M : Mem) (x3 : Int32) (y0 : Int32) (H : Heap) (locs : List Loc) (ls : Array Slot), WPm G M H → va_S (fun q => bs G ≤ q) s.heap H locs → lv_has ls 5 [(0, .int x0), (3, .int x3)] → s_X3_paid_18 x0 P M x3 y0 → W p l e rm_X3_paid s m AV below meth c H locs 0 0 (MQ below (va_Qi P (WS G) (fun q => bs G ≤ q)) AV s 0 0 (fun q => bs G ≤ q)) (F0 m 18 ls [.int y0]) := by
    intro M x3 y0 H locs ls hW hS hl h
    unfold s_X3_paid_18 at h
    refine lv_istore (lv' := [(4, .int y0), (0, .int x0), (3, .int x3)]) hx hb dX3_paid_18 hl (by decide) rfl (fun ls hl => ?_)
    refine lv_iload_n hx hb dX3_paid_20 rfl (lv_at hl 1 rfl) ?_
    by_cases c21_0 : x0 = (0 : Int32)
    · replace h := h.1 c21_0
      rw [c21_0]
      refine lv_tableIn (off := 43) (tgt := 64) hx hb dX3_paid_21 (by decide +kernel) (by decide +kernel) (by decide +kernel) (by decide) ?_
      refine lv_iload_n hx hb dX3_paid_64 rfl (lv_at hl 2 rfl) ?_
      exact m_iret S hret hlocks hKX hW hbs hS rfl h dX3_paid_65
    · replace h := h.2
      by_cases c21_1 : x0 = (1 : Int32)
      · replace h := h.1 c21_1
        rw [c21_1]
        refine lv_tableIn (off := 74) (tgt := 95) hx hb dX3_paid_21 (by decide +kernel) (by decide +kernel) (by decide +kernel) (by decide) ?_
        refine lv_iload hx hb dX3_paid_95 (lv_at hl 0 rfl) ?_
        exact m_iret S hret hlocks hKX hW hbs hS rfl h dX3_paid_97
      · replace h := h.2
        by_cases c21_2 : x0 = (2 : Int32)
        · replace h := h.1 c21_2
          rw [c21_2]
          refine lv_tableIn (off := 45) (tgt := 66) hx hb dX3_paid_21 (by decide +kernel) (by decide +kernel) (by decide +kernel) (by decide) ?_
          refine lv_iload_n hx hb dX3_paid_66 rfl (lv_at hl 2 rfl) ?_
          refine lv_iconst hx hb dX3_paid_67 ki_2 ?_
          refine lv_idiv hx hb dX3_paid_68 nz_2 ?_
          exact m_iret S hret hlocks hKX hW hbs hS rfl h dX3_paid_69
        · replace h := h.2
          by_cases c21_3 : x0 = (3 : Int32)
          · replace h := h.1 c21_3
            rw [c21_3]
            refine lv_tableIn (off := 74) (tgt := 95) hx hb dX3_paid_21 (by decide +kernel) (by decide +kernel) (by decide +kernel) (by decide) ?_
            refine lv_iload hx hb dX3_paid_95 (lv_at hl 0 rfl) ?_
            exact m_iret S hret hlocks hKX hW hbs hS rfl h dX3_paid_97
          · replace h := h.2
            by_cases c21_4 : x0 = (4 : Int32)
            · replace h := h.1 c21_4
              rw [c21_4]
              refine lv_tableIn (off := 49) (tgt := 70) hx hb dX3_paid_21 (by decide +kernel) (by decide +kernel) (by decide +kernel) (by decide) ?_
              refine lv_iload hx hb dX3_paid_70 (lv_at hl 0 rfl) ?_
              refine lv_iconst hx hb dX3_paid_72 ki_2 ?_
              refine lv_idiv hx hb dX3_paid_73 nz_2 ?_
              exact m_iret S hret hlocks hKX hW hbs hS rfl h dX3_paid_74
            · replace h := h.2
              by_cases c21_5 : x0 = (5 : Int32)
              · replace h := h.1 c21_5
                rw [c21_5]
                refine lv_tableIn (off := 54) (tgt := 75) hx hb dX3_paid_21 (by decide +kernel) (by decide +kernel) (by decide +kernel) (by decide) ?_
                refine lv_iload hx hb dX3_paid_75 (lv_at hl 0 rfl) ?_
                refine lv_iconst hx hb dX3_paid_77 ki_2 ?_
                refine lv_idiv hx hb dX3_paid_78 nz_2 ?_
                exact m_iret S hret hlocks hKX hW hbs hS rfl h dX3_paid_79
              · replace h := h.2
                by_cases c21_6 : x0 = (6 : Int32)
                · replace h := h.1 c21_6
                  rw [c21_6]
                  refine lv_tableIn (off := 59) (tgt := 80) hx hb dX3_paid_21 (by decide +kernel) (by decide +kernel) (by decide +kernel) (by decide) ?_
                  refine lv_iload hx hb dX3_paid_80 (lv_at hl 0 rfl) ?_
                  refine lv_if_le (tgt := 92) hx hb dX3_paid_82 (by decide) (fun c82 => ?_) (fun c82 => ?_)
                  · replace h := h.1 c82
                    refine lv_iload hx hb dX3_paid_92 (lv_at hl 0 rfl) ?_
                    exact m_iret S hret hlocks hKX hW hbs hS rfl h dX3_paid_94
                  · replace h := h.2 c82
                    refine lv_iload hx hb dX3_paid_85 (lv_at hl 0 rfl) ?_
                    refine lv_iconst hx hb dX3_paid_87 ki_1 ?_
                    refine lv_isub hx hb dX3_paid_88 ?_
                    refine lv_goto (tgt := 94) hx hb dX3_paid_89 (by decide) ?_
                    exact m_iret S hret hlocks hKX hW hbs hS rfl h dX3_paid_94
                · replace h := h.2
                  replace h := h c21_0 c21_1 c21_2 c21_3 c21_4 c21_5 c21_6
                  refine lv_tableOut (tgt := 95) hx hb dX3_paid_21 (m_out 0 6 (fun z h1 h2 => ?_)) (by decide) ?_
                  · have h3 : z = 0 ∨ z = 1 ∨ z = 2 ∨ z = 3 ∨ z = 4 ∨ z = 5 ∨ z = 6 := by omega
                    rcases h3 with rfl | rfl | rfl | rfl | rfl | rfl | rfl
                    · exact lv_neT c21_0 (by decide +kernel)
                    · exact lv_neT c21_1 (by decide +kernel)
                    · exact lv_neT c21_2 (by decide +kernel)
                    · exact lv_neT c21_3 (by decide +kernel)
                    · exact lv_neT c21_4 (by decide +kernel)
                    · exact lv_neT c21_5 (by decide +kernel)
                    · exact lv_neT c21_6 (by decide +kernel)
                  · skip
                    refine lv_iload hx hb dX3_paid_95 (lv_at hl 0 rfl) ?_
                    exact m_iret S hret hlocks hKX hW hbs hS rfl h dX3_paid_97
  unfold s_X3_paid at h
  refine lv_iload_n hx hb dX3_paid_0 rfl (lv_at hl 1 rfl) ?_
  refine lv_iload_n hx hb dX3_paid_1 rfl (lv_at hl 2 rfl) ?_
  refine lv_imul hx hb dX3_paid_2 ?_
  refine lv_bipush hx hb dX3_paid_3 kb_100 ?_
  refine lv_idiv hx hb dX3_paid_5 nz_100 ?_
  refine lv_topi (fun x3_6 ex3_6 => ?_)
  replace h := h x3_6 ex3_6
  refine lv_istore_n (lv' := [(3, .int x3_6), (0, .int x0), (1, .int x1), (2, .int x2)]) hx hb dX3_paid_6 rfl hl (by decide) rfl (fun ls hl => ?_)
  refine lv_iload_n hx hb dX3_paid_7 rfl (lv_at hl 2 rfl) ?_
  refine lv_if_le (tgt := 17) hx hb dX3_paid_8 (by decide) (fun c8 => ?_) (fun c8 => ?_)
  · replace h := h.1 c8
    refine lv_iload_n hx hb dX3_paid_17 rfl (lv_at hl 0 rfl) ?_
    exact b18 _ _ _ H locs ls hW hS (lv_sub hl [1, 0] rfl) h
  · replace h := h.2 c8
    refine lv_iload_n hx hb dX3_paid_11 rfl (lv_at hl 0 rfl) ?_
    refine lv_iconst hx hb dX3_paid_12 ki_1 ?_
    refine lv_iadd hx hb dX3_paid_13 ?_
    refine lv_goto (tgt := 18) hx hb dX3_paid_14 (by decide) ?_
    exact b18 _ _ _ H locs ls hW hS (lv_sub hl [1, 0] rfl) h
abbrev rm_X3_canFail : Room := { frames := 0, cells := 0, slots := 0, locals := 0 }
set_option maxHeartbeats 4000000 in
set_option maxRecDepth 100000 in
theorem c_X3_canFail (l : Launch) {G : Gn} {M : Mem} {x0 : Int32} {x1 : Int32} {P : Int32 → Mem → Prop} : MQi l yX3_canFail cX3_canFail 2 (some .boolean) rm_X3_canFail [.int x0, .int x1] G M (s_X3_canFail M x0 x1 P) P := by
  refine m_enter (by decide +kernel) (Nat.le_of_ble_eq_true rfl) ?_
  intro p e s m below meth c ls H locs S hret hlocks hname hKX hbs hW hS hl h
  obtain ⟨AV, hAV⟩ : ∃ z : Array Value, z = ([.int x0, .int x1] : List Value).toArray := ⟨_, rfl⟩
  rw [← hAV] at S ⊢
  replace S : CallFix p m c cX3_canFail 2 s AV lw_G "MilkDesk$Crates" := S
  have hK := hKX.1
  have hx := S.1
  have hb := S.2.1
  have hml := S.2.2.1
  have hown := S.2.2.2.1
  have hts := S.2.2.2.2
  replace hl : lv_has ls 2 [(0, .int x0), (1, .int x1)] := hl
  unfold s_X3_canFail at h
  refine lv_iload_n hx hb dX3_canFail_0 rfl (lv_at hl 0 rfl) ?_
  refine lv_iconst hx hb dX3_canFail_1 ki_2 ?_
  refine lv_icmp_eq (tgt := 13) hx hb dX3_canFail_2 (by decide) (fun c2 => ?_) (fun c2 => ?_)
  · replace h := h.1 c2
    refine lv_iconst hx hb dX3_canFail_13 ki_0 ?_
    exact m_iret S hret hlocks hKX hW hbs hS rfl h dX3_canFail_14
  · replace h := h.2 c2
    refine lv_iload_n hx hb dX3_canFail_5 rfl (lv_at hl 1 rfl) ?_
    refine lv_if_le (tgt := 13) hx hb dX3_canFail_6 (by decide) (fun c6 => ?_) (fun c6 => ?_)
    · replace h := h.1 c6
      refine lv_iconst hx hb dX3_canFail_13 ki_0 ?_
      exact m_iret S hret hlocks hKX hW hbs hS rfl h dX3_canFail_14
    · replace h := h.2 c6
      refine lv_iconst hx hb dX3_canFail_9 ki_1 ?_
      refine lv_goto (tgt := 14) hx hb dX3_canFail_10 (by decide) ?_
      exact m_iret S hret hlocks hKX hW hbs hS rfl h dX3_canFail_14
abbrev rm_X4_has : Room := { frames := 0, cells := 0, slots := 0, locals := 0 }
set_option maxHeartbeats 4000000 in
set_option maxRecDepth 100000 in
theorem c_X4_has (l : Launch) {G : Gn} {M : Mem} {w : Nat} {x1 : Int32} {P : Int32 → Mem → Prop} (hi_w : w < 3) : MQi l yX4_has cX4_has 2 (some .boolean) rm_X4_has [.ref (ad G 3 w), .int x1] G M (s_X4_has w M x1 P) P := by
  refine m_enter (by decide +kernel) (Nat.le_of_ble_eq_true rfl) ?_
  intro p e s m below meth c ls H locs S hret hlocks hname hKX hbs hW hS hl h
  obtain ⟨AV, hAV⟩ : ∃ z : Array Value, z = ([.ref (ad G 3 w), .int x1] : List Value).toArray := ⟨_, rfl⟩
  rw [← hAV] at S ⊢
  replace S : CallFix p m c cX4_has 2 s AV lw_G "MilkDesk$Dairies" := S
  have hK := hKX.1
  have hx := S.1
  have hb := S.2.1
  have hml := S.2.2.1
  have hown := S.2.2.2.1
  have hts := S.2.2.2.2
  replace hl : lv_has ls 2 [(0, .ref (ad G 3 w)), (1, .int x1)] := hl
  unfold s_X4_has at h
  refine lv_iload_n hx hb dX4_has_0 rfl (lv_at hl 1 rfl) ?_
  refine lv_if_lt (tgt := 16) hx hb dX4_has_1 (by decide) (fun c1 => ?_) (fun c1 => ?_)
  · replace h := h.1 c1
    refine lv_iconst hx hb dX4_has_16 ki_0 ?_
    exact m_iret S hret hlocks hKX hW hbs hS rfl h dX4_has_17
  · replace h := h.2 c1
    refine lv_iload_n hx hb dX4_has_4 rfl (lv_at hl 1 rfl) ?_
    refine lv_aload_n hx hb dX4_has_5 rfl (lv_at hl 0 rfl) ?_
    refine m_geti S hK fk_X4_36 (gi_3_0 G) hW (ci_3 hi_w) dX4_has_6 ?_
    refine lv_icmp_ge (tgt := 16) hx hb dX4_has_9 (by decide) (fun c9 => ?_) (fun c9 => ?_)
    · replace h := h.1 c9
      refine lv_iconst hx hb dX4_has_16 ki_0 ?_
      exact m_iret S hret hlocks hKX hW hbs hS rfl h dX4_has_17
    · replace h := h.2 c9
      refine lv_iconst hx hb dX4_has_12 ki_1 ?_
      refine lv_goto (tgt := 17) hx hb dX4_has_13 (by decide) ?_
      exact m_iret S hret hlocks hKX hW hbs hS rfl h dX4_has_17
abbrev rm_X4_come : Room := { frames := 0, cells := 0, slots := 0, locals := 0 }
set_option maxHeartbeats 4000000 in
set_option maxRecDepth 100000 in
theorem c_X4_come (l : Launch) {G : Gn} {M : Mem} {w : Nat} {x1 : Int32} {x2 : Int32} {x3 : Int32} {P : Int32 → Mem → Prop} (hi_w : w < 3) : MQi l yX4_come cX4_come 6 (some .int) rm_X4_come [.ref (ad G 3 w), .int x1, .int x2, .int x3] G M (s_X4_come w M x1 x2 x3 P) P := by
  refine m_enter (by decide +kernel) (Nat.le_of_ble_eq_true rfl) ?_
  intro p e s m below meth c ls H locs S hret hlocks hname hKX hbs hW hS hl h
  obtain ⟨AV, hAV⟩ : ∃ z : Array Value, z = ([.ref (ad G 3 w), .int x1, .int x2, .int x3] : List Value).toArray := ⟨_, rfl⟩
  rw [← hAV] at S ⊢
  replace S : CallFix p m c cX4_come 6 s AV lw_G "MilkDesk$Dairies" := S
  have hK := hKX.1
  have hx := S.1
  have hb := S.2.1
  have hml := S.2.2.1
  have hown := S.2.2.2.1
  have hts := S.2.2.2.2
  replace hl : lv_has ls 6 [(0, .ref (ad G 3 w)), (1, .int x1), (2, .int x2), (3, .int x3)] := hl
  have w47 : ∀ (x4 : Int32), ∀ (n : Nat) (a : Mem × Int32), Lz (fun (K47 : Mem × Int32 → Prop) (a : Mem × Int32) => s_X4_come_47 w x4 P K47 a.1 a.2) n a → ∀ (H : Heap) (locs : List Loc) (ls : Array Slot), WPm G a.1 H → va_S (fun q => bs G ≤ q) s.heap H locs → lv_has ls 6 [(0, .ref (ad G 3 w)), (4, .int x4), (5, .int a.2)] → W p l e rm_X4_come s m AV below meth c H locs 0 0 (MQ below (va_Qi P (WS G) (fun q => bs G ≤ q)) AV s 0 0 (fun q => bs G ≤ q)) (F0 m 47 ls []) := by
    intro x4
    refine Lz_walk ?_
    rintro K47 kk47 ⟨M, x5⟩ h H locs ls hW hS hl
    replace h : s_X4_come_47 w x4 P K47 M x5 := h
    replace hW : WPm G M H := hW
    replace hl : lv_has ls 6 [(0, .ref (ad G 3 w)), (4, .int x4), (5, .int x5)] := hl
    unfold s_X4_come_47 at h
    refine lv_iload hx hb dX4_come_47 (lv_at hl 2 rfl) ?_
    refine lv_iconst hx hb dX4_come_49 ki_4 ?_
    refine lv_icmp_ge (tgt := 72) hx hb dX4_come_50 (by decide) (fun c50 => ?_) (fun c50 => ?_)
    · replace h := h.1 c50
      refine lv_aload_n hx hb dX4_come_72 rfl (lv_at hl 0 rfl) ?_
      refine lv_dup hx hb dX4_come_73 rfl ?_
      refine m_geti S hK fk_X4_36 (gi_3_0 G) hW (ci_3 hi_w) dX4_come_74 ?_
      refine lv_iconst hx hb dX4_come_77 ki_1 ?_
      refine lv_iadd hx hb dX4_come_78 ?_
      refine m_put S hK fk_X4_36 tyX4_ok nmX4 rfl pf_X4_0 (pv_3_0 G) hW hS (ci_3 hi_w) rfl rfl dX4_come_79 (fun Mm79 eMm79 H locs hW hS => ?_)
      replace h := h Mm79 eMm79
      refine lv_iload hx hb dX4_come_82 (lv_at hl 1 rfl) ?_
      exact m_iret S hret hlocks hKX hW hbs hS rfl h dX4_come_84
    · replace h := h.2 c50
      refine lv_aload_n hx hb dX4_come_53 rfl (lv_at hl 0 rfl) ?_
      refine m_getr S hK fk_X4_24 (gr_3_5 G w) hW (ci_3 hi_w) dX4_come_54 ?_
      refine lv_iload hx hb dX4_come_57 (lv_at hl 1 rfl) ?_
      refine lv_iconst hx hb dX4_come_59 ki_4 ?_
      refine lv_imul hx hb dX4_come_60 ?_
      refine lv_iload hx hb dX4_come_61 (lv_at hl 2 rfl) ?_
      refine lv_iadd hx hb dX4_come_63 ?_
      refine lv_iconst hx hb dX4_come_64 ki_m1 ?_
      obtain ⟨hb65, h⟩ := h
      refine m_ast S hK (ar_26 G) hW hS (ci_26 hi_w) hb65 dX4_come_65 (fun Mm65 eMm65 H locs hW hS => ?_)
      replace h := h Mm65 eMm65
      obtain ⟨x5_66, ex5_66⟩ : ∃ z : Int32, z = x5 + (1 : Int32) := ⟨_, rfl⟩
      replace h := h x5_66 ex5_66
      refine lv_iinc (v := x5_66) (lv' := [(5, .int x5_66), (0, .ref (ad G 3 w)), (4, .int x4)]) hx hb dX4_come_66 hl (k := 2) rfl (by rw [ex5_66, ki_1]) (by decide) rfl (fun ls hl => ?_)
      refine lv_goto (tgt := 47) hx hb dX4_come_69 (by decide) ?_
      exact kk47 _ h H locs ls hW hS (lv_sub hl [1, 2, 0] rfl)
  unfold s_X4_come at h
  refine lv_aload_n hx hb dX4_come_0 rfl (lv_at hl 0 rfl) ?_
  refine m_geti S hK fk_X4_36 (gi_3_0 G) hW (ci_3 hi_w) dX4_come_1 ?_
  refine lv_topi (fun x4_4 ex4_4 => ?_)
  replace h := h x4_4 ex4_4
  refine lv_istore (lv' := [(4, .int x4_4), (0, .ref (ad G 3 w)), (1, .int x1), (2, .int x2), (3, .int x3)]) hx hb dX4_come_4 hl (by decide) rfl (fun ls hl => ?_)
  refine lv_aload_n hx hb dX4_come_6 rfl (lv_at hl 1 rfl) ?_
  refine m_getr S hK fk_X4_9 (gr_3_1 G w) hW (ci_3 hi_w) dX4_come_7 ?_
  refine lv_iload hx hb dX4_come_10 (lv_at hl 0 rfl) ?_
  refine lv_iload_n hx hb dX4_come_12 rfl (lv_at hl 2 rfl) ?_
  refine lv_bipush hx hb dX4_come_13 kb_100 ?_
  refine lv_idiv hx hb dX4_come_15 nz_100 ?_
  obtain ⟨hb16, h⟩ := h
  refine m_ast S hK (ar_22 G) hW hS (ci_22 hi_w) hb16 dX4_come_16 (fun Mm16 eMm16 H locs hW hS => ?_)
  replace h := h Mm16 eMm16
  refine lv_aload_n hx hb dX4_come_17 rfl (lv_at hl 1 rfl) ?_
  refine m_getr S hK fk_X4_15 (gr_3_2 G w) hW (ci_3 hi_w) dX4_come_18 ?_
  refine lv_iload hx hb dX4_come_21 (lv_at hl 0 rfl) ?_
  refine lv_iload_n hx hb dX4_come_23 rfl (lv_at hl 2 rfl) ?_
  refine lv_bipush hx hb dX4_come_24 kb_100 ?_
  refine lv_irem hx hb dX4_come_26 nz_100 ?_
  obtain ⟨hb27, h⟩ := h
  refine m_ast S hK (ar_23 G) hW hS (ci_23 hi_w) hb27 dX4_come_27 (fun Mm27 eMm27 H locs hW hS => ?_)
  replace h := h Mm27 eMm27
  refine lv_aload_n hx hb dX4_come_28 rfl (lv_at hl 1 rfl) ?_
  refine m_getr S hK fk_X4_18 (gr_3_3 G w) hW (ci_3 hi_w) dX4_come_29 ?_
  refine lv_iload hx hb dX4_come_32 (lv_at hl 0 rfl) ?_
  refine lv_iload_n hx hb dX4_come_34 rfl (lv_at hl 3 rfl) ?_
  obtain ⟨hb35, h⟩ := h
  refine m_ast S hK (ar_24 G) hW hS (ci_24 hi_w) hb35 dX4_come_35 (fun Mm35 eMm35 H locs hW hS => ?_)
  replace h := h Mm35 eMm35
  refine lv_aload_n hx hb dX4_come_36 rfl (lv_at hl 1 rfl) ?_
  refine m_getr S hK fk_X4_21 (gr_3_4 G w) hW (ci_3 hi_w) dX4_come_37 ?_
  refine lv_iload hx hb dX4_come_40 (lv_at hl 0 rfl) ?_
  refine lv_iload_n hx hb dX4_come_42 rfl (lv_at hl 4 rfl) ?_
  obtain ⟨hb43, h⟩ := h
  refine m_ast S hK (ar_25 G) hW hS (ci_25 hi_w) hb43 dX4_come_43 (fun Mm43 eMm43 H locs hW hS => ?_)
  replace h := h Mm43 eMm43
  refine lv_iconst hx hb dX4_come_44 ki_0 ?_
  refine lv_istore (lv' := [(5, .int (0 : Int32)), (4, .int x4_4), (0, .ref (ad G 3 w)), (1, .int x1), (2, .int x2), (3, .int x3)]) hx hb dX4_come_45 hl (by decide) rfl (fun ls hl => ?_)
  obtain ⟨n47, h⟩ := h
  exact w47 _ n47 _ h H locs ls hW hS (lv_sub hl [2, 1, 0] rfl)
abbrev rm_X4_winner : Room := { frames := 0, cells := 0, slots := 0, locals := 0 }
set_option maxHeartbeats 4000000 in
set_option maxRecDepth 100000 in
theorem c_X4_winner (l : Launch) {G : Gn} {M : Mem} {w : Nat} {x1 : Int32} {P : Int32 → Mem → Prop} (hi_w : w < 3) : MQi l yX4_winner cX4_winner 6 (some .int) rm_X4_winner [.ref (ad G 3 w), .int x1] G M (s_X4_winner w M x1 P) P := by
  refine m_enter (by decide +kernel) (Nat.le_of_ble_eq_true rfl) ?_
  intro p e s m below meth c ls H locs S hret hlocks hname hKX hbs hW hS hl h
  obtain ⟨AV, hAV⟩ : ∃ z : Array Value, z = ([.ref (ad G 3 w), .int x1] : List Value).toArray := ⟨_, rfl⟩
  rw [← hAV] at S ⊢
  replace S : CallFix p m c cX4_winner 6 s AV lw_G "MilkDesk$Dairies" := S
  have hK := hKX.1
  have hx := S.1
  have hb := S.2.1
  have hml := S.2.2.1
  have hown := S.2.2.2.1
  have hts := S.2.2.2.2
  replace hl : lv_has ls 6 [(0, .ref (ad G 3 w)), (1, .int x1)] := hl
  have w7 : ∀ (n : Nat) (a : Mem × Int32 × Int32 × Int32), Lz (fun (K7 : Mem × Int32 × Int32 × Int32 → Prop) (a : Mem × Int32 × Int32 × Int32) => s_X4_winner_7 w x1 P K7 a.1 a.2.1 a.2.2.1 a.2.2.2) n a → ∀ (H : Heap) (locs : List Loc) (ls : Array Slot), WPm G a.1 H → va_S (fun q => bs G ≤ q) s.heap H locs → lv_has ls 6 [(0, .ref (ad G 3 w)), (1, .int x1), (2, .int a.2.1), (3, .int a.2.2.1), (4, .int a.2.2.2)] → W p l e rm_X4_winner s m AV below meth c H locs 0 0 (MQ below (va_Qi P (WS G) (fun q => bs G ≤ q)) AV s 0 0 (fun q => bs G ≤ q)) (F0 m 7 ls []) := by
    refine Lz_walk ?_
    rintro K7 kk7 ⟨M, x2, x3, x4⟩ h H locs ls hW hS hl
    replace h : s_X4_winner_7 w x1 P K7 M x2 x3 x4 := h
    replace hW : WPm G M H := hW
    replace hl : lv_has ls 6 [(0, .ref (ad G 3 w)), (1, .int x1), (2, .int x2), (3, .int x3), (4, .int x4)] := hl
    have b45 : ∀ (M : Mem) (x4 : Int32) (x5 : Int32) (H : Heap) (locs : List Loc) (ls : Array Slot), WPm G M H → va_S (fun q => bs G ≤ q) s.heap H locs → lv_has ls 6 [(0, .ref (ad G 3 w)), (1, .int x1), (4, .int x4), (5, .int x5)] → s_X4_winner_45 w x1 P K7 M x4 x5 → W p l e rm_X4_winner s m AV below meth c H locs 0 0 (MQ below (va_Qi P (WS G) (fun q => bs G ≤ q)) AV s 0 0 (fun q => bs G ≤ q)) (F0 m 45 ls []) := by
      intro M x4 x5 H locs ls hW hS hl h
      unfold s_X4_winner_45 at h
      refine lv_iload hx hb dX4_winner_45 (lv_at hl 2 rfl) ?_
      refine lv_istore_n (lv' := [(2, .int x4), (0, .ref (ad G 3 w)), (1, .int x1), (4, .int x4), (5, .int x5)]) hx hb dX4_winner_47 rfl hl (by decide) rfl (fun ls hl => ?_)
      refine lv_iload hx hb dX4_winner_48 (lv_at hl 4 rfl) ?_
      refine lv_istore_n (lv' := [(3, .int x5), (2, .int x4), (0, .ref (ad G 3 w)), (1, .int x1), (4, .int x4), (5, .int x5)]) hx hb dX4_winner_50 rfl hl (by decide) rfl (fun ls hl => ?_)
      obtain ⟨x4_51, ex4_51⟩ : ∃ z : Int32, z = x4 + (1 : Int32) := ⟨_, rfl⟩
      replace h := h x4_51 ex4_51
      refine lv_iinc (v := x4_51) (lv' := [(4, .int x4_51), (3, .int x5), (2, .int x4), (0, .ref (ad G 3 w)), (1, .int x1), (5, .int x5)]) hx hb dX4_winner_51 hl (k := 4) rfl (by rw [ex4_51, ki_1]) (by decide) rfl (fun ls hl => ?_)
      refine lv_goto (tgt := 7) hx hb dX4_winner_54 (by decide) ?_
      exact kk7 _ h H locs ls hW hS (lv_sub hl [3, 4, 2, 1, 0] rfl)
    unfold s_X4_winner_7 at h
    refine lv_iload hx hb dX4_winner_7 (lv_at hl 4 rfl) ?_
    refine lv_aload_n hx hb dX4_winner_9 rfl (lv_at hl 0 rfl) ?_
    refine m_geti S hK fk_X4_36 (gi_3_0 G) hW (ci_3 hi_w) dX4_winner_10 ?_
    refine lv_icmp_ge (tgt := 57) hx hb dX4_winner_13 (by decide) (fun c13 => ?_) (fun c13 => ?_)
    · replace h := h.1 c13
      refine lv_iload_n hx hb dX4_winner_57 rfl (lv_at hl 2 rfl) ?_
      exact m_iret S hret hlocks hKX hW hbs hS rfl h dX4_winner_58
    · replace h := h.2 c13
      refine lv_aload_n hx hb dX4_winner_16 rfl (lv_at hl 0 rfl) ?_
      refine m_getr S hK fk_X4_24 (gr_3_5 G w) hW (ci_3 hi_w) dX4_winner_17 ?_
      refine lv_iload hx hb dX4_winner_20 (lv_at hl 4 rfl) ?_
      refine lv_iconst hx hb dX4_winner_22 ki_4 ?_
      refine lv_imul hx hb dX4_winner_23 ?_
      refine lv_iload_n hx hb dX4_winner_24 rfl (lv_at hl 1 rfl) ?_
      refine lv_iadd hx hb dX4_winner_25 ?_
      obtain ⟨hb26, h⟩ := h
      refine m_ald S hK (ar_26 G) hW (ci_26 hi_w) hb26 dX4_winner_26 ?_
      refine lv_topi (fun x5_27 ex5_27 => ?_)
      replace h := h x5_27 ex5_27
      refine lv_istore (lv' := [(5, .int x5_27), (0, .ref (ad G 3 w)), (1, .int x1), (2, .int x2), (3, .int x3), (4, .int x4)]) hx hb dX4_winner_27 hl (by decide) rfl (fun ls hl => ?_)
      refine lv_iload hx hb dX4_winner_29 (lv_at hl 0 rfl) ?_
      refine lv_iconst hx hb dX4_winner_31 ki_m1 ?_
      refine lv_icmp_eq (tgt := 51) hx hb dX4_winner_32 (by decide) (fun c32 => ?_) (fun c32 => ?_)
      · replace h := h.1 c32
        obtain ⟨x4_51, ex4_51⟩ : ∃ z : Int32, z = x4 + (1 : Int32) := ⟨_, rfl⟩
        replace h := h x4_51 ex4_51
        refine lv_iinc (v := x4_51) (lv' := [(4, .int x4_51), (5, .int x5_27), (0, .ref (ad G 3 w)), (1, .int x1), (2, .int x2), (3, .int x3)]) hx hb dX4_winner_51 hl (k := 5) rfl (by rw [ex4_51, ki_1]) (by decide) rfl (fun ls hl => ?_)
        refine lv_goto (tgt := 7) hx hb dX4_winner_54 (by decide) ?_
        exact kk7 _ h H locs ls hW hS (lv_sub hl [2, 3, 4, 5, 0] rfl)
      · replace h := h.2 c32
        refine lv_iload_n hx hb dX4_winner_35 rfl (lv_at hl 3 rfl) ?_
        refine lv_if_lt (tgt := 45) hx hb dX4_winner_36 (by decide) (fun c36 => ?_) (fun c36 => ?_)
        · replace h := h.1 c36
          exact b45 _ _ _ H locs ls hW hS (lv_sub hl [1, 2, 5, 0] rfl) h
        · replace h := h.2 c36
          refine lv_iload hx hb dX4_winner_39 (lv_at hl 0 rfl) ?_
          refine lv_iload_n hx hb dX4_winner_41 rfl (lv_at hl 4 rfl) ?_
          refine lv_icmp_ge (tgt := 51) hx hb dX4_winner_42 (by decide) (fun c42 => ?_) (fun c42 => ?_)
          · replace h := h.1 c42
            obtain ⟨x4_51, ex4_51⟩ : ∃ z : Int32, z = x4 + (1 : Int32) := ⟨_, rfl⟩
            replace h := h x4_51 ex4_51
            refine lv_iinc (v := x4_51) (lv' := [(4, .int x4_51), (5, .int x5_27), (0, .ref (ad G 3 w)), (1, .int x1), (2, .int x2), (3, .int x3)]) hx hb dX4_winner_51 hl (k := 5) rfl (by rw [ex4_51, ki_1]) (by decide) rfl (fun ls hl => ?_)
            refine lv_goto (tgt := 7) hx hb dX4_winner_54 (by decide) ?_
            exact kk7 _ h H locs ls hW hS (lv_sub hl [2, 3, 4, 5, 0] rfl)
          · replace h := h.2 c42
            exact b45 _ _ _ H locs ls hW hS (lv_sub hl [1, 2, 5, 0] rfl) h
  unfold s_X4_winner at h
  refine lv_iconst hx hb dX4_winner_0 ki_m1 ?_
  refine lv_istore_n (lv' := [(2, .int (-1 : Int32)), (0, .ref (ad G 3 w)), (1, .int x1)]) hx hb dX4_winner_1 rfl hl (by decide) rfl (fun ls hl => ?_)
  refine lv_iconst hx hb dX4_winner_2 ki_0 ?_
  refine lv_istore_n (lv' := [(3, .int (0 : Int32)), (2, .int (-1 : Int32)), (0, .ref (ad G 3 w)), (1, .int x1)]) hx hb dX4_winner_3 rfl hl (by decide) rfl (fun ls hl => ?_)
  refine lv_iconst hx hb dX4_winner_4 ki_0 ?_
  refine lv_istore (lv' := [(4, .int (0 : Int32)), (3, .int (0 : Int32)), (2, .int (-1 : Int32)), (0, .ref (ad G 3 w)), (1, .int x1)]) hx hb dX4_winner_5 hl (by decide) rfl (fun ls hl => ?_)
  obtain ⟨n7, h⟩ := h
  exact w7 n7 _ h H locs ls hW hS (lv_sub hl [3, 4, 2, 1, 0] rfl)
abbrev rm_X4_price : Room := { frames := 1, cells := 0, slots := 0, locals := 25 }
set_option maxHeartbeats 4000000 in
set_option maxRecDepth 100000 in
theorem c_X4_price (l : Launch) {G : Gn} {M : Mem} {w : Nat} {x1 : Int32} {P : Int32 → Mem → Prop} (hi_w : w < 3) : MQi l yX4_price cX4_price 3 (some .int) rm_X4_price [.ref (ad G 3 w), .int x1] G M (s_X4_price w M x1 P) P := by
  refine m_enter (by decide +kernel) (Nat.le_of_ble_eq_true rfl) ?_
  intro p e s m below meth c ls H locs S hret hlocks hname hKX hbs hW hS hl h
  obtain ⟨AV, hAV⟩ : ∃ z : Array Value, z = ([.ref (ad G 3 w), .int x1] : List Value).toArray := ⟨_, rfl⟩
  rw [← hAV] at S ⊢
  replace S : CallFix p m c cX4_price 3 s AV lw_G "MilkDesk$Dairies" := S
  have hK := hKX.1
  have hx := S.1
  have hb := S.2.1
  have hml := S.2.2.1
  have hown := S.2.2.2.1
  have hts := S.2.2.2.2
  replace hl : lv_has ls 3 [(0, .ref (ad G 3 w)), (1, .int x1)] := hl
  unfold s_X4_price at h
  refine lv_aload_n hx hb dX4_price_0 rfl (lv_at hl 0 rfl) ?_
  refine lv_iload_n hx hb dX4_price_1 rfl (lv_at hl 1 rfl) ?_
  refine m_ci0 (m_rV S hKX hW (m_szH hbs hS) (c_X4_winner l hi_w) h lk_X4_40 (m_recv hK hW (ci_3 hi_w) (rc_3 G) rfl) rfl hl.1 rfl ⟨Nat.le_of_ble_eq_true rfl, Nat.le_of_ble_eq_true rfl⟩ (Nat.le_of_ble_eq_true rfl) ⟨Nat.le_of_ble_eq_true rfl, Nat.le_of_ble_eq_true rfl⟩ dX4_price_2) hS rfl rfl (fun rr2 Mm2 H locs h hW hS => ?_)
  refine lv_istore_n (lv' := [(2, .int rr2), (0, .ref (ad G 3 w)), (1, .int x1)]) hx hb dX4_price_5 rfl hl (by decide) rfl (fun ls hl => ?_)
  refine lv_iload_n hx hb dX4_price_6 rfl (lv_at hl 0 rfl) ?_
  refine lv_if_ge (tgt := 14) hx hb dX4_price_7 (by decide) (fun c7 => ?_) (fun c7 => ?_)
  · replace h := h.1 c7
    refine lv_aload_n hx hb dX4_price_14 rfl (lv_at hl 1 rfl) ?_
    refine m_getr S hK fk_X4_24 (gr_3_5 G w) hW (ci_3 hi_w) dX4_price_15 ?_
    refine lv_iload_n hx hb dX4_price_18 rfl (lv_at hl 0 rfl) ?_
    refine lv_iconst hx hb dX4_price_19 ki_4 ?_
    refine lv_imul hx hb dX4_price_20 ?_
    refine lv_iload_n hx hb dX4_price_21 rfl (lv_at hl 2 rfl) ?_
    refine lv_iadd hx hb dX4_price_22 ?_
    obtain ⟨hb23, h⟩ := h
    refine m_ald S hK (ar_26 G) hW (ci_26 hi_w) hb23 dX4_price_23 ?_
    exact m_iret S hret hlocks hKX hW hbs hS rfl h dX4_price_24
  · replace h := h.2 c7
    refine lv_iconst hx hb dX4_price_10 ki_0 ?_
    refine lv_goto (tgt := 24) hx hb dX4_price_11 (by decide) ?_
    exact m_iret S hret hlocks hKX hW hbs hS rfl h dX4_price_24
abbrev rm_X4_allBottles : Room := { frames := 0, cells := 0, slots := 0, locals := 0 }
set_option maxHeartbeats 4000000 in
set_option maxRecDepth 100000 in
theorem c_X4_allBottles (l : Launch) {G : Gn} {M : Mem} {w : Nat} {P : Int32 → Mem → Prop} (hi_w : w < 3) : MQi l yX4_allBottles cX4_allBottles 3 (some .int) rm_X4_allBottles [.ref (ad G 3 w)] G M (s_X4_allBottles w M P) P := by
  refine m_enter (by decide +kernel) (Nat.le_of_ble_eq_true rfl) ?_
  intro p e s m below meth c ls H locs S hret hlocks hname hKX hbs hW hS hl h
  obtain ⟨AV, hAV⟩ : ∃ z : Array Value, z = ([.ref (ad G 3 w)] : List Value).toArray := ⟨_, rfl⟩
  rw [← hAV] at S ⊢
  replace S : CallFix p m c cX4_allBottles 3 s AV lw_G "MilkDesk$Dairies" := S
  have hK := hKX.1
  have hx := S.1
  have hb := S.2.1
  have hml := S.2.2.1
  have hown := S.2.2.2.1
  have hts := S.2.2.2.2
  replace hl : lv_has ls 3 [(0, .ref (ad G 3 w))] := hl
  have w4 : ∀ (n : Nat) (a : Mem × Int32 × Int32), Lz (fun (K4 : Mem × Int32 × Int32 → Prop) (a : Mem × Int32 × Int32) => s_X4_allBottles_4 w P K4 a.1 a.2.1 a.2.2) n a → ∀ (H : Heap) (locs : List Loc) (ls : Array Slot), WPm G a.1 H → va_S (fun q => bs G ≤ q) s.heap H locs → lv_has ls 3 [(0, .ref (ad G 3 w)), (1, .int a.2.1), (2, .int a.2.2)] → W p l e rm_X4_allBottles s m AV below meth c H locs 0 0 (MQ below (va_Qi P (WS G) (fun q => bs G ≤ q)) AV s 0 0 (fun q => bs G ≤ q)) (F0 m 4 ls []) := by
    refine Lz_walk ?_
    rintro K4 kk4 ⟨M, x1, x2⟩ h H locs ls hW hS hl
    replace h : s_X4_allBottles_4 w P K4 M x1 x2 := h
    replace hW : WPm G M H := hW
    replace hl : lv_has ls 3 [(0, .ref (ad G 3 w)), (1, .int x1), (2, .int x2)] := hl
    unfold s_X4_allBottles_4 at h
    refine lv_iload_n hx hb dX4_allBottles_4 rfl (lv_at hl 2 rfl) ?_
    refine lv_aload_n hx hb dX4_allBottles_5 rfl (lv_at hl 0 rfl) ?_
    refine m_geti S hK fk_X4_36 (gi_3_0 G) hW (ci_3 hi_w) dX4_allBottles_6 ?_
    refine lv_icmp_ge (tgt := 27) hx hb dX4_allBottles_9 (by decide) (fun c9 => ?_) (fun c9 => ?_)
    · replace h := h.1 c9
      refine lv_iload_n hx hb dX4_allBottles_27 rfl (lv_at hl 1 rfl) ?_
      exact m_iret S hret hlocks hKX hW hbs hS rfl h dX4_allBottles_28
    · replace h := h.2 c9
      refine lv_iload_n hx hb dX4_allBottles_12 rfl (lv_at hl 1 rfl) ?_
      refine lv_aload_n hx hb dX4_allBottles_13 rfl (lv_at hl 0 rfl) ?_
      refine m_getr S hK fk_X4_18 (gr_3_3 G w) hW (ci_3 hi_w) dX4_allBottles_14 ?_
      refine lv_iload_n hx hb dX4_allBottles_17 rfl (lv_at hl 2 rfl) ?_
      obtain ⟨hb18, h⟩ := h
      refine m_ald S hK (ar_24 G) hW (ci_24 hi_w) hb18 dX4_allBottles_18 ?_
      refine lv_iadd hx hb dX4_allBottles_19 ?_
      refine lv_topi (fun x1_20 ex1_20 => ?_)
      replace h := h x1_20 ex1_20
      refine lv_istore_n (lv' := [(1, .int x1_20), (0, .ref (ad G 3 w)), (2, .int x2)]) hx hb dX4_allBottles_20 rfl hl (by decide) rfl (fun ls hl => ?_)
      obtain ⟨x2_21, ex2_21⟩ : ∃ z : Int32, z = x2 + (1 : Int32) := ⟨_, rfl⟩
      replace h := h x2_21 ex2_21
      refine lv_iinc (v := x2_21) (lv' := [(2, .int x2_21), (1, .int x1_20), (0, .ref (ad G 3 w))]) hx hb dX4_allBottles_21 hl (k := 2) rfl (by rw [ex2_21, ki_1]) (by decide) rfl (fun ls hl => ?_)
      refine lv_goto (tgt := 4) hx hb dX4_allBottles_24 (by decide) ?_
      exact kk4 _ h H locs ls hW hS (lv_sub hl [2, 1, 0] rfl)
  unfold s_X4_allBottles at h
  refine lv_iconst hx hb dX4_allBottles_0 ki_0 ?_
  refine lv_istore_n (lv' := [(1, .int (0 : Int32)), (0, .ref (ad G 3 w))]) hx hb dX4_allBottles_1 rfl hl (by decide) rfl (fun ls hl => ?_)
  refine lv_iconst hx hb dX4_allBottles_2 ki_0 ?_
  refine lv_istore_n (lv' := [(2, .int (0 : Int32)), (1, .int (0 : Int32)), (0, .ref (ad G 3 w))]) hx hb dX4_allBottles_3 rfl hl (by decide) rfl (fun ls hl => ?_)
  obtain ⟨n4, h⟩ := h
  exact w4 n4 _ h H locs ls hW hS (lv_sub hl [2, 1, 0] rfl)
abbrev rm_X4_stock : Room := { frames := 0, cells := 0, slots := 0, locals := 0 }
set_option maxHeartbeats 4000000 in
set_option maxRecDepth 100000 in
theorem c_X4_stock (l : Launch) {G : Gn} {M : Mem} {w : Nat} {x1 : Int32} {x2 : Int32} {P : Mem → Prop} (hi_w : w < 3) : MQv l yX4_stock cX4_stock 3 none rm_X4_stock [.ref (ad G 3 w), .int x1, .int x2] G M (s_X4_stock w M x1 x2 P) P := by
  refine m_enter (by decide +kernel) (Nat.le_of_ble_eq_true rfl) ?_
  intro p e s m below meth c ls H locs S hret hlocks hname hKX hbs hW hS hl h
  obtain ⟨AV, hAV⟩ : ∃ z : Array Value, z = ([.ref (ad G 3 w), .int x1, .int x2] : List Value).toArray := ⟨_, rfl⟩
  rw [← hAV] at S ⊢
  replace S : CallFix p m c cX4_stock 3 s AV lw_G "MilkDesk$Dairies" := S
  have hK := hKX.1
  have hx := S.1
  have hb := S.2.1
  have hml := S.2.2.1
  have hown := S.2.2.2.1
  have hts := S.2.2.2.2
  replace hl : lv_has ls 3 [(0, .ref (ad G 3 w)), (1, .int x1), (2, .int x2)] := hl
  unfold s_X4_stock at h
  refine lv_aload_n hx hb dX4_stock_0 rfl (lv_at hl 0 rfl) ?_
  refine m_getr S hK fk_X4_18 (gr_3_3 G w) hW (ci_3 hi_w) dX4_stock_1 ?_
  refine lv_iload_n hx hb dX4_stock_4 rfl (lv_at hl 1 rfl) ?_
  refine lv_dup2_11 hx hb dX4_stock_5 rfl rfl ?_
  obtain ⟨hb6, h⟩ := h
  refine m_ald S hK (ar_24 G) hW (ci_24 hi_w) hb6 dX4_stock_6 ?_
  refine lv_iload_n hx hb dX4_stock_7 rfl (lv_at hl 2 rfl) ?_
  refine lv_iadd hx hb dX4_stock_8 ?_
  obtain ⟨hb9, h⟩ := h
  refine m_ast S hK (ar_24 G) hW hS (ci_24 hi_w) hb9 dX4_stock_9 (fun Mm9 eMm9 H locs hW hS => ?_)
  replace h := h Mm9 eMm9
  refine lv_aload_n hx hb dX4_stock_10 rfl (lv_at hl 0 rfl) ?_
  refine m_getr S hK fk_X4_30 (gr_3_7 G w) hW (ci_3 hi_w) dX4_stock_11 ?_
  refine lv_iload_n hx hb dX4_stock_14 rfl (lv_at hl 1 rfl) ?_
  refine lv_aload_n hx hb dX4_stock_15 rfl (lv_at hl 0 rfl) ?_
  refine m_getr S hK fk_X4_18 (gr_3_3 G w) hW (ci_3 hi_w) dX4_stock_16 ?_
  refine lv_iload_n hx hb dX4_stock_19 rfl (lv_at hl 1 rfl) ?_
  obtain ⟨hb20, h⟩ := h
  refine m_ald S hK (ar_24 G) hW (ci_24 hi_w) hb20 dX4_stock_20 ?_
  obtain ⟨hb21, h⟩ := h
  refine m_ast S hK (ar_28 G) hW hS (ci_28 hi_w) hb21 dX4_stock_21 (fun Mm21 eMm21 H locs hW hS => ?_)
  replace h := h Mm21 eMm21
  exact m_vret S hret hlocks hKX hW hbs hS h dX4_stock_22
abbrev rm_X4_openDay : Room := { frames := 0, cells := 0, slots := 0, locals := 0 }
set_option maxHeartbeats 4000000 in
set_option maxRecDepth 100000 in
theorem c_X4_openDay (l : Launch) {G : Gn} {M : Mem} {w : Nat} {P : Mem → Prop} (hi_w : w < 3) : MQv l yX4_openDay cX4_openDay 2 none rm_X4_openDay [.ref (ad G 3 w)] G M (s_X4_openDay w M P) P := by
  refine m_enter (by decide +kernel) (Nat.le_of_ble_eq_true rfl) ?_
  intro p e s m below meth c ls H locs S hret hlocks hname hKX hbs hW hS hl h
  obtain ⟨AV, hAV⟩ : ∃ z : Array Value, z = ([.ref (ad G 3 w)] : List Value).toArray := ⟨_, rfl⟩
  rw [← hAV] at S ⊢
  replace S : CallFix p m c cX4_openDay 2 s AV lw_G "MilkDesk$Dairies" := S
  have hK := hKX.1
  have hx := S.1
  have hb := S.2.1
  have hml := S.2.2.1
  have hown := S.2.2.2.1
  have hts := S.2.2.2.2
  replace hl : lv_has ls 2 [(0, .ref (ad G 3 w))] := hl
  have w2 : ∀ (n : Nat) (a : Mem × Int32), Lz (fun (K2 : Mem × Int32 → Prop) (a : Mem × Int32) => s_X4_openDay_2 w P K2 a.1 a.2) n a → ∀ (H : Heap) (locs : List Loc) (ls : Array Slot), WPm G a.1 H → va_S (fun q => bs G ≤ q) s.heap H locs → lv_has ls 2 [(0, .ref (ad G 3 w)), (1, .int a.2)] → W p l e rm_X4_openDay s m AV below meth c H locs 0 0 (MQ below (va_Qv P (WS G) (fun q => bs G ≤ q)) AV s 0 0 (fun q => bs G ≤ q)) (F0 m 2 ls []) := by
    refine Lz_walk ?_
    rintro K2 kk2 ⟨M, x1⟩ h H locs ls hW hS hl
    replace h : s_X4_openDay_2 w P K2 M x1 := h
    replace hW : WPm G M H := hW
    replace hl : lv_has ls 2 [(0, .ref (ad G 3 w)), (1, .int x1)] := hl
    unfold s_X4_openDay_2 at h
    refine lv_iload_n hx hb dX4_openDay_2 rfl (lv_at hl 1 rfl) ?_
    refine lv_aload_n hx hb dX4_openDay_3 rfl (lv_at hl 0 rfl) ?_
    refine m_geti S hK fk_X4_36 (gi_3_0 G) hW (ci_3 hi_w) dX4_openDay_4 ?_
    refine lv_icmp_ge (tgt := 35) hx hb dX4_openDay_7 (by decide) (fun c7 => ?_) (fun c7 => ?_)
    · replace h := h.1 c7
      exact m_vret S hret hlocks hKX hW hbs hS h dX4_openDay_35
    · replace h := h.2 c7
      refine lv_aload_n hx hb dX4_openDay_10 rfl (lv_at hl 0 rfl) ?_
      refine m_getr S hK fk_X4_33 (gr_3_8 G w) hW (ci_3 hi_w) dX4_openDay_11 ?_
      refine lv_iload_n hx hb dX4_openDay_14 rfl (lv_at hl 1 rfl) ?_
      refine lv_aload_n hx hb dX4_openDay_15 rfl (lv_at hl 0 rfl) ?_
      refine m_getr S hK fk_X4_21 (gr_3_4 G w) hW (ci_3 hi_w) dX4_openDay_16 ?_
      refine lv_iload_n hx hb dX4_openDay_19 rfl (lv_at hl 1 rfl) ?_
      obtain ⟨hb20, h⟩ := h
      refine m_ald S hK (ar_25 G) hW (ci_25 hi_w) hb20 dX4_openDay_20 ?_
      obtain ⟨hb21, h⟩ := h
      refine m_ast S hK (ar_29 G) hW hS (ci_29 hi_w) hb21 dX4_openDay_21 (fun Mm21 eMm21 H locs hW hS => ?_)
      replace h := h Mm21 eMm21
      refine lv_aload_n hx hb dX4_openDay_22 rfl (lv_at hl 0 rfl) ?_
      refine m_getr S hK fk_X4_27 (gr_3_6 G w) hW (ci_3 hi_w) dX4_openDay_23 ?_
      refine lv_iload_n hx hb dX4_openDay_26 rfl (lv_at hl 1 rfl) ?_
      refine lv_iconst hx hb dX4_openDay_27 ki_0 ?_
      obtain ⟨hb28, h⟩ := h
      refine m_ast S hK (ar_27 G) hW hS (ci_27 hi_w) hb28 dX4_openDay_28 (fun Mm28 eMm28 H locs hW hS => ?_)
      replace h := h Mm28 eMm28
      obtain ⟨x1_29, ex1_29⟩ : ∃ z : Int32, z = x1 + (1 : Int32) := ⟨_, rfl⟩
      replace h := h x1_29 ex1_29
      refine lv_iinc (v := x1_29) (lv' := [(1, .int x1_29), (0, .ref (ad G 3 w))]) hx hb dX4_openDay_29 hl (k := 1) rfl (by rw [ex1_29, ki_1]) (by decide) rfl (fun ls hl => ?_)
      refine lv_goto (tgt := 2) hx hb dX4_openDay_32 (by decide) ?_
      exact kk2 _ h H locs ls hW hS (lv_sub hl [1, 0] rfl)
  unfold s_X4_openDay at h
  refine lv_iconst hx hb dX4_openDay_0 ki_0 ?_
  refine lv_istore_n (lv' := [(1, .int (0 : Int32)), (0, .ref (ad G 3 w))]) hx hb dX4_openDay_1 rfl hl (by decide) rfl (fun ls hl => ?_)
  obtain ⟨n2, h⟩ := h
  exact w2 n2 _ h H locs ls hW hS (lv_sub hl [1, 0] rfl)
abbrev rm_X4_send : Room := { frames := 1, cells := 0, slots := 0, locals := 21 }
set_option maxHeartbeats 4000000 in
set_option maxRecDepth 100000 in
theorem c_X4_send (l : Launch) {G : Gn} {M : Mem} {w : Nat} {x1 : Int32} {x2 : Int32} {P : Int32 → Mem → Prop} (hi_w : w < 3) : MQi l yX4_send cX4_send 4 (some .int) rm_X4_send [.ref (ad G 3 w), .int x1, .int x2] G M (s_X4_send w M x1 x2 P) P := by
  refine m_enter (by decide +kernel) (Nat.le_of_ble_eq_true rfl) ?_
  intro p e s m below meth c ls H locs S hret hlocks hname hKX hbs hW hS hl h
  obtain ⟨AV, hAV⟩ : ∃ z : Array Value, z = ([.ref (ad G 3 w), .int x1, .int x2] : List Value).toArray := ⟨_, rfl⟩
  rw [← hAV] at S ⊢
  replace S : CallFix p m c cX4_send 4 s AV lw_G "MilkDesk$Dairies" := S
  have hK := hKX.1
  have hx := S.1
  have hb := S.2.1
  have hml := S.2.2.1
  have hown := S.2.2.2.1
  have hts := S.2.2.2.2
  replace hl : lv_has ls 4 [(0, .ref (ad G 3 w)), (1, .int x1), (2, .int x2)] := hl
  unfold s_X4_send at h
  refine lv_iload_n hx hb dX4_send_0 rfl (lv_at hl 2 rfl) ?_
  refine lv_aload_n hx hb dX4_send_1 rfl (lv_at hl 0 rfl) ?_
  refine m_getr S hK fk_X4_33 (gr_3_8 G w) hW (ci_3 hi_w) dX4_send_2 ?_
  refine lv_iload_n hx hb dX4_send_5 rfl (lv_at hl 1 rfl) ?_
  obtain ⟨hb6, h⟩ := h
  refine m_ald S hK (ar_29 G) hW (ci_29 hi_w) hb6 dX4_send_6 ?_
  refine lv_aload_n hx hb dX4_send_7 rfl (lv_at hl 0 rfl) ?_
  refine m_getr S hK fk_X4_18 (gr_3_3 G w) hW (ci_3 hi_w) dX4_send_8 ?_
  refine lv_iload_n hx hb dX4_send_11 rfl (lv_at hl 1 rfl) ?_
  obtain ⟨hb12, h⟩ := h
  refine m_ald S hK (ar_24 G) hW (ci_24 hi_w) hb12 dX4_send_12 ?_
  refine va_mmin hx hb (hml.trans hl.1.symm) hown (hts _ mw_770) (hts _ mw_473) (hts _ mw_13) (hts _ mw_474) (Nat.le_of_ble_eq_true rfl) (Nat.le_of_ble_eq_true rfl) (Nat.zero_le _) (Nat.zero_le _) dX4_send_13 ?_
  refine va_mmin hx hb (hml.trans hl.1.symm) hown (hts _ mw_770) (hts _ mw_473) (hts _ mw_13) (hts _ mw_474) (Nat.le_of_ble_eq_true rfl) (Nat.le_of_ble_eq_true rfl) (Nat.zero_le _) (Nat.zero_le _) dX4_send_16 ?_
  refine lv_topi (fun x3_19 ex3_19 => ?_)
  replace h := h x3_19 ex3_19
  refine lv_istore_n (lv' := [(3, .int x3_19), (0, .ref (ad G 3 w)), (1, .int x1), (2, .int x2)]) hx hb dX4_send_19 rfl hl (by decide) rfl (fun ls hl => ?_)
  refine lv_aload_n hx hb dX4_send_20 rfl (lv_at hl 1 rfl) ?_
  refine m_getr S hK fk_X4_33 (gr_3_8 G w) hW (ci_3 hi_w) dX4_send_21 ?_
  refine lv_iload_n hx hb dX4_send_24 rfl (lv_at hl 2 rfl) ?_
  refine lv_dup2_11 hx hb dX4_send_25 rfl rfl ?_
  obtain ⟨hb26, h⟩ := h
  refine m_ald S hK (ar_29 G) hW (ci_29 hi_w) hb26 dX4_send_26 ?_
  refine lv_iload_n hx hb dX4_send_27 rfl (lv_at hl 0 rfl) ?_
  refine lv_isub hx hb dX4_send_28 ?_
  obtain ⟨hb29, h⟩ := h
  refine m_ast S hK (ar_29 G) hW hS (ci_29 hi_w) hb29 dX4_send_29 (fun Mm29 eMm29 H locs hW hS => ?_)
  replace h := h Mm29 eMm29
  refine lv_aload_n hx hb dX4_send_30 rfl (lv_at hl 1 rfl) ?_
  refine m_getr S hK fk_X4_18 (gr_3_3 G w) hW (ci_3 hi_w) dX4_send_31 ?_
  refine lv_iload_n hx hb dX4_send_34 rfl (lv_at hl 2 rfl) ?_
  refine lv_dup2_11 hx hb dX4_send_35 rfl rfl ?_
  obtain ⟨hb36, h⟩ := h
  refine m_ald S hK (ar_24 G) hW (ci_24 hi_w) hb36 dX4_send_36 ?_
  refine lv_iload_n hx hb dX4_send_37 rfl (lv_at hl 0 rfl) ?_
  refine lv_isub hx hb dX4_send_38 ?_
  obtain ⟨hb39, h⟩ := h
  refine m_ast S hK (ar_24 G) hW hS (ci_24 hi_w) hb39 dX4_send_39 (fun Mm39 eMm39 H locs hW hS => ?_)
  replace h := h Mm39 eMm39
  refine lv_aload_n hx hb dX4_send_40 rfl (lv_at hl 1 rfl) ?_
  refine m_getr S hK fk_X4_30 (gr_3_7 G w) hW (ci_3 hi_w) dX4_send_41 ?_
  refine lv_iload_n hx hb dX4_send_44 rfl (lv_at hl 2 rfl) ?_
  refine lv_aload_n hx hb dX4_send_45 rfl (lv_at hl 1 rfl) ?_
  refine m_getr S hK fk_X4_30 (gr_3_7 G w) hW (ci_3 hi_w) dX4_send_46 ?_
  refine lv_iload_n hx hb dX4_send_49 rfl (lv_at hl 2 rfl) ?_
  obtain ⟨hb50, h⟩ := h
  refine m_ald S hK (ar_28 G) hW (ci_28 hi_w) hb50 dX4_send_50 ?_
  refine lv_aload_n hx hb dX4_send_51 rfl (lv_at hl 1 rfl) ?_
  refine m_getr S hK fk_X4_18 (gr_3_3 G w) hW (ci_3 hi_w) dX4_send_52 ?_
  refine lv_iload_n hx hb dX4_send_55 rfl (lv_at hl 2 rfl) ?_
  obtain ⟨hb56, h⟩ := h
  refine m_ald S hK (ar_24 G) hW (ci_24 hi_w) hb56 dX4_send_56 ?_
  refine va_mmin hx hb (hml.trans hl.1.symm) hown (hts _ mw_770) (hts _ mw_473) (hts _ mw_13) (hts _ mw_474) (Nat.le_of_ble_eq_true rfl) (Nat.le_of_ble_eq_true rfl) (Nat.zero_le _) (Nat.zero_le _) dX4_send_57 ?_
  obtain ⟨hb60, h⟩ := h
  refine m_ast S hK (ar_28 G) hW hS (ci_28 hi_w) hb60 dX4_send_60 (fun Mm60 eMm60 H locs hW hS => ?_)
  replace h := h Mm60 eMm60
  refine lv_iload_n hx hb dX4_send_61 rfl (lv_at hl 0 rfl) ?_
  exact m_iret S hret hlocks hKX hW hbs hS rfl h dX4_send_62
abbrev rm_X4_closeDay : Room := { frames := 0, cells := 0, slots := 0, locals := 0 }
set_option maxHeartbeats 4000000 in
set_option maxRecDepth 100000 in
theorem c_X4_closeDay (l : Launch) {G : Gn} {M : Mem} {w : Nat} {P : Mem → Prop} (hi_w : w < 3) : MQv l yX4_closeDay cX4_closeDay 2 none rm_X4_closeDay [.ref (ad G 3 w)] G M (s_X4_closeDay w M P) P := by
  refine m_enter (by decide +kernel) (Nat.le_of_ble_eq_true rfl) ?_
  intro p e s m below meth c ls H locs S hret hlocks hname hKX hbs hW hS hl h
  obtain ⟨AV, hAV⟩ : ∃ z : Array Value, z = ([.ref (ad G 3 w)] : List Value).toArray := ⟨_, rfl⟩
  rw [← hAV] at S ⊢
  replace S : CallFix p m c cX4_closeDay 2 s AV lw_G "MilkDesk$Dairies" := S
  have hK := hKX.1
  have hx := S.1
  have hb := S.2.1
  have hml := S.2.2.1
  have hown := S.2.2.2.1
  have hts := S.2.2.2.2
  replace hl : lv_has ls 2 [(0, .ref (ad G 3 w))] := hl
  have w2 : ∀ (n : Nat) (a : Mem × Int32), Lz (fun (K2 : Mem × Int32 → Prop) (a : Mem × Int32) => s_X4_closeDay_2 w P K2 a.1 a.2) n a → ∀ (H : Heap) (locs : List Loc) (ls : Array Slot), WPm G a.1 H → va_S (fun q => bs G ≤ q) s.heap H locs → lv_has ls 2 [(0, .ref (ad G 3 w)), (1, .int a.2)] → W p l e rm_X4_closeDay s m AV below meth c H locs 0 0 (MQ below (va_Qv P (WS G) (fun q => bs G ≤ q)) AV s 0 0 (fun q => bs G ≤ q)) (F0 m 2 ls []) := by
    refine Lz_walk ?_
    rintro K2 kk2 ⟨M, x1⟩ h H locs ls hW hS hl
    replace h : s_X4_closeDay_2 w P K2 M x1 := h
    replace hW : WPm G M H := hW
    replace hl : lv_has ls 2 [(0, .ref (ad G 3 w)), (1, .int x1)] := hl
    unfold s_X4_closeDay_2 at h
    refine lv_iload_n hx hb dX4_closeDay_2 rfl (lv_at hl 1 rfl) ?_
    refine lv_aload_n hx hb dX4_closeDay_3 rfl (lv_at hl 0 rfl) ?_
    refine m_geti S hK fk_X4_36 (gi_3_0 G) hW (ci_3 hi_w) dX4_closeDay_4 ?_
    refine lv_icmp_ge (tgt := 31) hx hb dX4_closeDay_7 (by decide) (fun c7 => ?_) (fun c7 => ?_)
    · replace h := h.1 c7
      exact m_vret S hret hlocks hKX hW hbs hS h dX4_closeDay_31
    · replace h := h.2 c7
      refine lv_aload_n hx hb dX4_closeDay_10 rfl (lv_at hl 0 rfl) ?_
      refine m_getr S hK fk_X4_18 (gr_3_3 G w) hW (ci_3 hi_w) dX4_closeDay_11 ?_
      refine lv_iload_n hx hb dX4_closeDay_14 rfl (lv_at hl 1 rfl) ?_
      refine lv_dup2_11 hx hb dX4_closeDay_15 rfl rfl ?_
      obtain ⟨hb16, h⟩ := h
      refine m_ald S hK (ar_24 G) hW (ci_24 hi_w) hb16 dX4_closeDay_16 ?_
      refine lv_aload_n hx hb dX4_closeDay_17 rfl (lv_at hl 0 rfl) ?_
      refine m_getr S hK fk_X4_27 (gr_3_6 G w) hW (ci_3 hi_w) dX4_closeDay_18 ?_
      refine lv_iload_n hx hb dX4_closeDay_21 rfl (lv_at hl 1 rfl) ?_
      obtain ⟨hb22, h⟩ := h
      refine m_ald S hK (ar_27 G) hW (ci_27 hi_w) hb22 dX4_closeDay_22 ?_
      refine lv_iadd hx hb dX4_closeDay_23 ?_
      obtain ⟨hb24, h⟩ := h
      refine m_ast S hK (ar_24 G) hW hS (ci_24 hi_w) hb24 dX4_closeDay_24 (fun Mm24 eMm24 H locs hW hS => ?_)
      replace h := h Mm24 eMm24
      obtain ⟨x1_25, ex1_25⟩ : ∃ z : Int32, z = x1 + (1 : Int32) := ⟨_, rfl⟩
      replace h := h x1_25 ex1_25
      refine lv_iinc (v := x1_25) (lv' := [(1, .int x1_25), (0, .ref (ad G 3 w))]) hx hb dX4_closeDay_25 hl (k := 1) rfl (by rw [ex1_25, ki_1]) (by decide) rfl (fun ls hl => ?_)
      refine lv_goto (tgt := 2) hx hb dX4_closeDay_28 (by decide) ?_
      exact kk2 _ h H locs ls hW hS (lv_sub hl [1, 0] rfl)
  unfold s_X4_closeDay at h
  refine lv_iconst hx hb dX4_closeDay_0 ki_0 ?_
  refine lv_istore_n (lv' := [(1, .int (0 : Int32)), (0, .ref (ad G 3 w))]) hx hb dX4_closeDay_1 rfl hl (by decide) rfl (fun ls hl => ?_)
  obtain ⟨n2, h⟩ := h
  exact w2 n2 _ h H locs ls hW hS (lv_sub hl [1, 0] rfl)
abbrev rm_X4_copyFrom : Room := { frames := 2, cells := 0, slots := 0, locals := 85 }
set_option maxHeartbeats 4000000 in
set_option maxRecDepth 100000 in
theorem c_X4_copyFrom (l : Launch) {G : Gn} {M : Mem} {w v : Nat} {P : Mem → Prop} (hi_w : w < 3) (hi_v : v < 3) : MQv l yX4_copyFrom cX4_copyFrom 2 none rm_X4_copyFrom [.ref (ad G 3 w), .ref (ad G 3 v)] G M (s_X4_copyFrom w v M P) P := by
  refine m_enter (by decide +kernel) (Nat.le_of_ble_eq_true rfl) ?_
  intro p e s m below meth c ls H locs S hret hlocks hname hKX hbs hW hS hl h
  obtain ⟨AV, hAV⟩ : ∃ z : Array Value, z = ([.ref (ad G 3 w), .ref (ad G 3 v)] : List Value).toArray := ⟨_, rfl⟩
  rw [← hAV] at S ⊢
  replace S : CallFix p m c cX4_copyFrom 2 s AV lw_G "MilkDesk$Dairies" := S
  have hK := hKX.1
  have hx := S.1
  have hb := S.2.1
  have hml := S.2.2.1
  have hown := S.2.2.2.1
  have hts := S.2.2.2.2
  replace hl : lv_has ls 2 [(0, .ref (ad G 3 w)), (1, .ref (ad G 3 v))] := hl
  unfold s_X4_copyFrom at h
  refine lv_aload_n hx hb dX4_copyFrom_0 rfl (lv_at hl 0 rfl) ?_
  refine lv_aload_n hx hb dX4_copyFrom_1 rfl (lv_at hl 1 rfl) ?_
  refine m_geti S hK fk_X4_36 (gi_3_0 G) hW (ci_3 hi_v) dX4_copyFrom_2 ?_
  refine m_put S hK fk_X4_36 tyX4_ok nmX4 rfl pf_X4_0 (pv_3_0 G) hW hS (ci_3 hi_w) rfl rfl dX4_copyFrom_5 (fun Mm5 eMm5 H locs hW hS => ?_)
  replace h := h Mm5 eMm5
  refine lv_aload_n hx hb dX4_copyFrom_8 rfl (lv_at hl 1 rfl) ?_
  refine m_getr S hK fk_X4_9 (gr_3_1 G v) hW (ci_3 hi_v) dX4_copyFrom_9 ?_
  refine lv_aload_n hx hb dX4_copyFrom_12 rfl (lv_at hl 0 rfl) ?_
  refine m_getr S hK fk_X4_9 (gr_3_1 G w) hW (ci_3 hi_w) dX4_copyFrom_13 ?_
  refine m_cv0 (m_rN S hKX hW (m_szH hbs hS) (c_X11_copyAll l (ar_22 G) (ar_22 G) (ci_22 hi_v) (ci_22 hi_w) (Nat.le_of_ble_eq_true rfl)) h lk_X4_50 rfl hl.1 rfl ⟨Nat.le_of_ble_eq_true rfl, Nat.le_of_ble_eq_true rfl⟩ (Nat.le_of_ble_eq_true rfl) ⟨Nat.le_of_ble_eq_true rfl, Nat.le_of_ble_eq_true rfl⟩ dX4_copyFrom_16) hS rfl rfl (fun Mm16 H locs h hW hS => ?_)
  refine lv_aload_n hx hb dX4_copyFrom_19 rfl (lv_at hl 1 rfl) ?_
  refine m_getr S hK fk_X4_15 (gr_3_2 G v) hW (ci_3 hi_v) dX4_copyFrom_20 ?_
  refine lv_aload_n hx hb dX4_copyFrom_23 rfl (lv_at hl 0 rfl) ?_
  refine m_getr S hK fk_X4_15 (gr_3_2 G w) hW (ci_3 hi_w) dX4_copyFrom_24 ?_
  refine m_cv0 (m_rN S hKX hW (m_szH hbs hS) (c_X11_copyAll l (ar_23 G) (ar_23 G) (ci_23 hi_v) (ci_23 hi_w) (Nat.le_of_ble_eq_true rfl)) h lk_X4_50 rfl hl.1 rfl ⟨Nat.le_of_ble_eq_true rfl, Nat.le_of_ble_eq_true rfl⟩ (Nat.le_of_ble_eq_true rfl) ⟨Nat.le_of_ble_eq_true rfl, Nat.le_of_ble_eq_true rfl⟩ dX4_copyFrom_27) hS rfl rfl (fun Mm27 H locs h hW hS => ?_)
  refine lv_aload_n hx hb dX4_copyFrom_30 rfl (lv_at hl 1 rfl) ?_
  refine m_getr S hK fk_X4_18 (gr_3_3 G v) hW (ci_3 hi_v) dX4_copyFrom_31 ?_
  refine lv_aload_n hx hb dX4_copyFrom_34 rfl (lv_at hl 0 rfl) ?_
  refine m_getr S hK fk_X4_18 (gr_3_3 G w) hW (ci_3 hi_w) dX4_copyFrom_35 ?_
  refine m_cv0 (m_rN S hKX hW (m_szH hbs hS) (c_X11_copyAll l (ar_24 G) (ar_24 G) (ci_24 hi_v) (ci_24 hi_w) (Nat.le_of_ble_eq_true rfl)) h lk_X4_50 rfl hl.1 rfl ⟨Nat.le_of_ble_eq_true rfl, Nat.le_of_ble_eq_true rfl⟩ (Nat.le_of_ble_eq_true rfl) ⟨Nat.le_of_ble_eq_true rfl, Nat.le_of_ble_eq_true rfl⟩ dX4_copyFrom_38) hS rfl rfl (fun Mm38 H locs h hW hS => ?_)
  refine lv_aload_n hx hb dX4_copyFrom_41 rfl (lv_at hl 1 rfl) ?_
  refine m_getr S hK fk_X4_21 (gr_3_4 G v) hW (ci_3 hi_v) dX4_copyFrom_42 ?_
  refine lv_aload_n hx hb dX4_copyFrom_45 rfl (lv_at hl 0 rfl) ?_
  refine m_getr S hK fk_X4_21 (gr_3_4 G w) hW (ci_3 hi_w) dX4_copyFrom_46 ?_
  refine m_cv0 (m_rN S hKX hW (m_szH hbs hS) (c_X11_copyAll l (ar_25 G) (ar_25 G) (ci_25 hi_v) (ci_25 hi_w) (Nat.le_of_ble_eq_true rfl)) h lk_X4_50 rfl hl.1 rfl ⟨Nat.le_of_ble_eq_true rfl, Nat.le_of_ble_eq_true rfl⟩ (Nat.le_of_ble_eq_true rfl) ⟨Nat.le_of_ble_eq_true rfl, Nat.le_of_ble_eq_true rfl⟩ dX4_copyFrom_49) hS rfl rfl (fun Mm49 H locs h hW hS => ?_)
  refine lv_aload_n hx hb dX4_copyFrom_52 rfl (lv_at hl 1 rfl) ?_
  refine m_getr S hK fk_X4_24 (gr_3_5 G v) hW (ci_3 hi_v) dX4_copyFrom_53 ?_
  refine lv_aload_n hx hb dX4_copyFrom_56 rfl (lv_at hl 0 rfl) ?_
  refine m_getr S hK fk_X4_24 (gr_3_5 G w) hW (ci_3 hi_w) dX4_copyFrom_57 ?_
  refine m_cv0 (m_rN S hKX hW (m_szH hbs hS) (c_X11_copyAll l (ar_26 G) (ar_26 G) (ci_26 hi_v) (ci_26 hi_w) (Nat.le_of_ble_eq_true rfl)) h lk_X4_50 rfl hl.1 rfl ⟨Nat.le_of_ble_eq_true rfl, Nat.le_of_ble_eq_true rfl⟩ (Nat.le_of_ble_eq_true rfl) ⟨Nat.le_of_ble_eq_true rfl, Nat.le_of_ble_eq_true rfl⟩ dX4_copyFrom_60) hS rfl rfl (fun Mm60 H locs h hW hS => ?_)
  exact m_vret S hret hlocks hKX hW hbs hS h dX4_copyFrom_63
abbrev rm_X5_lastOf : Room := { frames := 0, cells := 0, slots := 0, locals := 0 }
set_option maxHeartbeats 4000000 in
set_option maxRecDepth 100000 in
theorem c_X5_lastOf (l : Launch) {G : Gn} {M : Mem} {w : Nat} {x1 : Int32} {P : Int32 → Mem → Prop} (hi_w : w < 3) : MQi l yX5_lastOf cX5_lastOf 3 (some .int) rm_X5_lastOf [.ref (ad G 4 w), .int x1] G M (s_X5_lastOf w M x1 P) P := by
  refine m_enter (by decide +kernel) (Nat.le_of_ble_eq_true rfl) ?_
  intro p e s m below meth c ls H locs S hret hlocks hname hKX hbs hW hS hl h
  obtain ⟨AV, hAV⟩ : ∃ z : Array Value, z = ([.ref (ad G 4 w), .int x1] : List Value).toArray := ⟨_, rfl⟩
  rw [← hAV] at S ⊢
  replace S : CallFix p m c cX5_lastOf 3 s AV lw_G "MilkDesk$HeadRows" := S
  have hK := hKX.1
  have hx := S.1
  have hb := S.2.1
  have hml := S.2.2.1
  have hown := S.2.2.2.1
  have hts := S.2.2.2.2
  replace hl : lv_has ls 3 [(0, .ref (ad G 4 w)), (1, .int x1)] := hl
  have w7 : ∀ (n : Nat) (a : Mem × Int32), Lz (fun (K7 : Mem × Int32 → Prop) (a : Mem × Int32) => s_X5_lastOf_7 w x1 P K7 a.1 a.2) n a → ∀ (H : Heap) (locs : List Loc) (ls : Array Slot), WPm G a.1 H → va_S (fun q => bs G ≤ q) s.heap H locs → lv_has ls 3 [(0, .ref (ad G 4 w)), (1, .int x1), (2, .int a.2)] → W p l e rm_X5_lastOf s m AV below meth c H locs 0 0 (MQ below (va_Qi P (WS G) (fun q => bs G ≤ q)) AV s 0 0 (fun q => bs G ≤ q)) (F0 m 7 ls []) := by
    refine Lz_walk ?_
    rintro K7 kk7 ⟨M, x2⟩ h H locs ls hW hS hl
    replace h : s_X5_lastOf_7 w x1 P K7 M x2 := h
    replace hW : WPm G M H := hW
    replace hl : lv_has ls 3 [(0, .ref (ad G 4 w)), (1, .int x1), (2, .int x2)] := hl
    unfold s_X5_lastOf_7 at h
    refine lv_iload_n hx hb dX5_lastOf_7 rfl (lv_at hl 2 rfl) ?_
    refine lv_if_lt (tgt := 29) hx hb dX5_lastOf_8 (by decide) (fun c8 => ?_) (fun c8 => ?_)
    · replace h := h.1 c8
      refine lv_iconst hx hb dX5_lastOf_29 ki_m1 ?_
      exact m_iret S hret hlocks hKX hW hbs hS rfl h dX5_lastOf_30
    · replace h := h.2 c8
      refine lv_aload_n hx hb dX5_lastOf_11 rfl (lv_at hl 0 rfl) ?_
      refine m_getr S hK fk_X5_9 (gr_4_1 G w) hW (ci_4 hi_w) dX5_lastOf_12 ?_
      refine lv_iload_n hx hb dX5_lastOf_15 rfl (lv_at hl 2 rfl) ?_
      obtain ⟨hb16, h⟩ := h
      refine m_ald S hK (ar_30 G) hW (ci_30 hi_w) hb16 dX5_lastOf_16 ?_
      refine lv_iload_n hx hb dX5_lastOf_17 rfl (lv_at hl 1 rfl) ?_
      refine lv_icmp_ne (tgt := 23) hx hb dX5_lastOf_18 (by decide) (fun c18 => ?_) (fun c18 => ?_)
      · replace h := h.1 c18
        obtain ⟨x2_23, ex2_23⟩ : ∃ z : Int32, z = x2 + (-1 : Int32) := ⟨_, rfl⟩
        replace h := h x2_23 ex2_23
        refine lv_iinc (v := x2_23) (lv' := [(2, .int x2_23), (0, .ref (ad G 4 w)), (1, .int x1)]) hx hb dX5_lastOf_23 hl (k := 2) rfl (by rw [ex2_23, ki_m1]) (by decide) rfl (fun ls hl => ?_)
        refine lv_goto (tgt := 7) hx hb dX5_lastOf_26 (by decide) ?_
        exact kk7 _ h H locs ls hW hS (lv_sub hl [1, 2, 0] rfl)
      · replace h := h.2 c18
        refine lv_iload_n hx hb dX5_lastOf_21 rfl (lv_at hl 2 rfl) ?_
        exact m_iret S hret hlocks hKX hW hbs hS rfl h dX5_lastOf_22
  unfold s_X5_lastOf at h
  refine lv_aload_n hx hb dX5_lastOf_0 rfl (lv_at hl 0 rfl) ?_
  refine m_geti S hK fk_X5_28 (gi_4_0 G) hW (ci_4 hi_w) dX5_lastOf_1 ?_
  refine lv_iconst hx hb dX5_lastOf_4 ki_1 ?_
  refine lv_isub hx hb dX5_lastOf_5 ?_
  refine lv_topi (fun x2_6 ex2_6 => ?_)
  replace h := h x2_6 ex2_6
  refine lv_istore_n (lv' := [(2, .int x2_6), (0, .ref (ad G 4 w)), (1, .int x1)]) hx hb dX5_lastOf_6 rfl hl (by decide) rfl (fun ls hl => ?_)
  obtain ⟨n7, h⟩ := h
  exact w7 n7 _ h H locs ls hW hS (lv_sub hl [1, 2, 0] rfl)
abbrev rm_X9_leastOfSort : Room := { frames := 0, cells := 0, slots := 0, locals := 0 }
set_option maxHeartbeats 4000000 in
set_option maxRecDepth 100000 in
theorem c_X9_leastOfSort (l : Launch) {G : Gn} {M : Mem} {d : Nat} {P : Int32 → Mem → Prop} (hi_d : d < 8) : MQi l yX9_leastOfSort cX9_leastOfSort 1 (some .int) rm_X9_leastOfSort [.ref (ad G 7 d)] G M (s_X9_leastOfSort d M P) P := by
  refine m_enter (by decide +kernel) (Nat.le_of_ble_eq_true rfl) ?_
  intro p e s m below meth c ls H locs S hret hlocks hname hKX hbs hW hS hl h
  obtain ⟨AV, hAV⟩ : ∃ z : Array Value, z = ([.ref (ad G 7 d)] : List Value).toArray := ⟨_, rfl⟩
  rw [← hAV] at S ⊢
  replace S : CallFix p m c cX9_leastOfSort 1 s AV lw_G "MilkDesk$Shelf" := S
  have hK := hKX.1
  have hx := S.1
  have hb := S.2.1
  have hml := S.2.2.1
  have hown := S.2.2.2.1
  have hts := S.2.2.2.2
  replace hl : lv_has ls 1 [(0, .ref (ad G 7 d))] := hl
  unfold s_X9_leastOfSort at h
  refine lv_aload_n hx hb dX9_leastOfSort_0 rfl (lv_at hl 0 rfl) ?_
  refine m_geti S hK fk_X9_28 (gi_7_4 G) hW (ci_7 hi_d) dX9_leastOfSort_1 ?_
  refine lv_if_ne (tgt := 12) hx hb dX9_leastOfSort_4 (by decide) (fun c4 => ?_) (fun c4 => ?_)
  · replace h := h.1 c4
    refine lv_aload_n hx hb dX9_leastOfSort_12 rfl (lv_at hl 0 rfl) ?_
    refine m_geti S hK fk_X9_28 (gi_7_4 G) hW (ci_7 hi_d) dX9_leastOfSort_13 ?_
    refine lv_iconst hx hb dX9_leastOfSort_16 ki_1 ?_
    refine lv_icmp_ne (tgt := 26) hx hb dX9_leastOfSort_17 (by decide) (fun c17 => ?_) (fun c17 => ?_)
    · replace h := h.1 c17
      refine lv_ldc hx hb hown (hts _ mw_471) dX9_leastOfSort_26 ?_
      exact m_iret S hret hlocks hKX hW hbs hS rfl h dX9_leastOfSort_28
    · replace h := h.2 c17
      refine lv_sipush hx hb dX9_leastOfSort_20 ks_m32768 ?_
      refine lv_goto (tgt := 28) hx hb dX9_leastOfSort_23 (by decide) ?_
      exact m_iret S hret hlocks hKX hW hbs hS rfl h dX9_leastOfSort_28
  · replace h := h.2 c4
    refine lv_bipush hx hb dX9_leastOfSort_7 kb_m128 ?_
    refine lv_goto (tgt := 28) hx hb dX9_leastOfSort_9 (by decide) ?_
    exact m_iret S hret hlocks hKX hW hbs hS rfl h dX9_leastOfSort_28
abbrev rm_X5_tell : Room := { frames := 1, cells := 0, slots := 0, locals := 22 }
set_option maxHeartbeats 4000000 in
set_option maxRecDepth 100000 in
theorem c_X5_tell (l : Launch) {G : Gn} {M : Mem} {w d : Nat} {x1 : Int32} {x3 : Int32} {P : Int32 → Mem → Prop} (hi_w : w < 3) (hi_d : d < 8) : MQi l yX5_tell cX5_tell 9 (some .int) rm_X5_tell [.ref (ad G 4 w), .int x1, .ref (ad G 7 d), .int x3] G M (s_X5_tell w d M x1 x3 P) P := by
  refine m_enter (by decide +kernel) (Nat.le_of_ble_eq_true rfl) ?_
  intro p e s m below meth c ls H locs S hret hlocks hname hKX hbs hW hS hl h
  obtain ⟨AV, hAV⟩ : ∃ z : Array Value, z = ([.ref (ad G 4 w), .int x1, .ref (ad G 7 d), .int x3] : List Value).toArray := ⟨_, rfl⟩
  rw [← hAV] at S ⊢
  replace S : CallFix p m c cX5_tell 9 s AV lw_G "MilkDesk$HeadRows" := S
  have hK := hKX.1
  have hx := S.1
  have hb := S.2.1
  have hml := S.2.2.1
  have hown := S.2.2.2.1
  have hts := S.2.2.2.2
  replace hl : lv_has ls 9 [(0, .ref (ad G 4 w)), (1, .int x1), (2, .ref (ad G 7 d)), (3, .int x3)] := hl
  have w59 : ∀ (x4 : Int32) (x5 : Int32), ∀ (n : Nat) (a : Mem × Int32), Lz (fun (K59 : Mem × Int32 → Prop) (a : Mem × Int32) => s_X5_tell_59 w d x4 x5 P K59 a.1 a.2) n a → ∀ (H : Heap) (locs : List Loc) (ls : Array Slot), WPm G a.1 H → va_S (fun q => bs G ≤ q) s.heap H locs → lv_has ls 9 [(0, .ref (ad G 4 w)), (2, .ref (ad G 7 d)), (4, .int x4), (5, .int x5), (6, .int a.2)] → W p l e rm_X5_tell s m AV below meth c H locs 0 0 (MQ below (va_Qi P (WS G) (fun q => bs G ≤ q)) AV s 0 0 (fun q => bs G ≤ q)) (F0 m 59 ls []) := by
    intro x4 x5
    refine Lz_walk ?_
    rintro K59 kk59 ⟨M, x6⟩ h H locs ls hW hS hl
    replace h : s_X5_tell_59 w d x4 x5 P K59 M x6 := h
    replace hW : WPm G M H := hW
    replace hl : lv_has ls 9 [(0, .ref (ad G 4 w)), (2, .ref (ad G 7 d)), (4, .int x4), (5, .int x5), (6, .int x6)] := hl
    have b161 : ∀ (M : Mem) (x6 : Int32) (y0 : Int32) (y1 : Int32) (H : Heap) (locs : List Loc) (ls : Array Slot), WPm G M H → va_S (fun q => bs G ≤ q) s.heap H locs → lv_has ls 9 [(0, .ref (ad G 4 w)), (2, .ref (ad G 7 d)), (4, .int x4), (5, .int x5), (6, .int x6)] → s_X5_tell_161 w d x4 x5 P K59 M x6 y0 y1 → W p l e rm_X5_tell s m AV below meth c H locs 0 0 (MQ below (va_Qi P (WS G) (fun q => bs G ≤ q)) AV s 0 0 (fun q => bs G ≤ q)) (F0 m 161 ls [.int y0, .int y1, .ref (ad G 33 w)]) := by
      intro M x6 y0 y1 H locs ls hW hS hl h
      unfold s_X5_tell_161 at h
      obtain ⟨hb161, h⟩ := h
      refine m_ast S hK (ar_33 G) hW hS (ci_33 hi_w) hb161 dX5_tell_161 (fun Mm161 eMm161 H locs hW hS => ?_)
      replace h := h Mm161 eMm161
      obtain ⟨x6_162, ex6_162⟩ : ∃ z : Int32, z = x6 + (1 : Int32) := ⟨_, rfl⟩
      replace h := h x6_162 ex6_162
      refine lv_iinc (v := x6_162) (lv' := [(6, .int x6_162), (0, .ref (ad G 4 w)), (2, .ref (ad G 7 d)), (4, .int x4), (5, .int x5)]) hx hb dX5_tell_162 hl (k := 4) rfl (by rw [ex6_162, ki_1]) (by decide) rfl (fun ls hl => ?_)
      refine lv_goto (tgt := 59) hx hb dX5_tell_165 (by decide) ?_
      exact kk59 _ h H locs ls hW hS (lv_sub hl [1, 2, 3, 4, 0] rfl)
    have b118 : ∀ (M : Mem) (x6 : Int32) (x7 : Int32) (y0 : Int32) (H : Heap) (locs : List Loc) (ls : Array Slot), WPm G M H → va_S (fun q => bs G ≤ q) s.heap H locs → lv_has ls 9 [(0, .ref (ad G 4 w)), (2, .ref (ad G 7 d)), (4, .int x4), (5, .int x5), (6, .int x6), (7, .int x7)] → s_X5_tell_118 w d x4 x5 P K59 M x6 x7 y0 → W p l e rm_X5_tell s m AV below meth c H locs 0 0 (MQ below (va_Qi P (WS G) (fun q => bs G ≤ q)) AV s 0 0 (fun q => bs G ≤ q)) (F0 m 118 ls [.int y0]) := by
      intro M x6 x7 y0 H locs ls hW hS hl h
      unfold s_X5_tell_118 at h
      refine lv_istore (lv' := [(8, .int y0), (0, .ref (ad G 4 w)), (2, .ref (ad G 7 d)), (4, .int x4), (5, .int x5), (6, .int x6), (7, .int x7)]) hx hb dX5_tell_118 hl (by decide) rfl (fun ls hl => ?_)
      refine lv_aload_n hx hb dX5_tell_120 rfl (lv_at hl 1 rfl) ?_
      refine m_getr S hK fk_X5_21 (gr_4_4 G w) hW (ci_4 hi_w) dX5_tell_121 ?_
      refine lv_aload_n hx hb dX5_tell_124 rfl (lv_at hl 1 rfl) ?_
      refine m_geti S hK fk_X5_28 (gi_4_0 G) hW (ci_4 hi_w) dX5_tell_125 ?_
      refine lv_bipush hx hb dX5_tell_128 kb_12 ?_
      refine lv_imul hx hb dX5_tell_130 ?_
      refine lv_iload hx hb dX5_tell_131 (lv_at hl 5 rfl) ?_
      refine lv_iadd hx hb dX5_tell_133 ?_
      refine lv_iload hx hb dX5_tell_134 (lv_at hl 0 rfl) ?_
      refine lv_if_eq (tgt := 144) hx hb dX5_tell_136 (by decide) (fun c136 => ?_) (fun c136 => ?_)
      · replace h := h.1 c136
        refine lv_iconst hx hb dX5_tell_144 ki_0 ?_
        refine lv_sipush hx hb dX5_tell_145 ks_200 ?_
        refine lv_aload_n hx hb dX5_tell_148 rfl (lv_at hl 2 rfl) ?_
        refine m_getr S hK fk_X5_37 (gr_7_6 G d) hW (ci_7 hi_d) dX5_tell_149 ?_
        refine lv_iload hx hb dX5_tell_152 (lv_at hl 5 rfl) ?_
        obtain ⟨hb154, h⟩ := h
        refine m_ald S hK (ar_39 G) hW (ci_39 hi_d) hb154 dX5_tell_154 ?_
        refine va_mmin hx hb (hml.trans hl.1.symm) hown (hts _ mw_472) (hts _ mw_473) (hts _ mw_13) (hts _ mw_474) (Nat.le_of_ble_eq_true rfl) (Nat.le_of_ble_eq_true rfl) (Nat.zero_le _) (Nat.zero_le _) dX5_tell_155 ?_
        refine va_mmax hx hb (hml.trans hl.1.symm) hown (hts _ mw_475) (hts _ mw_476) (hts _ mw_13) (hts _ mw_477) (Nat.le_of_ble_eq_true rfl) (Nat.le_of_ble_eq_true rfl) (Nat.zero_le _) (Nat.zero_le _) dX5_tell_158 ?_
        exact b161 _ _ _ _ H locs ls hW hS (lv_sub hl [1, 2, 3, 4, 5] rfl) h
      · replace h := h.2 c136
        refine lv_iload hx hb dX5_tell_139 (lv_at hl 6 rfl) ?_
        refine lv_goto (tgt := 161) hx hb dX5_tell_141 (by decide) ?_
        exact b161 _ _ _ _ H locs ls hW hS (lv_sub hl [1, 2, 3, 4, 5] rfl) h
    have b88 : ∀ (M : Mem) (x6 : Int32) (y0 : Int32) (H : Heap) (locs : List Loc) (ls : Array Slot), WPm G M H → va_S (fun q => bs G ≤ q) s.heap H locs → lv_has ls 9 [(0, .ref (ad G 4 w)), (2, .ref (ad G 7 d)), (4, .int x4), (5, .int x5), (6, .int x6)] → s_X5_tell_88 w d x4 x5 P K59 M x6 y0 → W p l e rm_X5_tell s m AV below meth c H locs 0 0 (MQ below (va_Qi P (WS G) (fun q => bs G ≤ q)) AV s 0 0 (fun q => bs G ≤ q)) (F0 m 88 ls [.int y0]) := by
      intro M x6 y0 H locs ls hW hS hl h
      unfold s_X5_tell_88 at h
      refine lv_istore (lv' := [(7, .int y0), (0, .ref (ad G 4 w)), (2, .ref (ad G 7 d)), (4, .int x4), (5, .int x5), (6, .int x6)]) hx hb dX5_tell_88 hl (by decide) rfl (fun ls hl => ?_)
      refine lv_iload hx hb dX5_tell_90 (lv_at hl 5 rfl) ?_
      refine lv_aload_n hx hb dX5_tell_92 rfl (lv_at hl 2 rfl) ?_
      refine m_geti S hK fk_X5_32 (gi_7_5 G) hW (ci_7 hi_d) dX5_tell_93 ?_
      refine lv_icmp_ge (tgt := 113) hx hb dX5_tell_96 (by decide) (fun c96 => ?_) (fun c96 => ?_)
      · replace h := h.1 c96
        refine lv_iconst hx hb dX5_tell_113 ki_1 ?_
        refine lv_goto (tgt := 118) hx hb dX5_tell_114 (by decide) ?_
        exact b118 _ _ _ _ H locs ls hW hS (lv_sub hl [1, 2, 3, 4, 5, 0] rfl) h
      · replace h := h.2 c96
        refine lv_aload_n hx hb dX5_tell_99 rfl (lv_at hl 2 rfl) ?_
        refine m_getr S hK fk_X5_37 (gr_7_6 G d) hW (ci_7 hi_d) dX5_tell_100 ?_
        refine lv_iload hx hb dX5_tell_103 (lv_at hl 5 rfl) ?_
        obtain ⟨hb105, h⟩ := h
        refine m_ald S hK (ar_39 G) hW (ci_39 hi_d) hb105 dX5_tell_105 ?_
        refine lv_aload_n hx hb dX5_tell_106 rfl (lv_at hl 2 rfl) ?_
        refine m_ci0 (m_rV S hKX hW (m_szH hbs hS) (c_X9_leastOfSort l hi_d) h lk_X5_40 (m_recv hK hW (ci_7 hi_d) (rc_7 G) rfl) rfl hl.1 rfl ⟨Nat.le_of_ble_eq_true rfl, Nat.le_of_ble_eq_true rfl⟩ (Nat.le_of_ble_eq_true rfl) ⟨Nat.le_of_ble_eq_true rfl, Nat.le_of_ble_eq_true rfl⟩ dX5_tell_107) hS rfl rfl (fun rr107 Mm107 H locs h hW hS => ?_)
        refine lv_icmp_ne (tgt := 117) hx hb dX5_tell_110 (by decide) (fun c110 => ?_) (fun c110 => ?_)
        · replace h := h.1 c110
          refine lv_iconst hx hb dX5_tell_117 ki_0 ?_
          exact b118 _ _ _ _ H locs ls hW hS (lv_sub hl [1, 2, 3, 4, 5, 0] rfl) h
        · replace h := h.2 c110
          refine lv_iconst hx hb dX5_tell_113 ki_1 ?_
          refine lv_goto (tgt := 118) hx hb dX5_tell_114 (by decide) ?_
          exact b118 _ _ _ _ H locs ls hW hS (lv_sub hl [1, 2, 3, 4, 5, 0] rfl) h
    unfold s_X5_tell_59 at h
    refine lv_iload hx hb dX5_tell_59 (lv_at hl 4 rfl) ?_
    refine lv_bipush hx hb dX5_tell_61 kb_12 ?_
    refine lv_icmp_ge (tgt := 168) hx hb dX5_tell_63 (by decide) (fun c63 => ?_) (fun c63 => ?_)
    · replace h := h.1 c63
      refine lv_aload_n hx hb dX5_tell_168 rfl (lv_at hl 0 rfl) ?_
      refine lv_dup hx hb dX5_tell_169 rfl ?_
      refine m_geti S hK fk_X5_28 (gi_4_0 G) hW (ci_4 hi_w) dX5_tell_170 ?_
      refine lv_iconst hx hb dX5_tell_173 ki_1 ?_
      refine lv_iadd hx hb dX5_tell_174 ?_
      refine m_put S hK fk_X5_28 tyX5_ok nmX5 rfl pf_X5_0 (pv_4_0 G) hW hS (ci_4 hi_w) rfl rfl dX5_tell_175 (fun Mm175 eMm175 H locs hW hS => ?_)
      replace h := h Mm175 eMm175
      refine lv_iload hx hb dX5_tell_178 (lv_at hl 3 rfl) ?_
      refine lv_iconst hx hb dX5_tell_180 ki_4 ?_
      refine lv_iadd hx hb dX5_tell_181 ?_
      exact m_iret S hret hlocks hKX hW hbs hS rfl h dX5_tell_182
    · replace h := h.2 c63
      refine lv_iload hx hb dX5_tell_66 (lv_at hl 2 rfl) ?_
      refine lv_if_ge (tgt := 75) hx hb dX5_tell_68 (by decide) (fun c68 => ?_) (fun c68 => ?_)
      · replace h := h.1 c68
        refine lv_aload_n hx hb dX5_tell_75 rfl (lv_at hl 0 rfl) ?_
        refine m_getr S hK fk_X5_21 (gr_4_4 G w) hW (ci_4 hi_w) dX5_tell_76 ?_
        refine lv_iload hx hb dX5_tell_79 (lv_at hl 2 rfl) ?_
        refine lv_bipush hx hb dX5_tell_81 kb_12 ?_
        refine lv_imul hx hb dX5_tell_83 ?_
        refine lv_iload hx hb dX5_tell_84 (lv_at hl 4 rfl) ?_
        refine lv_iadd hx hb dX5_tell_86 ?_
        obtain ⟨hb87, h⟩ := h
        refine m_ald S hK (ar_33 G) hW (ci_33 hi_w) hb87 dX5_tell_87 ?_
        exact b88 _ _ _ H locs ls hW hS (lv_sub hl [0, 1, 2, 3, 4] rfl) h
      · replace h := h.2 c68
        refine lv_iconst hx hb dX5_tell_71 ki_0 ?_
        refine lv_goto (tgt := 88) hx hb dX5_tell_72 (by decide) ?_
        exact b88 _ _ _ H locs ls hW hS (lv_sub hl [0, 1, 2, 3, 4] rfl) h
  unfold s_X5_tell at h
  refine lv_aload_n hx hb dX5_tell_0 rfl (lv_at hl 0 rfl) ?_
  refine lv_iload_n hx hb dX5_tell_1 rfl (lv_at hl 1 rfl) ?_
  refine m_ci0 (m_rV S hKX hW (m_szH hbs hS) (c_X5_lastOf l hi_w) h lk_X5_24 (m_recv hK hW (ci_4 hi_w) (rc_4 G) rfl) rfl hl.1 rfl ⟨Nat.le_of_ble_eq_true rfl, Nat.le_of_ble_eq_true rfl⟩ (Nat.le_of_ble_eq_true rfl) ⟨Nat.le_of_ble_eq_true rfl, Nat.le_of_ble_eq_true rfl⟩ dX5_tell_2) hS rfl rfl (fun rr2 Mm2 H locs h hW hS => ?_)
  refine lv_istore (lv' := [(4, .int rr2), (0, .ref (ad G 4 w)), (1, .int x1), (2, .ref (ad G 7 d)), (3, .int x3)]) hx hb dX5_tell_5 hl (by decide) rfl (fun ls hl => ?_)
  refine lv_iload_n hx hb dX5_tell_7 rfl (lv_at hl 4 rfl) ?_
  refine lv_iconst hx hb dX5_tell_8 ki_3 ?_
  refine lv_iload_n hx hb dX5_tell_9 rfl (lv_at hl 4 rfl) ?_
  refine lv_bipush hx hb dX5_tell_10 kb_7 ?_
  refine lv_irem hx hb dX5_tell_12 nz_7 ?_
  refine lv_isub hx hb dX5_tell_13 ?_
  refine lv_bipush hx hb dX5_tell_14 kb_7 ?_
  refine lv_iadd hx hb dX5_tell_16 ?_
  refine lv_bipush hx hb dX5_tell_17 kb_7 ?_
  refine lv_irem hx hb dX5_tell_19 nz_7 ?_
  refine lv_iadd hx hb dX5_tell_20 ?_
  refine lv_topi (fun x5_21 ex5_21 => ?_)
  replace h := h x5_21 ex5_21
  refine lv_istore (lv' := [(5, .int x5_21), (4, .int rr2), (0, .ref (ad G 4 w)), (1, .int x1), (2, .ref (ad G 7 d)), (3, .int x3)]) hx hb dX5_tell_21 hl (by decide) rfl (fun ls hl => ?_)
  refine lv_aload_n hx hb dX5_tell_23 rfl (lv_at hl 2 rfl) ?_
  refine m_getr S hK fk_X5_9 (gr_4_1 G w) hW (ci_4 hi_w) dX5_tell_24 ?_
  refine lv_aload_n hx hb dX5_tell_27 rfl (lv_at hl 2 rfl) ?_
  refine m_geti S hK fk_X5_28 (gi_4_0 G) hW (ci_4 hi_w) dX5_tell_28 ?_
  refine lv_iload_n hx hb dX5_tell_31 rfl (lv_at hl 3 rfl) ?_
  obtain ⟨hb32, h⟩ := h
  refine m_ast S hK (ar_30 G) hW hS (ci_30 hi_w) hb32 dX5_tell_32 (fun Mm32 eMm32 H locs hW hS => ?_)
  replace h := h Mm32 eMm32
  refine lv_aload_n hx hb dX5_tell_33 rfl (lv_at hl 2 rfl) ?_
  refine m_getr S hK fk_X5_15 (gr_4_2 G w) hW (ci_4 hi_w) dX5_tell_34 ?_
  refine lv_aload_n hx hb dX5_tell_37 rfl (lv_at hl 2 rfl) ?_
  refine m_geti S hK fk_X5_28 (gi_4_0 G) hW (ci_4 hi_w) dX5_tell_38 ?_
  refine lv_iload_n hx hb dX5_tell_41 rfl (lv_at hl 5 rfl) ?_
  obtain ⟨hb42, h⟩ := h
  refine m_ast S hK (ar_31 G) hW hS (ci_31 hi_w) hb42 dX5_tell_42 (fun Mm42 eMm42 H locs hW hS => ?_)
  replace h := h Mm42 eMm42
  refine lv_aload_n hx hb dX5_tell_43 rfl (lv_at hl 2 rfl) ?_
  refine m_getr S hK fk_X5_18 (gr_4_3 G w) hW (ci_4 hi_w) dX5_tell_44 ?_
  refine lv_aload_n hx hb dX5_tell_47 rfl (lv_at hl 2 rfl) ?_
  refine m_geti S hK fk_X5_28 (gi_4_0 G) hW (ci_4 hi_w) dX5_tell_48 ?_
  refine lv_iload hx hb dX5_tell_51 (lv_at hl 0 rfl) ?_
  refine lv_iconst hx hb dX5_tell_53 ki_4 ?_
  refine lv_iadd hx hb dX5_tell_54 ?_
  obtain ⟨hb55, h⟩ := h
  refine m_ast S hK (ar_32 G) hW hS (ci_32 hi_w) hb55 dX5_tell_55 (fun Mm55 eMm55 H locs hW hS => ?_)
  replace h := h Mm55 eMm55
  refine lv_iconst hx hb dX5_tell_56 ki_0 ?_
  refine lv_istore (lv' := [(6, .int (0 : Int32)), (5, .int x5_21), (4, .int rr2), (0, .ref (ad G 4 w)), (1, .int x1), (2, .ref (ad G 7 d)), (3, .int x3)]) hx hb dX5_tell_57 hl (by decide) rfl (fun ls hl => ?_)
  obtain ⟨n59, h⟩ := h
  exact w59 _ _ n59 _ h H locs ls hW hS (lv_sub hl [3, 5, 2, 1, 0] rfl)
abbrev rm_X5_counting : Room := { frames := 0, cells := 0, slots := 0, locals := 0 }
set_option maxHeartbeats 4000000 in
set_option maxRecDepth 100000 in
theorem c_X5_counting (l : Launch) {G : Gn} {M : Mem} {w : Nat} {x1 : Int32} {x2 : Int32} {x3 : Int32} {x4 : Int32} {P : Int32 → Mem → Prop} (hi_w : w < 3) : MQi l yX5_counting cX5_counting 6 (some .int) rm_X5_counting [.ref (ad G 4 w), .int x1, .int x2, .int x3, .int x4] G M (s_X5_counting w M x1 x2 x3 x4 P) P := by
  refine m_enter (by decide +kernel) (Nat.le_of_ble_eq_true rfl) ?_
  intro p e s m below meth c ls H locs S hret hlocks hname hKX hbs hW hS hl h
  obtain ⟨AV, hAV⟩ : ∃ z : Array Value, z = ([.ref (ad G 4 w), .int x1, .int x2, .int x3, .int x4] : List Value).toArray := ⟨_, rfl⟩
  rw [← hAV] at S ⊢
  replace S : CallFix p m c cX5_counting 6 s AV lw_G "MilkDesk$HeadRows" := S
  have hK := hKX.1
  have hx := S.1
  have hb := S.2.1
  have hml := S.2.2.1
  have hown := S.2.2.2.1
  have hts := S.2.2.2.2
  replace hl : lv_has ls 6 [(0, .ref (ad G 4 w)), (1, .int x1), (2, .int x2), (3, .int x3), (4, .int x4)] := hl
  have w8 : ∀ (n : Nat) (a : Mem × Int32), Lz (fun (K8 : Mem × Int32 → Prop) (a : Mem × Int32) => s_X5_counting_8 w x1 x2 x3 x4 P K8 a.1 a.2) n a → ∀ (H : Heap) (locs : List Loc) (ls : Array Slot), WPm G a.1 H → va_S (fun q => bs G ≤ q) s.heap H locs → lv_has ls 6 [(0, .ref (ad G 4 w)), (1, .int x1), (2, .int x2), (3, .int x3), (4, .int x4), (5, .int a.2)] → W p l e rm_X5_counting s m AV below meth c H locs 0 0 (MQ below (va_Qi P (WS G) (fun q => bs G ≤ q)) AV s 0 0 (fun q => bs G ≤ q)) (F0 m 8 ls []) := by
    refine Lz_walk ?_
    rintro K8 kk8 ⟨M, x5⟩ h H locs ls hW hS hl
    replace h : s_X5_counting_8 w x1 x2 x3 x4 P K8 M x5 := h
    replace hW : WPm G M H := hW
    replace hl : lv_has ls 6 [(0, .ref (ad G 4 w)), (1, .int x1), (2, .int x2), (3, .int x3), (4, .int x4), (5, .int x5)] := hl
    unfold s_X5_counting_8 at h
    refine lv_iload hx hb dX5_counting_8 (lv_at hl 5 rfl) ?_
    refine lv_if_lt (tgt := 66) hx hb dX5_counting_10 (by decide) (fun c10 => ?_) (fun c10 => ?_)
    · replace h := h.1 c10
      refine lv_iconst hx hb dX5_counting_66 ki_0 ?_
      exact m_iret S hret hlocks hKX hW hbs hS rfl h dX5_counting_67
    · replace h := h.2 c10
      refine lv_aload_n hx hb dX5_counting_13 rfl (lv_at hl 0 rfl) ?_
      refine m_getr S hK fk_X5_9 (gr_4_1 G w) hW (ci_4 hi_w) dX5_counting_14 ?_
      refine lv_iload hx hb dX5_counting_17 (lv_at hl 5 rfl) ?_
      obtain ⟨hb19, h⟩ := h
      refine m_ald S hK (ar_30 G) hW (ci_30 hi_w) hb19 dX5_counting_19 ?_
      refine lv_iload_n hx hb dX5_counting_20 rfl (lv_at hl 2 rfl) ?_
      refine lv_icmp_ne (tgt := 60) hx hb dX5_counting_21 (by decide) (fun c21 => ?_) (fun c21 => ?_)
      · replace h := h.1 c21
        obtain ⟨x5_60, ex5_60⟩ : ∃ z : Int32, z = x5 + (-1 : Int32) := ⟨_, rfl⟩
        replace h := h x5_60 ex5_60
        refine lv_iinc (v := x5_60) (lv' := [(5, .int x5_60), (0, .ref (ad G 4 w)), (1, .int x1), (2, .int x2), (3, .int x3), (4, .int x4)]) hx hb dX5_counting_60 hl (k := 5) rfl (by rw [ex5_60, ki_m1]) (by decide) rfl (fun ls hl => ?_)
        refine lv_goto (tgt := 8) hx hb dX5_counting_63 (by decide) ?_
        exact kk8 _ h H locs ls hW hS (lv_sub hl [1, 2, 3, 4, 5, 0] rfl)
      · replace h := h.2 c21
        refine lv_aload_n hx hb dX5_counting_24 rfl (lv_at hl 0 rfl) ?_
        refine m_getr S hK fk_X5_15 (gr_4_2 G w) hW (ci_4 hi_w) dX5_counting_25 ?_
        refine lv_iload hx hb dX5_counting_28 (lv_at hl 5 rfl) ?_
        obtain ⟨hb30, h⟩ := h
        refine m_ald S hK (ar_31 G) hW (ci_31 hi_w) hb30 dX5_counting_30 ?_
        refine lv_iload hx hb dX5_counting_31 (lv_at hl 4 rfl) ?_
        refine lv_icmp_gt (tgt := 60) hx hb dX5_counting_33 (by decide) (fun c33 => ?_) (fun c33 => ?_)
        · replace h := h.1 c33
          obtain ⟨x5_60, ex5_60⟩ : ∃ z : Int32, z = x5 + (-1 : Int32) := ⟨_, rfl⟩
          replace h := h x5_60 ex5_60
          refine lv_iinc (v := x5_60) (lv' := [(5, .int x5_60), (0, .ref (ad G 4 w)), (1, .int x1), (2, .int x2), (3, .int x3), (4, .int x4)]) hx hb dX5_counting_60 hl (k := 5) rfl (by rw [ex5_60, ki_m1]) (by decide) rfl (fun ls hl => ?_)
          refine lv_goto (tgt := 8) hx hb dX5_counting_63 (by decide) ?_
          exact kk8 _ h H locs ls hW hS (lv_sub hl [1, 2, 3, 4, 5, 0] rfl)
        · replace h := h.2 c33
          refine lv_aload_n hx hb dX5_counting_36 rfl (lv_at hl 0 rfl) ?_
          refine m_getr S hK fk_X5_18 (gr_4_3 G w) hW (ci_4 hi_w) dX5_counting_37 ?_
          refine lv_iload hx hb dX5_counting_40 (lv_at hl 5 rfl) ?_
          obtain ⟨hb42, h⟩ := h
          refine m_ald S hK (ar_32 G) hW (ci_32 hi_w) hb42 dX5_counting_42 ?_
          refine lv_iload_n hx hb dX5_counting_43 rfl (lv_at hl 3 rfl) ?_
          refine lv_icmp_gt (tgt := 60) hx hb dX5_counting_44 (by decide) (fun c44 => ?_) (fun c44 => ?_)
          · replace h := h.1 c44
            obtain ⟨x5_60, ex5_60⟩ : ∃ z : Int32, z = x5 + (-1 : Int32) := ⟨_, rfl⟩
            replace h := h x5_60 ex5_60
            refine lv_iinc (v := x5_60) (lv' := [(5, .int x5_60), (0, .ref (ad G 4 w)), (1, .int x1), (2, .int x2), (3, .int x3), (4, .int x4)]) hx hb dX5_counting_60 hl (k := 5) rfl (by rw [ex5_60, ki_m1]) (by decide) rfl (fun ls hl => ?_)
            refine lv_goto (tgt := 8) hx hb dX5_counting_63 (by decide) ?_
            exact kk8 _ h H locs ls hW hS (lv_sub hl [1, 2, 3, 4, 5, 0] rfl)
          · replace h := h.2 c44
            refine lv_aload_n hx hb dX5_counting_47 rfl (lv_at hl 0 rfl) ?_
            refine m_getr S hK fk_X5_21 (gr_4_4 G w) hW (ci_4 hi_w) dX5_counting_48 ?_
            refine lv_iload hx hb dX5_counting_51 (lv_at hl 5 rfl) ?_
            refine lv_bipush hx hb dX5_counting_53 kb_12 ?_
            refine lv_imul hx hb dX5_counting_55 ?_
            refine lv_iload_n hx hb dX5_counting_56 rfl (lv_at hl 1 rfl) ?_
            refine lv_iadd hx hb dX5_counting_57 ?_
            obtain ⟨hb58, h⟩ := h
            refine m_ald S hK (ar_33 G) hW (ci_33 hi_w) hb58 dX5_counting_58 ?_
            exact m_iret S hret hlocks hKX hW hbs hS rfl h dX5_counting_59
  unfold s_X5_counting at h
  refine lv_aload_n hx hb dX5_counting_0 rfl (lv_at hl 0 rfl) ?_
  refine m_geti S hK fk_X5_28 (gi_4_0 G) hW (ci_4 hi_w) dX5_counting_1 ?_
  refine lv_iconst hx hb dX5_counting_4 ki_1 ?_
  refine lv_isub hx hb dX5_counting_5 ?_
  refine lv_topi (fun x5_6 ex5_6 => ?_)
  replace h := h x5_6 ex5_6
  refine lv_istore (lv' := [(5, .int x5_6), (0, .ref (ad G 4 w)), (1, .int x1), (2, .int x2), (3, .int x3), (4, .int x4)]) hx hb dX5_counting_6 hl (by decide) rfl (fun ls hl => ?_)
  obtain ⟨n8, h⟩ := h
  exact w8 n8 _ h H locs ls hW hS (lv_sub hl [1, 2, 3, 4, 5, 0] rfl)
abbrev rm_X5_copyFrom : Room := { frames := 2, cells := 0, slots := 0, locals := 85 }
set_option maxHeartbeats 4000000 in
set_option maxRecDepth 100000 in
theorem c_X5_copyFrom (l : Launch) {G : Gn} {M : Mem} {w v : Nat} {P : Mem → Prop} (hi_w : w < 3) (hi_v : v < 3) : MQv l yX5_copyFrom cX5_copyFrom 2 none rm_X5_copyFrom [.ref (ad G 4 w), .ref (ad G 4 v)] G M (s_X5_copyFrom w v M P) P := by
  refine m_enter (by decide +kernel) (Nat.le_of_ble_eq_true rfl) ?_
  intro p e s m below meth c ls H locs S hret hlocks hname hKX hbs hW hS hl h
  obtain ⟨AV, hAV⟩ : ∃ z : Array Value, z = ([.ref (ad G 4 w), .ref (ad G 4 v)] : List Value).toArray := ⟨_, rfl⟩
  rw [← hAV] at S ⊢
  replace S : CallFix p m c cX5_copyFrom 2 s AV lw_G "MilkDesk$HeadRows" := S
  have hK := hKX.1
  have hx := S.1
  have hb := S.2.1
  have hml := S.2.2.1
  have hown := S.2.2.2.1
  have hts := S.2.2.2.2
  replace hl : lv_has ls 2 [(0, .ref (ad G 4 w)), (1, .ref (ad G 4 v))] := hl
  unfold s_X5_copyFrom at h
  refine lv_aload_n hx hb dX5_copyFrom_0 rfl (lv_at hl 0 rfl) ?_
  refine lv_aload_n hx hb dX5_copyFrom_1 rfl (lv_at hl 1 rfl) ?_
  refine m_geti S hK fk_X5_28 (gi_4_0 G) hW (ci_4 hi_v) dX5_copyFrom_2 ?_
  refine m_put S hK fk_X5_28 tyX5_ok nmX5 rfl pf_X5_0 (pv_4_0 G) hW hS (ci_4 hi_w) rfl rfl dX5_copyFrom_5 (fun Mm5 eMm5 H locs hW hS => ?_)
  replace h := h Mm5 eMm5
  refine lv_aload_n hx hb dX5_copyFrom_8 rfl (lv_at hl 1 rfl) ?_
  refine m_getr S hK fk_X5_9 (gr_4_1 G v) hW (ci_4 hi_v) dX5_copyFrom_9 ?_
  refine lv_aload_n hx hb dX5_copyFrom_12 rfl (lv_at hl 0 rfl) ?_
  refine m_getr S hK fk_X5_9 (gr_4_1 G w) hW (ci_4 hi_w) dX5_copyFrom_13 ?_
  refine m_cv0 (m_rN S hKX hW (m_szH hbs hS) (c_X11_copyAll l (ar_30 G) (ar_30 G) (ci_30 hi_v) (ci_30 hi_w) (Nat.le_of_ble_eq_true rfl)) h lk_X5_53 rfl hl.1 rfl ⟨Nat.le_of_ble_eq_true rfl, Nat.le_of_ble_eq_true rfl⟩ (Nat.le_of_ble_eq_true rfl) ⟨Nat.le_of_ble_eq_true rfl, Nat.le_of_ble_eq_true rfl⟩ dX5_copyFrom_16) hS rfl rfl (fun Mm16 H locs h hW hS => ?_)
  refine lv_aload_n hx hb dX5_copyFrom_19 rfl (lv_at hl 1 rfl) ?_
  refine m_getr S hK fk_X5_15 (gr_4_2 G v) hW (ci_4 hi_v) dX5_copyFrom_20 ?_
  refine lv_aload_n hx hb dX5_copyFrom_23 rfl (lv_at hl 0 rfl) ?_
  refine m_getr S hK fk_X5_15 (gr_4_2 G w) hW (ci_4 hi_w) dX5_copyFrom_24 ?_
  refine m_cv0 (m_rN S hKX hW (m_szH hbs hS) (c_X11_copyAll l (ar_31 G) (ar_31 G) (ci_31 hi_v) (ci_31 hi_w) (Nat.le_of_ble_eq_true rfl)) h lk_X5_53 rfl hl.1 rfl ⟨Nat.le_of_ble_eq_true rfl, Nat.le_of_ble_eq_true rfl⟩ (Nat.le_of_ble_eq_true rfl) ⟨Nat.le_of_ble_eq_true rfl, Nat.le_of_ble_eq_true rfl⟩ dX5_copyFrom_27) hS rfl rfl (fun Mm27 H locs h hW hS => ?_)
  refine lv_aload_n hx hb dX5_copyFrom_30 rfl (lv_at hl 1 rfl) ?_
  refine m_getr S hK fk_X5_18 (gr_4_3 G v) hW (ci_4 hi_v) dX5_copyFrom_31 ?_
  refine lv_aload_n hx hb dX5_copyFrom_34 rfl (lv_at hl 0 rfl) ?_
  refine m_getr S hK fk_X5_18 (gr_4_3 G w) hW (ci_4 hi_w) dX5_copyFrom_35 ?_
  refine m_cv0 (m_rN S hKX hW (m_szH hbs hS) (c_X11_copyAll l (ar_32 G) (ar_32 G) (ci_32 hi_v) (ci_32 hi_w) (Nat.le_of_ble_eq_true rfl)) h lk_X5_53 rfl hl.1 rfl ⟨Nat.le_of_ble_eq_true rfl, Nat.le_of_ble_eq_true rfl⟩ (Nat.le_of_ble_eq_true rfl) ⟨Nat.le_of_ble_eq_true rfl, Nat.le_of_ble_eq_true rfl⟩ dX5_copyFrom_38) hS rfl rfl (fun Mm38 H locs h hW hS => ?_)
  refine lv_aload_n hx hb dX5_copyFrom_41 rfl (lv_at hl 1 rfl) ?_
  refine m_getr S hK fk_X5_21 (gr_4_4 G v) hW (ci_4 hi_v) dX5_copyFrom_42 ?_
  refine lv_aload_n hx hb dX5_copyFrom_45 rfl (lv_at hl 0 rfl) ?_
  refine m_getr S hK fk_X5_21 (gr_4_4 G w) hW (ci_4 hi_w) dX5_copyFrom_46 ?_
  refine m_cv0 (m_rN S hKX hW (m_szH hbs hS) (c_X11_copyAll l (ar_33 G) (ar_33 G) (ci_33 hi_v) (ci_33 hi_w) (Nat.le_of_ble_eq_true rfl)) h lk_X5_53 rfl hl.1 rfl ⟨Nat.le_of_ble_eq_true rfl, Nat.le_of_ble_eq_true rfl⟩ (Nat.le_of_ble_eq_true rfl) ⟨Nat.le_of_ble_eq_true rfl, Nat.le_of_ble_eq_true rfl⟩ dX5_copyFrom_49) hS rfl rfl (fun Mm49 H locs h hW hS => ?_)
  exact m_vret S hret hlocks hKX hW hbs hS h dX5_copyFrom_52
abbrev rm_X6_draw : Room := { frames := 0, cells := 0, slots := 0, locals := 0 }
set_option maxHeartbeats 4000000 in
set_option maxRecDepth 100000 in
theorem c_X6_draw (l : Launch) {G : Gn} {M : Mem} {w : Nat} {x1 : Int32} {x2 : Int32} {x3 : Int32} {P : Int32 → Mem → Prop} (hi_w : w < 3) : MQi l yX6_draw cX6_draw 4 (some .int) rm_X6_draw [.ref (ad G 6 w), .int x1, .int x2, .int x3] G M (s_X6_draw w M x1 x2 x3 P) P := by
  refine m_enter (by decide +kernel) (Nat.le_of_ble_eq_true rfl) ?_
  intro p e s m below meth c ls H locs S hret hlocks hname hKX hbs hW hS hl h
  obtain ⟨AV, hAV⟩ : ∃ z : Array Value, z = ([.ref (ad G 6 w), .int x1, .int x2, .int x3] : List Value).toArray := ⟨_, rfl⟩
  rw [← hAV] at S ⊢
  replace S : CallFix p m c cX6_draw 4 s AV lw_G "MilkDesk$Looks" := S
  have hK := hKX.1
  have hx := S.1
  have hb := S.2.1
  have hml := S.2.2.1
  have hown := S.2.2.2.1
  have hts := S.2.2.2.2
  replace hl : lv_has ls 4 [(0, .ref (ad G 6 w)), (1, .int x1), (2, .int x2), (3, .int x3)] := hl
  unfold s_X6_draw at h
  refine lv_aload_n hx hb dX6_draw_0 rfl (lv_at hl 0 rfl) ?_
  refine m_getr S hK fk_X6_9 (gr_6_1 G w) hW (ci_6 hi_w) dX6_draw_1 ?_
  refine lv_aload_n hx hb dX6_draw_4 rfl (lv_at hl 0 rfl) ?_
  refine m_geti S hK fk_X6_21 (gi_6_0 G) hW (ci_6 hi_w) dX6_draw_5 ?_
  refine lv_iload_n hx hb dX6_draw_8 rfl (lv_at hl 1 rfl) ?_
  obtain ⟨hb9, h⟩ := h
  refine m_ast S hK (ar_36 G) hW hS (ci_36 hi_w) hb9 dX6_draw_9 (fun Mm9 eMm9 H locs hW hS => ?_)
  replace h := h Mm9 eMm9
  refine lv_aload_n hx hb dX6_draw_10 rfl (lv_at hl 0 rfl) ?_
  refine m_getr S hK fk_X6_15 (gr_6_2 G w) hW (ci_6 hi_w) dX6_draw_11 ?_
  refine lv_aload_n hx hb dX6_draw_14 rfl (lv_at hl 0 rfl) ?_
  refine m_geti S hK fk_X6_21 (gi_6_0 G) hW (ci_6 hi_w) dX6_draw_15 ?_
  refine lv_iload_n hx hb dX6_draw_18 rfl (lv_at hl 2 rfl) ?_
  obtain ⟨hb19, h⟩ := h
  refine m_ast S hK (ar_37 G) hW hS (ci_37 hi_w) hb19 dX6_draw_19 (fun Mm19 eMm19 H locs hW hS => ?_)
  replace h := h Mm19 eMm19
  refine lv_aload_n hx hb dX6_draw_20 rfl (lv_at hl 0 rfl) ?_
  refine m_getr S hK fk_X6_18 (gr_6_3 G w) hW (ci_6 hi_w) dX6_draw_21 ?_
  refine lv_aload_n hx hb dX6_draw_24 rfl (lv_at hl 0 rfl) ?_
  refine m_geti S hK fk_X6_21 (gi_6_0 G) hW (ci_6 hi_w) dX6_draw_25 ?_
  refine lv_iload_n hx hb dX6_draw_28 rfl (lv_at hl 3 rfl) ?_
  obtain ⟨hb29, h⟩ := h
  refine m_ast S hK (ar_38 G) hW hS (ci_38 hi_w) hb29 dX6_draw_29 (fun Mm29 eMm29 H locs hW hS => ?_)
  replace h := h Mm29 eMm29
  refine lv_aload_n hx hb dX6_draw_30 rfl (lv_at hl 0 rfl) ?_
  refine lv_dup hx hb dX6_draw_31 rfl ?_
  refine m_geti S hK fk_X6_21 (gi_6_0 G) hW (ci_6 hi_w) dX6_draw_32 ?_
  refine lv_iconst hx hb dX6_draw_35 ki_1 ?_
  refine lv_iadd hx hb dX6_draw_36 ?_
  refine m_put S hK fk_X6_21 tyX6_ok nmX6 rfl pf_X6_0 (pv_6_0 G) hW hS (ci_6 hi_w) rfl rfl dX6_draw_37 (fun Mm37 eMm37 H locs hW hS => ?_)
  replace h := h Mm37 eMm37
  refine lv_aload_n hx hb dX6_draw_40 rfl (lv_at hl 0 rfl) ?_
  refine m_geti S hK fk_X6_21 (gi_6_0 G) hW (ci_6 hi_w) dX6_draw_41 ?_
  exact m_iret S hret hlocks hKX hW hbs hS rfl h dX6_draw_44
abbrev rm_X6_copyFrom : Room := { frames := 2, cells := 0, slots := 0, locals := 85 }
set_option maxHeartbeats 4000000 in
set_option maxRecDepth 100000 in
theorem c_X6_copyFrom (l : Launch) {G : Gn} {M : Mem} {w v : Nat} {P : Mem → Prop} (hi_w : w < 3) (hi_v : v < 3) : MQv l yX6_copyFrom cX6_copyFrom 2 none rm_X6_copyFrom [.ref (ad G 6 w), .ref (ad G 6 v)] G M (s_X6_copyFrom w v M P) P := by
  refine m_enter (by decide +kernel) (Nat.le_of_ble_eq_true rfl) ?_
  intro p e s m below meth c ls H locs S hret hlocks hname hKX hbs hW hS hl h
  obtain ⟨AV, hAV⟩ : ∃ z : Array Value, z = ([.ref (ad G 6 w), .ref (ad G 6 v)] : List Value).toArray := ⟨_, rfl⟩
  rw [← hAV] at S ⊢
  replace S : CallFix p m c cX6_copyFrom 2 s AV lw_G "MilkDesk$Looks" := S
  have hK := hKX.1
  have hx := S.1
  have hb := S.2.1
  have hml := S.2.2.1
  have hown := S.2.2.2.1
  have hts := S.2.2.2.2
  replace hl : lv_has ls 2 [(0, .ref (ad G 6 w)), (1, .ref (ad G 6 v))] := hl
  unfold s_X6_copyFrom at h
  refine lv_aload_n hx hb dX6_copyFrom_0 rfl (lv_at hl 0 rfl) ?_
  refine lv_aload_n hx hb dX6_copyFrom_1 rfl (lv_at hl 1 rfl) ?_
  refine m_geti S hK fk_X6_21 (gi_6_0 G) hW (ci_6 hi_v) dX6_copyFrom_2 ?_
  refine m_put S hK fk_X6_21 tyX6_ok nmX6 rfl pf_X6_0 (pv_6_0 G) hW hS (ci_6 hi_w) rfl rfl dX6_copyFrom_5 (fun Mm5 eMm5 H locs hW hS => ?_)
  replace h := h Mm5 eMm5
  refine lv_aload_n hx hb dX6_copyFrom_8 rfl (lv_at hl 1 rfl) ?_
  refine m_getr S hK fk_X6_9 (gr_6_1 G v) hW (ci_6 hi_v) dX6_copyFrom_9 ?_
  refine lv_aload_n hx hb dX6_copyFrom_12 rfl (lv_at hl 0 rfl) ?_
  refine m_getr S hK fk_X6_9 (gr_6_1 G w) hW (ci_6 hi_w) dX6_copyFrom_13 ?_
  refine m_cv0 (m_rN S hKX hW (m_szH hbs hS) (c_X11_copyAll l (ar_36 G) (ar_36 G) (ci_36 hi_v) (ci_36 hi_w) (Nat.le_of_ble_eq_true rfl)) h lk_X6_25 rfl hl.1 rfl ⟨Nat.le_of_ble_eq_true rfl, Nat.le_of_ble_eq_true rfl⟩ (Nat.le_of_ble_eq_true rfl) ⟨Nat.le_of_ble_eq_true rfl, Nat.le_of_ble_eq_true rfl⟩ dX6_copyFrom_16) hS rfl rfl (fun Mm16 H locs h hW hS => ?_)
  refine lv_aload_n hx hb dX6_copyFrom_19 rfl (lv_at hl 1 rfl) ?_
  refine m_getr S hK fk_X6_15 (gr_6_2 G v) hW (ci_6 hi_v) dX6_copyFrom_20 ?_
  refine lv_aload_n hx hb dX6_copyFrom_23 rfl (lv_at hl 0 rfl) ?_
  refine m_getr S hK fk_X6_15 (gr_6_2 G w) hW (ci_6 hi_w) dX6_copyFrom_24 ?_
  refine m_cv0 (m_rN S hKX hW (m_szH hbs hS) (c_X11_copyAll l (ar_37 G) (ar_37 G) (ci_37 hi_v) (ci_37 hi_w) (Nat.le_of_ble_eq_true rfl)) h lk_X6_25 rfl hl.1 rfl ⟨Nat.le_of_ble_eq_true rfl, Nat.le_of_ble_eq_true rfl⟩ (Nat.le_of_ble_eq_true rfl) ⟨Nat.le_of_ble_eq_true rfl, Nat.le_of_ble_eq_true rfl⟩ dX6_copyFrom_27) hS rfl rfl (fun Mm27 H locs h hW hS => ?_)
  refine lv_aload_n hx hb dX6_copyFrom_30 rfl (lv_at hl 1 rfl) ?_
  refine m_getr S hK fk_X6_18 (gr_6_3 G v) hW (ci_6 hi_v) dX6_copyFrom_31 ?_
  refine lv_aload_n hx hb dX6_copyFrom_34 rfl (lv_at hl 0 rfl) ?_
  refine m_getr S hK fk_X6_18 (gr_6_3 G w) hW (ci_6 hi_w) dX6_copyFrom_35 ?_
  refine m_cv0 (m_rN S hKX hW (m_szH hbs hS) (c_X11_copyAll l (ar_38 G) (ar_38 G) (ci_38 hi_v) (ci_38 hi_w) (Nat.le_of_ble_eq_true rfl)) h lk_X6_25 rfl hl.1 rfl ⟨Nat.le_of_ble_eq_true rfl, Nat.le_of_ble_eq_true rfl⟩ (Nat.le_of_ble_eq_true rfl) ⟨Nat.le_of_ble_eq_true rfl, Nat.le_of_ble_eq_true rfl⟩ dX6_copyFrom_38) hS rfl rfl (fun Mm38 H locs h hW hS => ?_)
  exact m_vret S hret hlocks hKX hW hbs hS h dX6_copyFrom_41
abbrev rm_X8_has : Room := { frames := 0, cells := 0, slots := 0, locals := 0 }
set_option maxHeartbeats 4000000 in
set_option maxRecDepth 100000 in
theorem c_X8_has (l : Launch) {G : Gn} {M : Mem} {w : Nat} {x1 : Int32} {P : Int32 → Mem → Prop} (hi_w : w < 3) : MQi l yX8_has cX8_has 2 (some .boolean) rm_X8_has [.ref (ad G 2 w), .int x1] G M (s_X8_has w M x1 P) P := by
  refine m_enter (by decide +kernel) (Nat.le_of_ble_eq_true rfl) ?_
  intro p e s m below meth c ls H locs S hret hlocks hname hKX hbs hW hS hl h
  obtain ⟨AV, hAV⟩ : ∃ z : Array Value, z = ([.ref (ad G 2 w), .int x1] : List Value).toArray := ⟨_, rfl⟩
  rw [← hAV] at S ⊢
  replace S : CallFix p m c cX8_has 2 s AV lw_G "MilkDesk$Schools" := S
  have hK := hKX.1
  have hx := S.1
  have hb := S.2.1
  have hml := S.2.2.1
  have hown := S.2.2.2.1
  have hts := S.2.2.2.2
  replace hl : lv_has ls 2 [(0, .ref (ad G 2 w)), (1, .int x1)] := hl
  unfold s_X8_has at h
  refine lv_iload_n hx hb dX8_has_0 rfl (lv_at hl 1 rfl) ?_
  refine lv_if_lt (tgt := 16) hx hb dX8_has_1 (by decide) (fun c1 => ?_) (fun c1 => ?_)
  · replace h := h.1 c1
    refine lv_iconst hx hb dX8_has_16 ki_0 ?_
    exact m_iret S hret hlocks hKX hW hbs hS rfl h dX8_has_17
  · replace h := h.2 c1
    refine lv_iload_n hx hb dX8_has_4 rfl (lv_at hl 1 rfl) ?_
    refine lv_aload_n hx hb dX8_has_5 rfl (lv_at hl 0 rfl) ?_
    refine m_geti S hK fk_X8_33 (gi_2_0 G) hW (ci_2 hi_w) dX8_has_6 ?_
    refine lv_icmp_ge (tgt := 16) hx hb dX8_has_9 (by decide) (fun c9 => ?_) (fun c9 => ?_)
    · replace h := h.1 c9
      refine lv_iconst hx hb dX8_has_16 ki_0 ?_
      exact m_iret S hret hlocks hKX hW hbs hS rfl h dX8_has_17
    · replace h := h.2 c9
      refine lv_iconst hx hb dX8_has_12 ki_1 ?_
      refine lv_goto (tgt := 17) hx hb dX8_has_13 (by decide) ?_
      exact m_iret S hret hlocks hKX hW hbs hS rfl h dX8_has_17
abbrev rm_X7_takeStops : Room := { frames := 1, cells := 0, slots := 0, locals := 21 }
set_option maxHeartbeats 4000000 in
set_option maxRecDepth 100000 in
theorem c_X7_takeStops (l : Launch) {G : Gn} {M : Mem} {d w : Nat} {P : Int32 → Mem → Prop} (hi_d : d < 8) (hi_w : w < 3) : MQi l yX7_takeStops cX7_takeStops 6 (some .boolean) rm_X7_takeStops [.ref (ad G 9 0), .ref (ad G 7 d), .ref (ad G 2 w)] G M (s_X7_takeStops d w M P) P := by
  refine m_enter (by decide +kernel) (Nat.le_of_ble_eq_true rfl) ?_
  intro p e s m below meth c ls H locs S hret hlocks hname hKX hbs hW hS hl h
  obtain ⟨AV, hAV⟩ : ∃ z : Array Value, z = ([.ref (ad G 9 0), .ref (ad G 7 d), .ref (ad G 2 w)] : List Value).toArray := ⟨_, rfl⟩
  rw [← hAV] at S ⊢
  replace S : CallFix p m c cX7_takeStops 6 s AV lw_G "MilkDesk$RoundSearch" := S
  have hK := hKX.1
  have hx := S.1
  have hb := S.2.1
  have hml := S.2.2.1
  have hown := S.2.2.2.1
  have hts := S.2.2.2.2
  replace hl : lv_has ls 6 [(0, .ref (ad G 9 0)), (1, .ref (ad G 7 d)), (2, .ref (ad G 2 w))] := hl
  have w84 : ∀ (x3 : Int32), ∀ (n : Nat) (a : Mem × Int32), Lz (fun (K84 : Mem × Int32 → Prop) (a : Mem × Int32) => s_X7_takeStops_84 d w x3 P K84 a.1 a.2) n a → ∀ (H : Heap) (locs : List Loc) (ls : Array Slot), WPm G a.1 H → va_S (fun q => bs G ≤ q) s.heap H locs → lv_has ls 6 [(0, .ref (ad G 9 0)), (2, .ref (ad G 2 w)), (3, .int x3), (4, .int a.2)] → W p l e rm_X7_takeStops s m AV below meth c H locs 0 0 (MQ below (va_Qi P (WS G) (fun q => bs G ≤ q)) AV s 0 0 (fun q => bs G ≤ q)) (F0 m 84 ls []) := by
    intro x3
    refine Lz_walk ?_
    rintro K84 kk84 ⟨M, x4⟩ h H locs ls hW hS hl
    replace h : s_X7_takeStops_84 d w x3 P K84 M x4 := h
    replace hW : WPm G M H := hW
    replace hl : lv_has ls 6 [(0, .ref (ad G 9 0)), (2, .ref (ad G 2 w)), (3, .int x3), (4, .int x4)] := hl
    unfold s_X7_takeStops_84 at h
    refine lv_iload hx hb dX7_takeStops_84 (lv_at hl 3 rfl) ?_
    refine lv_aload_n hx hb dX7_takeStops_86 rfl (lv_at hl 1 rfl) ?_
    refine m_geti S hK fk_X7_48 (gi_2_0 G) hW (ci_2 hi_w) dX7_takeStops_87 ?_
    refine lv_icmp_ge (tgt := 187) hx hb dX7_takeStops_90 (by decide) (fun c90 => ?_) (fun c90 => ?_)
    · replace h := h.1 c90
      refine lv_iconst hx hb dX7_takeStops_187 ki_1 ?_
      exact m_iret S hret hlocks hKX hW hbs hS rfl h dX7_takeStops_188
    · replace h := h.2 c90
      refine lv_aload_n hx hb dX7_takeStops_93 rfl (lv_at hl 0 rfl) ?_
      refine m_geti S hK fk_X7_30 (gi_9_7 G) hW (ci_9 (Nat.le_of_ble_eq_true rfl)) dX7_takeStops_94 ?_
      refine lv_bipush hx hb dX7_takeStops_97 kb_7 ?_
      refine lv_icmp_ge (tgt := 187) hx hb dX7_takeStops_99 (by decide) (fun c99 => ?_) (fun c99 => ?_)
      · replace h := h.1 c99
        refine lv_iconst hx hb dX7_takeStops_187 ki_1 ?_
        exact m_iret S hret hlocks hKX hW hbs hS rfl h dX7_takeStops_188
      · replace h := h.2 c99
        refine lv_iload_n hx hb dX7_takeStops_102 rfl (lv_at hl 2 rfl) ?_
        refine lv_iload hx hb dX7_takeStops_103 (lv_at hl 3 rfl) ?_
        refine lv_ishr hx hb dX7_takeStops_105 ?_
        refine lv_iconst hx hb dX7_takeStops_106 ki_1 ?_
        refine lv_iand hx hb dX7_takeStops_107 ?_
        refine lv_iconst hx hb dX7_takeStops_108 ki_1 ?_
        refine lv_icmp_ne (tgt := 181) hx hb dX7_takeStops_109 (by decide) (fun c109 => ?_) (fun c109 => ?_)
        · replace h := h.1 c109
          obtain ⟨x4_181, ex4_181⟩ : ∃ z : Int32, z = x4 + (1 : Int32) := ⟨_, rfl⟩
          replace h := h x4_181 ex4_181
          refine lv_iinc (v := x4_181) (lv' := [(4, .int x4_181), (0, .ref (ad G 9 0)), (2, .ref (ad G 2 w)), (3, .int x3)]) hx hb dX7_takeStops_181 hl (k := 3) rfl (by rw [ex4_181, ki_1]) (by decide) rfl (fun ls hl => ?_)
          refine lv_goto (tgt := 84) hx hb dX7_takeStops_184 (by decide) ?_
          exact kk84 _ h H locs ls hW hS (lv_sub hl [1, 2, 3, 0] rfl)
        · replace h := h.2 c109
          refine lv_aload_n hx hb dX7_takeStops_112 rfl (lv_at hl 0 rfl) ?_
          refine m_getr S hK fk_X7_18 (gr_9_3 G 0) hW (ci_9 (Nat.le_of_ble_eq_true rfl)) dX7_takeStops_113 ?_
          refine lv_aload_n hx hb dX7_takeStops_116 rfl (lv_at hl 0 rfl) ?_
          refine m_geti S hK fk_X7_30 (gi_9_7 G) hW (ci_9 (Nat.le_of_ble_eq_true rfl)) dX7_takeStops_117 ?_
          refine lv_iload hx hb dX7_takeStops_120 (lv_at hl 3 rfl) ?_
          obtain ⟨hb122, h⟩ := h
          refine m_ast S hK (ar_43 G) hW hS (ci_43 (Nat.le_of_ble_eq_true rfl)) hb122 dX7_takeStops_122 (fun Mm122 eMm122 H locs hW hS => ?_)
          replace h := h Mm122 eMm122
          refine lv_aload_n hx hb dX7_takeStops_123 rfl (lv_at hl 0 rfl) ?_
          refine m_getr S hK fk_X7_21 (gr_9_4 G 0) hW (ci_9 (Nat.le_of_ble_eq_true rfl)) dX7_takeStops_124 ?_
          refine lv_aload_n hx hb dX7_takeStops_127 rfl (lv_at hl 0 rfl) ?_
          refine m_geti S hK fk_X7_30 (gi_9_7 G) hW (ci_9 (Nat.le_of_ble_eq_true rfl)) dX7_takeStops_128 ?_
          refine lv_aload_n hx hb dX7_takeStops_131 rfl (lv_at hl 1 rfl) ?_
          refine m_getr S hK fk_X7_49 (gr_2_2 G w) hW (ci_2 hi_w) dX7_takeStops_132 ?_
          refine lv_iload hx hb dX7_takeStops_135 (lv_at hl 3 rfl) ?_
          obtain ⟨hb137, h⟩ := h
          refine m_ald S hK (ar_16 G) hW (ci_16 hi_w) hb137 dX7_takeStops_137 ?_
          obtain ⟨hb138, h⟩ := h
          refine m_ast S hK (ar_82 G) hW hS (ci_82 (Nat.le_of_ble_eq_true rfl)) hb138 dX7_takeStops_138 (fun Mm138 eMm138 H locs hW hS => ?_)
          replace h := h Mm138 eMm138
          refine lv_aload_n hx hb dX7_takeStops_139 rfl (lv_at hl 0 rfl) ?_
          refine m_getr S hK fk_X7_24 (gr_9_5 G 0) hW (ci_9 (Nat.le_of_ble_eq_true rfl)) dX7_takeStops_140 ?_
          refine lv_aload_n hx hb dX7_takeStops_143 rfl (lv_at hl 0 rfl) ?_
          refine m_geti S hK fk_X7_30 (gi_9_7 G) hW (ci_9 (Nat.le_of_ble_eq_true rfl)) dX7_takeStops_144 ?_
          refine lv_aload_n hx hb dX7_takeStops_147 rfl (lv_at hl 1 rfl) ?_
          refine m_getr S hK fk_X7_52 (gr_2_3 G w) hW (ci_2 hi_w) dX7_takeStops_148 ?_
          refine lv_iload hx hb dX7_takeStops_151 (lv_at hl 3 rfl) ?_
          obtain ⟨hb153, h⟩ := h
          refine m_ald S hK (ar_17 G) hW (ci_17 hi_w) hb153 dX7_takeStops_153 ?_
          obtain ⟨hb154, h⟩ := h
          refine m_ast S hK (ar_83 G) hW hS (ci_83 (Nat.le_of_ble_eq_true rfl)) hb154 dX7_takeStops_154 (fun Mm154 eMm154 H locs hW hS => ?_)
          replace h := h Mm154 eMm154
          refine lv_aload_n hx hb dX7_takeStops_155 rfl (lv_at hl 0 rfl) ?_
          refine m_getr S hK fk_X7_27 (gr_9_6 G 0) hW (ci_9 (Nat.le_of_ble_eq_true rfl)) dX7_takeStops_156 ?_
          refine lv_aload_n hx hb dX7_takeStops_159 rfl (lv_at hl 0 rfl) ?_
          refine m_geti S hK fk_X7_30 (gi_9_7 G) hW (ci_9 (Nat.le_of_ble_eq_true rfl)) dX7_takeStops_160 ?_
          refine lv_aload_n hx hb dX7_takeStops_163 rfl (lv_at hl 1 rfl) ?_
          refine m_getr S hK fk_X7_55 (gr_2_6 G w) hW (ci_2 hi_w) dX7_takeStops_164 ?_
          refine lv_iload hx hb dX7_takeStops_167 (lv_at hl 3 rfl) ?_
          obtain ⟨hb169, h⟩ := h
          refine m_ald S hK (ar_20 G) hW (ci_20 hi_w) hb169 dX7_takeStops_169 ?_
          obtain ⟨hb170, h⟩ := h
          refine m_ast S hK (ar_84 G) hW hS (ci_84 (Nat.le_of_ble_eq_true rfl)) hb170 dX7_takeStops_170 (fun Mm170 eMm170 H locs hW hS => ?_)
          replace h := h Mm170 eMm170
          refine lv_aload_n hx hb dX7_takeStops_171 rfl (lv_at hl 0 rfl) ?_
          refine lv_dup hx hb dX7_takeStops_172 rfl ?_
          refine m_geti S hK fk_X7_30 (gi_9_7 G) hW (ci_9 (Nat.le_of_ble_eq_true rfl)) dX7_takeStops_173 ?_
          refine lv_iconst hx hb dX7_takeStops_176 ki_1 ?_
          refine lv_iadd hx hb dX7_takeStops_177 ?_
          refine m_put S hK fk_X7_30 tyX7_ok nmX7 rfl pf_X7_7 (pv_9_7 G) hW hS (ci_9 (Nat.le_of_ble_eq_true rfl)) rfl rfl dX7_takeStops_178 (fun Mm178 eMm178 H locs hW hS => ?_)
          replace h := h Mm178 eMm178
          obtain ⟨x4_181, ex4_181⟩ : ∃ z : Int32, z = x4 + (1 : Int32) := ⟨_, rfl⟩
          replace h := h x4_181 ex4_181
          refine lv_iinc (v := x4_181) (lv' := [(4, .int x4_181), (0, .ref (ad G 9 0)), (2, .ref (ad G 2 w)), (3, .int x3)]) hx hb dX7_takeStops_181 hl (k := 3) rfl (by rw [ex4_181, ki_1]) (by decide) rfl (fun ls hl => ?_)
          refine lv_goto (tgt := 84) hx hb dX7_takeStops_184 (by decide) ?_
          exact kk84 _ h H locs ls hW hS (lv_sub hl [1, 2, 3, 0] rfl)
  have w29 : ∀ (n : Nat) (a : Mem × Int32 × Int32), Lz (fun (K29 : Mem × Int32 × Int32 → Prop) (a : Mem × Int32 × Int32) => s_X7_takeStops_29 d w P K29 a.1 a.2.1 a.2.2) n a → ∀ (H : Heap) (locs : List Loc) (ls : Array Slot), WPm G a.1 H → va_S (fun q => bs G ≤ q) s.heap H locs → lv_has ls 6 [(0, .ref (ad G 9 0)), (1, .ref (ad G 7 d)), (2, .ref (ad G 2 w)), (3, .int a.2.1), (4, .int a.2.2)] → W p l e rm_X7_takeStops s m AV below meth c H locs 0 0 (MQ below (va_Qi P (WS G) (fun q => bs G ≤ q)) AV s 0 0 (fun q => bs G ≤ q)) (F0 m 29 ls []) := by
    refine Lz_walk ?_
    rintro K29 kk29 ⟨M, x3, x4⟩ h H locs ls hW hS hl
    replace h : s_X7_takeStops_29 d w P K29 M x3 x4 := h
    replace hW : WPm G M H := hW
    replace hl : lv_has ls 6 [(0, .ref (ad G 9 0)), (1, .ref (ad G 7 d)), (2, .ref (ad G 2 w)), (3, .int x3), (4, .int x4)] := hl
    unfold s_X7_takeStops_29 at h
    refine lv_iload hx hb dX7_takeStops_29 (lv_at hl 4 rfl) ?_
    refine lv_aload_n hx hb dX7_takeStops_31 rfl (lv_at hl 1 rfl) ?_
    refine m_geti S hK fk_X7_34 (gi_7_5 G) hW (ci_7 hi_d) dX7_takeStops_32 ?_
    refine lv_icmp_ge (tgt := 81) hx hb dX7_takeStops_35 (by decide) (fun c35 => ?_) (fun c35 => ?_)
    · replace h := h.1 c35
      refine lv_iconst hx hb dX7_takeStops_81 ki_0 ?_
      refine lv_istore (lv' := [(4, .int (0 : Int32)), (0, .ref (ad G 9 0)), (1, .ref (ad G 7 d)), (2, .ref (ad G 2 w)), (3, .int x3)]) hx hb dX7_takeStops_82 hl (by decide) rfl (fun ls hl => ?_)
      obtain ⟨n84, h⟩ := h
      exact w84 _ n84 _ h H locs ls hW hS (lv_sub hl [1, 3, 4, 0] rfl)
    · replace h := h.2 c35
      refine lv_aload_n hx hb dX7_takeStops_38 rfl (lv_at hl 1 rfl) ?_
      refine m_getr S hK fk_X7_39 (gr_7_6 G d) hW (ci_7 hi_d) dX7_takeStops_39 ?_
      refine lv_iload hx hb dX7_takeStops_42 (lv_at hl 4 rfl) ?_
      obtain ⟨hb44, h⟩ := h
      refine m_ald S hK (ar_39 G) hW (ci_39 hi_d) hb44 dX7_takeStops_44 ?_
      refine lv_topi (fun x5_45 ex5_45 => ?_)
      replace h := h x5_45 ex5_45
      refine lv_istore (lv' := [(5, .int x5_45), (0, .ref (ad G 9 0)), (1, .ref (ad G 7 d)), (2, .ref (ad G 2 w)), (3, .int x3), (4, .int x4)]) hx hb dX7_takeStops_45 hl (by decide) rfl (fun ls hl => ?_)
      refine lv_aload_n hx hb dX7_takeStops_47 rfl (lv_at hl 3 rfl) ?_
      refine lv_iload hx hb dX7_takeStops_48 (lv_at hl 0 rfl) ?_
      refine m_ci0 (m_rV S hKX hW (m_szH hbs hS) (c_X8_has l hi_w) h lk_X7_42 (m_recv hK hW (ci_2 hi_w) (rc_2 G) rfl) rfl hl.1 rfl ⟨Nat.le_of_ble_eq_true rfl, Nat.le_of_ble_eq_true rfl⟩ (Nat.le_of_ble_eq_true rfl) ⟨Nat.le_of_ble_eq_true rfl, Nat.le_of_ble_eq_true rfl⟩ dX7_takeStops_50) hS rfl rfl (fun rr50 Mm50 H locs h hW hS => ?_)
      refine lv_if_eq (tgt := 66) hx hb dX7_takeStops_53 (by decide) (fun c53 => ?_) (fun c53 => ?_)
      · replace h := h.1 c53
        refine lv_iconst hx hb dX7_takeStops_66 ki_0 ?_
        exact m_iret S hret hlocks hKX hW hbs hS rfl h dX7_takeStops_67
      · replace h := h.2 c53
        refine lv_iload_n hx hb dX7_takeStops_56 rfl (lv_at hl 4 rfl) ?_
        refine lv_iload hx hb dX7_takeStops_57 (lv_at hl 0 rfl) ?_
        refine lv_ishr hx hb dX7_takeStops_59 ?_
        refine lv_iconst hx hb dX7_takeStops_60 ki_1 ?_
        refine lv_iand hx hb dX7_takeStops_61 ?_
        refine lv_iconst hx hb dX7_takeStops_62 ki_1 ?_
        refine lv_icmp_ne (tgt := 68) hx hb dX7_takeStops_63 (by decide) (fun c63 => ?_) (fun c63 => ?_)
        · replace h := h.1 c63
          refine lv_iload_n hx hb dX7_takeStops_68 rfl (lv_at hl 4 rfl) ?_
          refine lv_iconst hx hb dX7_takeStops_69 ki_1 ?_
          refine lv_iload hx hb dX7_takeStops_70 (lv_at hl 0 rfl) ?_
          refine lv_ishl hx hb dX7_takeStops_72 ?_
          refine lv_ior hx hb dX7_takeStops_73 ?_
          refine lv_topi (fun x3_74 ex3_74 => ?_)
          replace h := h x3_74 ex3_74
          refine lv_istore_n (lv' := [(3, .int x3_74), (5, .int x5_45), (0, .ref (ad G 9 0)), (1, .ref (ad G 7 d)), (2, .ref (ad G 2 w)), (4, .int x4)]) hx hb dX7_takeStops_74 rfl hl (by decide) rfl (fun ls hl => ?_)
          obtain ⟨x4_75, ex4_75⟩ : ∃ z : Int32, z = x4 + (1 : Int32) := ⟨_, rfl⟩
          replace h := h x4_75 ex4_75
          refine lv_iinc (v := x4_75) (lv' := [(4, .int x4_75), (3, .int x3_74), (5, .int x5_45), (0, .ref (ad G 9 0)), (1, .ref (ad G 7 d)), (2, .ref (ad G 2 w))]) hx hb dX7_takeStops_75 hl (k := 5) rfl (by rw [ex4_75, ki_1]) (by decide) rfl (fun ls hl => ?_)
          refine lv_goto (tgt := 29) hx hb dX7_takeStops_78 (by decide) ?_
          exact kk29 _ h H locs ls hW hS (lv_sub hl [3, 4, 5, 1, 0] rfl)
        · replace h := h.2 c63
          refine lv_iconst hx hb dX7_takeStops_66 ki_0 ?_
          exact m_iret S hret hlocks hKX hW hbs hS rfl h dX7_takeStops_67
  unfold s_X7_takeStops at h
  refine lv_aload_n hx hb dX7_takeStops_0 rfl (lv_at hl 0 rfl) ?_
  refine lv_iconst hx hb dX7_takeStops_1 ki_0 ?_
  refine m_put S hK fk_X7_30 tyX7_ok nmX7 rfl pf_X7_7 (pv_9_7 G) hW hS (ci_9 (Nat.le_of_ble_eq_true rfl)) rfl rfl dX7_takeStops_2 (fun Mm2 eMm2 H locs hW hS => ?_)
  replace h := h Mm2 eMm2
  refine lv_aload_n hx hb dX7_takeStops_5 rfl (lv_at hl 1 rfl) ?_
  refine m_geti S hK fk_X7_34 (gi_7_5 G) hW (ci_7 hi_d) dX7_takeStops_6 ?_
  refine lv_iconst hx hb dX7_takeStops_9 ki_1 ?_
  refine lv_icmp_lt (tgt := 22) hx hb dX7_takeStops_10 (by decide) (fun c10 => ?_) (fun c10 => ?_)
  · replace h := h.1 c10
    refine lv_iconst hx hb dX7_takeStops_22 ki_0 ?_
    exact m_iret S hret hlocks hKX hW hbs hS rfl h dX7_takeStops_23
  · replace h := h.2 c10
    refine lv_aload_n hx hb dX7_takeStops_13 rfl (lv_at hl 1 rfl) ?_
    refine m_geti S hK fk_X7_34 (gi_7_5 G) hW (ci_7 hi_d) dX7_takeStops_14 ?_
    refine lv_bipush hx hb dX7_takeStops_17 kb_7 ?_
    refine lv_icmp_le (tgt := 24) hx hb dX7_takeStops_19 (by decide) (fun c19 => ?_) (fun c19 => ?_)
    · replace h := h.1 c19
      refine lv_iconst hx hb dX7_takeStops_24 ki_0 ?_
      refine lv_istore_n (lv' := [(3, .int (0 : Int32)), (0, .ref (ad G 9 0)), (1, .ref (ad G 7 d)), (2, .ref (ad G 2 w))]) hx hb dX7_takeStops_25 rfl hl (by decide) rfl (fun ls hl => ?_)
      refine lv_iconst hx hb dX7_takeStops_26 ki_0 ?_
      refine lv_istore (lv' := [(4, .int (0 : Int32)), (3, .int (0 : Int32)), (0, .ref (ad G 9 0)), (1, .ref (ad G 7 d)), (2, .ref (ad G 2 w))]) hx hb dX7_takeStops_27 hl (by decide) rfl (fun ls hl => ?_)
      obtain ⟨n29, h⟩ := h
      exact w29 n29 _ h H locs ls hW hS (lv_sub hl [2, 3, 4, 1, 0] rfl)
    · replace h := h.2 c19
      refine lv_iconst hx hb dX7_takeStops_22 ki_0 ?_
      exact m_iret S hret hlocks hKX hW hbs hS rfl h dX7_takeStops_23
abbrev rm_X11_far : Room := { frames := 1, cells := 0, slots := 0, locals := 21 }
set_option maxHeartbeats 4000000 in
set_option maxRecDepth 100000 in
theorem c_X11_far (l : Launch) {G : Gn} {M : Mem} {x0 : Int32} {x1 : Int32} {x2 : Int32} {x3 : Int32} {P : Int32 → Mem → Prop} : MQi l yX11_far cX11_far 4 (some .int) rm_X11_far [.int x0, .int x1, .int x2, .int x3] G M (s_X11_far M x0 x1 x2 x3 P) P := by
  refine m_enter (by decide +kernel) (Nat.le_of_ble_eq_true rfl) ?_
  intro p e s m below meth c ls H locs S hret hlocks hname hKX hbs hW hS hl h
  obtain ⟨AV, hAV⟩ : ∃ z : Array Value, z = ([.int x0, .int x1, .int x2, .int x3] : List Value).toArray := ⟨_, rfl⟩
  rw [← hAV] at S ⊢
  replace S : CallFix p m c cX11_far 4 s AV lw_G "MilkDesk" := S
  have hK := hKX.1
  have hx := S.1
  have hb := S.2.1
  have hml := S.2.2.1
  have hown := S.2.2.2.1
  have hts := S.2.2.2.2
  replace hl : lv_has ls 4 [(0, .int x0), (1, .int x1), (2, .int x2), (3, .int x3)] := hl
  unfold s_X11_far at h
  refine lv_iload_n hx hb dX11_far_0 rfl (lv_at hl 0 rfl) ?_
  refine lv_iload_n hx hb dX11_far_1 rfl (lv_at hl 2 rfl) ?_
  refine lv_isub hx hb dX11_far_2 ?_
  refine va_mabs hx hb (hml.trans hl.1.symm) hown (hts _ mw_842) (hts _ mw_843) (hts _ mw_13) (hts _ mw_844) (Nat.le_of_ble_eq_true rfl) (Nat.le_of_ble_eq_true rfl) (Nat.zero_le _) (Nat.zero_le _) dX11_far_3 ?_
  refine lv_iload_n hx hb dX11_far_6 rfl (lv_at hl 1 rfl) ?_
  refine lv_iload_n hx hb dX11_far_7 rfl (lv_at hl 3 rfl) ?_
  refine lv_isub hx hb dX11_far_8 ?_
  refine va_mabs hx hb (hml.trans hl.1.symm) hown (hts _ mw_842) (hts _ mw_843) (hts _ mw_13) (hts _ mw_844) (Nat.le_of_ble_eq_true rfl) (Nat.le_of_ble_eq_true rfl) (Nat.zero_le _) (Nat.zero_le _) dX11_far_9 ?_
  refine lv_iadd hx hb dX11_far_12 ?_
  exact m_iret S hret hlocks hKX hW hbs hS rfl h dX11_far_13
abbrev rm_X7_visit (F L : Nat) : Room := { frames := F + 2, cells := 0, slots := 0, locals := L + 44 }
set_option maxHeartbeats 4000000 in
set_option maxRecDepth 100000 in
theorem c_X7_visit (l : Launch) {G : Gn} {RO : Mem → Int32 → Int32 → Int32 → Int32 → (Mem → Prop) → Prop} {F L : Nat} (hRO : ∀ (M : Mem) (z0 z1 z2 z3 : Int32) (P : Mem → Prop), MQv l yX7_goOn cX7_goOn 6 none { frames := F, cells := 0, slots := 0, locals := L } [.ref (ad G 9 0), .int z0, .int z1, .int z2, .int z3] G M (RO M z0 z1 z2 z3 P) P) {M : Mem} {x1 : Int32} {x2 : Int32} {x3 : Int32} {x4 : Int32} {x5 : Int32} {P : Mem → Prop} : MQv l yX7_visit cX7_visit 8 none (rm_X7_visit F L) [.ref (ad G 9 0), .int x1, .int x2, .int x3, .int x4, .int x5] G M (s_X7_visit RO M x1 x2 x3 x4 x5 P) P := by
  refine m_enter (by decide +kernel) (Nat.le_of_ble_eq_true rfl) ?_
  intro p e s m below meth c ls H locs S hret hlocks hname hKX hbs hW hS hl h
  obtain ⟨AV, hAV⟩ : ∃ z : Array Value, z = ([.ref (ad G 9 0), .int x1, .int x2, .int x3, .int x4, .int x5] : List Value).toArray := ⟨_, rfl⟩
  rw [← hAV] at S ⊢
  replace S : CallFix p m c cX7_visit 8 s AV lw_G "MilkDesk$RoundSearch" := S
  have hK := hKX.1
  have hx := S.1
  have hb := S.2.1
  have hml := S.2.2.1
  have hown := S.2.2.2.1
  have hts := S.2.2.2.2
  replace hl : lv_has ls 8 [(0, .ref (ad G 9 0)), (1, .int x1), (2, .int x2), (3, .int x3), (4, .int x4), (5, .int x5)] := hl
  unfold s_X7_visit at h
  refine lv_iload hx hb dX7_visit_0 (lv_at hl 5 rfl) ?_
  refine lv_iload_n hx hb dX7_visit_2 rfl (lv_at hl 3 rfl) ?_
  refine lv_iload hx hb dX7_visit_3 (lv_at hl 4 rfl) ?_
  refine lv_aload_n hx hb dX7_visit_5 rfl (lv_at hl 0 rfl) ?_
  refine m_getr S hK fk_X7_21 (gr_9_4 G 0) hW (ci_9 (Nat.le_of_ble_eq_true rfl)) dX7_visit_6 ?_
  refine lv_iload_n hx hb dX7_visit_9 rfl (lv_at hl 1 rfl) ?_
  obtain ⟨hb10, h⟩ := h
  refine m_ald S hK (ar_82 G) hW (ci_82 (Nat.le_of_ble_eq_true rfl)) hb10 dX7_visit_10 ?_
  refine lv_aload_n hx hb dX7_visit_11 rfl (lv_at hl 0 rfl) ?_
  refine m_getr S hK fk_X7_24 (gr_9_5 G 0) hW (ci_9 (Nat.le_of_ble_eq_true rfl)) dX7_visit_12 ?_
  refine lv_iload_n hx hb dX7_visit_15 rfl (lv_at hl 1 rfl) ?_
  obtain ⟨hb16, h⟩ := h
  refine m_ald S hK (ar_83 G) hW (ci_83 (Nat.le_of_ble_eq_true rfl)) hb16 dX7_visit_16 ?_
  refine m_ci0 (m_rN S hKX hW (m_szH hbs hS) (c_X11_far l ) h lk_X7_76 rfl hl.1 rfl ⟨by show 1 + 1 ≤ F + 2; omega, by show 8 + (4 + 11) + 21 ≤ L + 44; omega⟩ (Nat.le_of_ble_eq_true rfl) ⟨Nat.le_of_ble_eq_true rfl, Nat.le_of_ble_eq_true rfl⟩ dX7_visit_17) hS rfl rfl (fun rr17 Mm17 H locs h hW hS => ?_)
  refine lv_iadd hx hb dX7_visit_20 ?_
  refine lv_topi (fun x6_21 ex6_21 => ?_)
  replace h := h x6_21 ex6_21
  refine lv_istore (lv' := [(6, .int x6_21), (0, .ref (ad G 9 0)), (1, .int x1), (2, .int x2), (3, .int x3), (4, .int x4), (5, .int x5)]) hx hb dX7_visit_21 hl (by decide) rfl (fun ls hl => ?_)
  refine lv_iload hx hb dX7_visit_23 (lv_at hl 0 rfl) ?_
  refine lv_aload_n hx hb dX7_visit_25 rfl (lv_at hl 1 rfl) ?_
  refine m_getr S hK fk_X7_21 (gr_9_4 G 0) hW (ci_9 (Nat.le_of_ble_eq_true rfl)) dX7_visit_26 ?_
  refine lv_iload_n hx hb dX7_visit_29 rfl (lv_at hl 2 rfl) ?_
  obtain ⟨hb30, h⟩ := h
  refine m_ald S hK (ar_82 G) hW (ci_82 (Nat.le_of_ble_eq_true rfl)) hb30 dX7_visit_30 ?_
  refine lv_aload_n hx hb dX7_visit_31 rfl (lv_at hl 1 rfl) ?_
  refine m_getr S hK fk_X7_24 (gr_9_5 G 0) hW (ci_9 (Nat.le_of_ble_eq_true rfl)) dX7_visit_32 ?_
  refine lv_iload_n hx hb dX7_visit_35 rfl (lv_at hl 2 rfl) ?_
  obtain ⟨hb36, h⟩ := h
  refine m_ald S hK (ar_83 G) hW (ci_83 (Nat.le_of_ble_eq_true rfl)) hb36 dX7_visit_36 ?_
  refine lv_aload_n hx hb dX7_visit_37 rfl (lv_at hl 1 rfl) ?_
  refine m_geti S hK fk_X7_56 (gi_9_10 G) hW (ci_9 (Nat.le_of_ble_eq_true rfl)) dX7_visit_38 ?_
  refine lv_aload_n hx hb dX7_visit_41 rfl (lv_at hl 1 rfl) ?_
  refine m_geti S hK fk_X7_59 (gi_9_11 G) hW (ci_9 (Nat.le_of_ble_eq_true rfl)) dX7_visit_42 ?_
  refine m_ci0 (m_rN S hKX hW (m_szH hbs hS) (c_X11_far l ) h lk_X7_76 rfl hl.1 rfl ⟨by show 1 + 1 ≤ F + 2; omega, by show 8 + (4 + 11) + 21 ≤ L + 44; omega⟩ (Nat.le_of_ble_eq_true rfl) ⟨Nat.le_of_ble_eq_true rfl, Nat.le_of_ble_eq_true rfl⟩ dX7_visit_45) hS rfl rfl (fun rr45 Mm45 H locs h hW hS => ?_)
  refine lv_iadd hx hb dX7_visit_48 ?_
  refine lv_topi (fun x7_49 ex7_49 => ?_)
  replace h := h x7_49 ex7_49
  refine lv_istore (lv' := [(7, .int x7_49), (6, .int x6_21), (0, .ref (ad G 9 0)), (1, .int x1), (2, .int x2), (3, .int x3), (4, .int x4), (5, .int x5)]) hx hb dX7_visit_49 hl (by decide) rfl (fun ls hl => ?_)
  refine lv_aload_n hx hb dX7_visit_51 rfl (lv_at hl 2 rfl) ?_
  refine m_geti S hK fk_X7_62 (gi_9_9 G) hW (ci_9 (Nat.le_of_ble_eq_true rfl)) dX7_visit_52 ?_
  refine lv_iload hx hb dX7_visit_55 (lv_at hl 1 rfl) ?_
  refine lv_iadd hx hb dX7_visit_57 ?_
  refine lv_aload_n hx hb dX7_visit_58 rfl (lv_at hl 2 rfl) ?_
  refine m_getr S hK fk_X7_27 (gr_9_6 G 0) hW (ci_9 (Nat.le_of_ble_eq_true rfl)) dX7_visit_59 ?_
  refine lv_iload_n hx hb dX7_visit_62 rfl (lv_at hl 3 rfl) ?_
  obtain ⟨hb63, h⟩ := h
  refine m_ald S hK (ar_84 G) hW (ci_84 (Nat.le_of_ble_eq_true rfl)) hb63 dX7_visit_63 ?_
  refine lv_icmp_gt (tgt := 76) hx hb dX7_visit_64 (by decide) (fun c64 => ?_) (fun c64 => ?_)
  · replace h := h.1 c64
    exact m_vret S hret hlocks hKX hW hbs hS h dX7_visit_76
  · replace h := h.2 c64
    refine lv_iload hx hb dX7_visit_67 (lv_at hl 0 rfl) ?_
    refine lv_aload_n hx hb dX7_visit_69 rfl (lv_at hl 2 rfl) ?_
    refine m_geti S hK fk_X7_69 (gi_9_0 G) hW (ci_9 (Nat.le_of_ble_eq_true rfl)) dX7_visit_70 ?_
    refine lv_icmp_lt (tgt := 77) hx hb dX7_visit_73 (by decide) (fun c73 => ?_) (fun c73 => ?_)
    · replace h := h.1 c73
      refine lv_aload_n hx hb dX7_visit_77 rfl (lv_at hl 2 rfl) ?_
      refine m_getr S hK fk_X7_15 (gr_9_2 G 0) hW (ci_9 (Nat.le_of_ble_eq_true rfl)) dX7_visit_78 ?_
      refine lv_iload_n hx hb dX7_visit_81 rfl (lv_at hl 4 rfl) ?_
      refine lv_aload_n hx hb dX7_visit_82 rfl (lv_at hl 2 rfl) ?_
      refine m_getr S hK fk_X7_18 (gr_9_3 G 0) hW (ci_9 (Nat.le_of_ble_eq_true rfl)) dX7_visit_83 ?_
      refine lv_iload_n hx hb dX7_visit_86 rfl (lv_at hl 3 rfl) ?_
      obtain ⟨hb87, h⟩ := h
      refine m_ald S hK (ar_43 G) hW (ci_43 (Nat.le_of_ble_eq_true rfl)) hb87 dX7_visit_87 ?_
      obtain ⟨hb88, h⟩ := h
      refine m_ast S hK (ar_42 G) hW hS (ci_42 (Nat.le_of_ble_eq_true rfl)) hb88 dX7_visit_88 (fun Mm88 eMm88 H locs hW hS => ?_)
      replace h := h Mm88 eMm88
      refine lv_aload_n hx hb dX7_visit_89 rfl (lv_at hl 2 rfl) ?_
      refine lv_dup hx hb dX7_visit_90 rfl ?_
      refine m_geti S hK fk_X7_65 (gi_9_8 G) hW (ci_9 (Nat.le_of_ble_eq_true rfl)) dX7_visit_91 ?_
      refine lv_iconst hx hb dX7_visit_94 ki_1 ?_
      refine lv_iload_n hx hb dX7_visit_95 rfl (lv_at hl 3 rfl) ?_
      refine lv_ishl hx hb dX7_visit_96 ?_
      refine lv_ior hx hb dX7_visit_97 ?_
      refine m_put S hK fk_X7_65 tyX7_ok nmX7 rfl pf_X7_8 (pv_9_8 G) hW hS (ci_9 (Nat.le_of_ble_eq_true rfl)) rfl rfl dX7_visit_98 (fun Mm98 eMm98 H locs hW hS => ?_)
      replace h := h Mm98 eMm98
      refine lv_aload_n hx hb dX7_visit_101 rfl (lv_at hl 2 rfl) ?_
      refine lv_iload_n hx hb dX7_visit_102 rfl (lv_at hl 4 rfl) ?_
      refine lv_iconst hx hb dX7_visit_103 ki_1 ?_
      refine lv_iadd hx hb dX7_visit_104 ?_
      refine lv_aload_n hx hb dX7_visit_105 rfl (lv_at hl 2 rfl) ?_
      refine m_getr S hK fk_X7_21 (gr_9_4 G 0) hW (ci_9 (Nat.le_of_ble_eq_true rfl)) dX7_visit_106 ?_
      refine lv_iload_n hx hb dX7_visit_109 rfl (lv_at hl 3 rfl) ?_
      obtain ⟨hb110, h⟩ := h
      refine m_ald S hK (ar_82 G) hW (ci_82 (Nat.le_of_ble_eq_true rfl)) hb110 dX7_visit_110 ?_
      refine lv_aload_n hx hb dX7_visit_111 rfl (lv_at hl 2 rfl) ?_
      refine m_getr S hK fk_X7_24 (gr_9_5 G 0) hW (ci_9 (Nat.le_of_ble_eq_true rfl)) dX7_visit_112 ?_
      refine lv_iload_n hx hb dX7_visit_115 rfl (lv_at hl 3 rfl) ?_
      obtain ⟨hb116, h⟩ := h
      refine m_ald S hK (ar_83 G) hW (ci_83 (Nat.le_of_ble_eq_true rfl)) hb116 dX7_visit_116 ?_
      refine lv_iload hx hb dX7_visit_117 (lv_at hl 1 rfl) ?_
      refine m_cv0 (m_rV S hKX hW (m_szH hbs hS) (hRO _ _ _ _ _ _ ) h lk_X7_72 (m_recv hK hW (ci_9 (Nat.le_of_ble_eq_true rfl)) (rc_9 G) rfl) rfl hl.1 rfl ⟨by show F + 1 ≤ F + 2; omega, by show 8 + (6 + 11) + L ≤ L + 44; omega⟩ (Nat.le_of_ble_eq_true rfl) ⟨Nat.le_of_ble_eq_true rfl, Nat.le_of_ble_eq_true rfl⟩ dX7_visit_119) hS rfl rfl (fun Mm119 H locs h hW hS => ?_)
      refine lv_aload_n hx hb dX7_visit_122 rfl (lv_at hl 2 rfl) ?_
      refine lv_dup hx hb dX7_visit_123 rfl ?_
      refine m_geti S hK fk_X7_65 (gi_9_8 G) hW (ci_9 (Nat.le_of_ble_eq_true rfl)) dX7_visit_124 ?_
      refine lv_iconst hx hb dX7_visit_127 ki_1 ?_
      refine lv_iload_n hx hb dX7_visit_128 rfl (lv_at hl 3 rfl) ?_
      refine lv_ishl hx hb dX7_visit_129 ?_
      refine lv_iconst hx hb dX7_visit_130 ki_m1 ?_
      refine lv_ixor hx hb dX7_visit_131 ?_
      refine lv_iand hx hb dX7_visit_132 ?_
      refine m_put S hK fk_X7_65 tyX7_ok nmX7 rfl pf_X7_8 (pv_9_8 G) hW hS (ci_9 (Nat.le_of_ble_eq_true rfl)) rfl rfl dX7_visit_133 (fun Mm133 eMm133 H locs hW hS => ?_)
      replace h := h Mm133 eMm133
      exact m_vret S hret hlocks hKX hW hbs hS h dX7_visit_136
    · replace h := h.2 c73
      exact m_vret S hret hlocks hKX hW hbs hS h dX7_visit_76
