abbrev rm_X7_goOn (F L : Nat) : Room := { frames := F + 3, cells := 0, slots := 0, locals := L + 85 }
set_option maxHeartbeats 4000000 in
set_option maxRecDepth 100000 in
theorem c_X7_goOn (l : Launch) {G : Gn} {RO : Mem → Int32 → Int32 → Int32 → Int32 → (Mem → Prop) → Prop} {F L : Nat} (hRO : ∀ (M : Mem) (z0 z1 z2 z3 : Int32) (P : Mem → Prop), MQv l yX7_goOn cX7_goOn 6 none { frames := F, cells := 0, slots := 0, locals := L } [.ref (ad G 9 0), .int z0, .int z1, .int z2, .int z3] G M (RO M z0 z1 z2 z3 P) P) {M : Mem} {x1 : Int32} {x2 : Int32} {x3 : Int32} {x4 : Int32} {P : Mem → Prop} : MQv l yX7_goOn cX7_goOn 6 none (rm_X7_goOn F L) [.ref (ad G 9 0), .int x1, .int x2, .int x3, .int x4] G M (s_X7_goOn RO M x1 x2 x3 x4 P) P := by
  refine m_enter (by decide +kernel) (Nat.le_of_ble_eq_true rfl) ?_
  intro p e s m below meth c ls H locs S hret hlocks hname hKX hbs hW hS hl h
  obtain ⟨AV, hAV⟩ : ∃ z : Array Value, z = ([.ref (ad G 9 0), .int x1, .int x2, .int x3, .int x4] : List Value).toArray := ⟨_, rfl⟩
  rw [← hAV] at S ⊢
  replace S : CallFix p m c cX7_goOn 6 s AV lw_G "MilkDesk$RoundSearch" := S
  have hK := hKX.1
  have hx := S.1
  have hb := S.2.1
  have hml := S.2.2.1
  have hown := S.2.2.2.1
  have hts := S.2.2.2.2
  replace hl : lv_has ls 6 [(0, .ref (ad G 9 0)), (1, .int x1), (2, .int x2), (3, .int x3), (4, .int x4)] := hl
  have w43 : ∀ (n : Nat) (a : Mem × Int32), Lz (fun (K43 : Mem × Int32 → Prop) (a : Mem × Int32) => s_X7_goOn_43 RO x1 x2 x3 x4 P K43 a.1 a.2) n a → ∀ (H : Heap) (locs : List Loc) (ls : Array Slot), WPm G a.1 H → va_S (fun q => bs G ≤ q) s.heap H locs → lv_has ls 6 [(0, .ref (ad G 9 0)), (1, .int x1), (2, .int x2), (3, .int x3), (4, .int x4), (5, .int a.2)] → W p l e (rm_X7_goOn F L) s m AV below meth c H locs 0 0 (MQ below (va_Qv P (WS G) (fun q => bs G ≤ q)) AV s 0 0 (fun q => bs G ≤ q)) (F0 m 43 ls []) := by
    refine Lz_walk ?_
    rintro K43 kk43 ⟨M, x5⟩ h H locs ls hW hS hl
    replace h : s_X7_goOn_43 RO x1 x2 x3 x4 P K43 M x5 := h
    replace hW : WPm G M H := hW
    replace hl : lv_has ls 6 [(0, .ref (ad G 9 0)), (1, .int x1), (2, .int x2), (3, .int x3), (4, .int x4), (5, .int x5)] := hl
    unfold s_X7_goOn_43 at h
    refine lv_iload hx hb dX7_goOn_43 (lv_at hl 5 rfl) ?_
    refine lv_aload_n hx hb dX7_goOn_45 rfl (lv_at hl 0 rfl) ?_
    refine m_geti S hK fk_X7_30 (gi_9_7 G) hW (ci_9 (Nat.le_of_ble_eq_true rfl)) dX7_goOn_46 ?_
    refine lv_icmp_ge (tgt := 81) hx hb dX7_goOn_49 (by decide) (fun c49 => ?_) (fun c49 => ?_)
    · replace h := h.1 c49
      exact m_vret S hret hlocks hKX hW hbs hS h dX7_goOn_81
    · replace h := h.2 c49
      refine lv_aload_n hx hb dX7_goOn_52 rfl (lv_at hl 0 rfl) ?_
      refine m_geti S hK fk_X7_65 (gi_9_8 G) hW (ci_9 (Nat.le_of_ble_eq_true rfl)) dX7_goOn_53 ?_
      refine lv_iload hx hb dX7_goOn_56 (lv_at hl 5 rfl) ?_
      refine lv_ishr hx hb dX7_goOn_58 ?_
      refine lv_iconst hx hb dX7_goOn_59 ki_1 ?_
      refine lv_iand hx hb dX7_goOn_60 ?_
      refine lv_if_ne (tgt := 75) hx hb dX7_goOn_61 (by decide) (fun c61 => ?_) (fun c61 => ?_)
      · replace h := h.1 c61
        obtain ⟨x5_75, ex5_75⟩ : ∃ z : Int32, z = x5 + (1 : Int32) := ⟨_, rfl⟩
        replace h := h x5_75 ex5_75
        refine lv_iinc (v := x5_75) (lv' := [(5, .int x5_75), (0, .ref (ad G 9 0)), (1, .int x1), (2, .int x2), (3, .int x3), (4, .int x4)]) hx hb dX7_goOn_75 hl (k := 5) rfl (by rw [ex5_75, ki_1]) (by decide) rfl (fun ls hl => ?_)
        refine lv_goto (tgt := 43) hx hb dX7_goOn_78 (by decide) ?_
        exact kk43 _ h H locs ls hW hS (lv_sub hl [1, 2, 3, 4, 5, 0] rfl)
      · replace h := h.2 c61
        refine lv_aload_n hx hb dX7_goOn_64 rfl (lv_at hl 0 rfl) ?_
        refine lv_iload hx hb dX7_goOn_65 (lv_at hl 5 rfl) ?_
        refine lv_iload_n hx hb dX7_goOn_67 rfl (lv_at hl 1 rfl) ?_
        refine lv_iload_n hx hb dX7_goOn_68 rfl (lv_at hl 2 rfl) ?_
        refine lv_iload_n hx hb dX7_goOn_69 rfl (lv_at hl 3 rfl) ?_
        refine lv_iload hx hb dX7_goOn_70 (lv_at hl 4 rfl) ?_
        refine m_cv0 (m_rV S hKX hW (m_szH hbs hS) (c_X7_visit l hRO ) h lk_X7_84 (m_recv hK hW (ci_9 (Nat.le_of_ble_eq_true rfl)) (rc_9 G) rfl) rfl hl.1 rfl ⟨by show F + 2 + 1 ≤ F + 3; omega, by show 8 + (8 + 11) + (L + 44) ≤ L + 85; omega⟩ (Nat.le_of_ble_eq_true rfl) ⟨Nat.le_of_ble_eq_true rfl, Nat.le_of_ble_eq_true rfl⟩ dX7_goOn_72) hS rfl rfl (fun Mm72 H locs h hW hS => ?_)
        obtain ⟨x5_75, ex5_75⟩ : ∃ z : Int32, z = x5 + (1 : Int32) := ⟨_, rfl⟩
        replace h := h x5_75 ex5_75
        refine lv_iinc (v := x5_75) (lv' := [(5, .int x5_75), (0, .ref (ad G 9 0)), (1, .int x1), (2, .int x2), (3, .int x3), (4, .int x4)]) hx hb dX7_goOn_75 hl (k := 5) rfl (by rw [ex5_75, ki_1]) (by decide) rfl (fun ls hl => ?_)
        refine lv_goto (tgt := 43) hx hb dX7_goOn_78 (by decide) ?_
        exact kk43 _ h H locs ls hW hS (lv_sub hl [1, 2, 3, 4, 5, 0] rfl)
  unfold s_X7_goOn at h
  refine lv_iload_n hx hb dX7_goOn_0 rfl (lv_at hl 1 rfl) ?_
  refine lv_aload_n hx hb dX7_goOn_1 rfl (lv_at hl 0 rfl) ?_
  refine m_geti S hK fk_X7_30 (gi_9_7 G) hW (ci_9 (Nat.le_of_ble_eq_true rfl)) dX7_goOn_2 ?_
  refine lv_icmp_lt (tgt := 40) hx hb dX7_goOn_5 (by decide) (fun c5 => ?_) (fun c5 => ?_)
  · replace h := h.1 c5
    refine lv_iconst hx hb dX7_goOn_40 ki_0 ?_
    refine lv_istore (lv' := [(5, .int (0 : Int32)), (0, .ref (ad G 9 0)), (1, .int x1), (2, .int x2), (3, .int x3), (4, .int x4)]) hx hb dX7_goOn_41 hl (by decide) rfl (fun ls hl => ?_)
    obtain ⟨n43, h⟩ := h
    exact w43 n43 _ h H locs ls hW hS (lv_sub hl [1, 2, 3, 4, 5, 0] rfl)
  · replace h := h.2 c5
    refine lv_aload_n hx hb dX7_goOn_8 rfl (lv_at hl 0 rfl) ?_
    refine lv_iload hx hb dX7_goOn_9 (lv_at hl 4 rfl) ?_
    refine lv_iload_n hx hb dX7_goOn_11 rfl (lv_at hl 2 rfl) ?_
    refine lv_iload_n hx hb dX7_goOn_12 rfl (lv_at hl 3 rfl) ?_
    refine lv_aload_n hx hb dX7_goOn_13 rfl (lv_at hl 0 rfl) ?_
    refine m_geti S hK fk_X7_56 (gi_9_10 G) hW (ci_9 (Nat.le_of_ble_eq_true rfl)) dX7_goOn_14 ?_
    refine lv_aload_n hx hb dX7_goOn_17 rfl (lv_at hl 0 rfl) ?_
    refine m_geti S hK fk_X7_59 (gi_9_11 G) hW (ci_9 (Nat.le_of_ble_eq_true rfl)) dX7_goOn_18 ?_
    refine m_ci0 (m_rN S hKX hW (m_szH hbs hS) (c_X11_far l ) h lk_X7_76 rfl hl.1 rfl ⟨by show 1 + 1 ≤ F + 3; omega, by show 8 + (4 + 11) + 21 ≤ L + 85; omega⟩ (Nat.le_of_ble_eq_true rfl) ⟨Nat.le_of_ble_eq_true rfl, Nat.le_of_ble_eq_true rfl⟩ dX7_goOn_21) hS rfl rfl (fun rr21 Mm21 H locs h hW hS => ?_)
    refine lv_iadd hx hb dX7_goOn_24 ?_
    refine m_put S hK fk_X7_69 tyX7_ok nmX7 rfl pf_X7_0 (pv_9_0 G) hW hS (ci_9 (Nat.le_of_ble_eq_true rfl)) rfl rfl dX7_goOn_25 (fun Mm25 eMm25 H locs hW hS => ?_)
    replace h := h Mm25 eMm25
    refine lv_aload_n hx hb dX7_goOn_28 rfl (lv_at hl 0 rfl) ?_
    refine m_getr S hK fk_X7_15 (gr_9_2 G 0) hW (ci_9 (Nat.le_of_ble_eq_true rfl)) dX7_goOn_29 ?_
    refine lv_aload_n hx hb dX7_goOn_32 rfl (lv_at hl 0 rfl) ?_
    refine m_getr S hK fk_X7_9 (gr_9_1 G 0) hW (ci_9 (Nat.le_of_ble_eq_true rfl)) dX7_goOn_33 ?_
    refine m_cv0 (m_rN S hKX hW (m_szH hbs hS) (c_X11_copyAll l (ar_42 G) (ar_41 G) (ci_42 (Nat.le_of_ble_eq_true rfl)) (ci_41 (Nat.le_of_ble_eq_true rfl)) (Nat.le_of_ble_eq_true rfl)) h lk_X7_80 rfl hl.1 rfl ⟨by show 1 + 1 ≤ F + 3; omega, by show 8 + (2 + 11) + 64 ≤ L + 85; omega⟩ (Nat.le_of_ble_eq_true rfl) ⟨Nat.le_of_ble_eq_true rfl, Nat.le_of_ble_eq_true rfl⟩ dX7_goOn_36) hS rfl rfl (fun Mm36 H locs h hW hS => ?_)
    exact m_vret S hret hlocks hKX hW hbs hS h dX7_goOn_39
theorem cr_X7_goOn (l : Launch) {G : Gn} : ∀ (n : Nat) (M : Mem) (z0 z1 z2 z3 : Int32) (P : Mem → Prop), MQv l yX7_goOn cX7_goOn 6 none { frames := 3 * n, cells := 0, slots := 0, locals := 85 * n } [.ref (ad G 9 0), .int z0, .int z1, .int z2, .int z3] G M (sr_X7_goOn n M z0 z1 z2 z3 P) P := by
  intro n
  induction n with
  | zero =>
    intro M z0 z1 z2 z3 P
    refine m_enter (by decide +kernel) (Nat.le_of_ble_eq_true rfl) ?_
    intro p e s m below meth c ls H locs S hret hlocks hname hKX hbs hW hS hl h
    exact h.elim
  | succ n ih =>
    intro M z0 z1 z2 z3 P
    exact c_X7_goOn l (RO := sr_X7_goOn n) (F := 3 * n) (L := 85 * n) ih
abbrev rm_X7_find : Room := { frames := 28, cells := 0, slots := 0, locals := 790 }
set_option maxHeartbeats 4000000 in
set_option maxRecDepth 100000 in
theorem c_X7_find (l : Launch) {G : Gn} {M : Mem} {x1 : Int32} {x2 : Int32} {x3 : Int32} {P : Int32 → Mem → Prop} : MQi l yX7_find cX7_find 4 (some .boolean) rm_X7_find [.ref (ad G 9 0), .int x1, .int x2, .int x3] G M (s_X7_find M x1 x2 x3 P) P := by
  refine m_enter (by decide +kernel) (Nat.le_of_ble_eq_true rfl) ?_
  intro p e s m below meth c ls H locs S hret hlocks hname hKX hbs hW hS hl h
  obtain ⟨AV, hAV⟩ : ∃ z : Array Value, z = ([.ref (ad G 9 0), .int x1, .int x2, .int x3] : List Value).toArray := ⟨_, rfl⟩
  rw [← hAV] at S ⊢
  replace S : CallFix p m c cX7_find 4 s AV lw_G "MilkDesk$RoundSearch" := S
  have hK := hKX.1
  have hx := S.1
  have hb := S.2.1
  have hml := S.2.2.1
  have hown := S.2.2.2.1
  have hts := S.2.2.2.2
  replace hl : lv_has ls 4 [(0, .ref (ad G 9 0)), (1, .int x1), (2, .int x2), (3, .int x3)] := hl
  unfold s_X7_find at h
  refine lv_aload_n hx hb dX7_find_0 rfl (lv_at hl 0 rfl) ?_
  refine lv_iload_n hx hb dX7_find_1 rfl (lv_at hl 1 rfl) ?_
  refine m_put S hK fk_X7_56 tyX7_ok nmX7 rfl pf_X7_10 (pv_9_10 G) hW hS (ci_9 (Nat.le_of_ble_eq_true rfl)) rfl rfl dX7_find_2 (fun Mm2 eMm2 H locs hW hS => ?_)
  replace h := h Mm2 eMm2
  refine lv_aload_n hx hb dX7_find_5 rfl (lv_at hl 0 rfl) ?_
  refine lv_iload_n hx hb dX7_find_6 rfl (lv_at hl 2 rfl) ?_
  refine m_put S hK fk_X7_59 tyX7_ok nmX7 rfl pf_X7_11 (pv_9_11 G) hW hS (ci_9 (Nat.le_of_ble_eq_true rfl)) rfl rfl dX7_find_7 (fun Mm7 eMm7 H locs hW hS => ?_)
  replace h := h Mm7 eMm7
  refine lv_aload_n hx hb dX7_find_10 rfl (lv_at hl 0 rfl) ?_
  refine lv_iload_n hx hb dX7_find_11 rfl (lv_at hl 3 rfl) ?_
  refine m_put S hK fk_X7_62 tyX7_ok nmX7 rfl pf_X7_9 (pv_9_9 G) hW hS (ci_9 (Nat.le_of_ble_eq_true rfl)) rfl rfl dX7_find_12 (fun Mm12 eMm12 H locs hW hS => ?_)
  replace h := h Mm12 eMm12
  refine lv_aload_n hx hb dX7_find_15 rfl (lv_at hl 0 rfl) ?_
  refine lv_iconst hx hb dX7_find_16 ki_0 ?_
  refine m_put S hK fk_X7_65 tyX7_ok nmX7 rfl pf_X7_8 (pv_9_8 G) hW hS (ci_9 (Nat.le_of_ble_eq_true rfl)) rfl rfl dX7_find_17 (fun Mm17 eMm17 H locs hW hS => ?_)
  replace h := h Mm17 eMm17
  refine lv_aload_n hx hb dX7_find_20 rfl (lv_at hl 0 rfl) ?_
  refine lv_ldc hx hb hown (hts _ mw_834) dX7_find_21 ?_
  refine m_put S hK fk_X7_69 tyX7_ok nmX7 rfl pf_X7_0 (pv_9_0 G) hW hS (ci_9 (Nat.le_of_ble_eq_true rfl)) rfl rfl dX7_find_23 (fun Mm23 eMm23 H locs hW hS => ?_)
  replace h := h Mm23 eMm23
  refine lv_aload_n hx hb dX7_find_26 rfl (lv_at hl 0 rfl) ?_
  refine lv_iconst hx hb dX7_find_27 ki_0 ?_
  refine lv_aload_n hx hb dX7_find_28 rfl (lv_at hl 0 rfl) ?_
  refine m_geti S hK fk_X7_56 (gi_9_10 G) hW (ci_9 (Nat.le_of_ble_eq_true rfl)) dX7_find_29 ?_
  refine lv_aload_n hx hb dX7_find_32 rfl (lv_at hl 0 rfl) ?_
  refine m_geti S hK fk_X7_59 (gi_9_11 G) hW (ci_9 (Nat.le_of_ble_eq_true rfl)) dX7_find_33 ?_
  refine lv_iconst hx hb dX7_find_36 ki_0 ?_
  refine m_cv0 (m_rV S hKX hW (m_szH hbs hS) (cr_X7_goOn l 9 _ _ _ _ _ _ ) h lk_X7_72 (m_recv hK hW (ci_9 (Nat.le_of_ble_eq_true rfl)) (rc_9 G) rfl) rfl hl.1 rfl ⟨Nat.le_of_ble_eq_true rfl, Nat.le_of_ble_eq_true rfl⟩ (Nat.le_of_ble_eq_true rfl) ⟨Nat.le_of_ble_eq_true rfl, Nat.le_of_ble_eq_true rfl⟩ dX7_find_37) hS rfl rfl (fun Mm37 H locs h hW hS => ?_)
  refine lv_aload_n hx hb dX7_find_40 rfl (lv_at hl 0 rfl) ?_
  refine m_geti S hK fk_X7_69 (gi_9_0 G) hW (ci_9 (Nat.le_of_ble_eq_true rfl)) dX7_find_41 ?_
  refine lv_ldc hx hb hown (hts _ mw_834) dX7_find_44 ?_
  refine lv_icmp_ge (tgt := 53) hx hb dX7_find_46 (by decide) (fun c46 => ?_) (fun c46 => ?_)
  · replace h := h.1 c46
    refine lv_iconst hx hb dX7_find_53 ki_0 ?_
    exact m_iret S hret hlocks hKX hW hbs hS rfl h dX7_find_54
  · replace h := h.2 c46
    refine lv_iconst hx hb dX7_find_49 ki_1 ?_
    refine lv_goto (tgt := 54) hx hb dX7_find_50 (by decide) ?_
    exact m_iret S hret hlocks hKX hW hbs hS rfl h dX7_find_54
abbrev rm_X7_bestStop : Room := { frames := 0, cells := 0, slots := 0, locals := 0 }
set_option maxHeartbeats 4000000 in
set_option maxRecDepth 100000 in
theorem c_X7_bestStop (l : Launch) {G : Gn} {M : Mem} {x1 : Int32} {P : Int32 → Mem → Prop} : MQi l yX7_bestStop cX7_bestStop 2 (some .int) rm_X7_bestStop [.ref (ad G 9 0), .int x1] G M (s_X7_bestStop M x1 P) P := by
  refine m_enter (by decide +kernel) (Nat.le_of_ble_eq_true rfl) ?_
  intro p e s m below meth c ls H locs S hret hlocks hname hKX hbs hW hS hl h
  obtain ⟨AV, hAV⟩ : ∃ z : Array Value, z = ([.ref (ad G 9 0), .int x1] : List Value).toArray := ⟨_, rfl⟩
  rw [← hAV] at S ⊢
  replace S : CallFix p m c cX7_bestStop 2 s AV lw_G "MilkDesk$RoundSearch" := S
  have hK := hKX.1
  have hx := S.1
  have hb := S.2.1
  have hml := S.2.2.1
  have hown := S.2.2.2.1
  have hts := S.2.2.2.2
  replace hl : lv_has ls 2 [(0, .ref (ad G 9 0)), (1, .int x1)] := hl
  unfold s_X7_bestStop at h
  refine lv_iload_n hx hb dX7_bestStop_0 rfl (lv_at hl 1 rfl) ?_
  refine lv_if_lt (tgt := 21) hx hb dX7_bestStop_1 (by decide) (fun c1 => ?_) (fun c1 => ?_)
  · replace h := h.1 c1
    refine lv_bipush hx hb dX7_bestStop_21 kb_m4 ?_
    exact m_iret S hret hlocks hKX hW hbs hS rfl h dX7_bestStop_23
  · replace h := h.2 c1
    refine lv_iload_n hx hb dX7_bestStop_4 rfl (lv_at hl 1 rfl) ?_
    refine lv_aload_n hx hb dX7_bestStop_5 rfl (lv_at hl 0 rfl) ?_
    refine m_geti S hK fk_X7_30 (gi_9_7 G) hW (ci_9 (Nat.le_of_ble_eq_true rfl)) dX7_bestStop_6 ?_
    refine lv_icmp_ge (tgt := 21) hx hb dX7_bestStop_9 (by decide) (fun c9 => ?_) (fun c9 => ?_)
    · replace h := h.1 c9
      refine lv_bipush hx hb dX7_bestStop_21 kb_m4 ?_
      exact m_iret S hret hlocks hKX hW hbs hS rfl h dX7_bestStop_23
    · replace h := h.2 c9
      refine lv_aload_n hx hb dX7_bestStop_12 rfl (lv_at hl 0 rfl) ?_
      refine m_getr S hK fk_X7_9 (gr_9_1 G 0) hW (ci_9 (Nat.le_of_ble_eq_true rfl)) dX7_bestStop_13 ?_
      refine lv_iload_n hx hb dX7_bestStop_16 rfl (lv_at hl 1 rfl) ?_
      obtain ⟨hb17, h⟩ := h
      refine m_ald S hK (ar_41 G) hW (ci_41 (Nat.le_of_ble_eq_true rfl)) hb17 dX7_bestStop_17 ?_
      refine lv_goto (tgt := 23) hx hb dX7_bestStop_18 (by decide) ?_
      exact m_iret S hret hlocks hKX hW hbs hS rfl h dX7_bestStop_23
abbrev rm_X8_come : Room := { frames := 0, cells := 0, slots := 0, locals := 0 }
set_option maxHeartbeats 4000000 in
set_option maxRecDepth 100000 in
theorem c_X8_come (l : Launch) {G : Gn} {M : Mem} {w : Nat} {x1 : Int32} {x2 : Int32} {P : Int32 → Mem → Prop} (hi_w : w < 3) : MQi l yX8_come cX8_come 4 (some .int) rm_X8_come [.ref (ad G 2 w), .int x1, .int x2] G M (s_X8_come w M x1 x2 P) P := by
  refine m_enter (by decide +kernel) (Nat.le_of_ble_eq_true rfl) ?_
  intro p e s m below meth c ls H locs S hret hlocks hname hKX hbs hW hS hl h
  obtain ⟨AV, hAV⟩ : ∃ z : Array Value, z = ([.ref (ad G 2 w), .int x1, .int x2] : List Value).toArray := ⟨_, rfl⟩
  rw [← hAV] at S ⊢
  replace S : CallFix p m c cX8_come 4 s AV lw_G "MilkDesk$Schools" := S
  have hK := hKX.1
  have hx := S.1
  have hb := S.2.1
  have hml := S.2.2.1
  have hown := S.2.2.2.1
  have hts := S.2.2.2.2
  replace hl : lv_has ls 4 [(0, .ref (ad G 2 w)), (1, .int x1), (2, .int x2)] := hl
  unfold s_X8_come at h
  refine lv_aload_n hx hb dX8_come_0 rfl (lv_at hl 0 rfl) ?_
  refine m_geti S hK fk_X8_33 (gi_2_0 G) hW (ci_2 hi_w) dX8_come_1 ?_
  refine lv_topi (fun x3_4 ex3_4 => ?_)
  replace h := h x3_4 ex3_4
  refine lv_istore_n (lv' := [(3, .int x3_4), (0, .ref (ad G 2 w)), (1, .int x1), (2, .int x2)]) hx hb dX8_come_4 rfl hl (by decide) rfl (fun ls hl => ?_)
  refine lv_aload_n hx hb dX8_come_5 rfl (lv_at hl 1 rfl) ?_
  refine m_getr S hK fk_X8_9 (gr_2_1 G w) hW (ci_2 hi_w) dX8_come_6 ?_
  refine lv_iload_n hx hb dX8_come_9 rfl (lv_at hl 0 rfl) ?_
  refine lv_iload_n hx hb dX8_come_10 rfl (lv_at hl 2 rfl) ?_
  obtain ⟨hb11, h⟩ := h
  refine m_ast S hK (ar_15 G) hW hS (ci_15 hi_w) hb11 dX8_come_11 (fun Mm11 eMm11 H locs hW hS => ?_)
  replace h := h Mm11 eMm11
  refine lv_aload_n hx hb dX8_come_12 rfl (lv_at hl 1 rfl) ?_
  refine m_getr S hK fk_X8_15 (gr_2_2 G w) hW (ci_2 hi_w) dX8_come_13 ?_
  refine lv_iload_n hx hb dX8_come_16 rfl (lv_at hl 0 rfl) ?_
  refine lv_iload_n hx hb dX8_come_17 rfl (lv_at hl 3 rfl) ?_
  refine lv_bipush hx hb dX8_come_18 kb_100 ?_
  refine lv_idiv hx hb dX8_come_20 nz_100 ?_
  obtain ⟨hb21, h⟩ := h
  refine m_ast S hK (ar_16 G) hW hS (ci_16 hi_w) hb21 dX8_come_21 (fun Mm21 eMm21 H locs hW hS => ?_)
  replace h := h Mm21 eMm21
  refine lv_aload_n hx hb dX8_come_22 rfl (lv_at hl 1 rfl) ?_
  refine m_getr S hK fk_X8_18 (gr_2_3 G w) hW (ci_2 hi_w) dX8_come_23 ?_
  refine lv_iload_n hx hb dX8_come_26 rfl (lv_at hl 0 rfl) ?_
  refine lv_iload_n hx hb dX8_come_27 rfl (lv_at hl 3 rfl) ?_
  refine lv_bipush hx hb dX8_come_28 kb_100 ?_
  refine lv_irem hx hb dX8_come_30 nz_100 ?_
  obtain ⟨hb31, h⟩ := h
  refine m_ast S hK (ar_17 G) hW hS (ci_17 hi_w) hb31 dX8_come_31 (fun Mm31 eMm31 H locs hW hS => ?_)
  replace h := h Mm31 eMm31
  refine lv_aload_n hx hb dX8_come_32 rfl (lv_at hl 1 rfl) ?_
  refine m_getr S hK fk_X8_27 (gr_2_6 G w) hW (ci_2 hi_w) dX8_come_33 ?_
  refine lv_iload_n hx hb dX8_come_36 rfl (lv_at hl 0 rfl) ?_
  refine lv_sipush hx hb dX8_come_37 ks_660 ?_
  obtain ⟨hb40, h⟩ := h
  refine m_ast S hK (ar_20 G) hW hS (ci_20 hi_w) hb40 dX8_come_40 (fun Mm40 eMm40 H locs hW hS => ?_)
  replace h := h Mm40 eMm40
  refine lv_aload_n hx hb dX8_come_41 rfl (lv_at hl 1 rfl) ?_
  refine lv_dup hx hb dX8_come_42 rfl ?_
  refine m_geti S hK fk_X8_33 (gi_2_0 G) hW (ci_2 hi_w) dX8_come_43 ?_
  refine lv_iconst hx hb dX8_come_46 ki_1 ?_
  refine lv_iadd hx hb dX8_come_47 ?_
  refine m_put S hK fk_X8_33 tyX8_ok nmX8 rfl pf_X8_0 (pv_2_0 G) hW hS (ci_2 hi_w) rfl rfl dX8_come_48 (fun Mm48 eMm48 H locs hW hS => ?_)
  replace h := h Mm48 eMm48
  refine lv_iload_n hx hb dX8_come_51 rfl (lv_at hl 0 rfl) ?_
  exact m_iret S hret hlocks hKX hW hbs hS rfl h dX8_come_52
abbrev rm_X8_addTo : Room := { frames := 0, cells := 0, slots := 0, locals := 0 }
set_option maxHeartbeats 4000000 in
set_option maxRecDepth 100000 in
theorem c_X8_addTo (l : Launch) {G : Gn} {M : Mem} {w : Nat} {x1 : Int32} {x2 : Int32} {x3 : Int32} {P : Mem → Prop} (hi_w : w < 3) : MQv l yX8_addTo cX8_addTo 4 none rm_X8_addTo [.ref (ad G 2 w), .int x1, .int x2, .int x3] G M (s_X8_addTo w M x1 x2 x3 P) P := by
  refine m_enter (by decide +kernel) (Nat.le_of_ble_eq_true rfl) ?_
  intro p e s m below meth c ls H locs S hret hlocks hname hKX hbs hW hS hl h
  obtain ⟨AV, hAV⟩ : ∃ z : Array Value, z = ([.ref (ad G 2 w), .int x1, .int x2, .int x3] : List Value).toArray := ⟨_, rfl⟩
  rw [← hAV] at S ⊢
  replace S : CallFix p m c cX8_addTo 4 s AV lw_G "MilkDesk$Schools" := S
  have hK := hKX.1
  have hx := S.1
  have hb := S.2.1
  have hml := S.2.2.1
  have hown := S.2.2.2.1
  have hts := S.2.2.2.2
  replace hl : lv_has ls 4 [(0, .ref (ad G 2 w)), (1, .int x1), (2, .int x2), (3, .int x3)] := hl
  unfold s_X8_addTo at h
  refine lv_aload_n hx hb dX8_addTo_0 rfl (lv_at hl 0 rfl) ?_
  refine m_getr S hK fk_X8_30 (gr_2_7 G w) hW (ci_2 hi_w) dX8_addTo_1 ?_
  refine lv_iload_n hx hb dX8_addTo_4 rfl (lv_at hl 1 rfl) ?_
  refine lv_bipush hx hb dX8_addTo_5 kb_11 ?_
  refine lv_imul hx hb dX8_addTo_7 ?_
  refine lv_iload_n hx hb dX8_addTo_8 rfl (lv_at hl 2 rfl) ?_
  refine lv_iadd hx hb dX8_addTo_9 ?_
  refine lv_dup2_11 hx hb dX8_addTo_10 rfl rfl ?_
  obtain ⟨hb11, h⟩ := h
  refine m_ald S hK (ar_21 G) hW (ci_21 hi_w) hb11 dX8_addTo_11 ?_
  refine lv_iload_n hx hb dX8_addTo_12 rfl (lv_at hl 3 rfl) ?_
  refine lv_iadd hx hb dX8_addTo_13 ?_
  obtain ⟨hb14, h⟩ := h
  refine m_ast S hK (ar_21 G) hW hS (ci_21 hi_w) hb14 dX8_addTo_14 (fun Mm14 eMm14 H locs hW hS => ?_)
  replace h := h Mm14 eMm14
  exact m_vret S hret hlocks hKX hW hbs hS h dX8_addTo_15
abbrev rm_X8_all : Room := { frames := 0, cells := 0, slots := 0, locals := 0 }
set_option maxHeartbeats 4000000 in
set_option maxRecDepth 100000 in
theorem c_X8_all (l : Launch) {G : Gn} {M : Mem} {w : Nat} {x1 : Int32} {P : Int32 → Mem → Prop} (hi_w : w < 3) : MQi l yX8_all cX8_all 4 (some .int) rm_X8_all [.ref (ad G 2 w), .int x1] G M (s_X8_all w M x1 P) P := by
  refine m_enter (by decide +kernel) (Nat.le_of_ble_eq_true rfl) ?_
  intro p e s m below meth c ls H locs S hret hlocks hname hKX hbs hW hS hl h
  obtain ⟨AV, hAV⟩ : ∃ z : Array Value, z = ([.ref (ad G 2 w), .int x1] : List Value).toArray := ⟨_, rfl⟩
  rw [← hAV] at S ⊢
  replace S : CallFix p m c cX8_all 4 s AV lw_G "MilkDesk$Schools" := S
  have hK := hKX.1
  have hx := S.1
  have hb := S.2.1
  have hml := S.2.2.1
  have hown := S.2.2.2.1
  have hts := S.2.2.2.2
  replace hl : lv_has ls 4 [(0, .ref (ad G 2 w)), (1, .int x1)] := hl
  have w4 : ∀ (n : Nat) (a : Mem × Int32 × Int32), Lz (fun (K4 : Mem × Int32 × Int32 → Prop) (a : Mem × Int32 × Int32) => s_X8_all_4 w x1 P K4 a.1 a.2.1 a.2.2) n a → ∀ (H : Heap) (locs : List Loc) (ls : Array Slot), WPm G a.1 H → va_S (fun q => bs G ≤ q) s.heap H locs → lv_has ls 4 [(0, .ref (ad G 2 w)), (1, .int x1), (2, .int a.2.1), (3, .int a.2.2)] → W p l e rm_X8_all s m AV below meth c H locs 0 0 (MQ below (va_Qi P (WS G) (fun q => bs G ≤ q)) AV s 0 0 (fun q => bs G ≤ q)) (F0 m 4 ls []) := by
    refine Lz_walk ?_
    rintro K4 kk4 ⟨M, x2, x3⟩ h H locs ls hW hS hl
    replace h : s_X8_all_4 w x1 P K4 M x2 x3 := h
    replace hW : WPm G M H := hW
    replace hl : lv_has ls 4 [(0, .ref (ad G 2 w)), (1, .int x1), (2, .int x2), (3, .int x3)] := hl
    unfold s_X8_all_4 at h
    refine lv_iload_n hx hb dX8_all_4 rfl (lv_at hl 3 rfl) ?_
    refine lv_aload_n hx hb dX8_all_5 rfl (lv_at hl 0 rfl) ?_
    refine m_geti S hK fk_X8_33 (gi_2_0 G) hW (ci_2 hi_w) dX8_all_6 ?_
    refine lv_icmp_ge (tgt := 32) hx hb dX8_all_9 (by decide) (fun c9 => ?_) (fun c9 => ?_)
    · replace h := h.1 c9
      refine lv_iload_n hx hb dX8_all_32 rfl (lv_at hl 2 rfl) ?_
      exact m_iret S hret hlocks hKX hW hbs hS rfl h dX8_all_33
    · replace h := h.2 c9
      refine lv_iload_n hx hb dX8_all_12 rfl (lv_at hl 2 rfl) ?_
      refine lv_aload_n hx hb dX8_all_13 rfl (lv_at hl 0 rfl) ?_
      refine m_getr S hK fk_X8_30 (gr_2_7 G w) hW (ci_2 hi_w) dX8_all_14 ?_
      refine lv_iload_n hx hb dX8_all_17 rfl (lv_at hl 3 rfl) ?_
      refine lv_bipush hx hb dX8_all_18 kb_11 ?_
      refine lv_imul hx hb dX8_all_20 ?_
      refine lv_iload_n hx hb dX8_all_21 rfl (lv_at hl 1 rfl) ?_
      refine lv_iadd hx hb dX8_all_22 ?_
      obtain ⟨hb23, h⟩ := h
      refine m_ald S hK (ar_21 G) hW (ci_21 hi_w) hb23 dX8_all_23 ?_
      refine lv_iadd hx hb dX8_all_24 ?_
      refine lv_topi (fun x2_25 ex2_25 => ?_)
      replace h := h x2_25 ex2_25
      refine lv_istore_n (lv' := [(2, .int x2_25), (0, .ref (ad G 2 w)), (1, .int x1), (3, .int x3)]) hx hb dX8_all_25 rfl hl (by decide) rfl (fun ls hl => ?_)
      obtain ⟨x3_26, ex3_26⟩ : ∃ z : Int32, z = x3 + (1 : Int32) := ⟨_, rfl⟩
      replace h := h x3_26 ex3_26
      refine lv_iinc (v := x3_26) (lv' := [(3, .int x3_26), (2, .int x2_25), (0, .ref (ad G 2 w)), (1, .int x1)]) hx hb dX8_all_26 hl (k := 3) rfl (by rw [ex3_26, ki_1]) (by decide) rfl (fun ls hl => ?_)
      refine lv_goto (tgt := 4) hx hb dX8_all_29 (by decide) ?_
      exact kk4 _ h H locs ls hW hS (lv_sub hl [2, 3, 1, 0] rfl)
  unfold s_X8_all at h
  refine lv_iconst hx hb dX8_all_0 ki_0 ?_
  refine lv_istore_n (lv' := [(2, .int (0 : Int32)), (0, .ref (ad G 2 w)), (1, .int x1)]) hx hb dX8_all_1 rfl hl (by decide) rfl (fun ls hl => ?_)
  refine lv_iconst hx hb dX8_all_2 ki_0 ?_
  refine lv_istore_n (lv' := [(3, .int (0 : Int32)), (2, .int (0 : Int32)), (0, .ref (ad G 2 w)), (1, .int x1)]) hx hb dX8_all_3 rfl hl (by decide) rfl (fun ls hl => ?_)
  obtain ⟨n4, h⟩ := h
  exact w4 n4 _ h H locs ls hW hS (lv_sub hl [2, 3, 1, 0] rfl)
abbrev rm_X8_copyFrom : Room := { frames := 2, cells := 0, slots := 0, locals := 85 }
set_option maxHeartbeats 4000000 in
set_option maxRecDepth 100000 in
theorem c_X8_copyFrom (l : Launch) {G : Gn} {M : Mem} {w v : Nat} {P : Mem → Prop} (hi_w : w < 3) (hi_v : v < 3) : MQv l yX8_copyFrom cX8_copyFrom 2 none rm_X8_copyFrom [.ref (ad G 2 w), .ref (ad G 2 v)] G M (s_X8_copyFrom w v M P) P := by
  refine m_enter (by decide +kernel) (Nat.le_of_ble_eq_true rfl) ?_
  intro p e s m below meth c ls H locs S hret hlocks hname hKX hbs hW hS hl h
  obtain ⟨AV, hAV⟩ : ∃ z : Array Value, z = ([.ref (ad G 2 w), .ref (ad G 2 v)] : List Value).toArray := ⟨_, rfl⟩
  rw [← hAV] at S ⊢
  replace S : CallFix p m c cX8_copyFrom 2 s AV lw_G "MilkDesk$Schools" := S
  have hK := hKX.1
  have hx := S.1
  have hb := S.2.1
  have hml := S.2.2.1
  have hown := S.2.2.2.1
  have hts := S.2.2.2.2
  replace hl : lv_has ls 2 [(0, .ref (ad G 2 w)), (1, .ref (ad G 2 v))] := hl
  unfold s_X8_copyFrom at h
  refine lv_aload_n hx hb dX8_copyFrom_0 rfl (lv_at hl 0 rfl) ?_
  refine lv_aload_n hx hb dX8_copyFrom_1 rfl (lv_at hl 1 rfl) ?_
  refine m_geti S hK fk_X8_33 (gi_2_0 G) hW (ci_2 hi_v) dX8_copyFrom_2 ?_
  refine m_put S hK fk_X8_33 tyX8_ok nmX8 rfl pf_X8_0 (pv_2_0 G) hW hS (ci_2 hi_w) rfl rfl dX8_copyFrom_5 (fun Mm5 eMm5 H locs hW hS => ?_)
  replace h := h Mm5 eMm5
  refine lv_aload_n hx hb dX8_copyFrom_8 rfl (lv_at hl 1 rfl) ?_
  refine m_getr S hK fk_X8_9 (gr_2_1 G v) hW (ci_2 hi_v) dX8_copyFrom_9 ?_
  refine lv_aload_n hx hb dX8_copyFrom_12 rfl (lv_at hl 0 rfl) ?_
  refine m_getr S hK fk_X8_9 (gr_2_1 G w) hW (ci_2 hi_w) dX8_copyFrom_13 ?_
  refine m_cv0 (m_rN S hKX hW (m_szH hbs hS) (c_X11_copyAll l (ar_15 G) (ar_15 G) (ci_15 hi_v) (ci_15 hi_w) (Nat.le_of_ble_eq_true rfl)) h lk_X8_37 rfl hl.1 rfl ⟨Nat.le_of_ble_eq_true rfl, Nat.le_of_ble_eq_true rfl⟩ (Nat.le_of_ble_eq_true rfl) ⟨Nat.le_of_ble_eq_true rfl, Nat.le_of_ble_eq_true rfl⟩ dX8_copyFrom_16) hS rfl rfl (fun Mm16 H locs h hW hS => ?_)
  refine lv_aload_n hx hb dX8_copyFrom_19 rfl (lv_at hl 1 rfl) ?_
  refine m_getr S hK fk_X8_15 (gr_2_2 G v) hW (ci_2 hi_v) dX8_copyFrom_20 ?_
  refine lv_aload_n hx hb dX8_copyFrom_23 rfl (lv_at hl 0 rfl) ?_
  refine m_getr S hK fk_X8_15 (gr_2_2 G w) hW (ci_2 hi_w) dX8_copyFrom_24 ?_
  refine m_cv0 (m_rN S hKX hW (m_szH hbs hS) (c_X11_copyAll l (ar_16 G) (ar_16 G) (ci_16 hi_v) (ci_16 hi_w) (Nat.le_of_ble_eq_true rfl)) h lk_X8_37 rfl hl.1 rfl ⟨Nat.le_of_ble_eq_true rfl, Nat.le_of_ble_eq_true rfl⟩ (Nat.le_of_ble_eq_true rfl) ⟨Nat.le_of_ble_eq_true rfl, Nat.le_of_ble_eq_true rfl⟩ dX8_copyFrom_27) hS rfl rfl (fun Mm27 H locs h hW hS => ?_)
  refine lv_aload_n hx hb dX8_copyFrom_30 rfl (lv_at hl 1 rfl) ?_
  refine m_getr S hK fk_X8_18 (gr_2_3 G v) hW (ci_2 hi_v) dX8_copyFrom_31 ?_
  refine lv_aload_n hx hb dX8_copyFrom_34 rfl (lv_at hl 0 rfl) ?_
  refine m_getr S hK fk_X8_18 (gr_2_3 G w) hW (ci_2 hi_w) dX8_copyFrom_35 ?_
  refine m_cv0 (m_rN S hKX hW (m_szH hbs hS) (c_X11_copyAll l (ar_17 G) (ar_17 G) (ci_17 hi_v) (ci_17 hi_w) (Nat.le_of_ble_eq_true rfl)) h lk_X8_37 rfl hl.1 rfl ⟨Nat.le_of_ble_eq_true rfl, Nat.le_of_ble_eq_true rfl⟩ (Nat.le_of_ble_eq_true rfl) ⟨Nat.le_of_ble_eq_true rfl, Nat.le_of_ble_eq_true rfl⟩ dX8_copyFrom_38) hS rfl rfl (fun Mm38 H locs h hW hS => ?_)
  refine lv_aload_n hx hb dX8_copyFrom_41 rfl (lv_at hl 1 rfl) ?_
  refine m_getr S hK fk_X8_21 (gr_2_4 G v) hW (ci_2 hi_v) dX8_copyFrom_42 ?_
  refine lv_aload_n hx hb dX8_copyFrom_45 rfl (lv_at hl 0 rfl) ?_
  refine m_getr S hK fk_X8_21 (gr_2_4 G w) hW (ci_2 hi_w) dX8_copyFrom_46 ?_
  refine m_cv0 (m_rN S hKX hW (m_szH hbs hS) (c_X11_copyAll l (ar_18 G) (ar_18 G) (ci_18 hi_v) (ci_18 hi_w) (Nat.le_of_ble_eq_true rfl)) h lk_X8_37 rfl hl.1 rfl ⟨Nat.le_of_ble_eq_true rfl, Nat.le_of_ble_eq_true rfl⟩ (Nat.le_of_ble_eq_true rfl) ⟨Nat.le_of_ble_eq_true rfl, Nat.le_of_ble_eq_true rfl⟩ dX8_copyFrom_49) hS rfl rfl (fun Mm49 H locs h hW hS => ?_)
  refine lv_aload_n hx hb dX8_copyFrom_52 rfl (lv_at hl 1 rfl) ?_
  refine m_getr S hK fk_X8_24 (gr_2_5 G v) hW (ci_2 hi_v) dX8_copyFrom_53 ?_
  refine lv_aload_n hx hb dX8_copyFrom_56 rfl (lv_at hl 0 rfl) ?_
  refine m_getr S hK fk_X8_24 (gr_2_5 G w) hW (ci_2 hi_w) dX8_copyFrom_57 ?_
  refine m_cv0 (m_rN S hKX hW (m_szH hbs hS) (c_X11_copyAll l (ar_19 G) (ar_19 G) (ci_19 hi_v) (ci_19 hi_w) (Nat.le_of_ble_eq_true rfl)) h lk_X8_37 rfl hl.1 rfl ⟨Nat.le_of_ble_eq_true rfl, Nat.le_of_ble_eq_true rfl⟩ (Nat.le_of_ble_eq_true rfl) ⟨Nat.le_of_ble_eq_true rfl, Nat.le_of_ble_eq_true rfl⟩ dX8_copyFrom_60) hS rfl rfl (fun Mm60 H locs h hW hS => ?_)
  refine lv_aload_n hx hb dX8_copyFrom_63 rfl (lv_at hl 1 rfl) ?_
  refine m_getr S hK fk_X8_27 (gr_2_6 G v) hW (ci_2 hi_v) dX8_copyFrom_64 ?_
  refine lv_aload_n hx hb dX8_copyFrom_67 rfl (lv_at hl 0 rfl) ?_
  refine m_getr S hK fk_X8_27 (gr_2_6 G w) hW (ci_2 hi_w) dX8_copyFrom_68 ?_
  refine m_cv0 (m_rN S hKX hW (m_szH hbs hS) (c_X11_copyAll l (ar_20 G) (ar_20 G) (ci_20 hi_v) (ci_20 hi_w) (Nat.le_of_ble_eq_true rfl)) h lk_X8_37 rfl hl.1 rfl ⟨Nat.le_of_ble_eq_true rfl, Nat.le_of_ble_eq_true rfl⟩ (Nat.le_of_ble_eq_true rfl) ⟨Nat.le_of_ble_eq_true rfl, Nat.le_of_ble_eq_true rfl⟩ dX8_copyFrom_71) hS rfl rfl (fun Mm71 H locs h hW hS => ?_)
  refine lv_aload_n hx hb dX8_copyFrom_74 rfl (lv_at hl 1 rfl) ?_
  refine m_getr S hK fk_X8_30 (gr_2_7 G v) hW (ci_2 hi_v) dX8_copyFrom_75 ?_
  refine lv_aload_n hx hb dX8_copyFrom_78 rfl (lv_at hl 0 rfl) ?_
  refine m_getr S hK fk_X8_30 (gr_2_7 G w) hW (ci_2 hi_w) dX8_copyFrom_79 ?_
  refine m_cv0 (m_rN S hKX hW (m_szH hbs hS) (c_X11_copyAll l (ar_21 G) (ar_21 G) (ci_21 hi_v) (ci_21 hi_w) (Nat.le_of_ble_eq_true rfl)) h lk_X8_37 rfl hl.1 rfl ⟨Nat.le_of_ble_eq_true rfl, Nat.le_of_ble_eq_true rfl⟩ (Nat.le_of_ble_eq_true rfl) ⟨Nat.le_of_ble_eq_true rfl, Nat.le_of_ble_eq_true rfl⟩ dX8_copyFrom_82) hS rfl rfl (fun Mm82 H locs h hW hS => ?_)
  exact m_vret S hret hlocks hKX hW hbs hS h dX8_copyFrom_85
abbrev rm_X9_isEmpty : Room := { frames := 0, cells := 0, slots := 0, locals := 0 }
set_option maxHeartbeats 4000000 in
set_option maxRecDepth 100000 in
theorem c_X9_isEmpty (l : Launch) {G : Gn} {M : Mem} {d : Nat} {P : Int32 → Mem → Prop} (hi_d : d < 8) : MQi l yX9_isEmpty cX9_isEmpty 1 (some .boolean) rm_X9_isEmpty [.ref (ad G 7 d)] G M (s_X9_isEmpty d M P) P := by
  refine m_enter (by decide +kernel) (Nat.le_of_ble_eq_true rfl) ?_
  intro p e s m below meth c ls H locs S hret hlocks hname hKX hbs hW hS hl h
  obtain ⟨AV, hAV⟩ : ∃ z : Array Value, z = ([.ref (ad G 7 d)] : List Value).toArray := ⟨_, rfl⟩
  rw [← hAV] at S ⊢
  replace S : CallFix p m c cX9_isEmpty 1 s AV lw_G "MilkDesk$Shelf" := S
  have hK := hKX.1
  have hx := S.1
  have hb := S.2.1
  have hml := S.2.2.1
  have hown := S.2.2.2.1
  have hts := S.2.2.2.2
  replace hl : lv_has ls 1 [(0, .ref (ad G 7 d))] := hl
  unfold s_X9_isEmpty at h
  refine lv_aload_n hx hb dX9_isEmpty_0 rfl (lv_at hl 0 rfl) ?_
  refine m_geti S hK fk_X9_15 (gi_7_0 G) hW (ci_7 hi_d) dX9_isEmpty_1 ?_
  refine lv_if_ne (tgt := 11) hx hb dX9_isEmpty_4 (by decide) (fun c4 => ?_) (fun c4 => ?_)
  · replace h := h.1 c4
    refine lv_iconst hx hb dX9_isEmpty_11 ki_0 ?_
    exact m_iret S hret hlocks hKX hW hbs hS rfl h dX9_isEmpty_12
  · replace h := h.2 c4
    refine lv_iconst hx hb dX9_isEmpty_7 ki_1 ?_
    refine lv_goto (tgt := 12) hx hb dX9_isEmpty_8 (by decide) ?_
    exact m_iret S hret hlocks hKX hW hbs hS rfl h dX9_isEmpty_12
abbrev rm_X9_isRow : Room := { frames := 0, cells := 0, slots := 0, locals := 0 }
set_option maxHeartbeats 4000000 in
set_option maxRecDepth 100000 in
theorem c_X9_isRow (l : Launch) {G : Gn} {M : Mem} {d : Nat} {P : Int32 → Mem → Prop} (hi_d : d < 8) : MQi l yX9_isRow cX9_isRow 1 (some .boolean) rm_X9_isRow [.ref (ad G 7 d)] G M (s_X9_isRow d M P) P := by
  refine m_enter (by decide +kernel) (Nat.le_of_ble_eq_true rfl) ?_
  intro p e s m below meth c ls H locs S hret hlocks hname hKX hbs hW hS hl h
  obtain ⟨AV, hAV⟩ : ∃ z : Array Value, z = ([.ref (ad G 7 d)] : List Value).toArray := ⟨_, rfl⟩
  rw [← hAV] at S ⊢
  replace S : CallFix p m c cX9_isRow 1 s AV lw_G "MilkDesk$Shelf" := S
  have hK := hKX.1
  have hx := S.1
  have hb := S.2.1
  have hml := S.2.2.1
  have hown := S.2.2.2.1
  have hts := S.2.2.2.2
  replace hl : lv_has ls 1 [(0, .ref (ad G 7 d))] := hl
  unfold s_X9_isRow at h
  refine lv_aload_n hx hb dX9_isRow_0 rfl (lv_at hl 0 rfl) ?_
  refine m_geti S hK fk_X9_15 (gi_7_0 G) hW (ci_7 hi_d) dX9_isRow_1 ?_
  refine lv_iconst hx hb dX9_isRow_4 ki_2 ?_
  refine lv_icmp_ne (tgt := 12) hx hb dX9_isRow_5 (by decide) (fun c5 => ?_) (fun c5 => ?_)
  · replace h := h.1 c5
    refine lv_iconst hx hb dX9_isRow_12 ki_0 ?_
    exact m_iret S hret hlocks hKX hW hbs hS rfl h dX9_isRow_13
  · replace h := h.2 c5
    refine lv_iconst hx hb dX9_isRow_8 ki_1 ?_
    refine lv_goto (tgt := 13) hx hb dX9_isRow_9 (by decide) ?_
    exact m_iret S hret hlocks hKX hW hbs hS rfl h dX9_isRow_13
abbrev rm_X9_clear : Room := { frames := 0, cells := 0, slots := 0, locals := 0 }
set_option maxHeartbeats 4000000 in
set_option maxRecDepth 100000 in
theorem c_X9_clear (l : Launch) {G : Gn} {M : Mem} {d : Nat} {P : Mem → Prop} (hi_d : d < 8) : MQv l yX9_clear cX9_clear 1 none rm_X9_clear [.ref (ad G 7 d)] G M (s_X9_clear d M P) P := by
  refine m_enter (by decide +kernel) (Nat.le_of_ble_eq_true rfl) ?_
  intro p e s m below meth c ls H locs S hret hlocks hname hKX hbs hW hS hl h
  obtain ⟨AV, hAV⟩ : ∃ z : Array Value, z = ([.ref (ad G 7 d)] : List Value).toArray := ⟨_, rfl⟩
  rw [← hAV] at S ⊢
  replace S : CallFix p m c cX9_clear 1 s AV lw_G "MilkDesk$Shelf" := S
  have hK := hKX.1
  have hx := S.1
  have hb := S.2.1
  have hml := S.2.2.1
  have hown := S.2.2.2.1
  have hts := S.2.2.2.2
  replace hl : lv_has ls 1 [(0, .ref (ad G 7 d))] := hl
  unfold s_X9_clear at h
  refine lv_aload_n hx hb dX9_clear_0 rfl (lv_at hl 0 rfl) ?_
  refine lv_iconst hx hb dX9_clear_1 ki_0 ?_
  refine m_put S hK fk_X9_15 tyX9_ok nmX9 rfl pf_X9_0 (pv_7_0 G) hW hS (ci_7 hi_d) rfl rfl dX9_clear_2 (fun Mm2 eMm2 H locs hW hS => ?_)
  replace h := h Mm2 eMm2
  exact m_vret S hret hlocks hKX hW hbs hS h dX9_clear_5
abbrev rm_X9_holdCrate : Room := { frames := 0, cells := 0, slots := 0, locals := 0 }
set_option maxHeartbeats 4000000 in
set_option maxRecDepth 100000 in
theorem c_X9_holdCrate (l : Launch) {G : Gn} {M : Mem} {d : Nat} {x1 : Int32} {x2 : Int32} {x3 : Int32} {P : Mem → Prop} (hi_d : d < 8) : MQv l yX9_holdCrate cX9_holdCrate 4 none rm_X9_holdCrate [.ref (ad G 7 d), .int x1, .int x2, .int x3] G M (s_X9_holdCrate d M x1 x2 x3 P) P := by
  refine m_enter (by decide +kernel) (Nat.le_of_ble_eq_true rfl) ?_
  intro p e s m below meth c ls H locs S hret hlocks hname hKX hbs hW hS hl h
  obtain ⟨AV, hAV⟩ : ∃ z : Array Value, z = ([.ref (ad G 7 d), .int x1, .int x2, .int x3] : List Value).toArray := ⟨_, rfl⟩
  rw [← hAV] at S ⊢
  replace S : CallFix p m c cX9_holdCrate 4 s AV lw_G "MilkDesk$Shelf" := S
  have hK := hKX.1
  have hx := S.1
  have hb := S.2.1
  have hml := S.2.2.1
  have hown := S.2.2.2.1
  have hts := S.2.2.2.2
  replace hl : lv_has ls 4 [(0, .ref (ad G 7 d)), (1, .int x1), (2, .int x2), (3, .int x3)] := hl
  unfold s_X9_holdCrate at h
  refine lv_aload_n hx hb dX9_holdCrate_0 rfl (lv_at hl 0 rfl) ?_
  refine lv_iconst hx hb dX9_holdCrate_1 ki_1 ?_
  refine m_put S hK fk_X9_15 tyX9_ok nmX9 rfl pf_X9_0 (pv_7_0 G) hW hS (ci_7 hi_d) rfl rfl dX9_holdCrate_2 (fun Mm2 eMm2 H locs hW hS => ?_)
  replace h := h Mm2 eMm2
  refine lv_aload_n hx hb dX9_holdCrate_5 rfl (lv_at hl 0 rfl) ?_
  refine lv_iload_n hx hb dX9_holdCrate_6 rfl (lv_at hl 1 rfl) ?_
  refine m_put S hK fk_X9_19 tyX9_ok nmX9 rfl pf_X9_1 (pv_7_1 G) hW hS (ci_7 hi_d) rfl rfl dX9_holdCrate_7 (fun Mm7 eMm7 H locs hW hS => ?_)
  replace h := h Mm7 eMm7
  refine lv_aload_n hx hb dX9_holdCrate_10 rfl (lv_at hl 0 rfl) ?_
  refine lv_iload_n hx hb dX9_holdCrate_11 rfl (lv_at hl 2 rfl) ?_
  refine m_put S hK fk_X9_22 tyX9_ok nmX9 rfl pf_X9_2 (pv_7_2 G) hW hS (ci_7 hi_d) rfl rfl dX9_holdCrate_12 (fun Mm12 eMm12 H locs hW hS => ?_)
  replace h := h Mm12 eMm12
  refine lv_aload_n hx hb dX9_holdCrate_15 rfl (lv_at hl 0 rfl) ?_
  refine lv_iload_n hx hb dX9_holdCrate_16 rfl (lv_at hl 3 rfl) ?_
  refine m_put S hK fk_X9_25 tyX9_ok nmX9 rfl pf_X9_3 (pv_7_3 G) hW hS (ci_7 hi_d) rfl rfl dX9_holdCrate_17 (fun Mm17 eMm17 H locs hW hS => ?_)
  replace h := h Mm17 eMm17
  exact m_vret S hret hlocks hKX hW hbs hS h dX9_holdCrate_20
abbrev rm_X9_holdRow : Room := { frames := 0, cells := 0, slots := 0, locals := 0 }
set_option maxHeartbeats 4000000 in
set_option maxRecDepth 100000 in
theorem c_X9_holdRow (l : Launch) {G : Gn} {M : Mem} {d : Nat} {x1 : Int32} {x2 : Int32} {P : Mem → Prop} (hi_d : d < 8) : MQv l yX9_holdRow cX9_holdRow 4 none rm_X9_holdRow [.ref (ad G 7 d), .int x1, .int x2] G M (s_X9_holdRow d M x1 x2 P) P := by
  refine m_enter (by decide +kernel) (Nat.le_of_ble_eq_true rfl) ?_
  intro p e s m below meth c ls H locs S hret hlocks hname hKX hbs hW hS hl h
  obtain ⟨AV, hAV⟩ : ∃ z : Array Value, z = ([.ref (ad G 7 d), .int x1, .int x2] : List Value).toArray := ⟨_, rfl⟩
  rw [← hAV] at S ⊢
  replace S : CallFix p m c cX9_holdRow 4 s AV lw_G "MilkDesk$Shelf" := S
  have hK := hKX.1
  have hx := S.1
  have hb := S.2.1
  have hml := S.2.2.1
  have hown := S.2.2.2.1
  have hts := S.2.2.2.2
  replace hl : lv_has ls 4 [(0, .ref (ad G 7 d)), (1, .int x1), (2, .int x2)] := hl
  have w17 : ∀ (n : Nat) (a : Mem × Int32), Lz (fun (K17 : Mem × Int32 → Prop) (a : Mem × Int32) => s_X9_holdRow_17 d P K17 a.1 a.2) n a → ∀ (H : Heap) (locs : List Loc) (ls : Array Slot), WPm G a.1 H → va_S (fun q => bs G ≤ q) s.heap H locs → lv_has ls 4 [(0, .ref (ad G 7 d)), (3, .int a.2)] → W p l e rm_X9_holdRow s m AV below meth c H locs 0 0 (MQ below (va_Qv P (WS G) (fun q => bs G ≤ q)) AV s 0 0 (fun q => bs G ≤ q)) (F0 m 17 ls []) := by
    refine Lz_walk ?_
    rintro K17 kk17 ⟨M, x3⟩ h H locs ls hW hS hl
    replace h : s_X9_holdRow_17 d P K17 M x3 := h
    replace hW : WPm G M H := hW
    replace hl : lv_has ls 4 [(0, .ref (ad G 7 d)), (3, .int x3)] := hl
    unfold s_X9_holdRow_17 at h
    refine lv_iload_n hx hb dX9_holdRow_17 rfl (lv_at hl 1 rfl) ?_
    refine lv_aload_n hx hb dX9_holdRow_18 rfl (lv_at hl 0 rfl) ?_
    refine m_getr S hK fk_X9_9 (gr_7_6 G d) hW (ci_7 hi_d) dX9_holdRow_19 ?_
    refine m_alen S hK (ar_39 G) hW (ci_39 hi_d) al_80 dX9_holdRow_22 ?_
    refine lv_icmp_ge (tgt := 39) hx hb dX9_holdRow_23 (by decide) (fun c23 => ?_) (fun c23 => ?_)
    · replace h := h.1 c23
      exact m_vret S hret hlocks hKX hW hbs hS h dX9_holdRow_39
    · replace h := h.2 c23
      refine lv_aload_n hx hb dX9_holdRow_26 rfl (lv_at hl 0 rfl) ?_
      refine m_getr S hK fk_X9_9 (gr_7_6 G d) hW (ci_7 hi_d) dX9_holdRow_27 ?_
      refine lv_iload_n hx hb dX9_holdRow_30 rfl (lv_at hl 1 rfl) ?_
      refine lv_iconst hx hb dX9_holdRow_31 ki_0 ?_
      obtain ⟨hb32, h⟩ := h
      refine m_ast S hK (ar_39 G) hW hS (ci_39 hi_d) hb32 dX9_holdRow_32 (fun Mm32 eMm32 H locs hW hS => ?_)
      replace h := h Mm32 eMm32
      obtain ⟨x3_33, ex3_33⟩ : ∃ z : Int32, z = x3 + (1 : Int32) := ⟨_, rfl⟩
      replace h := h x3_33 ex3_33
      refine lv_iinc (v := x3_33) (lv' := [(3, .int x3_33), (0, .ref (ad G 7 d))]) hx hb dX9_holdRow_33 hl (k := 1) rfl (by rw [ex3_33, ki_1]) (by decide) rfl (fun ls hl => ?_)
      refine lv_goto (tgt := 17) hx hb dX9_holdRow_36 (by decide) ?_
      exact kk17 _ h H locs ls hW hS (lv_sub hl [1, 0] rfl)
  unfold s_X9_holdRow at h
  refine lv_aload_n hx hb dX9_holdRow_0 rfl (lv_at hl 0 rfl) ?_
  refine lv_iconst hx hb dX9_holdRow_1 ki_2 ?_
  refine m_put S hK fk_X9_15 tyX9_ok nmX9 rfl pf_X9_0 (pv_7_0 G) hW hS (ci_7 hi_d) rfl rfl dX9_holdRow_2 (fun Mm2 eMm2 H locs hW hS => ?_)
  replace h := h Mm2 eMm2
  refine lv_aload_n hx hb dX9_holdRow_5 rfl (lv_at hl 0 rfl) ?_
  refine lv_iload_n hx hb dX9_holdRow_6 rfl (lv_at hl 1 rfl) ?_
  refine m_put S hK fk_X9_28 tyX9_ok nmX9 rfl pf_X9_4 (pv_7_4 G) hW hS (ci_7 hi_d) rfl rfl dX9_holdRow_7 (fun Mm7 eMm7 H locs hW hS => ?_)
  replace h := h Mm7 eMm7
  refine lv_aload_n hx hb dX9_holdRow_10 rfl (lv_at hl 0 rfl) ?_
  refine lv_iload_n hx hb dX9_holdRow_11 rfl (lv_at hl 2 rfl) ?_
  refine m_put S hK fk_X9_31 tyX9_ok nmX9 rfl pf_X9_5 (pv_7_5 G) hW hS (ci_7 hi_d) rfl rfl dX9_holdRow_12 (fun Mm12 eMm12 H locs hW hS => ?_)
  replace h := h Mm12 eMm12
  refine lv_iconst hx hb dX9_holdRow_15 ki_0 ?_
  refine lv_istore_n (lv' := [(3, .int (0 : Int32)), (0, .ref (ad G 7 d)), (1, .int x1), (2, .int x2)]) hx hb dX9_holdRow_16 rfl hl (by decide) rfl (fun ls hl => ?_)
  obtain ⟨n17, h⟩ := h
  exact w17 n17 _ h H locs ls hW hS (lv_sub hl [1, 0] rfl)
abbrev rm_X9_hasPlace : Room := { frames := 0, cells := 0, slots := 0, locals := 0 }
set_option maxHeartbeats 4000000 in
set_option maxRecDepth 100000 in
theorem c_X9_hasPlace (l : Launch) {G : Gn} {M : Mem} {d : Nat} {x1 : Int32} {P : Int32 → Mem → Prop} (hi_d : d < 8) : MQi l yX9_hasPlace cX9_hasPlace 2 (some .boolean) rm_X9_hasPlace [.ref (ad G 7 d), .int x1] G M (s_X9_hasPlace d M x1 P) P := by
  refine m_enter (by decide +kernel) (Nat.le_of_ble_eq_true rfl) ?_
  intro p e s m below meth c ls H locs S hret hlocks hname hKX hbs hW hS hl h
  obtain ⟨AV, hAV⟩ : ∃ z : Array Value, z = ([.ref (ad G 7 d), .int x1] : List Value).toArray := ⟨_, rfl⟩
  rw [← hAV] at S ⊢
  replace S : CallFix p m c cX9_hasPlace 2 s AV lw_G "MilkDesk$Shelf" := S
  have hK := hKX.1
  have hx := S.1
  have hb := S.2.1
  have hml := S.2.2.1
  have hown := S.2.2.2.1
  have hts := S.2.2.2.2
  replace hl : lv_has ls 2 [(0, .ref (ad G 7 d)), (1, .int x1)] := hl
  unfold s_X9_hasPlace at h
  refine lv_iload_n hx hb dX9_hasPlace_0 rfl (lv_at hl 1 rfl) ?_
  refine lv_if_lt (tgt := 16) hx hb dX9_hasPlace_1 (by decide) (fun c1 => ?_) (fun c1 => ?_)
  · replace h := h.1 c1
    refine lv_iconst hx hb dX9_hasPlace_16 ki_0 ?_
    exact m_iret S hret hlocks hKX hW hbs hS rfl h dX9_hasPlace_17
  · replace h := h.2 c1
    refine lv_iload_n hx hb dX9_hasPlace_4 rfl (lv_at hl 1 rfl) ?_
    refine lv_aload_n hx hb dX9_hasPlace_5 rfl (lv_at hl 0 rfl) ?_
    refine m_geti S hK fk_X9_31 (gi_7_5 G) hW (ci_7 hi_d) dX9_hasPlace_6 ?_
    refine lv_icmp_ge (tgt := 16) hx hb dX9_hasPlace_9 (by decide) (fun c9 => ?_) (fun c9 => ?_)
    · replace h := h.1 c9
      refine lv_iconst hx hb dX9_hasPlace_16 ki_0 ?_
      exact m_iret S hret hlocks hKX hW hbs hS rfl h dX9_hasPlace_17
    · replace h := h.2 c9
      refine lv_iconst hx hb dX9_hasPlace_12 ki_1 ?_
      refine lv_goto (tgt := 17) hx hb dX9_hasPlace_13 (by decide) ?_
      exact m_iret S hret hlocks hKX hW hbs hS rfl h dX9_hasPlace_17
abbrev rm_X9_hasPlaces : Room := { frames := 0, cells := 0, slots := 0, locals := 0 }
set_option maxHeartbeats 4000000 in
set_option maxRecDepth 100000 in
theorem c_X9_hasPlaces (l : Launch) {G : Gn} {M : Mem} {d : Nat} {x1 : Int32} {x2 : Int32} {P : Int32 → Mem → Prop} (hi_d : d < 8) : MQi l yX9_hasPlaces cX9_hasPlaces 3 (some .boolean) rm_X9_hasPlaces [.ref (ad G 7 d), .int x1, .int x2] G M (s_X9_hasPlaces d M x1 x2 P) P := by
  refine m_enter (by decide +kernel) (Nat.le_of_ble_eq_true rfl) ?_
  intro p e s m below meth c ls H locs S hret hlocks hname hKX hbs hW hS hl h
  obtain ⟨AV, hAV⟩ : ∃ z : Array Value, z = ([.ref (ad G 7 d), .int x1, .int x2] : List Value).toArray := ⟨_, rfl⟩
  rw [← hAV] at S ⊢
  replace S : CallFix p m c cX9_hasPlaces 3 s AV lw_G "MilkDesk$Shelf" := S
  have hK := hKX.1
  have hx := S.1
  have hb := S.2.1
  have hml := S.2.2.1
  have hown := S.2.2.2.1
  have hts := S.2.2.2.2
  replace hl : lv_has ls 3 [(0, .ref (ad G 7 d)), (1, .int x1), (2, .int x2)] := hl
  unfold s_X9_hasPlaces at h
  refine lv_iload_n hx hb dX9_hasPlaces_0 rfl (lv_at hl 1 rfl) ?_
  refine lv_if_lt (tgt := 26) hx hb dX9_hasPlaces_1 (by decide) (fun c1 => ?_) (fun c1 => ?_)
  · replace h := h.1 c1
    refine lv_iconst hx hb dX9_hasPlaces_26 ki_0 ?_
    exact m_iret S hret hlocks hKX hW hbs hS rfl h dX9_hasPlaces_27
  · replace h := h.2 c1
    refine lv_iload_n hx hb dX9_hasPlaces_4 rfl (lv_at hl 2 rfl) ?_
    refine lv_if_lt (tgt := 26) hx hb dX9_hasPlaces_5 (by decide) (fun c5 => ?_) (fun c5 => ?_)
    · replace h := h.1 c5
      refine lv_iconst hx hb dX9_hasPlaces_26 ki_0 ?_
      exact m_iret S hret hlocks hKX hW hbs hS rfl h dX9_hasPlaces_27
    · replace h := h.2 c5
      refine lv_iload_n hx hb dX9_hasPlaces_8 rfl (lv_at hl 1 rfl) ?_
      refine lv_i2l hx hb dX9_hasPlaces_9 rfl ?_
      refine lv_iload_n hx hb dX9_hasPlaces_10 rfl (lv_at hl 2 rfl) ?_
      refine lv_i2l hx hb dX9_hasPlaces_11 rfl ?_
      refine lv_ladd hx hb dX9_hasPlaces_12 ?_
      refine lv_aload_n hx hb dX9_hasPlaces_13 rfl (lv_at hl 0 rfl) ?_
      refine m_geti S hK fk_X9_31 (gi_7_5 G) hW (ci_7 hi_d) dX9_hasPlaces_14 ?_
      refine lv_i2l hx hb dX9_hasPlaces_17 rfl ?_
      refine W.lcmp hx hb dX9_hasPlaces_18 ?_
      refine lv_if_gt (tgt := 26) hx hb dX9_hasPlaces_19 (by decide) (fun c19 => ?_) (fun c19 => ?_)
      · replace h := h.1 c19
        refine lv_iconst hx hb dX9_hasPlaces_26 ki_0 ?_
        exact m_iret S hret hlocks hKX hW hbs hS rfl h dX9_hasPlaces_27
      · replace h := h.2 c19
        refine lv_iconst hx hb dX9_hasPlaces_22 ki_1 ?_
        refine lv_goto (tgt := 27) hx hb dX9_hasPlaces_23 (by decide) ?_
        exact m_iret S hret hlocks hKX hW hbs hS rfl h dX9_hasPlaces_27
abbrev rm_X9_isAt : Room := { frames := 1, cells := 0, slots := 0, locals := 21 }
set_option maxHeartbeats 4000000 in
set_option maxRecDepth 100000 in
theorem c_X9_isAt (l : Launch) {G : Gn} {M : Mem} {d : Nat} {x1 : Int32} {x2 : Int32} {P : Int32 → Mem → Prop} (hi_d : d < 8) : MQi l yX9_isAt cX9_isAt 3 (some .boolean) rm_X9_isAt [.ref (ad G 7 d), .int x1, .int x2] G M (s_X9_isAt d M x1 x2 P) P := by
  refine m_enter (by decide +kernel) (Nat.le_of_ble_eq_true rfl) ?_
  intro p e s m below meth c ls H locs S hret hlocks hname hKX hbs hW hS hl h
  obtain ⟨AV, hAV⟩ : ∃ z : Array Value, z = ([.ref (ad G 7 d), .int x1, .int x2] : List Value).toArray := ⟨_, rfl⟩
  rw [← hAV] at S ⊢
  replace S : CallFix p m c cX9_isAt 3 s AV lw_G "MilkDesk$Shelf" := S
  have hK := hKX.1
  have hx := S.1
  have hb := S.2.1
  have hml := S.2.2.1
  have hown := S.2.2.2.1
  have hts := S.2.2.2.2
  replace hl : lv_has ls 3 [(0, .ref (ad G 7 d)), (1, .int x1), (2, .int x2)] := hl
  unfold s_X9_isAt at h
  refine lv_aload_n hx hb dX9_isAt_0 rfl (lv_at hl 0 rfl) ?_
  refine lv_iload_n hx hb dX9_isAt_1 rfl (lv_at hl 1 rfl) ?_
  refine m_ci0 (m_rV S hKX hW (m_szH hbs hS) (c_X9_hasPlace l hi_d) h lk_X9_34 (m_recv hK hW (ci_7 hi_d) (rc_7 G) rfl) rfl hl.1 rfl ⟨Nat.le_of_ble_eq_true rfl, Nat.le_of_ble_eq_true rfl⟩ (Nat.le_of_ble_eq_true rfl) ⟨Nat.le_of_ble_eq_true rfl, Nat.le_of_ble_eq_true rfl⟩ dX9_isAt_2) hS rfl rfl (fun rr2 Mm2 H locs h hW hS => ?_)
  refine lv_if_eq (tgt := 22) hx hb dX9_isAt_5 (by decide) (fun c5 => ?_) (fun c5 => ?_)
  · replace h := h.1 c5
    refine lv_iconst hx hb dX9_isAt_22 ki_0 ?_
    exact m_iret S hret hlocks hKX hW hbs hS rfl h dX9_isAt_23
  · replace h := h.2 c5
    refine lv_aload_n hx hb dX9_isAt_8 rfl (lv_at hl 0 rfl) ?_
    refine m_getr S hK fk_X9_9 (gr_7_6 G d) hW (ci_7 hi_d) dX9_isAt_9 ?_
    refine lv_iload_n hx hb dX9_isAt_12 rfl (lv_at hl 1 rfl) ?_
    obtain ⟨hb13, h⟩ := h
    refine m_ald S hK (ar_39 G) hW (ci_39 hi_d) hb13 dX9_isAt_13 ?_
    refine lv_iload_n hx hb dX9_isAt_14 rfl (lv_at hl 2 rfl) ?_
    refine lv_icmp_ne (tgt := 22) hx hb dX9_isAt_15 (by decide) (fun c15 => ?_) (fun c15 => ?_)
    · replace h := h.1 c15
      refine lv_iconst hx hb dX9_isAt_22 ki_0 ?_
      exact m_iret S hret hlocks hKX hW hbs hS rfl h dX9_isAt_23
    · replace h := h.2 c15
      refine lv_iconst hx hb dX9_isAt_18 ki_1 ?_
      refine lv_goto (tgt := 23) hx hb dX9_isAt_19 (by decide) ?_
      exact m_iret S hret hlocks hKX hW hbs hS rfl h dX9_isAt_23
abbrev rm_X9_write : Room := { frames := 0, cells := 0, slots := 0, locals := 0 }
set_option maxHeartbeats 4000000 in
set_option maxRecDepth 100000 in
theorem c_X9_write (l : Launch) {G : Gn} {M : Mem} {d : Nat} {x1 : Int32} {x2 : Int32} {P : Mem → Prop} (hi_d : d < 8) : MQv l yX9_write cX9_write 3 none rm_X9_write [.ref (ad G 7 d), .int x1, .int x2] G M (s_X9_write d M x1 x2 P) P := by
  refine m_enter (by decide +kernel) (Nat.le_of_ble_eq_true rfl) ?_
  intro p e s m below meth c ls H locs S hret hlocks hname hKX hbs hW hS hl h
  obtain ⟨AV, hAV⟩ : ∃ z : Array Value, z = ([.ref (ad G 7 d), .int x1, .int x2] : List Value).toArray := ⟨_, rfl⟩
  rw [← hAV] at S ⊢
  replace S : CallFix p m c cX9_write 3 s AV lw_G "MilkDesk$Shelf" := S
  have hK := hKX.1
  have hx := S.1
  have hb := S.2.1
  have hml := S.2.2.1
  have hown := S.2.2.2.1
  have hts := S.2.2.2.2
  replace hl : lv_has ls 3 [(0, .ref (ad G 7 d)), (1, .int x1), (2, .int x2)] := hl
  have b31 : ∀ (M : Mem) (y0 : Int32) (y1 : Int32) (H : Heap) (locs : List Loc) (ls : Array Slot), WPm G M H → va_S (fun q => bs G ≤ q) s.heap H locs → lv_has ls 3 [] → s_X9_write_31 d P M y0 y1 → W p l e rm_X9_write s m AV below meth c H locs 0 0 (MQ below (va_Qv P (WS G) (fun q => bs G ≤ q)) AV s 0 0 (fun q => bs G ≤ q)) (F0 m 31 ls [.int y0, .int y1, .ref (ad G 39 d)]) := by
    intro M y0 y1 H locs ls hW hS hl h
    unfold s_X9_write_31 at h
    obtain ⟨hb31, h⟩ := h
    refine m_ast S hK (ar_39 G) hW hS (ci_39 hi_d) hb31 dX9_write_31 (fun Mm31 eMm31 H locs hW hS => ?_)
    replace h := h Mm31 eMm31
    exact m_vret S hret hlocks hKX hW hbs hS h dX9_write_32
  unfold s_X9_write at h
  refine lv_aload_n hx hb dX9_write_0 rfl (lv_at hl 0 rfl) ?_
  refine m_getr S hK fk_X9_9 (gr_7_6 G d) hW (ci_7 hi_d) dX9_write_1 ?_
  refine lv_iload_n hx hb dX9_write_4 rfl (lv_at hl 1 rfl) ?_
  refine lv_aload_n hx hb dX9_write_5 rfl (lv_at hl 0 rfl) ?_
  refine m_geti S hK fk_X9_28 (gi_7_4 G) hW (ci_7 hi_d) dX9_write_6 ?_
  refine lv_if_ne (tgt := 17) hx hb dX9_write_9 (by decide) (fun c9 => ?_) (fun c9 => ?_)
  · replace h := h.1 c9
    refine lv_aload_n hx hb dX9_write_17 rfl (lv_at hl 0 rfl) ?_
    refine m_geti S hK fk_X9_28 (gi_7_4 G) hW (ci_7 hi_d) dX9_write_18 ?_
    refine lv_iconst hx hb dX9_write_21 ki_1 ?_
    refine lv_icmp_ne (tgt := 30) hx hb dX9_write_22 (by decide) (fun c22 => ?_) (fun c22 => ?_)
    · replace h := h.1 c22
      refine lv_iload_n hx hb dX9_write_30 rfl (lv_at hl 2 rfl) ?_
      exact b31 _ _ _ H locs ls hW hS (lv_sub hl [] rfl) h
    · replace h := h.2 c22
      refine lv_iload_n hx hb dX9_write_25 rfl (lv_at hl 2 rfl) ?_
      refine lv_i2s hx hb dX9_write_26 rfl ?_
      refine lv_goto (tgt := 31) hx hb dX9_write_27 (by decide) ?_
      exact b31 _ _ _ H locs ls hW hS (lv_sub hl [] rfl) h
  · replace h := h.2 c9
    refine lv_iload_n hx hb dX9_write_12 rfl (lv_at hl 2 rfl) ?_
    refine lv_i2b hx hb dX9_write_13 rfl ?_
    refine lv_goto (tgt := 31) hx hb dX9_write_14 (by decide) ?_
    exact b31 _ _ _ H locs ls hW hS (lv_sub hl [] rfl) h
abbrev rm_X10_copyFrom : Room := { frames := 3, cells := 0, slots := 0, locals := 107 }
set_option maxHeartbeats 4000000 in
set_option maxRecDepth 100000 in
theorem c_X10_copyFrom (l : Launch) {G : Gn} {M : Mem} {w v : Nat} {P : Mem → Prop} (hi_w : w < 3) (hi_v : v < 3) : MQv l yX10_copyFrom cX10_copyFrom 2 none rm_X10_copyFrom [.ref (ad G 1 w), .ref (ad G 1 v)] G M (s_X10_copyFrom w v M P) P := by
  refine m_enter (by decide +kernel) (Nat.le_of_ble_eq_true rfl) ?_
  intro p e s m below meth c ls H locs S hret hlocks hname hKX hbs hW hS hl h
  obtain ⟨AV, hAV⟩ : ∃ z : Array Value, z = ([.ref (ad G 1 w), .ref (ad G 1 v)] : List Value).toArray := ⟨_, rfl⟩
  rw [← hAV] at S ⊢
  replace S : CallFix p m c cX10_copyFrom 2 s AV lw_G "MilkDesk$World" := S
  have hK := hKX.1
  have hx := S.1
  have hb := S.2.1
  have hml := S.2.2.1
  have hown := S.2.2.2.1
  have hts := S.2.2.2.2
  replace hl : lv_has ls 2 [(0, .ref (ad G 1 w)), (1, .ref (ad G 1 v))] := hl
  unfold s_X10_copyFrom at h
  refine lv_aload_n hx hb dX10_copyFrom_0 rfl (lv_at hl 0 rfl) ?_
  refine lv_aload_n hx hb dX10_copyFrom_1 rfl (lv_at hl 1 rfl) ?_
  refine m_geti S hK fk_X10_67 (gi_1_0 G) hW (ci_1 hi_v) dX10_copyFrom_2 ?_
  refine m_put S hK fk_X10_67 tyX10_ok nmX10 rfl pf_X10_0 (pv_1_0 G) hW hS (ci_1 hi_w) rfl rfl dX10_copyFrom_5 (fun Mm5 eMm5 H locs hW hS => ?_)
  replace h := h Mm5 eMm5
  refine lv_aload_n hx hb dX10_copyFrom_8 rfl (lv_at hl 0 rfl) ?_
  refine m_getr S hK fk_X10_12 (gr_1_1 G w) hW (ci_1 hi_w) dX10_copyFrom_9 ?_
  refine lv_aload_n hx hb dX10_copyFrom_12 rfl (lv_at hl 1 rfl) ?_
  refine m_getr S hK fk_X10_12 (gr_1_1 G v) hW (ci_1 hi_v) dX10_copyFrom_13 ?_
  refine m_cv0 (m_rV S hKX hW (m_szH hbs hS) (c_X8_copyFrom l hi_w hi_v) h lk_X10_71 (m_recv hK hW (ci_2 hi_w) (rc_2 G) rfl) rfl hl.1 rfl ⟨Nat.le_of_ble_eq_true rfl, Nat.le_of_ble_eq_true rfl⟩ (Nat.le_of_ble_eq_true rfl) ⟨Nat.le_of_ble_eq_true rfl, Nat.le_of_ble_eq_true rfl⟩ dX10_copyFrom_16) hS rfl rfl (fun Mm16 H locs h hW hS => ?_)
  refine lv_aload_n hx hb dX10_copyFrom_19 rfl (lv_at hl 0 rfl) ?_
  refine m_getr S hK fk_X10_21 (gr_1_2 G w) hW (ci_1 hi_w) dX10_copyFrom_20 ?_
  refine lv_aload_n hx hb dX10_copyFrom_23 rfl (lv_at hl 1 rfl) ?_
  refine m_getr S hK fk_X10_21 (gr_1_2 G v) hW (ci_1 hi_v) dX10_copyFrom_24 ?_
  refine m_cv0 (m_rV S hKX hW (m_szH hbs hS) (c_X4_copyFrom l hi_w hi_v) h lk_X10_75 (m_recv hK hW (ci_3 hi_w) (rc_3 G) rfl) rfl hl.1 rfl ⟨Nat.le_of_ble_eq_true rfl, Nat.le_of_ble_eq_true rfl⟩ (Nat.le_of_ble_eq_true rfl) ⟨Nat.le_of_ble_eq_true rfl, Nat.le_of_ble_eq_true rfl⟩ dX10_copyFrom_27) hS rfl rfl (fun Mm27 H locs h hW hS => ?_)
  refine lv_aload_n hx hb dX10_copyFrom_30 rfl (lv_at hl 0 rfl) ?_
  refine m_getr S hK fk_X10_28 (gr_1_3 G w) hW (ci_1 hi_w) dX10_copyFrom_31 ?_
  refine lv_aload_n hx hb dX10_copyFrom_34 rfl (lv_at hl 1 rfl) ?_
  refine m_getr S hK fk_X10_28 (gr_1_3 G v) hW (ci_1 hi_v) dX10_copyFrom_35 ?_
  refine m_cv0 (m_rV S hKX hW (m_szH hbs hS) (c_X5_copyFrom l hi_w hi_v) h lk_X10_78 (m_recv hK hW (ci_4 hi_w) (rc_4 G) rfl) rfl hl.1 rfl ⟨Nat.le_of_ble_eq_true rfl, Nat.le_of_ble_eq_true rfl⟩ (Nat.le_of_ble_eq_true rfl) ⟨Nat.le_of_ble_eq_true rfl, Nat.le_of_ble_eq_true rfl⟩ dX10_copyFrom_38) hS rfl rfl (fun Mm38 H locs h hW hS => ?_)
  refine lv_aload_n hx hb dX10_copyFrom_41 rfl (lv_at hl 0 rfl) ?_
  refine m_getr S hK fk_X10_35 (gr_1_4 G w) hW (ci_1 hi_w) dX10_copyFrom_42 ?_
  refine lv_aload_n hx hb dX10_copyFrom_45 rfl (lv_at hl 1 rfl) ?_
  refine m_getr S hK fk_X10_35 (gr_1_4 G v) hW (ci_1 hi_v) dX10_copyFrom_46 ?_
  refine m_cv0 (m_rV S hKX hW (m_szH hbs hS) (c_X1_copyFrom l hi_w hi_v) h lk_X10_81 (m_recv hK hW (ci_5 hi_w) (rc_5 G) rfl) rfl hl.1 rfl ⟨Nat.le_of_ble_eq_true rfl, Nat.le_of_ble_eq_true rfl⟩ (Nat.le_of_ble_eq_true rfl) ⟨Nat.le_of_ble_eq_true rfl, Nat.le_of_ble_eq_true rfl⟩ dX10_copyFrom_49) hS rfl rfl (fun Mm49 H locs h hW hS => ?_)
  refine lv_aload_n hx hb dX10_copyFrom_52 rfl (lv_at hl 0 rfl) ?_
  refine m_getr S hK fk_X10_42 (gr_1_5 G w) hW (ci_1 hi_w) dX10_copyFrom_53 ?_
  refine lv_aload_n hx hb dX10_copyFrom_56 rfl (lv_at hl 1 rfl) ?_
  refine m_getr S hK fk_X10_42 (gr_1_5 G v) hW (ci_1 hi_v) dX10_copyFrom_57 ?_
  refine m_cv0 (m_rV S hKX hW (m_szH hbs hS) (c_X6_copyFrom l hi_w hi_v) h lk_X10_84 (m_recv hK hW (ci_6 hi_w) (rc_6 G) rfl) rfl hl.1 rfl ⟨Nat.le_of_ble_eq_true rfl, Nat.le_of_ble_eq_true rfl⟩ (Nat.le_of_ble_eq_true rfl) ⟨Nat.le_of_ble_eq_true rfl, Nat.le_of_ble_eq_true rfl⟩ dX10_copyFrom_60) hS rfl rfl (fun Mm60 H locs h hW hS => ?_)
  refine lv_aload_n hx hb dX10_copyFrom_63 rfl (lv_at hl 1 rfl) ?_
  refine m_getr S hK fk_X10_46 (gr_1_6 G v) hW (ci_1 hi_v) dX10_copyFrom_64 ?_
  refine lv_aload_n hx hb dX10_copyFrom_67 rfl (lv_at hl 0 rfl) ?_
  refine m_getr S hK fk_X10_46 (gr_1_6 G w) hW (ci_1 hi_w) dX10_copyFrom_68 ?_
  refine m_cv0 (m_rN S hKX hW (m_szH hbs hS) (c_X11_copyAll l (ar_12 G) (ar_12 G) (ci_12 hi_v) (ci_12 hi_w) (Nat.le_of_ble_eq_true rfl)) h lk_X10_87 rfl hl.1 rfl ⟨Nat.le_of_ble_eq_true rfl, Nat.le_of_ble_eq_true rfl⟩ (Nat.le_of_ble_eq_true rfl) ⟨Nat.le_of_ble_eq_true rfl, Nat.le_of_ble_eq_true rfl⟩ dX10_copyFrom_71) hS rfl rfl (fun Mm71 H locs h hW hS => ?_)
  exact m_vret S hret hlocks hKX hW hbs hS h dX10_copyFrom_74
abbrev rm_X10_headsOfAll : Room := { frames := 1, cells := 0, slots := 0, locals := 25 }
set_option maxHeartbeats 4000000 in
set_option maxRecDepth 100000 in
theorem c_X10_headsOfAll (l : Launch) {G : Gn} {M : Mem} {w : Nat} {x1 : Int32} {x2 : Int32} {P : Int32 → Mem → Prop} (hi_w : w < 3) : MQi l yX10_headsOfAll cX10_headsOfAll 5 (some .int) rm_X10_headsOfAll [.ref (ad G 1 w), .int x1, .int x2] G M (s_X10_headsOfAll w M x1 x2 P) P := by
  refine m_enter (by decide +kernel) (Nat.le_of_ble_eq_true rfl) ?_
  intro p e s m below meth c ls H locs S hret hlocks hname hKX hbs hW hS hl h
  obtain ⟨AV, hAV⟩ : ∃ z : Array Value, z = ([.ref (ad G 1 w), .int x1, .int x2] : List Value).toArray := ⟨_, rfl⟩
  rw [← hAV] at S ⊢
  replace S : CallFix p m c cX10_headsOfAll 5 s AV lw_G "MilkDesk$World" := S
  have hK := hKX.1
  have hx := S.1
  have hb := S.2.1
  have hml := S.2.2.1
  have hown := S.2.2.2.1
  have hts := S.2.2.2.2
  replace hl : lv_has ls 5 [(0, .ref (ad G 1 w)), (1, .int x1), (2, .int x2)] := hl
  have w5 : ∀ (n : Nat) (a : Mem × Int32 × Int32), Lz (fun (K5 : Mem × Int32 × Int32 → Prop) (a : Mem × Int32 × Int32) => s_X10_headsOfAll_5 w x1 x2 P K5 a.1 a.2.1 a.2.2) n a → ∀ (H : Heap) (locs : List Loc) (ls : Array Slot), WPm G a.1 H → va_S (fun q => bs G ≤ q) s.heap H locs → lv_has ls 5 [(0, .ref (ad G 1 w)), (1, .int x1), (2, .int x2), (3, .int a.2.1), (4, .int a.2.2)] → W p l e rm_X10_headsOfAll s m AV below meth c H locs 0 0 (MQ below (va_Qi P (WS G) (fun q => bs G ≤ q)) AV s 0 0 (fun q => bs G ≤ q)) (F0 m 5 ls []) := by
    refine Lz_walk ?_
    rintro K5 kk5 ⟨M, x3, x4⟩ h H locs ls hW hS hl
    replace h : s_X10_headsOfAll_5 w x1 x2 P K5 M x3 x4 := h
    replace hW : WPm G M H := hW
    replace hl : lv_has ls 5 [(0, .ref (ad G 1 w)), (1, .int x1), (2, .int x2), (3, .int x3), (4, .int x4)] := hl
    unfold s_X10_headsOfAll_5 at h
    refine lv_iload hx hb dX10_headsOfAll_5 (lv_at hl 4 rfl) ?_
    refine lv_iconst hx hb dX10_headsOfAll_7 ki_3 ?_
    refine lv_icmp_ge (tgt := 34) hx hb dX10_headsOfAll_8 (by decide) (fun c8 => ?_) (fun c8 => ?_)
    · replace h := h.1 c8
      refine lv_iload_n hx hb dX10_headsOfAll_34 rfl (lv_at hl 3 rfl) ?_
      exact m_iret S hret hlocks hKX hW hbs hS rfl h dX10_headsOfAll_35
    · replace h := h.2 c8
      refine lv_iload_n hx hb dX10_headsOfAll_11 rfl (lv_at hl 3 rfl) ?_
      refine lv_aload_n hx hb dX10_headsOfAll_12 rfl (lv_at hl 0 rfl) ?_
      refine m_getr S hK fk_X10_28 (gr_1_3 G w) hW (ci_1 hi_w) dX10_headsOfAll_13 ?_
      refine lv_iload_n hx hb dX10_headsOfAll_16 rfl (lv_at hl 1 rfl) ?_
      refine lv_iload hx hb dX10_headsOfAll_17 (lv_at hl 4 rfl) ?_
      refine lv_iload_n hx hb dX10_headsOfAll_19 rfl (lv_at hl 2 rfl) ?_
      refine lv_sipush hx hb dX10_headsOfAll_20 ks_400 ?_
      refine m_ci0 (m_rV S hKX hW (m_szH hbs hS) (c_X5_counting l hi_w) h lk_X10_91 (m_recv hK hW (ci_4 hi_w) (rc_4 G) rfl) rfl hl.1 rfl ⟨Nat.le_of_ble_eq_true rfl, Nat.le_of_ble_eq_true rfl⟩ (Nat.le_of_ble_eq_true rfl) ⟨Nat.le_of_ble_eq_true rfl, Nat.le_of_ble_eq_true rfl⟩ dX10_headsOfAll_23) hS rfl rfl (fun rr23 Mm23 H locs h hW hS => ?_)
      refine lv_iadd hx hb dX10_headsOfAll_26 ?_
      refine lv_topi (fun x3_27 ex3_27 => ?_)
      replace h := h x3_27 ex3_27
      refine lv_istore_n (lv' := [(3, .int x3_27), (0, .ref (ad G 1 w)), (1, .int x1), (2, .int x2), (4, .int x4)]) hx hb dX10_headsOfAll_27 rfl hl (by decide) rfl (fun ls hl => ?_)
      obtain ⟨x4_28, ex4_28⟩ : ∃ z : Int32, z = x4 + (1 : Int32) := ⟨_, rfl⟩
      replace h := h x4_28 ex4_28
      refine lv_iinc (v := x4_28) (lv' := [(4, .int x4_28), (3, .int x3_27), (0, .ref (ad G 1 w)), (1, .int x1), (2, .int x2)]) hx hb dX10_headsOfAll_28 hl (k := 4) rfl (by rw [ex4_28, ki_1]) (by decide) rfl (fun ls hl => ?_)
      refine lv_goto (tgt := 5) hx hb dX10_headsOfAll_31 (by decide) ?_
      exact kk5 _ h H locs ls hW hS (lv_sub hl [2, 3, 4, 1, 0] rfl)
  unfold s_X10_headsOfAll at h
  refine lv_iconst hx hb dX10_headsOfAll_0 ki_0 ?_
  refine lv_istore_n (lv' := [(3, .int (0 : Int32)), (0, .ref (ad G 1 w)), (1, .int x1), (2, .int x2)]) hx hb dX10_headsOfAll_1 rfl hl (by decide) rfl (fun ls hl => ?_)
  refine lv_iconst hx hb dX10_headsOfAll_2 ki_0 ?_
  refine lv_istore (lv' := [(4, .int (0 : Int32)), (3, .int (0 : Int32)), (0, .ref (ad G 1 w)), (1, .int x1), (2, .int x2)]) hx hb dX10_headsOfAll_3 hl (by decide) rfl (fun ls hl => ?_)
  obtain ⟨n5, h⟩ := h
  exact w5 n5 _ h H locs ls hW hS (lv_sub hl [2, 3, 4, 1, 0] rfl)
abbrev rm_X10_toldTooMany : Room := { frames := 2, cells := 0, slots := 0, locals := 49 }
set_option maxHeartbeats 4000000 in
set_option maxRecDepth 100000 in
theorem c_X10_toldTooMany (l : Launch) {G : Gn} {M : Mem} {w : Nat} {x1 : Int32} {P : Int32 → Mem → Prop} (hi_w : w < 3) : MQi l yX10_toldTooMany cX10_toldTooMany 2 (some .int) rm_X10_toldTooMany [.ref (ad G 1 w), .int x1] G M (s_X10_toldTooMany w M x1 P) P := by
  refine m_enter (by decide +kernel) (Nat.le_of_ble_eq_true rfl) ?_
  intro p e s m below meth c ls H locs S hret hlocks hname hKX hbs hW hS hl h
  obtain ⟨AV, hAV⟩ : ∃ z : Array Value, z = ([.ref (ad G 1 w), .int x1] : List Value).toArray := ⟨_, rfl⟩
  rw [← hAV] at S ⊢
  replace S : CallFix p m c cX10_toldTooMany 2 s AV lw_G "MilkDesk$World" := S
  have hK := hKX.1
  have hx := S.1
  have hb := S.2.1
  have hml := S.2.2.1
  have hown := S.2.2.2.1
  have hts := S.2.2.2.2
  replace hl : lv_has ls 2 [(0, .ref (ad G 1 w)), (1, .int x1)] := hl
  unfold s_X10_toldTooMany at h
  refine lv_aload_n hx hb dX10_toldTooMany_0 rfl (lv_at hl 0 rfl) ?_
  refine lv_aload_n hx hb dX10_toldTooMany_1 rfl (lv_at hl 0 rfl) ?_
  refine m_getr S hK fk_X10_42 (gr_1_5 G w) hW (ci_1 hi_w) dX10_toldTooMany_2 ?_
  refine m_getr S hK fk_X10_95 (gr_6_1 G w) hW (ci_6 hi_w) dX10_toldTooMany_5 ?_
  refine lv_iload_n hx hb dX10_toldTooMany_8 rfl (lv_at hl 1 rfl) ?_
  obtain ⟨hb9, h⟩ := h
  refine m_ald S hK (ar_36 G) hW (ci_36 hi_w) hb9 dX10_toldTooMany_9 ?_
  refine lv_aload_n hx hb dX10_toldTooMany_10 rfl (lv_at hl 0 rfl) ?_
  refine m_getr S hK fk_X10_42 (gr_1_5 G w) hW (ci_1 hi_w) dX10_toldTooMany_11 ?_
  refine m_getr S hK fk_X10_98 (gr_6_2 G w) hW (ci_6 hi_w) dX10_toldTooMany_14 ?_
  refine lv_iload_n hx hb dX10_toldTooMany_17 rfl (lv_at hl 1 rfl) ?_
  obtain ⟨hb18, h⟩ := h
  refine m_ald S hK (ar_37 G) hW (ci_37 hi_w) hb18 dX10_toldTooMany_18 ?_
  refine m_ci0 (m_rV S hKX hW (m_szH hbs hS) (c_X10_headsOfAll l hi_w) h lk_X10_100 (m_recv hK hW (ci_1 hi_w) (rc_1 G) rfl) rfl hl.1 rfl ⟨Nat.le_of_ble_eq_true rfl, Nat.le_of_ble_eq_true rfl⟩ (Nat.le_of_ble_eq_true rfl) ⟨Nat.le_of_ble_eq_true rfl, Nat.le_of_ble_eq_true rfl⟩ dX10_toldTooMany_19) hS rfl rfl (fun rr19 Mm19 H locs h hW hS => ?_)
  refine lv_aload_n hx hb dX10_toldTooMany_22 rfl (lv_at hl 0 rfl) ?_
  refine m_getr S hK fk_X10_42 (gr_1_5 G w) hW (ci_1 hi_w) dX10_toldTooMany_23 ?_
  refine m_getr S hK fk_X10_104 (gr_6_3 G w) hW (ci_6 hi_w) dX10_toldTooMany_26 ?_
  refine lv_iload_n hx hb dX10_toldTooMany_29 rfl (lv_at hl 1 rfl) ?_
  obtain ⟨hb30, h⟩ := h
  refine m_ald S hK (ar_38 G) hW (ci_38 hi_w) hb30 dX10_toldTooMany_30 ?_
  refine lv_isub hx hb dX10_toldTooMany_31 ?_
  exact m_iret S hret hlocks hKX hW hbs hS rfl h dX10_toldTooMany_32
abbrev rm_X10_areLike : Room := { frames := 2, cells := 0, slots := 0, locals := 49 }
set_option maxHeartbeats 4000000 in
set_option maxRecDepth 100000 in
theorem c_X10_areLike (l : Launch) {G : Gn} {M : Mem} {w : Nat} {x1 : Int32} {x2 : Int32} {x3 : Int32} {P : Int32 → Mem → Prop} (hi_w : w < 3) : MQi l yX10_areLike cX10_areLike 4 (some .boolean) rm_X10_areLike [.ref (ad G 1 w), .int x1, .int x2, .int x3] G M (s_X10_areLike w M x1 x2 x3 P) P := by
  refine m_enter (by decide +kernel) (Nat.le_of_ble_eq_true rfl) ?_
  intro p e s m below meth c ls H locs S hret hlocks hname hKX hbs hW hS hl h
  obtain ⟨AV, hAV⟩ : ∃ z : Array Value, z = ([.ref (ad G 1 w), .int x1, .int x2, .int x3] : List Value).toArray := ⟨_, rfl⟩
  rw [← hAV] at S ⊢
  replace S : CallFix p m c cX10_areLike 4 s AV lw_G "MilkDesk$World" := S
  have hK := hKX.1
  have hx := S.1
  have hb := S.2.1
  have hml := S.2.2.1
  have hown := S.2.2.2.1
  have hts := S.2.2.2.2
  replace hl : lv_has ls 4 [(0, .ref (ad G 1 w)), (1, .int x1), (2, .int x2), (3, .int x3)] := hl
  unfold s_X10_areLike at h
  refine lv_aload_n hx hb dX10_areLike_0 rfl (lv_at hl 0 rfl) ?_
  refine m_getr S hK fk_X10_12 (gr_1_1 G w) hW (ci_1 hi_w) dX10_areLike_1 ?_
  refine m_getr S hK fk_X10_107 (gr_2_1 G w) hW (ci_2 hi_w) dX10_areLike_4 ?_
  refine lv_iload_n hx hb dX10_areLike_7 rfl (lv_at hl 1 rfl) ?_
  obtain ⟨hb8, h⟩ := h
  refine m_ald S hK (ar_15 G) hW (ci_15 hi_w) hb8 dX10_areLike_8 ?_
  refine lv_aload_n hx hb dX10_areLike_9 rfl (lv_at hl 0 rfl) ?_
  refine m_getr S hK fk_X10_12 (gr_1_1 G w) hW (ci_1 hi_w) dX10_areLike_10 ?_
  refine m_getr S hK fk_X10_107 (gr_2_1 G w) hW (ci_2 hi_w) dX10_areLike_13 ?_
  refine lv_iload_n hx hb dX10_areLike_16 rfl (lv_at hl 2 rfl) ?_
  obtain ⟨hb17, h⟩ := h
  refine m_ald S hK (ar_15 G) hW (ci_15 hi_w) hb17 dX10_areLike_17 ?_
  refine lv_icmp_ne (tgt := 51) hx hb dX10_areLike_18 (by decide) (fun c18 => ?_) (fun c18 => ?_)
  · replace h := h.1 c18
    refine lv_iconst hx hb dX10_areLike_51 ki_0 ?_
    exact m_iret S hret hlocks hKX hW hbs hS rfl h dX10_areLike_52
  · replace h := h.2 c18
    refine lv_aload_n hx hb dX10_areLike_21 rfl (lv_at hl 0 rfl) ?_
    refine lv_iload_n hx hb dX10_areLike_22 rfl (lv_at hl 1 rfl) ?_
    refine lv_aload_n hx hb dX10_areLike_23 rfl (lv_at hl 0 rfl) ?_
    refine m_geti S hK fk_X10_67 (gi_1_0 G) hW (ci_1 hi_w) dX10_areLike_24 ?_
    refine m_ci0 (m_rV S hKX hW (m_szH hbs hS) (c_X10_headsOfAll l hi_w) h lk_X10_100 (m_recv hK hW (ci_1 hi_w) (rc_1 G) rfl) rfl hl.1 rfl ⟨Nat.le_of_ble_eq_true rfl, Nat.le_of_ble_eq_true rfl⟩ (Nat.le_of_ble_eq_true rfl) ⟨Nat.le_of_ble_eq_true rfl, Nat.le_of_ble_eq_true rfl⟩ dX10_areLike_27) hS rfl rfl (fun rr27 Mm27 H locs h hW hS => ?_)
    refine lv_aload_n hx hb dX10_areLike_30 rfl (lv_at hl 0 rfl) ?_
    refine lv_iload_n hx hb dX10_areLike_31 rfl (lv_at hl 2 rfl) ?_
    refine lv_aload_n hx hb dX10_areLike_32 rfl (lv_at hl 0 rfl) ?_
    refine m_geti S hK fk_X10_67 (gi_1_0 G) hW (ci_1 hi_w) dX10_areLike_33 ?_
    refine m_ci0 (m_rV S hKX hW (m_szH hbs hS) (c_X10_headsOfAll l hi_w) h lk_X10_100 (m_recv hK hW (ci_1 hi_w) (rc_1 G) rfl) rfl hl.1 rfl ⟨Nat.le_of_ble_eq_true rfl, Nat.le_of_ble_eq_true rfl⟩ (Nat.le_of_ble_eq_true rfl) ⟨Nat.le_of_ble_eq_true rfl, Nat.le_of_ble_eq_true rfl⟩ dX10_areLike_36) hS rfl rfl (fun rr36 Mm36 H locs h hW hS => ?_)
    refine lv_isub hx hb dX10_areLike_39 ?_
    refine va_mabs hx hb (hml.trans hl.1.symm) hown (hts _ mw_945) (hts _ mw_843) (hts _ mw_13) (hts _ mw_844) (Nat.le_of_ble_eq_true rfl) (Nat.le_of_ble_eq_true rfl) (Nat.zero_le _) (Nat.zero_le _) dX10_areLike_40 ?_
    refine lv_iload_n hx hb dX10_areLike_43 rfl (lv_at hl 3 rfl) ?_
    refine lv_icmp_gt (tgt := 51) hx hb dX10_areLike_44 (by decide) (fun c44 => ?_) (fun c44 => ?_)
    · replace h := h.1 c44
      refine lv_iconst hx hb dX10_areLike_51 ki_0 ?_
      exact m_iret S hret hlocks hKX hW hbs hS rfl h dX10_areLike_52
    · replace h := h.2 c44
      refine lv_iconst hx hb dX10_areLike_47 ki_1 ?_
      refine lv_goto (tgt := 52) hx hb dX10_areLike_48 (by decide) ?_
      exact m_iret S hret hlocks hKX hW hbs hS rfl h dX10_areLike_52
abbrev rm_X11_monthOf : Room := { frames := 0, cells := 0, slots := 0, locals := 0 }
set_option maxHeartbeats 4000000 in
set_option maxRecDepth 100000 in
theorem c_X11_monthOf (l : Launch) {G : Gn} {M : Mem} {x0 : Int32} {P : Int32 → Mem → Prop} : MQi l yX11_monthOf cX11_monthOf 1 (some .int) rm_X11_monthOf [.int x0] G M (s_X11_monthOf M x0 P) P := by
  refine m_enter (by decide +kernel) (Nat.le_of_ble_eq_true rfl) ?_
  intro p e s m below meth c ls H locs S hret hlocks hname hKX hbs hW hS hl h
  obtain ⟨AV, hAV⟩ : ∃ z : Array Value, z = ([.int x0] : List Value).toArray := ⟨_, rfl⟩
  rw [← hAV] at S ⊢
  replace S : CallFix p m c cX11_monthOf 1 s AV lw_G "MilkDesk" := S
  have hK := hKX.1
  have hx := S.1
  have hb := S.2.1
  have hml := S.2.2.1
  have hown := S.2.2.2.1
  have hts := S.2.2.2.2
  replace hl : lv_has ls 1 [(0, .int x0)] := hl
  unfold s_X11_monthOf at h
  refine lv_iload_n hx hb dX11_monthOf_0 rfl (lv_at hl 0 rfl) ?_
  refine lv_bipush hx hb dX11_monthOf_1 kb_30 ?_
  refine lv_idiv hx hb dX11_monthOf_3 nz_30 ?_
  refine lv_bipush hx hb dX11_monthOf_4 kb_12 ?_
  refine lv_irem hx hb dX11_monthOf_6 nz_12 ?_
  exact m_iret S hret hlocks hKX hW hbs hS rfl h dX11_monthOf_7
abbrev rm_X10_monthFact : Room := { frames := 1, cells := 0, slots := 0, locals := 20 }
set_option maxHeartbeats 4000000 in
set_option maxRecDepth 100000 in
theorem c_X10_monthFact (l : Launch) {G : Gn} {M : Mem} {w : Nat} {x1 : Int32} {x2 : Int32} {P : Int32 → Mem → Prop} (hi_w : w < 3) : MQi l yX10_monthFact cX10_monthFact 3 (some .int) rm_X10_monthFact [.ref (ad G 1 w), .int x1, .int x2] G M (s_X10_monthFact w M x1 x2 P) P := by
  refine m_enter (by decide +kernel) (Nat.le_of_ble_eq_true rfl) ?_
  intro p e s m below meth c ls H locs S hret hlocks hname hKX hbs hW hS hl h
  obtain ⟨AV, hAV⟩ : ∃ z : Array Value, z = ([.ref (ad G 1 w), .int x1, .int x2] : List Value).toArray := ⟨_, rfl⟩
  rw [← hAV] at S ⊢
  replace S : CallFix p m c cX10_monthFact 3 s AV lw_G "MilkDesk$World" := S
  have hK := hKX.1
  have hx := S.1
  have hb := S.2.1
  have hml := S.2.2.1
  have hown := S.2.2.2.1
  have hts := S.2.2.2.2
  replace hl : lv_has ls 3 [(0, .ref (ad G 1 w)), (1, .int x1), (2, .int x2)] := hl
  unfold s_X10_monthFact at h
  refine lv_aload_n hx hb dX10_monthFact_0 rfl (lv_at hl 0 rfl) ?_
  refine m_getr S hK fk_X10_46 (gr_1_6 G w) hW (ci_1 hi_w) dX10_monthFact_1 ?_
  refine lv_iload_n hx hb dX10_monthFact_4 rfl (lv_at hl 1 rfl) ?_
  refine m_ci0 (m_rN S hKX hW (m_szH hbs hS) (c_X11_monthOf l ) h lk_X10_116 rfl hl.1 rfl ⟨Nat.le_of_ble_eq_true rfl, Nat.le_of_ble_eq_true rfl⟩ (Nat.le_of_ble_eq_true rfl) ⟨Nat.le_of_ble_eq_true rfl, Nat.le_of_ble_eq_true rfl⟩ dX10_monthFact_5) hS rfl rfl (fun rr5 Mm5 H locs h hW hS => ?_)
  refine lv_iconst hx hb dX10_monthFact_8 ki_3 ?_
  refine lv_imul hx hb dX10_monthFact_9 ?_
  refine lv_iload_n hx hb dX10_monthFact_10 rfl (lv_at hl 2 rfl) ?_
  refine lv_iadd hx hb dX10_monthFact_11 ?_
  obtain ⟨hb12, h⟩ := h
  refine m_ald S hK (ar_12 G) hW (ci_12 hi_w) hb12 dX10_monthFact_12 ?_
  exact m_iret S hret hlocks hKX hW hbs hS rfl h dX10_monthFact_13
abbrev rm_X10_readFields : Room := { frames := 2, cells := 0, slots := 0, locals := 49 }
set_option maxHeartbeats 4000000 in
set_option maxRecDepth 100000 in
theorem c_X10_readFields (l : Launch) {G : Gn} {M : Mem} {w : Nat} {x1 : Int32} {x2 : Int32} {x3 : Int32} {P : Mem → Prop} (hi_w : w < 3) : MQv l yX10_readFields cX10_readFields 4 none rm_X10_readFields [.ref (ad G 1 w), .int x1, .int x2, .int x3] G M (s_X10_readFields w M x1 x2 x3 P) P := by
  refine m_enter (by decide +kernel) (Nat.le_of_ble_eq_true rfl) ?_
  intro p e s m below meth c ls H locs S hret hlocks hname hKX hbs hW hS hl h
  obtain ⟨AV, hAV⟩ : ∃ z : Array Value, z = ([.ref (ad G 1 w), .int x1, .int x2, .int x3] : List Value).toArray := ⟨_, rfl⟩
  rw [← hAV] at S ⊢
  replace S : CallFix p m c cX10_readFields 4 s AV lw_G "MilkDesk$World" := S
  have hK := hKX.1
  have hx := S.1
  have hb := S.2.1
  have hml := S.2.2.1
  have hown := S.2.2.2.1
  have hts := S.2.2.2.2
  replace hl : lv_has ls 4 [(0, .ref (ad G 1 w)), (1, .int x1), (2, .int x2), (3, .int x3)] := hl
  unfold s_X10_readFields at h
  refine lv_aload_n hx hb dX10_readFields_0 rfl (lv_at hl 0 rfl) ?_
  refine m_getr S hK fk_X10_60 (gr_1_7 G w) hW (ci_1 hi_w) dX10_readFields_1 ?_
  refine lv_iconst hx hb dX10_readFields_4 ki_0 ?_
  refine lv_iload_n hx hb dX10_readFields_5 rfl (lv_at hl 2 rfl) ?_
  refine m_astk S hK (ar_13 G) hW hS (ci_13 hi_w) kn_0 (Nat.le_of_ble_eq_true rfl) dX10_readFields_6 (fun Mm6 eMm6 H locs hW hS => ?_)
  replace h := h Mm6 eMm6
  refine lv_aload_n hx hb dX10_readFields_7 rfl (lv_at hl 0 rfl) ?_
  refine m_getr S hK fk_X10_60 (gr_1_7 G w) hW (ci_1 hi_w) dX10_readFields_8 ?_
  refine lv_iconst hx hb dX10_readFields_11 ki_1 ?_
  refine lv_aload_n hx hb dX10_readFields_12 rfl (lv_at hl 0 rfl) ?_
  refine m_getr S hK fk_X10_12 (gr_1_1 G w) hW (ci_1 hi_w) dX10_readFields_13 ?_
  refine m_getr S hK fk_X10_107 (gr_2_1 G w) hW (ci_2 hi_w) dX10_readFields_16 ?_
  refine lv_iload_n hx hb dX10_readFields_19 rfl (lv_at hl 1 rfl) ?_
  obtain ⟨hb20, h⟩ := h
  refine m_ald S hK (ar_15 G) hW (ci_15 hi_w) hb20 dX10_readFields_20 ?_
  refine m_astk S hK (ar_13 G) hW hS (ci_13 hi_w) kn_1 (Nat.le_of_ble_eq_true rfl) dX10_readFields_21 (fun Mm21 eMm21 H locs hW hS => ?_)
  replace h := h Mm21 eMm21
  refine lv_aload_n hx hb dX10_readFields_22 rfl (lv_at hl 0 rfl) ?_
  refine m_getr S hK fk_X10_60 (gr_1_7 G w) hW (ci_1 hi_w) dX10_readFields_23 ?_
  refine lv_iconst hx hb dX10_readFields_26 ki_2 ?_
  refine lv_iload_n hx hb dX10_readFields_27 rfl (lv_at hl 3 rfl) ?_
  refine m_ci0 (m_rN S hKX hW (m_szH hbs hS) (c_X11_monthOf l ) h lk_X10_116 rfl hl.1 rfl ⟨Nat.le_of_ble_eq_true rfl, Nat.le_of_ble_eq_true rfl⟩ (Nat.le_of_ble_eq_true rfl) ⟨Nat.le_of_ble_eq_true rfl, Nat.le_of_ble_eq_true rfl⟩ dX10_readFields_28) hS rfl rfl (fun rr28 Mm28 H locs h hW hS => ?_)
  refine m_astk S hK (ar_13 G) hW hS (ci_13 hi_w) kn_2 (Nat.le_of_ble_eq_true rfl) dX10_readFields_31 (fun Mm31 eMm31 H locs hW hS => ?_)
  replace h := h Mm31 eMm31
  refine lv_aload_n hx hb dX10_readFields_32 rfl (lv_at hl 0 rfl) ?_
  refine m_getr S hK fk_X10_60 (gr_1_7 G w) hW (ci_1 hi_w) dX10_readFields_33 ?_
  refine lv_iconst hx hb dX10_readFields_36 ki_3 ?_
  refine lv_iload_n hx hb dX10_readFields_37 rfl (lv_at hl 3 rfl) ?_
  refine lv_bipush hx hb dX10_readFields_38 kb_7 ?_
  refine lv_irem hx hb dX10_readFields_40 nz_7 ?_
  refine m_astk S hK (ar_13 G) hW hS (ci_13 hi_w) kn_3 (Nat.le_of_ble_eq_true rfl) dX10_readFields_41 (fun Mm41 eMm41 H locs hW hS => ?_)
  replace h := h Mm41 eMm41
  refine lv_aload_n hx hb dX10_readFields_42 rfl (lv_at hl 0 rfl) ?_
  refine m_getr S hK fk_X10_60 (gr_1_7 G w) hW (ci_1 hi_w) dX10_readFields_43 ?_
  refine lv_iconst hx hb dX10_readFields_46 ki_4 ?_
  refine lv_iload_n hx hb dX10_readFields_47 rfl (lv_at hl 3 rfl) ?_
  refine lv_bipush hx hb dX10_readFields_48 kb_7 ?_
  refine lv_idiv hx hb dX10_readFields_50 nz_7 ?_
  refine m_astk S hK (ar_13 G) hW hS (ci_13 hi_w) kn_4 (Nat.le_of_ble_eq_true rfl) dX10_readFields_51 (fun Mm51 eMm51 H locs hW hS => ?_)
  replace h := h Mm51 eMm51
  refine lv_aload_n hx hb dX10_readFields_52 rfl (lv_at hl 0 rfl) ?_
  refine m_getr S hK fk_X10_60 (gr_1_7 G w) hW (ci_1 hi_w) dX10_readFields_53 ?_
  refine lv_iconst hx hb dX10_readFields_56 ki_5 ?_
  refine lv_aload_n hx hb dX10_readFields_57 rfl (lv_at hl 0 rfl) ?_
  refine lv_iload_n hx hb dX10_readFields_58 rfl (lv_at hl 3 rfl) ?_
  refine lv_iconst hx hb dX10_readFields_59 ki_1 ?_
  refine m_ci0 (m_rV S hKX hW (m_szH hbs hS) (c_X10_monthFact l hi_w) h lk_X10_119 (m_recv hK hW (ci_1 hi_w) (rc_1 G) rfl) rfl hl.1 rfl ⟨Nat.le_of_ble_eq_true rfl, Nat.le_of_ble_eq_true rfl⟩ (Nat.le_of_ble_eq_true rfl) ⟨Nat.le_of_ble_eq_true rfl, Nat.le_of_ble_eq_true rfl⟩ dX10_readFields_60) hS rfl rfl (fun rr60 Mm60 H locs h hW hS => ?_)
  refine m_astk S hK (ar_13 G) hW hS (ci_13 hi_w) kn_5 (Nat.le_of_ble_eq_true rfl) dX10_readFields_63 (fun Mm63 eMm63 H locs hW hS => ?_)
  replace h := h Mm63 eMm63
  refine lv_aload_n hx hb dX10_readFields_64 rfl (lv_at hl 0 rfl) ?_
  refine m_getr S hK fk_X10_60 (gr_1_7 G w) hW (ci_1 hi_w) dX10_readFields_65 ?_
  refine lv_bipush hx hb dX10_readFields_68 kb_6 ?_
  refine lv_aload_n hx hb dX10_readFields_70 rfl (lv_at hl 0 rfl) ?_
  refine lv_iload_n hx hb dX10_readFields_71 rfl (lv_at hl 1 rfl) ?_
  refine lv_iload_n hx hb dX10_readFields_72 rfl (lv_at hl 3 rfl) ?_
  refine m_ci0 (m_rV S hKX hW (m_szH hbs hS) (c_X10_headsOfAll l hi_w) h lk_X10_100 (m_recv hK hW (ci_1 hi_w) (rc_1 G) rfl) rfl hl.1 rfl ⟨Nat.le_of_ble_eq_true rfl, Nat.le_of_ble_eq_true rfl⟩ (Nat.le_of_ble_eq_true rfl) ⟨Nat.le_of_ble_eq_true rfl, Nat.le_of_ble_eq_true rfl⟩ dX10_readFields_73) hS rfl rfl (fun rr73 Mm73 H locs h hW hS => ?_)
  refine m_astk S hK (ar_13 G) hW hS (ci_13 hi_w) kn_6 (Nat.le_of_ble_eq_true rfl) dX10_readFields_76 (fun Mm76 eMm76 H locs hW hS => ?_)
  replace h := h Mm76 eMm76
  refine lv_aload_n hx hb dX10_readFields_77 rfl (lv_at hl 0 rfl) ?_
  refine m_getr S hK fk_X10_60 (gr_1_7 G w) hW (ci_1 hi_w) dX10_readFields_78 ?_
  refine lv_bipush hx hb dX10_readFields_81 kb_7 ?_
  refine lv_aload_n hx hb dX10_readFields_83 rfl (lv_at hl 0 rfl) ?_
  refine m_getr S hK fk_X10_12 (gr_1_1 G w) hW (ci_1 hi_w) dX10_readFields_84 ?_
  refine m_getr S hK fk_X10_122 (gr_2_2 G w) hW (ci_2 hi_w) dX10_readFields_87 ?_
  refine lv_iload_n hx hb dX10_readFields_90 rfl (lv_at hl 1 rfl) ?_
  obtain ⟨hb91, h⟩ := h
  refine m_ald S hK (ar_16 G) hW (ci_16 hi_w) hb91 dX10_readFields_91 ?_
  refine m_astk S hK (ar_13 G) hW hS (ci_13 hi_w) kn_7 (Nat.le_of_ble_eq_true rfl) dX10_readFields_92 (fun Mm92 eMm92 H locs hW hS => ?_)
  replace h := h Mm92 eMm92
  refine lv_aload_n hx hb dX10_readFields_93 rfl (lv_at hl 0 rfl) ?_
  refine m_getr S hK fk_X10_60 (gr_1_7 G w) hW (ci_1 hi_w) dX10_readFields_94 ?_
  refine lv_bipush hx hb dX10_readFields_97 kb_8 ?_
  refine lv_aload_n hx hb dX10_readFields_99 rfl (lv_at hl 0 rfl) ?_
  refine m_getr S hK fk_X10_12 (gr_1_1 G w) hW (ci_1 hi_w) dX10_readFields_100 ?_
  refine m_getr S hK fk_X10_125 (gr_2_3 G w) hW (ci_2 hi_w) dX10_readFields_103 ?_
  refine lv_iload_n hx hb dX10_readFields_106 rfl (lv_at hl 1 rfl) ?_
  obtain ⟨hb107, h⟩ := h
  refine m_ald S hK (ar_17 G) hW (ci_17 hi_w) hb107 dX10_readFields_107 ?_
  refine m_astk S hK (ar_13 G) hW hS (ci_13 hi_w) kn_8 (Nat.le_of_ble_eq_true rfl) dX10_readFields_108 (fun Mm108 eMm108 H locs hW hS => ?_)
  replace h := h Mm108 eMm108
  refine lv_aload_n hx hb dX10_readFields_109 rfl (lv_at hl 0 rfl) ?_
  refine m_getr S hK fk_X10_60 (gr_1_7 G w) hW (ci_1 hi_w) dX10_readFields_110 ?_
  refine lv_bipush hx hb dX10_readFields_113 kb_9 ?_
  refine lv_iload_n hx hb dX10_readFields_115 rfl (lv_at hl 1 rfl) ?_
  refine m_astk S hK (ar_13 G) hW hS (ci_13 hi_w) kn_9 (Nat.le_of_ble_eq_true rfl) dX10_readFields_116 (fun Mm116 eMm116 H locs hW hS => ?_)
  replace h := h Mm116 eMm116
  exact m_vret S hret hlocks hKX hW hbs hS h dX10_readFields_117
abbrev rm_X10_purposeHolds : Room := { frames := 3, cells := 0, slots := 0, locals := 73 }
set_option maxHeartbeats 4000000 in
set_option maxRecDepth 100000 in
theorem c_X10_purposeHolds (l : Launch) {G : Gn} {M : Mem} {w : Nat} {x1 : Int32} {x2 : Int32} {x3 : Int32} {x4 : Int32} {P : Int32 → Mem → Prop} (hi_w : w < 3) : MQi l yX10_purposeHolds cX10_purposeHolds 6 (some .boolean) rm_X10_purposeHolds [.ref (ad G 1 w), .int x1, .int x2, .int x3, .int x4] G M (s_X10_purposeHolds w M x1 x2 x3 x4 P) P := by
  refine m_enter (by decide +kernel) (Nat.le_of_ble_eq_true rfl) ?_
  intro p e s m below meth c ls H locs S hret hlocks hname hKX hbs hW hS hl h
  obtain ⟨AV, hAV⟩ : ∃ z : Array Value, z = ([.ref (ad G 1 w), .int x1, .int x2, .int x3, .int x4] : List Value).toArray := ⟨_, rfl⟩
  rw [← hAV] at S ⊢
  replace S : CallFix p m c cX10_purposeHolds 6 s AV lw_G "MilkDesk$World" := S
  have hK := hKX.1
  have hx := S.1
  have hb := S.2.1
  have hml := S.2.2.1
  have hown := S.2.2.2.1
  have hts := S.2.2.2.2
  replace hl : lv_has ls 6 [(0, .ref (ad G 1 w)), (1, .int x1), (2, .int x2), (3, .int x3), (4, .int x4)] := hl
  have b47 : ∀ (M : Mem) (x5 : Int32) (y0 : Int32) (y1 : Int32) (H : Heap) (locs : List Loc) (ls : Array Slot), WPm G M H → va_S (fun q => bs G ≤ q) s.heap H locs → lv_has ls 6 [(0, .ref (ad G 1 w)), (4, .int x4), (5, .int x5)] → s_X10_purposeHolds_47 w x4 P M x5 y0 y1 → W p l e rm_X10_purposeHolds s m AV below meth c H locs 0 0 (MQ below (va_Qi P (WS G) (fun q => bs G ≤ q)) AV s 0 0 (fun q => bs G ≤ q)) (F0 m 47 ls [.int y0, .int y1, .ref (ad G 1 w)]) := by
    intro M x5 y0 y1 H locs ls hW hS hl h
    unfold s_X10_purposeHolds_47 at h
    refine lv_iload hx hb dX10_purposeHolds_47 (lv_at hl 1 rfl) ?_
    refine m_cv0 (m_rV S hKX hW (m_szH hbs hS) (c_X10_readFields l hi_w) h lk_X10_132 (m_recv hK hW (ci_1 hi_w) (rc_1 G) rfl) rfl hl.1 rfl ⟨Nat.le_of_ble_eq_true rfl, Nat.le_of_ble_eq_true rfl⟩ (Nat.le_of_ble_eq_true rfl) ⟨Nat.le_of_ble_eq_true rfl, Nat.le_of_ble_eq_true rfl⟩ dX10_purposeHolds_49) hS rfl rfl (fun Mm49 H locs h hW hS => ?_)
    refine lv_aload_n hx hb dX10_purposeHolds_52 rfl (lv_at hl 0 rfl) ?_
    refine m_getr S hK fk_X10_35 (gr_1_4 G w) hW (ci_1 hi_w) dX10_purposeHolds_53 ?_
    refine lv_iload hx hb dX10_purposeHolds_56 (lv_at hl 2 rfl) ?_
    refine lv_aload_n hx hb dX10_purposeHolds_58 rfl (lv_at hl 0 rfl) ?_
    refine m_getr S hK fk_X10_60 (gr_1_7 G w) hW (ci_1 hi_w) dX10_purposeHolds_59 ?_
    refine lv_aload_n hx hb dX10_purposeHolds_62 rfl (lv_at hl 0 rfl) ?_
    refine m_getr S hK fk_X10_63 (gr_1_8 G w) hW (ci_1 hi_w) dX10_purposeHolds_63 ?_
    refine m_ci0 (m_rV S hKX hW (m_szH hbs hS) (c_X1_meets l hi_w) h lk_X10_136 (m_recv hK hW (ci_5 hi_w) (rc_5 G) rfl) rfl hl.1 rfl ⟨Nat.le_of_ble_eq_true rfl, Nat.le_of_ble_eq_true rfl⟩ (Nat.le_of_ble_eq_true rfl) ⟨Nat.le_of_ble_eq_true rfl, Nat.le_of_ble_eq_true rfl⟩ dX10_purposeHolds_66) hS rfl rfl (fun rr66 Mm66 H locs h hW hS => ?_)
    obtain ⟨hn69, h⟩ := h
    exact m_iret S hret hlocks hKX hW hbs hS (isB_n hn69) h dX10_purposeHolds_69
  unfold s_X10_purposeHolds at h
  refine lv_aload_n hx hb dX10_purposeHolds_0 rfl (lv_at hl 0 rfl) ?_
  refine m_getr S hK fk_X10_35 (gr_1_4 G w) hW (ci_1 hi_w) dX10_purposeHolds_1 ?_
  refine lv_iload_n hx hb dX10_purposeHolds_4 rfl (lv_at hl 1 rfl) ?_
  refine lv_aload_n hx hb dX10_purposeHolds_5 rfl (lv_at hl 0 rfl) ?_
  refine m_getr S hK fk_X10_12 (gr_1_1 G w) hW (ci_1 hi_w) dX10_purposeHolds_6 ?_
  refine m_getr S hK fk_X10_107 (gr_2_1 G w) hW (ci_2 hi_w) dX10_purposeHolds_9 ?_
  refine lv_iload_n hx hb dX10_purposeHolds_12 rfl (lv_at hl 2 rfl) ?_
  obtain ⟨hb13, h⟩ := h
  refine m_ald S hK (ar_15 G) hW (ci_15 hi_w) hb13 dX10_purposeHolds_13 ?_
  refine lv_iload hx hb dX10_purposeHolds_14 (lv_at hl 4 rfl) ?_
  refine m_ci0 (m_rV S hKX hW (m_szH hbs hS) (c_X1_inForce l hi_w) h lk_X10_128 (m_recv hK hW (ci_5 hi_w) (rc_5 G) rfl) rfl hl.1 rfl ⟨Nat.le_of_ble_eq_true rfl, Nat.le_of_ble_eq_true rfl⟩ (Nat.le_of_ble_eq_true rfl) ⟨Nat.le_of_ble_eq_true rfl, Nat.le_of_ble_eq_true rfl⟩ dX10_purposeHolds_16) hS rfl rfl (fun rr16 Mm16 H locs h hW hS => ?_)
  refine lv_istore (lv' := [(5, .int rr16), (0, .ref (ad G 1 w)), (1, .int x1), (2, .int x2), (3, .int x3), (4, .int x4)]) hx hb dX10_purposeHolds_19 hl (by decide) rfl (fun ls hl => ?_)
  refine lv_iload hx hb dX10_purposeHolds_21 (lv_at hl 0 rfl) ?_
  refine lv_if_ge (tgt := 36) hx hb dX10_purposeHolds_23 (by decide) (fun c23 => ?_) (fun c23 => ?_)
  · replace h := h.1 c23
    refine lv_aload_n hx hb dX10_purposeHolds_36 rfl (lv_at hl 1 rfl) ?_
    refine lv_iload_n hx hb dX10_purposeHolds_37 rfl (lv_at hl 3 rfl) ?_
    refine lv_iload_n hx hb dX10_purposeHolds_38 rfl (lv_at hl 2 rfl) ?_
    refine lv_if_ne (tgt := 46) hx hb dX10_purposeHolds_39 (by decide) (fun c39 => ?_) (fun c39 => ?_)
    · replace h := h.1 c39
      refine lv_iconst hx hb dX10_purposeHolds_46 ki_0 ?_
      exact b47 _ _ _ _ H locs ls hW hS (lv_sub hl [1, 5, 0] rfl) h
    · replace h := h.2 c39
      refine lv_iload_n hx hb dX10_purposeHolds_42 rfl (lv_at hl 4 rfl) ?_
      refine lv_goto (tgt := 47) hx hb dX10_purposeHolds_43 (by decide) ?_
      exact b47 _ _ _ _ H locs ls hW hS (lv_sub hl [1, 5, 0] rfl) h
  · replace h := h.2 c23
    refine lv_iload_n hx hb dX10_purposeHolds_26 rfl (lv_at hl 2 rfl) ?_
    refine lv_if_ne (tgt := 34) hx hb dX10_purposeHolds_27 (by decide) (fun c27 => ?_) (fun c27 => ?_)
    · replace h := h.1 c27
      refine lv_iconst hx hb dX10_purposeHolds_34 ki_0 ?_
      exact m_iret S hret hlocks hKX hW hbs hS rfl h dX10_purposeHolds_35
    · replace h := h.2 c27
      refine lv_iconst hx hb dX10_purposeHolds_30 ki_1 ?_
      refine lv_goto (tgt := 35) hx hb dX10_purposeHolds_31 (by decide) ?_
      exact m_iret S hret hlocks hKX hW hbs hS rfl h dX10_purposeHolds_35
abbrev rm_X10_firstThat : Room := { frames := 3, cells := 0, slots := 0, locals := 72 }
set_option maxHeartbeats 4000000 in
set_option maxRecDepth 100000 in
theorem c_X10_firstThat (l : Launch) {G : Gn} {M : Mem} {w : Nat} {x1 : Int32} {x2 : Int32} {x3 : Int32} {x4 : Int32} {x5 : Int32} {P : Int32 → Mem → Prop} (hi_w : w < 3) : MQi l yX10_firstThat cX10_firstThat 7 (some .int) rm_X10_firstThat [.ref (ad G 1 w), .int x1, .int x2, .int x3, .int x4, .int x5] G M (s_X10_firstThat w M x1 x2 x3 x4 x5 P) P := by
  refine m_enter (by decide +kernel) (Nat.le_of_ble_eq_true rfl) ?_
  intro p e s m below meth c ls H locs S hret hlocks hname hKX hbs hW hS hl h
  obtain ⟨AV, hAV⟩ : ∃ z : Array Value, z = ([.ref (ad G 1 w), .int x1, .int x2, .int x3, .int x4, .int x5] : List Value).toArray := ⟨_, rfl⟩
  rw [← hAV] at S ⊢
  replace S : CallFix p m c cX10_firstThat 7 s AV lw_G "MilkDesk$World" := S
  have hK := hKX.1
  have hx := S.1
  have hb := S.2.1
  have hml := S.2.2.1
  have hown := S.2.2.2.1
  have hts := S.2.2.2.2
  replace hl : lv_has ls 7 [(0, .ref (ad G 1 w)), (1, .int x1), (2, .int x2), (3, .int x3), (4, .int x4), (5, .int x5)] := hl
  have w20 : ∀ (n : Nat) (a : Mem × Int32), Lz (fun (K20 : Mem × Int32 → Prop) (a : Mem × Int32) => s_X10_firstThat_20 w x1 x2 x3 x5 P K20 a.1 a.2) n a → ∀ (H : Heap) (locs : List Loc) (ls : Array Slot), WPm G a.1 H → va_S (fun q => bs G ≤ q) s.heap H locs → lv_has ls 7 [(0, .ref (ad G 1 w)), (1, .int x1), (2, .int x2), (3, .int x3), (5, .int x5), (6, .int a.2)] → W p l e rm_X10_firstThat s m AV below meth c H locs 0 0 (MQ below (va_Qi P (WS G) (fun q => bs G ≤ q)) AV s 0 0 (fun q => bs G ≤ q)) (F0 m 20 ls []) := by
    refine Lz_walk ?_
    rintro K20 kk20 ⟨M, x6⟩ h H locs ls hW hS hl
    replace h : s_X10_firstThat_20 w x1 x2 x3 x5 P K20 M x6 := h
    replace hW : WPm G M H := hW
    replace hl : lv_has ls 7 [(0, .ref (ad G 1 w)), (1, .int x1), (2, .int x2), (3, .int x3), (5, .int x5), (6, .int x6)] := hl
    unfold s_X10_firstThat_20 at h
    refine lv_iload hx hb dX10_firstThat_20 (lv_at hl 5 rfl) ?_
    refine lv_aload_n hx hb dX10_firstThat_22 rfl (lv_at hl 0 rfl) ?_
    refine m_getr S hK fk_X10_35 (gr_1_4 G w) hW (ci_1 hi_w) dX10_firstThat_23 ?_
    refine m_geti S hK fk_X10_140 (gi_5_0 G) hW (ci_5 hi_w) dX10_firstThat_26 ?_
    refine lv_icmp_ge (tgt := 86) hx hb dX10_firstThat_29 (by decide) (fun c29 => ?_) (fun c29 => ?_)
    · replace h := h.1 c29
      refine lv_iconst hx hb dX10_firstThat_86 ki_m1 ?_
      exact m_iret S hret hlocks hKX hW hbs hS rfl h dX10_firstThat_87
    · replace h := h.2 c29
      refine lv_aload_n hx hb dX10_firstThat_32 rfl (lv_at hl 0 rfl) ?_
      refine m_getr S hK fk_X10_35 (gr_1_4 G w) hW (ci_1 hi_w) dX10_firstThat_33 ?_
      refine lv_iload hx hb dX10_firstThat_36 (lv_at hl 5 rfl) ?_
      refine lv_iload_n hx hb dX10_firstThat_38 rfl (lv_at hl 2 rfl) ?_
      refine lv_aload_n hx hb dX10_firstThat_39 rfl (lv_at hl 0 rfl) ?_
      refine m_getr S hK fk_X10_12 (gr_1_1 G w) hW (ci_1 hi_w) dX10_firstThat_40 ?_
      refine m_getr S hK fk_X10_107 (gr_2_1 G w) hW (ci_2 hi_w) dX10_firstThat_43 ?_
      refine lv_iload_n hx hb dX10_firstThat_46 rfl (lv_at hl 3 rfl) ?_
      obtain ⟨hb47, h⟩ := h
      refine m_ald S hK (ar_15 G) hW (ci_15 hi_w) hb47 dX10_firstThat_47 ?_
      refine lv_iload hx hb dX10_firstThat_48 (lv_at hl 4 rfl) ?_
      refine m_ci0 (m_rV S hKX hW (m_szH hbs hS) (c_X1_couldBeInForce l hi_w) h lk_X10_143 (m_recv hK hW (ci_5 hi_w) (rc_5 G) rfl) rfl hl.1 rfl ⟨Nat.le_of_ble_eq_true rfl, Nat.le_of_ble_eq_true rfl⟩ (Nat.le_of_ble_eq_true rfl) ⟨Nat.le_of_ble_eq_true rfl, Nat.le_of_ble_eq_true rfl⟩ dX10_firstThat_50) hS rfl rfl (fun rr50 Mm50 H locs h hW hS => ?_)
      refine lv_if_eq (tgt := 80) hx hb dX10_firstThat_53 (by decide) (fun c53 => ?_) (fun c53 => ?_)
      · replace h := h.1 c53
        obtain ⟨x6_80, ex6_80⟩ : ∃ z : Int32, z = x6 + (1 : Int32) := ⟨_, rfl⟩
        replace h := h x6_80 ex6_80
        refine lv_iinc (v := x6_80) (lv' := [(6, .int x6_80), (0, .ref (ad G 1 w)), (1, .int x1), (2, .int x2), (3, .int x3), (5, .int x5)]) hx hb dX10_firstThat_80 hl (k := 5) rfl (by rw [ex6_80, ki_1]) (by decide) rfl (fun ls hl => ?_)
        refine lv_goto (tgt := 20) hx hb dX10_firstThat_83 (by decide) ?_
        exact kk20 _ h H locs ls hW hS (lv_sub hl [1, 2, 3, 4, 5, 0] rfl)
      · replace h := h.2 c53
        refine lv_aload_n hx hb dX10_firstThat_56 rfl (lv_at hl 0 rfl) ?_
        refine m_getr S hK fk_X10_35 (gr_1_4 G w) hW (ci_1 hi_w) dX10_firstThat_57 ?_
        refine lv_iload hx hb dX10_firstThat_60 (lv_at hl 5 rfl) ?_
        refine lv_aload_n hx hb dX10_firstThat_62 rfl (lv_at hl 0 rfl) ?_
        refine m_getr S hK fk_X10_60 (gr_1_7 G w) hW (ci_1 hi_w) dX10_firstThat_63 ?_
        refine lv_aload_n hx hb dX10_firstThat_66 rfl (lv_at hl 0 rfl) ?_
        refine m_getr S hK fk_X10_63 (gr_1_8 G w) hW (ci_1 hi_w) dX10_firstThat_67 ?_
        refine m_ci0 (m_rV S hKX hW (m_szH hbs hS) (c_X1_meets l hi_w) h lk_X10_136 (m_recv hK hW (ci_5 hi_w) (rc_5 G) rfl) rfl hl.1 rfl ⟨Nat.le_of_ble_eq_true rfl, Nat.le_of_ble_eq_true rfl⟩ (Nat.le_of_ble_eq_true rfl) ⟨Nat.le_of_ble_eq_true rfl, Nat.le_of_ble_eq_true rfl⟩ dX10_firstThat_70) hS rfl rfl (fun rr70 Mm70 H locs h hW hS => ?_)
        refine lv_iload_n hx hb dX10_firstThat_73 rfl (lv_at hl 1 rfl) ?_
        refine lv_icmp_ne (tgt := 80) hx hb dX10_firstThat_74 (by decide) (fun c74 => ?_) (fun c74 => ?_)
        · replace h := h.1 c74
          obtain ⟨x6_80, ex6_80⟩ : ∃ z : Int32, z = x6 + (1 : Int32) := ⟨_, rfl⟩
          replace h := h x6_80 ex6_80
          refine lv_iinc (v := x6_80) (lv' := [(6, .int x6_80), (0, .ref (ad G 1 w)), (1, .int x1), (2, .int x2), (3, .int x3), (5, .int x5)]) hx hb dX10_firstThat_80 hl (k := 5) rfl (by rw [ex6_80, ki_1]) (by decide) rfl (fun ls hl => ?_)
          refine lv_goto (tgt := 20) hx hb dX10_firstThat_83 (by decide) ?_
          exact kk20 _ h H locs ls hW hS (lv_sub hl [1, 2, 3, 4, 5, 0] rfl)
        · replace h := h.2 c74
          refine lv_iload hx hb dX10_firstThat_77 (lv_at hl 5 rfl) ?_
          exact m_iret S hret hlocks hKX hW hbs hS rfl h dX10_firstThat_79
  have b12 : ∀ (M : Mem) (y0 : Int32) (y1 : Int32) (H : Heap) (locs : List Loc) (ls : Array Slot), WPm G M H → va_S (fun q => bs G ≤ q) s.heap H locs → lv_has ls 7 [(0, .ref (ad G 1 w)), (1, .int x1), (2, .int x2), (3, .int x3), (5, .int x5)] → s_X10_firstThat_12 w x1 x2 x3 x5 P M y0 y1 → W p l e rm_X10_firstThat s m AV below meth c H locs 0 0 (MQ below (va_Qi P (WS G) (fun q => bs G ≤ q)) AV s 0 0 (fun q => bs G ≤ q)) (F0 m 12 ls [.int y0, .int y1, .ref (ad G 1 w)]) := by
    intro M y0 y1 H locs ls hW hS hl h
    unfold s_X10_firstThat_12 at h
    refine lv_iload hx hb dX10_firstThat_12 (lv_at hl 4 rfl) ?_
    refine m_cv0 (m_rV S hKX hW (m_szH hbs hS) (c_X10_readFields l hi_w) h lk_X10_132 (m_recv hK hW (ci_1 hi_w) (rc_1 G) rfl) rfl hl.1 rfl ⟨Nat.le_of_ble_eq_true rfl, Nat.le_of_ble_eq_true rfl⟩ (Nat.le_of_ble_eq_true rfl) ⟨Nat.le_of_ble_eq_true rfl, Nat.le_of_ble_eq_true rfl⟩ dX10_firstThat_14) hS rfl rfl (fun Mm14 H locs h hW hS => ?_)
    refine lv_iconst hx hb dX10_firstThat_17 ki_0 ?_
    refine lv_istore (lv' := [(6, .int (0 : Int32)), (0, .ref (ad G 1 w)), (1, .int x1), (2, .int x2), (3, .int x3), (5, .int x5)]) hx hb dX10_firstThat_18 hl (by decide) rfl (fun ls hl => ?_)
    obtain ⟨n20, h⟩ := h
    exact w20 n20 _ h H locs ls hW hS (lv_sub hl [1, 2, 3, 4, 5, 0] rfl)
  unfold s_X10_firstThat at h
  refine lv_aload_n hx hb dX10_firstThat_0 rfl (lv_at hl 0 rfl) ?_
  refine lv_iload_n hx hb dX10_firstThat_1 rfl (lv_at hl 3 rfl) ?_
  refine lv_iload_n hx hb dX10_firstThat_2 rfl (lv_at hl 2 rfl) ?_
  refine lv_if_ne (tgt := 11) hx hb dX10_firstThat_3 (by decide) (fun c3 => ?_) (fun c3 => ?_)
  · replace h := h.1 c3
    refine lv_iconst hx hb dX10_firstThat_11 ki_0 ?_
    exact b12 _ _ _ H locs ls hW hS (lv_sub hl [0, 1, 2, 3, 5] rfl) h
  · replace h := h.2 c3
    refine lv_iload hx hb dX10_firstThat_6 (lv_at hl 4 rfl) ?_
    refine lv_goto (tgt := 12) hx hb dX10_firstThat_8 (by decide) ?_
    exact b12 _ _ _ H locs ls hW hS (lv_sub hl [0, 1, 2, 3, 5] rfl) h
abbrev rm_X11_isSchoolDay : Room := { frames := 0, cells := 0, slots := 0, locals := 0 }
set_option maxHeartbeats 4000000 in
set_option maxRecDepth 100000 in
theorem c_X11_isSchoolDay (l : Launch) {G : Gn} {M : Mem} {x0 : Int32} {P : Int32 → Mem → Prop} : MQi l yX11_isSchoolDay cX11_isSchoolDay 1 (some .boolean) rm_X11_isSchoolDay [.int x0] G M (s_X11_isSchoolDay M x0 P) P := by
  refine m_enter (by decide +kernel) (Nat.le_of_ble_eq_true rfl) ?_
  intro p e s m below meth c ls H locs S hret hlocks hname hKX hbs hW hS hl h
  obtain ⟨AV, hAV⟩ : ∃ z : Array Value, z = ([.int x0] : List Value).toArray := ⟨_, rfl⟩
  rw [← hAV] at S ⊢
  replace S : CallFix p m c cX11_isSchoolDay 1 s AV lw_G "MilkDesk" := S
  have hK := hKX.1
  have hx := S.1
  have hb := S.2.1
  have hml := S.2.2.1
  have hown := S.2.2.2.1
  have hts := S.2.2.2.2
  replace hl : lv_has ls 1 [(0, .int x0)] := hl
  unfold s_X11_isSchoolDay at h
  refine lv_iload_n hx hb dX11_isSchoolDay_0 rfl (lv_at hl 0 rfl) ?_
  refine lv_bipush hx hb dX11_isSchoolDay_1 kb_7 ?_
  refine lv_irem hx hb dX11_isSchoolDay_3 nz_7 ?_
  refine lv_iconst hx hb dX11_isSchoolDay_4 ki_5 ?_
  refine lv_icmp_ge (tgt := 12) hx hb dX11_isSchoolDay_5 (by decide) (fun c5 => ?_) (fun c5 => ?_)
  · replace h := h.1 c5
    refine lv_iconst hx hb dX11_isSchoolDay_12 ki_0 ?_
    exact m_iret S hret hlocks hKX hW hbs hS rfl h dX11_isSchoolDay_13
  · replace h := h.2 c5
    refine lv_iconst hx hb dX11_isSchoolDay_8 ki_1 ?_
    refine lv_goto (tgt := 13) hx hb dX11_isSchoolDay_9 (by decide) ?_
    exact m_iret S hret hlocks hKX hW hbs hS rfl h dX11_isSchoolDay_13
abbrev rm_X10_ordered : Room := { frames := 3, cells := 0, slots := 0, locals := 73 }
set_option maxHeartbeats 4000000 in
set_option maxRecDepth 100000 in
theorem c_X10_ordered (l : Launch) {G : Gn} {M : Mem} {w : Nat} {x1 : Int32} {x2 : Int32} {x3 : Int32} {P : Int32 → Mem → Prop} (hi_w : w < 3) : MQi l yX10_ordered cX10_ordered 7 (some .int) rm_X10_ordered [.ref (ad G 1 w), .int x1, .int x2, .int x3] G M (s_X10_ordered w M x1 x2 x3 P) P := by
  refine m_enter (by decide +kernel) (Nat.le_of_ble_eq_true rfl) ?_
  intro p e s m below meth c ls H locs S hret hlocks hname hKX hbs hW hS hl h
  obtain ⟨AV, hAV⟩ : ∃ z : Array Value, z = ([.ref (ad G 1 w), .int x1, .int x2, .int x3] : List Value).toArray := ⟨_, rfl⟩
  rw [← hAV] at S ⊢
  replace S : CallFix p m c cX10_ordered 7 s AV lw_G "MilkDesk$World" := S
  have hK := hKX.1
  have hx := S.1
  have hb := S.2.1
  have hml := S.2.2.1
  have hown := S.2.2.2.1
  have hts := S.2.2.2.2
  replace hl : lv_has ls 7 [(0, .ref (ad G 1 w)), (1, .int x1), (2, .int x2), (3, .int x3)] := hl
  have w42 : ∀ (x4 : Int32), ∀ (n : Nat) (a : Mem × Int32 × Int32), Lz (fun (K42 : Mem × Int32 × Int32 → Prop) (a : Mem × Int32 × Int32) => s_X10_ordered_42 w x1 x2 x3 x4 P K42 a.1 a.2.1 a.2.2) n a → ∀ (H : Heap) (locs : List Loc) (ls : Array Slot), WPm G a.1 H → va_S (fun q => bs G ≤ q) s.heap H locs → lv_has ls 7 [(0, .ref (ad G 1 w)), (1, .int x1), (2, .int x2), (3, .int x3), (4, .int x4), (5, .int a.2.1), (6, .int a.2.2)] → W p l e rm_X10_ordered s m AV below meth c H locs 0 0 (MQ below (va_Qi P (WS G) (fun q => bs G ≤ q)) AV s 0 0 (fun q => bs G ≤ q)) (F0 m 42 ls []) := by
    intro x4
    refine Lz_walk ?_
    rintro K42 kk42 ⟨M, x5, x6⟩ h H locs ls hW hS hl
    replace h : s_X10_ordered_42 w x1 x2 x3 x4 P K42 M x5 x6 := h
    replace hW : WPm G M H := hW
    replace hl : lv_has ls 7 [(0, .ref (ad G 1 w)), (1, .int x1), (2, .int x2), (3, .int x3), (4, .int x4), (5, .int x5), (6, .int x6)] := hl
    have b87 : ∀ (M : Mem) (x5 : Int32) (x6 : Int32) (H : Heap) (locs : List Loc) (ls : Array Slot), WPm G M H → va_S (fun q => bs G ≤ q) s.heap H locs → lv_has ls 7 [(0, .ref (ad G 1 w)), (1, .int x1), (2, .int x2), (3, .int x3), (4, .int x4), (5, .int x5), (6, .int x6)] → s_X10_ordered_87 w x1 x2 x3 x4 P K42 M x5 x6 → W p l e rm_X10_ordered s m AV below meth c H locs 0 0 (MQ below (va_Qi P (WS G) (fun q => bs G ≤ q)) AV s 0 0 (fun q => bs G ≤ q)) (F0 m 87 ls []) := by
      intro M x5 x6 H locs ls hW hS hl h
      unfold s_X10_ordered_87 at h
      refine lv_iload hx hb dX10_ordered_87 (lv_at hl 5 rfl) ?_
      refine lv_aload_n hx hb dX10_ordered_89 rfl (lv_at hl 0 rfl) ?_
      refine m_getr S hK fk_X10_28 (gr_1_3 G w) hW (ci_1 hi_w) dX10_ordered_90 ?_
      refine lv_iload_n hx hb dX10_ordered_93 rfl (lv_at hl 1 rfl) ?_
      refine lv_iload hx hb dX10_ordered_94 (lv_at hl 6 rfl) ?_
      refine lv_iload_n hx hb dX10_ordered_96 rfl (lv_at hl 2 rfl) ?_
      refine lv_sipush hx hb dX10_ordered_97 ks_400 ?_
      refine m_ci0 (m_rV S hKX hW (m_szH hbs hS) (c_X5_counting l hi_w) h lk_X10_91 (m_recv hK hW (ci_4 hi_w) (rc_4 G) rfl) rfl hl.1 rfl ⟨Nat.le_of_ble_eq_true rfl, Nat.le_of_ble_eq_true rfl⟩ (Nat.le_of_ble_eq_true rfl) ⟨Nat.le_of_ble_eq_true rfl, Nat.le_of_ble_eq_true rfl⟩ dX10_ordered_100) hS rfl rfl (fun rr100 Mm100 H locs h hW hS => ?_)
      refine lv_iadd hx hb dX10_ordered_103 ?_
      refine lv_topi (fun x5_104 ex5_104 => ?_)
      replace h := h x5_104 ex5_104
      refine lv_istore (lv' := [(5, .int x5_104), (0, .ref (ad G 1 w)), (1, .int x1), (2, .int x2), (3, .int x3), (4, .int x4), (6, .int x6)]) hx hb dX10_ordered_104 hl (by decide) rfl (fun ls hl => ?_)
      obtain ⟨x6_106, ex6_106⟩ : ∃ z : Int32, z = x6 + (1 : Int32) := ⟨_, rfl⟩
      replace h := h x6_106 ex6_106
      refine lv_iinc (v := x6_106) (lv' := [(6, .int x6_106), (5, .int x5_104), (0, .ref (ad G 1 w)), (1, .int x1), (2, .int x2), (3, .int x3), (4, .int x4)]) hx hb dX10_ordered_106 hl (k := 6) rfl (by rw [ex6_106, ki_1]) (by decide) rfl (fun ls hl => ?_)
      refine lv_goto (tgt := 42) hx hb dX10_ordered_109 (by decide) ?_
      exact kk42 _ h H locs ls hW hS (lv_sub hl [2, 3, 4, 5, 6, 1, 0] rfl)
    unfold s_X10_ordered_42 at h
    refine lv_iload hx hb dX10_ordered_42 (lv_at hl 6 rfl) ?_
    refine lv_iconst hx hb dX10_ordered_44 ki_3 ?_
    refine lv_icmp_ge (tgt := 112) hx hb dX10_ordered_45 (by decide) (fun c45 => ?_) (fun c45 => ?_)
    · replace h := h.1 c45
      refine lv_iload hx hb dX10_ordered_112 (lv_at hl 5 rfl) ?_
      exact m_iret S hret hlocks hKX hW hbs hS rfl h dX10_ordered_114
    · replace h := h.2 c45
      refine lv_aload_n hx hb dX10_ordered_48 rfl (lv_at hl 0 rfl) ?_
      refine m_getr S hK fk_X10_60 (gr_1_7 G w) hW (ci_1 hi_w) dX10_ordered_49 ?_
      refine lv_iconst hx hb dX10_ordered_52 ki_0 ?_
      refine lv_iload hx hb dX10_ordered_53 (lv_at hl 6 rfl) ?_
      refine m_astk S hK (ar_13 G) hW hS (ci_13 hi_w) kn_0 (Nat.le_of_ble_eq_true rfl) dX10_ordered_55 (fun Mm55 eMm55 H locs hW hS => ?_)
      replace h := h Mm55 eMm55
      refine lv_iload hx hb dX10_ordered_56 (lv_at hl 6 rfl) ?_
      refine lv_iload_n hx hb dX10_ordered_58 rfl (lv_at hl 3 rfl) ?_
      refine lv_icmp_eq (tgt := 106) hx hb dX10_ordered_59 (by decide) (fun c59 => ?_) (fun c59 => ?_)
      · replace h := h.1 c59
        obtain ⟨x6_106, ex6_106⟩ : ∃ z : Int32, z = x6 + (1 : Int32) := ⟨_, rfl⟩
        replace h := h x6_106 ex6_106
        refine lv_iinc (v := x6_106) (lv' := [(6, .int x6_106), (0, .ref (ad G 1 w)), (1, .int x1), (2, .int x2), (3, .int x3), (4, .int x4), (5, .int x5)]) hx hb dX10_ordered_106 hl (k := 6) rfl (by rw [ex6_106, ki_1]) (by decide) rfl (fun ls hl => ?_)
        refine lv_goto (tgt := 42) hx hb dX10_ordered_109 (by decide) ?_
        exact kk42 _ h H locs ls hW hS (lv_sub hl [1, 2, 3, 4, 5, 6, 0] rfl)
      · replace h := h.2 c59
        refine lv_iload hx hb dX10_ordered_62 (lv_at hl 4 rfl) ?_
        refine lv_if_lt (tgt := 87) hx hb dX10_ordered_64 (by decide) (fun c64 => ?_) (fun c64 => ?_)
        · replace h := h.1 c64
          exact b87 _ _ _ H locs ls hW hS (lv_sub hl [0, 1, 2, 3, 4, 5, 6] rfl) h
        · replace h := h.2 c64
          refine lv_aload_n hx hb dX10_ordered_67 rfl (lv_at hl 0 rfl) ?_
          refine m_getr S hK fk_X10_35 (gr_1_4 G w) hW (ci_1 hi_w) dX10_ordered_68 ?_
          refine lv_iload hx hb dX10_ordered_71 (lv_at hl 4 rfl) ?_
          refine lv_aload_n hx hb dX10_ordered_73 rfl (lv_at hl 0 rfl) ?_
          refine m_getr S hK fk_X10_60 (gr_1_7 G w) hW (ci_1 hi_w) dX10_ordered_74 ?_
          refine lv_aload_n hx hb dX10_ordered_77 rfl (lv_at hl 0 rfl) ?_
          refine m_getr S hK fk_X10_63 (gr_1_8 G w) hW (ci_1 hi_w) dX10_ordered_78 ?_
          refine m_ci0 (m_rV S hKX hW (m_szH hbs hS) (c_X1_meets l hi_w) h lk_X10_136 (m_recv hK hW (ci_5 hi_w) (rc_5 G) rfl) rfl hl.1 rfl ⟨Nat.le_of_ble_eq_true rfl, Nat.le_of_ble_eq_true rfl⟩ (Nat.le_of_ble_eq_true rfl) ⟨Nat.le_of_ble_eq_true rfl, Nat.le_of_ble_eq_true rfl⟩ dX10_ordered_81) hS rfl rfl (fun rr81 Mm81 H locs h hW hS => ?_)
          refine lv_if_eq (tgt := 106) hx hb dX10_ordered_84 (by decide) (fun c84 => ?_) (fun c84 => ?_)
          · replace h := h.1 c84
            obtain ⟨x6_106, ex6_106⟩ : ∃ z : Int32, z = x6 + (1 : Int32) := ⟨_, rfl⟩
            replace h := h x6_106 ex6_106
            refine lv_iinc (v := x6_106) (lv' := [(6, .int x6_106), (0, .ref (ad G 1 w)), (1, .int x1), (2, .int x2), (3, .int x3), (4, .int x4), (5, .int x5)]) hx hb dX10_ordered_106 hl (k := 6) rfl (by rw [ex6_106, ki_1]) (by decide) rfl (fun ls hl => ?_)
            refine lv_goto (tgt := 42) hx hb dX10_ordered_109 (by decide) ?_
            exact kk42 _ h H locs ls hW hS (lv_sub hl [1, 2, 3, 4, 5, 6, 0] rfl)
          · replace h := h.2 c84
            exact b87 _ _ _ H locs ls hW hS (lv_sub hl [0, 1, 2, 3, 4, 5, 6] rfl) h
  unfold s_X10_ordered at h
  refine lv_iload_n hx hb dX10_ordered_0 rfl (lv_at hl 2 rfl) ?_
  refine m_ci0 (m_rN S hKX hW (m_szH hbs hS) (c_X11_isSchoolDay l ) h lk_X10_147 rfl hl.1 rfl ⟨Nat.le_of_ble_eq_true rfl, Nat.le_of_ble_eq_true rfl⟩ (Nat.le_of_ble_eq_true rfl) ⟨Nat.le_of_ble_eq_true rfl, Nat.le_of_ble_eq_true rfl⟩ dX10_ordered_1) hS rfl rfl (fun rr1 Mm1 H locs h hW hS => ?_)
  refine lv_if_ne (tgt := 9) hx hb dX10_ordered_4 (by decide) (fun c4 => ?_) (fun c4 => ?_)
  · replace h := h.1 c4
    refine lv_aload_n hx hb dX10_ordered_9 rfl (lv_at hl 0 rfl) ?_
    refine m_getr S hK fk_X10_35 (gr_1_4 G w) hW (ci_1 hi_w) dX10_ordered_10 ?_
    refine lv_iconst hx hb dX10_ordered_13 ki_0 ?_
    refine lv_aload_n hx hb dX10_ordered_14 rfl (lv_at hl 0 rfl) ?_
    refine m_getr S hK fk_X10_12 (gr_1_1 G w) hW (ci_1 hi_w) dX10_ordered_15 ?_
    refine m_getr S hK fk_X10_107 (gr_2_1 G w) hW (ci_2 hi_w) dX10_ordered_18 ?_
    refine lv_iload_n hx hb dX10_ordered_21 rfl (lv_at hl 1 rfl) ?_
    obtain ⟨hb22, h⟩ := h
    refine m_ald S hK (ar_15 G) hW (ci_15 hi_w) hb22 dX10_ordered_22 ?_
    refine lv_iload_n hx hb dX10_ordered_23 rfl (lv_at hl 2 rfl) ?_
    refine m_ci0 (m_rV S hKX hW (m_szH hbs hS) (c_X1_inForce l hi_w) h lk_X10_128 (m_recv hK hW (ci_5 hi_w) (rc_5 G) rfl) rfl hl.1 rfl ⟨Nat.le_of_ble_eq_true rfl, Nat.le_of_ble_eq_true rfl⟩ (Nat.le_of_ble_eq_true rfl) ⟨Nat.le_of_ble_eq_true rfl, Nat.le_of_ble_eq_true rfl⟩ dX10_ordered_24) hS rfl rfl (fun rr24 Mm24 H locs h hW hS => ?_)
    refine lv_istore (lv' := [(4, .int rr24), (0, .ref (ad G 1 w)), (1, .int x1), (2, .int x2), (3, .int x3)]) hx hb dX10_ordered_27 hl (by decide) rfl (fun ls hl => ?_)
    refine lv_aload_n hx hb dX10_ordered_29 rfl (lv_at hl 1 rfl) ?_
    refine lv_iload_n hx hb dX10_ordered_30 rfl (lv_at hl 2 rfl) ?_
    refine lv_iconst hx hb dX10_ordered_31 ki_0 ?_
    refine lv_iload_n hx hb dX10_ordered_32 rfl (lv_at hl 3 rfl) ?_
    refine m_cv0 (m_rV S hKX hW (m_szH hbs hS) (c_X10_readFields l hi_w) h lk_X10_132 (m_recv hK hW (ci_1 hi_w) (rc_1 G) rfl) rfl hl.1 rfl ⟨Nat.le_of_ble_eq_true rfl, Nat.le_of_ble_eq_true rfl⟩ (Nat.le_of_ble_eq_true rfl) ⟨Nat.le_of_ble_eq_true rfl, Nat.le_of_ble_eq_true rfl⟩ dX10_ordered_33) hS rfl rfl (fun Mm33 H locs h hW hS => ?_)
    refine lv_iconst hx hb dX10_ordered_36 ki_0 ?_
    refine lv_istore (lv' := [(5, .int (0 : Int32)), (4, .int rr24), (0, .ref (ad G 1 w)), (1, .int x1), (2, .int x2), (3, .int x3)]) hx hb dX10_ordered_37 hl (by decide) rfl (fun ls hl => ?_)
    refine lv_iconst hx hb dX10_ordered_39 ki_0 ?_
    refine lv_istore (lv' := [(6, .int (0 : Int32)), (5, .int (0 : Int32)), (4, .int rr24), (0, .ref (ad G 1 w)), (1, .int x1), (2, .int x2), (3, .int x3)]) hx hb dX10_ordered_40 hl (by decide) rfl (fun ls hl => ?_)
    obtain ⟨n42, h⟩ := h
    exact w42 _ n42 _ h H locs ls hW hS (lv_sub hl [3, 4, 5, 6, 2, 1, 0] rfl)
  · replace h := h.2 c4
    refine lv_iconst hx hb dX10_ordered_7 ki_0 ?_
    exact m_iret S hret hlocks hKX hW hbs hS rfl h dX10_ordered_8
abbrev rm_X10_orderedInShire : Room := { frames := 4, cells := 0, slots := 0, locals := 99 }
set_option maxHeartbeats 4000000 in
set_option maxRecDepth 100000 in
theorem c_X10_orderedInShire (l : Launch) {G : Gn} {M : Mem} {w : Nat} {x1 : Int32} {x2 : Int32} {P : Int32 → Mem → Prop} (hi_w : w < 3) : MQi l yX10_orderedInShire cX10_orderedInShire 5 (some .int) rm_X10_orderedInShire [.ref (ad G 1 w), .int x1, .int x2] G M (s_X10_orderedInShire w M x1 x2 P) P := by
  refine m_enter (by decide +kernel) (Nat.le_of_ble_eq_true rfl) ?_
  intro p e s m below meth c ls H locs S hret hlocks hname hKX hbs hW hS hl h
  obtain ⟨AV, hAV⟩ : ∃ z : Array Value, z = ([.ref (ad G 1 w), .int x1, .int x2] : List Value).toArray := ⟨_, rfl⟩
  rw [← hAV] at S ⊢
  replace S : CallFix p m c cX10_orderedInShire 5 s AV lw_G "MilkDesk$World" := S
  have hK := hKX.1
  have hx := S.1
  have hb := S.2.1
  have hml := S.2.2.1
  have hown := S.2.2.2.1
  have hts := S.2.2.2.2
  replace hl : lv_has ls 5 [(0, .ref (ad G 1 w)), (1, .int x1), (2, .int x2)] := hl
  have w5 : ∀ (n : Nat) (a : Mem × Int32 × Int32), Lz (fun (K5 : Mem × Int32 × Int32 → Prop) (a : Mem × Int32 × Int32) => s_X10_orderedInShire_5 w x1 x2 P K5 a.1 a.2.1 a.2.2) n a → ∀ (H : Heap) (locs : List Loc) (ls : Array Slot), WPm G a.1 H → va_S (fun q => bs G ≤ q) s.heap H locs → lv_has ls 5 [(0, .ref (ad G 1 w)), (1, .int x1), (2, .int x2), (3, .int a.2.1), (4, .int a.2.2)] → W p l e rm_X10_orderedInShire s m AV below meth c H locs 0 0 (MQ below (va_Qi P (WS G) (fun q => bs G ≤ q)) AV s 0 0 (fun q => bs G ≤ q)) (F0 m 5 ls []) := by
    refine Lz_walk ?_
    rintro K5 kk5 ⟨M, x3, x4⟩ h H locs ls hW hS hl
    replace h : s_X10_orderedInShire_5 w x1 x2 P K5 M x3 x4 := h
    replace hW : WPm G M H := hW
    replace hl : lv_has ls 5 [(0, .ref (ad G 1 w)), (1, .int x1), (2, .int x2), (3, .int x3), (4, .int x4)] := hl
    unfold s_X10_orderedInShire_5 at h
    refine lv_iload hx hb dX10_orderedInShire_5 (lv_at hl 4 rfl) ?_
    refine lv_aload_n hx hb dX10_orderedInShire_7 rfl (lv_at hl 0 rfl) ?_
    refine m_getr S hK fk_X10_12 (gr_1_1 G w) hW (ci_1 hi_w) dX10_orderedInShire_8 ?_
    refine m_geti S hK fk_X10_151 (gi_2_0 G) hW (ci_2 hi_w) dX10_orderedInShire_11 ?_
    refine lv_icmp_ge (tgt := 48) hx hb dX10_orderedInShire_14 (by decide) (fun c14 => ?_) (fun c14 => ?_)
    · replace h := h.1 c14
      refine lv_iload_n hx hb dX10_orderedInShire_48 rfl (lv_at hl 3 rfl) ?_
      exact m_iret S hret hlocks hKX hW hbs hS rfl h dX10_orderedInShire_49
    · replace h := h.2 c14
      refine lv_aload_n hx hb dX10_orderedInShire_17 rfl (lv_at hl 0 rfl) ?_
      refine m_getr S hK fk_X10_12 (gr_1_1 G w) hW (ci_1 hi_w) dX10_orderedInShire_18 ?_
      refine m_getr S hK fk_X10_107 (gr_2_1 G w) hW (ci_2 hi_w) dX10_orderedInShire_21 ?_
      refine lv_iload hx hb dX10_orderedInShire_24 (lv_at hl 4 rfl) ?_
      obtain ⟨hb26, h⟩ := h
      refine m_ald S hK (ar_15 G) hW (ci_15 hi_w) hb26 dX10_orderedInShire_26 ?_
      refine lv_iload_n hx hb dX10_orderedInShire_27 rfl (lv_at hl 1 rfl) ?_
      refine lv_icmp_ne (tgt := 42) hx hb dX10_orderedInShire_28 (by decide) (fun c28 => ?_) (fun c28 => ?_)
      · replace h := h.1 c28
        obtain ⟨x4_42, ex4_42⟩ : ∃ z : Int32, z = x4 + (1 : Int32) := ⟨_, rfl⟩
        replace h := h x4_42 ex4_42
        refine lv_iinc (v := x4_42) (lv' := [(4, .int x4_42), (0, .ref (ad G 1 w)), (1, .int x1), (2, .int x2), (3, .int x3)]) hx hb dX10_orderedInShire_42 hl (k := 4) rfl (by rw [ex4_42, ki_1]) (by decide) rfl (fun ls hl => ?_)
        refine lv_goto (tgt := 5) hx hb dX10_orderedInShire_45 (by decide) ?_
        exact kk5 _ h H locs ls hW hS (lv_sub hl [1, 2, 3, 4, 0] rfl)
      · replace h := h.2 c28
        refine lv_iload_n hx hb dX10_orderedInShire_31 rfl (lv_at hl 3 rfl) ?_
        refine lv_aload_n hx hb dX10_orderedInShire_32 rfl (lv_at hl 0 rfl) ?_
        refine lv_iload hx hb dX10_orderedInShire_33 (lv_at hl 4 rfl) ?_
        refine lv_iload_n hx hb dX10_orderedInShire_35 rfl (lv_at hl 2 rfl) ?_
        refine lv_iconst hx hb dX10_orderedInShire_36 ki_m1 ?_
        refine m_ci0 (m_rV S hKX hW (m_szH hbs hS) (c_X10_ordered l hi_w) h lk_X10_152 (m_recv hK hW (ci_1 hi_w) (rc_1 G) rfl) rfl hl.1 rfl ⟨Nat.le_of_ble_eq_true rfl, Nat.le_of_ble_eq_true rfl⟩ (Nat.le_of_ble_eq_true rfl) ⟨Nat.le_of_ble_eq_true rfl, Nat.le_of_ble_eq_true rfl⟩ dX10_orderedInShire_37) hS rfl rfl (fun rr37 Mm37 H locs h hW hS => ?_)
        refine lv_iadd hx hb dX10_orderedInShire_40 ?_
        refine lv_topi (fun x3_41 ex3_41 => ?_)
        replace h := h x3_41 ex3_41
        refine lv_istore_n (lv' := [(3, .int x3_41), (0, .ref (ad G 1 w)), (1, .int x1), (2, .int x2), (4, .int x4)]) hx hb dX10_orderedInShire_41 rfl hl (by decide) rfl (fun ls hl => ?_)
        obtain ⟨x4_42, ex4_42⟩ : ∃ z : Int32, z = x4 + (1 : Int32) := ⟨_, rfl⟩
        replace h := h x4_42 ex4_42
        refine lv_iinc (v := x4_42) (lv' := [(4, .int x4_42), (3, .int x3_41), (0, .ref (ad G 1 w)), (1, .int x1), (2, .int x2)]) hx hb dX10_orderedInShire_42 hl (k := 4) rfl (by rw [ex4_42, ki_1]) (by decide) rfl (fun ls hl => ?_)
        refine lv_goto (tgt := 5) hx hb dX10_orderedInShire_45 (by decide) ?_
        exact kk5 _ h H locs ls hW hS (lv_sub hl [2, 3, 4, 1, 0] rfl)
  unfold s_X10_orderedInShire at h
  refine lv_iconst hx hb dX10_orderedInShire_0 ki_0 ?_
  refine lv_istore_n (lv' := [(3, .int (0 : Int32)), (0, .ref (ad G 1 w)), (1, .int x1), (2, .int x2)]) hx hb dX10_orderedInShire_1 rfl hl (by decide) rfl (fun ls hl => ?_)
  refine lv_iconst hx hb dX10_orderedInShire_2 ki_0 ?_
  refine lv_istore (lv' := [(4, .int (0 : Int32)), (3, .int (0 : Int32)), (0, .ref (ad G 1 w)), (1, .int x1), (2, .int x2)]) hx hb dX10_orderedInShire_3 hl (by decide) rfl (fun ls hl => ?_)
  obtain ⟨n5, h⟩ := h
  exact w5 n5 _ h H locs ls hW hS (lv_sub hl [2, 3, 4, 1, 0] rfl)
abbrev rm_X10_handOut : Room := { frames := 4, cells := 0, slots := 0, locals := 98 }
set_option maxHeartbeats 4000000 in
set_option maxRecDepth 100000 in
theorem c_X10_handOut (l : Launch) {G : Gn} {M : Mem} {w : Nat} {x1 : Int32} {x2 : Int32} {x3 : Int32} {P : Int32 → Mem → Prop} (hi_w : w < 3) : MQi l yX10_handOut cX10_handOut 11 (some .int) rm_X10_handOut [.ref (ad G 1 w), .int x1, .int x2, .int x3] G M (s_X10_handOut w M x1 x2 x3 P) P := by
  refine m_enter (by decide +kernel) (Nat.le_of_ble_eq_true rfl) ?_
  intro p e s m below meth c ls H locs S hret hlocks hname hKX hbs hW hS hl h
  obtain ⟨AV, hAV⟩ : ∃ z : Array Value, z = ([.ref (ad G 1 w), .int x1, .int x2, .int x3] : List Value).toArray := ⟨_, rfl⟩
  rw [← hAV] at S ⊢
  replace S : CallFix p m c cX10_handOut 11 s AV lw_G "MilkDesk$World" := S
  have hK := hKX.1
  have hx := S.1
  have hb := S.2.1
  have hml := S.2.2.1
  have hown := S.2.2.2.1
  have hts := S.2.2.2.2
  replace hl : lv_has ls 11 [(0, .ref (ad G 1 w)), (1, .int x1), (2, .int x2), (3, .int x3)] := hl
  have b212 : ∀ (M : Mem) (x4 : Int32) (x6 : Int32) (x7 : Int32) (x8 : Int32) (x9 : Int32) (H : Heap) (locs : List Loc) (ls : Array Slot), WPm G M H → va_S (fun q => bs G ≤ q) s.heap H locs → lv_has ls 11 [(0, .ref (ad G 1 w)), (1, .int x1), (3, .int x3), (4, .int x4), (6, .int x6), (7, .int x7), (8, .int x8), (9, .int x9)] → s_X10_handOut_212 w x1 x3 P M x4 x6 x7 x8 x9 → W p l e rm_X10_handOut s m AV below meth c H locs 0 0 (MQ below (va_Qi P (WS G) (fun q => bs G ≤ q)) AV s 0 0 (fun q => bs G ≤ q)) (F0 m 212 ls []) := by
    intro M x4 x6 x7 x8 x9 H locs ls hW hS hl h
    unfold s_X10_handOut_212 at h
    refine lv_aload_n hx hb dX10_handOut_212 rfl (lv_at hl 0 rfl) ?_
    refine m_getr S hK fk_X10_21 (gr_1_2 G w) hW (ci_1 hi_w) dX10_handOut_213 ?_
    refine lv_aload_n hx hb dX10_handOut_216 rfl (lv_at hl 0 rfl) ?_
    refine m_getr S hK fk_X10_12 (gr_1_1 G w) hW (ci_1 hi_w) dX10_handOut_217 ?_
    refine m_getr S hK fk_X10_107 (gr_2_1 G w) hW (ci_2 hi_w) dX10_handOut_220 ?_
    refine lv_iload_n hx hb dX10_handOut_223 rfl (lv_at hl 1 rfl) ?_
    obtain ⟨hb224, h⟩ := h
    refine m_ald S hK (ar_15 G) hW (ci_15 hi_w) hb224 dX10_handOut_224 ?_
    refine m_ci0 (m_rV S hKX hW (m_szH hbs hS) (c_X4_price l hi_w) h lk_X10_195 (m_recv hK hW (ci_3 hi_w) (rc_3 G) rfl) rfl hl.1 rfl ⟨Nat.le_of_ble_eq_true rfl, Nat.le_of_ble_eq_true rfl⟩ (Nat.le_of_ble_eq_true rfl) ⟨Nat.le_of_ble_eq_true rfl, Nat.le_of_ble_eq_true rfl⟩ dX10_handOut_225) hS rfl rfl (fun rr225 Mm225 H locs h hW hS => ?_)
    refine lv_istore (lv' := [(10, .int rr225), (0, .ref (ad G 1 w)), (1, .int x1), (3, .int x3), (4, .int x4), (6, .int x6), (7, .int x7), (8, .int x8), (9, .int x9)]) hx hb dX10_handOut_228 hl (by decide) rfl (fun ls hl => ?_)
    refine lv_aload_n hx hb dX10_handOut_230 rfl (lv_at hl 1 rfl) ?_
    refine m_getr S hK fk_X10_12 (gr_1_1 G w) hW (ci_1 hi_w) dX10_handOut_231 ?_
    refine lv_iload_n hx hb dX10_handOut_234 rfl (lv_at hl 2 rfl) ?_
    refine lv_bipush hx hb dX10_handOut_235 kb_10 ?_
    refine lv_iconst hx hb dX10_handOut_237 ki_1 ?_
    refine lv_iload hx hb dX10_handOut_238 (lv_at hl 6 rfl) ?_
    refine lv_iload hx hb dX10_handOut_240 (lv_at hl 7 rfl) ?_
    refine lv_isub hx hb dX10_handOut_242 ?_
    refine lv_iload hx hb dX10_handOut_243 (lv_at hl 0 rfl) ?_
    refine m_ci0 (m_rS S hKX hW (m_szH hbs hS) (c_X3_paid l ) h lk_X10_200 rfl hl.1 rfl ⟨Nat.le_of_ble_eq_true rfl, Nat.le_of_ble_eq_true rfl⟩ (Nat.le_of_ble_eq_true rfl) ⟨Nat.le_of_ble_eq_true rfl, Nat.le_of_ble_eq_true rfl⟩ dX10_handOut_245) hS rfl rfl (fun rr245 Mm245 H locs h hW hS => ?_)
    refine lv_iconst hx hb dX10_handOut_248 ki_3 ?_
    refine lv_iload hx hb dX10_handOut_249 (lv_at hl 7 rfl) ?_
    refine lv_iload hx hb dX10_handOut_251 (lv_at hl 0 rfl) ?_
    refine m_ci0 (m_rS S hKX hW (m_szH hbs hS) (c_X3_paid l ) h lk_X10_200 rfl hl.1 rfl ⟨Nat.le_of_ble_eq_true rfl, Nat.le_of_ble_eq_true rfl⟩ (Nat.le_of_ble_eq_true rfl) ⟨Nat.le_of_ble_eq_true rfl, Nat.le_of_ble_eq_true rfl⟩ dX10_handOut_253) hS rfl rfl (fun rr253 Mm253 H locs h hW hS => ?_)
    refine lv_iadd hx hb dX10_handOut_256 ?_
    refine lv_iconst hx hb dX10_handOut_257 ki_4 ?_
    refine lv_iload hx hb dX10_handOut_258 (lv_at hl 5 rfl) ?_
    refine lv_iload hx hb dX10_handOut_260 (lv_at hl 0 rfl) ?_
    refine m_ci0 (m_rS S hKX hW (m_szH hbs hS) (c_X3_paid l ) h lk_X10_200 rfl hl.1 rfl ⟨Nat.le_of_ble_eq_true rfl, Nat.le_of_ble_eq_true rfl⟩ (Nat.le_of_ble_eq_true rfl) ⟨Nat.le_of_ble_eq_true rfl, Nat.le_of_ble_eq_true rfl⟩ dX10_handOut_262) hS rfl rfl (fun rr262 Mm262 H locs h hW hS => ?_)
    refine lv_iadd hx hb dX10_handOut_265 ?_
    refine lv_iconst hx hb dX10_handOut_266 ki_5 ?_
    refine lv_iload hx hb dX10_handOut_267 (lv_at hl 4 rfl) ?_
    refine lv_iload hx hb dX10_handOut_269 (lv_at hl 0 rfl) ?_
    refine m_ci0 (m_rS S hKX hW (m_szH hbs hS) (c_X3_paid l ) h lk_X10_200 rfl hl.1 rfl ⟨Nat.le_of_ble_eq_true rfl, Nat.le_of_ble_eq_true rfl⟩ (Nat.le_of_ble_eq_true rfl) ⟨Nat.le_of_ble_eq_true rfl, Nat.le_of_ble_eq_true rfl⟩ dX10_handOut_271) hS rfl rfl (fun rr271 Mm271 H locs h hW hS => ?_)
    refine lv_iadd hx hb dX10_handOut_274 ?_
    refine lv_bipush hx hb dX10_handOut_275 kb_6 ?_
    refine lv_iload_n hx hb dX10_handOut_277 rfl (lv_at hl 3 rfl) ?_
    refine lv_iload hx hb dX10_handOut_278 (lv_at hl 0 rfl) ?_
    refine m_ci0 (m_rS S hKX hW (m_szH hbs hS) (c_X3_paid l ) h lk_X10_200 rfl hl.1 rfl ⟨Nat.le_of_ble_eq_true rfl, Nat.le_of_ble_eq_true rfl⟩ (Nat.le_of_ble_eq_true rfl) ⟨Nat.le_of_ble_eq_true rfl, Nat.le_of_ble_eq_true rfl⟩ dX10_handOut_280) hS rfl rfl (fun rr280 Mm280 H locs h hW hS => ?_)
    refine lv_iadd hx hb dX10_handOut_283 ?_
    refine m_cv0 (m_rV S hKX hW (m_szH hbs hS) (c_X8_addTo l hi_w) h lk_X10_174 (m_recv hK hW (ci_2 hi_w) (rc_2 G) rfl) rfl hl.1 rfl ⟨Nat.le_of_ble_eq_true rfl, Nat.le_of_ble_eq_true rfl⟩ (Nat.le_of_ble_eq_true rfl) ⟨Nat.le_of_ble_eq_true rfl, Nat.le_of_ble_eq_true rfl⟩ dX10_handOut_284) hS rfl rfl (fun Mm284 H locs h hW hS => ?_)
    refine lv_iload hx hb dX10_handOut_287 (lv_at hl 5 rfl) ?_
    refine lv_iload hx hb dX10_handOut_289 (lv_at hl 6 rfl) ?_
    refine lv_iadd hx hb dX10_handOut_291 ?_
    refine lv_iload hx hb dX10_handOut_292 (lv_at hl 8 rfl) ?_
    refine lv_isub hx hb dX10_handOut_294 ?_
    exact m_iret S hret hlocks hKX hW hbs hS rfl h dX10_handOut_295
  have b64 : ∀ (M : Mem) (x4 : Int32) (y0 : Int32) (H : Heap) (locs : List Loc) (ls : Array Slot), WPm G M H → va_S (fun q => bs G ≤ q) s.heap H locs → lv_has ls 11 [(0, .ref (ad G 1 w)), (1, .int x1), (2, .int x2), (3, .int x3), (4, .int x4)] → s_X10_handOut_64 w x1 x2 x3 P M x4 y0 → W p l e rm_X10_handOut s m AV below meth c H locs 0 0 (MQ below (va_Qi P (WS G) (fun q => bs G ≤ q)) AV s 0 0 (fun q => bs G ≤ q)) (F0 m 64 ls [.int y0]) := by
    intro M x4 y0 H locs ls hW hS hl h
    unfold s_X10_handOut_64 at h
    refine lv_istore (lv' := [(6, .int y0), (0, .ref (ad G 1 w)), (1, .int x1), (2, .int x2), (3, .int x3), (4, .int x4)]) hx hb dX10_handOut_64 hl (by decide) rfl (fun ls hl => ?_)
    refine lv_iload_n hx hb dX10_handOut_66 rfl (lv_at hl 3 rfl) ?_
    refine lv_iload hx hb dX10_handOut_67 (lv_at hl 5 rfl) ?_
    refine lv_isub hx hb dX10_handOut_69 ?_
    refine lv_iload hx hb dX10_handOut_70 (lv_at hl 0 rfl) ?_
    refine lv_isub hx hb dX10_handOut_72 ?_
    refine lv_topi (fun x7_73 ex7_73 => ?_)
    replace h := h x7_73 ex7_73
    refine lv_istore (lv' := [(7, .int x7_73), (6, .int y0), (0, .ref (ad G 1 w)), (1, .int x1), (2, .int x2), (3, .int x3), (4, .int x4)]) hx hb dX10_handOut_73 hl (by decide) rfl (fun ls hl => ?_)
    refine lv_iload hx hb dX10_handOut_75 (lv_at hl 0 rfl) ?_
    refine lv_aload_n hx hb dX10_handOut_77 rfl (lv_at hl 2 rfl) ?_
    refine m_getr S hK fk_X10_12 (gr_1_1 G w) hW (ci_1 hi_w) dX10_handOut_78 ?_
    refine m_getr S hK fk_X10_189 (gr_2_4 G w) hW (ci_2 hi_w) dX10_handOut_81 ?_
    refine lv_iload_n hx hb dX10_handOut_84 rfl (lv_at hl 3 rfl) ?_
    obtain ⟨hb85, h⟩ := h
    refine m_ald S hK (ar_18 G) hW (ci_18 hi_w) hb85 dX10_handOut_85 ?_
    refine lv_imul hx hb dX10_handOut_86 ?_
    refine lv_bipush hx hb dX10_handOut_87 kb_100 ?_
    refine lv_idiv hx hb dX10_handOut_89 nz_100 ?_
    refine lv_topi (fun x8_90 ex8_90 => ?_)
    replace h := h x8_90 ex8_90
    refine lv_istore (lv' := [(8, .int x8_90), (7, .int x7_73), (6, .int y0), (0, .ref (ad G 1 w)), (1, .int x1), (2, .int x2), (3, .int x3), (4, .int x4)]) hx hb dX10_handOut_90 hl (by decide) rfl (fun ls hl => ?_)
    refine lv_iload hx hb dX10_handOut_92 (lv_at hl 1 rfl) ?_
    refine lv_aload_n hx hb dX10_handOut_94 rfl (lv_at hl 3 rfl) ?_
    refine m_getr S hK fk_X10_12 (gr_1_1 G w) hW (ci_1 hi_w) dX10_handOut_95 ?_
    refine m_getr S hK fk_X10_192 (gr_2_5 G w) hW (ci_2 hi_w) dX10_handOut_98 ?_
    refine lv_iload_n hx hb dX10_handOut_101 rfl (lv_at hl 4 rfl) ?_
    obtain ⟨hb102, h⟩ := h
    refine m_ald S hK (ar_19 G) hW (ci_19 hi_w) hb102 dX10_handOut_102 ?_
    refine lv_imul hx hb dX10_handOut_103 ?_
    refine lv_bipush hx hb dX10_handOut_104 kb_100 ?_
    refine lv_idiv hx hb dX10_handOut_106 nz_100 ?_
    refine lv_topi (fun x9_107 ex9_107 => ?_)
    replace h := h x9_107 ex9_107
    refine lv_istore (lv' := [(9, .int x9_107), (8, .int x8_90), (7, .int x7_73), (6, .int y0), (0, .ref (ad G 1 w)), (1, .int x1), (2, .int x2), (3, .int x3), (4, .int x4)]) hx hb dX10_handOut_107 hl (by decide) rfl (fun ls hl => ?_)
    refine lv_aload_n hx hb dX10_handOut_109 rfl (lv_at hl 4 rfl) ?_
    refine m_getr S hK fk_X10_12 (gr_1_1 G w) hW (ci_1 hi_w) dX10_handOut_110 ?_
    refine lv_iload_n hx hb dX10_handOut_113 rfl (lv_at hl 5 rfl) ?_
    refine lv_iconst hx hb dX10_handOut_114 ki_3 ?_
    refine lv_iload hx hb dX10_handOut_115 (lv_at hl 8 rfl) ?_
    refine m_cv0 (m_rV S hKX hW (m_szH hbs hS) (c_X8_addTo l hi_w) h lk_X10_174 (m_recv hK hW (ci_2 hi_w) (rc_2 G) rfl) rfl hl.1 rfl ⟨Nat.le_of_ble_eq_true rfl, Nat.le_of_ble_eq_true rfl⟩ (Nat.le_of_ble_eq_true rfl) ⟨Nat.le_of_ble_eq_true rfl, Nat.le_of_ble_eq_true rfl⟩ dX10_handOut_117) hS rfl rfl (fun Mm117 H locs h hW hS => ?_)
    refine lv_aload_n hx hb dX10_handOut_120 rfl (lv_at hl 4 rfl) ?_
    refine m_getr S hK fk_X10_12 (gr_1_1 G w) hW (ci_1 hi_w) dX10_handOut_121 ?_
    refine lv_iload_n hx hb dX10_handOut_124 rfl (lv_at hl 5 rfl) ?_
    refine lv_iconst hx hb dX10_handOut_125 ki_4 ?_
    refine lv_iload hx hb dX10_handOut_126 (lv_at hl 3 rfl) ?_
    refine m_cv0 (m_rV S hKX hW (m_szH hbs hS) (c_X8_addTo l hi_w) h lk_X10_174 (m_recv hK hW (ci_2 hi_w) (rc_2 G) rfl) rfl hl.1 rfl ⟨Nat.le_of_ble_eq_true rfl, Nat.le_of_ble_eq_true rfl⟩ (Nat.le_of_ble_eq_true rfl) ⟨Nat.le_of_ble_eq_true rfl, Nat.le_of_ble_eq_true rfl⟩ dX10_handOut_128) hS rfl rfl (fun Mm128 H locs h hW hS => ?_)
    refine lv_aload_n hx hb dX10_handOut_131 rfl (lv_at hl 4 rfl) ?_
    refine m_getr S hK fk_X10_12 (gr_1_1 G w) hW (ci_1 hi_w) dX10_handOut_132 ?_
    refine lv_iload_n hx hb dX10_handOut_135 rfl (lv_at hl 5 rfl) ?_
    refine lv_iconst hx hb dX10_handOut_136 ki_5 ?_
    refine lv_iload hx hb dX10_handOut_137 (lv_at hl 2 rfl) ?_
    refine m_cv0 (m_rV S hKX hW (m_szH hbs hS) (c_X8_addTo l hi_w) h lk_X10_174 (m_recv hK hW (ci_2 hi_w) (rc_2 G) rfl) rfl hl.1 rfl ⟨Nat.le_of_ble_eq_true rfl, Nat.le_of_ble_eq_true rfl⟩ (Nat.le_of_ble_eq_true rfl) ⟨Nat.le_of_ble_eq_true rfl, Nat.le_of_ble_eq_true rfl⟩ dX10_handOut_139) hS rfl rfl (fun Mm139 H locs h hW hS => ?_)
    refine lv_aload_n hx hb dX10_handOut_142 rfl (lv_at hl 4 rfl) ?_
    refine m_getr S hK fk_X10_12 (gr_1_1 G w) hW (ci_1 hi_w) dX10_handOut_143 ?_
    refine lv_iload_n hx hb dX10_handOut_146 rfl (lv_at hl 5 rfl) ?_
    refine lv_bipush hx hb dX10_handOut_147 kb_6 ?_
    refine lv_iload hx hb dX10_handOut_149 (lv_at hl 1 rfl) ?_
    refine m_cv0 (m_rV S hKX hW (m_szH hbs hS) (c_X8_addTo l hi_w) h lk_X10_174 (m_recv hK hW (ci_2 hi_w) (rc_2 G) rfl) rfl hl.1 rfl ⟨Nat.le_of_ble_eq_true rfl, Nat.le_of_ble_eq_true rfl⟩ (Nat.le_of_ble_eq_true rfl) ⟨Nat.le_of_ble_eq_true rfl, Nat.le_of_ble_eq_true rfl⟩ dX10_handOut_151) hS rfl rfl (fun Mm151 H locs h hW hS => ?_)
    refine lv_aload_n hx hb dX10_handOut_154 rfl (lv_at hl 4 rfl) ?_
    refine m_getr S hK fk_X10_12 (gr_1_1 G w) hW (ci_1 hi_w) dX10_handOut_155 ?_
    refine lv_iload_n hx hb dX10_handOut_158 rfl (lv_at hl 5 rfl) ?_
    refine lv_bipush hx hb dX10_handOut_159 kb_7 ?_
    refine lv_iload hx hb dX10_handOut_161 (lv_at hl 2 rfl) ?_
    refine lv_iload hx hb dX10_handOut_163 (lv_at hl 0 rfl) ?_
    refine lv_isub hx hb dX10_handOut_165 ?_
    refine m_cv0 (m_rV S hKX hW (m_szH hbs hS) (c_X8_addTo l hi_w) h lk_X10_174 (m_recv hK hW (ci_2 hi_w) (rc_2 G) rfl) rfl hl.1 rfl ⟨Nat.le_of_ble_eq_true rfl, Nat.le_of_ble_eq_true rfl⟩ (Nat.le_of_ble_eq_true rfl) ⟨Nat.le_of_ble_eq_true rfl, Nat.le_of_ble_eq_true rfl⟩ dX10_handOut_166) hS rfl rfl (fun Mm166 H locs h hW hS => ?_)
    refine lv_aload_n hx hb dX10_handOut_169 rfl (lv_at hl 4 rfl) ?_
    refine m_getr S hK fk_X10_12 (gr_1_1 G w) hW (ci_1 hi_w) dX10_handOut_170 ?_
    refine lv_iload_n hx hb dX10_handOut_173 rfl (lv_at hl 5 rfl) ?_
    refine lv_bipush hx hb dX10_handOut_174 kb_8 ?_
    refine lv_iload hx hb dX10_handOut_176 (lv_at hl 0 rfl) ?_
    refine m_cv0 (m_rV S hKX hW (m_szH hbs hS) (c_X8_addTo l hi_w) h lk_X10_174 (m_recv hK hW (ci_2 hi_w) (rc_2 G) rfl) rfl hl.1 rfl ⟨Nat.le_of_ble_eq_true rfl, Nat.le_of_ble_eq_true rfl⟩ (Nat.le_of_ble_eq_true rfl) ⟨Nat.le_of_ble_eq_true rfl, Nat.le_of_ble_eq_true rfl⟩ dX10_handOut_178) hS rfl rfl (fun Mm178 H locs h hW hS => ?_)
    refine lv_iload hx hb dX10_handOut_181 (lv_at hl 0 rfl) ?_
    refine lv_if_le (tgt := 212) hx hb dX10_handOut_183 (by decide) (fun c183 => ?_) (fun c183 => ?_)
    · replace h := h.1 c183
      exact b212 _ _ _ _ _ _ H locs ls hW hS (lv_sub hl [4, 5, 7, 8, 3, 2, 1, 0] rfl) h
    · replace h := h.2 c183
      refine lv_aload_n hx hb dX10_handOut_186 rfl (lv_at hl 4 rfl) ?_
      refine lv_iconst hx hb dX10_handOut_187 ki_2 ?_
      refine lv_iload_n hx hb dX10_handOut_188 rfl (lv_at hl 5 rfl) ?_
      refine lv_iconst hx hb dX10_handOut_189 ki_0 ?_
      refine lv_aload_n hx hb dX10_handOut_190 rfl (lv_at hl 4 rfl) ?_
      refine m_geti S hK fk_X10_67 (gi_1_0 G) hW (ci_1 hi_w) dX10_handOut_191 ?_
      refine m_ci0 (m_rV S hKX hW (m_szH hbs hS) (c_X10_purposeHolds l hi_w) h lk_X10_186 (m_recv hK hW (ci_1 hi_w) (rc_1 G) rfl) rfl hl.1 rfl ⟨Nat.le_of_ble_eq_true rfl, Nat.le_of_ble_eq_true rfl⟩ (Nat.le_of_ble_eq_true rfl) ⟨Nat.le_of_ble_eq_true rfl, Nat.le_of_ble_eq_true rfl⟩ dX10_handOut_194) hS rfl rfl (fun rr194 Mm194 H locs h hW hS => ?_)
      refine lv_if_eq (tgt := 212) hx hb dX10_handOut_197 (by decide) (fun c197 => ?_) (fun c197 => ?_)
      · replace h := h.1 c197
        exact b212 _ _ _ _ _ _ H locs ls hW hS (lv_sub hl [4, 5, 7, 8, 3, 2, 1, 0] rfl) h
      · replace h := h.2 c197
        refine lv_aload_n hx hb dX10_handOut_200 rfl (lv_at hl 4 rfl) ?_
        refine m_getr S hK fk_X10_12 (gr_1_1 G w) hW (ci_1 hi_w) dX10_handOut_201 ?_
        refine lv_iload_n hx hb dX10_handOut_204 rfl (lv_at hl 5 rfl) ?_
        refine lv_bipush hx hb dX10_handOut_205 kb_9 ?_
        refine lv_iload hx hb dX10_handOut_207 (lv_at hl 0 rfl) ?_
        refine m_cv0 (m_rV S hKX hW (m_szH hbs hS) (c_X8_addTo l hi_w) h lk_X10_174 (m_recv hK hW (ci_2 hi_w) (rc_2 G) rfl) rfl hl.1 rfl ⟨Nat.le_of_ble_eq_true rfl, Nat.le_of_ble_eq_true rfl⟩ (Nat.le_of_ble_eq_true rfl) ⟨Nat.le_of_ble_eq_true rfl, Nat.le_of_ble_eq_true rfl⟩ dX10_handOut_209) hS rfl rfl (fun Mm209 H locs h hW hS => ?_)
        exact b212 _ _ _ _ _ _ H locs ls hW hS (lv_sub hl [4, 5, 7, 8, 3, 2, 1, 0] rfl) h
  have b49 : ∀ (M : Mem) (x4 : Int32) (y0 : Int32) (H : Heap) (locs : List Loc) (ls : Array Slot), WPm G M H → va_S (fun q => bs G ≤ q) s.heap H locs → lv_has ls 11 [(0, .ref (ad G 1 w)), (1, .int x1), (2, .int x2), (3, .int x3), (4, .int x4)] → s_X10_handOut_49 w x1 x2 x3 P M x4 y0 → W p l e rm_X10_handOut s m AV below meth c H locs 0 0 (MQ below (va_Qi P (WS G) (fun q => bs G ≤ q)) AV s 0 0 (fun q => bs G ≤ q)) (F0 m 49 ls [.int y0]) := by
    intro M x4 y0 H locs ls hW hS hl h
    unfold s_X10_handOut_49 at h
    refine lv_istore (lv' := [(5, .int y0), (0, .ref (ad G 1 w)), (1, .int x1), (2, .int x2), (3, .int x3), (4, .int x4)]) hx hb dX10_handOut_49 hl (by decide) rfl (fun ls hl => ?_)
    refine lv_iload hx hb dX10_handOut_51 (lv_at hl 0 rfl) ?_
    refine lv_if_eq (tgt := 63) hx hb dX10_handOut_53 (by decide) (fun c53 => ?_) (fun c53 => ?_)
    · replace h := h.1 c53
      refine lv_iconst hx hb dX10_handOut_63 ki_0 ?_
      exact b64 _ _ _ H locs ls hW hS (lv_sub hl [1, 2, 3, 4, 5] rfl) h
    · replace h := h.2 c53
      refine lv_iload_n hx hb dX10_handOut_56 rfl (lv_at hl 3 rfl) ?_
      refine lv_iload hx hb dX10_handOut_57 (lv_at hl 5 rfl) ?_
      refine lv_isub hx hb dX10_handOut_59 ?_
      refine lv_goto (tgt := 64) hx hb dX10_handOut_60 (by decide) ?_
      exact b64 _ _ _ H locs ls hW hS (lv_sub hl [1, 2, 3, 4, 5] rfl) h
  unfold s_X10_handOut at h
  refine lv_iload_n hx hb dX10_handOut_0 rfl (lv_at hl 2 rfl) ?_
  refine lv_aload_n hx hb dX10_handOut_1 rfl (lv_at hl 0 rfl) ?_
  refine lv_aload_n hx hb dX10_handOut_2 rfl (lv_at hl 0 rfl) ?_
  refine m_geti S hK fk_X10_67 (gi_1_0 G) hW (ci_1 hi_w) dX10_handOut_3 ?_
  refine lv_iconst hx hb dX10_handOut_6 ki_0 ?_
  refine m_ci0 (m_rV S hKX hW (m_szH hbs hS) (c_X10_monthFact l hi_w) h lk_X10_119 (m_recv hK hW (ci_1 hi_w) (rc_1 G) rfl) rfl hl.1 rfl ⟨Nat.le_of_ble_eq_true rfl, Nat.le_of_ble_eq_true rfl⟩ (Nat.le_of_ble_eq_true rfl) ⟨Nat.le_of_ble_eq_true rfl, Nat.le_of_ble_eq_true rfl⟩ dX10_handOut_7) hS rfl rfl (fun rr7 Mm7 H locs h hW hS => ?_)
  refine lv_imul hx hb dX10_handOut_10 ?_
  refine lv_bipush hx hb dX10_handOut_11 kb_100 ?_
  refine lv_idiv hx hb dX10_handOut_13 nz_100 ?_
  refine lv_topi (fun x4_14 ex4_14 => ?_)
  replace h := h x4_14 ex4_14
  refine lv_istore (lv' := [(4, .int x4_14), (0, .ref (ad G 1 w)), (1, .int x1), (2, .int x2), (3, .int x3)]) hx hb dX10_handOut_14 hl (by decide) rfl (fun ls hl => ?_)
  refine lv_aload_n hx hb dX10_handOut_16 rfl (lv_at hl 1 rfl) ?_
  refine lv_aload_n hx hb dX10_handOut_17 rfl (lv_at hl 1 rfl) ?_
  refine m_geti S hK fk_X10_67 (gi_1_0 G) hW (ci_1 hi_w) dX10_handOut_18 ?_
  refine lv_iconst hx hb dX10_handOut_21 ki_1 ?_
  refine m_ci0 (m_rV S hKX hW (m_szH hbs hS) (c_X10_monthFact l hi_w) h lk_X10_119 (m_recv hK hW (ci_1 hi_w) (rc_1 G) rfl) rfl hl.1 rfl ⟨Nat.le_of_ble_eq_true rfl, Nat.le_of_ble_eq_true rfl⟩ (Nat.le_of_ble_eq_true rfl) ⟨Nat.le_of_ble_eq_true rfl, Nat.le_of_ble_eq_true rfl⟩ dX10_handOut_22) hS rfl rfl (fun rr22 Mm22 H locs h hW hS => ?_)
  refine lv_bipush hx hb dX10_handOut_25 kb_20 ?_
  refine lv_icmp_lt (tgt := 48) hx hb dX10_handOut_27 (by decide) (fun c27 => ?_) (fun c27 => ?_)
  · replace h := h.1 c27
    refine lv_iconst hx hb dX10_handOut_48 ki_0 ?_
    exact b49 _ _ _ H locs ls hW hS (lv_sub hl [1, 2, 3, 4, 0] rfl) h
  · replace h := h.2 c27
    refine lv_aload_n hx hb dX10_handOut_30 rfl (lv_at hl 1 rfl) ?_
    refine lv_iconst hx hb dX10_handOut_31 ki_1 ?_
    refine lv_iload_n hx hb dX10_handOut_32 rfl (lv_at hl 2 rfl) ?_
    refine lv_iconst hx hb dX10_handOut_33 ki_0 ?_
    refine lv_aload_n hx hb dX10_handOut_34 rfl (lv_at hl 1 rfl) ?_
    refine m_geti S hK fk_X10_67 (gi_1_0 G) hW (ci_1 hi_w) dX10_handOut_35 ?_
    refine m_ci0 (m_rV S hKX hW (m_szH hbs hS) (c_X10_purposeHolds l hi_w) h lk_X10_186 (m_recv hK hW (ci_1 hi_w) (rc_1 G) rfl) rfl hl.1 rfl ⟨Nat.le_of_ble_eq_true rfl, Nat.le_of_ble_eq_true rfl⟩ (Nat.le_of_ble_eq_true rfl) ⟨Nat.le_of_ble_eq_true rfl, Nat.le_of_ble_eq_true rfl⟩ dX10_handOut_38) hS rfl rfl (fun rr38 Mm38 H locs h hW hS => ?_)
    refine lv_if_eq (tgt := 48) hx hb dX10_handOut_41 (by decide) (fun c41 => ?_) (fun c41 => ?_)
    · replace h := h.1 c41
      refine lv_iconst hx hb dX10_handOut_48 ki_0 ?_
      exact b49 _ _ _ H locs ls hW hS (lv_sub hl [1, 2, 3, 4, 0] rfl) h
    · replace h := h.2 c41
      refine lv_iconst hx hb dX10_handOut_44 ki_1 ?_
      refine lv_goto (tgt := 49) hx hb dX10_handOut_45 (by decide) ?_
      exact b49 _ _ _ H locs ls hW hS (lv_sub hl [1, 2, 3, 4, 0] rfl) h
abbrev rm_X10_passSchoolDay : Room := { frames := 5, cells := 0, slots := 0, locals := 128 }
set_option maxHeartbeats 4000000 in
set_option maxRecDepth 100000 in
theorem c_X10_passSchoolDay (l : Launch) {G : Gn} {M : Mem} {w : Nat} {x1 : Int32} {P : Mem → Prop} (hi_w : w < 3) : MQv l yX10_passSchoolDay cX10_passSchoolDay 7 none rm_X10_passSchoolDay [.ref (ad G 1 w), .int x1] G M (s_X10_passSchoolDay w M x1 P) P := by
  refine m_enter (by decide +kernel) (Nat.le_of_ble_eq_true rfl) ?_
  intro p e s m below meth c ls H locs S hret hlocks hname hKX hbs hW hS hl h
  obtain ⟨AV, hAV⟩ : ∃ z : Array Value, z = ([.ref (ad G 1 w), .int x1] : List Value).toArray := ⟨_, rfl⟩
  rw [← hAV] at S ⊢
  replace S : CallFix p m c cX10_passSchoolDay 7 s AV lw_G "MilkDesk$World" := S
  have hK := hKX.1
  have hx := S.1
  have hb := S.2.1
  have hml := S.2.2.1
  have hown := S.2.2.2.1
  have hts := S.2.2.2.2
  replace hl : lv_has ls 7 [(0, .ref (ad G 1 w)), (1, .int x1)] := hl
  have w22 : ∀ (n : Nat) (a : Mem × Int32), Lz (fun (K22 : Mem × Int32 → Prop) (a : Mem × Int32) => s_X10_passSchoolDay_22 w x1 P K22 a.1 a.2) n a → ∀ (H : Heap) (locs : List Loc) (ls : Array Slot), WPm G a.1 H → va_S (fun q => bs G ≤ q) s.heap H locs → lv_has ls 7 [(0, .ref (ad G 1 w)), (1, .int x1), (2, .int a.2)] → W p l e rm_X10_passSchoolDay s m AV below meth c H locs 0 0 (MQ below (va_Qv P (WS G) (fun q => bs G ≤ q)) AV s 0 0 (fun q => bs G ≤ q)) (F0 m 22 ls []) := by
    refine Lz_walk ?_
    rintro K22 kk22 ⟨M, x2⟩ h H locs ls hW hS hl
    replace h : s_X10_passSchoolDay_22 w x1 P K22 M x2 := h
    replace hW : WPm G M H := hW
    replace hl : lv_has ls 7 [(0, .ref (ad G 1 w)), (1, .int x1), (2, .int x2)] := hl
    have b88 : ∀ (M : Mem) (x2 : Int32) (x3 : Int32) (x4 : Int32) (y0 : Int32) (H : Heap) (locs : List Loc) (ls : Array Slot), WPm G M H → va_S (fun q => bs G ≤ q) s.heap H locs → lv_has ls 7 [(0, .ref (ad G 1 w)), (1, .int x1), (2, .int x2), (3, .int x3), (4, .int x4)] → s_X10_passSchoolDay_88 w x1 P K22 M x2 x3 x4 y0 → W p l e rm_X10_passSchoolDay s m AV below meth c H locs 0 0 (MQ below (va_Qv P (WS G) (fun q => bs G ≤ q)) AV s 0 0 (fun q => bs G ≤ q)) (F0 m 88 ls [.int y0]) := by
      intro M x2 x3 x4 y0 H locs ls hW hS hl h
      unfold s_X10_passSchoolDay_88 at h
      refine lv_istore (lv' := [(5, .int y0), (0, .ref (ad G 1 w)), (1, .int x1), (2, .int x2), (3, .int x3), (4, .int x4)]) hx hb dX10_passSchoolDay_88 hl (by decide) rfl (fun ls hl => ?_)
      refine lv_aload_n hx hb dX10_passSchoolDay_90 rfl (lv_at hl 1 rfl) ?_
      refine lv_dup hx hb dX10_passSchoolDay_91 rfl ?_
      refine m_geti S hK fk_X10_159 (gi_1_9 G) hW (ci_1 hi_w) dX10_passSchoolDay_92 ?_
      refine lv_iload hx hb dX10_passSchoolDay_95 (lv_at hl 0 rfl) ?_
      refine lv_isub hx hb dX10_passSchoolDay_97 ?_
      refine m_put S hK fk_X10_159 tyX10_ok nmX10 rfl pf_X10_9 (pv_1_9 G) hW hS (ci_1 hi_w) rfl rfl dX10_passSchoolDay_98 (fun Mm98 eMm98 H locs hW hS => ?_)
      replace h := h Mm98 eMm98
      refine lv_aload_n hx hb dX10_passSchoolDay_101 rfl (lv_at hl 1 rfl) ?_
      refine m_getr S hK fk_X10_12 (gr_1_1 G w) hW (ci_1 hi_w) dX10_passSchoolDay_102 ?_
      refine lv_iload_n hx hb dX10_passSchoolDay_105 rfl (lv_at hl 3 rfl) ?_
      refine lv_iconst hx hb dX10_passSchoolDay_106 ki_0 ?_
      refine lv_iload_n hx hb dX10_passSchoolDay_107 rfl (lv_at hl 4 rfl) ?_
      refine m_cv0 (m_rV S hKX hW (m_szH hbs hS) (c_X8_addTo l hi_w) h lk_X10_174 (m_recv hK hW (ci_2 hi_w) (rc_2 G) rfl) rfl hl.1 rfl ⟨Nat.le_of_ble_eq_true rfl, Nat.le_of_ble_eq_true rfl⟩ (Nat.le_of_ble_eq_true rfl) ⟨Nat.le_of_ble_eq_true rfl, Nat.le_of_ble_eq_true rfl⟩ dX10_passSchoolDay_108) hS rfl rfl (fun Mm108 H locs h hW hS => ?_)
      refine lv_aload_n hx hb dX10_passSchoolDay_111 rfl (lv_at hl 1 rfl) ?_
      refine m_getr S hK fk_X10_12 (gr_1_1 G w) hW (ci_1 hi_w) dX10_passSchoolDay_112 ?_
      refine lv_iload_n hx hb dX10_passSchoolDay_115 rfl (lv_at hl 3 rfl) ?_
      refine lv_iconst hx hb dX10_passSchoolDay_116 ki_1 ?_
      refine lv_iload hx hb dX10_passSchoolDay_117 (lv_at hl 0 rfl) ?_
      refine m_cv0 (m_rV S hKX hW (m_szH hbs hS) (c_X8_addTo l hi_w) h lk_X10_174 (m_recv hK hW (ci_2 hi_w) (rc_2 G) rfl) rfl hl.1 rfl ⟨Nat.le_of_ble_eq_true rfl, Nat.le_of_ble_eq_true rfl⟩ (Nat.le_of_ble_eq_true rfl) ⟨Nat.le_of_ble_eq_true rfl, Nat.le_of_ble_eq_true rfl⟩ dX10_passSchoolDay_119) hS rfl rfl (fun Mm119 H locs h hW hS => ?_)
      refine lv_aload_n hx hb dX10_passSchoolDay_122 rfl (lv_at hl 1 rfl) ?_
      refine m_getr S hK fk_X10_12 (gr_1_1 G w) hW (ci_1 hi_w) dX10_passSchoolDay_123 ?_
      refine lv_iload_n hx hb dX10_passSchoolDay_126 rfl (lv_at hl 3 rfl) ?_
      refine lv_iconst hx hb dX10_passSchoolDay_127 ki_2 ?_
      refine lv_iload_n hx hb dX10_passSchoolDay_128 rfl (lv_at hl 4 rfl) ?_
      refine lv_iload hx hb dX10_passSchoolDay_129 (lv_at hl 0 rfl) ?_
      refine lv_isub hx hb dX10_passSchoolDay_131 ?_
      refine m_cv0 (m_rV S hKX hW (m_szH hbs hS) (c_X8_addTo l hi_w) h lk_X10_174 (m_recv hK hW (ci_2 hi_w) (rc_2 G) rfl) rfl hl.1 rfl ⟨Nat.le_of_ble_eq_true rfl, Nat.le_of_ble_eq_true rfl⟩ (Nat.le_of_ble_eq_true rfl) ⟨Nat.le_of_ble_eq_true rfl, Nat.le_of_ble_eq_true rfl⟩ dX10_passSchoolDay_132) hS rfl rfl (fun Mm132 H locs h hW hS => ?_)
      refine lv_aload_n hx hb dX10_passSchoolDay_135 rfl (lv_at hl 1 rfl) ?_
      refine lv_iload_n hx hb dX10_passSchoolDay_136 rfl (lv_at hl 3 rfl) ?_
      refine lv_iload hx hb dX10_passSchoolDay_137 (lv_at hl 0 rfl) ?_
      refine lv_iload_n hx hb dX10_passSchoolDay_139 rfl (lv_at hl 4 rfl) ?_
      refine lv_iload hx hb dX10_passSchoolDay_140 (lv_at hl 0 rfl) ?_
      refine lv_isub hx hb dX10_passSchoolDay_142 ?_
      refine m_ci0 (m_rV S hKX hW (m_szH hbs hS) (c_X10_handOut l hi_w) h lk_X10_177 (m_recv hK hW (ci_1 hi_w) (rc_1 G) rfl) rfl hl.1 rfl ⟨Nat.le_of_ble_eq_true rfl, Nat.le_of_ble_eq_true rfl⟩ (Nat.le_of_ble_eq_true rfl) ⟨Nat.le_of_ble_eq_true rfl, Nat.le_of_ble_eq_true rfl⟩ dX10_passSchoolDay_143) hS rfl rfl (fun rr143 Mm143 H locs h hW hS => ?_)
      refine lv_istore (lv' := [(6, .int rr143), (5, .int y0), (0, .ref (ad G 1 w)), (1, .int x1), (2, .int x2), (3, .int x3), (4, .int x4)]) hx hb dX10_passSchoolDay_146 hl (by decide) rfl (fun ls hl => ?_)
      refine lv_iload hx hb dX10_passSchoolDay_148 (lv_at hl 6 rfl) ?_
      refine lv_if_lt (tgt := 168) hx hb dX10_passSchoolDay_150 (by decide) (fun c150 => ?_) (fun c150 => ?_)
      · replace h := h.1 c150
        obtain ⟨x2_168, ex2_168⟩ : ∃ z : Int32, z = x2 + (1 : Int32) := ⟨_, rfl⟩
        replace h := h x2_168 ex2_168
        refine lv_iinc (v := x2_168) (lv' := [(2, .int x2_168), (6, .int rr143), (5, .int y0), (0, .ref (ad G 1 w)), (1, .int x1), (3, .int x3), (4, .int x4)]) hx hb dX10_passSchoolDay_168 hl (k := 4) rfl (by rw [ex2_168, ki_1]) (by decide) rfl (fun ls hl => ?_)
        refine lv_goto (tgt := 22) hx hb dX10_passSchoolDay_171 (by decide) ?_
        exact kk22 _ h H locs ls hW hS (lv_sub hl [3, 4, 0] rfl)
      · replace h := h.2 c150
        refine lv_aload_n hx hb dX10_passSchoolDay_153 rfl (lv_at hl 2 rfl) ?_
        refine m_getr S hK fk_X10_21 (gr_1_2 G w) hW (ci_1 hi_w) dX10_passSchoolDay_154 ?_
        refine m_getr S hK fk_X10_180 (gr_3_6 G w) hW (ci_3 hi_w) dX10_passSchoolDay_157 ?_
        refine lv_iload hx hb dX10_passSchoolDay_160 (lv_at hl 6 rfl) ?_
        refine lv_dup2_11 hx hb dX10_passSchoolDay_162 rfl rfl ?_
        obtain ⟨hb163, h⟩ := h
        refine m_ald S hK (ar_27 G) hW (ci_27 hi_w) hb163 dX10_passSchoolDay_163 ?_
        refine lv_iload hx hb dX10_passSchoolDay_164 (lv_at hl 0 rfl) ?_
        refine lv_iadd hx hb dX10_passSchoolDay_166 ?_
        obtain ⟨hb167, h⟩ := h
        refine m_ast S hK (ar_27 G) hW hS (ci_27 hi_w) hb167 dX10_passSchoolDay_167 (fun Mm167 eMm167 H locs hW hS => ?_)
        replace h := h Mm167 eMm167
        obtain ⟨x2_168, ex2_168⟩ : ∃ z : Int32, z = x2 + (1 : Int32) := ⟨_, rfl⟩
        replace h := h x2_168 ex2_168
        refine lv_iinc (v := x2_168) (lv' := [(2, .int x2_168), (6, .int rr143), (5, .int y0), (0, .ref (ad G 1 w)), (1, .int x1), (3, .int x3), (4, .int x4)]) hx hb dX10_passSchoolDay_168 hl (k := 4) rfl (by rw [ex2_168, ki_1]) (by decide) rfl (fun ls hl => ?_)
        refine lv_goto (tgt := 22) hx hb dX10_passSchoolDay_171 (by decide) ?_
        exact kk22 _ h H locs ls hW hS (lv_sub hl [3, 4, 0] rfl)
    unfold s_X10_passSchoolDay_22 at h
    refine lv_iload_n hx hb dX10_passSchoolDay_22 rfl (lv_at hl 2 rfl) ?_
    refine lv_aload_n hx hb dX10_passSchoolDay_23 rfl (lv_at hl 0 rfl) ?_
    refine m_getr S hK fk_X10_12 (gr_1_1 G w) hW (ci_1 hi_w) dX10_passSchoolDay_24 ?_
    refine m_geti S hK fk_X10_151 (gi_2_0 G) hW (ci_2 hi_w) dX10_passSchoolDay_27 ?_
    refine lv_icmp_ge (tgt := 174) hx hb dX10_passSchoolDay_30 (by decide) (fun c30 => ?_) (fun c30 => ?_)
    · replace h := h.1 c30
      refine lv_aload_n hx hb dX10_passSchoolDay_174 rfl (lv_at hl 0 rfl) ?_
      refine m_getr S hK fk_X10_21 (gr_1_2 G w) hW (ci_1 hi_w) dX10_passSchoolDay_175 ?_
      refine m_cv0 (m_rV S hKX hW (m_szH hbs hS) (c_X4_closeDay l hi_w) h lk_X10_183 (m_recv hK hW (ci_3 hi_w) (rc_3 G) rfl) rfl hl.1 rfl ⟨Nat.le_of_ble_eq_true rfl, Nat.le_of_ble_eq_true rfl⟩ (Nat.le_of_ble_eq_true rfl) ⟨Nat.le_of_ble_eq_true rfl, Nat.le_of_ble_eq_true rfl⟩ dX10_passSchoolDay_178) hS rfl rfl (fun Mm178 H locs h hW hS => ?_)
      exact m_vret S hret hlocks hKX hW hbs hS h dX10_passSchoolDay_181
    · replace h := h.2 c30
      refine lv_aload_n hx hb dX10_passSchoolDay_33 rfl (lv_at hl 0 rfl) ?_
      refine lv_iload_n hx hb dX10_passSchoolDay_34 rfl (lv_at hl 2 rfl) ?_
      refine lv_aload_n hx hb dX10_passSchoolDay_35 rfl (lv_at hl 0 rfl) ?_
      refine m_geti S hK fk_X10_67 (gi_1_0 G) hW (ci_1 hi_w) dX10_passSchoolDay_36 ?_
      refine lv_iload_n hx hb dX10_passSchoolDay_39 rfl (lv_at hl 1 rfl) ?_
      refine m_ci0 (m_rV S hKX hW (m_szH hbs hS) (c_X10_ordered l hi_w) h lk_X10_152 (m_recv hK hW (ci_1 hi_w) (rc_1 G) rfl) rfl hl.1 rfl ⟨Nat.le_of_ble_eq_true rfl, Nat.le_of_ble_eq_true rfl⟩ (Nat.le_of_ble_eq_true rfl) ⟨Nat.le_of_ble_eq_true rfl, Nat.le_of_ble_eq_true rfl⟩ dX10_passSchoolDay_40) hS rfl rfl (fun rr40 Mm40 H locs h hW hS => ?_)
      refine lv_istore_n (lv' := [(3, .int rr40), (0, .ref (ad G 1 w)), (1, .int x1), (2, .int x2)]) hx hb dX10_passSchoolDay_43 rfl hl (by decide) rfl (fun ls hl => ?_)
      refine lv_aload_n hx hb dX10_passSchoolDay_44 rfl (lv_at hl 1 rfl) ?_
      refine m_getr S hK fk_X10_21 (gr_1_2 G w) hW (ci_1 hi_w) dX10_passSchoolDay_45 ?_
      refine lv_aload_n hx hb dX10_passSchoolDay_48 rfl (lv_at hl 1 rfl) ?_
      refine m_getr S hK fk_X10_12 (gr_1_1 G w) hW (ci_1 hi_w) dX10_passSchoolDay_49 ?_
      refine m_getr S hK fk_X10_107 (gr_2_1 G w) hW (ci_2 hi_w) dX10_passSchoolDay_52 ?_
      refine lv_iload_n hx hb dX10_passSchoolDay_55 rfl (lv_at hl 3 rfl) ?_
      obtain ⟨hb56, h⟩ := h
      refine m_ald S hK (ar_15 G) hW (ci_15 hi_w) hb56 dX10_passSchoolDay_56 ?_
      refine m_ci0 (m_rV S hKX hW (m_szH hbs hS) (c_X4_winner l hi_w) h lk_X10_165 (m_recv hK hW (ci_3 hi_w) (rc_3 G) rfl) rfl hl.1 rfl ⟨Nat.le_of_ble_eq_true rfl, Nat.le_of_ble_eq_true rfl⟩ (Nat.le_of_ble_eq_true rfl) ⟨Nat.le_of_ble_eq_true rfl, Nat.le_of_ble_eq_true rfl⟩ dX10_passSchoolDay_57) hS rfl rfl (fun rr57 Mm57 H locs h hW hS => ?_)
      refine lv_istore (lv' := [(4, .int rr57), (3, .int rr40), (0, .ref (ad G 1 w)), (1, .int x1), (2, .int x2)]) hx hb dX10_passSchoolDay_60 hl (by decide) rfl (fun ls hl => ?_)
      refine lv_iload hx hb dX10_passSchoolDay_62 (lv_at hl 0 rfl) ?_
      refine lv_if_ge (tgt := 71) hx hb dX10_passSchoolDay_64 (by decide) (fun c64 => ?_) (fun c64 => ?_)
      · replace h := h.1 c64
        refine lv_aload_n hx hb dX10_passSchoolDay_71 rfl (lv_at hl 2 rfl) ?_
        refine m_getr S hK fk_X10_21 (gr_1_2 G w) hW (ci_1 hi_w) dX10_passSchoolDay_72 ?_
        refine lv_iload hx hb dX10_passSchoolDay_75 (lv_at hl 0 rfl) ?_
        refine lv_iload_n hx hb dX10_passSchoolDay_77 rfl (lv_at hl 1 rfl) ?_
        refine lv_aload_n hx hb dX10_passSchoolDay_78 rfl (lv_at hl 2 rfl) ?_
        refine m_geti S hK fk_X10_159 (gi_1_9 G) hW (ci_1 hi_w) dX10_passSchoolDay_79 ?_
        refine va_mmin hx hb (hml.trans hl.1.symm) hown (hts _ mw_765) (hts _ mw_473) (hts _ mw_13) (hts _ mw_474) (Nat.le_of_ble_eq_true rfl) (Nat.le_of_ble_eq_true rfl) (Nat.zero_le _) (Nat.zero_le _) dX10_passSchoolDay_82 ?_
        refine m_ci0 (m_rV S hKX hW (m_szH hbs hS) (c_X4_send l hi_w) h lk_X10_171 (m_recv hK hW (ci_3 hi_w) (rc_3 G) rfl) rfl hl.1 rfl ⟨Nat.le_of_ble_eq_true rfl, Nat.le_of_ble_eq_true rfl⟩ (Nat.le_of_ble_eq_true rfl) ⟨Nat.le_of_ble_eq_true rfl, Nat.le_of_ble_eq_true rfl⟩ dX10_passSchoolDay_85) hS rfl rfl (fun rr85 Mm85 H locs h hW hS => ?_)
        exact b88 _ _ _ _ _ H locs ls hW hS (lv_sub hl [2, 3, 4, 1, 0] rfl) h
      · replace h := h.2 c64
        refine lv_iconst hx hb dX10_passSchoolDay_67 ki_0 ?_
        refine lv_goto (tgt := 88) hx hb dX10_passSchoolDay_68 (by decide) ?_
        exact b88 _ _ _ _ _ H locs ls hW hS (lv_sub hl [2, 3, 4, 1, 0] rfl) h
  unfold s_X10_passSchoolDay at h
  refine lv_aload_n hx hb dX10_passSchoolDay_0 rfl (lv_at hl 0 rfl) ?_
  refine lv_aload_n hx hb dX10_passSchoolDay_1 rfl (lv_at hl 0 rfl) ?_
  refine lv_aload_n hx hb dX10_passSchoolDay_2 rfl (lv_at hl 0 rfl) ?_
  refine m_geti S hK fk_X10_67 (gi_1_0 G) hW (ci_1 hi_w) dX10_passSchoolDay_3 ?_
  refine lv_iconst hx hb dX10_passSchoolDay_6 ki_2 ?_
  refine m_ci0 (m_rV S hKX hW (m_szH hbs hS) (c_X10_monthFact l hi_w) h lk_X10_119 (m_recv hK hW (ci_1 hi_w) (rc_1 G) rfl) rfl hl.1 rfl ⟨Nat.le_of_ble_eq_true rfl, Nat.le_of_ble_eq_true rfl⟩ (Nat.le_of_ble_eq_true rfl) ⟨Nat.le_of_ble_eq_true rfl, Nat.le_of_ble_eq_true rfl⟩ dX10_passSchoolDay_7) hS rfl rfl (fun rr7 Mm7 H locs h hW hS => ?_)
  refine m_put S hK fk_X10_159 tyX10_ok nmX10 rfl pf_X10_9 (pv_1_9 G) hW hS (ci_1 hi_w) rfl rfl dX10_passSchoolDay_10 (fun Mm10 eMm10 H locs hW hS => ?_)
  replace h := h Mm10 eMm10
  refine lv_aload_n hx hb dX10_passSchoolDay_13 rfl (lv_at hl 0 rfl) ?_
  refine m_getr S hK fk_X10_21 (gr_1_2 G w) hW (ci_1 hi_w) dX10_passSchoolDay_14 ?_
  refine m_cv0 (m_rV S hKX hW (m_szH hbs hS) (c_X4_openDay l hi_w) h lk_X10_162 (m_recv hK hW (ci_3 hi_w) (rc_3 G) rfl) rfl hl.1 rfl ⟨Nat.le_of_ble_eq_true rfl, Nat.le_of_ble_eq_true rfl⟩ (Nat.le_of_ble_eq_true rfl) ⟨Nat.le_of_ble_eq_true rfl, Nat.le_of_ble_eq_true rfl⟩ dX10_passSchoolDay_17) hS rfl rfl (fun Mm17 H locs h hW hS => ?_)
  refine lv_iconst hx hb dX10_passSchoolDay_20 ki_0 ?_
  refine lv_istore_n (lv' := [(2, .int (0 : Int32)), (0, .ref (ad G 1 w)), (1, .int x1)]) hx hb dX10_passSchoolDay_21 rfl hl (by decide) rfl (fun ls hl => ?_)
  obtain ⟨n22, h⟩ := h
  exact w22 n22 _ h H locs ls hW hS (lv_sub hl [1, 2, 0] rfl)
abbrev rm_X10_passDays : Room := { frames := 6, cells := 0, slots := 0, locals := 154 }
set_option maxHeartbeats 4000000 in
set_option maxRecDepth 100000 in
theorem c_X10_passDays (l : Launch) {G : Gn} {M : Mem} {w : Nat} {x1 : Int32} {x2 : Int32} {P : Mem → Prop} (hi_w : w < 3) : MQv l yX10_passDays cX10_passDays 4 none rm_X10_passDays [.ref (ad G 1 w), .int x1, .int x2] G M (s_X10_passDays w M x1 x2 P) P := by
  refine m_enter (by decide +kernel) (Nat.le_of_ble_eq_true rfl) ?_
  intro p e s m below meth c ls H locs S hret hlocks hname hKX hbs hW hS hl h
  obtain ⟨AV, hAV⟩ : ∃ z : Array Value, z = ([.ref (ad G 1 w), .int x1, .int x2] : List Value).toArray := ⟨_, rfl⟩
  rw [← hAV] at S ⊢
  replace S : CallFix p m c cX10_passDays 4 s AV lw_G "MilkDesk$World" := S
  have hK := hKX.1
  have hx := S.1
  have hb := S.2.1
  have hml := S.2.2.1
  have hown := S.2.2.2.1
  have hts := S.2.2.2.2
  replace hl : lv_has ls 4 [(0, .ref (ad G 1 w)), (1, .int x1), (2, .int x2)] := hl
  have w2 : ∀ (n : Nat) (a : Mem × Int32), Lz (fun (K2 : Mem × Int32 → Prop) (a : Mem × Int32) => s_X10_passDays_2 w x1 x2 P K2 a.1 a.2) n a → ∀ (H : Heap) (locs : List Loc) (ls : Array Slot), WPm G a.1 H → va_S (fun q => bs G ≤ q) s.heap H locs → lv_has ls 4 [(0, .ref (ad G 1 w)), (1, .int x1), (2, .int x2), (3, .int a.2)] → W p l e rm_X10_passDays s m AV below meth c H locs 0 0 (MQ below (va_Qv P (WS G) (fun q => bs G ≤ q)) AV s 0 0 (fun q => bs G ≤ q)) (F0 m 2 ls []) := by
    refine Lz_walk ?_
    rintro K2 kk2 ⟨M, x3⟩ h H locs ls hW hS hl
    replace h : s_X10_passDays_2 w x1 x2 P K2 M x3 := h
    replace hW : WPm G M H := hW
    replace hl : lv_has ls 4 [(0, .ref (ad G 1 w)), (1, .int x1), (2, .int x2), (3, .int x3)] := hl
    have b22 : ∀ (M : Mem) (x3 : Int32) (H : Heap) (locs : List Loc) (ls : Array Slot), WPm G M H → va_S (fun q => bs G ≤ q) s.heap H locs → lv_has ls 4 [(0, .ref (ad G 1 w)), (1, .int x1), (2, .int x2), (3, .int x3)] → s_X10_passDays_22 w x1 x2 P K2 M x3 → W p l e rm_X10_passDays s m AV below meth c H locs 0 0 (MQ below (va_Qv P (WS G) (fun q => bs G ≤ q)) AV s 0 0 (fun q => bs G ≤ q)) (F0 m 22 ls []) := by
      intro M x3 H locs ls hW hS hl h
      unfold s_X10_passDays_22 at h
      refine lv_aload_n hx hb dX10_passDays_22 rfl (lv_at hl 0 rfl) ?_
      refine lv_dup hx hb dX10_passDays_23 rfl ?_
      refine m_geti S hK fk_X10_67 (gi_1_0 G) hW (ci_1 hi_w) dX10_passDays_24 ?_
      refine lv_iconst hx hb dX10_passDays_27 ki_1 ?_
      refine lv_iadd hx hb dX10_passDays_28 ?_
      refine m_put S hK fk_X10_67 tyX10_ok nmX10 rfl pf_X10_0 (pv_1_0 G) hW hS (ci_1 hi_w) rfl rfl dX10_passDays_29 (fun Mm29 eMm29 H locs hW hS => ?_)
      replace h := h Mm29 eMm29
      obtain ⟨x3_32, ex3_32⟩ : ∃ z : Int32, z = x3 + (1 : Int32) := ⟨_, rfl⟩
      replace h := h x3_32 ex3_32
      refine lv_iinc (v := x3_32) (lv' := [(3, .int x3_32), (0, .ref (ad G 1 w)), (1, .int x1), (2, .int x2)]) hx hb dX10_passDays_32 hl (k := 3) rfl (by rw [ex3_32, ki_1]) (by decide) rfl (fun ls hl => ?_)
      refine lv_goto (tgt := 2) hx hb dX10_passDays_35 (by decide) ?_
      exact kk2 _ h H locs ls hW hS (lv_sub hl [1, 2, 3, 0] rfl)
    unfold s_X10_passDays_2 at h
    refine lv_iload_n hx hb dX10_passDays_2 rfl (lv_at hl 3 rfl) ?_
    refine lv_iload_n hx hb dX10_passDays_3 rfl (lv_at hl 1 rfl) ?_
    refine lv_icmp_ge (tgt := 38) hx hb dX10_passDays_4 (by decide) (fun c4 => ?_) (fun c4 => ?_)
    · replace h := h.1 c4
      exact m_vret S hret hlocks hKX hW hbs hS h dX10_passDays_38
    · replace h := h.2 c4
      refine lv_aload_n hx hb dX10_passDays_7 rfl (lv_at hl 0 rfl) ?_
      refine m_geti S hK fk_X10_67 (gi_1_0 G) hW (ci_1 hi_w) dX10_passDays_8 ?_
      refine m_ci0 (m_rN S hKX hW (m_szH hbs hS) (c_X11_isSchoolDay l ) h lk_X10_147 rfl hl.1 rfl ⟨Nat.le_of_ble_eq_true rfl, Nat.le_of_ble_eq_true rfl⟩ (Nat.le_of_ble_eq_true rfl) ⟨Nat.le_of_ble_eq_true rfl, Nat.le_of_ble_eq_true rfl⟩ dX10_passDays_11) hS rfl rfl (fun rr11 Mm11 H locs h hW hS => ?_)
      refine lv_if_eq (tgt := 22) hx hb dX10_passDays_14 (by decide) (fun c14 => ?_) (fun c14 => ?_)
      · replace h := h.1 c14
        exact b22 _ _ H locs ls hW hS (lv_sub hl [0, 1, 2, 3] rfl) h
      · replace h := h.2 c14
        refine lv_aload_n hx hb dX10_passDays_17 rfl (lv_at hl 0 rfl) ?_
        refine lv_iload_n hx hb dX10_passDays_18 rfl (lv_at hl 2 rfl) ?_
        refine m_cv0 (m_rV S hKX hW (m_szH hbs hS) (c_X10_passSchoolDay l hi_w) h lk_X10_155 (m_recv hK hW (ci_1 hi_w) (rc_1 G) rfl) rfl hl.1 rfl ⟨Nat.le_of_ble_eq_true rfl, Nat.le_of_ble_eq_true rfl⟩ (Nat.le_of_ble_eq_true rfl) ⟨Nat.le_of_ble_eq_true rfl, Nat.le_of_ble_eq_true rfl⟩ dX10_passDays_19) hS rfl rfl (fun Mm19 H locs h hW hS => ?_)
        exact b22 _ _ H locs ls hW hS (lv_sub hl [0, 1, 2, 3] rfl) h
  unfold s_X10_passDays at h
  refine lv_iconst hx hb dX10_passDays_0 ki_0 ?_
  refine lv_istore_n (lv' := [(3, .int (0 : Int32)), (0, .ref (ad G 1 w)), (1, .int x1), (2, .int x2)]) hx hb dX10_passDays_1 rfl hl (by decide) rfl (fun ls hl => ?_)
  obtain ⟨n2, h⟩ := h
  exact w2 n2 _ h H locs ls hW hS (lv_sub hl [1, 2, 3, 0] rfl)
abbrev rm_X10_firstWrongStop : Room := { frames := 2, cells := 0, slots := 0, locals := 44 }
set_option maxHeartbeats 4000000 in
set_option maxRecDepth 100000 in
theorem c_X10_firstWrongStop (l : Launch) {G : Gn} {M : Mem} {w d : Nat} {x1 : Int32} {x2 : Int32} {P : Int32 → Mem → Prop} (hi_w : w < 3) (hi_d : d < 8) : MQi l yX10_firstWrongStop cX10_firstWrongStop 10 (some .int) rm_X10_firstWrongStop [.ref (ad G 1 w), .int x1, .int x2, .ref (ad G 7 d)] G M (s_X10_firstWrongStop w d M x1 x2 P) P := by
  refine m_enter (by decide +kernel) (Nat.le_of_ble_eq_true rfl) ?_
  intro p e s m below meth c ls H locs S hret hlocks hname hKX hbs hW hS hl h
  obtain ⟨AV, hAV⟩ : ∃ z : Array Value, z = ([.ref (ad G 1 w), .int x1, .int x2, .ref (ad G 7 d)] : List Value).toArray := ⟨_, rfl⟩
  rw [← hAV] at S ⊢
  replace S : CallFix p m c cX10_firstWrongStop 10 s AV lw_G "MilkDesk$World" := S
  have hK := hKX.1
  have hx := S.1
  have hb := S.2.1
  have hml := S.2.2.1
  have hown := S.2.2.2.1
  have hts := S.2.2.2.2
  replace hl : lv_has ls 10 [(0, .ref (ad G 1 w)), (1, .int x1), (2, .int x2), (3, .ref (ad G 7 d))] := hl
  have w31 : ∀ (n : Nat) (a : Mem × Int32 × Int32 × Int32 × Int32 × Int32), Lz (fun (K31 : Mem × Int32 × Int32 × Int32 × Int32 × Int32 → Prop) (a : Mem × Int32 × Int32 × Int32 × Int32 × Int32) => s_X10_firstWrongStop_31 w d P K31 a.1 a.2.1 a.2.2.1 a.2.2.2.1 a.2.2.2.2.1 a.2.2.2.2.2) n a → ∀ (H : Heap) (locs : List Loc) (ls : Array Slot), WPm G a.1 H → va_S (fun q => bs G ≤ q) s.heap H locs → lv_has ls 10 [(0, .ref (ad G 1 w)), (3, .ref (ad G 7 d)), (4, .int a.2.1), (5, .int a.2.2.1), (6, .int a.2.2.2.1), (7, .int a.2.2.2.2.1), (8, .int a.2.2.2.2.2)] → W p l e rm_X10_firstWrongStop s m AV below meth c H locs 0 0 (MQ below (va_Qi P (WS G) (fun q => bs G ≤ q)) AV s 0 0 (fun q => bs G ≤ q)) (F0 m 31 ls []) := by
    refine Lz_walk ?_
    rintro K31 kk31 ⟨M, x4, x5, x6, x7, x8⟩ h H locs ls hW hS hl
    replace h : s_X10_firstWrongStop_31 w d P K31 M x4 x5 x6 x7 x8 := h
    replace hW : WPm G M H := hW
    replace hl : lv_has ls 10 [(0, .ref (ad G 1 w)), (3, .ref (ad G 7 d)), (4, .int x4), (5, .int x5), (6, .int x6), (7, .int x7), (8, .int x8)] := hl
    unfold s_X10_firstWrongStop_31 at h
    refine lv_iload hx hb dX10_firstWrongStop_31 (lv_at hl 6 rfl) ?_
    refine lv_aload_n hx hb dX10_firstWrongStop_33 rfl (lv_at hl 1 rfl) ?_
    refine m_geti S hK fk_X10_205 (gi_7_5 G) hW (ci_7 hi_d) dX10_firstWrongStop_34 ?_
    refine lv_icmp_ge (tgt := 164) hx hb dX10_firstWrongStop_37 (by decide) (fun c37 => ?_) (fun c37 => ?_)
    · replace h := h.1 c37
      refine lv_bipush hx hb dX10_firstWrongStop_164 kb_m4 ?_
      exact m_iret S hret hlocks hKX hW hbs hS rfl h dX10_firstWrongStop_166
    · replace h := h.2 c37
      refine lv_aload_n hx hb dX10_firstWrongStop_40 rfl (lv_at hl 1 rfl) ?_
      refine m_getr S hK fk_X10_210 (gr_7_6 G d) hW (ci_7 hi_d) dX10_firstWrongStop_41 ?_
      refine lv_iload hx hb dX10_firstWrongStop_44 (lv_at hl 6 rfl) ?_
      obtain ⟨hb46, h⟩ := h
      refine m_ald S hK (ar_39 G) hW (ci_39 hi_d) hb46 dX10_firstWrongStop_46 ?_
      refine lv_topi (fun x9_47 ex9_47 => ?_)
      replace h := h x9_47 ex9_47
      refine lv_istore (lv' := [(9, .int x9_47), (0, .ref (ad G 1 w)), (3, .ref (ad G 7 d)), (4, .int x4), (5, .int x5), (6, .int x6), (7, .int x7), (8, .int x8)]) hx hb dX10_firstWrongStop_47 hl (by decide) rfl (fun ls hl => ?_)
      refine lv_aload_n hx hb dX10_firstWrongStop_49 rfl (lv_at hl 1 rfl) ?_
      refine m_getr S hK fk_X10_12 (gr_1_1 G w) hW (ci_1 hi_w) dX10_firstWrongStop_50 ?_
      refine lv_iload hx hb dX10_firstWrongStop_53 (lv_at hl 0 rfl) ?_
      refine m_ci0 (m_rV S hKX hW (m_szH hbs hS) (c_X8_has l hi_w) h lk_X10_213 (m_recv hK hW (ci_2 hi_w) (rc_2 G) rfl) rfl hl.1 rfl ⟨Nat.le_of_ble_eq_true rfl, Nat.le_of_ble_eq_true rfl⟩ (Nat.le_of_ble_eq_true rfl) ⟨Nat.le_of_ble_eq_true rfl, Nat.le_of_ble_eq_true rfl⟩ dX10_firstWrongStop_55) hS rfl rfl (fun rr55 Mm55 H locs h hW hS => ?_)
      refine lv_if_eq (tgt := 72) hx hb dX10_firstWrongStop_58 (by decide) (fun c58 => ?_) (fun c58 => ?_)
      · replace h := h.1 c58
        refine lv_iload hx hb dX10_firstWrongStop_72 (lv_at hl 7 rfl) ?_
        exact m_iret S hret hlocks hKX hW hbs hS rfl h dX10_firstWrongStop_74
      · replace h := h.2 c58
        refine lv_iload hx hb dX10_firstWrongStop_61 (lv_at hl 6 rfl) ?_
        refine lv_iload hx hb dX10_firstWrongStop_63 (lv_at hl 0 rfl) ?_
        refine lv_ishr hx hb dX10_firstWrongStop_65 ?_
        refine lv_iconst hx hb dX10_firstWrongStop_66 ki_1 ?_
        refine lv_iand hx hb dX10_firstWrongStop_67 ?_
        refine lv_iconst hx hb dX10_firstWrongStop_68 ki_1 ?_
        refine lv_icmp_ne (tgt := 75) hx hb dX10_firstWrongStop_69 (by decide) (fun c69 => ?_) (fun c69 => ?_)
        · replace h := h.1 c69
          refine lv_iload hx hb dX10_firstWrongStop_75 (lv_at hl 6 rfl) ?_
          refine lv_iconst hx hb dX10_firstWrongStop_77 ki_1 ?_
          refine lv_iload hx hb dX10_firstWrongStop_78 (lv_at hl 0 rfl) ?_
          refine lv_ishl hx hb dX10_firstWrongStop_80 ?_
          refine lv_ior hx hb dX10_firstWrongStop_81 ?_
          refine lv_topi (fun x7_82 ex7_82 => ?_)
          replace h := h x7_82 ex7_82
          refine lv_istore (lv' := [(7, .int x7_82), (9, .int x9_47), (0, .ref (ad G 1 w)), (3, .ref (ad G 7 d)), (4, .int x4), (5, .int x5), (6, .int x6), (8, .int x8)]) hx hb dX10_firstWrongStop_82 hl (by decide) rfl (fun ls hl => ?_)
          refine lv_iload hx hb dX10_firstWrongStop_84 (lv_at hl 6 rfl) ?_
          refine lv_iload hx hb dX10_firstWrongStop_86 (lv_at hl 4 rfl) ?_
          refine lv_iload hx hb dX10_firstWrongStop_88 (lv_at hl 5 rfl) ?_
          refine lv_aload_n hx hb dX10_firstWrongStop_90 rfl (lv_at hl 2 rfl) ?_
          refine m_getr S hK fk_X10_12 (gr_1_1 G w) hW (ci_1 hi_w) dX10_firstWrongStop_91 ?_
          refine m_getr S hK fk_X10_122 (gr_2_2 G w) hW (ci_2 hi_w) dX10_firstWrongStop_94 ?_
          refine lv_iload hx hb dX10_firstWrongStop_97 (lv_at hl 1 rfl) ?_
          obtain ⟨hb99, h⟩ := h
          refine m_ald S hK (ar_16 G) hW (ci_16 hi_w) hb99 dX10_firstWrongStop_99 ?_
          refine lv_aload_n hx hb dX10_firstWrongStop_100 rfl (lv_at hl 2 rfl) ?_
          refine m_getr S hK fk_X10_12 (gr_1_1 G w) hW (ci_1 hi_w) dX10_firstWrongStop_101 ?_
          refine m_getr S hK fk_X10_125 (gr_2_3 G w) hW (ci_2 hi_w) dX10_firstWrongStop_104 ?_
          refine lv_iload hx hb dX10_firstWrongStop_107 (lv_at hl 1 rfl) ?_
          obtain ⟨hb109, h⟩ := h
          refine m_ald S hK (ar_17 G) hW (ci_17 hi_w) hb109 dX10_firstWrongStop_109 ?_
          refine m_ci0 (m_rN S hKX hW (m_szH hbs hS) (c_X11_far l ) h lk_X10_216 rfl hl.1 rfl ⟨Nat.le_of_ble_eq_true rfl, Nat.le_of_ble_eq_true rfl⟩ (Nat.le_of_ble_eq_true rfl) ⟨Nat.le_of_ble_eq_true rfl, Nat.le_of_ble_eq_true rfl⟩ dX10_firstWrongStop_110) hS rfl rfl (fun rr110 Mm110 H locs h hW hS => ?_)
          refine lv_iadd hx hb dX10_firstWrongStop_113 ?_
          refine lv_topi (fun x6_114 ex6_114 => ?_)
          replace h := h x6_114 ex6_114
          refine lv_istore (lv' := [(6, .int x6_114), (7, .int x7_82), (9, .int x9_47), (0, .ref (ad G 1 w)), (3, .ref (ad G 7 d)), (4, .int x4), (5, .int x5), (8, .int x8)]) hx hb dX10_firstWrongStop_114 hl (by decide) rfl (fun ls hl => ?_)
          refine lv_aload_n hx hb dX10_firstWrongStop_116 rfl (lv_at hl 3 rfl) ?_
          refine m_getr S hK fk_X10_12 (gr_1_1 G w) hW (ci_1 hi_w) dX10_firstWrongStop_117 ?_
          refine m_getr S hK fk_X10_122 (gr_2_2 G w) hW (ci_2 hi_w) dX10_firstWrongStop_120 ?_
          refine lv_iload hx hb dX10_firstWrongStop_123 (lv_at hl 2 rfl) ?_
          obtain ⟨hb125, h⟩ := h
          refine m_ald S hK (ar_16 G) hW (ci_16 hi_w) hb125 dX10_firstWrongStop_125 ?_
          refine lv_topi (fun x4_126 ex4_126 => ?_)
          replace h := h x4_126 ex4_126
          refine lv_istore (lv' := [(4, .int x4_126), (6, .int x6_114), (7, .int x7_82), (9, .int x9_47), (0, .ref (ad G 1 w)), (3, .ref (ad G 7 d)), (5, .int x5), (8, .int x8)]) hx hb dX10_firstWrongStop_126 hl (by decide) rfl (fun ls hl => ?_)
          refine lv_aload_n hx hb dX10_firstWrongStop_128 rfl (lv_at hl 4 rfl) ?_
          refine m_getr S hK fk_X10_12 (gr_1_1 G w) hW (ci_1 hi_w) dX10_firstWrongStop_129 ?_
          refine m_getr S hK fk_X10_125 (gr_2_3 G w) hW (ci_2 hi_w) dX10_firstWrongStop_132 ?_
          refine lv_iload hx hb dX10_firstWrongStop_135 (lv_at hl 3 rfl) ?_
          obtain ⟨hb137, h⟩ := h
          refine m_ald S hK (ar_17 G) hW (ci_17 hi_w) hb137 dX10_firstWrongStop_137 ?_
          refine lv_topi (fun x5_138 ex5_138 => ?_)
          replace h := h x5_138 ex5_138
          refine lv_istore (lv' := [(5, .int x5_138), (4, .int x4_126), (6, .int x6_114), (7, .int x7_82), (9, .int x9_47), (0, .ref (ad G 1 w)), (3, .ref (ad G 7 d)), (8, .int x8)]) hx hb dX10_firstWrongStop_138 hl (by decide) rfl (fun ls hl => ?_)
          refine lv_iload hx hb dX10_firstWrongStop_140 (lv_at hl 2 rfl) ?_
          refine lv_aload_n hx hb dX10_firstWrongStop_142 rfl (lv_at hl 5 rfl) ?_
          refine m_getr S hK fk_X10_12 (gr_1_1 G w) hW (ci_1 hi_w) dX10_firstWrongStop_143 ?_
          refine m_getr S hK fk_X10_219 (gr_2_6 G w) hW (ci_2 hi_w) dX10_firstWrongStop_146 ?_
          refine lv_iload hx hb dX10_firstWrongStop_149 (lv_at hl 4 rfl) ?_
          obtain ⟨hb151, h⟩ := h
          refine m_ald S hK (ar_20 G) hW (ci_20 hi_w) hb151 dX10_firstWrongStop_151 ?_
          refine lv_icmp_le (tgt := 158) hx hb dX10_firstWrongStop_152 (by decide) (fun c152 => ?_) (fun c152 => ?_)
          · replace h := h.1 c152
            obtain ⟨x8_158, ex8_158⟩ : ∃ z : Int32, z = x8 + (1 : Int32) := ⟨_, rfl⟩
            replace h := h x8_158 ex8_158
            refine lv_iinc (v := x8_158) (lv' := [(8, .int x8_158), (5, .int x5_138), (4, .int x4_126), (6, .int x6_114), (7, .int x7_82), (9, .int x9_47), (0, .ref (ad G 1 w)), (3, .ref (ad G 7 d))]) hx hb dX10_firstWrongStop_158 hl (k := 7) rfl (by rw [ex8_158, ki_1]) (by decide) rfl (fun ls hl => ?_)
            refine lv_goto (tgt := 31) hx hb dX10_firstWrongStop_161 (by decide) ?_
            exact kk31 _ h H locs ls hW hS (lv_sub hl [6, 7, 2, 1, 3, 4, 0] rfl)
          · replace h := h.2 c152
            refine lv_iload hx hb dX10_firstWrongStop_155 (lv_at hl 7 rfl) ?_
            exact m_iret S hret hlocks hKX hW hbs hS rfl h dX10_firstWrongStop_157
        · replace h := h.2 c69
          refine lv_iload hx hb dX10_firstWrongStop_72 (lv_at hl 7 rfl) ?_
          exact m_iret S hret hlocks hKX hW hbs hS rfl h dX10_firstWrongStop_74
  unfold s_X10_firstWrongStop at h
  refine lv_aload_n hx hb dX10_firstWrongStop_0 rfl (lv_at hl 0 rfl) ?_
  refine m_getr S hK fk_X10_21 (gr_1_2 G w) hW (ci_1 hi_w) dX10_firstWrongStop_1 ?_
  refine m_getr S hK fk_X10_203 (gr_3_1 G w) hW (ci_3 hi_w) dX10_firstWrongStop_4 ?_
  refine lv_iload_n hx hb dX10_firstWrongStop_7 rfl (lv_at hl 1 rfl) ?_
  obtain ⟨hb8, h⟩ := h
  refine m_ald S hK (ar_22 G) hW (ci_22 hi_w) hb8 dX10_firstWrongStop_8 ?_
  refine lv_topi (fun x4_9 ex4_9 => ?_)
  replace h := h x4_9 ex4_9
  refine lv_istore (lv' := [(4, .int x4_9), (0, .ref (ad G 1 w)), (1, .int x1), (2, .int x2), (3, .ref (ad G 7 d))]) hx hb dX10_firstWrongStop_9 hl (by decide) rfl (fun ls hl => ?_)
  refine lv_aload_n hx hb dX10_firstWrongStop_11 rfl (lv_at hl 1 rfl) ?_
  refine m_getr S hK fk_X10_21 (gr_1_2 G w) hW (ci_1 hi_w) dX10_firstWrongStop_12 ?_
  refine m_getr S hK fk_X10_204 (gr_3_2 G w) hW (ci_3 hi_w) dX10_firstWrongStop_15 ?_
  refine lv_iload_n hx hb dX10_firstWrongStop_18 rfl (lv_at hl 2 rfl) ?_
  obtain ⟨hb19, h⟩ := h
  refine m_ald S hK (ar_23 G) hW (ci_23 hi_w) hb19 dX10_firstWrongStop_19 ?_
  refine lv_topi (fun x5_20 ex5_20 => ?_)
  replace h := h x5_20 ex5_20
  refine lv_istore (lv' := [(5, .int x5_20), (4, .int x4_9), (0, .ref (ad G 1 w)), (1, .int x1), (2, .int x2), (3, .ref (ad G 7 d))]) hx hb dX10_firstWrongStop_20 hl (by decide) rfl (fun ls hl => ?_)
  refine lv_iload_n hx hb dX10_firstWrongStop_22 rfl (lv_at hl 4 rfl) ?_
  refine lv_istore (lv' := [(6, .int x2), (5, .int x5_20), (4, .int x4_9), (0, .ref (ad G 1 w)), (1, .int x1), (2, .int x2), (3, .ref (ad G 7 d))]) hx hb dX10_firstWrongStop_23 hl (by decide) rfl (fun ls hl => ?_)
  refine lv_iconst hx hb dX10_firstWrongStop_25 ki_0 ?_
  refine lv_istore (lv' := [(7, .int (0 : Int32)), (6, .int x2), (5, .int x5_20), (4, .int x4_9), (0, .ref (ad G 1 w)), (1, .int x1), (2, .int x2), (3, .ref (ad G 7 d))]) hx hb dX10_firstWrongStop_26 hl (by decide) rfl (fun ls hl => ?_)
  refine lv_iconst hx hb dX10_firstWrongStop_28 ki_0 ?_
  refine lv_istore (lv' := [(8, .int (0 : Int32)), (7, .int (0 : Int32)), (6, .int x2), (5, .int x5_20), (4, .int x4_9), (0, .ref (ad G 1 w)), (1, .int x1), (2, .int x2), (3, .ref (ad G 7 d))]) hx hb dX10_firstWrongStop_29 hl (by decide) rfl (fun ls hl => ?_)
  obtain ⟨n31, h⟩ := h
  exact w31 n31 _ h H locs ls hW hS (lv_sub hl [5, 8, 4, 3, 2, 1, 0] rfl)
abbrev rm_X11_within : Room := { frames := 0, cells := 0, slots := 0, locals := 0 }
set_option maxHeartbeats 4000000 in
set_option maxRecDepth 100000 in
theorem c_X11_within (l : Launch) {G : Gn} {M : Mem} {x0 : Int32} {x1 : Int32} {x2 : Int32} {P : Int32 → Mem → Prop} : MQi l yX11_within cX11_within 3 (some .boolean) rm_X11_within [.int x0, .int x1, .int x2] G M (s_X11_within M x0 x1 x2 P) P := by
  refine m_enter (by decide +kernel) (Nat.le_of_ble_eq_true rfl) ?_
  intro p e s m below meth c ls H locs S hret hlocks hname hKX hbs hW hS hl h
  obtain ⟨AV, hAV⟩ : ∃ z : Array Value, z = ([.int x0, .int x1, .int x2] : List Value).toArray := ⟨_, rfl⟩
  rw [← hAV] at S ⊢
  replace S : CallFix p m c cX11_within 3 s AV lw_G "MilkDesk" := S
  have hK := hKX.1
  have hx := S.1
  have hb := S.2.1
  have hml := S.2.2.1
  have hown := S.2.2.2.1
  have hts := S.2.2.2.2
  replace hl : lv_has ls 3 [(0, .int x0), (1, .int x1), (2, .int x2)] := hl
  unfold s_X11_within at h
  refine lv_iload_n hx hb dX11_within_0 rfl (lv_at hl 0 rfl) ?_
  refine lv_iload_n hx hb dX11_within_1 rfl (lv_at hl 1 rfl) ?_
  refine lv_icmp_lt (tgt := 14) hx hb dX11_within_2 (by decide) (fun c2 => ?_) (fun c2 => ?_)
  · replace h := h.1 c2
    refine lv_iconst hx hb dX11_within_14 ki_0 ?_
    exact m_iret S hret hlocks hKX hW hbs hS rfl h dX11_within_15
  · replace h := h.2 c2
    refine lv_iload_n hx hb dX11_within_5 rfl (lv_at hl 0 rfl) ?_
    refine lv_iload_n hx hb dX11_within_6 rfl (lv_at hl 2 rfl) ?_
    refine lv_icmp_gt (tgt := 14) hx hb dX11_within_7 (by decide) (fun c7 => ?_) (fun c7 => ?_)
    · replace h := h.1 c7
      refine lv_iconst hx hb dX11_within_14 ki_0 ?_
      exact m_iret S hret hlocks hKX hW hbs hS rfl h dX11_within_15
    · replace h := h.2 c7
      refine lv_iconst hx hb dX11_within_10 ki_1 ?_
      refine lv_goto (tgt := 15) hx hb dX11_within_11 (by decide) ?_
      exact m_iret S hret hlocks hKX hW hbs hS rfl h dX11_within_15
abbrev rm_X11_school : Room := { frames := 1, cells := 0, slots := 0, locals := 23 }
set_option maxHeartbeats 4000000 in
set_option maxRecDepth 100000 in
theorem c_X11_school (l : Launch) {G : Gn} {M : Mem} {x1 : Int32} {x2 : Int32} {P : Int32 → Mem → Prop} : MQi l yX11_school cX11_school 3 (some .int) rm_X11_school [.ref (ad G 0 0), .int x1, .int x2] G M (s_X11_school M x1 x2 P) P := by
  refine m_enter (by decide +kernel) (Nat.le_of_ble_eq_true rfl) ?_
  intro p e s m below meth c ls H locs S hret hlocks hname hKX hbs hW hS hl h
  obtain ⟨AV, hAV⟩ : ∃ z : Array Value, z = ([.ref (ad G 0 0), .int x1, .int x2] : List Value).toArray := ⟨_, rfl⟩
  rw [← hAV] at S ⊢
  replace S : CallFix p m c cX11_school 3 s AV lw_G "MilkDesk" := S
  have hK := hKX.1
  have hx := S.1
  have hb := S.2.1
  have hml := S.2.2.1
  have hown := S.2.2.2.1
  have hts := S.2.2.2.2
  replace hl : lv_has ls 3 [(0, .ref (ad G 0 0)), (1, .int x1), (2, .int x2)] := hl
  unfold s_X11_school at h
  refine lv_iload_n hx hb dX11_school_0 rfl (lv_at hl 1 rfl) ?_
  refine lv_iconst hx hb dX11_school_1 ki_0 ?_
  refine lv_iconst hx hb dX11_school_2 ki_3 ?_
  refine m_ci0 (m_rS S hKX hW (m_szH hbs hS) (c_X11_within l ) h lk_X11_43 rfl hl.1 rfl ⟨Nat.le_of_ble_eq_true rfl, Nat.le_of_ble_eq_true rfl⟩ (Nat.le_of_ble_eq_true rfl) ⟨Nat.le_of_ble_eq_true rfl, Nat.le_of_ble_eq_true rfl⟩ dX11_school_3) hS rfl rfl (fun rr3 Mm3 H locs h hW hS => ?_)
  refine lv_if_eq (tgt := 20) hx hb dX11_school_6 (by decide) (fun c6 => ?_) (fun c6 => ?_)
  · replace h := h.1 c6
    refine lv_iconst hx hb dX11_school_20 ki_m1 ?_
    exact m_iret S hret hlocks hKX hW hbs hS rfl h dX11_school_21
  · replace h := h.2 c6
    refine lv_iload_n hx hb dX11_school_9 rfl (lv_at hl 2 rfl) ?_
    refine lv_iconst hx hb dX11_school_10 ki_0 ?_
    refine lv_sipush hx hb dX11_school_11 ks_9999 ?_
    refine m_ci0 (m_rS S hKX hW (m_szH hbs hS) (c_X11_within l ) h lk_X11_43 rfl hl.1 rfl ⟨Nat.le_of_ble_eq_true rfl, Nat.le_of_ble_eq_true rfl⟩ (Nat.le_of_ble_eq_true rfl) ⟨Nat.le_of_ble_eq_true rfl, Nat.le_of_ble_eq_true rfl⟩ dX11_school_14) hS rfl rfl (fun rr14 Mm14 H locs h hW hS => ?_)
    refine lv_if_ne (tgt := 22) hx hb dX11_school_17 (by decide) (fun c17 => ?_) (fun c17 => ?_)
    · replace h := h.1 c17
      refine lv_aload_n hx hb dX11_school_22 rfl (lv_at hl 0 rfl) ?_
      refine m_getr S hK fk_X11_12 (gr_0_0 G 0) hW (ci_0 (Nat.le_of_ble_eq_true rfl)) dX11_school_23 ?_
      refine m_getr S hK fk_X11_47 (gr_1_1 G 0) hW (ci_1 (Nat.le_of_ble_eq_true rfl)) dX11_school_26 ?_
      refine m_geti S hK fk_X11_51 (gi_2_0 G) hW (ci_2 (Nat.le_of_ble_eq_true rfl)) dX11_school_29 ?_
      refine lv_bipush hx hb dX11_school_32 kb_12 ?_
      refine lv_icmp_lt (tgt := 40) hx hb dX11_school_34 (by decide) (fun c34 => ?_) (fun c34 => ?_)
      · replace h := h.1 c34
        refine lv_aload_n hx hb dX11_school_40 rfl (lv_at hl 0 rfl) ?_
        refine m_getr S hK fk_X11_12 (gr_0_0 G 0) hW (ci_0 (Nat.le_of_ble_eq_true rfl)) dX11_school_41 ?_
        refine m_getr S hK fk_X11_47 (gr_1_1 G 0) hW (ci_1 (Nat.le_of_ble_eq_true rfl)) dX11_school_44 ?_
        refine lv_iload_n hx hb dX11_school_47 rfl (lv_at hl 1 rfl) ?_
        refine lv_iload_n hx hb dX11_school_48 rfl (lv_at hl 2 rfl) ?_
        refine m_ci0 (m_rV S hKX hW (m_szH hbs hS) (c_X8_come l (Nat.le_of_ble_eq_true rfl)) h lk_X11_57 (m_recv hK hW (ci_2 (Nat.le_of_ble_eq_true rfl)) (rc_2 G) rfl) rfl hl.1 rfl ⟨Nat.le_of_ble_eq_true rfl, Nat.le_of_ble_eq_true rfl⟩ (Nat.le_of_ble_eq_true rfl) ⟨Nat.le_of_ble_eq_true rfl, Nat.le_of_ble_eq_true rfl⟩ dX11_school_49) hS rfl rfl (fun rr49 Mm49 H locs h hW hS => ?_)
        exact m_iret S hret hlocks hKX hW hbs hS rfl h dX11_school_52
      · replace h := h.2 c34
        refine lv_bipush hx hb dX11_school_37 kb_m2 ?_
        exact m_iret S hret hlocks hKX hW hbs hS rfl h dX11_school_39
    · replace h := h.2 c17
      refine lv_iconst hx hb dX11_school_20 ki_m1 ?_
      exact m_iret S hret hlocks hKX hW hbs hS rfl h dX11_school_21
abbrev rm_X11_set : Room := { frames := 1, cells := 0, slots := 0, locals := 22 }
set_option maxHeartbeats 4000000 in
set_option maxRecDepth 100000 in
theorem c_X11_set (l : Launch) {G : Gn} {M : Mem} {x1 : Int32} {x2 : Int32} {x3 : Int32} {P : Int32 → Mem → Prop} : MQi l yX11_set cX11_set 7 (some .int) rm_X11_set [.ref (ad G 0 0), .int x1, .int x2, .int x3] G M (s_X11_set M x1 x2 x3 P) P := by
  refine m_enter (by decide +kernel) (Nat.le_of_ble_eq_true rfl) ?_
  intro p e s m below meth c ls H locs S hret hlocks hname hKX hbs hW hS hl h
  obtain ⟨AV, hAV⟩ : ∃ z : Array Value, z = ([.ref (ad G 0 0), .int x1, .int x2, .int x3] : List Value).toArray := ⟨_, rfl⟩
  rw [← hAV] at S ⊢
  replace S : CallFix p m c cX11_set 7 s AV lw_G "MilkDesk" := S
  have hK := hKX.1
  have hx := S.1
  have hb := S.2.1
  have hml := S.2.2.1
  have hown := S.2.2.2.1
  have hts := S.2.2.2.2
  replace hl : lv_has ls 7 [(0, .ref (ad G 0 0)), (1, .int x1), (2, .int x2), (3, .int x3)] := hl
  have b95 : ∀ (M : Mem) (H : Heap) (locs : List Loc) (ls : Array Slot), WPm G M H → va_S (fun q => bs G ≤ q) s.heap H locs → lv_has ls 7 [(1, .int x1), (3, .int x3)] → s_X11_set_95 x1 x3 P M  → W p l e rm_X11_set s m AV below meth c H locs 0 0 (MQ below (va_Qi P (WS G) (fun q => bs G ≤ q)) AV s 0 0 (fun q => bs G ≤ q)) (F0 m 95 ls [.ref (ad G 20 0)]) := by
    intro M H locs ls hW hS hl h
    unfold s_X11_set_95 at h
    refine lv_astore (lv' := [(5, .ref (ad G 20 0)), (1, .int x1), (3, .int x3)]) hx hb dX11_set_95 hl (by decide) rfl (fun ls hl => ?_)
    refine lv_aload hx hb dX11_set_97 (lv_at hl 0 rfl) ?_
    refine lv_iload_n hx hb dX11_set_99 rfl (lv_at hl 1 rfl) ?_
    obtain ⟨hb100, h⟩ := h
    refine m_ald S hK (ar_20 G) hW (ci_20 (Nat.le_of_ble_eq_true rfl)) hb100 dX11_set_100 ?_
    refine lv_topi (fun x6_101 ex6_101 => ?_)
    replace h := h x6_101 ex6_101
    refine lv_istore (lv' := [(6, .int x6_101), (5, .ref (ad G 20 0)), (1, .int x1), (3, .int x3)]) hx hb dX11_set_101 hl (by decide) rfl (fun ls hl => ?_)
    refine lv_aload hx hb dX11_set_103 (lv_at hl 1 rfl) ?_
    refine lv_iload_n hx hb dX11_set_105 rfl (lv_at hl 2 rfl) ?_
    refine lv_iload_n hx hb dX11_set_106 rfl (lv_at hl 3 rfl) ?_
    obtain ⟨hb107, h⟩ := h
    refine m_ast S hK (ar_20 G) hW hS (ci_20 (Nat.le_of_ble_eq_true rfl)) hb107 dX11_set_107 (fun Mm107 eMm107 H locs hW hS => ?_)
    replace h := h Mm107 eMm107
    refine lv_iload hx hb dX11_set_108 (lv_at hl 0 rfl) ?_
    exact m_iret S hret hlocks hKX hW hbs hS rfl h dX11_set_110
  have b95b : ∀ (M : Mem) (H : Heap) (locs : List Loc) (ls : Array Slot), WPm G M H → va_S (fun q => bs G ≤ q) s.heap H locs → lv_has ls 7 [(1, .int x1), (3, .int x3)] → s_X11_set_95b x1 x3 P M  → W p l e rm_X11_set s m AV below meth c H locs 0 0 (MQ below (va_Qi P (WS G) (fun q => bs G ≤ q)) AV s 0 0 (fun q => bs G ≤ q)) (F0 m 95 ls [.ref (ad G 19 0)]) := by
    intro M H locs ls hW hS hl h
    unfold s_X11_set_95b at h
    refine lv_astore (lv' := [(5, .ref (ad G 19 0)), (1, .int x1), (3, .int x3)]) hx hb dX11_set_95 hl (by decide) rfl (fun ls hl => ?_)
    refine lv_aload hx hb dX11_set_97 (lv_at hl 0 rfl) ?_
    refine lv_iload_n hx hb dX11_set_99 rfl (lv_at hl 1 rfl) ?_
    obtain ⟨hb100, h⟩ := h
    refine m_ald S hK (ar_19 G) hW (ci_19 (Nat.le_of_ble_eq_true rfl)) hb100 dX11_set_100 ?_
    refine lv_topi (fun x6_101 ex6_101 => ?_)
    replace h := h x6_101 ex6_101
    refine lv_istore (lv' := [(6, .int x6_101), (5, .ref (ad G 19 0)), (1, .int x1), (3, .int x3)]) hx hb dX11_set_101 hl (by decide) rfl (fun ls hl => ?_)
    refine lv_aload hx hb dX11_set_103 (lv_at hl 1 rfl) ?_
    refine lv_iload_n hx hb dX11_set_105 rfl (lv_at hl 2 rfl) ?_
    refine lv_iload_n hx hb dX11_set_106 rfl (lv_at hl 3 rfl) ?_
    obtain ⟨hb107, h⟩ := h
    refine m_ast S hK (ar_19 G) hW hS (ci_19 (Nat.le_of_ble_eq_true rfl)) hb107 dX11_set_107 (fun Mm107 eMm107 H locs hW hS => ?_)
    replace h := h Mm107 eMm107
    refine lv_iload hx hb dX11_set_108 (lv_at hl 0 rfl) ?_
    exact m_iret S hret hlocks hKX hW hbs hS rfl h dX11_set_110
  have b95c : ∀ (M : Mem) (H : Heap) (locs : List Loc) (ls : Array Slot), WPm G M H → va_S (fun q => bs G ≤ q) s.heap H locs → lv_has ls 7 [(1, .int x1), (3, .int x3)] → s_X11_set_95c x1 x3 P M  → W p l e rm_X11_set s m AV below meth c H locs 0 0 (MQ below (va_Qi P (WS G) (fun q => bs G ≤ q)) AV s 0 0 (fun q => bs G ≤ q)) (F0 m 95 ls [.ref (ad G 18 0)]) := by
    intro M H locs ls hW hS hl h
    unfold s_X11_set_95c at h
    refine lv_astore (lv' := [(5, .ref (ad G 18 0)), (1, .int x1), (3, .int x3)]) hx hb dX11_set_95 hl (by decide) rfl (fun ls hl => ?_)
    refine lv_aload hx hb dX11_set_97 (lv_at hl 0 rfl) ?_
    refine lv_iload_n hx hb dX11_set_99 rfl (lv_at hl 1 rfl) ?_
    obtain ⟨hb100, h⟩ := h
    refine m_ald S hK (ar_18 G) hW (ci_18 (Nat.le_of_ble_eq_true rfl)) hb100 dX11_set_100 ?_
    refine lv_topi (fun x6_101 ex6_101 => ?_)
    replace h := h x6_101 ex6_101
    refine lv_istore (lv' := [(6, .int x6_101), (5, .ref (ad G 18 0)), (1, .int x1), (3, .int x3)]) hx hb dX11_set_101 hl (by decide) rfl (fun ls hl => ?_)
    refine lv_aload hx hb dX11_set_103 (lv_at hl 1 rfl) ?_
    refine lv_iload_n hx hb dX11_set_105 rfl (lv_at hl 2 rfl) ?_
    refine lv_iload_n hx hb dX11_set_106 rfl (lv_at hl 3 rfl) ?_
    obtain ⟨hb107, h⟩ := h
    refine m_ast S hK (ar_18 G) hW hS (ci_18 (Nat.le_of_ble_eq_true rfl)) hb107 dX11_set_107 (fun Mm107 eMm107 H locs hW hS => ?_)
    replace h := h Mm107 eMm107
    refine lv_iload hx hb dX11_set_108 (lv_at hl 0 rfl) ?_
    exact m_iret S hret hlocks hKX hW hbs hS rfl h dX11_set_110
  have b13 : ∀ (M : Mem) (y0 : Int32) (H : Heap) (locs : List Loc) (ls : Array Slot), WPm G M H → va_S (fun q => bs G ≤ q) s.heap H locs → lv_has ls 7 [(0, .ref (ad G 0 0)), (1, .int x1), (2, .int x2), (3, .int x3)] → s_X11_set_13 x1 x2 x3 P M y0 → W p l e rm_X11_set s m AV below meth c H locs 0 0 (MQ below (va_Qi P (WS G) (fun q => bs G ≤ q)) AV s 0 0 (fun q => bs G ≤ q)) (F0 m 13 ls [.int y0]) := by
    intro M y0 H locs ls hW hS hl h
    unfold s_X11_set_13 at h
    refine lv_istore (lv' := [(4, .int y0), (0, .ref (ad G 0 0)), (1, .int x1), (2, .int x2), (3, .int x3)]) hx hb dX11_set_13 hl (by decide) rfl (fun ls hl => ?_)
    refine lv_aload_n hx hb dX11_set_15 rfl (lv_at hl 1 rfl) ?_
    refine m_getr S hK fk_X11_12 (gr_0_0 G 0) hW (ci_0 (Nat.le_of_ble_eq_true rfl)) dX11_set_16 ?_
    refine m_getr S hK fk_X11_47 (gr_1_1 G 0) hW (ci_1 (Nat.le_of_ble_eq_true rfl)) dX11_set_19 ?_
    refine lv_iload_n hx hb dX11_set_22 rfl (lv_at hl 2 rfl) ?_
    refine m_ci0 (m_rV S hKX hW (m_szH hbs hS) (c_X8_has l (Nat.le_of_ble_eq_true rfl)) h lk_X11_61 (m_recv hK hW (ci_2 (Nat.le_of_ble_eq_true rfl)) (rc_2 G) rfl) rfl hl.1 rfl ⟨Nat.le_of_ble_eq_true rfl, Nat.le_of_ble_eq_true rfl⟩ (Nat.le_of_ble_eq_true rfl) ⟨Nat.le_of_ble_eq_true rfl, Nat.le_of_ble_eq_true rfl⟩ dX11_set_23) hS rfl rfl (fun rr23 Mm23 H locs h hW hS => ?_)
    refine lv_if_eq (tgt := 48) hx hb dX11_set_26 (by decide) (fun c26 => ?_) (fun c26 => ?_)
    · replace h := h.1 c26
      refine lv_iconst hx hb dX11_set_48 ki_m1 ?_
      exact m_iret S hret hlocks hKX hW hbs hS rfl h dX11_set_49
    · replace h := h.2 c26
      refine lv_iload_n hx hb dX11_set_29 rfl (lv_at hl 3 rfl) ?_
      refine lv_iconst hx hb dX11_set_30 ki_0 ?_
      refine lv_iconst hx hb dX11_set_31 ki_2 ?_
      refine m_ci0 (m_rS S hKX hW (m_szH hbs hS) (c_X11_within l ) h lk_X11_43 rfl hl.1 rfl ⟨Nat.le_of_ble_eq_true rfl, Nat.le_of_ble_eq_true rfl⟩ (Nat.le_of_ble_eq_true rfl) ⟨Nat.le_of_ble_eq_true rfl, Nat.le_of_ble_eq_true rfl⟩ dX11_set_32) hS rfl rfl (fun rr32 Mm32 H locs h hW hS => ?_)
      refine lv_if_eq (tgt := 48) hx hb dX11_set_35 (by decide) (fun c35 => ?_) (fun c35 => ?_)
      · replace h := h.1 c35
        refine lv_iconst hx hb dX11_set_48 ki_m1 ?_
        exact m_iret S hret hlocks hKX hW hbs hS rfl h dX11_set_49
      · replace h := h.2 c35
        refine lv_iload_n hx hb dX11_set_38 rfl (lv_at hl 4 rfl) ?_
        refine lv_iconst hx hb dX11_set_39 ki_0 ?_
        refine lv_iload hx hb dX11_set_40 (lv_at hl 0 rfl) ?_
        refine m_ci0 (m_rS S hKX hW (m_szH hbs hS) (c_X11_within l ) h lk_X11_43 rfl hl.1 rfl ⟨Nat.le_of_ble_eq_true rfl, Nat.le_of_ble_eq_true rfl⟩ (Nat.le_of_ble_eq_true rfl) ⟨Nat.le_of_ble_eq_true rfl, Nat.le_of_ble_eq_true rfl⟩ dX11_set_42) hS rfl rfl (fun rr42 Mm42 H locs h hW hS => ?_)
        refine lv_if_ne (tgt := 50) hx hb dX11_set_45 (by decide) (fun c45 => ?_) (fun c45 => ?_)
        · replace h := h.1 c45
          refine lv_iload_n hx hb dX11_set_50 rfl (lv_at hl 3 rfl) ?_
          refine lv_if_ne (tgt := 67) hx hb dX11_set_51 (by decide) (fun c51 => ?_) (fun c51 => ?_)
          · replace h := h.1 c51
            refine lv_iload_n hx hb dX11_set_67 rfl (lv_at hl 3 rfl) ?_
            refine lv_iconst hx hb dX11_set_68 ki_1 ?_
            refine lv_icmp_ne (tgt := 85) hx hb dX11_set_69 (by decide) (fun c69 => ?_) (fun c69 => ?_)
            · replace h := h.1 c69
              refine lv_aload_n hx hb dX11_set_85 rfl (lv_at hl 1 rfl) ?_
              refine m_getr S hK fk_X11_12 (gr_0_0 G 0) hW (ci_0 (Nat.le_of_ble_eq_true rfl)) dX11_set_86 ?_
              refine m_getr S hK fk_X11_47 (gr_1_1 G 0) hW (ci_1 (Nat.le_of_ble_eq_true rfl)) dX11_set_89 ?_
              refine m_getr S hK fk_X11_72 (gr_2_6 G 0) hW (ci_2 (Nat.le_of_ble_eq_true rfl)) dX11_set_92 ?_
              exact b95 _ H locs ls hW hS (lv_sub hl [2, 4] rfl) h
            · replace h := h.2 c69
              refine lv_aload_n hx hb dX11_set_72 rfl (lv_at hl 1 rfl) ?_
              refine m_getr S hK fk_X11_12 (gr_0_0 G 0) hW (ci_0 (Nat.le_of_ble_eq_true rfl)) dX11_set_73 ?_
              refine m_getr S hK fk_X11_47 (gr_1_1 G 0) hW (ci_1 (Nat.le_of_ble_eq_true rfl)) dX11_set_76 ?_
              refine m_getr S hK fk_X11_69 (gr_2_5 G 0) hW (ci_2 (Nat.le_of_ble_eq_true rfl)) dX11_set_79 ?_
              refine lv_goto (tgt := 95) hx hb dX11_set_82 (by decide) ?_
              exact b95b _ H locs ls hW hS (lv_sub hl [2, 4] rfl) h
          · replace h := h.2 c51
            refine lv_aload_n hx hb dX11_set_54 rfl (lv_at hl 1 rfl) ?_
            refine m_getr S hK fk_X11_12 (gr_0_0 G 0) hW (ci_0 (Nat.le_of_ble_eq_true rfl)) dX11_set_55 ?_
            refine m_getr S hK fk_X11_47 (gr_1_1 G 0) hW (ci_1 (Nat.le_of_ble_eq_true rfl)) dX11_set_58 ?_
            refine m_getr S hK fk_X11_65 (gr_2_4 G 0) hW (ci_2 (Nat.le_of_ble_eq_true rfl)) dX11_set_61 ?_
            refine lv_goto (tgt := 95) hx hb dX11_set_64 (by decide) ?_
            exact b95c _ H locs ls hW hS (lv_sub hl [2, 4] rfl) h
        · replace h := h.2 c45
          refine lv_iconst hx hb dX11_set_48 ki_m1 ?_
          exact m_iret S hret hlocks hKX hW hbs hS rfl h dX11_set_49
  unfold s_X11_set at h
  refine lv_iload_n hx hb dX11_set_0 rfl (lv_at hl 2 rfl) ?_
  refine lv_iconst hx hb dX11_set_1 ki_2 ?_
  refine lv_icmp_ne (tgt := 11) hx hb dX11_set_2 (by decide) (fun c2 => ?_) (fun c2 => ?_)
  · replace h := h.1 c2
    refine lv_bipush hx hb dX11_set_11 kb_100 ?_
    exact b13 _ _ H locs ls hW hS (lv_sub hl [0, 1, 2, 3] rfl) h
  · replace h := h.2 c2
    refine lv_sipush hx hb dX11_set_5 ks_999 ?_
    refine lv_goto (tgt := 13) hx hb dX11_set_8 (by decide) ?_
    exact b13 _ _ H locs ls hW hS (lv_sub hl [0, 1, 2, 3] rfl) h
abbrev rm_X11_dairy : Room := { frames := 1, cells := 0, slots := 0, locals := 25 }
set_option maxHeartbeats 4000000 in
set_option maxRecDepth 100000 in
theorem c_X11_dairy (l : Launch) {G : Gn} {M : Mem} {x1 : Int32} {x2 : Int32} {x3 : Int32} {P : Int32 → Mem → Prop} : MQi l yX11_dairy cX11_dairy 4 (some .int) rm_X11_dairy [.ref (ad G 0 0), .int x1, .int x2, .int x3] G M (s_X11_dairy M x1 x2 x3 P) P := by
  refine m_enter (by decide +kernel) (Nat.le_of_ble_eq_true rfl) ?_
  intro p e s m below meth c ls H locs S hret hlocks hname hKX hbs hW hS hl h
  obtain ⟨AV, hAV⟩ : ∃ z : Array Value, z = ([.ref (ad G 0 0), .int x1, .int x2, .int x3] : List Value).toArray := ⟨_, rfl⟩
  rw [← hAV] at S ⊢
  replace S : CallFix p m c cX11_dairy 4 s AV lw_G "MilkDesk" := S
  have hK := hKX.1
  have hx := S.1
  have hb := S.2.1
  have hml := S.2.2.1
  have hown := S.2.2.2.1
  have hts := S.2.2.2.2
  replace hl : lv_has ls 4 [(0, .ref (ad G 0 0)), (1, .int x1), (2, .int x2), (3, .int x3)] := hl
  unfold s_X11_dairy at h
  refine lv_iload_n hx hb dX11_dairy_0 rfl (lv_at hl 1 rfl) ?_
  refine lv_iconst hx hb dX11_dairy_1 ki_0 ?_
  refine lv_sipush hx hb dX11_dairy_2 ks_9999 ?_
  refine m_ci0 (m_rS S hKX hW (m_szH hbs hS) (c_X11_within l ) h lk_X11_43 rfl hl.1 rfl ⟨Nat.le_of_ble_eq_true rfl, Nat.le_of_ble_eq_true rfl⟩ (Nat.le_of_ble_eq_true rfl) ⟨Nat.le_of_ble_eq_true rfl, Nat.le_of_ble_eq_true rfl⟩ dX11_dairy_5) hS rfl rfl (fun rr5 Mm5 H locs h hW hS => ?_)
  refine lv_if_eq (tgt := 33) hx hb dX11_dairy_8 (by decide) (fun c8 => ?_) (fun c8 => ?_)
  · replace h := h.1 c8
    refine lv_iconst hx hb dX11_dairy_33 ki_m1 ?_
    exact m_iret S hret hlocks hKX hW hbs hS rfl h dX11_dairy_34
  · replace h := h.2 c8
    refine lv_iload_n hx hb dX11_dairy_11 rfl (lv_at hl 2 rfl) ?_
    refine lv_iconst hx hb dX11_dairy_12 ki_0 ?_
    refine lv_sipush hx hb dX11_dairy_13 ks_9999 ?_
    refine m_ci0 (m_rS S hKX hW (m_szH hbs hS) (c_X11_within l ) h lk_X11_43 rfl hl.1 rfl ⟨Nat.le_of_ble_eq_true rfl, Nat.le_of_ble_eq_true rfl⟩ (Nat.le_of_ble_eq_true rfl) ⟨Nat.le_of_ble_eq_true rfl, Nat.le_of_ble_eq_true rfl⟩ dX11_dairy_16) hS rfl rfl (fun rr16 Mm16 H locs h hW hS => ?_)
    refine lv_if_eq (tgt := 33) hx hb dX11_dairy_19 (by decide) (fun c19 => ?_) (fun c19 => ?_)
    · replace h := h.1 c19
      refine lv_iconst hx hb dX11_dairy_33 ki_m1 ?_
      exact m_iret S hret hlocks hKX hW hbs hS rfl h dX11_dairy_34
    · replace h := h.2 c19
      refine lv_iload_n hx hb dX11_dairy_22 rfl (lv_at hl 3 rfl) ?_
      refine lv_iconst hx hb dX11_dairy_23 ki_1 ?_
      refine lv_sipush hx hb dX11_dairy_24 ks_9999 ?_
      refine m_ci0 (m_rS S hKX hW (m_szH hbs hS) (c_X11_within l ) h lk_X11_43 rfl hl.1 rfl ⟨Nat.le_of_ble_eq_true rfl, Nat.le_of_ble_eq_true rfl⟩ (Nat.le_of_ble_eq_true rfl) ⟨Nat.le_of_ble_eq_true rfl, Nat.le_of_ble_eq_true rfl⟩ dX11_dairy_27) hS rfl rfl (fun rr27 Mm27 H locs h hW hS => ?_)
      refine lv_if_ne (tgt := 35) hx hb dX11_dairy_30 (by decide) (fun c30 => ?_) (fun c30 => ?_)
      · replace h := h.1 c30
        refine lv_aload_n hx hb dX11_dairy_35 rfl (lv_at hl 0 rfl) ?_
        refine m_getr S hK fk_X11_12 (gr_0_0 G 0) hW (ci_0 (Nat.le_of_ble_eq_true rfl)) dX11_dairy_36 ?_
        refine m_getr S hK fk_X11_75 (gr_1_2 G 0) hW (ci_1 (Nat.le_of_ble_eq_true rfl)) dX11_dairy_39 ?_
        refine m_geti S hK fk_X11_79 (gi_3_0 G) hW (ci_3 (Nat.le_of_ble_eq_true rfl)) dX11_dairy_42 ?_
        refine lv_iconst hx hb dX11_dairy_45 ki_5 ?_
        refine lv_icmp_lt (tgt := 52) hx hb dX11_dairy_46 (by decide) (fun c46 => ?_) (fun c46 => ?_)
        · replace h := h.1 c46
          refine lv_aload_n hx hb dX11_dairy_52 rfl (lv_at hl 0 rfl) ?_
          refine m_getr S hK fk_X11_12 (gr_0_0 G 0) hW (ci_0 (Nat.le_of_ble_eq_true rfl)) dX11_dairy_53 ?_
          refine m_getr S hK fk_X11_75 (gr_1_2 G 0) hW (ci_1 (Nat.le_of_ble_eq_true rfl)) dX11_dairy_56 ?_
          refine lv_iload_n hx hb dX11_dairy_59 rfl (lv_at hl 1 rfl) ?_
          refine lv_iload_n hx hb dX11_dairy_60 rfl (lv_at hl 2 rfl) ?_
          refine lv_iload_n hx hb dX11_dairy_61 rfl (lv_at hl 3 rfl) ?_
          refine m_ci0 (m_rV S hKX hW (m_szH hbs hS) (c_X4_come l (Nat.le_of_ble_eq_true rfl)) h lk_X11_82 (m_recv hK hW (ci_3 (Nat.le_of_ble_eq_true rfl)) (rc_3 G) rfl) rfl hl.1 rfl ⟨Nat.le_of_ble_eq_true rfl, Nat.le_of_ble_eq_true rfl⟩ (Nat.le_of_ble_eq_true rfl) ⟨Nat.le_of_ble_eq_true rfl, Nat.le_of_ble_eq_true rfl⟩ dX11_dairy_62) hS rfl rfl (fun rr62 Mm62 H locs h hW hS => ?_)
          exact m_iret S hret hlocks hKX hW hbs hS rfl h dX11_dairy_65
        · replace h := h.2 c46
          refine lv_bipush hx hb dX11_dairy_49 kb_m2 ?_
          exact m_iret S hret hlocks hKX hW hbs hS rfl h dX11_dairy_51
      · replace h := h.2 c30
        refine lv_iconst hx hb dX11_dairy_33 ki_m1 ?_
        exact m_iret S hret hlocks hKX hW hbs hS rfl h dX11_dairy_34
abbrev rm_X11_bid : Room := { frames := 1, cells := 0, slots := 0, locals := 22 }
set_option maxHeartbeats 4000000 in
set_option maxRecDepth 100000 in
theorem c_X11_bid (l : Launch) {G : Gn} {M : Mem} {x1 : Int32} {x2 : Int32} {x3 : Int32} {P : Int32 → Mem → Prop} : MQi l yX11_bid cX11_bid 6 (some .int) rm_X11_bid [.ref (ad G 0 0), .int x1, .int x2, .int x3] G M (s_X11_bid M x1 x2 x3 P) P := by
  refine m_enter (by decide +kernel) (Nat.le_of_ble_eq_true rfl) ?_
  intro p e s m below meth c ls H locs S hret hlocks hname hKX hbs hW hS hl h
  obtain ⟨AV, hAV⟩ : ∃ z : Array Value, z = ([.ref (ad G 0 0), .int x1, .int x2, .int x3] : List Value).toArray := ⟨_, rfl⟩
  rw [← hAV] at S ⊢
  replace S : CallFix p m c cX11_bid 6 s AV lw_G "MilkDesk" := S
  have hK := hKX.1
  have hx := S.1
  have hb := S.2.1
  have hml := S.2.2.1
  have hown := S.2.2.2.1
  have hts := S.2.2.2.2
  replace hl : lv_has ls 6 [(0, .ref (ad G 0 0)), (1, .int x1), (2, .int x2), (3, .int x3)] := hl
  unfold s_X11_bid at h
  refine lv_aload_n hx hb dX11_bid_0 rfl (lv_at hl 0 rfl) ?_
  refine m_getr S hK fk_X11_12 (gr_0_0 G 0) hW (ci_0 (Nat.le_of_ble_eq_true rfl)) dX11_bid_1 ?_
  refine m_getr S hK fk_X11_75 (gr_1_2 G 0) hW (ci_1 (Nat.le_of_ble_eq_true rfl)) dX11_bid_4 ?_
  refine lv_iload_n hx hb dX11_bid_7 rfl (lv_at hl 1 rfl) ?_
  refine m_ci0 (m_rV S hKX hW (m_szH hbs hS) (c_X4_has l (Nat.le_of_ble_eq_true rfl)) h lk_X11_85 (m_recv hK hW (ci_3 (Nat.le_of_ble_eq_true rfl)) (rc_3 G) rfl) rfl hl.1 rfl ⟨Nat.le_of_ble_eq_true rfl, Nat.le_of_ble_eq_true rfl⟩ (Nat.le_of_ble_eq_true rfl) ⟨Nat.le_of_ble_eq_true rfl, Nat.le_of_ble_eq_true rfl⟩ dX11_bid_8) hS rfl rfl (fun rr8 Mm8 H locs h hW hS => ?_)
  refine lv_if_eq (tgt := 34) hx hb dX11_bid_11 (by decide) (fun c11 => ?_) (fun c11 => ?_)
  · replace h := h.1 c11
    refine lv_iconst hx hb dX11_bid_34 ki_m1 ?_
    exact m_iret S hret hlocks hKX hW hbs hS rfl h dX11_bid_35
  · replace h := h.2 c11
    refine lv_iload_n hx hb dX11_bid_14 rfl (lv_at hl 2 rfl) ?_
    refine lv_iconst hx hb dX11_bid_15 ki_0 ?_
    refine lv_iconst hx hb dX11_bid_16 ki_3 ?_
    refine m_ci0 (m_rS S hKX hW (m_szH hbs hS) (c_X11_within l ) h lk_X11_43 rfl hl.1 rfl ⟨Nat.le_of_ble_eq_true rfl, Nat.le_of_ble_eq_true rfl⟩ (Nat.le_of_ble_eq_true rfl) ⟨Nat.le_of_ble_eq_true rfl, Nat.le_of_ble_eq_true rfl⟩ dX11_bid_17) hS rfl rfl (fun rr17 Mm17 H locs h hW hS => ?_)
    refine lv_if_eq (tgt := 34) hx hb dX11_bid_20 (by decide) (fun c20 => ?_) (fun c20 => ?_)
    · replace h := h.1 c20
      refine lv_iconst hx hb dX11_bid_34 ki_m1 ?_
      exact m_iret S hret hlocks hKX hW hbs hS rfl h dX11_bid_35
    · replace h := h.2 c20
      refine lv_iload_n hx hb dX11_bid_23 rfl (lv_at hl 3 rfl) ?_
      refine lv_iconst hx hb dX11_bid_24 ki_m1 ?_
      refine lv_sipush hx hb dX11_bid_25 ks_999 ?_
      refine m_ci0 (m_rS S hKX hW (m_szH hbs hS) (c_X11_within l ) h lk_X11_43 rfl hl.1 rfl ⟨Nat.le_of_ble_eq_true rfl, Nat.le_of_ble_eq_true rfl⟩ (Nat.le_of_ble_eq_true rfl) ⟨Nat.le_of_ble_eq_true rfl, Nat.le_of_ble_eq_true rfl⟩ dX11_bid_28) hS rfl rfl (fun rr28 Mm28 H locs h hW hS => ?_)
      refine lv_if_ne (tgt := 36) hx hb dX11_bid_31 (by decide) (fun c31 => ?_) (fun c31 => ?_)
      · replace h := h.1 c31
        refine lv_iload_n hx hb dX11_bid_36 rfl (lv_at hl 1 rfl) ?_
        refine lv_iconst hx hb dX11_bid_37 ki_4 ?_
        refine lv_imul hx hb dX11_bid_38 ?_
        refine lv_iload_n hx hb dX11_bid_39 rfl (lv_at hl 2 rfl) ?_
        refine lv_iadd hx hb dX11_bid_40 ?_
        refine lv_topi (fun x4_41 ex4_41 => ?_)
        replace h := h x4_41 ex4_41
        refine lv_istore (lv' := [(4, .int x4_41), (0, .ref (ad G 0 0)), (1, .int x1), (2, .int x2), (3, .int x3)]) hx hb dX11_bid_41 hl (by decide) rfl (fun ls hl => ?_)
        refine lv_aload_n hx hb dX11_bid_43 rfl (lv_at hl 1 rfl) ?_
        refine m_getr S hK fk_X11_12 (gr_0_0 G 0) hW (ci_0 (Nat.le_of_ble_eq_true rfl)) dX11_bid_44 ?_
        refine m_getr S hK fk_X11_75 (gr_1_2 G 0) hW (ci_1 (Nat.le_of_ble_eq_true rfl)) dX11_bid_47 ?_
        refine m_getr S hK fk_X11_86 (gr_3_5 G 0) hW (ci_3 (Nat.le_of_ble_eq_true rfl)) dX11_bid_50 ?_
        refine lv_iload hx hb dX11_bid_53 (lv_at hl 0 rfl) ?_
        obtain ⟨hb55, h⟩ := h
        refine m_ald S hK (ar_26 G) hW (ci_26 (Nat.le_of_ble_eq_true rfl)) hb55 dX11_bid_55 ?_
        refine lv_topi (fun x5_56 ex5_56 => ?_)
        replace h := h x5_56 ex5_56
        refine lv_istore (lv' := [(5, .int x5_56), (4, .int x4_41), (0, .ref (ad G 0 0)), (1, .int x1), (2, .int x2), (3, .int x3)]) hx hb dX11_bid_56 hl (by decide) rfl (fun ls hl => ?_)
        refine lv_aload_n hx hb dX11_bid_58 rfl (lv_at hl 2 rfl) ?_
        refine m_getr S hK fk_X11_12 (gr_0_0 G 0) hW (ci_0 (Nat.le_of_ble_eq_true rfl)) dX11_bid_59 ?_
        refine m_getr S hK fk_X11_75 (gr_1_2 G 0) hW (ci_1 (Nat.le_of_ble_eq_true rfl)) dX11_bid_62 ?_
        refine m_getr S hK fk_X11_86 (gr_3_5 G 0) hW (ci_3 (Nat.le_of_ble_eq_true rfl)) dX11_bid_65 ?_
        refine lv_iload hx hb dX11_bid_68 (lv_at hl 1 rfl) ?_
        refine lv_iload_n hx hb dX11_bid_70 rfl (lv_at hl 5 rfl) ?_
        obtain ⟨hb71, h⟩ := h
        refine m_ast S hK (ar_26 G) hW hS (ci_26 (Nat.le_of_ble_eq_true rfl)) hb71 dX11_bid_71 (fun Mm71 eMm71 H locs hW hS => ?_)
        replace h := h Mm71 eMm71
        refine lv_iload hx hb dX11_bid_72 (lv_at hl 0 rfl) ?_
        refine lv_iconst hx hb dX11_bid_74 ki_m1 ?_
        refine lv_icmp_ne (tgt := 83) hx hb dX11_bid_75 (by decide) (fun c75 => ?_) (fun c75 => ?_)
        · replace h := h.1 c75
          refine lv_iload hx hb dX11_bid_83 (lv_at hl 0 rfl) ?_
          exact m_iret S hret hlocks hKX hW hbs hS rfl h dX11_bid_85
        · replace h := h.2 c75
          refine lv_bipush hx hb dX11_bid_78 kb_m4 ?_
          refine lv_goto (tgt := 85) hx hb dX11_bid_80 (by decide) ?_
          exact m_iret S hret hlocks hKX hW hbs hS rfl h dX11_bid_85
      · replace h := h.2 c31
        refine lv_iconst hx hb dX11_bid_34 ki_m1 ?_
        exact m_iret S hret hlocks hKX hW hbs hS rfl h dX11_bid_35
abbrev rm_X11_won : Room := { frames := 1, cells := 0, slots := 0, locals := 25 }
set_option maxHeartbeats 4000000 in
set_option maxRecDepth 100000 in
theorem c_X11_won (l : Launch) {G : Gn} {M : Mem} {x1 : Int32} {P : Int32 → Mem → Prop} : MQi l yX11_won cX11_won 3 (some .int) rm_X11_won [.ref (ad G 0 0), .int x1] G M (s_X11_won M x1 P) P := by
  refine m_enter (by decide +kernel) (Nat.le_of_ble_eq_true rfl) ?_
  intro p e s m below meth c ls H locs S hret hlocks hname hKX hbs hW hS hl h
  obtain ⟨AV, hAV⟩ : ∃ z : Array Value, z = ([.ref (ad G 0 0), .int x1] : List Value).toArray := ⟨_, rfl⟩
  rw [← hAV] at S ⊢
  replace S : CallFix p m c cX11_won 3 s AV lw_G "MilkDesk" := S
  have hK := hKX.1
  have hx := S.1
  have hb := S.2.1
  have hml := S.2.2.1
  have hown := S.2.2.2.1
  have hts := S.2.2.2.2
  replace hl : lv_has ls 3 [(0, .ref (ad G 0 0)), (1, .int x1)] := hl
  unfold s_X11_won at h
  refine lv_iload_n hx hb dX11_won_0 rfl (lv_at hl 1 rfl) ?_
  refine lv_iconst hx hb dX11_won_1 ki_0 ?_
  refine lv_iconst hx hb dX11_won_2 ki_3 ?_
  refine m_ci0 (m_rS S hKX hW (m_szH hbs hS) (c_X11_within l ) h lk_X11_43 rfl hl.1 rfl ⟨Nat.le_of_ble_eq_true rfl, Nat.le_of_ble_eq_true rfl⟩ (Nat.le_of_ble_eq_true rfl) ⟨Nat.le_of_ble_eq_true rfl, Nat.le_of_ble_eq_true rfl⟩ dX11_won_3) hS rfl rfl (fun rr3 Mm3 H locs h hW hS => ?_)
  refine lv_if_ne (tgt := 11) hx hb dX11_won_6 (by decide) (fun c6 => ?_) (fun c6 => ?_)
  · replace h := h.1 c6
    refine lv_aload_n hx hb dX11_won_11 rfl (lv_at hl 0 rfl) ?_
    refine m_getr S hK fk_X11_12 (gr_0_0 G 0) hW (ci_0 (Nat.le_of_ble_eq_true rfl)) dX11_won_12 ?_
    refine m_getr S hK fk_X11_75 (gr_1_2 G 0) hW (ci_1 (Nat.le_of_ble_eq_true rfl)) dX11_won_15 ?_
    refine lv_iload_n hx hb dX11_won_18 rfl (lv_at hl 1 rfl) ?_
    refine m_ci0 (m_rV S hKX hW (m_szH hbs hS) (c_X4_winner l (Nat.le_of_ble_eq_true rfl)) h lk_X11_89 (m_recv hK hW (ci_3 (Nat.le_of_ble_eq_true rfl)) (rc_3 G) rfl) rfl hl.1 rfl ⟨Nat.le_of_ble_eq_true rfl, Nat.le_of_ble_eq_true rfl⟩ (Nat.le_of_ble_eq_true rfl) ⟨Nat.le_of_ble_eq_true rfl, Nat.le_of_ble_eq_true rfl⟩ dX11_won_19) hS rfl rfl (fun rr19 Mm19 H locs h hW hS => ?_)
    refine lv_istore_n (lv' := [(2, .int rr19), (0, .ref (ad G 0 0)), (1, .int x1)]) hx hb dX11_won_22 rfl hl (by decide) rfl (fun ls hl => ?_)
    refine lv_iload_n hx hb dX11_won_23 rfl (lv_at hl 0 rfl) ?_
    refine lv_if_ge (tgt := 32) hx hb dX11_won_24 (by decide) (fun c24 => ?_) (fun c24 => ?_)
    · replace h := h.1 c24
      refine lv_iload_n hx hb dX11_won_32 rfl (lv_at hl 0 rfl) ?_
      exact m_iret S hret hlocks hKX hW hbs hS rfl h dX11_won_33
    · replace h := h.2 c24
      refine lv_bipush hx hb dX11_won_27 kb_m4 ?_
      refine lv_goto (tgt := 33) hx hb dX11_won_29 (by decide) ?_
      exact m_iret S hret hlocks hKX hW hbs hS rfl h dX11_won_33
  · replace h := h.2 c6
    refine lv_iconst hx hb dX11_won_9 ki_m1 ?_
    exact m_iret S hret hlocks hKX hW hbs hS rfl h dX11_won_10
abbrev rm_X11_bottles : Room := { frames := 1, cells := 0, slots := 0, locals := 21 }
set_option maxHeartbeats 4000000 in
set_option maxRecDepth 100000 in
theorem c_X11_bottles (l : Launch) {G : Gn} {M : Mem} {x1 : Int32} {P : Int32 → Mem → Prop} : MQi l yX11_bottles cX11_bottles 2 (some .int) rm_X11_bottles [.ref (ad G 0 0), .int x1] G M (s_X11_bottles M x1 P) P := by
  refine m_enter (by decide +kernel) (Nat.le_of_ble_eq_true rfl) ?_
  intro p e s m below meth c ls H locs S hret hlocks hname hKX hbs hW hS hl h
  obtain ⟨AV, hAV⟩ : ∃ z : Array Value, z = ([.ref (ad G 0 0), .int x1] : List Value).toArray := ⟨_, rfl⟩
  rw [← hAV] at S ⊢
  replace S : CallFix p m c cX11_bottles 2 s AV lw_G "MilkDesk" := S
  have hK := hKX.1
  have hx := S.1
  have hb := S.2.1
  have hml := S.2.2.1
  have hown := S.2.2.2.1
  have hts := S.2.2.2.2
  replace hl : lv_has ls 2 [(0, .ref (ad G 0 0)), (1, .int x1)] := hl
  unfold s_X11_bottles at h
  refine lv_aload_n hx hb dX11_bottles_0 rfl (lv_at hl 0 rfl) ?_
  refine m_getr S hK fk_X11_12 (gr_0_0 G 0) hW (ci_0 (Nat.le_of_ble_eq_true rfl)) dX11_bottles_1 ?_
  refine m_getr S hK fk_X11_75 (gr_1_2 G 0) hW (ci_1 (Nat.le_of_ble_eq_true rfl)) dX11_bottles_4 ?_
  refine lv_iload_n hx hb dX11_bottles_7 rfl (lv_at hl 1 rfl) ?_
  refine m_ci0 (m_rV S hKX hW (m_szH hbs hS) (c_X4_has l (Nat.le_of_ble_eq_true rfl)) h lk_X11_85 (m_recv hK hW (ci_3 (Nat.le_of_ble_eq_true rfl)) (rc_3 G) rfl) rfl hl.1 rfl ⟨Nat.le_of_ble_eq_true rfl, Nat.le_of_ble_eq_true rfl⟩ (Nat.le_of_ble_eq_true rfl) ⟨Nat.le_of_ble_eq_true rfl, Nat.le_of_ble_eq_true rfl⟩ dX11_bottles_8) hS rfl rfl (fun rr8 Mm8 H locs h hW hS => ?_)
  refine lv_if_eq (tgt := 29) hx hb dX11_bottles_11 (by decide) (fun c11 => ?_) (fun c11 => ?_)
  · replace h := h.1 c11
    refine lv_iconst hx hb dX11_bottles_29 ki_m1 ?_
    exact m_iret S hret hlocks hKX hW hbs hS rfl h dX11_bottles_30
  · replace h := h.2 c11
    refine lv_aload_n hx hb dX11_bottles_14 rfl (lv_at hl 0 rfl) ?_
    refine m_getr S hK fk_X11_12 (gr_0_0 G 0) hW (ci_0 (Nat.le_of_ble_eq_true rfl)) dX11_bottles_15 ?_
    refine m_getr S hK fk_X11_75 (gr_1_2 G 0) hW (ci_1 (Nat.le_of_ble_eq_true rfl)) dX11_bottles_18 ?_
    refine m_getr S hK fk_X11_93 (gr_3_3 G 0) hW (ci_3 (Nat.le_of_ble_eq_true rfl)) dX11_bottles_21 ?_
    refine lv_iload_n hx hb dX11_bottles_24 rfl (lv_at hl 1 rfl) ?_
    obtain ⟨hb25, h⟩ := h
    refine m_ald S hK (ar_24 G) hW (ci_24 (Nat.le_of_ble_eq_true rfl)) hb25 dX11_bottles_25 ?_
    refine lv_goto (tgt := 30) hx hb dX11_bottles_26 (by decide) ?_
    exact m_iret S hret hlocks hKX hW hbs hS rfl h dX11_bottles_30
abbrev rm_X11_month : Room := { frames := 1, cells := 0, slots := 0, locals := 22 }
set_option maxHeartbeats 4000000 in
set_option maxRecDepth 100000 in
theorem c_X11_month (l : Launch) {G : Gn} {M : Mem} {x1 : Int32} {x2 : Int32} {x3 : Int32} {P : Int32 → Mem → Prop} : MQi l yX11_month cX11_month 7 (some .int) rm_X11_month [.ref (ad G 0 0), .int x1, .int x2, .int x3] G M (s_X11_month M x1 x2 x3 P) P := by
  refine m_enter (by decide +kernel) (Nat.le_of_ble_eq_true rfl) ?_
  intro p e s m below meth c ls H locs S hret hlocks hname hKX hbs hW hS hl h
  obtain ⟨AV, hAV⟩ : ∃ z : Array Value, z = ([.ref (ad G 0 0), .int x1, .int x2, .int x3] : List Value).toArray := ⟨_, rfl⟩
  rw [← hAV] at S ⊢
  replace S : CallFix p m c cX11_month 7 s AV lw_G "MilkDesk" := S
  have hK := hKX.1
  have hx := S.1
  have hb := S.2.1
  have hml := S.2.2.1
  have hown := S.2.2.2.1
  have hts := S.2.2.2.2
  replace hl : lv_has ls 7 [(0, .ref (ad G 0 0)), (1, .int x1), (2, .int x2), (3, .int x3)] := hl
  have b21 : ∀ (M : Mem) (y0 : Int32) (H : Heap) (locs : List Loc) (ls : Array Slot), WPm G M H → va_S (fun q => bs G ≤ q) s.heap H locs → lv_has ls 7 [(0, .ref (ad G 0 0)), (1, .int x1), (2, .int x2), (3, .int x3)] → s_X11_month_21 x1 x2 x3 P M y0 → W p l e rm_X11_month s m AV below meth c H locs 0 0 (MQ below (va_Qi P (WS G) (fun q => bs G ≤ q)) AV s 0 0 (fun q => bs G ≤ q)) (F0 m 21 ls [.int y0]) := by
    intro M y0 H locs ls hW hS hl h
    unfold s_X11_month_21 at h
    refine lv_istore (lv' := [(4, .int y0), (0, .ref (ad G 0 0)), (1, .int x1), (2, .int x2), (3, .int x3)]) hx hb dX11_month_21 hl (by decide) rfl (fun ls hl => ?_)
    refine lv_iload_n hx hb dX11_month_23 rfl (lv_at hl 2 rfl) ?_
    refine lv_iconst hx hb dX11_month_24 ki_0 ?_
    refine lv_bipush hx hb dX11_month_25 kb_11 ?_
    refine m_ci0 (m_rS S hKX hW (m_szH hbs hS) (c_X11_within l ) h lk_X11_43 rfl hl.1 rfl ⟨Nat.le_of_ble_eq_true rfl, Nat.le_of_ble_eq_true rfl⟩ (Nat.le_of_ble_eq_true rfl) ⟨Nat.le_of_ble_eq_true rfl, Nat.le_of_ble_eq_true rfl⟩ dX11_month_27) hS rfl rfl (fun rr27 Mm27 H locs h hW hS => ?_)
    refine lv_if_eq (tgt := 52) hx hb dX11_month_30 (by decide) (fun c30 => ?_) (fun c30 => ?_)
    · replace h := h.1 c30
      refine lv_iconst hx hb dX11_month_52 ki_m1 ?_
      exact m_iret S hret hlocks hKX hW hbs hS rfl h dX11_month_53
    · replace h := h.2 c30
      refine lv_iload_n hx hb dX11_month_33 rfl (lv_at hl 3 rfl) ?_
      refine lv_iconst hx hb dX11_month_34 ki_0 ?_
      refine lv_iconst hx hb dX11_month_35 ki_2 ?_
      refine m_ci0 (m_rS S hKX hW (m_szH hbs hS) (c_X11_within l ) h lk_X11_43 rfl hl.1 rfl ⟨Nat.le_of_ble_eq_true rfl, Nat.le_of_ble_eq_true rfl⟩ (Nat.le_of_ble_eq_true rfl) ⟨Nat.le_of_ble_eq_true rfl, Nat.le_of_ble_eq_true rfl⟩ dX11_month_36) hS rfl rfl (fun rr36 Mm36 H locs h hW hS => ?_)
      refine lv_if_eq (tgt := 52) hx hb dX11_month_39 (by decide) (fun c39 => ?_) (fun c39 => ?_)
      · replace h := h.1 c39
        refine lv_iconst hx hb dX11_month_52 ki_m1 ?_
        exact m_iret S hret hlocks hKX hW hbs hS rfl h dX11_month_53
      · replace h := h.2 c39
        refine lv_iload_n hx hb dX11_month_42 rfl (lv_at hl 4 rfl) ?_
        refine lv_iconst hx hb dX11_month_43 ki_0 ?_
        refine lv_iload hx hb dX11_month_44 (lv_at hl 0 rfl) ?_
        refine m_ci0 (m_rS S hKX hW (m_szH hbs hS) (c_X11_within l ) h lk_X11_43 rfl hl.1 rfl ⟨Nat.le_of_ble_eq_true rfl, Nat.le_of_ble_eq_true rfl⟩ (Nat.le_of_ble_eq_true rfl) ⟨Nat.le_of_ble_eq_true rfl, Nat.le_of_ble_eq_true rfl⟩ dX11_month_46) hS rfl rfl (fun rr46 Mm46 H locs h hW hS => ?_)
        refine lv_if_ne (tgt := 54) hx hb dX11_month_49 (by decide) (fun c49 => ?_) (fun c49 => ?_)
        · replace h := h.1 c49
          refine lv_iload_n hx hb dX11_month_54 rfl (lv_at hl 2 rfl) ?_
          refine lv_iconst hx hb dX11_month_55 ki_3 ?_
          refine lv_imul hx hb dX11_month_56 ?_
          refine lv_iload_n hx hb dX11_month_57 rfl (lv_at hl 3 rfl) ?_
          refine lv_iadd hx hb dX11_month_58 ?_
          refine lv_topi (fun x5_59 ex5_59 => ?_)
          replace h := h x5_59 ex5_59
          refine lv_istore (lv' := [(5, .int x5_59), (4, .int y0), (0, .ref (ad G 0 0)), (1, .int x1), (2, .int x2), (3, .int x3)]) hx hb dX11_month_59 hl (by decide) rfl (fun ls hl => ?_)
          refine lv_aload_n hx hb dX11_month_61 rfl (lv_at hl 2 rfl) ?_
          refine m_getr S hK fk_X11_12 (gr_0_0 G 0) hW (ci_0 (Nat.le_of_ble_eq_true rfl)) dX11_month_62 ?_
          refine m_getr S hK fk_X11_97 (gr_1_6 G 0) hW (ci_1 (Nat.le_of_ble_eq_true rfl)) dX11_month_65 ?_
          refine lv_iload hx hb dX11_month_68 (lv_at hl 0 rfl) ?_
          obtain ⟨hb70, h⟩ := h
          refine m_ald S hK (ar_12 G) hW (ci_12 (Nat.le_of_ble_eq_true rfl)) hb70 dX11_month_70 ?_
          refine lv_topi (fun x6_71 ex6_71 => ?_)
          replace h := h x6_71 ex6_71
          refine lv_istore (lv' := [(6, .int x6_71), (5, .int x5_59), (4, .int y0), (0, .ref (ad G 0 0)), (1, .int x1), (2, .int x2), (3, .int x3)]) hx hb dX11_month_71 hl (by decide) rfl (fun ls hl => ?_)
          refine lv_aload_n hx hb dX11_month_73 rfl (lv_at hl 3 rfl) ?_
          refine m_getr S hK fk_X11_12 (gr_0_0 G 0) hW (ci_0 (Nat.le_of_ble_eq_true rfl)) dX11_month_74 ?_
          refine m_getr S hK fk_X11_97 (gr_1_6 G 0) hW (ci_1 (Nat.le_of_ble_eq_true rfl)) dX11_month_77 ?_
          refine lv_iload hx hb dX11_month_80 (lv_at hl 1 rfl) ?_
          refine lv_iload_n hx hb dX11_month_82 rfl (lv_at hl 6 rfl) ?_
          obtain ⟨hb83, h⟩ := h
          refine m_ast S hK (ar_12 G) hW hS (ci_12 (Nat.le_of_ble_eq_true rfl)) hb83 dX11_month_83 (fun Mm83 eMm83 H locs hW hS => ?_)
          replace h := h Mm83 eMm83
          refine lv_iload hx hb dX11_month_84 (lv_at hl 0 rfl) ?_
          exact m_iret S hret hlocks hKX hW hbs hS rfl h dX11_month_86
        · replace h := h.2 c49
          refine lv_iconst hx hb dX11_month_52 ki_m1 ?_
          exact m_iret S hret hlocks hKX hW hbs hS rfl h dX11_month_53
  unfold s_X11_month at h
  refine lv_iload_n hx hb dX11_month_0 rfl (lv_at hl 2 rfl) ?_
  refine lv_if_ne (tgt := 9) hx hb dX11_month_1 (by decide) (fun c1 => ?_) (fun c1 => ?_)
  · replace h := h.1 c1
    refine lv_iload_n hx hb dX11_month_9 rfl (lv_at hl 2 rfl) ?_
    refine lv_iconst hx hb dX11_month_10 ki_1 ?_
    refine lv_icmp_ne (tgt := 19) hx hb dX11_month_11 (by decide) (fun c11 => ?_) (fun c11 => ?_)
    · replace h := h.1 c11
      refine lv_ldc hx hb hown (hts _ mw_439) dX11_month_19 ?_
      exact b21 _ _ H locs ls hW hS (lv_sub hl [0, 1, 2, 3] rfl) h
    · replace h := h.2 c11
      refine lv_bipush hx hb dX11_month_14 kb_99 ?_
      refine lv_goto (tgt := 21) hx hb dX11_month_16 (by decide) ?_
      exact b21 _ _ H locs ls hW hS (lv_sub hl [0, 1, 2, 3] rfl) h
  · replace h := h.2 c1
    refine lv_bipush hx hb dX11_month_4 kb_100 ?_
    refine lv_goto (tgt := 21) hx hb dX11_month_6 (by decide) ?_
    exact b21 _ _ H locs ls hW hS (lv_sub hl [0, 1, 2, 3] rfl) h
abbrev rm_X11_shelfAt : Room := { frames := 0, cells := 0, slots := 0, locals := 0 }
set_option maxHeartbeats 4000000 in
set_option maxRecDepth 100000 in
theorem c_X11_shelfAt (l : Launch) {G : Gn} {M : Mem} {x1 : Int32} {P : Option Nat → Mem → Prop} : MQq l yX11_shelfAt cX11_shelfAt 2 (some (.object "MilkDesk$Shelf")) rm_X11_shelfAt [.ref (ad G 0 0), .int x1] G M (s_X11_shelfAt M x1 P) (fun d => ad G 7 d) P := by
  refine m_enter (by decide +kernel) (Nat.le_of_ble_eq_true rfl) ?_
  intro p e s m below meth c ls H locs S hret hlocks hname hKX hbs hW hS hl h
  obtain ⟨AV, hAV⟩ : ∃ z : Array Value, z = ([.ref (ad G 0 0), .int x1] : List Value).toArray := ⟨_, rfl⟩
  rw [← hAV] at S ⊢
  replace S : CallFix p m c cX11_shelfAt 2 s AV lw_G "MilkDesk" := S
  have hK := hKX.1
  have hx := S.1
  have hb := S.2.1
  have hml := S.2.2.1
  have hown := S.2.2.2.1
  have hts := S.2.2.2.2
  replace hl : lv_has ls 2 [(0, .ref (ad G 0 0)), (1, .int x1)] := hl
  have b22 : ∀ (M : Mem) (H : Heap) (locs : List Loc) (ls : Array Slot), WPm G M H → va_S (fun q => bs G ≤ q) s.heap H locs → lv_has ls 2 [] → s_X11_shelfAt_22 P M  → W p l e rm_X11_shelfAt s m AV below meth c H locs 0 0 (MQ below (va_Qe (fun d => ad G 7 d) P (WS G) (fun q => bs G ≤ q)) AV s 0 0 (fun q => bs G ≤ q)) (F0 m 22 ls []) := by
    intro M H locs ls hW hS hl h
    unfold s_X11_shelfAt_22 at h
    refine lv_null hx hb dX11_shelfAt_22 ?_
    exact m_qretN S hret hlocks hKX hW hbs hS h dX11_shelfAt_23
  unfold s_X11_shelfAt at h
  refine lv_iload_n hx hb dX11_shelfAt_0 rfl (lv_at hl 1 rfl) ?_
  refine lv_if_lt (tgt := 22) hx hb dX11_shelfAt_1 (by decide) (fun c1 => ?_) (fun c1 => ?_)
  · replace h := h.1 c1
    exact b22 _ H locs ls hW hS (lv_sub hl [] rfl) h
  · replace h := h.2 c1
    refine lv_iload_n hx hb dX11_shelfAt_4 rfl (lv_at hl 1 rfl) ?_
    refine lv_aload_n hx hb dX11_shelfAt_5 rfl (lv_at hl 0 rfl) ?_
    refine m_getr S hK fk_X11_38 (gr_0_4 G 0) hW (ci_0 (Nat.le_of_ble_eq_true rfl)) dX11_shelfAt_6 ?_
    refine m_alenS S hK hW al_8 dX11_shelfAt_9 ?_
    refine lv_icmp_ge (tgt := 22) hx hb dX11_shelfAt_10 (by decide) (fun c10 => ?_) (fun c10 => ?_)
    · replace h := h.1 c10
      exact b22 _ H locs ls hW hS (lv_sub hl [] rfl) h
    · replace h := h.2 c10
      refine lv_aload_n hx hb dX11_shelfAt_13 rfl (lv_at hl 0 rfl) ?_
      refine m_getr S hK fk_X11_38 (gr_0_4 G 0) hW (ci_0 (Nat.le_of_ble_eq_true rfl)) dX11_shelfAt_14 ?_
      refine lv_iload_n hx hb dX11_shelfAt_17 rfl (lv_at hl 1 rfl) ?_
      obtain ⟨hb18, h⟩ := h
      refine m_aaldS S hK hW hb18 dX11_shelfAt_18 (fun d18 ed18 hi_d18 => ?_)
      replace h := h d18 ed18
      refine lv_goto (tgt := 23) hx hb dX11_shelfAt_19 (by decide) ?_
      exact m_qretS S hret hlocks hKX hW hbs hS h dX11_shelfAt_23
abbrev rm_X11_rowRefusal : Room := { frames := 1, cells := 0, slots := 0, locals := 20 }
set_option maxHeartbeats 4000000 in
set_option maxRecDepth 100000 in
theorem c_X11_rowRefusal (l : Launch) {G : Gn} {M : Mem} {d : Nat} {P : Int32 → Mem → Prop} (hi_d : d < 8) : MQi l yX11_rowRefusal cX11_rowRefusal 1 (some .int) rm_X11_rowRefusal [.ref (ad G 7 d)] G M (s_X11_rowRefusal d M P) P := by
  refine m_enter (by decide +kernel) (Nat.le_of_ble_eq_true rfl) ?_
  intro p e s m below meth c ls H locs S hret hlocks hname hKX hbs hW hS hl h
  obtain ⟨AV, hAV⟩ : ∃ z : Array Value, z = ([.ref (ad G 7 d)] : List Value).toArray := ⟨_, rfl⟩
  rw [← hAV] at S ⊢
  replace S : CallFix p m c cX11_rowRefusal 1 s AV lw_G "MilkDesk" := S
  have hK := hKX.1
  have hx := S.1
  have hb := S.2.1
  have hml := S.2.2.1
  have hown := S.2.2.2.1
  have hts := S.2.2.2.2
  replace hl : lv_has ls 1 [(0, .ref (ad G 7 d))] := hl
  unfold s_X11_rowRefusal at h
  refine lv_aload_n hx hb dX11_rowRefusal_0 rfl (lv_at hl 0 rfl) ?_
  refine m_ci0 (m_rV S hKX hW (m_szH hbs hS) (c_X9_isEmpty l hi_d) h lk_X11_298 (m_recv hK hW (ci_7 hi_d) (rc_7 G) rfl) rfl hl.1 rfl ⟨Nat.le_of_ble_eq_true rfl, Nat.le_of_ble_eq_true rfl⟩ (Nat.le_of_ble_eq_true rfl) ⟨Nat.le_of_ble_eq_true rfl, Nat.le_of_ble_eq_true rfl⟩ dX11_rowRefusal_1) hS rfl rfl (fun rr1 Mm1 H locs h hW hS => ?_)
  refine lv_if_eq (tgt := 10) hx hb dX11_rowRefusal_4 (by decide) (fun c4 => ?_) (fun c4 => ?_)
  · replace h := h.1 c4
    refine lv_aload_n hx hb dX11_rowRefusal_10 rfl (lv_at hl 0 rfl) ?_
    refine m_ci0 (m_rV S hKX hW (m_szH hbs hS) (c_X9_isRow l hi_d) h lk_X11_302 (m_recv hK hW (ci_7 hi_d) (rc_7 G) rfl) rfl hl.1 rfl ⟨Nat.le_of_ble_eq_true rfl, Nat.le_of_ble_eq_true rfl⟩ (Nat.le_of_ble_eq_true rfl) ⟨Nat.le_of_ble_eq_true rfl, Nat.le_of_ble_eq_true rfl⟩ dX11_rowRefusal_11) hS rfl rfl (fun rr11 Mm11 H locs h hW hS => ?_)
    refine lv_if_eq (tgt := 21) hx hb dX11_rowRefusal_14 (by decide) (fun c14 => ?_) (fun c14 => ?_)
    · replace h := h.1 c14
      refine lv_bipush hx hb dX11_rowRefusal_21 kb_m12 ?_
      exact m_iret S hret hlocks hKX hW hbs hS rfl h dX11_rowRefusal_23
    · replace h := h.2 c14
      refine lv_iconst hx hb dX11_rowRefusal_17 ki_0 ?_
      refine lv_goto (tgt := 23) hx hb dX11_rowRefusal_18 (by decide) ?_
      exact m_iret S hret hlocks hKX hW hbs hS rfl h dX11_rowRefusal_23
  · replace h := h.2 c4
    refine lv_bipush hx hb dX11_rowRefusal_7 kb_m11 ?_
    exact m_iret S hret hlocks hKX hW hbs hS rfl h dX11_rowRefusal_9
abbrev rm_X11_heads : Room := { frames := 2, cells := 0, slots := 0, locals := 50 }
set_option maxHeartbeats 4000000 in
set_option maxRecDepth 100000 in
theorem c_X11_heads (l : Launch) {G : Gn} {M : Mem} {x1 : Int32} {x2 : Int32} {P : Int32 → Mem → Prop} : MQi l yX11_heads cX11_heads 5 (some .int) rm_X11_heads [.ref (ad G 0 0), .int x1, .int x2] G M (s_X11_heads M x1 x2 P) P := by
  refine m_enter (by decide +kernel) (Nat.le_of_ble_eq_true rfl) ?_
  intro p e s m below meth c ls H locs S hret hlocks hname hKX hbs hW hS hl h
  obtain ⟨AV, hAV⟩ : ∃ z : Array Value, z = ([.ref (ad G 0 0), .int x1, .int x2] : List Value).toArray := ⟨_, rfl⟩
  rw [← hAV] at S ⊢
  replace S : CallFix p m c cX11_heads 5 s AV lw_G "MilkDesk" := S
  have hK := hKX.1
  have hx := S.1
  have hb := S.2.1
  have hml := S.2.2.1
  have hown := S.2.2.2.1
  have hts := S.2.2.2.2
  replace hl : lv_has ls 5 [(0, .ref (ad G 0 0)), (1, .int x1), (2, .int x2)] := hl
  unfold s_X11_heads at h
  refine lv_aload_n hx hb dX11_heads_0 rfl (lv_at hl 0 rfl) ?_
  refine lv_iload_n hx hb dX11_heads_1 rfl (lv_at hl 2 rfl) ?_
  refine m_cq0 (m_rV S hKX hW (m_szH hbs hS) (c_X11_shelfAt l ) h lk_X11_100 (m_recv hK hW (ci_0 (Nat.le_of_ble_eq_true rfl)) (rc_0 G) rfl) rfl hl.1 rfl ⟨Nat.le_of_ble_eq_true rfl, Nat.le_of_ble_eq_true rfl⟩ (Nat.le_of_ble_eq_true rfl) ⟨Nat.le_of_ble_eq_true rfl, Nat.le_of_ble_eq_true rfl⟩ dX11_heads_2) hS rfl rfl (fun Mm2 H locs h hW hS => ?_) (fun d2 Mm2 H locs h hW hS => ?_)
  · replace h := h.1 rfl
    refine lv_astore_nN (lv' := [(3, .null), (0, .ref (ad G 0 0)), (1, .int x1), (2, .int x2)]) hx hb dX11_heads_5 rfl hl (by decide) rfl (fun ls hl => ?_)
    refine lv_aload_nN hx hb dX11_heads_6 rfl (lv_at hl 0 rfl) ?_
    refine lv_ifnullN (tgt := 19) hx hb dX11_heads_7 (by decide) ?_
    refine lv_iconst hx hb dX11_heads_19 ki_m1 ?_
    exact m_iret S hret hlocks hKX hW hbs hS rfl h dX11_heads_20
  · obtain ⟨hi_d2, h⟩ := h.2 d2 rfl
    refine lv_astore_n (lv' := [(3, .ref (ad G 7 d2)), (0, .ref (ad G 0 0)), (1, .int x1), (2, .int x2)]) hx hb dX11_heads_5 rfl hl (by decide) rfl (fun ls hl => ?_)
    refine lv_aload_n hx hb dX11_heads_6 rfl (lv_at hl 0 rfl) ?_
    refine lv_ifnull hx hb dX11_heads_7 ?_
    refine lv_iload_n hx hb dX11_heads_10 rfl (lv_at hl 2 rfl) ?_
    refine lv_iconst hx hb dX11_heads_11 ki_0 ?_
    refine lv_iconst hx hb dX11_heads_12 ki_2 ?_
    refine m_ci0 (m_rS S hKX hW (m_szH hbs hS) (c_X11_within l ) h lk_X11_43 rfl hl.1 rfl ⟨Nat.le_of_ble_eq_true rfl, Nat.le_of_ble_eq_true rfl⟩ (Nat.le_of_ble_eq_true rfl) ⟨Nat.le_of_ble_eq_true rfl, Nat.le_of_ble_eq_true rfl⟩ dX11_heads_13) hS rfl rfl (fun rr13 Mm13 H locs h hW hS => ?_)
    refine lv_if_ne (tgt := 21) hx hb dX11_heads_16 (by decide) (fun c16 => ?_) (fun c16 => ?_)
    · replace h := h.1 c16
      refine lv_aload_n hx hb dX11_heads_21 rfl (lv_at hl 1 rfl) ?_
      refine m_getr S hK fk_X11_12 (gr_0_0 G 0) hW (ci_0 (Nat.le_of_ble_eq_true rfl)) dX11_heads_22 ?_
      refine m_getr S hK fk_X11_104 (gr_1_3 G 0) hW (ci_1 (Nat.le_of_ble_eq_true rfl)) dX11_heads_25 ?_
      refine m_geti S hK fk_X11_108 (gi_4_0 G) hW (ci_4 (Nat.le_of_ble_eq_true rfl)) dX11_heads_28 ?_
      refine lv_bipush hx hb dX11_heads_31 kb_16 ?_
      refine lv_icmp_lt (tgt := 39) hx hb dX11_heads_33 (by decide) (fun c33 => ?_) (fun c33 => ?_)
      · replace h := h.1 c33
        refine lv_aload_n hx hb dX11_heads_39 rfl (lv_at hl 0 rfl) ?_
        refine m_ci0 (m_rS S hKX hW (m_szH hbs hS) (c_X11_rowRefusal l hi_d2) h lk_X11_111 rfl hl.1 rfl ⟨Nat.le_of_ble_eq_true rfl, Nat.le_of_ble_eq_true rfl⟩ (Nat.le_of_ble_eq_true rfl) ⟨Nat.le_of_ble_eq_true rfl, Nat.le_of_ble_eq_true rfl⟩ dX11_heads_40) hS rfl rfl (fun rr40 Mm40 H locs h hW hS => ?_)
        refine lv_istore (lv' := [(4, .int rr40), (3, .ref (ad G 7 d2)), (0, .ref (ad G 0 0)), (1, .int x1), (2, .int x2)]) hx hb dX11_heads_43 hl (by decide) rfl (fun ls hl => ?_)
        refine lv_iload hx hb dX11_heads_45 (lv_at hl 0 rfl) ?_
        refine lv_if_eq (tgt := 55) hx hb dX11_heads_47 (by decide) (fun c47 => ?_) (fun c47 => ?_)
        · replace h := h.1 c47
          refine lv_aload_n hx hb dX11_heads_55 rfl (lv_at hl 2 rfl) ?_
          refine m_getr S hK fk_X11_12 (gr_0_0 G 0) hW (ci_0 (Nat.le_of_ble_eq_true rfl)) dX11_heads_56 ?_
          refine m_getr S hK fk_X11_104 (gr_1_3 G 0) hW (ci_1 (Nat.le_of_ble_eq_true rfl)) dX11_heads_59 ?_
          refine lv_iload_n hx hb dX11_heads_62 rfl (lv_at hl 3 rfl) ?_
          refine lv_aload_n hx hb dX11_heads_63 rfl (lv_at hl 1 rfl) ?_
          refine lv_aload_n hx hb dX11_heads_64 rfl (lv_at hl 2 rfl) ?_
          refine m_getr S hK fk_X11_12 (gr_0_0 G 0) hW (ci_0 (Nat.le_of_ble_eq_true rfl)) dX11_heads_65 ?_
          refine m_geti S hK fk_X11_115 (gi_1_0 G) hW (ci_1 (Nat.le_of_ble_eq_true rfl)) dX11_heads_68 ?_
          refine m_ci0 (m_rV S hKX hW (m_szH hbs hS) (c_X5_tell l (Nat.le_of_ble_eq_true rfl) hi_d2) h lk_X11_118 (m_recv hK hW (ci_4 (Nat.le_of_ble_eq_true rfl)) (rc_4 G) rfl) rfl hl.1 rfl ⟨Nat.le_of_ble_eq_true rfl, Nat.le_of_ble_eq_true rfl⟩ (Nat.le_of_ble_eq_true rfl) ⟨Nat.le_of_ble_eq_true rfl, Nat.le_of_ble_eq_true rfl⟩ dX11_heads_71) hS rfl rfl (fun rr71 Mm71 H locs h hW hS => ?_)
          exact m_iret S hret hlocks hKX hW hbs hS rfl h dX11_heads_74
        · replace h := h.2 c47
          refine lv_iload hx hb dX11_heads_50 (lv_at hl 0 rfl) ?_
          refine lv_goto (tgt := 74) hx hb dX11_heads_52 (by decide) ?_
          exact m_iret S hret hlocks hKX hW hbs hS rfl h dX11_heads_74
      · replace h := h.2 c33
        refine lv_bipush hx hb dX11_heads_36 kb_m2 ?_
        exact m_iret S hret hlocks hKX hW hbs hS rfl h dX11_heads_38
    · replace h := h.2 c16
      refine lv_iconst hx hb dX11_heads_19 ki_m1 ?_
      exact m_iret S hret hlocks hKX hW hbs hS rfl h dX11_heads_20
abbrev rm_X11_head : Room := { frames := 1, cells := 0, slots := 0, locals := 25 }
set_option maxHeartbeats 4000000 in
set_option maxRecDepth 100000 in
theorem c_X11_head (l : Launch) {G : Gn} {M : Mem} {x1 : Int32} {x2 : Int32} {x3 : Int32} {x4 : Int32} {P : Int32 → Mem → Prop} : MQi l yX11_head cX11_head 5 (some .int) rm_X11_head [.ref (ad G 0 0), .int x1, .int x2, .int x3, .int x4] G M (s_X11_head M x1 x2 x3 x4 P) P := by
  refine m_enter (by decide +kernel) (Nat.le_of_ble_eq_true rfl) ?_
  intro p e s m below meth c ls H locs S hret hlocks hname hKX hbs hW hS hl h
  obtain ⟨AV, hAV⟩ : ∃ z : Array Value, z = ([.ref (ad G 0 0), .int x1, .int x2, .int x3, .int x4] : List Value).toArray := ⟨_, rfl⟩
  rw [← hAV] at S ⊢
  replace S : CallFix p m c cX11_head 5 s AV lw_G "MilkDesk" := S
  have hK := hKX.1
  have hx := S.1
  have hb := S.2.1
  have hml := S.2.2.1
  have hown := S.2.2.2.1
  have hts := S.2.2.2.2
  replace hl : lv_has ls 5 [(0, .ref (ad G 0 0)), (1, .int x1), (2, .int x2), (3, .int x3), (4, .int x4)] := hl
  unfold s_X11_head at h
  refine lv_aload_n hx hb dX11_head_0 rfl (lv_at hl 0 rfl) ?_
  refine m_getr S hK fk_X11_12 (gr_0_0 G 0) hW (ci_0 (Nat.le_of_ble_eq_true rfl)) dX11_head_1 ?_
  refine m_getr S hK fk_X11_47 (gr_1_1 G 0) hW (ci_1 (Nat.le_of_ble_eq_true rfl)) dX11_head_4 ?_
  refine lv_iload_n hx hb dX11_head_7 rfl (lv_at hl 1 rfl) ?_
  refine m_ci0 (m_rV S hKX hW (m_szH hbs hS) (c_X8_has l (Nat.le_of_ble_eq_true rfl)) h lk_X11_61 (m_recv hK hW (ci_2 (Nat.le_of_ble_eq_true rfl)) (rc_2 G) rfl) rfl hl.1 rfl ⟨Nat.le_of_ble_eq_true rfl, Nat.le_of_ble_eq_true rfl⟩ (Nat.le_of_ble_eq_true rfl) ⟨Nat.le_of_ble_eq_true rfl, Nat.le_of_ble_eq_true rfl⟩ dX11_head_8) hS rfl rfl (fun rr8 Mm8 H locs h hW hS => ?_)
  refine lv_if_eq (tgt := 23) hx hb dX11_head_11 (by decide) (fun c11 => ?_) (fun c11 => ?_)
  · replace h := h.1 c11
    refine lv_iconst hx hb dX11_head_23 ki_m1 ?_
    exact m_iret S hret hlocks hKX hW hbs hS rfl h dX11_head_24
  · replace h := h.2 c11
    refine lv_iload_n hx hb dX11_head_14 rfl (lv_at hl 2 rfl) ?_
    refine lv_iconst hx hb dX11_head_15 ki_0 ?_
    refine lv_iconst hx hb dX11_head_16 ki_2 ?_
    refine m_ci0 (m_rS S hKX hW (m_szH hbs hS) (c_X11_within l ) h lk_X11_43 rfl hl.1 rfl ⟨Nat.le_of_ble_eq_true rfl, Nat.le_of_ble_eq_true rfl⟩ (Nat.le_of_ble_eq_true rfl) ⟨Nat.le_of_ble_eq_true rfl, Nat.le_of_ble_eq_true rfl⟩ dX11_head_17) hS rfl rfl (fun rr17 Mm17 H locs h hW hS => ?_)
    refine lv_if_ne (tgt := 25) hx hb dX11_head_20 (by decide) (fun c20 => ?_) (fun c20 => ?_)
    · replace h := h.1 c20
      refine lv_iload_n hx hb dX11_head_25 rfl (lv_at hl 3 rfl) ?_
      refine lv_iconst hx hb dX11_head_26 ki_0 ?_
      refine lv_sipush hx hb dX11_head_27 ks_400 ?_
      refine m_ci0 (m_rS S hKX hW (m_szH hbs hS) (c_X11_within l ) h lk_X11_43 rfl hl.1 rfl ⟨Nat.le_of_ble_eq_true rfl, Nat.le_of_ble_eq_true rfl⟩ (Nat.le_of_ble_eq_true rfl) ⟨Nat.le_of_ble_eq_true rfl, Nat.le_of_ble_eq_true rfl⟩ dX11_head_30) hS rfl rfl (fun rr30 Mm30 H locs h hW hS => ?_)
      refine lv_if_eq (tgt := 48) hx hb dX11_head_33 (by decide) (fun c33 => ?_) (fun c33 => ?_)
      · replace h := h.1 c33
        refine lv_iconst hx hb dX11_head_48 ki_m1 ?_
        exact m_iret S hret hlocks hKX hW hbs hS rfl h dX11_head_49
      · replace h := h.2 c33
        refine lv_iload hx hb dX11_head_36 (lv_at hl 4 rfl) ?_
        refine lv_iconst hx hb dX11_head_38 ki_0 ?_
        refine lv_sipush hx hb dX11_head_39 ks_400 ?_
        refine m_ci0 (m_rS S hKX hW (m_szH hbs hS) (c_X11_within l ) h lk_X11_43 rfl hl.1 rfl ⟨Nat.le_of_ble_eq_true rfl, Nat.le_of_ble_eq_true rfl⟩ (Nat.le_of_ble_eq_true rfl) ⟨Nat.le_of_ble_eq_true rfl, Nat.le_of_ble_eq_true rfl⟩ dX11_head_42) hS rfl rfl (fun rr42 Mm42 H locs h hW hS => ?_)
        refine lv_if_ne (tgt := 50) hx hb dX11_head_45 (by decide) (fun c45 => ?_) (fun c45 => ?_)
        · replace h := h.1 c45
          refine lv_aload_n hx hb dX11_head_50 rfl (lv_at hl 0 rfl) ?_
          refine m_getr S hK fk_X11_12 (gr_0_0 G 0) hW (ci_0 (Nat.le_of_ble_eq_true rfl)) dX11_head_51 ?_
          refine m_getr S hK fk_X11_104 (gr_1_3 G 0) hW (ci_1 (Nat.le_of_ble_eq_true rfl)) dX11_head_54 ?_
          refine lv_iload_n hx hb dX11_head_57 rfl (lv_at hl 1 rfl) ?_
          refine lv_iload_n hx hb dX11_head_58 rfl (lv_at hl 2 rfl) ?_
          refine lv_iload_n hx hb dX11_head_59 rfl (lv_at hl 3 rfl) ?_
          refine lv_iload hx hb dX11_head_60 (lv_at hl 4 rfl) ?_
          refine m_ci0 (m_rV S hKX hW (m_szH hbs hS) (c_X5_counting l (Nat.le_of_ble_eq_true rfl)) h lk_X11_122 (m_recv hK hW (ci_4 (Nat.le_of_ble_eq_true rfl)) (rc_4 G) rfl) rfl hl.1 rfl ⟨Nat.le_of_ble_eq_true rfl, Nat.le_of_ble_eq_true rfl⟩ (Nat.le_of_ble_eq_true rfl) ⟨Nat.le_of_ble_eq_true rfl, Nat.le_of_ble_eq_true rfl⟩ dX11_head_62) hS rfl rfl (fun rr62 Mm62 H locs h hW hS => ?_)
          exact m_iret S hret hlocks hKX hW hbs hS rfl h dX11_head_65
        · replace h := h.2 c45
          refine lv_iconst hx hb dX11_head_48 ki_m1 ?_
          exact m_iret S hret hlocks hKX hW hbs hS rfl h dX11_head_49
    · replace h := h.2 c20
      refine lv_iconst hx hb dX11_head_23 ki_m1 ?_
      exact m_iret S hret hlocks hKX hW hbs hS rfl h dX11_head_24
abbrev rm_X11_byteRowRefusal : Room := { frames := 2, cells := 0, slots := 0, locals := 40 }
set_option maxHeartbeats 4000000 in
set_option maxRecDepth 100000 in
theorem c_X11_byteRowRefusal (l : Launch) {G : Gn} {M : Mem} {d : Nat} {P : Int32 → Mem → Prop} (hi_d : d < 8) : MQi l yX11_byteRowRefusal cX11_byteRowRefusal 2 (some .int) rm_X11_byteRowRefusal [.ref (ad G 7 d)] G M (s_X11_byteRowRefusal d M P) P := by
  refine m_enter (by decide +kernel) (Nat.le_of_ble_eq_true rfl) ?_
  intro p e s m below meth c ls H locs S hret hlocks hname hKX hbs hW hS hl h
  obtain ⟨AV, hAV⟩ : ∃ z : Array Value, z = ([.ref (ad G 7 d)] : List Value).toArray := ⟨_, rfl⟩
  rw [← hAV] at S ⊢
  replace S : CallFix p m c cX11_byteRowRefusal 2 s AV lw_G "MilkDesk" := S
  have hK := hKX.1
  have hx := S.1
  have hb := S.2.1
  have hml := S.2.2.1
  have hown := S.2.2.2.1
  have hts := S.2.2.2.2
  replace hl : lv_has ls 2 [(0, .ref (ad G 7 d))] := hl
  unfold s_X11_byteRowRefusal at h
  refine lv_aload_n hx hb dX11_byteRowRefusal_0 rfl (lv_at hl 0 rfl) ?_
  refine m_ci0 (m_rS S hKX hW (m_szH hbs hS) (c_X11_rowRefusal l hi_d) h lk_X11_111 rfl hl.1 rfl ⟨Nat.le_of_ble_eq_true rfl, Nat.le_of_ble_eq_true rfl⟩ (Nat.le_of_ble_eq_true rfl) ⟨Nat.le_of_ble_eq_true rfl, Nat.le_of_ble_eq_true rfl⟩ dX11_byteRowRefusal_1) hS rfl rfl (fun rr1 Mm1 H locs h hW hS => ?_)
  refine lv_istore_n (lv' := [(1, .int rr1), (0, .ref (ad G 7 d))]) hx hb dX11_byteRowRefusal_4 rfl hl (by decide) rfl (fun ls hl => ?_)
  refine lv_iload_n hx hb dX11_byteRowRefusal_5 rfl (lv_at hl 0 rfl) ?_
  refine lv_if_ne (tgt := 21) hx hb dX11_byteRowRefusal_6 (by decide) (fun c6 => ?_) (fun c6 => ?_)
  · replace h := h.1 c6
    refine lv_iload_n hx hb dX11_byteRowRefusal_21 rfl (lv_at hl 0 rfl) ?_
    exact m_iret S hret hlocks hKX hW hbs hS rfl h dX11_byteRowRefusal_22
  · replace h := h.2 c6
    refine lv_aload_n hx hb dX11_byteRowRefusal_9 rfl (lv_at hl 1 rfl) ?_
    refine m_geti S hK fk_X11_305 (gi_7_4 G) hW (ci_7 hi_d) dX11_byteRowRefusal_10 ?_
    refine lv_if_eq (tgt := 21) hx hb dX11_byteRowRefusal_13 (by decide) (fun c13 => ?_) (fun c13 => ?_)
    · replace h := h.1 c13
      refine lv_iload_n hx hb dX11_byteRowRefusal_21 rfl (lv_at hl 0 rfl) ?_
      exact m_iret S hret hlocks hKX hW hbs hS rfl h dX11_byteRowRefusal_22
    · replace h := h.2 c13
      refine lv_bipush hx hb dX11_byteRowRefusal_16 kb_m12 ?_
      refine lv_goto (tgt := 22) hx hb dX11_byteRowRefusal_18 (by decide) ?_
      exact m_iret S hret hlocks hKX hW hbs hS rfl h dX11_byteRowRefusal_22
abbrev rm_X11_fault : Room := { frames := 122, cells := 0, slots := 0, locals := 3343 }
set_option maxHeartbeats 4000000 in
set_option maxRecDepth 100000 in
theorem c_X11_fault (l : Launch) {G : Gn} {M : Mem} {x1 : Int32} {P : Int32 → Mem → Prop} : MQi l yX11_fault cX11_fault 5 (some .int) rm_X11_fault [.ref (ad G 0 0), .int x1] G M (s_X11_fault M x1 P) P := by
  refine m_enter (by decide +kernel) (Nat.le_of_ble_eq_true rfl) ?_
  intro p e s m below meth c ls H locs S hret hlocks hname hKX hbs hW hS hl h
  obtain ⟨AV, hAV⟩ : ∃ z : Array Value, z = ([.ref (ad G 0 0), .int x1] : List Value).toArray := ⟨_, rfl⟩
  rw [← hAV] at S ⊢
  replace S : CallFix p m c cX11_fault 5 s AV lw_G "MilkDesk" := S
  have hK := hKX.1
  have hx := S.1
  have hb := S.2.1
  have hml := S.2.2.1
  have hown := S.2.2.2.1
  have hts := S.2.2.2.2
  replace hl : lv_has ls 5 [(0, .ref (ad G 0 0)), (1, .int x1)] := hl
  unfold s_X11_fault at h
  refine lv_aload_n hx hb dX11_fault_0 rfl (lv_at hl 0 rfl) ?_
  refine lv_iload_n hx hb dX11_fault_1 rfl (lv_at hl 1 rfl) ?_
  refine m_cq0 (m_rV S hKX hW (m_szH hbs hS) (c_X11_shelfAt l ) h lk_X11_100 (m_recv hK hW (ci_0 (Nat.le_of_ble_eq_true rfl)) (rc_0 G) rfl) rfl hl.1 rfl ⟨Nat.le_of_ble_eq_true rfl, Nat.le_of_ble_eq_true rfl⟩ (Nat.le_of_ble_eq_true rfl) ⟨Nat.le_of_ble_eq_true rfl, Nat.le_of_ble_eq_true rfl⟩ dX11_fault_2) hS rfl rfl (fun Mm2 H locs h hW hS => ?_) (fun d2 Mm2 H locs h hW hS => ?_)
  · replace h := h.1 rfl
    refine lv_astore_nN (lv' := [(2, .null), (0, .ref (ad G 0 0)), (1, .int x1)]) hx hb dX11_fault_5 rfl hl (by decide) rfl (fun ls hl => ?_)
    refine lv_aload_nN hx hb dX11_fault_6 rfl (lv_at hl 0 rfl) ?_
    refine lv_ifnonnullN hx hb dX11_fault_7 ?_
    refine lv_iconst hx hb dX11_fault_10 ki_m1 ?_
    exact m_iret S hret hlocks hKX hW hbs hS rfl h dX11_fault_11
  · obtain ⟨hi_d2, h⟩ := h.2 d2 rfl
    refine lv_astore_n (lv' := [(2, .ref (ad G 7 d2)), (0, .ref (ad G 0 0)), (1, .int x1)]) hx hb dX11_fault_5 rfl hl (by decide) rfl (fun ls hl => ?_)
    refine lv_aload_n hx hb dX11_fault_6 rfl (lv_at hl 0 rfl) ?_
    refine lv_ifnonnull (tgt := 12) hx hb dX11_fault_7 (by decide) ?_
    refine lv_aload_n hx hb dX11_fault_12 rfl (lv_at hl 0 rfl) ?_
    refine m_ci0 (m_rS S hKX hW (m_szH hbs hS) (c_X11_byteRowRefusal l hi_d2) h lk_X11_126 rfl hl.1 rfl ⟨Nat.le_of_ble_eq_true rfl, Nat.le_of_ble_eq_true rfl⟩ (Nat.le_of_ble_eq_true rfl) ⟨Nat.le_of_ble_eq_true rfl, Nat.le_of_ble_eq_true rfl⟩ dX11_fault_13) hS rfl rfl (fun rr13 Mm13 H locs h hW hS => ?_)
    refine lv_istore_n (lv' := [(3, .int rr13), (2, .ref (ad G 7 d2)), (0, .ref (ad G 0 0)), (1, .int x1)]) hx hb dX11_fault_16 rfl hl (by decide) rfl (fun ls hl => ?_)
    refine lv_iload_n hx hb dX11_fault_17 rfl (lv_at hl 0 rfl) ?_
    refine lv_if_eq (tgt := 23) hx hb dX11_fault_18 (by decide) (fun c18 => ?_) (fun c18 => ?_)
    · replace h := h.1 c18
      refine lv_aload_n hx hb dX11_fault_23 rfl (lv_at hl 2 rfl) ?_
      refine m_getr S hK fk_X11_25 (gr_0_5 G 0) hW (ci_0 (Nat.le_of_ble_eq_true rfl)) dX11_fault_24 ?_
      refine lv_aload_n hx hb dX11_fault_27 rfl (lv_at hl 1 rfl) ?_
      refine m_ci0 (m_rV S hKX hW (m_szH hbs hS) (c_X2_firstFault l hi_d2) h lk_X11_129 (m_recv hK hW (ci_8 (Nat.le_of_ble_eq_true rfl)) (rc_8 G) rfl) rfl hl.1 rfl ⟨Nat.le_of_ble_eq_true rfl, Nat.le_of_ble_eq_true rfl⟩ (Nat.le_of_ble_eq_true rfl) ⟨Nat.le_of_ble_eq_true rfl, Nat.le_of_ble_eq_true rfl⟩ dX11_fault_28) hS rfl rfl (fun rr28 Mm28 H locs h hW hS => ?_)
      refine lv_istore (lv' := [(4, .int rr28), (3, .int rr13), (2, .ref (ad G 7 d2)), (0, .ref (ad G 0 0)), (1, .int x1)]) hx hb dX11_fault_31 hl (by decide) rfl (fun ls hl => ?_)
      refine lv_iload hx hb dX11_fault_33 (lv_at hl 0 rfl) ?_
      refine lv_if_ge (tgt := 43) hx hb dX11_fault_35 (by decide) (fun c35 => ?_) (fun c35 => ?_)
      · replace h := h.1 c35
        refine lv_iload hx hb dX11_fault_43 (lv_at hl 0 rfl) ?_
        exact m_iret S hret hlocks hKX hW hbs hS rfl h dX11_fault_45
      · replace h := h.2 c35
        refine lv_bipush hx hb dX11_fault_38 kb_m4 ?_
        refine lv_goto (tgt := 45) hx hb dX11_fault_40 (by decide) ?_
        exact m_iret S hret hlocks hKX hW hbs hS rfl h dX11_fault_45
    · replace h := h.2 c18
      refine lv_iload_n hx hb dX11_fault_21 rfl (lv_at hl 0 rfl) ?_
      exact m_iret S hret hlocks hKX hW hbs hS rfl h dX11_fault_22
abbrev rm_X11_act : Room := { frames := 122, cells := 2, slots := 84, locals := 3343 }
set_option maxHeartbeats 4000000 in
set_option maxRecDepth 100000 in
theorem c_X11_act (l : Launch) {G : Gn} {M : Mem} {x1 : Int32} {x2 : Int32} {x3 : Int32} {P : Int32 → Mem → Prop} : MQi l yX11_act cX11_act 7 (some .int) rm_X11_act [.ref (ad G 0 0), .int x1, .int x2, .int x3] G M (s_X11_act M x1 x2 x3 P) P := by
  refine m_enter (by decide +kernel) (Nat.le_of_ble_eq_true rfl) ?_
  intro p e s m below meth c ls H locs S hret hlocks hname hKX hbs hW hS hl h
  obtain ⟨AV, hAV⟩ : ∃ z : Array Value, z = ([.ref (ad G 0 0), .int x1, .int x2, .int x3] : List Value).toArray := ⟨_, rfl⟩
  rw [← hAV] at S ⊢
  replace S : CallFix p m c cX11_act 7 s AV lw_G "MilkDesk" := S
  have hK := hKX.1
  have hx := S.1
  have hb := S.2.1
  have hml := S.2.2.1
  have hown := S.2.2.2.1
  have hts := S.2.2.2.2
  replace hl : lv_has ls 7 [(0, .ref (ad G 0 0)), (1, .int x1), (2, .int x2), (3, .int x3)] := hl
  unfold s_X11_act at h
  refine lv_aload_n hx hb dX11_act_0 rfl (lv_at hl 0 rfl) ?_
  refine lv_iload_n hx hb dX11_act_1 rfl (lv_at hl 1 rfl) ?_
  refine m_cq0 (m_rV S hKX hW (m_szH hbs hS) (c_X11_shelfAt l ) h lk_X11_100 (m_recv hK hW (ci_0 (Nat.le_of_ble_eq_true rfl)) (rc_0 G) rfl) rfl hl.1 rfl ⟨Nat.le_of_ble_eq_true rfl, Nat.le_of_ble_eq_true rfl⟩ (Nat.le_of_ble_eq_true rfl) ⟨Nat.le_of_ble_eq_true rfl, Nat.le_of_ble_eq_true rfl⟩ dX11_act_2) hS rfl rfl (fun Mm2 H locs h hW hS => ?_) (fun d2 Mm2 H locs h hW hS => ?_)
  · replace h := h.1 rfl
    refine lv_astoreN (lv' := [(4, .null), (0, .ref (ad G 0 0)), (1, .int x1), (2, .int x2), (3, .int x3)]) hx hb dX11_act_5 hl (by decide) rfl (fun ls hl => ?_)
    refine lv_aloadN hx hb dX11_act_7 (lv_at hl 0 rfl) ?_
    refine lv_ifnullN (tgt := 38) hx hb dX11_act_9 (by decide) ?_
    refine lv_iconst hx hb dX11_act_38 ki_m1 ?_
    refine W.widen (k := 2) (n := 84) (Nat.le_of_ble_eq_true rfl) (Nat.le_of_ble_eq_true rfl) ?_
    exact m_iret S hret hlocks hKX hW hbs hS rfl h dX11_act_39
  · obtain ⟨hi_d2, h⟩ := h.2 d2 rfl
    refine lv_astore (lv' := [(4, .ref (ad G 7 d2)), (0, .ref (ad G 0 0)), (1, .int x1), (2, .int x2), (3, .int x3)]) hx hb dX11_act_5 hl (by decide) rfl (fun ls hl => ?_)
    refine lv_aload hx hb dX11_act_7 (lv_at hl 0 rfl) ?_
    refine lv_ifnull hx hb dX11_act_9 ?_
    refine lv_iload_n hx hb dX11_act_12 rfl (lv_at hl 3 rfl) ?_
    refine lv_iconst hx hb dX11_act_13 ki_m1 ?_
    refine lv_iconst hx hb dX11_act_14 ki_3 ?_
    refine m_ci0 (m_rS S hKX hW (m_szH hbs hS) (c_X11_within l ) h lk_X11_43 rfl hl.1 rfl ⟨Nat.le_of_ble_eq_true rfl, Nat.le_of_ble_eq_true rfl⟩ (Nat.le_of_ble_eq_true rfl) ⟨Nat.le_of_ble_eq_true rfl, Nat.le_of_ble_eq_true rfl⟩ dX11_act_15) hS rfl rfl (fun rr15 Mm15 H locs h hW hS => ?_)
    refine lv_if_eq (tgt := 38) hx hb dX11_act_18 (by decide) (fun c18 => ?_) (fun c18 => ?_)
    · replace h := h.1 c18
      refine lv_iconst hx hb dX11_act_38 ki_m1 ?_
      refine W.widen (k := 2) (n := 84) (Nat.le_of_ble_eq_true rfl) (Nat.le_of_ble_eq_true rfl) ?_
      exact m_iret S hret hlocks hKX hW hbs hS rfl h dX11_act_39
    · replace h := h.2 c18
      refine lv_iload_n hx hb dX11_act_21 rfl (lv_at hl 4 rfl) ?_
      refine lv_aload_n hx hb dX11_act_22 rfl (lv_at hl 1 rfl) ?_
      refine m_getr S hK fk_X11_12 (gr_0_0 G 0) hW (ci_0 (Nat.le_of_ble_eq_true rfl)) dX11_act_23 ?_
      refine m_geti S hK fk_X11_115 (gi_1_0 G) hW (ci_1 (Nat.le_of_ble_eq_true rfl)) dX11_act_26 ?_
      refine lv_sipush hx hb dX11_act_29 ks_400 ?_
      refine m_ci0 (m_rS S hKX hW (m_szH hbs hS) (c_X11_within l ) h lk_X11_43 rfl hl.1 rfl ⟨Nat.le_of_ble_eq_true rfl, Nat.le_of_ble_eq_true rfl⟩ (Nat.le_of_ble_eq_true rfl) ⟨Nat.le_of_ble_eq_true rfl, Nat.le_of_ble_eq_true rfl⟩ dX11_act_32) hS rfl rfl (fun rr32 Mm32 H locs h hW hS => ?_)
      refine lv_if_ne (tgt := 40) hx hb dX11_act_35 (by decide) (fun c35 => ?_) (fun c35 => ?_)
      · replace h := h.1 c35
        refine lv_aload_n hx hb dX11_act_40 rfl (lv_at hl 1 rfl) ?_
        refine m_getr S hK fk_X11_12 (gr_0_0 G 0) hW (ci_0 (Nat.le_of_ble_eq_true rfl)) dX11_act_41 ?_
        refine m_getr S hK fk_X11_132 (gr_1_4 G 0) hW (ci_1 (Nat.le_of_ble_eq_true rfl)) dX11_act_44 ?_
        refine m_geti S hK fk_X11_136 (gi_5_0 G) hW (ci_5 (Nat.le_of_ble_eq_true rfl)) dX11_act_47 ?_
        refine lv_bipush hx hb dX11_act_50 kb_16 ?_
        refine lv_icmp_lt (tgt := 58) hx hb dX11_act_52 (by decide) (fun c52 => ?_) (fun c52 => ?_)
        · replace h := h.1 c52
          refine lv_aload hx hb dX11_act_58 (lv_at hl 0 rfl) ?_
          refine m_ci0 (m_rS S hKX hW (m_szH hbs hS) (c_X11_byteRowRefusal l hi_d2) h lk_X11_126 rfl hl.1 rfl ⟨Nat.le_of_ble_eq_true rfl, Nat.le_of_ble_eq_true rfl⟩ (Nat.le_of_ble_eq_true rfl) ⟨Nat.le_of_ble_eq_true rfl, Nat.le_of_ble_eq_true rfl⟩ dX11_act_60) hS rfl rfl (fun rr60 Mm60 H locs h hW hS => ?_)
          refine lv_istore (lv' := [(5, .int rr60), (4, .ref (ad G 7 d2)), (0, .ref (ad G 0 0)), (1, .int x1), (2, .int x2), (3, .int x3)]) hx hb dX11_act_63 hl (by decide) rfl (fun ls hl => ?_)
          refine lv_iload hx hb dX11_act_65 (lv_at hl 0 rfl) ?_
          refine lv_if_eq (tgt := 73) hx hb dX11_act_67 (by decide) (fun c67 => ?_) (fun c67 => ?_)
          · replace h := h.1 c67
            refine lv_aload_n hx hb dX11_act_73 rfl (lv_at hl 2 rfl) ?_
            refine m_getr S hK fk_X11_25 (gr_0_5 G 0) hW (ci_0 (Nat.le_of_ble_eq_true rfl)) dX11_act_74 ?_
            refine lv_aload hx hb dX11_act_77 (lv_at hl 1 rfl) ?_
            refine m_ci0 (m_rV S hKX hW (m_szH hbs hS) (c_X2_firstFault l hi_d2) h lk_X11_129 (m_recv hK hW (ci_8 (Nat.le_of_ble_eq_true rfl)) (rc_8 G) rfl) rfl hl.1 rfl ⟨Nat.le_of_ble_eq_true rfl, Nat.le_of_ble_eq_true rfl⟩ (Nat.le_of_ble_eq_true rfl) ⟨Nat.le_of_ble_eq_true rfl, Nat.le_of_ble_eq_true rfl⟩ dX11_act_79) hS rfl rfl (fun rr79 Mm79 H locs h hW hS => ?_)
            refine lv_istore (lv' := [(6, .int rr79), (5, .int rr60), (4, .ref (ad G 7 d2)), (0, .ref (ad G 0 0)), (1, .int x1), (2, .int x2), (3, .int x3)]) hx hb dX11_act_82 hl (by decide) rfl (fun ls hl => ?_)
            refine lv_iload hx hb dX11_act_84 (lv_at hl 0 rfl) ?_
            refine lv_if_ge (tgt := 111) hx hb dX11_act_86 (by decide) (fun c86 => ?_) (fun c86 => ?_)
            · replace h := h.1 c86
              refine lv_bipush hx hb dX11_act_111 kb_m100 ?_
              refine lv_iload hx hb dX11_act_113 (lv_at hl 0 rfl) ?_
              refine lv_isub hx hb dX11_act_115 ?_
              refine W.widen (k := 2) (n := 84) (Nat.le_of_ble_eq_true rfl) (Nat.le_of_ble_eq_true rfl) ?_
              exact m_iret S hret hlocks hKX hW hbs hS rfl h dX11_act_116
            · replace h := h.2 c86
              refine lv_aload_n hx hb dX11_act_89 rfl (lv_at hl 3 rfl) ?_
              refine m_getr S hK fk_X11_12 (gr_0_0 G 0) hW (ci_0 (Nat.le_of_ble_eq_true rfl)) dX11_act_90 ?_
              refine m_getr S hK fk_X11_132 (gr_1_4 G 0) hW (ci_1 (Nat.le_of_ble_eq_true rfl)) dX11_act_93 ?_
              refine lv_aload_n hx hb dX11_act_96 rfl (lv_at hl 3 rfl) ?_
              refine m_getr S hK fk_X11_25 (gr_0_5 G 0) hW (ci_0 (Nat.le_of_ble_eq_true rfl)) dX11_act_97 ?_
              refine lv_iload_n hx hb dX11_act_100 rfl (lv_at hl 5 rfl) ?_
              refine lv_iload_n hx hb dX11_act_101 rfl (lv_at hl 6 rfl) ?_
              refine m_ca (m_rV S hKX hW (m_szH hbs hS) (c_X2_toAct l) h lk_X11_139 (m_recv hK hW (ci_8 (Nat.le_of_ble_eq_true rfl)) (rc_8 G) rfl) rfl hl.1 rfl ⟨Nat.le_of_ble_eq_true rfl, Nat.le_of_ble_eq_true rfl⟩ (Nat.le_of_ble_eq_true rfl) ⟨Nat.le_of_ble_eq_true rfl, Nat.le_of_ble_eq_true rfl⟩ dX11_act_102) hS (fun an102 Mm102 H locs h hi_an102 hW hS => ?_)
              refine m_ci0 (m_rV S hKX hW (m_szH hbs hS) (c_X1_tell l (Nat.le_of_ble_eq_true rfl) hi_an102) h lk_X11_143 (m_recv hK hW (ci_5 (Nat.le_of_ble_eq_true rfl)) (rc_5 G) rfl) rfl hl.1 rfl ⟨Nat.le_of_ble_eq_true rfl, Nat.le_of_ble_eq_true rfl⟩ (Nat.le_of_ble_eq_true rfl) ⟨Nat.le_of_ble_eq_true rfl, Nat.le_of_ble_eq_true rfl⟩ dX11_act_105) hS rfl rfl (fun rr105 Mm105 H locs h hW hS => ?_)
              refine lv_goto (tgt := 116) hx hb dX11_act_108 (by decide) ?_
              exact m_iret S hret hlocks hKX hW hbs hS rfl h dX11_act_116
          · replace h := h.2 c67
            refine lv_iload hx hb dX11_act_70 (lv_at hl 0 rfl) ?_
            refine W.widen (k := 2) (n := 84) (Nat.le_of_ble_eq_true rfl) (Nat.le_of_ble_eq_true rfl) ?_
            exact m_iret S hret hlocks hKX hW hbs hS rfl h dX11_act_72
        · replace h := h.2 c52
          refine lv_bipush hx hb dX11_act_55 kb_m2 ?_
          refine W.widen (k := 2) (n := 84) (Nat.le_of_ble_eq_true rfl) (Nat.le_of_ble_eq_true rfl) ?_
          exact m_iret S hret hlocks hKX hW hbs hS rfl h dX11_act_57
      · replace h := h.2 c35
        refine lv_iconst hx hb dX11_act_38 ki_m1 ?_
        refine W.widen (k := 2) (n := 84) (Nat.le_of_ble_eq_true rfl) (Nat.le_of_ble_eq_true rfl) ?_
        exact m_iret S hret hlocks hKX hW hbs hS rfl h dX11_act_39
abbrev rm_X11_strike : Room := { frames := 1, cells := 0, slots := 0, locals := 22 }
set_option maxHeartbeats 4000000 in
set_option maxRecDepth 100000 in
theorem c_X11_strike (l : Launch) {G : Gn} {M : Mem} {x1 : Int32} {x2 : Int32} {P : Int32 → Mem → Prop} : MQi l yX11_strike cX11_strike 3 (some .int) rm_X11_strike [.ref (ad G 0 0), .int x1, .int x2] G M (s_X11_strike M x1 x2 P) P := by
  refine m_enter (by decide +kernel) (Nat.le_of_ble_eq_true rfl) ?_
  intro p e s m below meth c ls H locs S hret hlocks hname hKX hbs hW hS hl h
  obtain ⟨AV, hAV⟩ : ∃ z : Array Value, z = ([.ref (ad G 0 0), .int x1, .int x2] : List Value).toArray := ⟨_, rfl⟩
  rw [← hAV] at S ⊢
  replace S : CallFix p m c cX11_strike 3 s AV lw_G "MilkDesk" := S
  have hK := hKX.1
  have hx := S.1
  have hb := S.2.1
  have hml := S.2.2.1
  have hown := S.2.2.2.1
  have hts := S.2.2.2.2
  replace hl : lv_has ls 3 [(0, .ref (ad G 0 0)), (1, .int x1), (2, .int x2)] := hl
  unfold s_X11_strike at h
  refine lv_aload_n hx hb dX11_strike_0 rfl (lv_at hl 0 rfl) ?_
  refine m_getr S hK fk_X11_12 (gr_0_0 G 0) hW (ci_0 (Nat.le_of_ble_eq_true rfl)) dX11_strike_1 ?_
  refine m_getr S hK fk_X11_132 (gr_1_4 G 0) hW (ci_1 (Nat.le_of_ble_eq_true rfl)) dX11_strike_4 ?_
  refine lv_iload_n hx hb dX11_strike_7 rfl (lv_at hl 1 rfl) ?_
  refine m_ci0 (m_rV S hKX hW (m_szH hbs hS) (c_X1_has l (Nat.le_of_ble_eq_true rfl)) h lk_X11_146 (m_recv hK hW (ci_5 (Nat.le_of_ble_eq_true rfl)) (rc_5 G) rfl) rfl hl.1 rfl ⟨Nat.le_of_ble_eq_true rfl, Nat.le_of_ble_eq_true rfl⟩ (Nat.le_of_ble_eq_true rfl) ⟨Nat.le_of_ble_eq_true rfl, Nat.le_of_ble_eq_true rfl⟩ dX11_strike_8) hS rfl rfl (fun rr8 Mm8 H locs h hW hS => ?_)
  refine lv_if_eq (tgt := 31) hx hb dX11_strike_11 (by decide) (fun c11 => ?_) (fun c11 => ?_)
  · replace h := h.1 c11
    refine lv_iconst hx hb dX11_strike_31 ki_m1 ?_
    exact m_iret S hret hlocks hKX hW hbs hS rfl h dX11_strike_32
  · replace h := h.2 c11
    refine lv_iload_n hx hb dX11_strike_14 rfl (lv_at hl 2 rfl) ?_
    refine lv_aload_n hx hb dX11_strike_15 rfl (lv_at hl 0 rfl) ?_
    refine m_getr S hK fk_X11_12 (gr_0_0 G 0) hW (ci_0 (Nat.le_of_ble_eq_true rfl)) dX11_strike_16 ?_
    refine m_geti S hK fk_X11_115 (gi_1_0 G) hW (ci_1 (Nat.le_of_ble_eq_true rfl)) dX11_strike_19 ?_
    refine lv_sipush hx hb dX11_strike_22 ks_400 ?_
    refine m_ci0 (m_rS S hKX hW (m_szH hbs hS) (c_X11_within l ) h lk_X11_43 rfl hl.1 rfl ⟨Nat.le_of_ble_eq_true rfl, Nat.le_of_ble_eq_true rfl⟩ (Nat.le_of_ble_eq_true rfl) ⟨Nat.le_of_ble_eq_true rfl, Nat.le_of_ble_eq_true rfl⟩ dX11_strike_25) hS rfl rfl (fun rr25 Mm25 H locs h hW hS => ?_)
    refine lv_if_ne (tgt := 33) hx hb dX11_strike_28 (by decide) (fun c28 => ?_) (fun c28 => ?_)
    · replace h := h.1 c28
      refine lv_aload_n hx hb dX11_strike_33 rfl (lv_at hl 0 rfl) ?_
      refine m_getr S hK fk_X11_12 (gr_0_0 G 0) hW (ci_0 (Nat.le_of_ble_eq_true rfl)) dX11_strike_34 ?_
      refine m_getr S hK fk_X11_132 (gr_1_4 G 0) hW (ci_1 (Nat.le_of_ble_eq_true rfl)) dX11_strike_37 ?_
      refine m_getr S hK fk_X11_147 (gr_5_2 G 0) hW (ci_5 (Nat.le_of_ble_eq_true rfl)) dX11_strike_40 ?_
      refine lv_iload_n hx hb dX11_strike_43 rfl (lv_at hl 1 rfl) ?_
      obtain ⟨hb44, h⟩ := h
      refine m_ald S hK (ar_35 G) hW (ci_35 (Nat.le_of_ble_eq_true rfl)) hb44 dX11_strike_44 ?_
      refine lv_sipush hx hb dX11_strike_45 ks_401 ?_
      refine lv_icmp_eq (tgt := 54) hx hb dX11_strike_48 (by decide) (fun c48 => ?_) (fun c48 => ?_)
      · replace h := h.1 c48
        refine lv_aload_n hx hb dX11_strike_54 rfl (lv_at hl 0 rfl) ?_
        refine m_getr S hK fk_X11_12 (gr_0_0 G 0) hW (ci_0 (Nat.le_of_ble_eq_true rfl)) dX11_strike_55 ?_
        refine m_getr S hK fk_X11_132 (gr_1_4 G 0) hW (ci_1 (Nat.le_of_ble_eq_true rfl)) dX11_strike_58 ?_
        refine m_getr S hK fk_X11_147 (gr_5_2 G 0) hW (ci_5 (Nat.le_of_ble_eq_true rfl)) dX11_strike_61 ?_
        refine lv_iload_n hx hb dX11_strike_64 rfl (lv_at hl 1 rfl) ?_
        refine lv_iload_n hx hb dX11_strike_65 rfl (lv_at hl 2 rfl) ?_
        obtain ⟨hb66, h⟩ := h
        refine m_ast S hK (ar_35 G) hW hS (ci_35 (Nat.le_of_ble_eq_true rfl)) hb66 dX11_strike_66 (fun Mm66 eMm66 H locs hW hS => ?_)
        replace h := h Mm66 eMm66
        refine lv_iconst hx hb dX11_strike_67 ki_1 ?_
        exact m_iret S hret hlocks hKX hW hbs hS rfl h dX11_strike_68
      · replace h := h.2 c48
        refine lv_bipush hx hb dX11_strike_51 kb_m3 ?_
        exact m_iret S hret hlocks hKX hW hbs hS rfl h dX11_strike_53
    · replace h := h.2 c28
      refine lv_iconst hx hb dX11_strike_31 ki_m1 ?_
      exact m_iret S hret hlocks hKX hW hbs hS rfl h dX11_strike_32
abbrev rm_X11_isCase : Room := { frames := 1, cells := 0, slots := 0, locals := 22 }
set_option maxHeartbeats 4000000 in
set_option maxRecDepth 100000 in
theorem c_X11_isCase (l : Launch) {G : Gn} {M : Mem} {x1 : Int32} {x2 : Int32} {x3 : Int32} {x4 : Int32} {P : Int32 → Mem → Prop} : MQi l yX11_isCase cX11_isCase 5 (some .boolean) rm_X11_isCase [.ref (ad G 0 0), .int x1, .int x2, .int x3, .int x4] G M (s_X11_isCase M x1 x2 x3 x4 P) P := by
  refine m_enter (by decide +kernel) (Nat.le_of_ble_eq_true rfl) ?_
  intro p e s m below meth c ls H locs S hret hlocks hname hKX hbs hW hS hl h
  obtain ⟨AV, hAV⟩ : ∃ z : Array Value, z = ([.ref (ad G 0 0), .int x1, .int x2, .int x3, .int x4] : List Value).toArray := ⟨_, rfl⟩
  rw [← hAV] at S ⊢
  replace S : CallFix p m c cX11_isCase 5 s AV lw_G "MilkDesk" := S
  have hK := hKX.1
  have hx := S.1
  have hb := S.2.1
  have hml := S.2.2.1
  have hown := S.2.2.2.1
  have hts := S.2.2.2.2
  replace hl : lv_has ls 5 [(0, .ref (ad G 0 0)), (1, .int x1), (2, .int x2), (3, .int x3), (4, .int x4)] := hl
  unfold s_X11_isCase at h
  refine lv_iload_n hx hb dX11_isCase_0 rfl (lv_at hl 1 rfl) ?_
  refine lv_iconst hx hb dX11_isCase_1 ki_0 ?_
  refine lv_iconst hx hb dX11_isCase_2 ki_2 ?_
  refine m_ci0 (m_rS S hKX hW (m_szH hbs hS) (c_X11_within l ) h lk_X11_43 rfl hl.1 rfl ⟨Nat.le_of_ble_eq_true rfl, Nat.le_of_ble_eq_true rfl⟩ (Nat.le_of_ble_eq_true rfl) ⟨Nat.le_of_ble_eq_true rfl, Nat.le_of_ble_eq_true rfl⟩ dX11_isCase_3) hS rfl rfl (fun rr3 Mm3 H locs h hW hS => ?_)
  refine lv_if_eq (tgt := 48) hx hb dX11_isCase_6 (by decide) (fun c6 => ?_) (fun c6 => ?_)
  · replace h := h.1 c6
    refine lv_iconst hx hb dX11_isCase_48 ki_0 ?_
    exact m_iret S hret hlocks hKX hW hbs hS rfl h dX11_isCase_49
  · replace h := h.2 c6
    refine lv_aload_n hx hb dX11_isCase_9 rfl (lv_at hl 0 rfl) ?_
    refine m_getr S hK fk_X11_12 (gr_0_0 G 0) hW (ci_0 (Nat.le_of_ble_eq_true rfl)) dX11_isCase_10 ?_
    refine m_getr S hK fk_X11_47 (gr_1_1 G 0) hW (ci_1 (Nat.le_of_ble_eq_true rfl)) dX11_isCase_13 ?_
    refine lv_iload_n hx hb dX11_isCase_16 rfl (lv_at hl 2 rfl) ?_
    refine m_ci0 (m_rV S hKX hW (m_szH hbs hS) (c_X8_has l (Nat.le_of_ble_eq_true rfl)) h lk_X11_61 (m_recv hK hW (ci_2 (Nat.le_of_ble_eq_true rfl)) (rc_2 G) rfl) rfl hl.1 rfl ⟨Nat.le_of_ble_eq_true rfl, Nat.le_of_ble_eq_true rfl⟩ (Nat.le_of_ble_eq_true rfl) ⟨Nat.le_of_ble_eq_true rfl, Nat.le_of_ble_eq_true rfl⟩ dX11_isCase_17) hS rfl rfl (fun rr17 Mm17 H locs h hW hS => ?_)
    refine lv_if_eq (tgt := 48) hx hb dX11_isCase_20 (by decide) (fun c20 => ?_) (fun c20 => ?_)
    · replace h := h.1 c20
      refine lv_iconst hx hb dX11_isCase_48 ki_0 ?_
      exact m_iret S hret hlocks hKX hW hbs hS rfl h dX11_isCase_49
    · replace h := h.2 c20
      refine lv_iload_n hx hb dX11_isCase_23 rfl (lv_at hl 3 rfl) ?_
      refine lv_iconst hx hb dX11_isCase_24 ki_0 ?_
      refine lv_iconst hx hb dX11_isCase_25 ki_2 ?_
      refine m_ci0 (m_rS S hKX hW (m_szH hbs hS) (c_X11_within l ) h lk_X11_43 rfl hl.1 rfl ⟨Nat.le_of_ble_eq_true rfl, Nat.le_of_ble_eq_true rfl⟩ (Nat.le_of_ble_eq_true rfl) ⟨Nat.le_of_ble_eq_true rfl, Nat.le_of_ble_eq_true rfl⟩ dX11_isCase_26) hS rfl rfl (fun rr26 Mm26 H locs h hW hS => ?_)
      refine lv_if_eq (tgt := 48) hx hb dX11_isCase_29 (by decide) (fun c29 => ?_) (fun c29 => ?_)
      · replace h := h.1 c29
        refine lv_iconst hx hb dX11_isCase_48 ki_0 ?_
        exact m_iret S hret hlocks hKX hW hbs hS rfl h dX11_isCase_49
      · replace h := h.2 c29
        refine lv_iload hx hb dX11_isCase_32 (lv_at hl 4 rfl) ?_
        refine lv_iconst hx hb dX11_isCase_34 ki_0 ?_
        refine lv_sipush hx hb dX11_isCase_35 ks_400 ?_
        refine m_ci0 (m_rS S hKX hW (m_szH hbs hS) (c_X11_within l ) h lk_X11_43 rfl hl.1 rfl ⟨Nat.le_of_ble_eq_true rfl, Nat.le_of_ble_eq_true rfl⟩ (Nat.le_of_ble_eq_true rfl) ⟨Nat.le_of_ble_eq_true rfl, Nat.le_of_ble_eq_true rfl⟩ dX11_isCase_38) hS rfl rfl (fun rr38 Mm38 H locs h hW hS => ?_)
        refine lv_if_eq (tgt := 48) hx hb dX11_isCase_41 (by decide) (fun c41 => ?_) (fun c41 => ?_)
        · replace h := h.1 c41
          refine lv_iconst hx hb dX11_isCase_48 ki_0 ?_
          exact m_iret S hret hlocks hKX hW hbs hS rfl h dX11_isCase_49
        · replace h := h.2 c41
          refine lv_iconst hx hb dX11_isCase_44 ki_1 ?_
          refine lv_goto (tgt := 49) hx hb dX11_isCase_45 (by decide) ?_
          exact m_iret S hret hlocks hKX hW hbs hS rfl h dX11_isCase_49
abbrev rm_X11_force : Room := { frames := 3, cells := 0, slots := 0, locals := 73 }
set_option maxHeartbeats 4000000 in
set_option maxRecDepth 100000 in
theorem c_X11_force (l : Launch) {G : Gn} {M : Mem} {x1 : Int32} {x2 : Int32} {x3 : Int32} {P : Int32 → Mem → Prop} : MQi l yX11_force cX11_force 5 (some .int) rm_X11_force [.ref (ad G 0 0), .int x1, .int x2, .int x3] G M (s_X11_force M x1 x2 x3 P) P := by
  refine m_enter (by decide +kernel) (Nat.le_of_ble_eq_true rfl) ?_
  intro p e s m below meth c ls H locs S hret hlocks hname hKX hbs hW hS hl h
  obtain ⟨AV, hAV⟩ : ∃ z : Array Value, z = ([.ref (ad G 0 0), .int x1, .int x2, .int x3] : List Value).toArray := ⟨_, rfl⟩
  rw [← hAV] at S ⊢
  replace S : CallFix p m c cX11_force 5 s AV lw_G "MilkDesk" := S
  have hK := hKX.1
  have hx := S.1
  have hb := S.2.1
  have hml := S.2.2.1
  have hown := S.2.2.2.1
  have hts := S.2.2.2.2
  replace hl : lv_has ls 5 [(0, .ref (ad G 0 0)), (1, .int x1), (2, .int x2), (3, .int x3)] := hl
  unfold s_X11_force at h
  refine lv_aload_n hx hb dX11_force_0 rfl (lv_at hl 0 rfl) ?_
  refine lv_iload_n hx hb dX11_force_1 rfl (lv_at hl 1 rfl) ?_
  refine lv_iload_n hx hb dX11_force_2 rfl (lv_at hl 2 rfl) ?_
  refine lv_iconst hx hb dX11_force_3 ki_0 ?_
  refine lv_iload_n hx hb dX11_force_4 rfl (lv_at hl 3 rfl) ?_
  refine m_ci0 (m_rV S hKX hW (m_szH hbs hS) (c_X11_isCase l ) h lk_X11_150 (m_recv hK hW (ci_0 (Nat.le_of_ble_eq_true rfl)) (rc_0 G) rfl) rfl hl.1 rfl ⟨Nat.le_of_ble_eq_true rfl, Nat.le_of_ble_eq_true rfl⟩ (Nat.le_of_ble_eq_true rfl) ⟨Nat.le_of_ble_eq_true rfl, Nat.le_of_ble_eq_true rfl⟩ dX11_force_5) hS rfl rfl (fun rr5 Mm5 H locs h hW hS => ?_)
  refine lv_if_ne (tgt := 13) hx hb dX11_force_8 (by decide) (fun c8 => ?_) (fun c8 => ?_)
  · replace h := h.1 c8
    refine lv_aload_n hx hb dX11_force_13 rfl (lv_at hl 0 rfl) ?_
    refine m_getr S hK fk_X11_12 (gr_0_0 G 0) hW (ci_0 (Nat.le_of_ble_eq_true rfl)) dX11_force_14 ?_
    refine m_getr S hK fk_X11_132 (gr_1_4 G 0) hW (ci_1 (Nat.le_of_ble_eq_true rfl)) dX11_force_17 ?_
    refine lv_iload_n hx hb dX11_force_20 rfl (lv_at hl 1 rfl) ?_
    refine lv_aload_n hx hb dX11_force_21 rfl (lv_at hl 0 rfl) ?_
    refine m_getr S hK fk_X11_12 (gr_0_0 G 0) hW (ci_0 (Nat.le_of_ble_eq_true rfl)) dX11_force_22 ?_
    refine m_getr S hK fk_X11_47 (gr_1_1 G 0) hW (ci_1 (Nat.le_of_ble_eq_true rfl)) dX11_force_25 ?_
    refine m_getr S hK fk_X11_154 (gr_2_1 G 0) hW (ci_2 (Nat.le_of_ble_eq_true rfl)) dX11_force_28 ?_
    refine lv_iload_n hx hb dX11_force_31 rfl (lv_at hl 2 rfl) ?_
    obtain ⟨hb32, h⟩ := h
    refine m_ald S hK (ar_15 G) hW (ci_15 (Nat.le_of_ble_eq_true rfl)) hb32 dX11_force_32 ?_
    refine lv_iload_n hx hb dX11_force_33 rfl (lv_at hl 3 rfl) ?_
    refine m_ci0 (m_rV S hKX hW (m_szH hbs hS) (c_X1_inForce l (Nat.le_of_ble_eq_true rfl)) h lk_X11_157 (m_recv hK hW (ci_5 (Nat.le_of_ble_eq_true rfl)) (rc_5 G) rfl) rfl hl.1 rfl ⟨Nat.le_of_ble_eq_true rfl, Nat.le_of_ble_eq_true rfl⟩ (Nat.le_of_ble_eq_true rfl) ⟨Nat.le_of_ble_eq_true rfl, Nat.le_of_ble_eq_true rfl⟩ dX11_force_34) hS rfl rfl (fun rr34 Mm34 H locs h hW hS => ?_)
    refine lv_istore (lv' := [(4, .int rr34), (0, .ref (ad G 0 0)), (1, .int x1), (2, .int x2), (3, .int x3)]) hx hb dX11_force_37 hl (by decide) rfl (fun ls hl => ?_)
    refine lv_iload hx hb dX11_force_39 (lv_at hl 0 rfl) ?_
    refine lv_if_ge (tgt := 49) hx hb dX11_force_41 (by decide) (fun c41 => ?_) (fun c41 => ?_)
    · replace h := h.1 c41
      refine lv_iload hx hb dX11_force_49 (lv_at hl 0 rfl) ?_
      exact m_iret S hret hlocks hKX hW hbs hS rfl h dX11_force_51
    · replace h := h.2 c41
      refine lv_bipush hx hb dX11_force_44 kb_m4 ?_
      refine lv_goto (tgt := 51) hx hb dX11_force_46 (by decide) ?_
      exact m_iret S hret hlocks hKX hW hbs hS rfl h dX11_force_51
  · replace h := h.2 c8
    refine lv_iconst hx hb dX11_force_11 ki_m1 ?_
    exact m_iret S hret hlocks hKX hW hbs hS rfl h dX11_force_12
