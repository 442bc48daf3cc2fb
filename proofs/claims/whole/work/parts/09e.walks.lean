abbrev rm_X12_add : Room := { frames := 0, cells := 0, slots := 0, locals := 0 }
set_option maxHeartbeats 4000000 in
set_option maxRecDepth 100000 in
theorem c_X12_add (l : Launch) {G : Gn} {M : Mem} {x1 : Int32} {x2 : Int32} {x3 : Int32} {P : Mem → Prop} : MQv l yX12_add cX12_add 4 none rm_X12_add [.ref (ad G 10 0), .int x1, .int x2, .int x3] G M (s_X12_add M x1 x2 x3 P) P := by
  refine m_enter (by decide +kernel) (Nat.le_of_ble_eq_true rfl) ?_
  intro p e s m below meth c ls H locs S hret hlocks hname hKX hbs hW hS hl h
  obtain ⟨AV, hAV⟩ : ∃ z : Array Value, z = ([.ref (ad G 10 0), .int x1, .int x2, .int x3] : List Value).toArray := ⟨_, rfl⟩
  rw [← hAV] at S ⊢
  replace S : CallFix p m c cX12_add 4 s AV lw_G "MilkDeskModel" := S
  have hK := hKX.1
  have hx := S.1
  have hb := S.2.1
  have hml := S.2.2.1
  have hown := S.2.2.2.1
  have hts := S.2.2.2.2
  replace hl : lv_has ls 4 [(0, .ref (ad G 10 0)), (1, .int x1), (2, .int x2), (3, .int x3)] := hl
  unfold s_X12_add at h
  refine lv_aload_n hx hb dX12_add_0 rfl (lv_at hl 0 rfl) ?_
  refine m_getr S hK fk_X12_7 (gr_10_1 G 0) hW (ci_10 (Nat.le_of_ble_eq_true rfl)) dX12_add_1 ?_
  refine lv_sipush hx hb dX12_add_4 ks_180 ?_
  refine lv_bipush hx hb dX12_add_7 kb_11 ?_
  refine lv_iload_n hx hb dX12_add_9 rfl (lv_at hl 1 rfl) ?_
  refine lv_imul hx hb dX12_add_10 ?_
  refine lv_iadd hx hb dX12_add_11 ?_
  refine lv_iload_n hx hb dX12_add_12 rfl (lv_at hl 2 rfl) ?_
  refine lv_iadd hx hb dX12_add_13 ?_
  refine lv_dup2_11 hx hb dX12_add_14 rfl rfl ?_
  obtain ⟨hb15, h⟩ := h
  refine m_ald S hK (ar_44 G) hW (ci_44 (Nat.le_of_ble_eq_true rfl)) hb15 dX12_add_15 ?_
  refine lv_iload_n hx hb dX12_add_16 rfl (lv_at hl 3 rfl) ?_
  refine lv_iadd hx hb dX12_add_17 ?_
  obtain ⟨hb18, h⟩ := h
  refine m_ast S hK (ar_44 G) hW hS (ci_44 (Nat.le_of_ble_eq_true rfl)) hb18 dX12_add_18 (fun Mm18 eMm18 H locs hW hS => ?_)
  replace h := h Mm18 eMm18
  exact m_vret S hret hlocks hKX hW hbs hS h dX12_add_19
abbrev rm_X12_serve : Room := { frames := 11, cells := 0, slots := 0, locals := 258 }
set_option maxHeartbeats 4000000 in
set_option maxRecDepth 100000 in
theorem c_X12_serve (l : Launch) {G : Gn} {M : Mem} {x1 : Int32} {x2 : Int32} {P : Mem → Prop} : MQv l yX12_serve cX12_serve 13 none rm_X12_serve [.ref (ad G 10 0), .int x1, .int x2] G M (s_X12_serve M x1 x2 P) P := by
  refine m_enter (by decide +kernel) (Nat.le_of_ble_eq_true rfl) ?_
  intro p e s m below meth c ls H locs S hret hlocks hname hKX hbs hW hS hl h
  obtain ⟨AV, hAV⟩ : ∃ z : Array Value, z = ([.ref (ad G 10 0), .int x1, .int x2] : List Value).toArray := ⟨_, rfl⟩
  rw [← hAV] at S ⊢
  replace S : CallFix p m c cX12_serve 13 s AV lw_G "MilkDeskModel" := S
  have hK := hKX.1
  have hx := S.1
  have hb := S.2.1
  have hml := S.2.2.1
  have hown := S.2.2.2.1
  have hts := S.2.2.2.2
  replace hl : lv_has ls 13 [(0, .ref (ad G 10 0)), (1, .int x1), (2, .int x2)] := hl
  have b406 : ∀ (M : Mem) (x3 : Int32) (x4 : Int32) (x5 : Int32) (x6 : Int32) (x7 : Int32) (x9 : Int32) (x10 : Int32) (x11 : Int32) (x12 : Int32) (y0 : Int32) (y1 : Int32) (y2 : Int32) (H : Heap) (locs : List Loc) (ls : Array Slot), WPm G M H → va_S (fun q => bs G ≤ q) s.heap H locs → lv_has ls 13 [(0, .ref (ad G 10 0)), (1, .int x1), (3, .int x3), (4, .int x4), (5, .int x5), (6, .int x6), (7, .int x7), (9, .int x9), (10, .int x10), (11, .int x11), (12, .int x12)] → s_X12_serve_406 x1 P M x3 x4 x5 x6 x7 x9 x10 x11 x12 y0 y1 y2 → W p l e rm_X12_serve s m AV below meth c H locs 0 0 (MQ below (va_Qv P (WS G) (fun q => bs G ≤ q)) AV s 0 0 (fun q => bs G ≤ q)) (F0 m 406 ls [.int y0, .int y1, .int y2, .ref (ad G 10 0)]) := by
    intro M x3 x4 x5 x6 x7 x9 x10 x11 x12 y0 y1 y2 H locs ls hW hS hl h
    unfold s_X12_serve_406 at h
    refine m_cv0 (m_rV S hKX hW (m_szH hbs hS) (c_X12_add l ) h lk_X12_281 (m_recv hK hW (ci_10 (Nat.le_of_ble_eq_true rfl)) (rc_10 G) rfl) rfl hl.1 rfl ⟨Nat.le_of_ble_eq_true rfl, Nat.le_of_ble_eq_true rfl⟩ (Nat.le_of_ble_eq_true rfl) ⟨Nat.le_of_ble_eq_true rfl, Nat.le_of_ble_eq_true rfl⟩ dX12_serve_406) hS rfl rfl (fun Mm406 H locs h hW hS => ?_)
    refine lv_aload_n hx hb dX12_serve_409 rfl (lv_at hl 0 rfl) ?_
    refine lv_iload_n hx hb dX12_serve_410 rfl (lv_at hl 1 rfl) ?_
    refine lv_bipush hx hb dX12_serve_411 kb_10 ?_
    refine lv_iconst hx hb dX12_serve_413 ki_1 ?_
    refine lv_iload hx hb dX12_serve_414 (lv_at hl 8 rfl) ?_
    refine lv_iload hx hb dX12_serve_416 (lv_at hl 9 rfl) ?_
    refine lv_isub hx hb dX12_serve_418 ?_
    refine lv_iload hx hb dX12_serve_419 (lv_at hl 3 rfl) ?_
    refine m_ci0 (m_rS S hKX hW (m_szH hbs hS) (c_X12_paid l ) h lk_X12_285 rfl hl.1 rfl ⟨Nat.le_of_ble_eq_true rfl, Nat.le_of_ble_eq_true rfl⟩ (Nat.le_of_ble_eq_true rfl) ⟨Nat.le_of_ble_eq_true rfl, Nat.le_of_ble_eq_true rfl⟩ dX12_serve_421) hS rfl rfl (fun rr421 Mm421 H locs h hW hS => ?_)
    refine lv_iconst hx hb dX12_serve_424 ki_3 ?_
    refine lv_iload hx hb dX12_serve_425 (lv_at hl 9 rfl) ?_
    refine lv_iload hx hb dX12_serve_427 (lv_at hl 3 rfl) ?_
    refine m_ci0 (m_rS S hKX hW (m_szH hbs hS) (c_X12_paid l ) h lk_X12_285 rfl hl.1 rfl ⟨Nat.le_of_ble_eq_true rfl, Nat.le_of_ble_eq_true rfl⟩ (Nat.le_of_ble_eq_true rfl) ⟨Nat.le_of_ble_eq_true rfl, Nat.le_of_ble_eq_true rfl⟩ dX12_serve_429) hS rfl rfl (fun rr429 Mm429 H locs h hW hS => ?_)
    refine lv_iadd hx hb dX12_serve_432 ?_
    refine lv_iconst hx hb dX12_serve_433 ki_4 ?_
    refine lv_iload hx hb dX12_serve_434 (lv_at hl 7 rfl) ?_
    refine lv_iload hx hb dX12_serve_436 (lv_at hl 3 rfl) ?_
    refine m_ci0 (m_rS S hKX hW (m_szH hbs hS) (c_X12_paid l ) h lk_X12_285 rfl hl.1 rfl ⟨Nat.le_of_ble_eq_true rfl, Nat.le_of_ble_eq_true rfl⟩ (Nat.le_of_ble_eq_true rfl) ⟨Nat.le_of_ble_eq_true rfl, Nat.le_of_ble_eq_true rfl⟩ dX12_serve_438) hS rfl rfl (fun rr438 Mm438 H locs h hW hS => ?_)
    refine lv_iadd hx hb dX12_serve_441 ?_
    refine lv_iconst hx hb dX12_serve_442 ki_5 ?_
    refine lv_iload hx hb dX12_serve_443 (lv_at hl 6 rfl) ?_
    refine lv_iload hx hb dX12_serve_445 (lv_at hl 3 rfl) ?_
    refine m_ci0 (m_rS S hKX hW (m_szH hbs hS) (c_X12_paid l ) h lk_X12_285 rfl hl.1 rfl ⟨Nat.le_of_ble_eq_true rfl, Nat.le_of_ble_eq_true rfl⟩ (Nat.le_of_ble_eq_true rfl) ⟨Nat.le_of_ble_eq_true rfl, Nat.le_of_ble_eq_true rfl⟩ dX12_serve_447) hS rfl rfl (fun rr447 Mm447 H locs h hW hS => ?_)
    refine lv_iadd hx hb dX12_serve_450 ?_
    refine lv_bipush hx hb dX12_serve_451 kb_6 ?_
    refine lv_iload hx hb dX12_serve_453 (lv_at hl 4 rfl) ?_
    refine lv_iload hx hb dX12_serve_455 (lv_at hl 5 rfl) ?_
    refine lv_isub hx hb dX12_serve_457 ?_
    refine lv_iload hx hb dX12_serve_458 (lv_at hl 3 rfl) ?_
    refine m_ci0 (m_rS S hKX hW (m_szH hbs hS) (c_X12_paid l ) h lk_X12_285 rfl hl.1 rfl ⟨Nat.le_of_ble_eq_true rfl, Nat.le_of_ble_eq_true rfl⟩ (Nat.le_of_ble_eq_true rfl) ⟨Nat.le_of_ble_eq_true rfl, Nat.le_of_ble_eq_true rfl⟩ dX12_serve_460) hS rfl rfl (fun rr460 Mm460 H locs h hW hS => ?_)
    refine lv_iadd hx hb dX12_serve_463 ?_
    refine m_cv0 (m_rV S hKX hW (m_szH hbs hS) (c_X12_add l ) h lk_X12_281 (m_recv hK hW (ci_10 (Nat.le_of_ble_eq_true rfl)) (rc_10 G) rfl) rfl hl.1 rfl ⟨Nat.le_of_ble_eq_true rfl, Nat.le_of_ble_eq_true rfl⟩ (Nat.le_of_ble_eq_true rfl) ⟨Nat.le_of_ble_eq_true rfl, Nat.le_of_ble_eq_true rfl⟩ dX12_serve_464) hS rfl rfl (fun Mm464 H locs h hW hS => ?_)
    refine lv_iload_n hx hb dX12_serve_467 rfl (lv_at hl 2 rfl) ?_
    refine lv_if_lt (tgt := 488) hx hb dX12_serve_468 (by decide) (fun c468 => ?_) (fun c468 => ?_)
    · replace h := h.1 c468
      exact m_vret S hret hlocks hKX hW hbs hS h dX12_serve_488
    · replace h := h.2 c468
      refine lv_aload_n hx hb dX12_serve_471 rfl (lv_at hl 0 rfl) ?_
      refine m_getr S hK fk_X12_90 (gr_10_39 G 0) hW (ci_10 (Nat.le_of_ble_eq_true rfl)) dX12_serve_472 ?_
      refine lv_iload_n hx hb dX12_serve_475 rfl (lv_at hl 2 rfl) ?_
      refine lv_dup2_11 hx hb dX12_serve_476 rfl rfl ?_
      obtain ⟨hb477, h⟩ := h
      refine m_ald S hK (ar_68 G) hW (ci_68 (Nat.le_of_ble_eq_true rfl)) hb477 dX12_serve_477 ?_
      refine lv_iload hx hb dX12_serve_478 (lv_at hl 7 rfl) ?_
      refine lv_iload hx hb dX12_serve_480 (lv_at hl 8 rfl) ?_
      refine lv_iadd hx hb dX12_serve_482 ?_
      refine lv_iload hx hb dX12_serve_483 (lv_at hl 10 rfl) ?_
      refine lv_isub hx hb dX12_serve_485 ?_
      refine lv_iadd hx hb dX12_serve_486 ?_
      obtain ⟨hb487, h⟩ := h
      refine m_ast S hK (ar_68 G) hW hS (ci_68 (Nat.le_of_ble_eq_true rfl)) hb487 dX12_serve_487 (fun Mm487 eMm487 H locs hW hS => ?_)
      replace h := h Mm487 eMm487
      exact m_vret S hret hlocks hKX hW hbs hS h dX12_serve_488
  have b263 : ∀ (M : Mem) (x3 : Int32) (x4 : Int32) (x5 : Int32) (x6 : Int32) (x7 : Int32) (x9 : Int32) (y0 : Int32) (H : Heap) (locs : List Loc) (ls : Array Slot), WPm G M H → va_S (fun q => bs G ≤ q) s.heap H locs → lv_has ls 13 [(0, .ref (ad G 10 0)), (1, .int x1), (2, .int x2), (3, .int x3), (4, .int x4), (5, .int x5), (6, .int x6), (7, .int x7), (9, .int x9)] → s_X12_serve_263 x1 x2 P M x3 x4 x5 x6 x7 x9 y0 → W p l e rm_X12_serve s m AV below meth c H locs 0 0 (MQ below (va_Qv P (WS G) (fun q => bs G ≤ q)) AV s 0 0 (fun q => bs G ≤ q)) (F0 m 263 ls [.int y0]) := by
    intro M x3 x4 x5 x6 x7 x9 y0 H locs ls hW hS hl h
    unfold s_X12_serve_263 at h
    refine lv_istore (lv' := [(10, .int y0), (0, .ref (ad G 10 0)), (1, .int x1), (2, .int x2), (3, .int x3), (4, .int x4), (5, .int x5), (6, .int x6), (7, .int x7), (9, .int x9)]) hx hb dX12_serve_263 hl (by decide) rfl (fun ls hl => ?_)
    refine lv_iload hx hb dX12_serve_265 (lv_at hl 0 rfl) ?_
    refine lv_aload_n hx hb dX12_serve_267 rfl (lv_at hl 1 rfl) ?_
    refine m_getr S hK fk_X12_7 (gr_10_1 G 0) hW (ci_10 (Nat.le_of_ble_eq_true rfl)) dX12_serve_268 ?_
    refine lv_bipush hx hb dX12_serve_271 kb_10 ?_
    refine lv_iload_n hx hb dX12_serve_273 rfl (lv_at hl 2 rfl) ?_
    refine lv_iadd hx hb dX12_serve_274 ?_
    obtain ⟨hb275, h⟩ := h
    refine m_ald S hK (ar_44 G) hW (ci_44 (Nat.le_of_ble_eq_true rfl)) hb275 dX12_serve_275 ?_
    refine lv_imul hx hb dX12_serve_276 ?_
    refine lv_bipush hx hb dX12_serve_277 kb_100 ?_
    refine lv_idiv hx hb dX12_serve_279 nz_100 ?_
    refine lv_topi (fun x11_280 ex11_280 => ?_)
    replace h := h x11_280 ex11_280
    refine lv_istore (lv' := [(11, .int x11_280), (10, .int y0), (0, .ref (ad G 10 0)), (1, .int x1), (2, .int x2), (3, .int x3), (4, .int x4), (5, .int x5), (6, .int x6), (7, .int x7), (9, .int x9)]) hx hb dX12_serve_280 hl (by decide) rfl (fun ls hl => ?_)
    refine lv_iload hx hb dX12_serve_282 (lv_at hl 1 rfl) ?_
    refine lv_aload_n hx hb dX12_serve_284 rfl (lv_at hl 2 rfl) ?_
    refine m_getr S hK fk_X12_7 (gr_10_1 G 0) hW (ci_10 (Nat.le_of_ble_eq_true rfl)) dX12_serve_285 ?_
    refine lv_bipush hx hb dX12_serve_288 kb_30 ?_
    refine lv_iload_n hx hb dX12_serve_290 rfl (lv_at hl 3 rfl) ?_
    refine lv_iadd hx hb dX12_serve_291 ?_
    obtain ⟨hb292, h⟩ := h
    refine m_ald S hK (ar_44 G) hW (ci_44 (Nat.le_of_ble_eq_true rfl)) hb292 dX12_serve_292 ?_
    refine lv_imul hx hb dX12_serve_293 ?_
    refine lv_bipush hx hb dX12_serve_294 kb_100 ?_
    refine lv_idiv hx hb dX12_serve_296 nz_100 ?_
    refine lv_topi (fun x12_297 ex12_297 => ?_)
    replace h := h x12_297 ex12_297
    refine lv_istore (lv' := [(12, .int x12_297), (11, .int x11_280), (10, .int y0), (0, .ref (ad G 10 0)), (1, .int x1), (2, .int x2), (3, .int x3), (4, .int x4), (5, .int x5), (6, .int x6), (7, .int x7), (9, .int x9)]) hx hb dX12_serve_297 hl (by decide) rfl (fun ls hl => ?_)
    refine lv_aload_n hx hb dX12_serve_299 rfl (lv_at hl 3 rfl) ?_
    refine lv_iload_n hx hb dX12_serve_300 rfl (lv_at hl 4 rfl) ?_
    refine lv_iconst hx hb dX12_serve_301 ki_0 ?_
    refine lv_iload hx hb dX12_serve_302 (lv_at hl 8 rfl) ?_
    refine m_cv0 (m_rV S hKX hW (m_szH hbs hS) (c_X12_add l ) h lk_X12_281 (m_recv hK hW (ci_10 (Nat.le_of_ble_eq_true rfl)) (rc_10 G) rfl) rfl hl.1 rfl ⟨Nat.le_of_ble_eq_true rfl, Nat.le_of_ble_eq_true rfl⟩ (Nat.le_of_ble_eq_true rfl) ⟨Nat.le_of_ble_eq_true rfl, Nat.le_of_ble_eq_true rfl⟩ dX12_serve_304) hS rfl rfl (fun Mm304 H locs h hW hS => ?_)
    refine lv_aload_n hx hb dX12_serve_307 rfl (lv_at hl 3 rfl) ?_
    refine lv_iload_n hx hb dX12_serve_308 rfl (lv_at hl 4 rfl) ?_
    refine lv_iconst hx hb dX12_serve_309 ki_1 ?_
    refine lv_iload hx hb dX12_serve_310 (lv_at hl 9 rfl) ?_
    refine m_cv0 (m_rV S hKX hW (m_szH hbs hS) (c_X12_add l ) h lk_X12_281 (m_recv hK hW (ci_10 (Nat.le_of_ble_eq_true rfl)) (rc_10 G) rfl) rfl hl.1 rfl ⟨Nat.le_of_ble_eq_true rfl, Nat.le_of_ble_eq_true rfl⟩ (Nat.le_of_ble_eq_true rfl) ⟨Nat.le_of_ble_eq_true rfl, Nat.le_of_ble_eq_true rfl⟩ dX12_serve_312) hS rfl rfl (fun Mm312 H locs h hW hS => ?_)
    refine lv_aload_n hx hb dX12_serve_315 rfl (lv_at hl 3 rfl) ?_
    refine lv_iload_n hx hb dX12_serve_316 rfl (lv_at hl 4 rfl) ?_
    refine lv_iconst hx hb dX12_serve_317 ki_2 ?_
    refine lv_iload hx hb dX12_serve_318 (lv_at hl 8 rfl) ?_
    refine lv_iload hx hb dX12_serve_320 (lv_at hl 9 rfl) ?_
    refine lv_isub hx hb dX12_serve_322 ?_
    refine m_cv0 (m_rV S hKX hW (m_szH hbs hS) (c_X12_add l ) h lk_X12_281 (m_recv hK hW (ci_10 (Nat.le_of_ble_eq_true rfl)) (rc_10 G) rfl) rfl hl.1 rfl ⟨Nat.le_of_ble_eq_true rfl, Nat.le_of_ble_eq_true rfl⟩ (Nat.le_of_ble_eq_true rfl) ⟨Nat.le_of_ble_eq_true rfl, Nat.le_of_ble_eq_true rfl⟩ dX12_serve_323) hS rfl rfl (fun Mm323 H locs h hW hS => ?_)
    refine lv_aload_n hx hb dX12_serve_326 rfl (lv_at hl 3 rfl) ?_
    refine lv_iload_n hx hb dX12_serve_327 rfl (lv_at hl 4 rfl) ?_
    refine lv_iconst hx hb dX12_serve_328 ki_3 ?_
    refine lv_iload hx hb dX12_serve_329 (lv_at hl 10 rfl) ?_
    refine m_cv0 (m_rV S hKX hW (m_szH hbs hS) (c_X12_add l ) h lk_X12_281 (m_recv hK hW (ci_10 (Nat.le_of_ble_eq_true rfl)) (rc_10 G) rfl) rfl hl.1 rfl ⟨Nat.le_of_ble_eq_true rfl, Nat.le_of_ble_eq_true rfl⟩ (Nat.le_of_ble_eq_true rfl) ⟨Nat.le_of_ble_eq_true rfl, Nat.le_of_ble_eq_true rfl⟩ dX12_serve_331) hS rfl rfl (fun Mm331 H locs h hW hS => ?_)
    refine lv_aload_n hx hb dX12_serve_334 rfl (lv_at hl 3 rfl) ?_
    refine lv_iload_n hx hb dX12_serve_335 rfl (lv_at hl 4 rfl) ?_
    refine lv_iconst hx hb dX12_serve_336 ki_4 ?_
    refine lv_iload hx hb dX12_serve_337 (lv_at hl 11 rfl) ?_
    refine m_cv0 (m_rV S hKX hW (m_szH hbs hS) (c_X12_add l ) h lk_X12_281 (m_recv hK hW (ci_10 (Nat.le_of_ble_eq_true rfl)) (rc_10 G) rfl) rfl hl.1 rfl ⟨Nat.le_of_ble_eq_true rfl, Nat.le_of_ble_eq_true rfl⟩ (Nat.le_of_ble_eq_true rfl) ⟨Nat.le_of_ble_eq_true rfl, Nat.le_of_ble_eq_true rfl⟩ dX12_serve_339) hS rfl rfl (fun Mm339 H locs h hW hS => ?_)
    refine lv_aload_n hx hb dX12_serve_342 rfl (lv_at hl 3 rfl) ?_
    refine lv_iload_n hx hb dX12_serve_343 rfl (lv_at hl 4 rfl) ?_
    refine lv_iconst hx hb dX12_serve_344 ki_5 ?_
    refine lv_iload hx hb dX12_serve_345 (lv_at hl 2 rfl) ?_
    refine m_cv0 (m_rV S hKX hW (m_szH hbs hS) (c_X12_add l ) h lk_X12_281 (m_recv hK hW (ci_10 (Nat.le_of_ble_eq_true rfl)) (rc_10 G) rfl) rfl hl.1 rfl ⟨Nat.le_of_ble_eq_true rfl, Nat.le_of_ble_eq_true rfl⟩ (Nat.le_of_ble_eq_true rfl) ⟨Nat.le_of_ble_eq_true rfl, Nat.le_of_ble_eq_true rfl⟩ dX12_serve_347) hS rfl rfl (fun Mm347 H locs h hW hS => ?_)
    refine lv_aload_n hx hb dX12_serve_350 rfl (lv_at hl 3 rfl) ?_
    refine lv_iload_n hx hb dX12_serve_351 rfl (lv_at hl 4 rfl) ?_
    refine lv_bipush hx hb dX12_serve_352 kb_6 ?_
    refine lv_iload hx hb dX12_serve_354 (lv_at hl 1 rfl) ?_
    refine m_cv0 (m_rV S hKX hW (m_szH hbs hS) (c_X12_add l ) h lk_X12_281 (m_recv hK hW (ci_10 (Nat.le_of_ble_eq_true rfl)) (rc_10 G) rfl) rfl hl.1 rfl ⟨Nat.le_of_ble_eq_true rfl, Nat.le_of_ble_eq_true rfl⟩ (Nat.le_of_ble_eq_true rfl) ⟨Nat.le_of_ble_eq_true rfl, Nat.le_of_ble_eq_true rfl⟩ dX12_serve_356) hS rfl rfl (fun Mm356 H locs h hW hS => ?_)
    refine lv_aload_n hx hb dX12_serve_359 rfl (lv_at hl 3 rfl) ?_
    refine lv_iload_n hx hb dX12_serve_360 rfl (lv_at hl 4 rfl) ?_
    refine lv_bipush hx hb dX12_serve_361 kb_7 ?_
    refine lv_iload hx hb dX12_serve_363 (lv_at hl 2 rfl) ?_
    refine lv_iload hx hb dX12_serve_365 (lv_at hl 0 rfl) ?_
    refine lv_isub hx hb dX12_serve_367 ?_
    refine m_cv0 (m_rV S hKX hW (m_szH hbs hS) (c_X12_add l ) h lk_X12_281 (m_recv hK hW (ci_10 (Nat.le_of_ble_eq_true rfl)) (rc_10 G) rfl) rfl hl.1 rfl ⟨Nat.le_of_ble_eq_true rfl, Nat.le_of_ble_eq_true rfl⟩ (Nat.le_of_ble_eq_true rfl) ⟨Nat.le_of_ble_eq_true rfl, Nat.le_of_ble_eq_true rfl⟩ dX12_serve_368) hS rfl rfl (fun Mm368 H locs h hW hS => ?_)
    refine lv_aload_n hx hb dX12_serve_371 rfl (lv_at hl 3 rfl) ?_
    refine lv_iload_n hx hb dX12_serve_372 rfl (lv_at hl 4 rfl) ?_
    refine lv_bipush hx hb dX12_serve_373 kb_8 ?_
    refine lv_iload hx hb dX12_serve_375 (lv_at hl 0 rfl) ?_
    refine m_cv0 (m_rV S hKX hW (m_szH hbs hS) (c_X12_add l ) h lk_X12_281 (m_recv hK hW (ci_10 (Nat.le_of_ble_eq_true rfl)) (rc_10 G) rfl) rfl hl.1 rfl ⟨Nat.le_of_ble_eq_true rfl, Nat.le_of_ble_eq_true rfl⟩ (Nat.le_of_ble_eq_true rfl) ⟨Nat.le_of_ble_eq_true rfl, Nat.le_of_ble_eq_true rfl⟩ dX12_serve_377) hS rfl rfl (fun Mm377 H locs h hW hS => ?_)
    refine lv_aload_n hx hb dX12_serve_380 rfl (lv_at hl 3 rfl) ?_
    refine lv_iload_n hx hb dX12_serve_381 rfl (lv_at hl 4 rfl) ?_
    refine lv_bipush hx hb dX12_serve_382 kb_9 ?_
    refine lv_iload hx hb dX12_serve_384 (lv_at hl 0 rfl) ?_
    refine lv_if_le (tgt := 405) hx hb dX12_serve_386 (by decide) (fun c386 => ?_) (fun c386 => ?_)
    · replace h := h.1 c386
      refine lv_iconst hx hb dX12_serve_405 ki_0 ?_
      exact b406 _ _ _ _ _ _ _ _ _ _ _ _ _ H locs ls hW hS (lv_sub hl [3, 4, 6, 7, 8, 9, 10, 11, 2, 1, 0] rfl) h
    · replace h := h.2 c386
      refine lv_aload_n hx hb dX12_serve_389 rfl (lv_at hl 3 rfl) ?_
      refine lv_iconst hx hb dX12_serve_390 ki_2 ?_
      refine lv_iload_n hx hb dX12_serve_391 rfl (lv_at hl 4 rfl) ?_
      refine lv_iconst hx hb dX12_serve_392 ki_0 ?_
      refine lv_iload_n hx hb dX12_serve_393 rfl (lv_at hl 5 rfl) ?_
      refine m_ci0 (m_rV S hKX hW (m_szH hbs hS) (c_X12_holdsFor l ) h lk_X12_266 (m_recv hK hW (ci_10 (Nat.le_of_ble_eq_true rfl)) (rc_10 G) rfl) rfl hl.1 rfl ⟨Nat.le_of_ble_eq_true rfl, Nat.le_of_ble_eq_true rfl⟩ (Nat.le_of_ble_eq_true rfl) ⟨Nat.le_of_ble_eq_true rfl, Nat.le_of_ble_eq_true rfl⟩ dX12_serve_394) hS rfl rfl (fun rr394 Mm394 H locs h hW hS => ?_)
      refine lv_if_eq (tgt := 405) hx hb dX12_serve_397 (by decide) (fun c397 => ?_) (fun c397 => ?_)
      · replace h := h.1 c397
        refine lv_iconst hx hb dX12_serve_405 ki_0 ?_
        exact b406 _ _ _ _ _ _ _ _ _ _ _ _ _ H locs ls hW hS (lv_sub hl [3, 4, 6, 7, 8, 9, 10, 11, 2, 1, 0] rfl) h
      · replace h := h.2 c397
        refine lv_iload hx hb dX12_serve_400 (lv_at hl 0 rfl) ?_
        refine lv_goto (tgt := 406) hx hb dX12_serve_402 (by decide) ?_
        exact b406 _ _ _ _ _ _ _ _ _ _ _ _ _ H locs ls hW hS (lv_sub hl [3, 4, 6, 7, 8, 9, 10, 11, 2, 1, 0] rfl) h
  have b247 : ∀ (M : Mem) (x3 : Int32) (x4 : Int32) (x5 : Int32) (x6 : Int32) (x7 : Int32) (x8 : Int32) (y0 : Int32) (H : Heap) (locs : List Loc) (ls : Array Slot), WPm G M H → va_S (fun q => bs G ≤ q) s.heap H locs → lv_has ls 13 [(0, .ref (ad G 10 0)), (1, .int x1), (2, .int x2), (3, .int x3), (4, .int x4), (5, .int x5), (6, .int x6), (7, .int x7), (8, .int x8)] → s_X12_serve_247 x1 x2 P M x3 x4 x5 x6 x7 x8 y0 → W p l e rm_X12_serve s m AV below meth c H locs 0 0 (MQ below (va_Qv P (WS G) (fun q => bs G ≤ q)) AV s 0 0 (fun q => bs G ≤ q)) (F0 m 247 ls [.int y0]) := by
    intro M x3 x4 x5 x6 x7 x8 y0 H locs ls hW hS hl h
    unfold s_X12_serve_247 at h
    refine lv_istore (lv' := [(9, .int y0), (0, .ref (ad G 10 0)), (1, .int x1), (2, .int x2), (3, .int x3), (4, .int x4), (5, .int x5), (6, .int x6), (7, .int x7), (8, .int x8)]) hx hb dX12_serve_247 hl (by decide) rfl (fun ls hl => ?_)
    refine lv_iload hx hb dX12_serve_249 (lv_at hl 9 rfl) ?_
    refine lv_if_eq (tgt := 258) hx hb dX12_serve_251 (by decide) (fun c251 => ?_) (fun c251 => ?_)
    · replace h := h.1 c251
      refine lv_iload hx hb dX12_serve_258 (lv_at hl 7 rfl) ?_
      refine lv_iload hx hb dX12_serve_260 (lv_at hl 8 rfl) ?_
      refine lv_isub hx hb dX12_serve_262 ?_
      exact b263 _ _ _ _ _ _ _ _ H locs ls hW hS (lv_sub hl [1, 2, 3, 4, 5, 6, 7, 8, 0] rfl) h
    · replace h := h.2 c251
      refine lv_iconst hx hb dX12_serve_254 ki_0 ?_
      refine lv_goto (tgt := 263) hx hb dX12_serve_255 (by decide) ?_
      exact b263 _ _ _ _ _ _ _ _ H locs ls hW hS (lv_sub hl [1, 2, 3, 4, 5, 6, 7, 8, 0] rfl) h
  have b231 : ∀ (M : Mem) (x3 : Int32) (x4 : Int32) (x5 : Int32) (x6 : Int32) (x7 : Int32) (y0 : Int32) (H : Heap) (locs : List Loc) (ls : Array Slot), WPm G M H → va_S (fun q => bs G ≤ q) s.heap H locs → lv_has ls 13 [(0, .ref (ad G 10 0)), (1, .int x1), (2, .int x2), (3, .int x3), (4, .int x4), (5, .int x5), (6, .int x6), (7, .int x7)] → s_X12_serve_231 x1 x2 P M x3 x4 x5 x6 x7 y0 → W p l e rm_X12_serve s m AV below meth c H locs 0 0 (MQ below (va_Qv P (WS G) (fun q => bs G ≤ q)) AV s 0 0 (fun q => bs G ≤ q)) (F0 m 231 ls [.int y0]) := by
    intro M x3 x4 x5 x6 x7 y0 H locs ls hW hS hl h
    unfold s_X12_serve_231 at h
    refine lv_istore (lv' := [(8, .int y0), (0, .ref (ad G 10 0)), (1, .int x1), (2, .int x2), (3, .int x3), (4, .int x4), (5, .int x5), (6, .int x6), (7, .int x7)]) hx hb dX12_serve_231 hl (by decide) rfl (fun ls hl => ?_)
    refine lv_iload hx hb dX12_serve_233 (lv_at hl 0 rfl) ?_
    refine lv_if_eq (tgt := 246) hx hb dX12_serve_235 (by decide) (fun c235 => ?_) (fun c235 => ?_)
    · replace h := h.1 c235
      refine lv_iconst hx hb dX12_serve_246 ki_0 ?_
      exact b247 _ _ _ _ _ _ _ _ H locs ls hW hS (lv_sub hl [1, 2, 3, 4, 5, 6, 7, 8, 0] rfl) h
    · replace h := h.2 c235
      refine lv_iload hx hb dX12_serve_238 (lv_at hl 7 rfl) ?_
      refine lv_iload hx hb dX12_serve_240 (lv_at hl 8 rfl) ?_
      refine lv_isub hx hb dX12_serve_242 ?_
      refine lv_goto (tgt := 247) hx hb dX12_serve_243 (by decide) ?_
      exact b247 _ _ _ _ _ _ _ _ H locs ls hW hS (lv_sub hl [1, 2, 3, 4, 5, 6, 7, 8, 0] rfl) h
  have b173 : ∀ (M : Mem) (x3 : Int32) (x4 : Int32) (x5 : Int32) (x6 : Int32) (H : Heap) (locs : List Loc) (ls : Array Slot), WPm G M H → va_S (fun q => bs G ≤ q) s.heap H locs → lv_has ls 13 [(0, .ref (ad G 10 0)), (1, .int x1), (2, .int x2), (3, .int x3), (4, .int x4), (5, .int x5), (6, .int x6)] → s_X12_serve_173 x1 x2 P M x3 x4 x5 x6 → W p l e rm_X12_serve s m AV below meth c H locs 0 0 (MQ below (va_Qv P (WS G) (fun q => bs G ≤ q)) AV s 0 0 (fun q => bs G ≤ q)) (F0 m 173 ls []) := by
    intro M x3 x4 x5 x6 H locs ls hW hS hl h
    unfold s_X12_serve_173 at h
    refine lv_iload hx hb dX12_serve_173 (lv_at hl 6 rfl) ?_
    refine lv_aload_n hx hb dX12_serve_175 rfl (lv_at hl 0 rfl) ?_
    refine m_getr S hK fk_X12_7 (gr_10_1 G 0) hW (ci_10 (Nat.le_of_ble_eq_true rfl)) dX12_serve_176 ?_
    refine lv_bipush hx hb dX12_serve_179 kb_100 ?_
    refine lv_iload_n hx hb dX12_serve_181 rfl (lv_at hl 2 rfl) ?_
    refine m_ci0 (m_rS S hKX hW (m_szH hbs hS) (c_X12_monthOf l ) h lk_X12_189 rfl hl.1 rfl ⟨Nat.le_of_ble_eq_true rfl, Nat.le_of_ble_eq_true rfl⟩ (Nat.le_of_ble_eq_true rfl) ⟨Nat.le_of_ble_eq_true rfl, Nat.le_of_ble_eq_true rfl⟩ dX12_serve_182) hS rfl rfl (fun rr182 Mm182 H locs h hW hS => ?_)
    refine lv_iadd hx hb dX12_serve_185 ?_
    obtain ⟨hb186, h⟩ := h
    refine m_ald S hK (ar_44 G) hW (ci_44 (Nat.le_of_ble_eq_true rfl)) hb186 dX12_serve_186 ?_
    refine lv_imul hx hb dX12_serve_187 ?_
    refine lv_bipush hx hb dX12_serve_188 kb_100 ?_
    refine lv_idiv hx hb dX12_serve_190 nz_100 ?_
    refine lv_topi (fun x7_191 ex7_191 => ?_)
    replace h := h x7_191 ex7_191
    refine lv_istore (lv' := [(7, .int x7_191), (0, .ref (ad G 10 0)), (1, .int x1), (2, .int x2), (3, .int x3), (4, .int x4), (5, .int x5), (6, .int x6)]) hx hb dX12_serve_191 hl (by decide) rfl (fun ls hl => ?_)
    refine lv_iload hx hb dX12_serve_193 (lv_at hl 7 rfl) ?_
    refine lv_if_le (tgt := 230) hx hb dX12_serve_195 (by decide) (fun c195 => ?_) (fun c195 => ?_)
    · replace h := h.1 c195
      refine lv_iconst hx hb dX12_serve_230 ki_0 ?_
      exact b231 _ _ _ _ _ _ _ H locs ls hW hS (lv_sub hl [1, 2, 3, 4, 5, 6, 7, 0] rfl) h
    · replace h := h.2 c195
      refine lv_aload_n hx hb dX12_serve_198 rfl (lv_at hl 1 rfl) ?_
      refine m_getr S hK fk_X12_7 (gr_10_1 G 0) hW (ci_10 (Nat.le_of_ble_eq_true rfl)) dX12_serve_199 ?_
      refine lv_bipush hx hb dX12_serve_202 kb_120 ?_
      refine lv_iload_n hx hb dX12_serve_204 rfl (lv_at hl 3 rfl) ?_
      refine m_ci0 (m_rS S hKX hW (m_szH hbs hS) (c_X12_monthOf l ) h lk_X12_189 rfl hl.1 rfl ⟨Nat.le_of_ble_eq_true rfl, Nat.le_of_ble_eq_true rfl⟩ (Nat.le_of_ble_eq_true rfl) ⟨Nat.le_of_ble_eq_true rfl, Nat.le_of_ble_eq_true rfl⟩ dX12_serve_205) hS rfl rfl (fun rr205 Mm205 H locs h hW hS => ?_)
      refine lv_iadd hx hb dX12_serve_208 ?_
      obtain ⟨hb209, h⟩ := h
      refine m_ald S hK (ar_44 G) hW (ci_44 (Nat.le_of_ble_eq_true rfl)) hb209 dX12_serve_209 ?_
      refine lv_bipush hx hb dX12_serve_210 kb_20 ?_
      refine lv_icmp_lt (tgt := 230) hx hb dX12_serve_212 (by decide) (fun c212 => ?_) (fun c212 => ?_)
      · replace h := h.1 c212
        refine lv_iconst hx hb dX12_serve_230 ki_0 ?_
        exact b231 _ _ _ _ _ _ _ H locs ls hW hS (lv_sub hl [1, 2, 3, 4, 5, 6, 7, 0] rfl) h
      · replace h := h.2 c212
        refine lv_aload_n hx hb dX12_serve_215 rfl (lv_at hl 1 rfl) ?_
        refine lv_iconst hx hb dX12_serve_216 ki_1 ?_
        refine lv_iload_n hx hb dX12_serve_217 rfl (lv_at hl 2 rfl) ?_
        refine lv_iconst hx hb dX12_serve_218 ki_0 ?_
        refine lv_iload_n hx hb dX12_serve_219 rfl (lv_at hl 3 rfl) ?_
        refine m_ci0 (m_rV S hKX hW (m_szH hbs hS) (c_X12_holdsFor l ) h lk_X12_266 (m_recv hK hW (ci_10 (Nat.le_of_ble_eq_true rfl)) (rc_10 G) rfl) rfl hl.1 rfl ⟨Nat.le_of_ble_eq_true rfl, Nat.le_of_ble_eq_true rfl⟩ (Nat.le_of_ble_eq_true rfl) ⟨Nat.le_of_ble_eq_true rfl, Nat.le_of_ble_eq_true rfl⟩ dX12_serve_220) hS rfl rfl (fun rr220 Mm220 H locs h hW hS => ?_)
        refine lv_if_eq (tgt := 230) hx hb dX12_serve_223 (by decide) (fun c223 => ?_) (fun c223 => ?_)
        · replace h := h.1 c223
          refine lv_iconst hx hb dX12_serve_230 ki_0 ?_
          exact b231 _ _ _ _ _ _ _ H locs ls hW hS (lv_sub hl [1, 2, 3, 4, 5, 6, 7, 0] rfl) h
        · replace h := h.2 c223
          refine lv_iconst hx hb dX12_serve_226 ki_1 ?_
          refine lv_goto (tgt := 231) hx hb dX12_serve_227 (by decide) ?_
          exact b231 _ _ _ _ _ _ _ H locs ls hW hS (lv_sub hl [1, 2, 3, 4, 5, 6, 7, 0] rfl) h
  have b135 : ∀ (M : Mem) (x3 : Int32) (x4 : Int32) (x5 : Int32) (y0 : Int32) (H : Heap) (locs : List Loc) (ls : Array Slot), WPm G M H → va_S (fun q => bs G ≤ q) s.heap H locs → lv_has ls 13 [(0, .ref (ad G 10 0)), (1, .int x1), (2, .int x2), (3, .int x3), (4, .int x4), (5, .int x5)] → s_X12_serve_135 x1 x2 P M x3 x4 x5 y0 → W p l e rm_X12_serve s m AV below meth c H locs 0 0 (MQ below (va_Qv P (WS G) (fun q => bs G ≤ q)) AV s 0 0 (fun q => bs G ≤ q)) (F0 m 135 ls [.int y0]) := by
    intro M x3 x4 x5 y0 H locs ls hW hS hl h
    unfold s_X12_serve_135 at h
    refine lv_istore (lv' := [(6, .int y0), (0, .ref (ad G 10 0)), (1, .int x1), (2, .int x2), (3, .int x3), (4, .int x4), (5, .int x5)]) hx hb dX12_serve_135 hl (by decide) rfl (fun ls hl => ?_)
    refine lv_aload_n hx hb dX12_serve_137 rfl (lv_at hl 1 rfl) ?_
    refine m_getr S hK fk_X12_87 (gr_10_38 G 0) hW (ci_10 (Nat.le_of_ble_eq_true rfl)) dX12_serve_138 ?_
    refine lv_iload_n hx hb dX12_serve_141 rfl (lv_at hl 4 rfl) ?_
    refine lv_dup2_11 hx hb dX12_serve_142 rfl rfl ?_
    obtain ⟨hb143, h⟩ := h
    refine m_ald S hK (ar_67 G) hW (ci_67 (Nat.le_of_ble_eq_true rfl)) hb143 dX12_serve_143 ?_
    refine lv_iload hx hb dX12_serve_144 (lv_at hl 0 rfl) ?_
    refine lv_isub hx hb dX12_serve_146 ?_
    obtain ⟨hb147, h⟩ := h
    refine m_ast S hK (ar_67 G) hW hS (ci_67 (Nat.le_of_ble_eq_true rfl)) hb147 dX12_serve_147 (fun Mm147 eMm147 H locs hW hS => ?_)
    replace h := h Mm147 eMm147
    refine lv_aload_n hx hb dX12_serve_148 rfl (lv_at hl 1 rfl) ?_
    refine m_getr S hK fk_X12_7 (gr_10_1 G 0) hW (ci_10 (Nat.le_of_ble_eq_true rfl)) dX12_serve_149 ?_
    refine lv_bipush hx hb dX12_serve_152 kb_70 ?_
    refine lv_iload_n hx hb dX12_serve_154 rfl (lv_at hl 4 rfl) ?_
    refine lv_iadd hx hb dX12_serve_155 ?_
    refine lv_dup2_11 hx hb dX12_serve_156 rfl rfl ?_
    obtain ⟨hb157, h⟩ := h
    refine m_ald S hK (ar_44 G) hW (ci_44 (Nat.le_of_ble_eq_true rfl)) hb157 dX12_serve_157 ?_
    refine lv_iload hx hb dX12_serve_158 (lv_at hl 0 rfl) ?_
    refine lv_isub hx hb dX12_serve_160 ?_
    obtain ⟨hb161, h⟩ := h
    refine m_ast S hK (ar_44 G) hW hS (ci_44 (Nat.le_of_ble_eq_true rfl)) hb161 dX12_serve_161 (fun Mm161 eMm161 H locs hW hS => ?_)
    replace h := h Mm161 eMm161
    refine lv_aload_n hx hb dX12_serve_162 rfl (lv_at hl 1 rfl) ?_
    refine lv_dup hx hb dX12_serve_163 rfl ?_
    refine m_geti S hK fk_X12_278 (gi_10_40 G) hW (ci_10 (Nat.le_of_ble_eq_true rfl)) dX12_serve_164 ?_
    refine lv_iload hx hb dX12_serve_167 (lv_at hl 0 rfl) ?_
    refine lv_isub hx hb dX12_serve_169 ?_
    refine m_put S hK fk_X12_278 tyX12_ok nmX12 rfl pf_X12_40 (pv_10_40 G) hW hS (ci_10 (Nat.le_of_ble_eq_true rfl)) rfl rfl dX12_serve_170 (fun Mm170 eMm170 H locs hW hS => ?_)
    replace h := h Mm170 eMm170
    exact b173 _ _ _ _ _ H locs ls hW hS (lv_sub hl [1, 2, 3, 4, 5, 6, 0] rfl) h
  have b115 : ∀ (M : Mem) (x3 : Int32) (x4 : Int32) (x5 : Int32) (y0 : Int32) (H : Heap) (locs : List Loc) (ls : Array Slot), WPm G M H → va_S (fun q => bs G ≤ q) s.heap H locs → lv_has ls 13 [(0, .ref (ad G 10 0)), (1, .int x1), (2, .int x2), (3, .int x3), (4, .int x4), (5, .int x5)] → s_X12_serve_115 x1 x2 P M x3 x4 x5 y0 → W p l e rm_X12_serve s m AV below meth c H locs 0 0 (MQ below (va_Qv P (WS G) (fun q => bs G ≤ q)) AV s 0 0 (fun q => bs G ≤ q)) (F0 m 115 ls [.int y0]) := by
    intro M x3 x4 x5 y0 H locs ls hW hS hl h
    unfold s_X12_serve_115 at h
    refine lv_istore (lv' := [(6, .int y0), (0, .ref (ad G 10 0)), (1, .int x1), (2, .int x2), (3, .int x3), (4, .int x4), (5, .int x5)]) hx hb dX12_serve_115 hl (by decide) rfl (fun ls hl => ?_)
    refine lv_aload_n hx hb dX12_serve_117 rfl (lv_at hl 1 rfl) ?_
    refine m_geti S hK fk_X12_278 (gi_10_40 G) hW (ci_10 (Nat.le_of_ble_eq_true rfl)) dX12_serve_118 ?_
    refine lv_iload hx hb dX12_serve_121 (lv_at hl 0 rfl) ?_
    refine lv_icmp_ge (tgt := 133) hx hb dX12_serve_123 (by decide) (fun c123 => ?_) (fun c123 => ?_)
    · replace h := h.1 c123
      refine lv_iload hx hb dX12_serve_133 (lv_at hl 0 rfl) ?_
      exact b135 _ _ _ _ _ H locs ls hW hS (lv_sub hl [1, 2, 3, 4, 5, 6] rfl) h
    · replace h := h.2 c123
      refine lv_aload_n hx hb dX12_serve_126 rfl (lv_at hl 1 rfl) ?_
      refine m_geti S hK fk_X12_278 (gi_10_40 G) hW (ci_10 (Nat.le_of_ble_eq_true rfl)) dX12_serve_127 ?_
      refine lv_goto (tgt := 135) hx hb dX12_serve_130 (by decide) ?_
      exact b135 _ _ _ _ _ H locs ls hW hS (lv_sub hl [1, 2, 3, 4, 5, 6] rfl) h
  have b85 : ∀ (M : Mem) (x3 : Int32) (x4 : Int32) (x5 : Int32) (y0 : Int32) (H : Heap) (locs : List Loc) (ls : Array Slot), WPm G M H → va_S (fun q => bs G ≤ q) s.heap H locs → lv_has ls 13 [(0, .ref (ad G 10 0)), (1, .int x1), (2, .int x2), (3, .int x3), (4, .int x4), (5, .int x5)] → s_X12_serve_85 x1 x2 P M x3 x4 x5 y0 → W p l e rm_X12_serve s m AV below meth c H locs 0 0 (MQ below (va_Qv P (WS G) (fun q => bs G ≤ q)) AV s 0 0 (fun q => bs G ≤ q)) (F0 m 85 ls [.int y0]) := by
    intro M x3 x4 x5 y0 H locs ls hW hS hl h
    unfold s_X12_serve_85 at h
    refine lv_istore (lv' := [(6, .int y0), (0, .ref (ad G 10 0)), (1, .int x1), (2, .int x2), (3, .int x3), (4, .int x4), (5, .int x5)]) hx hb dX12_serve_85 hl (by decide) rfl (fun ls hl => ?_)
    refine lv_aload_n hx hb dX12_serve_87 rfl (lv_at hl 1 rfl) ?_
    refine m_getr S hK fk_X12_7 (gr_10_1 G 0) hW (ci_10 (Nat.le_of_ble_eq_true rfl)) dX12_serve_88 ?_
    refine lv_bipush hx hb dX12_serve_91 kb_70 ?_
    refine lv_iload_n hx hb dX12_serve_93 rfl (lv_at hl 4 rfl) ?_
    refine lv_iadd hx hb dX12_serve_94 ?_
    obtain ⟨hb95, h⟩ := h
    refine m_ald S hK (ar_44 G) hW (ci_44 (Nat.le_of_ble_eq_true rfl)) hb95 dX12_serve_95 ?_
    refine lv_iload hx hb dX12_serve_96 (lv_at hl 0 rfl) ?_
    refine lv_icmp_ge (tgt := 113) hx hb dX12_serve_98 (by decide) (fun c98 => ?_) (fun c98 => ?_)
    · replace h := h.1 c98
      refine lv_iload hx hb dX12_serve_113 (lv_at hl 0 rfl) ?_
      exact b115 _ _ _ _ _ H locs ls hW hS (lv_sub hl [1, 2, 3, 4, 5, 6] rfl) h
    · replace h := h.2 c98
      refine lv_aload_n hx hb dX12_serve_101 rfl (lv_at hl 1 rfl) ?_
      refine m_getr S hK fk_X12_7 (gr_10_1 G 0) hW (ci_10 (Nat.le_of_ble_eq_true rfl)) dX12_serve_102 ?_
      refine lv_bipush hx hb dX12_serve_105 kb_70 ?_
      refine lv_iload_n hx hb dX12_serve_107 rfl (lv_at hl 4 rfl) ?_
      refine lv_iadd hx hb dX12_serve_108 ?_
      obtain ⟨hb109, h⟩ := h
      refine m_ald S hK (ar_44 G) hW (ci_44 (Nat.le_of_ble_eq_true rfl)) hb109 dX12_serve_109 ?_
      refine lv_goto (tgt := 115) hx hb dX12_serve_110 (by decide) ?_
      exact b115 _ _ _ _ _ H locs ls hW hS (lv_sub hl [1, 2, 3, 4, 5, 6] rfl) h
  have b57 : ∀ (M : Mem) (x3 : Int32) (x4 : Int32) (x5 : Int32) (y0 : Int32) (H : Heap) (locs : List Loc) (ls : Array Slot), WPm G M H → va_S (fun q => bs G ≤ q) s.heap H locs → lv_has ls 13 [(0, .ref (ad G 10 0)), (1, .int x1), (2, .int x2), (3, .int x3), (4, .int x4), (5, .int x5)] → s_X12_serve_57 x1 x2 P M x3 x4 x5 y0 → W p l e rm_X12_serve s m AV below meth c H locs 0 0 (MQ below (va_Qv P (WS G) (fun q => bs G ≤ q)) AV s 0 0 (fun q => bs G ≤ q)) (F0 m 57 ls [.int y0]) := by
    intro M x3 x4 x5 y0 H locs ls hW hS hl h
    unfold s_X12_serve_57 at h
    refine lv_istore (lv' := [(6, .int y0), (0, .ref (ad G 10 0)), (1, .int x1), (2, .int x2), (3, .int x3), (4, .int x4), (5, .int x5)]) hx hb dX12_serve_57 hl (by decide) rfl (fun ls hl => ?_)
    refine lv_iload_n hx hb dX12_serve_59 rfl (lv_at hl 4 rfl) ?_
    refine lv_if_lt (tgt := 173) hx hb dX12_serve_60 (by decide) (fun c60 => ?_) (fun c60 => ?_)
    · replace h := h.1 c60
      exact b173 _ _ _ _ _ H locs ls hW hS (lv_sub hl [1, 2, 3, 4, 5, 6, 0] rfl) h
    · replace h := h.2 c60
      refine lv_aload_n hx hb dX12_serve_63 rfl (lv_at hl 1 rfl) ?_
      refine m_getr S hK fk_X12_87 (gr_10_38 G 0) hW (ci_10 (Nat.le_of_ble_eq_true rfl)) dX12_serve_64 ?_
      refine lv_iload_n hx hb dX12_serve_67 rfl (lv_at hl 4 rfl) ?_
      obtain ⟨hb68, h⟩ := h
      refine m_ald S hK (ar_67 G) hW (ci_67 (Nat.le_of_ble_eq_true rfl)) hb68 dX12_serve_68 ?_
      refine lv_iload hx hb dX12_serve_69 (lv_at hl 0 rfl) ?_
      refine lv_icmp_ge (tgt := 83) hx hb dX12_serve_71 (by decide) (fun c71 => ?_) (fun c71 => ?_)
      · replace h := h.1 c71
        refine lv_iload hx hb dX12_serve_83 (lv_at hl 0 rfl) ?_
        exact b85 _ _ _ _ _ H locs ls hW hS (lv_sub hl [1, 2, 3, 4, 5, 6] rfl) h
      · replace h := h.2 c71
        refine lv_aload_n hx hb dX12_serve_74 rfl (lv_at hl 1 rfl) ?_
        refine m_getr S hK fk_X12_87 (gr_10_38 G 0) hW (ci_10 (Nat.le_of_ble_eq_true rfl)) dX12_serve_75 ?_
        refine lv_iload_n hx hb dX12_serve_78 rfl (lv_at hl 4 rfl) ?_
        obtain ⟨hb79, h⟩ := h
        refine m_ald S hK (ar_67 G) hW (ci_67 (Nat.le_of_ble_eq_true rfl)) hb79 dX12_serve_79 ?_
        refine lv_goto (tgt := 85) hx hb dX12_serve_80 (by decide) ?_
        exact b85 _ _ _ _ _ H locs ls hW hS (lv_sub hl [1, 2, 3, 4, 5, 6] rfl) h
  have b37 : ∀ (M : Mem) (x3 : Int32) (y0 : Int32) (H : Heap) (locs : List Loc) (ls : Array Slot), WPm G M H → va_S (fun q => bs G ≤ q) s.heap H locs → lv_has ls 13 [(0, .ref (ad G 10 0)), (1, .int x1), (2, .int x2), (3, .int x3)] → s_X12_serve_37 x1 x2 P M x3 y0 → W p l e rm_X12_serve s m AV below meth c H locs 0 0 (MQ below (va_Qv P (WS G) (fun q => bs G ≤ q)) AV s 0 0 (fun q => bs G ≤ q)) (F0 m 37 ls [.int y0]) := by
    intro M x3 y0 H locs ls hW hS hl h
    unfold s_X12_serve_37 at h
    refine lv_istore (lv' := [(4, .int y0), (0, .ref (ad G 10 0)), (1, .int x1), (2, .int x2), (3, .int x3)]) hx hb dX12_serve_37 hl (by decide) rfl (fun ls hl => ?_)
    refine lv_aload_n hx hb dX12_serve_39 rfl (lv_at hl 1 rfl) ?_
    refine lv_iload_n hx hb dX12_serve_40 rfl (lv_at hl 2 rfl) ?_
    refine lv_iload_n hx hb dX12_serve_41 rfl (lv_at hl 3 rfl) ?_
    refine m_ci0 (m_rV S hKX hW (m_szH hbs hS) (c_X12_orderOf l ) h lk_X12_275 (m_recv hK hW (ci_10 (Nat.le_of_ble_eq_true rfl)) (rc_10 G) rfl) rfl hl.1 rfl ⟨Nat.le_of_ble_eq_true rfl, Nat.le_of_ble_eq_true rfl⟩ (Nat.le_of_ble_eq_true rfl) ⟨Nat.le_of_ble_eq_true rfl, Nat.le_of_ble_eq_true rfl⟩ dX12_serve_42) hS rfl rfl (fun rr42 Mm42 H locs h hW hS => ?_)
    refine lv_istore (lv' := [(5, .int rr42), (4, .int y0), (0, .ref (ad G 10 0)), (1, .int x1), (2, .int x2), (3, .int x3)]) hx hb dX12_serve_45 hl (by decide) rfl (fun ls hl => ?_)
    refine lv_iload_n hx hb dX12_serve_47 rfl (lv_at hl 5 rfl) ?_
    refine lv_if_ge (tgt := 55) hx hb dX12_serve_48 (by decide) (fun c48 => ?_) (fun c48 => ?_)
    · replace h := h.1 c48
      refine lv_iload hx hb dX12_serve_55 (lv_at hl 0 rfl) ?_
      exact b57 _ _ _ _ _ H locs ls hW hS (lv_sub hl [2, 3, 4, 5, 1, 0] rfl) h
    · replace h := h.2 c48
      refine lv_iconst hx hb dX12_serve_51 ki_0 ?_
      refine lv_goto (tgt := 57) hx hb dX12_serve_52 (by decide) ?_
      exact b57 _ _ _ _ _ H locs ls hW hS (lv_sub hl [2, 3, 4, 5, 1, 0] rfl) h
  unfold s_X12_serve at h
  refine lv_aload_n hx hb dX12_serve_0 rfl (lv_at hl 0 rfl) ?_
  refine lv_aload_n hx hb dX12_serve_1 rfl (lv_at hl 0 rfl) ?_
  refine m_getr S hK fk_X12_19 (gr_10_5 G 0) hW (ci_10 (Nat.le_of_ble_eq_true rfl)) dX12_serve_2 ?_
  refine lv_iload_n hx hb dX12_serve_5 rfl (lv_at hl 1 rfl) ?_
  obtain ⟨hb6, h⟩ := h
  refine m_ald S hK (ar_47 G) hW (ci_47 (Nat.le_of_ble_eq_true rfl)) hb6 dX12_serve_6 ?_
  refine m_ci0 (m_rV S hKX hW (m_szH hbs hS) (c_X12_wonBy l ) h lk_X12_145 (m_recv hK hW (ci_10 (Nat.le_of_ble_eq_true rfl)) (rc_10 G) rfl) rfl hl.1 rfl ⟨Nat.le_of_ble_eq_true rfl, Nat.le_of_ble_eq_true rfl⟩ (Nat.le_of_ble_eq_true rfl) ⟨Nat.le_of_ble_eq_true rfl, Nat.le_of_ble_eq_true rfl⟩ dX12_serve_7) hS rfl rfl (fun rr7 Mm7 H locs h hW hS => ?_)
  refine lv_istore_n (lv' := [(3, .int rr7), (0, .ref (ad G 10 0)), (1, .int x1), (2, .int x2)]) hx hb dX12_serve_10 rfl hl (by decide) rfl (fun ls hl => ?_)
  refine lv_iload_n hx hb dX12_serve_11 rfl (lv_at hl 0 rfl) ?_
  refine lv_if_ge (tgt := 19) hx hb dX12_serve_12 (by decide) (fun c12 => ?_) (fun c12 => ?_)
  · replace h := h.1 c12
    refine lv_aload_n hx hb dX12_serve_19 rfl (lv_at hl 1 rfl) ?_
    refine m_getr S hK fk_X12_7 (gr_10_1 G 0) hW (ci_10 (Nat.le_of_ble_eq_true rfl)) dX12_serve_20 ?_
    refine lv_bipush hx hb dX12_serve_23 kb_80 ?_
    refine lv_iconst hx hb dX12_serve_25 ki_4 ?_
    refine lv_iload_n hx hb dX12_serve_26 rfl (lv_at hl 0 rfl) ?_
    refine lv_imul hx hb dX12_serve_27 ?_
    refine lv_iadd hx hb dX12_serve_28 ?_
    refine lv_aload_n hx hb dX12_serve_29 rfl (lv_at hl 1 rfl) ?_
    refine m_getr S hK fk_X12_19 (gr_10_5 G 0) hW (ci_10 (Nat.le_of_ble_eq_true rfl)) dX12_serve_30 ?_
    refine lv_iload_n hx hb dX12_serve_33 rfl (lv_at hl 2 rfl) ?_
    obtain ⟨hb34, h⟩ := h
    refine m_ald S hK (ar_47 G) hW (ci_47 (Nat.le_of_ble_eq_true rfl)) hb34 dX12_serve_34 ?_
    refine lv_iadd hx hb dX12_serve_35 ?_
    obtain ⟨hb36, h⟩ := h
    refine m_ald S hK (ar_44 G) hW (ci_44 (Nat.le_of_ble_eq_true rfl)) hb36 dX12_serve_36 ?_
    exact b37 _ _ _ H locs ls hW hS (lv_sub hl [1, 2, 3, 0] rfl) h
  · replace h := h.2 c12
    refine lv_iconst hx hb dX12_serve_15 ki_0 ?_
    refine lv_goto (tgt := 37) hx hb dX12_serve_16 (by decide) ?_
    exact b37 _ _ _ H locs ls hW hS (lv_sub hl [1, 2, 3, 0] rfl) h
abbrev rm_X12_pass : Room := { frames := 12, cells := 0, slots := 0, locals := 290 }
set_option maxHeartbeats 4000000 in
set_option maxRecDepth 100000 in
theorem c_X12_pass (l : Launch) {G : Gn} {M : Mem} {P : Mem → Prop} : MQv l yX12_pass cX12_pass 3 none rm_X12_pass [.ref (ad G 10 0)] G M (s_X12_pass M P) P := by
  refine m_enter (by decide +kernel) (Nat.le_of_ble_eq_true rfl) ?_
  intro p e s m below meth c ls H locs S hret hlocks hname hKX hbs hW hS hl h
  obtain ⟨AV, hAV⟩ : ∃ z : Array Value, z = ([.ref (ad G 10 0)] : List Value).toArray := ⟨_, rfl⟩
  rw [← hAV] at S ⊢
  replace S : CallFix p m c cX12_pass 3 s AV lw_G "MilkDeskModel" := S
  have hK := hKX.1
  have hx := S.1
  have hb := S.2.1
  have hml := S.2.2.1
  have hown := S.2.2.2.1
  have hts := S.2.2.2.2
  replace hl : lv_has ls 3 [(0, .ref (ad G 10 0))] := hl
  have w90 : ∀ (n : Nat) (a : Mem × Int32), Lz (fun (K90 : Mem × Int32 → Prop) (a : Mem × Int32) => s_X12_pass_90 P K90 a.1 a.2) n a → ∀ (H : Heap) (locs : List Loc) (ls : Array Slot), WPm G a.1 H → va_S (fun q => bs G ≤ q) s.heap H locs → lv_has ls 3 [(0, .ref (ad G 10 0)), (2, .int a.2)] → W p l e rm_X12_pass s m AV below meth c H locs 0 0 (MQ below (va_Qv P (WS G) (fun q => bs G ≤ q)) AV s 0 0 (fun q => bs G ≤ q)) (F0 m 90 ls []) := by
    refine Lz_walk ?_
    rintro K90 kk90 ⟨M, x2⟩ h H locs ls hW hS hl
    replace h : s_X12_pass_90 P K90 M x2 := h
    replace hW : WPm G M H := hW
    replace hl : lv_has ls 3 [(0, .ref (ad G 10 0)), (2, .int x2)] := hl
    unfold s_X12_pass_90 at h
    refine lv_iload_n hx hb dX12_pass_90 rfl (lv_at hl 1 rfl) ?_
    refine lv_aload_n hx hb dX12_pass_91 rfl (lv_at hl 0 rfl) ?_
    refine m_getr S hK fk_X12_7 (gr_10_1 G 0) hW (ci_10 (Nat.le_of_ble_eq_true rfl)) dX12_pass_92 ?_
    refine lv_iconst hx hb dX12_pass_95 ki_1 ?_
    refine m_aldk S hK (ar_44 G) hW (ci_44 (Nat.le_of_ble_eq_true rfl)) kn_1 (Nat.le_of_ble_eq_true rfl) dX12_pass_96 ?_
    refine lv_icmp_ge (tgt := 124) hx hb dX12_pass_97 (by decide) (fun c97 => ?_) (fun c97 => ?_)
    · replace h := h.1 c97
      refine lv_aload_n hx hb dX12_pass_124 rfl (lv_at hl 0 rfl) ?_
      refine m_getr S hK fk_X12_7 (gr_10_1 G 0) hW (ci_10 (Nat.le_of_ble_eq_true rfl)) dX12_pass_125 ?_
      refine lv_iconst hx hb dX12_pass_128 ki_3 ?_
      refine lv_dup2_11 hx hb dX12_pass_129 rfl rfl ?_
      refine m_aldk S hK (ar_44 G) hW (ci_44 (Nat.le_of_ble_eq_true rfl)) kn_3 (Nat.le_of_ble_eq_true rfl) dX12_pass_130 ?_
      refine lv_iconst hx hb dX12_pass_131 ki_1 ?_
      refine lv_iadd hx hb dX12_pass_132 ?_
      refine m_astk S hK (ar_44 G) hW hS (ci_44 (Nat.le_of_ble_eq_true rfl)) kn_3 (Nat.le_of_ble_eq_true rfl) dX12_pass_133 (fun Mm133 eMm133 H locs hW hS => ?_)
      replace h := h Mm133 eMm133
      exact m_vret S hret hlocks hKX hW hbs hS h dX12_pass_134
    · replace h := h.2 c97
      refine lv_aload_n hx hb dX12_pass_100 rfl (lv_at hl 0 rfl) ?_
      refine m_getr S hK fk_X12_7 (gr_10_1 G 0) hW (ci_10 (Nat.le_of_ble_eq_true rfl)) dX12_pass_101 ?_
      refine lv_bipush hx hb dX12_pass_104 kb_70 ?_
      refine lv_iload_n hx hb dX12_pass_106 rfl (lv_at hl 1 rfl) ?_
      refine lv_iadd hx hb dX12_pass_107 ?_
      refine lv_dup2_11 hx hb dX12_pass_108 rfl rfl ?_
      obtain ⟨hb109, h⟩ := h
      refine m_ald S hK (ar_44 G) hW (ci_44 (Nat.le_of_ble_eq_true rfl)) hb109 dX12_pass_109 ?_
      refine lv_aload_n hx hb dX12_pass_110 rfl (lv_at hl 0 rfl) ?_
      refine m_getr S hK fk_X12_90 (gr_10_39 G 0) hW (ci_10 (Nat.le_of_ble_eq_true rfl)) dX12_pass_111 ?_
      refine lv_iload_n hx hb dX12_pass_114 rfl (lv_at hl 1 rfl) ?_
      obtain ⟨hb115, h⟩ := h
      refine m_ald S hK (ar_68 G) hW (ci_68 (Nat.le_of_ble_eq_true rfl)) hb115 dX12_pass_115 ?_
      refine lv_iadd hx hb dX12_pass_116 ?_
      obtain ⟨hb117, h⟩ := h
      refine m_ast S hK (ar_44 G) hW hS (ci_44 (Nat.le_of_ble_eq_true rfl)) hb117 dX12_pass_117 (fun Mm117 eMm117 H locs hW hS => ?_)
      replace h := h Mm117 eMm117
      obtain ⟨x2_118, ex2_118⟩ : ∃ z : Int32, z = x2 + (1 : Int32) := ⟨_, rfl⟩
      replace h := h x2_118 ex2_118
      refine lv_iinc (v := x2_118) (lv' := [(2, .int x2_118), (0, .ref (ad G 10 0))]) hx hb dX12_pass_118 hl (k := 1) rfl (by rw [ex2_118, ki_1]) (by decide) rfl (fun ls hl => ?_)
      refine lv_goto (tgt := 90) hx hb dX12_pass_121 (by decide) ?_
      exact kk90 _ h H locs ls hW hS (lv_sub hl [1, 0] rfl)
  have b88 : ∀ (M : Mem) (H : Heap) (locs : List Loc) (ls : Array Slot), WPm G M H → va_S (fun q => bs G ≤ q) s.heap H locs → lv_has ls 3 [(0, .ref (ad G 10 0))] → s_X12_pass_88 P M  → W p l e rm_X12_pass s m AV below meth c H locs 0 0 (MQ below (va_Qv P (WS G) (fun q => bs G ≤ q)) AV s 0 0 (fun q => bs G ≤ q)) (F0 m 88 ls []) := by
    intro M H locs ls hW hS hl h
    unfold s_X12_pass_88 at h
    refine lv_iconst hx hb dX12_pass_88 ki_0 ?_
    refine lv_istore_n (lv' := [(2, .int (0 : Int32)), (0, .ref (ad G 10 0))]) hx hb dX12_pass_89 rfl hl (by decide) rfl (fun ls hl => ?_)
    obtain ⟨n90, h⟩ := h
    exact w90 n90 _ h H locs ls hW hS (lv_sub hl [1, 0] rfl)
  have w58 : ∀ (x1 : Int32), ∀ (n : Nat) (a : Mem × Int32), Lz (fun (K58 : Mem × Int32 → Prop) (a : Mem × Int32) => s_X12_pass_58 x1 P K58 a.1 a.2) n a → ∀ (H : Heap) (locs : List Loc) (ls : Array Slot), WPm G a.1 H → va_S (fun q => bs G ≤ q) s.heap H locs → lv_has ls 3 [(0, .ref (ad G 10 0)), (1, .int x1), (2, .int a.2)] → W p l e rm_X12_pass s m AV below meth c H locs 0 0 (MQ below (va_Qv P (WS G) (fun q => bs G ≤ q)) AV s 0 0 (fun q => bs G ≤ q)) (F0 m 58 ls []) := by
    intro x1
    refine Lz_walk ?_
    rintro K58 kk58 ⟨M, x2⟩ h H locs ls hW hS hl
    replace h : s_X12_pass_58 x1 P K58 M x2 := h
    replace hW : WPm G M H := hW
    replace hl : lv_has ls 3 [(0, .ref (ad G 10 0)), (1, .int x1), (2, .int x2)] := hl
    unfold s_X12_pass_58 at h
    refine lv_iload_n hx hb dX12_pass_58 rfl (lv_at hl 2 rfl) ?_
    refine lv_aload_n hx hb dX12_pass_59 rfl (lv_at hl 0 rfl) ?_
    refine m_getr S hK fk_X12_7 (gr_10_1 G 0) hW (ci_10 (Nat.le_of_ble_eq_true rfl)) dX12_pass_60 ?_
    refine lv_iconst hx hb dX12_pass_63 ki_0 ?_
    refine m_aldk S hK (ar_44 G) hW (ci_44 (Nat.le_of_ble_eq_true rfl)) kn_0 (Nat.le_of_ble_eq_true rfl) dX12_pass_64 ?_
    refine lv_icmp_ge (tgt := 88) hx hb dX12_pass_65 (by decide) (fun c65 => ?_) (fun c65 => ?_)
    · replace h := h.1 c65
      exact b88 _ H locs ls hW hS (lv_sub hl [0] rfl) h
    · replace h := h.2 c65
      refine lv_iload_n hx hb dX12_pass_68 rfl (lv_at hl 1 rfl) ?_
      refine lv_bipush hx hb dX12_pass_69 kb_7 ?_
      refine lv_irem hx hb dX12_pass_71 nz_7 ?_
      refine lv_iconst hx hb dX12_pass_72 ki_5 ?_
      refine lv_icmp_ge (tgt := 88) hx hb dX12_pass_73 (by decide) (fun c73 => ?_) (fun c73 => ?_)
      · replace h := h.1 c73
        exact b88 _ H locs ls hW hS (lv_sub hl [0] rfl) h
      · replace h := h.2 c73
        refine lv_aload_n hx hb dX12_pass_76 rfl (lv_at hl 0 rfl) ?_
        refine lv_iload_n hx hb dX12_pass_77 rfl (lv_at hl 2 rfl) ?_
        refine lv_iload_n hx hb dX12_pass_78 rfl (lv_at hl 1 rfl) ?_
        refine m_cv0 (m_rV S hKX hW (m_szH hbs hS) (c_X12_serve l ) h lk_X12_288 (m_recv hK hW (ci_10 (Nat.le_of_ble_eq_true rfl)) (rc_10 G) rfl) rfl hl.1 rfl ⟨Nat.le_of_ble_eq_true rfl, Nat.le_of_ble_eq_true rfl⟩ (Nat.le_of_ble_eq_true rfl) ⟨Nat.le_of_ble_eq_true rfl, Nat.le_of_ble_eq_true rfl⟩ dX12_pass_79) hS rfl rfl (fun Mm79 H locs h hW hS => ?_)
        obtain ⟨x2_82, ex2_82⟩ : ∃ z : Int32, z = x2 + (1 : Int32) := ⟨_, rfl⟩
        replace h := h x2_82 ex2_82
        refine lv_iinc (v := x2_82) (lv' := [(2, .int x2_82), (0, .ref (ad G 10 0)), (1, .int x1)]) hx hb dX12_pass_82 hl (k := 2) rfl (by rw [ex2_82, ki_1]) (by decide) rfl (fun ls hl => ?_)
        refine lv_goto (tgt := 58) hx hb dX12_pass_85 (by decide) ?_
        exact kk58 _ h H locs ls hW hS (lv_sub hl [1, 2, 0] rfl)
  have w9 : ∀ (x1 : Int32), ∀ (n : Nat) (a : Mem × Int32), Lz (fun (K9 : Mem × Int32 → Prop) (a : Mem × Int32) => s_X12_pass_9 x1 P K9 a.1 a.2) n a → ∀ (H : Heap) (locs : List Loc) (ls : Array Slot), WPm G a.1 H → va_S (fun q => bs G ≤ q) s.heap H locs → lv_has ls 3 [(0, .ref (ad G 10 0)), (1, .int x1), (2, .int a.2)] → W p l e rm_X12_pass s m AV below meth c H locs 0 0 (MQ below (va_Qv P (WS G) (fun q => bs G ≤ q)) AV s 0 0 (fun q => bs G ≤ q)) (F0 m 9 ls []) := by
    intro x1
    refine Lz_walk ?_
    rintro K9 kk9 ⟨M, x2⟩ h H locs ls hW hS hl
    replace h : s_X12_pass_9 x1 P K9 M x2 := h
    replace hW : WPm G M H := hW
    replace hl : lv_has ls 3 [(0, .ref (ad G 10 0)), (1, .int x1), (2, .int x2)] := hl
    unfold s_X12_pass_9 at h
    refine lv_iload_n hx hb dX12_pass_9 rfl (lv_at hl 2 rfl) ?_
    refine lv_iconst hx hb dX12_pass_10 ki_5 ?_
    refine lv_icmp_ge (tgt := 39) hx hb dX12_pass_11 (by decide) (fun c11 => ?_) (fun c11 => ?_)
    · replace h := h.1 c11
      refine lv_aload_n hx hb dX12_pass_39 rfl (lv_at hl 0 rfl) ?_
      refine lv_aload_n hx hb dX12_pass_40 rfl (lv_at hl 0 rfl) ?_
      refine m_getr S hK fk_X12_7 (gr_10_1 G 0) hW (ci_10 (Nat.le_of_ble_eq_true rfl)) dX12_pass_41 ?_
      refine lv_sipush hx hb dX12_pass_44 ks_140 ?_
      refine lv_iload_n hx hb dX12_pass_47 rfl (lv_at hl 1 rfl) ?_
      refine m_ci0 (m_rS S hKX hW (m_szH hbs hS) (c_X12_monthOf l ) h lk_X12_189 rfl hl.1 rfl ⟨Nat.le_of_ble_eq_true rfl, Nat.le_of_ble_eq_true rfl⟩ (Nat.le_of_ble_eq_true rfl) ⟨Nat.le_of_ble_eq_true rfl, Nat.le_of_ble_eq_true rfl⟩ dX12_pass_48) hS rfl rfl (fun rr48 Mm48 H locs h hW hS => ?_)
      refine lv_iadd hx hb dX12_pass_51 ?_
      obtain ⟨hb52, h⟩ := h
      refine m_ald S hK (ar_44 G) hW (ci_44 (Nat.le_of_ble_eq_true rfl)) hb52 dX12_pass_52 ?_
      refine m_put S hK fk_X12_278 tyX12_ok nmX12 rfl pf_X12_40 (pv_10_40 G) hW hS (ci_10 (Nat.le_of_ble_eq_true rfl)) rfl rfl dX12_pass_53 (fun Mm53 eMm53 H locs hW hS => ?_)
      replace h := h Mm53 eMm53
      refine lv_iconst hx hb dX12_pass_56 ki_0 ?_
      refine lv_istore_n (lv' := [(2, .int (0 : Int32)), (0, .ref (ad G 10 0)), (1, .int x1)]) hx hb dX12_pass_57 rfl hl (by decide) rfl (fun ls hl => ?_)
      obtain ⟨n58, h⟩ := h
      exact w58 _ n58 _ h H locs ls hW hS (lv_sub hl [1, 2, 0] rfl)
    · replace h := h.2 c11
      refine lv_aload_n hx hb dX12_pass_14 rfl (lv_at hl 0 rfl) ?_
      refine m_getr S hK fk_X12_87 (gr_10_38 G 0) hW (ci_10 (Nat.le_of_ble_eq_true rfl)) dX12_pass_15 ?_
      refine lv_iload_n hx hb dX12_pass_18 rfl (lv_at hl 2 rfl) ?_
      refine lv_aload_n hx hb dX12_pass_19 rfl (lv_at hl 0 rfl) ?_
      refine m_getr S hK fk_X12_34 (gr_10_10 G 0) hW (ci_10 (Nat.le_of_ble_eq_true rfl)) dX12_pass_20 ?_
      refine lv_iload_n hx hb dX12_pass_23 rfl (lv_at hl 2 rfl) ?_
      obtain ⟨hb24, h⟩ := h
      refine m_ald S hK (ar_52 G) hW (ci_52 (Nat.le_of_ble_eq_true rfl)) hb24 dX12_pass_24 ?_
      obtain ⟨hb25, h⟩ := h
      refine m_ast S hK (ar_67 G) hW hS (ci_67 (Nat.le_of_ble_eq_true rfl)) hb25 dX12_pass_25 (fun Mm25 eMm25 H locs hW hS => ?_)
      replace h := h Mm25 eMm25
      refine lv_aload_n hx hb dX12_pass_26 rfl (lv_at hl 0 rfl) ?_
      refine m_getr S hK fk_X12_90 (gr_10_39 G 0) hW (ci_10 (Nat.le_of_ble_eq_true rfl)) dX12_pass_27 ?_
      refine lv_iload_n hx hb dX12_pass_30 rfl (lv_at hl 2 rfl) ?_
      refine lv_iconst hx hb dX12_pass_31 ki_0 ?_
      obtain ⟨hb32, h⟩ := h
      refine m_ast S hK (ar_68 G) hW hS (ci_68 (Nat.le_of_ble_eq_true rfl)) hb32 dX12_pass_32 (fun Mm32 eMm32 H locs hW hS => ?_)
      replace h := h Mm32 eMm32
      obtain ⟨x2_33, ex2_33⟩ : ∃ z : Int32, z = x2 + (1 : Int32) := ⟨_, rfl⟩
      replace h := h x2_33 ex2_33
      refine lv_iinc (v := x2_33) (lv' := [(2, .int x2_33), (0, .ref (ad G 10 0)), (1, .int x1)]) hx hb dX12_pass_33 hl (k := 2) rfl (by rw [ex2_33, ki_1]) (by decide) rfl (fun ls hl => ?_)
      refine lv_goto (tgt := 9) hx hb dX12_pass_36 (by decide) ?_
      exact kk9 _ h H locs ls hW hS (lv_sub hl [1, 2, 0] rfl)
  unfold s_X12_pass at h
  refine lv_aload_n hx hb dX12_pass_0 rfl (lv_at hl 0 rfl) ?_
  refine m_getr S hK fk_X12_7 (gr_10_1 G 0) hW (ci_10 (Nat.le_of_ble_eq_true rfl)) dX12_pass_1 ?_
  refine lv_iconst hx hb dX12_pass_4 ki_3 ?_
  refine m_aldk S hK (ar_44 G) hW (ci_44 (Nat.le_of_ble_eq_true rfl)) kn_3 (Nat.le_of_ble_eq_true rfl) dX12_pass_5 ?_
  refine lv_topi (fun x1_6 ex1_6 => ?_)
  replace h := h x1_6 ex1_6
  refine lv_istore_n (lv' := [(1, .int x1_6), (0, .ref (ad G 10 0))]) hx hb dX12_pass_6 rfl hl (by decide) rfl (fun ls hl => ?_)
  refine lv_iconst hx hb dX12_pass_7 ki_0 ?_
  refine lv_istore_n (lv' := [(2, .int (0 : Int32)), (1, .int x1_6), (0, .ref (ad G 10 0))]) hx hb dX12_pass_8 rfl hl (by decide) rfl (fun ls hl => ?_)
  obtain ⟨n9, h⟩ := h
  exact w9 _ n9 _ h H locs ls hW hS (lv_sub hl [2, 1, 0] rfl)
abbrev rm_X12_wrongDays : Room := { frames := 1, cells := 0, slots := 0, locals := 22 }
set_option maxHeartbeats 4000000 in
set_option maxRecDepth 100000 in
theorem c_X12_wrongDays (l : Launch) {G : Gn} {M : Mem} {x1 : Int32} {x2 : Int32} {P : Int32 → Mem → Prop} : MQi l yX12_wrongDays cX12_wrongDays 3 (some .int) rm_X12_wrongDays [.ref (ad G 10 0), .int x1, .int x2] G M (s_X12_wrongDays M x1 x2 P) P := by
  refine m_enter (by decide +kernel) (Nat.le_of_ble_eq_true rfl) ?_
  intro p e s m below meth c ls H locs S hret hlocks hname hKX hbs hW hS hl h
  obtain ⟨AV, hAV⟩ : ∃ z : Array Value, z = ([.ref (ad G 10 0), .int x1, .int x2] : List Value).toArray := ⟨_, rfl⟩
  rw [← hAV] at S ⊢
  replace S : CallFix p m c cX12_wrongDays 3 s AV lw_G "MilkDeskModel" := S
  have hK := hKX.1
  have hx := S.1
  have hb := S.2.1
  have hml := S.2.2.1
  have hown := S.2.2.2.1
  have hts := S.2.2.2.2
  replace hl : lv_has ls 3 [(0, .ref (ad G 10 0)), (1, .int x1), (2, .int x2)] := hl
  unfold s_X12_wrongDays at h
  refine lv_iload_n hx hb dX12_wrongDays_0 rfl (lv_at hl 1 rfl) ?_
  refine lv_iconst hx hb dX12_wrongDays_1 ki_1 ?_
  refine lv_iload_n hx hb dX12_wrongDays_2 rfl (lv_at hl 2 rfl) ?_
  refine m_ci0 (m_rS S hKX hW (m_szH hbs hS) (c_X12_in l ) h lk_X12_131 rfl hl.1 rfl ⟨Nat.le_of_ble_eq_true rfl, Nat.le_of_ble_eq_true rfl⟩ (Nat.le_of_ble_eq_true rfl) ⟨Nat.le_of_ble_eq_true rfl, Nat.le_of_ble_eq_true rfl⟩ dX12_wrongDays_3) hS rfl rfl (fun rr3 Mm3 H locs h hW hS => ?_)
  refine lv_if_ne (tgt := 13) hx hb dX12_wrongDays_6 (by decide) (fun c6 => ?_) (fun c6 => ?_)
  · replace h := h.1 c6
    refine lv_aload_n hx hb dX12_wrongDays_13 rfl (lv_at hl 0 rfl) ?_
    refine m_getr S hK fk_X12_7 (gr_10_1 G 0) hW (ci_10 (Nat.le_of_ble_eq_true rfl)) dX12_wrongDays_14 ?_
    refine lv_iconst hx hb dX12_wrongDays_17 ki_3 ?_
    refine m_aldk S hK (ar_44 G) hW (ci_44 (Nat.le_of_ble_eq_true rfl)) kn_3 (Nat.le_of_ble_eq_true rfl) dX12_wrongDays_18 ?_
    refine lv_iload_n hx hb dX12_wrongDays_19 rfl (lv_at hl 1 rfl) ?_
    refine lv_iadd hx hb dX12_wrongDays_20 ?_
    refine lv_sipush hx hb dX12_wrongDays_21 ks_400 ?_
    refine lv_icmp_le (tgt := 32) hx hb dX12_wrongDays_24 (by decide) (fun c24 => ?_) (fun c24 => ?_)
    · replace h := h.1 c24
      refine lv_iconst hx hb dX12_wrongDays_32 ki_0 ?_
      exact m_iret S hret hlocks hKX hW hbs hS rfl h dX12_wrongDays_33
    · replace h := h.2 c24
      refine lv_bipush hx hb dX12_wrongDays_27 kb_m2 ?_
      refine lv_goto (tgt := 33) hx hb dX12_wrongDays_29 (by decide) ?_
      exact m_iret S hret hlocks hKX hW hbs hS rfl h dX12_wrongDays_33
  · replace h := h.2 c6
    refine lv_iconst hx hb dX12_wrongDays_9 ki_m1 ?_
    refine lv_goto (tgt := 33) hx hb dX12_wrongDays_10 (by decide) ?_
    exact m_iret S hret hlocks hKX hW hbs hS rfl h dX12_wrongDays_33
abbrev rm_X12_go : Room := { frames := 13, cells := 0, slots := 0, locals := 312 }
set_option maxHeartbeats 4000000 in
set_option maxRecDepth 100000 in
theorem c_X12_go (l : Launch) {G : Gn} {M : Mem} {x1 : Int32} {P : Int32 → Mem → Prop} : MQi l yX12_go cX12_go 4 (some .int) rm_X12_go [.ref (ad G 10 0), .int x1] G M (s_X12_go M x1 P) P := by
  refine m_enter (by decide +kernel) (Nat.le_of_ble_eq_true rfl) ?_
  intro p e s m below meth c ls H locs S hret hlocks hname hKX hbs hW hS hl h
  obtain ⟨AV, hAV⟩ : ∃ z : Array Value, z = ([.ref (ad G 10 0), .int x1] : List Value).toArray := ⟨_, rfl⟩
  rw [← hAV] at S ⊢
  replace S : CallFix p m c cX12_go 4 s AV lw_G "MilkDeskModel" := S
  have hK := hKX.1
  have hx := S.1
  have hb := S.2.1
  have hml := S.2.2.1
  have hown := S.2.2.2.1
  have hts := S.2.2.2.2
  replace hl : lv_has ls 4 [(0, .ref (ad G 10 0)), (1, .int x1)] := hl
  have b34 : ∀ (M : Mem) (x2 : Int32) (H : Heap) (locs : List Loc) (ls : Array Slot), WPm G M H → va_S (fun q => bs G ≤ q) s.heap H locs → lv_has ls 4 [(0, .ref (ad G 10 0)), (2, .int x2)] → s_X12_go_34 P M x2 → W p l e rm_X12_go s m AV below meth c H locs 0 0 (MQ below (va_Qi P (WS G) (fun q => bs G ≤ q)) AV s 0 0 (fun q => bs G ≤ q)) (F0 m 34 ls []) := by
    intro M x2 H locs ls hW hS hl h
    unfold s_X12_go_34 at h
    refine lv_iload_n hx hb dX12_go_34 rfl (lv_at hl 1 rfl) ?_
    refine lv_if_ge (tgt := 42) hx hb dX12_go_35 (by decide) (fun c35 => ?_) (fun c35 => ?_)
    · replace h := h.1 c35
      refine lv_aload_n hx hb dX12_go_42 rfl (lv_at hl 0 rfl) ?_
      refine m_getr S hK fk_X12_7 (gr_10_1 G 0) hW (ci_10 (Nat.le_of_ble_eq_true rfl)) dX12_go_43 ?_
      refine lv_iconst hx hb dX12_go_46 ki_3 ?_
      refine m_aldk S hK (ar_44 G) hW (ci_44 (Nat.le_of_ble_eq_true rfl)) kn_3 (Nat.le_of_ble_eq_true rfl) dX12_go_47 ?_
      exact m_iret S hret hlocks hKX hW hbs hS rfl h dX12_go_48
    · replace h := h.2 c35
      refine lv_iload_n hx hb dX12_go_38 rfl (lv_at hl 1 rfl) ?_
      refine lv_goto (tgt := 48) hx hb dX12_go_39 (by decide) ?_
      exact m_iret S hret hlocks hKX hW hbs hS rfl h dX12_go_48
  have w15 : ∀ (x2 : Int32), ∀ (n : Nat) (a : Mem × Int32), Lz (fun (K15 : Mem × Int32 → Prop) (a : Mem × Int32) => s_X12_go_15 x1 x2 P K15 a.1 a.2) n a → ∀ (H : Heap) (locs : List Loc) (ls : Array Slot), WPm G a.1 H → va_S (fun q => bs G ≤ q) s.heap H locs → lv_has ls 4 [(0, .ref (ad G 10 0)), (1, .int x1), (2, .int x2), (3, .int a.2)] → W p l e rm_X12_go s m AV below meth c H locs 0 0 (MQ below (va_Qi P (WS G) (fun q => bs G ≤ q)) AV s 0 0 (fun q => bs G ≤ q)) (F0 m 15 ls []) := by
    intro x2
    refine Lz_walk ?_
    rintro K15 kk15 ⟨M, x3⟩ h H locs ls hW hS hl
    replace h : s_X12_go_15 x1 x2 P K15 M x3 := h
    replace hW : WPm G M H := hW
    replace hl : lv_has ls 4 [(0, .ref (ad G 10 0)), (1, .int x1), (2, .int x2), (3, .int x3)] := hl
    unfold s_X12_go_15 at h
    refine lv_iload_n hx hb dX12_go_15 rfl (lv_at hl 3 rfl) ?_
    refine lv_iload_n hx hb dX12_go_16 rfl (lv_at hl 1 rfl) ?_
    refine lv_icmp_ge (tgt := 34) hx hb dX12_go_17 (by decide) (fun c17 => ?_) (fun c17 => ?_)
    · replace h := h.1 c17
      exact b34 _ _ H locs ls hW hS (lv_sub hl [0, 2] rfl) h
    · replace h := h.2 c17
      refine lv_iload_n hx hb dX12_go_20 rfl (lv_at hl 2 rfl) ?_
      refine lv_if_ne (tgt := 34) hx hb dX12_go_21 (by decide) (fun c21 => ?_) (fun c21 => ?_)
      · replace h := h.1 c21
        exact b34 _ _ H locs ls hW hS (lv_sub hl [0, 2] rfl) h
      · replace h := h.2 c21
        refine lv_aload_n hx hb dX12_go_24 rfl (lv_at hl 0 rfl) ?_
        refine m_cv0 (m_rV S hKX hW (m_szH hbs hS) (c_X12_pass l ) h lk_X12_295 (m_recv hK hW (ci_10 (Nat.le_of_ble_eq_true rfl)) (rc_10 G) rfl) rfl hl.1 rfl ⟨Nat.le_of_ble_eq_true rfl, Nat.le_of_ble_eq_true rfl⟩ (Nat.le_of_ble_eq_true rfl) ⟨Nat.le_of_ble_eq_true rfl, Nat.le_of_ble_eq_true rfl⟩ dX12_go_25) hS rfl rfl (fun Mm25 H locs h hW hS => ?_)
        obtain ⟨x3_28, ex3_28⟩ : ∃ z : Int32, z = x3 + (1 : Int32) := ⟨_, rfl⟩
        replace h := h x3_28 ex3_28
        refine lv_iinc (v := x3_28) (lv' := [(3, .int x3_28), (0, .ref (ad G 10 0)), (1, .int x1), (2, .int x2)]) hx hb dX12_go_28 hl (k := 3) rfl (by rw [ex3_28, ki_1]) (by decide) rfl (fun ls hl => ?_)
        refine lv_goto (tgt := 15) hx hb dX12_go_31 (by decide) ?_
        exact kk15 _ h H locs ls hW hS (lv_sub hl [1, 2, 3, 0] rfl)
  unfold s_X12_go at h
  refine lv_aload_n hx hb dX12_go_0 rfl (lv_at hl 0 rfl) ?_
  refine lv_iconst hx hb dX12_go_1 ki_0 ?_
  refine m_put S hK fk_X12_128 tyX12_ok nmX12 rfl pf_X12_0 (pv_10_0 G) hW hS (ci_10 (Nat.le_of_ble_eq_true rfl)) rfl rfl dX12_go_2 (fun Mm2 eMm2 H locs hW hS => ?_)
  replace h := h Mm2 eMm2
  refine lv_aload_n hx hb dX12_go_5 rfl (lv_at hl 0 rfl) ?_
  refine lv_iload_n hx hb dX12_go_6 rfl (lv_at hl 1 rfl) ?_
  refine lv_bipush hx hb dX12_go_7 kb_60 ?_
  refine m_ci0 (m_rV S hKX hW (m_szH hbs hS) (c_X12_wrongDays l ) h lk_X12_292 (m_recv hK hW (ci_10 (Nat.le_of_ble_eq_true rfl)) (rc_10 G) rfl) rfl hl.1 rfl ⟨Nat.le_of_ble_eq_true rfl, Nat.le_of_ble_eq_true rfl⟩ (Nat.le_of_ble_eq_true rfl) ⟨Nat.le_of_ble_eq_true rfl, Nat.le_of_ble_eq_true rfl⟩ dX12_go_9) hS rfl rfl (fun rr9 Mm9 H locs h hW hS => ?_)
  refine lv_istore_n (lv' := [(2, .int rr9), (0, .ref (ad G 10 0)), (1, .int x1)]) hx hb dX12_go_12 rfl hl (by decide) rfl (fun ls hl => ?_)
  refine lv_iconst hx hb dX12_go_13 ki_0 ?_
  refine lv_istore_n (lv' := [(3, .int (0 : Int32)), (2, .int rr9), (0, .ref (ad G 10 0)), (1, .int x1)]) hx hb dX12_go_14 rfl hl (by decide) rfl (fun ls hl => ?_)
  obtain ⟨n15, h⟩ := h
  exact w15 _ n15 _ h H locs ls hW hS (lv_sub hl [2, 3, 1, 0] rfl)
abbrev rm_X12_of : Room := { frames := 2, cells := 0, slots := 0, locals := 43 }
set_option maxHeartbeats 4000000 in
set_option maxRecDepth 100000 in
theorem c_X12_of (l : Launch) {G : Gn} {M : Mem} {x1 : Int32} {x2 : Int32} {P : Int32 → Mem → Prop} : MQi l yX12_of cX12_of 3 (some .int) rm_X12_of [.ref (ad G 10 0), .int x1, .int x2] G M (s_X12_of M x1 x2 P) P := by
  refine m_enter (by decide +kernel) (Nat.le_of_ble_eq_true rfl) ?_
  intro p e s m below meth c ls H locs S hret hlocks hname hKX hbs hW hS hl h
  obtain ⟨AV, hAV⟩ : ∃ z : Array Value, z = ([.ref (ad G 10 0), .int x1, .int x2] : List Value).toArray := ⟨_, rfl⟩
  rw [← hAV] at S ⊢
  replace S : CallFix p m c cX12_of 3 s AV lw_G "MilkDeskModel" := S
  have hK := hKX.1
  have hx := S.1
  have hb := S.2.1
  have hml := S.2.2.1
  have hown := S.2.2.2.1
  have hts := S.2.2.2.2
  replace hl : lv_has ls 3 [(0, .ref (ad G 10 0)), (1, .int x1), (2, .int x2)] := hl
  unfold s_X12_of at h
  refine lv_aload_n hx hb dX12_of_0 rfl (lv_at hl 0 rfl) ?_
  refine lv_iconst hx hb dX12_of_1 ki_0 ?_
  refine m_put S hK fk_X12_128 tyX12_ok nmX12 rfl pf_X12_0 (pv_10_0 G) hW hS (ci_10 (Nat.le_of_ble_eq_true rfl)) rfl rfl dX12_of_2 (fun Mm2 eMm2 H locs hW hS => ?_)
  replace h := h Mm2 eMm2
  refine lv_aload_n hx hb dX12_of_5 rfl (lv_at hl 0 rfl) ?_
  refine lv_iload_n hx hb dX12_of_6 rfl (lv_at hl 1 rfl) ?_
  refine m_ci0 (m_rV S hKX hW (m_szH hbs hS) (c_X12_isSchool l ) h lk_X12_139 (m_recv hK hW (ci_10 (Nat.le_of_ble_eq_true rfl)) (rc_10 G) rfl) rfl hl.1 rfl ⟨Nat.le_of_ble_eq_true rfl, Nat.le_of_ble_eq_true rfl⟩ (Nat.le_of_ble_eq_true rfl) ⟨Nat.le_of_ble_eq_true rfl, Nat.le_of_ble_eq_true rfl⟩ dX12_of_7) hS rfl rfl (fun rr7 Mm7 H locs h hW hS => ?_)
  refine lv_if_eq (tgt := 41) hx hb dX12_of_10 (by decide) (fun c10 => ?_) (fun c10 => ?_)
  · replace h := h.1 c10
    refine lv_iconst hx hb dX12_of_41 ki_m1 ?_
    exact m_iret S hret hlocks hKX hW hbs hS rfl h dX12_of_42
  · replace h := h.2 c10
    refine lv_iload_n hx hb dX12_of_13 rfl (lv_at hl 2 rfl) ?_
    refine lv_iconst hx hb dX12_of_14 ki_0 ?_
    refine lv_bipush hx hb dX12_of_15 kb_10 ?_
    refine m_ci0 (m_rS S hKX hW (m_szH hbs hS) (c_X12_in l ) h lk_X12_131 rfl hl.1 rfl ⟨Nat.le_of_ble_eq_true rfl, Nat.le_of_ble_eq_true rfl⟩ (Nat.le_of_ble_eq_true rfl) ⟨Nat.le_of_ble_eq_true rfl, Nat.le_of_ble_eq_true rfl⟩ dX12_of_17) hS rfl rfl (fun rr17 Mm17 H locs h hW hS => ?_)
    refine lv_if_eq (tgt := 41) hx hb dX12_of_20 (by decide) (fun c20 => ?_) (fun c20 => ?_)
    · replace h := h.1 c20
      refine lv_iconst hx hb dX12_of_41 ki_m1 ?_
      exact m_iret S hret hlocks hKX hW hbs hS rfl h dX12_of_42
    · replace h := h.2 c20
      refine lv_aload_n hx hb dX12_of_23 rfl (lv_at hl 0 rfl) ?_
      refine m_getr S hK fk_X12_7 (gr_10_1 G 0) hW (ci_10 (Nat.le_of_ble_eq_true rfl)) dX12_of_24 ?_
      refine lv_sipush hx hb dX12_of_27 ks_180 ?_
      refine lv_bipush hx hb dX12_of_30 kb_11 ?_
      refine lv_iload_n hx hb dX12_of_32 rfl (lv_at hl 1 rfl) ?_
      refine lv_imul hx hb dX12_of_33 ?_
      refine lv_iadd hx hb dX12_of_34 ?_
      refine lv_iload_n hx hb dX12_of_35 rfl (lv_at hl 2 rfl) ?_
      refine lv_iadd hx hb dX12_of_36 ?_
      obtain ⟨hb37, h⟩ := h
      refine m_ald S hK (ar_44 G) hW (ci_44 (Nat.le_of_ble_eq_true rfl)) hb37 dX12_of_37 ?_
      refine lv_goto (tgt := 42) hx hb dX12_of_38 (by decide) ?_
      exact m_iret S hret hlocks hKX hW hbs hS rfl h dX12_of_42
abbrev rm_X12_order : Room := { frames := 11, cells := 0, slots := 0, locals := 258 }
set_option maxHeartbeats 4000000 in
set_option maxRecDepth 100000 in
theorem c_X12_order (l : Launch) {G : Gn} {M : Mem} {x1 : Int32} {P : Int32 → Mem → Prop} : MQi l yX12_order cX12_order 2 (some .int) rm_X12_order [.ref (ad G 10 0), .int x1] G M (s_X12_order M x1 P) P := by
  refine m_enter (by decide +kernel) (Nat.le_of_ble_eq_true rfl) ?_
  intro p e s m below meth c ls H locs S hret hlocks hname hKX hbs hW hS hl h
  obtain ⟨AV, hAV⟩ : ∃ z : Array Value, z = ([.ref (ad G 10 0), .int x1] : List Value).toArray := ⟨_, rfl⟩
  rw [← hAV] at S ⊢
  replace S : CallFix p m c cX12_order 2 s AV lw_G "MilkDeskModel" := S
  have hK := hKX.1
  have hx := S.1
  have hb := S.2.1
  have hml := S.2.2.1
  have hown := S.2.2.2.1
  have hts := S.2.2.2.2
  replace hl : lv_has ls 2 [(0, .ref (ad G 10 0)), (1, .int x1)] := hl
  unfold s_X12_order at h
  refine lv_aload_n hx hb dX12_order_0 rfl (lv_at hl 0 rfl) ?_
  refine lv_iconst hx hb dX12_order_1 ki_0 ?_
  refine m_put S hK fk_X12_128 tyX12_ok nmX12 rfl pf_X12_0 (pv_10_0 G) hW hS (ci_10 (Nat.le_of_ble_eq_true rfl)) rfl rfl dX12_order_2 (fun Mm2 eMm2 H locs hW hS => ?_)
  replace h := h Mm2 eMm2
  refine lv_aload_n hx hb dX12_order_5 rfl (lv_at hl 0 rfl) ?_
  refine lv_iload_n hx hb dX12_order_6 rfl (lv_at hl 1 rfl) ?_
  refine m_ci0 (m_rV S hKX hW (m_szH hbs hS) (c_X12_isSchool l ) h lk_X12_139 (m_recv hK hW (ci_10 (Nat.le_of_ble_eq_true rfl)) (rc_10 G) rfl) rfl hl.1 rfl ⟨Nat.le_of_ble_eq_true rfl, Nat.le_of_ble_eq_true rfl⟩ (Nat.le_of_ble_eq_true rfl) ⟨Nat.le_of_ble_eq_true rfl, Nat.le_of_ble_eq_true rfl⟩ dX12_order_7) hS rfl rfl (fun rr7 Mm7 H locs h hW hS => ?_)
  refine lv_if_eq (tgt := 27) hx hb dX12_order_10 (by decide) (fun c10 => ?_) (fun c10 => ?_)
  · replace h := h.1 c10
    refine lv_iconst hx hb dX12_order_27 ki_m1 ?_
    exact m_iret S hret hlocks hKX hW hbs hS rfl h dX12_order_28
  · replace h := h.2 c10
    refine lv_aload_n hx hb dX12_order_13 rfl (lv_at hl 0 rfl) ?_
    refine lv_iload_n hx hb dX12_order_14 rfl (lv_at hl 1 rfl) ?_
    refine lv_aload_n hx hb dX12_order_15 rfl (lv_at hl 0 rfl) ?_
    refine m_getr S hK fk_X12_7 (gr_10_1 G 0) hW (ci_10 (Nat.le_of_ble_eq_true rfl)) dX12_order_16 ?_
    refine lv_iconst hx hb dX12_order_19 ki_3 ?_
    refine m_aldk S hK (ar_44 G) hW (ci_44 (Nat.le_of_ble_eq_true rfl)) kn_3 (Nat.le_of_ble_eq_true rfl) dX12_order_20 ?_
    refine m_ci0 (m_rV S hKX hW (m_szH hbs hS) (c_X12_orderOf l ) h lk_X12_275 (m_recv hK hW (ci_10 (Nat.le_of_ble_eq_true rfl)) (rc_10 G) rfl) rfl hl.1 rfl ⟨Nat.le_of_ble_eq_true rfl, Nat.le_of_ble_eq_true rfl⟩ (Nat.le_of_ble_eq_true rfl) ⟨Nat.le_of_ble_eq_true rfl, Nat.le_of_ble_eq_true rfl⟩ dX12_order_21) hS rfl rfl (fun rr21 Mm21 H locs h hW hS => ?_)
    refine lv_goto (tgt := 28) hx hb dX12_order_24 (by decide) ?_
    exact m_iret S hret hlocks hKX hW hbs hS rfl h dX12_order_28
abbrev rm_X12_look : Room := { frames := 2, cells := 0, slots := 0, locals := 43 }
set_option maxHeartbeats 4000000 in
set_option maxRecDepth 100000 in
theorem c_X12_look (l : Launch) {G : Gn} {M : Mem} {x1 : Int32} {x2 : Int32} {x3 : Int32} {P : Int32 → Mem → Prop} : MQi l yX12_look cX12_look 4 (some .int) rm_X12_look [.ref (ad G 10 0), .int x1, .int x2, .int x3] G M (s_X12_look M x1 x2 x3 P) P := by
  refine m_enter (by decide +kernel) (Nat.le_of_ble_eq_true rfl) ?_
  intro p e s m below meth c ls H locs S hret hlocks hname hKX hbs hW hS hl h
  obtain ⟨AV, hAV⟩ : ∃ z : Array Value, z = ([.ref (ad G 10 0), .int x1, .int x2, .int x3] : List Value).toArray := ⟨_, rfl⟩
  rw [← hAV] at S ⊢
  replace S : CallFix p m c cX12_look 4 s AV lw_G "MilkDeskModel" := S
  have hK := hKX.1
  have hx := S.1
  have hb := S.2.1
  have hml := S.2.2.1
  have hown := S.2.2.2.1
  have hts := S.2.2.2.2
  replace hl : lv_has ls 4 [(0, .ref (ad G 10 0)), (1, .int x1), (2, .int x2), (3, .int x3)] := hl
  unfold s_X12_look at h
  refine lv_aload_n hx hb dX12_look_0 rfl (lv_at hl 0 rfl) ?_
  refine lv_iconst hx hb dX12_look_1 ki_0 ?_
  refine m_put S hK fk_X12_128 tyX12_ok nmX12 rfl pf_X12_0 (pv_10_0 G) hW hS (ci_10 (Nat.le_of_ble_eq_true rfl)) rfl rfl dX12_look_2 (fun Mm2 eMm2 H locs hW hS => ?_)
  replace h := h Mm2 eMm2
  refine lv_aload_n hx hb dX12_look_5 rfl (lv_at hl 0 rfl) ?_
  refine lv_iload_n hx hb dX12_look_6 rfl (lv_at hl 1 rfl) ?_
  refine m_ci0 (m_rV S hKX hW (m_szH hbs hS) (c_X12_isSchool l ) h lk_X12_139 (m_recv hK hW (ci_10 (Nat.le_of_ble_eq_true rfl)) (rc_10 G) rfl) rfl hl.1 rfl ⟨Nat.le_of_ble_eq_true rfl, Nat.le_of_ble_eq_true rfl⟩ (Nat.le_of_ble_eq_true rfl) ⟨Nat.le_of_ble_eq_true rfl, Nat.le_of_ble_eq_true rfl⟩ dX12_look_7) hS rfl rfl (fun rr7 Mm7 H locs h hW hS => ?_)
  refine lv_if_eq (tgt := 40) hx hb dX12_look_10 (by decide) (fun c10 => ?_) (fun c10 => ?_)
  · replace h := h.1 c10
    refine lv_iconst hx hb dX12_look_40 ki_m1 ?_
    exact m_iret S hret hlocks hKX hW hbs hS rfl h dX12_look_41
  · replace h := h.2 c10
    refine lv_iload_n hx hb dX12_look_13 rfl (lv_at hl 2 rfl) ?_
    refine lv_iconst hx hb dX12_look_14 ki_0 ?_
    refine lv_aload_n hx hb dX12_look_15 rfl (lv_at hl 0 rfl) ?_
    refine m_getr S hK fk_X12_7 (gr_10_1 G 0) hW (ci_10 (Nat.le_of_ble_eq_true rfl)) dX12_look_16 ?_
    refine lv_iconst hx hb dX12_look_19 ki_3 ?_
    refine m_aldk S hK (ar_44 G) hW (ci_44 (Nat.le_of_ble_eq_true rfl)) kn_3 (Nat.le_of_ble_eq_true rfl) dX12_look_20 ?_
    refine lv_iconst hx hb dX12_look_21 ki_1 ?_
    refine lv_isub hx hb dX12_look_22 ?_
    refine m_ci0 (m_rS S hKX hW (m_szH hbs hS) (c_X12_in l ) h lk_X12_131 rfl hl.1 rfl ⟨Nat.le_of_ble_eq_true rfl, Nat.le_of_ble_eq_true rfl⟩ (Nat.le_of_ble_eq_true rfl) ⟨Nat.le_of_ble_eq_true rfl, Nat.le_of_ble_eq_true rfl⟩ dX12_look_23) hS rfl rfl (fun rr23 Mm23 H locs h hW hS => ?_)
    refine lv_if_eq (tgt := 40) hx hb dX12_look_26 (by decide) (fun c26 => ?_) (fun c26 => ?_)
    · replace h := h.1 c26
      refine lv_iconst hx hb dX12_look_40 ki_m1 ?_
      exact m_iret S hret hlocks hKX hW hbs hS rfl h dX12_look_41
    · replace h := h.2 c26
      refine lv_iload_n hx hb dX12_look_29 rfl (lv_at hl 3 rfl) ?_
      refine lv_iconst hx hb dX12_look_30 ki_0 ?_
      refine lv_sipush hx hb dX12_look_31 ks_999 ?_
      refine m_ci0 (m_rS S hKX hW (m_szH hbs hS) (c_X12_in l ) h lk_X12_131 rfl hl.1 rfl ⟨Nat.le_of_ble_eq_true rfl, Nat.le_of_ble_eq_true rfl⟩ (Nat.le_of_ble_eq_true rfl) ⟨Nat.le_of_ble_eq_true rfl, Nat.le_of_ble_eq_true rfl⟩ dX12_look_34) hS rfl rfl (fun rr34 Mm34 H locs h hW hS => ?_)
      refine lv_if_ne (tgt := 42) hx hb dX12_look_37 (by decide) (fun c37 => ?_) (fun c37 => ?_)
      · replace h := h.1 c37
        refine lv_aload_n hx hb dX12_look_42 rfl (lv_at hl 0 rfl) ?_
        refine m_getr S hK fk_X12_7 (gr_10_1 G 0) hW (ci_10 (Nat.le_of_ble_eq_true rfl)) dX12_look_43 ?_
        refine lv_iconst hx hb dX12_look_46 ki_4 ?_
        refine m_aldk S hK (ar_44 G) hW (ci_44 (Nat.le_of_ble_eq_true rfl)) kn_4 (Nat.le_of_ble_eq_true rfl) dX12_look_47 ?_
        refine lv_bipush hx hb dX12_look_48 kb_30 ?_
        refine lv_icmp_ne (tgt := 56) hx hb dX12_look_50 (by decide) (fun c50 => ?_) (fun c50 => ?_)
        · replace h := h.1 c50
          refine lv_aload_n hx hb dX12_look_56 rfl (lv_at hl 0 rfl) ?_
          refine m_getr S hK fk_X12_61 (gr_10_19 G 0) hW (ci_10 (Nat.le_of_ble_eq_true rfl)) dX12_look_57 ?_
          refine lv_aload_n hx hb dX12_look_60 rfl (lv_at hl 0 rfl) ?_
          refine m_getr S hK fk_X12_7 (gr_10_1 G 0) hW (ci_10 (Nat.le_of_ble_eq_true rfl)) dX12_look_61 ?_
          refine lv_iconst hx hb dX12_look_64 ki_4 ?_
          refine m_aldk S hK (ar_44 G) hW (ci_44 (Nat.le_of_ble_eq_true rfl)) kn_4 (Nat.le_of_ble_eq_true rfl) dX12_look_65 ?_
          refine lv_iload_n hx hb dX12_look_66 rfl (lv_at hl 1 rfl) ?_
          obtain ⟨hb67, h⟩ := h
          refine m_ast S hK (ar_61 G) hW hS (ci_61 (Nat.le_of_ble_eq_true rfl)) hb67 dX12_look_67 (fun Mm67 eMm67 H locs hW hS => ?_)
          replace h := h Mm67 eMm67
          refine lv_aload_n hx hb dX12_look_68 rfl (lv_at hl 0 rfl) ?_
          refine m_getr S hK fk_X12_64 (gr_10_20 G 0) hW (ci_10 (Nat.le_of_ble_eq_true rfl)) dX12_look_69 ?_
          refine lv_aload_n hx hb dX12_look_72 rfl (lv_at hl 0 rfl) ?_
          refine m_getr S hK fk_X12_7 (gr_10_1 G 0) hW (ci_10 (Nat.le_of_ble_eq_true rfl)) dX12_look_73 ?_
          refine lv_iconst hx hb dX12_look_76 ki_4 ?_
          refine m_aldk S hK (ar_44 G) hW (ci_44 (Nat.le_of_ble_eq_true rfl)) kn_4 (Nat.le_of_ble_eq_true rfl) dX12_look_77 ?_
          refine lv_iload_n hx hb dX12_look_78 rfl (lv_at hl 2 rfl) ?_
          obtain ⟨hb79, h⟩ := h
          refine m_ast S hK (ar_62 G) hW hS (ci_62 (Nat.le_of_ble_eq_true rfl)) hb79 dX12_look_79 (fun Mm79 eMm79 H locs hW hS => ?_)
          replace h := h Mm79 eMm79
          refine lv_aload_n hx hb dX12_look_80 rfl (lv_at hl 0 rfl) ?_
          refine m_getr S hK fk_X12_67 (gr_10_21 G 0) hW (ci_10 (Nat.le_of_ble_eq_true rfl)) dX12_look_81 ?_
          refine lv_aload_n hx hb dX12_look_84 rfl (lv_at hl 0 rfl) ?_
          refine m_getr S hK fk_X12_7 (gr_10_1 G 0) hW (ci_10 (Nat.le_of_ble_eq_true rfl)) dX12_look_85 ?_
          refine lv_iconst hx hb dX12_look_88 ki_4 ?_
          refine m_aldk S hK (ar_44 G) hW (ci_44 (Nat.le_of_ble_eq_true rfl)) kn_4 (Nat.le_of_ble_eq_true rfl) dX12_look_89 ?_
          refine lv_iload_n hx hb dX12_look_90 rfl (lv_at hl 3 rfl) ?_
          obtain ⟨hb91, h⟩ := h
          refine m_ast S hK (ar_63 G) hW hS (ci_63 (Nat.le_of_ble_eq_true rfl)) hb91 dX12_look_91 (fun Mm91 eMm91 H locs hW hS => ?_)
          replace h := h Mm91 eMm91
          refine lv_aload_n hx hb dX12_look_92 rfl (lv_at hl 0 rfl) ?_
          refine m_getr S hK fk_X12_7 (gr_10_1 G 0) hW (ci_10 (Nat.le_of_ble_eq_true rfl)) dX12_look_93 ?_
          refine lv_iconst hx hb dX12_look_96 ki_4 ?_
          refine lv_dup2_11 hx hb dX12_look_97 rfl rfl ?_
          refine m_aldk S hK (ar_44 G) hW (ci_44 (Nat.le_of_ble_eq_true rfl)) kn_4 (Nat.le_of_ble_eq_true rfl) dX12_look_98 ?_
          refine lv_iconst hx hb dX12_look_99 ki_1 ?_
          refine lv_iadd hx hb dX12_look_100 ?_
          refine m_astk S hK (ar_44 G) hW hS (ci_44 (Nat.le_of_ble_eq_true rfl)) kn_4 (Nat.le_of_ble_eq_true rfl) dX12_look_101 (fun Mm101 eMm101 H locs hW hS => ?_)
          replace h := h Mm101 eMm101
          refine lv_aload_n hx hb dX12_look_102 rfl (lv_at hl 0 rfl) ?_
          refine m_getr S hK fk_X12_7 (gr_10_1 G 0) hW (ci_10 (Nat.le_of_ble_eq_true rfl)) dX12_look_103 ?_
          refine lv_iconst hx hb dX12_look_106 ki_4 ?_
          refine m_aldk S hK (ar_44 G) hW (ci_44 (Nat.le_of_ble_eq_true rfl)) kn_4 (Nat.le_of_ble_eq_true rfl) dX12_look_107 ?_
          exact m_iret S hret hlocks hKX hW hbs hS rfl h dX12_look_108
        · replace h := h.2 c50
          refine lv_bipush hx hb dX12_look_53 kb_m2 ?_
          exact m_iret S hret hlocks hKX hW hbs hS rfl h dX12_look_55
      · replace h := h.2 c37
        refine lv_iconst hx hb dX12_look_40 ki_m1 ?_
        exact m_iret S hret hlocks hKX hW hbs hS rfl h dX12_look_41
abbrev rm_X12_byHowMuch : Room := { frames := 2, cells := 0, slots := 0, locals := 48 }
set_option maxHeartbeats 4000000 in
set_option maxRecDepth 100000 in
theorem c_X12_byHowMuch (l : Launch) {G : Gn} {M : Mem} {x1 : Int32} {x2 : Int32} {P : Int32 → Mem → Prop} : MQi l yX12_byHowMuch cX12_byHowMuch 9 (some .int) rm_X12_byHowMuch [.ref (ad G 10 0), .int x1, .int x2] G M (s_X12_byHowMuch M x1 x2 P) P := by
  refine m_enter (by decide +kernel) (Nat.le_of_ble_eq_true rfl) ?_
  intro p e s m below meth c ls H locs S hret hlocks hname hKX hbs hW hS hl h
  obtain ⟨AV, hAV⟩ : ∃ z : Array Value, z = ([.ref (ad G 10 0), .int x1, .int x2] : List Value).toArray := ⟨_, rfl⟩
  rw [← hAV] at S ⊢
  replace S : CallFix p m c cX12_byHowMuch 9 s AV lw_G "MilkDeskModel" := S
  have hK := hKX.1
  have hx := S.1
  have hb := S.2.1
  have hml := S.2.2.1
  have hown := S.2.2.2.1
  have hts := S.2.2.2.2
  replace hl : lv_has ls 9 [(0, .ref (ad G 10 0)), (1, .int x1), (2, .int x2)] := hl
  have w39 : ∀ (n : Nat) (a : Mem × Int32 × Int32 × Int32 × Int32 × Int32), Lz (fun (K39 : Mem × Int32 × Int32 × Int32 × Int32 × Int32 → Prop) (a : Mem × Int32 × Int32 × Int32 × Int32 × Int32) => s_X12_byHowMuch_39 x1 x2 P K39 a.1 a.2.1 a.2.2.1 a.2.2.2.1 a.2.2.2.2.1 a.2.2.2.2.2) n a → ∀ (H : Heap) (locs : List Loc) (ls : Array Slot), WPm G a.1 H → va_S (fun q => bs G ≤ q) s.heap H locs → lv_has ls 9 [(0, .ref (ad G 10 0)), (1, .int x1), (2, .int x2), (3, .int a.2.1), (4, .int a.2.2.1), (5, .int a.2.2.2.1), (6, .int a.2.2.2.2.1), (7, .int a.2.2.2.2.2)] → W p l e rm_X12_byHowMuch s m AV below meth c H locs 0 0 (MQ below (va_Qi P (WS G) (fun q => bs G ≤ q)) AV s 0 0 (fun q => bs G ≤ q)) (F0 m 39 ls []) := by
    refine Lz_walk ?_
    rintro K39 kk39 ⟨M, x3, x4, x5, x6, x7⟩ h H locs ls hW hS hl
    replace h : s_X12_byHowMuch_39 x1 x2 P K39 M x3 x4 x5 x6 x7 := h
    replace hW : WPm G M H := hW
    replace hl : lv_has ls 9 [(0, .ref (ad G 10 0)), (1, .int x1), (2, .int x2), (3, .int x3), (4, .int x4), (5, .int x5), (6, .int x6), (7, .int x7)] := hl
    have b139 : ∀ (M : Mem) (x3 : Int32) (x4 : Int32) (x5 : Int32) (x7 : Int32) (y0 : Int32) (H : Heap) (locs : List Loc) (ls : Array Slot), WPm G M H → va_S (fun q => bs G ≤ q) s.heap H locs → lv_has ls 9 [(0, .ref (ad G 10 0)), (1, .int x1), (2, .int x2), (3, .int x3), (4, .int x4), (5, .int x5), (7, .int x7)] → s_X12_byHowMuch_139 x1 x2 P K39 M x3 x4 x5 x7 y0 → W p l e rm_X12_byHowMuch s m AV below meth c H locs 0 0 (MQ below (va_Qi P (WS G) (fun q => bs G ≤ q)) AV s 0 0 (fun q => bs G ≤ q)) (F0 m 139 ls [.int y0]) := by
      intro M x3 x4 x5 x7 y0 H locs ls hW hS hl h
      unfold s_X12_byHowMuch_139 at h
      refine lv_istore (lv' := [(6, .int y0), (0, .ref (ad G 10 0)), (1, .int x1), (2, .int x2), (3, .int x3), (4, .int x4), (5, .int x5), (7, .int x7)]) hx hb dX12_byHowMuch_139 hl (by decide) rfl (fun ls hl => ?_)
      obtain ⟨x3_141, ex3_141⟩ : ∃ z : Int32, z = x3 + (1 : Int32) := ⟨_, rfl⟩
      replace h := h x3_141 ex3_141
      refine lv_iinc (v := x3_141) (lv' := [(3, .int x3_141), (6, .int y0), (0, .ref (ad G 10 0)), (1, .int x1), (2, .int x2), (4, .int x4), (5, .int x5), (7, .int x7)]) hx hb dX12_byHowMuch_141 hl (k := 4) rfl (by rw [ex3_141, ki_1]) (by decide) rfl (fun ls hl => ?_)
      obtain ⟨x7_144, ex7_144⟩ : ∃ z : Int32, z = x7 + (1 : Int32) := ⟨_, rfl⟩
      replace h := h x7_144 ex7_144
      refine lv_iinc (v := x7_144) (lv' := [(7, .int x7_144), (3, .int x3_141), (6, .int y0), (0, .ref (ad G 10 0)), (1, .int x1), (2, .int x2), (4, .int x4), (5, .int x5)]) hx hb dX12_byHowMuch_144 hl (k := 7) rfl (by rw [ex7_144, ki_1]) (by decide) rfl (fun ls hl => ?_)
      refine lv_goto (tgt := 39) hx hb dX12_byHowMuch_147 (by decide) ?_
      exact kk39 _ h H locs ls hW hS (lv_sub hl [3, 4, 5, 1, 6, 7, 2, 0] rfl)
    have b119 : ∀ (M : Mem) (x3 : Int32) (x4 : Int32) (x6 : Int32) (x7 : Int32) (x8 : Int32) (y0 : Int32) (H : Heap) (locs : List Loc) (ls : Array Slot), WPm G M H → va_S (fun q => bs G ≤ q) s.heap H locs → lv_has ls 9 [(0, .ref (ad G 10 0)), (1, .int x1), (2, .int x2), (3, .int x3), (4, .int x4), (6, .int x6), (7, .int x7), (8, .int x8)] → s_X12_byHowMuch_119 x1 x2 P K39 M x3 x4 x6 x7 x8 y0 → W p l e rm_X12_byHowMuch s m AV below meth c H locs 0 0 (MQ below (va_Qi P (WS G) (fun q => bs G ≤ q)) AV s 0 0 (fun q => bs G ≤ q)) (F0 m 119 ls [.int y0]) := by
      intro M x3 x4 x6 x7 x8 y0 H locs ls hW hS hl h
      unfold s_X12_byHowMuch_119 at h
      refine lv_istore (lv' := [(5, .int y0), (0, .ref (ad G 10 0)), (1, .int x1), (2, .int x2), (3, .int x3), (4, .int x4), (6, .int x6), (7, .int x7), (8, .int x8)]) hx hb dX12_byHowMuch_119 hl (by decide) rfl (fun ls hl => ?_)
      refine lv_iload_n hx hb dX12_byHowMuch_121 rfl (lv_at hl 4 rfl) ?_
      refine lv_if_eq (tgt := 132) hx hb dX12_byHowMuch_122 (by decide) (fun c122 => ?_) (fun c122 => ?_)
      · replace h := h.1 c122
        refine lv_iload hx hb dX12_byHowMuch_132 (lv_at hl 8 rfl) ?_
        refine lv_goto (tgt := 139) hx hb dX12_byHowMuch_134 (by decide) ?_
        exact b139 _ _ _ _ _ _ H locs ls hW hS (lv_sub hl [1, 2, 3, 4, 5, 0, 7] rfl) h
      · replace h := h.2 c122
        refine lv_iload hx hb dX12_byHowMuch_125 (lv_at hl 8 rfl) ?_
        refine lv_iload hx hb dX12_byHowMuch_127 (lv_at hl 6 rfl) ?_
        refine lv_icmp_le (tgt := 137) hx hb dX12_byHowMuch_129 (by decide) (fun c129 => ?_) (fun c129 => ?_)
        · replace h := h.1 c129
          refine lv_iload hx hb dX12_byHowMuch_137 (lv_at hl 6 rfl) ?_
          exact b139 _ _ _ _ _ _ H locs ls hW hS (lv_sub hl [1, 2, 3, 4, 5, 0, 7] rfl) h
        · replace h := h.2 c129
          refine lv_iload hx hb dX12_byHowMuch_132 (lv_at hl 8 rfl) ?_
          refine lv_goto (tgt := 139) hx hb dX12_byHowMuch_134 (by decide) ?_
          exact b139 _ _ _ _ _ _ H locs ls hW hS (lv_sub hl [1, 2, 3, 4, 5, 0, 7] rfl) h
    unfold s_X12_byHowMuch_39 at h
    refine lv_iload hx hb dX12_byHowMuch_39 (lv_at hl 7 rfl) ?_
    refine lv_aload_n hx hb dX12_byHowMuch_41 rfl (lv_at hl 0 rfl) ?_
    refine m_getr S hK fk_X12_7 (gr_10_1 G 0) hW (ci_10 (Nat.le_of_ble_eq_true rfl)) dX12_byHowMuch_42 ?_
    refine lv_iconst hx hb dX12_byHowMuch_45 ki_4 ?_
    refine m_aldk S hK (ar_44 G) hW (ci_44 (Nat.le_of_ble_eq_true rfl)) kn_4 (Nat.le_of_ble_eq_true rfl) dX12_byHowMuch_46 ?_
    refine lv_icmp_ge (tgt := 150) hx hb dX12_byHowMuch_47 (by decide) (fun c47 => ?_) (fun c47 => ?_)
    · replace h := h.1 c47
      refine lv_iload_n hx hb dX12_byHowMuch_150 rfl (lv_at hl 3 rfl) ?_
      refine lv_if_ne (tgt := 160) hx hb dX12_byHowMuch_151 (by decide) (fun c151 => ?_) (fun c151 => ?_)
      · replace h := h.1 c151
        refine lv_iload_n hx hb dX12_byHowMuch_160 rfl (lv_at hl 2 rfl) ?_
        refine lv_if_ne (tgt := 169) hx hb dX12_byHowMuch_161 (by decide) (fun c161 => ?_) (fun c161 => ?_)
        · replace h := h.1 c161
          refine lv_iload_n hx hb dX12_byHowMuch_169 rfl (lv_at hl 2 rfl) ?_
          refine lv_iconst hx hb dX12_byHowMuch_170 ki_1 ?_
          refine lv_icmp_ne (tgt := 179) hx hb dX12_byHowMuch_171 (by decide) (fun c171 => ?_) (fun c171 => ?_)
          · replace h := h.1 c171
            refine lv_iload hx hb dX12_byHowMuch_179 (lv_at hl 6 rfl) ?_
            exact m_iret S hret hlocks hKX hW hbs hS rfl h dX12_byHowMuch_181
          · replace h := h.2 c171
            refine lv_iload hx hb dX12_byHowMuch_174 (lv_at hl 5 rfl) ?_
            refine lv_goto (tgt := 181) hx hb dX12_byHowMuch_176 (by decide) ?_
            exact m_iret S hret hlocks hKX hW hbs hS rfl h dX12_byHowMuch_181
        · replace h := h.2 c161
          refine lv_iload hx hb dX12_byHowMuch_164 (lv_at hl 4 rfl) ?_
          refine lv_goto (tgt := 181) hx hb dX12_byHowMuch_166 (by decide) ?_
          exact m_iret S hret hlocks hKX hW hbs hS rfl h dX12_byHowMuch_181
      · replace h := h.2 c151
        refine lv_ldcw hx hb hown (hts _ mw_1529) dX12_byHowMuch_154 ?_
        refine lv_goto (tgt := 181) hx hb dX12_byHowMuch_157 (by decide) ?_
        exact m_iret S hret hlocks hKX hW hbs hS rfl h dX12_byHowMuch_181
    · replace h := h.2 c47
      refine lv_aload_n hx hb dX12_byHowMuch_50 rfl (lv_at hl 0 rfl) ?_
      refine m_getr S hK fk_X12_19 (gr_10_5 G 0) hW (ci_10 (Nat.le_of_ble_eq_true rfl)) dX12_byHowMuch_51 ?_
      refine lv_aload_n hx hb dX12_byHowMuch_54 rfl (lv_at hl 0 rfl) ?_
      refine m_getr S hK fk_X12_61 (gr_10_19 G 0) hW (ci_10 (Nat.le_of_ble_eq_true rfl)) dX12_byHowMuch_55 ?_
      refine lv_iload hx hb dX12_byHowMuch_58 (lv_at hl 7 rfl) ?_
      obtain ⟨hb60, h⟩ := h
      refine m_ald S hK (ar_61 G) hW (ci_61 (Nat.le_of_ble_eq_true rfl)) hb60 dX12_byHowMuch_60 ?_
      obtain ⟨hb61, h⟩ := h
      refine m_ald S hK (ar_47 G) hW (ci_47 (Nat.le_of_ble_eq_true rfl)) hb61 dX12_byHowMuch_61 ?_
      refine lv_iload_n hx hb dX12_byHowMuch_62 rfl (lv_at hl 1 rfl) ?_
      refine lv_icmp_ne (tgt := 144) hx hb dX12_byHowMuch_63 (by decide) (fun c63 => ?_) (fun c63 => ?_)
      · replace h := h.1 c63
        obtain ⟨x7_144, ex7_144⟩ : ∃ z : Int32, z = x7 + (1 : Int32) := ⟨_, rfl⟩
        replace h := h x7_144 ex7_144
        refine lv_iinc (v := x7_144) (lv' := [(7, .int x7_144), (0, .ref (ad G 10 0)), (1, .int x1), (2, .int x2), (3, .int x3), (4, .int x4), (5, .int x5), (6, .int x6)]) hx hb dX12_byHowMuch_144 hl (k := 7) rfl (by rw [ex7_144, ki_1]) (by decide) rfl (fun ls hl => ?_)
        refine lv_goto (tgt := 39) hx hb dX12_byHowMuch_147 (by decide) ?_
        exact kk39 _ h H locs ls hW hS (lv_sub hl [1, 2, 3, 4, 5, 6, 7, 0] rfl)
      · replace h := h.2 c63
        refine lv_aload_n hx hb dX12_byHowMuch_66 rfl (lv_at hl 0 rfl) ?_
        refine lv_aload_n hx hb dX12_byHowMuch_67 rfl (lv_at hl 0 rfl) ?_
        refine m_getr S hK fk_X12_61 (gr_10_19 G 0) hW (ci_10 (Nat.le_of_ble_eq_true rfl)) dX12_byHowMuch_68 ?_
        refine lv_iload hx hb dX12_byHowMuch_71 (lv_at hl 7 rfl) ?_
        obtain ⟨hb73, h⟩ := h
        refine m_ald S hK (ar_61 G) hW (ci_61 (Nat.le_of_ble_eq_true rfl)) hb73 dX12_byHowMuch_73 ?_
        refine lv_aload_n hx hb dX12_byHowMuch_74 rfl (lv_at hl 0 rfl) ?_
        refine m_getr S hK fk_X12_64 (gr_10_20 G 0) hW (ci_10 (Nat.le_of_ble_eq_true rfl)) dX12_byHowMuch_75 ?_
        refine lv_iload hx hb dX12_byHowMuch_78 (lv_at hl 7 rfl) ?_
        obtain ⟨hb80, h⟩ := h
        refine m_ald S hK (ar_62 G) hW (ci_62 (Nat.le_of_ble_eq_true rfl)) hb80 dX12_byHowMuch_80 ?_
        refine m_ci0 (m_rV S hKX hW (m_szH hbs hS) (c_X12_headsOf l ) h lk_X12_192 (m_recv hK hW (ci_10 (Nat.le_of_ble_eq_true rfl)) (rc_10 G) rfl) rfl hl.1 rfl ⟨Nat.le_of_ble_eq_true rfl, Nat.le_of_ble_eq_true rfl⟩ (Nat.le_of_ble_eq_true rfl) ⟨Nat.le_of_ble_eq_true rfl, Nat.le_of_ble_eq_true rfl⟩ dX12_byHowMuch_81) hS rfl rfl (fun rr81 Mm81 H locs h hW hS => ?_)
        refine lv_aload_n hx hb dX12_byHowMuch_84 rfl (lv_at hl 0 rfl) ?_
        refine m_getr S hK fk_X12_67 (gr_10_21 G 0) hW (ci_10 (Nat.le_of_ble_eq_true rfl)) dX12_byHowMuch_85 ?_
        refine lv_iload hx hb dX12_byHowMuch_88 (lv_at hl 7 rfl) ?_
        obtain ⟨hb90, h⟩ := h
        refine m_ald S hK (ar_63 G) hW (ci_63 (Nat.le_of_ble_eq_true rfl)) hb90 dX12_byHowMuch_90 ?_
        refine lv_isub hx hb dX12_byHowMuch_91 ?_
        refine lv_topi (fun x8_92 ex8_92 => ?_)
        replace h := h x8_92 ex8_92
        refine lv_istore (lv' := [(8, .int x8_92), (0, .ref (ad G 10 0)), (1, .int x1), (2, .int x2), (3, .int x3), (4, .int x4), (5, .int x5), (6, .int x6), (7, .int x7)]) hx hb dX12_byHowMuch_92 hl (by decide) rfl (fun ls hl => ?_)
        refine lv_iload hx hb dX12_byHowMuch_94 (lv_at hl 5 rfl) ?_
        refine lv_iload hx hb dX12_byHowMuch_96 (lv_at hl 0 rfl) ?_
        refine lv_iadd hx hb dX12_byHowMuch_98 ?_
        refine lv_topi (fun x4_99 ex4_99 => ?_)
        replace h := h x4_99 ex4_99
        refine lv_istore (lv' := [(4, .int x4_99), (8, .int x8_92), (0, .ref (ad G 10 0)), (1, .int x1), (2, .int x2), (3, .int x3), (5, .int x5), (6, .int x6), (7, .int x7)]) hx hb dX12_byHowMuch_99 hl (by decide) rfl (fun ls hl => ?_)
        refine lv_iload_n hx hb dX12_byHowMuch_101 rfl (lv_at hl 5 rfl) ?_
        refine lv_if_eq (tgt := 112) hx hb dX12_byHowMuch_102 (by decide) (fun c102 => ?_) (fun c102 => ?_)
        · replace h := h.1 c102
          refine lv_iload hx hb dX12_byHowMuch_112 (lv_at hl 1 rfl) ?_
          refine lv_goto (tgt := 119) hx hb dX12_byHowMuch_114 (by decide) ?_
          exact b119 _ _ _ _ _ _ _ H locs ls hW hS (lv_sub hl [2, 3, 4, 5, 0, 7, 8, 1] rfl) h
        · replace h := h.2 c102
          refine lv_iload hx hb dX12_byHowMuch_105 (lv_at hl 1 rfl) ?_
          refine lv_iload hx hb dX12_byHowMuch_107 (lv_at hl 6 rfl) ?_
          refine lv_icmp_ge (tgt := 117) hx hb dX12_byHowMuch_109 (by decide) (fun c109 => ?_) (fun c109 => ?_)
          · replace h := h.1 c109
            refine lv_iload hx hb dX12_byHowMuch_117 (lv_at hl 6 rfl) ?_
            exact b119 _ _ _ _ _ _ _ H locs ls hW hS (lv_sub hl [2, 3, 4, 5, 0, 7, 8, 1] rfl) h
          · replace h := h.2 c109
            refine lv_iload hx hb dX12_byHowMuch_112 (lv_at hl 1 rfl) ?_
            refine lv_goto (tgt := 119) hx hb dX12_byHowMuch_114 (by decide) ?_
            exact b119 _ _ _ _ _ _ _ H locs ls hW hS (lv_sub hl [2, 3, 4, 5, 0, 7, 8, 1] rfl) h
  unfold s_X12_byHowMuch at h
  refine lv_aload_n hx hb dX12_byHowMuch_0 rfl (lv_at hl 0 rfl) ?_
  refine lv_iconst hx hb dX12_byHowMuch_1 ki_0 ?_
  refine m_put S hK fk_X12_128 tyX12_ok nmX12 rfl pf_X12_0 (pv_10_0 G) hW hS (ci_10 (Nat.le_of_ble_eq_true rfl)) rfl rfl dX12_byHowMuch_2 (fun Mm2 eMm2 H locs hW hS => ?_)
  replace h := h Mm2 eMm2
  refine lv_iload_n hx hb dX12_byHowMuch_5 rfl (lv_at hl 1 rfl) ?_
  refine m_ci0 (m_rS S hKX hW (m_szH hbs hS) (c_X12_isShire l ) h lk_X12_135 rfl hl.1 rfl ⟨Nat.le_of_ble_eq_true rfl, Nat.le_of_ble_eq_true rfl⟩ (Nat.le_of_ble_eq_true rfl) ⟨Nat.le_of_ble_eq_true rfl, Nat.le_of_ble_eq_true rfl⟩ dX12_byHowMuch_6) hS rfl rfl (fun rr6 Mm6 H locs h hW hS => ?_)
  refine lv_if_eq (tgt := 21) hx hb dX12_byHowMuch_9 (by decide) (fun c9 => ?_) (fun c9 => ?_)
  · replace h := h.1 c9
    refine lv_ldcw hx hb hown (hts _ mw_1528) dX12_byHowMuch_21 ?_
    exact m_iret S hret hlocks hKX hW hbs hS rfl h dX12_byHowMuch_24
  · replace h := h.2 c9
    refine lv_iload_n hx hb dX12_byHowMuch_12 rfl (lv_at hl 2 rfl) ?_
    refine lv_iconst hx hb dX12_byHowMuch_13 ki_0 ?_
    refine lv_iconst hx hb dX12_byHowMuch_14 ki_2 ?_
    refine m_ci0 (m_rS S hKX hW (m_szH hbs hS) (c_X12_in l ) h lk_X12_131 rfl hl.1 rfl ⟨Nat.le_of_ble_eq_true rfl, Nat.le_of_ble_eq_true rfl⟩ (Nat.le_of_ble_eq_true rfl) ⟨Nat.le_of_ble_eq_true rfl, Nat.le_of_ble_eq_true rfl⟩ dX12_byHowMuch_15) hS rfl rfl (fun rr15 Mm15 H locs h hW hS => ?_)
    refine lv_if_ne (tgt := 25) hx hb dX12_byHowMuch_18 (by decide) (fun c18 => ?_) (fun c18 => ?_)
    · replace h := h.1 c18
      refine lv_iconst hx hb dX12_byHowMuch_25 ki_0 ?_
      refine lv_istore_n (lv' := [(3, .int (0 : Int32)), (0, .ref (ad G 10 0)), (1, .int x1), (2, .int x2)]) hx hb dX12_byHowMuch_26 rfl hl (by decide) rfl (fun ls hl => ?_)
      refine lv_iconst hx hb dX12_byHowMuch_27 ki_0 ?_
      refine lv_istore (lv' := [(4, .int (0 : Int32)), (3, .int (0 : Int32)), (0, .ref (ad G 10 0)), (1, .int x1), (2, .int x2)]) hx hb dX12_byHowMuch_28 hl (by decide) rfl (fun ls hl => ?_)
      refine lv_iconst hx hb dX12_byHowMuch_30 ki_0 ?_
      refine lv_istore (lv' := [(5, .int (0 : Int32)), (4, .int (0 : Int32)), (3, .int (0 : Int32)), (0, .ref (ad G 10 0)), (1, .int x1), (2, .int x2)]) hx hb dX12_byHowMuch_31 hl (by decide) rfl (fun ls hl => ?_)
      refine lv_iconst hx hb dX12_byHowMuch_33 ki_0 ?_
      refine lv_istore (lv' := [(6, .int (0 : Int32)), (5, .int (0 : Int32)), (4, .int (0 : Int32)), (3, .int (0 : Int32)), (0, .ref (ad G 10 0)), (1, .int x1), (2, .int x2)]) hx hb dX12_byHowMuch_34 hl (by decide) rfl (fun ls hl => ?_)
      refine lv_iconst hx hb dX12_byHowMuch_36 ki_0 ?_
      refine lv_istore (lv' := [(7, .int (0 : Int32)), (6, .int (0 : Int32)), (5, .int (0 : Int32)), (4, .int (0 : Int32)), (3, .int (0 : Int32)), (0, .ref (ad G 10 0)), (1, .int x1), (2, .int x2)]) hx hb dX12_byHowMuch_37 hl (by decide) rfl (fun ls hl => ?_)
      obtain ⟨n39, h⟩ := h
      exact w39 n39 _ h H locs ls hW hS (lv_sub hl [5, 6, 7, 4, 3, 2, 1, 0] rfl)
    · replace h := h.2 c18
      refine lv_ldcw hx hb hown (hts _ mw_1528) dX12_byHowMuch_21 ?_
      exact m_iret S hret hlocks hKX hW hbs hS rfl h dX12_byHowMuch_24
abbrev rm_X12_apart : Room := { frames := 0, cells := 0, slots := 0, locals := 0 }
set_option maxHeartbeats 4000000 in
set_option maxRecDepth 100000 in
theorem c_X12_apart (l : Launch) {G : Gn} {M : Mem} {x0 : Int32} {x1 : Int32} {P : Int32 → Mem → Prop} : MQi l yX12_apart cX12_apart 2 (some .int) rm_X12_apart [.int x0, .int x1] G M (s_X12_apart M x0 x1 P) P := by
  refine m_enter (by decide +kernel) (Nat.le_of_ble_eq_true rfl) ?_
  intro p e s m below meth c ls H locs S hret hlocks hname hKX hbs hW hS hl h
  obtain ⟨AV, hAV⟩ : ∃ z : Array Value, z = ([.int x0, .int x1] : List Value).toArray := ⟨_, rfl⟩
  rw [← hAV] at S ⊢
  replace S : CallFix p m c cX12_apart 2 s AV lw_G "MilkDeskModel" := S
  have hK := hKX.1
  have hx := S.1
  have hb := S.2.1
  have hml := S.2.2.1
  have hown := S.2.2.2.1
  have hts := S.2.2.2.2
  replace hl : lv_has ls 2 [(0, .int x0), (1, .int x1)] := hl
  unfold s_X12_apart at h
  refine lv_iload_n hx hb dX12_apart_0 rfl (lv_at hl 0 rfl) ?_
  refine lv_iload_n hx hb dX12_apart_1 rfl (lv_at hl 1 rfl) ?_
  refine lv_icmp_ge (tgt := 11) hx hb dX12_apart_2 (by decide) (fun c2 => ?_) (fun c2 => ?_)
  · replace h := h.1 c2
    refine lv_iload_n hx hb dX12_apart_11 rfl (lv_at hl 0 rfl) ?_
    refine lv_iload_n hx hb dX12_apart_12 rfl (lv_at hl 1 rfl) ?_
    refine lv_isub hx hb dX12_apart_13 ?_
    exact m_iret S hret hlocks hKX hW hbs hS rfl h dX12_apart_14
  · replace h := h.2 c2
    refine lv_iload_n hx hb dX12_apart_5 rfl (lv_at hl 1 rfl) ?_
    refine lv_iload_n hx hb dX12_apart_6 rfl (lv_at hl 0 rfl) ?_
    refine lv_isub hx hb dX12_apart_7 ?_
    refine lv_goto (tgt := 14) hx hb dX12_apart_8 (by decide) ?_
    exact m_iret S hret hlocks hKX hW hbs hS rfl h dX12_apart_14
abbrev rm_X12_farOf : Room := { frames := 1, cells := 0, slots := 0, locals := 21 }
set_option maxHeartbeats 4000000 in
set_option maxRecDepth 100000 in
theorem c_X12_farOf (l : Launch) {G : Gn} {M : Mem} {x1 : Int32} {x2 : Int32} {x3 : Int32} {P : Int32 → Mem → Prop} : MQi l yX12_farOf cX12_farOf 8 (some .int) rm_X12_farOf [.ref (ad G 10 0), .int x1, .int x2, .int x3] G M (s_X12_farOf M x1 x2 x3 P) P := by
  refine m_enter (by decide +kernel) (Nat.le_of_ble_eq_true rfl) ?_
  intro p e s m below meth c ls H locs S hret hlocks hname hKX hbs hW hS hl h
  obtain ⟨AV, hAV⟩ : ∃ z : Array Value, z = ([.ref (ad G 10 0), .int x1, .int x2, .int x3] : List Value).toArray := ⟨_, rfl⟩
  rw [← hAV] at S ⊢
  replace S : CallFix p m c cX12_farOf 8 s AV lw_G "MilkDeskModel" := S
  have hK := hKX.1
  have hx := S.1
  have hb := S.2.1
  have hml := S.2.2.1
  have hown := S.2.2.2.1
  have hts := S.2.2.2.2
  replace hl : lv_has ls 8 [(0, .ref (ad G 10 0)), (1, .int x1), (2, .int x2), (3, .int x3)] := hl
  have b82 : ∀ (M : Mem) (x4 : Int32) (x5 : Int32) (x6 : Int32) (y0 : Int32) (H : Heap) (locs : List Loc) (ls : Array Slot), WPm G M H → va_S (fun q => bs G ≤ q) s.heap H locs → lv_has ls 8 [(4, .int x4), (5, .int x5), (6, .int x6)] → s_X12_farOf_82 P M x4 x5 x6 y0 → W p l e rm_X12_farOf s m AV below meth c H locs 0 0 (MQ below (va_Qi P (WS G) (fun q => bs G ≤ q)) AV s 0 0 (fun q => bs G ≤ q)) (F0 m 82 ls [.int y0]) := by
    intro M x4 x5 x6 y0 H locs ls hW hS hl h
    unfold s_X12_farOf_82 at h
    refine lv_istore (lv' := [(7, .int y0), (4, .int x4), (5, .int x5), (6, .int x6)]) hx hb dX12_farOf_82 hl (by decide) rfl (fun ls hl => ?_)
    refine lv_iload hx hb dX12_farOf_84 (lv_at hl 1 rfl) ?_
    refine lv_iload hx hb dX12_farOf_86 (lv_at hl 3 rfl) ?_
    refine m_ci0 (m_rS S hKX hW (m_szH hbs hS) (c_X12_apart l ) h lk_X12_300 rfl hl.1 rfl ⟨Nat.le_of_ble_eq_true rfl, Nat.le_of_ble_eq_true rfl⟩ (Nat.le_of_ble_eq_true rfl) ⟨Nat.le_of_ble_eq_true rfl, Nat.le_of_ble_eq_true rfl⟩ dX12_farOf_88) hS rfl rfl (fun rr88 Mm88 H locs h hW hS => ?_)
    refine lv_iload hx hb dX12_farOf_91 (lv_at hl 2 rfl) ?_
    refine lv_iload hx hb dX12_farOf_93 (lv_at hl 0 rfl) ?_
    refine m_ci0 (m_rS S hKX hW (m_szH hbs hS) (c_X12_apart l ) h lk_X12_300 rfl hl.1 rfl ⟨Nat.le_of_ble_eq_true rfl, Nat.le_of_ble_eq_true rfl⟩ (Nat.le_of_ble_eq_true rfl) ⟨Nat.le_of_ble_eq_true rfl, Nat.le_of_ble_eq_true rfl⟩ dX12_farOf_95) hS rfl rfl (fun rr95 Mm95 H locs h hW hS => ?_)
    refine lv_iadd hx hb dX12_farOf_98 ?_
    exact m_iret S hret hlocks hKX hW hbs hS rfl h dX12_farOf_99
  have b61 : ∀ (M : Mem) (x4 : Int32) (x5 : Int32) (y0 : Int32) (H : Heap) (locs : List Loc) (ls : Array Slot), WPm G M H → va_S (fun q => bs G ≤ q) s.heap H locs → lv_has ls 8 [(0, .ref (ad G 10 0)), (1, .int x1), (3, .int x3), (4, .int x4), (5, .int x5)] → s_X12_farOf_61 x1 x3 P M x4 x5 y0 → W p l e rm_X12_farOf s m AV below meth c H locs 0 0 (MQ below (va_Qi P (WS G) (fun q => bs G ≤ q)) AV s 0 0 (fun q => bs G ≤ q)) (F0 m 61 ls [.int y0]) := by
    intro M x4 x5 y0 H locs ls hW hS hl h
    unfold s_X12_farOf_61 at h
    refine lv_istore (lv' := [(6, .int y0), (0, .ref (ad G 10 0)), (1, .int x1), (3, .int x3), (4, .int x4), (5, .int x5)]) hx hb dX12_farOf_61 hl (by decide) rfl (fun ls hl => ?_)
    refine lv_iload_n hx hb dX12_farOf_63 rfl (lv_at hl 3 rfl) ?_
    refine lv_if_ge (tgt := 76) hx hb dX12_farOf_64 (by decide) (fun c64 => ?_) (fun c64 => ?_)
    · replace h := h.1 c64
      refine lv_aload_n hx hb dX12_farOf_76 rfl (lv_at hl 1 rfl) ?_
      refine m_getr S hK fk_X12_25 (gr_10_7 G 0) hW (ci_10 (Nat.le_of_ble_eq_true rfl)) dX12_farOf_77 ?_
      refine lv_iload_n hx hb dX12_farOf_80 rfl (lv_at hl 3 rfl) ?_
      obtain ⟨hb81, h⟩ := h
      refine m_ald S hK (ar_49 G) hW (ci_49 (Nat.le_of_ble_eq_true rfl)) hb81 dX12_farOf_81 ?_
      exact b82 _ _ _ _ _ H locs ls hW hS (lv_sub hl [4, 5, 0] rfl) h
    · replace h := h.2 c64
      refine lv_aload_n hx hb dX12_farOf_67 rfl (lv_at hl 1 rfl) ?_
      refine m_getr S hK fk_X12_31 (gr_10_9 G 0) hW (ci_10 (Nat.le_of_ble_eq_true rfl)) dX12_farOf_68 ?_
      refine lv_iload_n hx hb dX12_farOf_71 rfl (lv_at hl 2 rfl) ?_
      obtain ⟨hb72, h⟩ := h
      refine m_ald S hK (ar_51 G) hW (ci_51 (Nat.le_of_ble_eq_true rfl)) hb72 dX12_farOf_72 ?_
      refine lv_goto (tgt := 82) hx hb dX12_farOf_73 (by decide) ?_
      exact b82 _ _ _ _ _ H locs ls hW hS (lv_sub hl [4, 5, 0] rfl) h
  have b40 : ∀ (M : Mem) (x4 : Int32) (y0 : Int32) (H : Heap) (locs : List Loc) (ls : Array Slot), WPm G M H → va_S (fun q => bs G ≤ q) s.heap H locs → lv_has ls 8 [(0, .ref (ad G 10 0)), (1, .int x1), (3, .int x3), (4, .int x4)] → s_X12_farOf_40 x1 x3 P M x4 y0 → W p l e rm_X12_farOf s m AV below meth c H locs 0 0 (MQ below (va_Qi P (WS G) (fun q => bs G ≤ q)) AV s 0 0 (fun q => bs G ≤ q)) (F0 m 40 ls [.int y0]) := by
    intro M x4 y0 H locs ls hW hS hl h
    unfold s_X12_farOf_40 at h
    refine lv_istore (lv' := [(5, .int y0), (0, .ref (ad G 10 0)), (1, .int x1), (3, .int x3), (4, .int x4)]) hx hb dX12_farOf_40 hl (by decide) rfl (fun ls hl => ?_)
    refine lv_iload_n hx hb dX12_farOf_42 rfl (lv_at hl 3 rfl) ?_
    refine lv_if_ge (tgt := 55) hx hb dX12_farOf_43 (by decide) (fun c43 => ?_) (fun c43 => ?_)
    · replace h := h.1 c43
      refine lv_aload_n hx hb dX12_farOf_55 rfl (lv_at hl 1 rfl) ?_
      refine m_getr S hK fk_X12_22 (gr_10_6 G 0) hW (ci_10 (Nat.le_of_ble_eq_true rfl)) dX12_farOf_56 ?_
      refine lv_iload_n hx hb dX12_farOf_59 rfl (lv_at hl 3 rfl) ?_
      obtain ⟨hb60, h⟩ := h
      refine m_ald S hK (ar_48 G) hW (ci_48 (Nat.le_of_ble_eq_true rfl)) hb60 dX12_farOf_60 ?_
      exact b61 _ _ _ _ H locs ls hW hS (lv_sub hl [1, 2, 3, 4, 0] rfl) h
    · replace h := h.2 c43
      refine lv_aload_n hx hb dX12_farOf_46 rfl (lv_at hl 1 rfl) ?_
      refine m_getr S hK fk_X12_28 (gr_10_8 G 0) hW (ci_10 (Nat.le_of_ble_eq_true rfl)) dX12_farOf_47 ?_
      refine lv_iload_n hx hb dX12_farOf_50 rfl (lv_at hl 2 rfl) ?_
      obtain ⟨hb51, h⟩ := h
      refine m_ald S hK (ar_50 G) hW (ci_50 (Nat.le_of_ble_eq_true rfl)) hb51 dX12_farOf_51 ?_
      refine lv_goto (tgt := 61) hx hb dX12_farOf_52 (by decide) ?_
      exact b61 _ _ _ _ H locs ls hW hS (lv_sub hl [1, 2, 3, 4, 0] rfl) h
  have b19 : ∀ (M : Mem) (y0 : Int32) (H : Heap) (locs : List Loc) (ls : Array Slot), WPm G M H → va_S (fun q => bs G ≤ q) s.heap H locs → lv_has ls 8 [(0, .ref (ad G 10 0)), (1, .int x1), (2, .int x2), (3, .int x3)] → s_X12_farOf_19 x1 x2 x3 P M y0 → W p l e rm_X12_farOf s m AV below meth c H locs 0 0 (MQ below (va_Qi P (WS G) (fun q => bs G ≤ q)) AV s 0 0 (fun q => bs G ≤ q)) (F0 m 19 ls [.int y0]) := by
    intro M y0 H locs ls hW hS hl h
    unfold s_X12_farOf_19 at h
    refine lv_istore (lv' := [(4, .int y0), (0, .ref (ad G 10 0)), (1, .int x1), (2, .int x2), (3, .int x3)]) hx hb dX12_farOf_19 hl (by decide) rfl (fun ls hl => ?_)
    refine lv_iload_n hx hb dX12_farOf_21 rfl (lv_at hl 3 rfl) ?_
    refine lv_if_ge (tgt := 34) hx hb dX12_farOf_22 (by decide) (fun c22 => ?_) (fun c22 => ?_)
    · replace h := h.1 c22
      refine lv_aload_n hx hb dX12_farOf_34 rfl (lv_at hl 1 rfl) ?_
      refine m_getr S hK fk_X12_25 (gr_10_7 G 0) hW (ci_10 (Nat.le_of_ble_eq_true rfl)) dX12_farOf_35 ?_
      refine lv_iload_n hx hb dX12_farOf_38 rfl (lv_at hl 3 rfl) ?_
      obtain ⟨hb39, h⟩ := h
      refine m_ald S hK (ar_49 G) hW (ci_49 (Nat.le_of_ble_eq_true rfl)) hb39 dX12_farOf_39 ?_
      exact b40 _ _ _ H locs ls hW hS (lv_sub hl [1, 2, 4, 0] rfl) h
    · replace h := h.2 c22
      refine lv_aload_n hx hb dX12_farOf_25 rfl (lv_at hl 1 rfl) ?_
      refine m_getr S hK fk_X12_31 (gr_10_9 G 0) hW (ci_10 (Nat.le_of_ble_eq_true rfl)) dX12_farOf_26 ?_
      refine lv_iload_n hx hb dX12_farOf_29 rfl (lv_at hl 2 rfl) ?_
      obtain ⟨hb30, h⟩ := h
      refine m_ald S hK (ar_51 G) hW (ci_51 (Nat.le_of_ble_eq_true rfl)) hb30 dX12_farOf_30 ?_
      refine lv_goto (tgt := 40) hx hb dX12_farOf_31 (by decide) ?_
      exact b40 _ _ _ H locs ls hW hS (lv_sub hl [1, 2, 4, 0] rfl) h
  unfold s_X12_farOf at h
  refine lv_iload_n hx hb dX12_farOf_0 rfl (lv_at hl 2 rfl) ?_
  refine lv_if_ge (tgt := 13) hx hb dX12_farOf_1 (by decide) (fun c1 => ?_) (fun c1 => ?_)
  · replace h := h.1 c1
    refine lv_aload_n hx hb dX12_farOf_13 rfl (lv_at hl 0 rfl) ?_
    refine m_getr S hK fk_X12_22 (gr_10_6 G 0) hW (ci_10 (Nat.le_of_ble_eq_true rfl)) dX12_farOf_14 ?_
    refine lv_iload_n hx hb dX12_farOf_17 rfl (lv_at hl 2 rfl) ?_
    obtain ⟨hb18, h⟩ := h
    refine m_ald S hK (ar_48 G) hW (ci_48 (Nat.le_of_ble_eq_true rfl)) hb18 dX12_farOf_18 ?_
    exact b19 _ _ H locs ls hW hS (lv_sub hl [0, 1, 2, 3] rfl) h
  · replace h := h.2 c1
    refine lv_aload_n hx hb dX12_farOf_4 rfl (lv_at hl 0 rfl) ?_
    refine m_getr S hK fk_X12_28 (gr_10_8 G 0) hW (ci_10 (Nat.le_of_ble_eq_true rfl)) dX12_farOf_5 ?_
    refine lv_iload_n hx hb dX12_farOf_8 rfl (lv_at hl 1 rfl) ?_
    obtain ⟨hb9, h⟩ := h
    refine m_ald S hK (ar_50 G) hW (ci_50 (Nat.le_of_ble_eq_true rfl)) hb9 dX12_farOf_9 ?_
    refine lv_goto (tgt := 19) hx hb dX12_farOf_10 (by decide) ?_
    exact b19 _ _ H locs ls hW hS (lv_sub hl [0, 1, 2, 3] rfl) h
abbrev rm_X12_findRound : Room := { frames := 2, cells := 0, slots := 0, locals := 48 }
set_option maxHeartbeats 4000000 in
set_option maxRecDepth 100000 in
theorem c_X12_findRound (l : Launch) {G : Gn} {M : Mem} {x1 : Int32} {x2 : Int32} {P : Int32 → Mem → Prop} : MQi l yX12_findRound cX12_findRound 12 (some .int) rm_X12_findRound [.ref (ad G 10 0), .int x1, .int x2] G M (s_X12_findRound M x1 x2 P) P := by
  refine m_enter (by decide +kernel) (Nat.le_of_ble_eq_true rfl) ?_
  intro p e s m below meth c ls H locs S hret hlocks hname hKX hbs hW hS hl h
  obtain ⟨AV, hAV⟩ : ∃ z : Array Value, z = ([.ref (ad G 10 0), .int x1, .int x2] : List Value).toArray := ⟨_, rfl⟩
  rw [← hAV] at S ⊢
  replace S : CallFix p m c cX12_findRound 12 s AV lw_G "MilkDeskModel" := S
  have hK := hKX.1
  have hx := S.1
  have hb := S.2.1
  have hml := S.2.2.1
  have hown := S.2.2.2.1
  have hts := S.2.2.2.2
  replace hl : lv_has ls 12 [(0, .ref (ad G 10 0)), (1, .int x1), (2, .int x2)] := hl
  have w36 : ∀ (x4 : Int32), ∀ (n : Nat) (a : Mem × Int32 × Int32), Lz (fun (K36 : Mem × Int32 × Int32 → Prop) (a : Mem × Int32 × Int32) => s_X12_findRound_36 x1 x2 x4 P K36 a.1 a.2.1 a.2.2) n a → ∀ (H : Heap) (locs : List Loc) (ls : Array Slot), WPm G a.1 H → va_S (fun q => bs G ≤ q) s.heap H locs → lv_has ls 12 [(0, .ref (ad G 10 0)), (1, .int x1), (2, .int x2), (3, .int a.2.1), (4, .int x4), (5, .int a.2.2)] → W p l e rm_X12_findRound s m AV below meth c H locs 0 0 (MQ below (va_Qi P (WS G) (fun q => bs G ≤ q)) AV s 0 0 (fun q => bs G ≤ q)) (F0 m 36 ls []) := by
    intro x4
    refine Lz_walk ?_
    rintro K36 kk36 ⟨M, x3, x5⟩ h H locs ls hW hS hl
    replace h : s_X12_findRound_36 x1 x2 x4 P K36 M x3 x5 := h
    replace hW : WPm G M H := hW
    replace hl : lv_has ls 12 [(0, .ref (ad G 10 0)), (1, .int x1), (2, .int x2), (3, .int x3), (4, .int x4), (5, .int x5)] := hl
    have w270 : ∀ (x3 : Int32) (x5 : Int32), ∀ (n : Nat) (a : Mem × Int32), Lz (fun (K270 : Mem × Int32 → Prop) (a : Mem × Int32) => s_X12_findRound_270 x1 x2 x3 x4 x5 P K36 K270 a.1 a.2) n a → ∀ (H : Heap) (locs : List Loc) (ls : Array Slot), WPm G a.1 H → va_S (fun q => bs G ≤ q) s.heap H locs → lv_has ls 12 [(0, .ref (ad G 10 0)), (1, .int x1), (2, .int x2), (3, .int x3), (4, .int x4), (5, .int x5), (11, .int a.2)] → W p l e rm_X12_findRound s m AV below meth c H locs 0 0 (MQ below (va_Qi P (WS G) (fun q => bs G ≤ q)) AV s 0 0 (fun q => bs G ≤ q)) (F0 m 270 ls []) := by
      intro x3 x5
      refine Lz_walk ?_
      rintro K270 kk270 ⟨M, x11⟩ h H locs ls hW hS hl
      replace h : s_X12_findRound_270 x1 x2 x3 x4 x5 P K36 K270 M x11 := h
      replace hW : WPm G M H := hW
      replace hl : lv_has ls 12 [(0, .ref (ad G 10 0)), (1, .int x1), (2, .int x2), (3, .int x3), (4, .int x4), (5, .int x5), (11, .int x11)] := hl
      unfold s_X12_findRound_270 at h
      refine lv_iload hx hb dX12_findRound_270 (lv_at hl 6 rfl) ?_
      refine lv_aload_n hx hb dX12_findRound_272 rfl (lv_at hl 0 rfl) ?_
      refine m_geti S hK fk_X12_303 (gi_10_44 G) hW (ci_10 (Nat.le_of_ble_eq_true rfl)) dX12_findRound_273 ?_
      refine lv_icmp_ge (tgt := 299) hx hb dX12_findRound_276 (by decide) (fun c276 => ?_) (fun c276 => ?_)
      · replace h := h.1 c276
        obtain ⟨x5_299, ex5_299⟩ : ∃ z : Int32, z = x5 + (1 : Int32) := ⟨_, rfl⟩
        replace h := h x5_299 ex5_299
        refine lv_iinc (v := x5_299) (lv' := [(5, .int x5_299), (0, .ref (ad G 10 0)), (1, .int x1), (2, .int x2), (3, .int x3), (4, .int x4), (11, .int x11)]) hx hb dX12_findRound_299 hl (k := 5) rfl (by rw [ex5_299, ki_1]) (by decide) rfl (fun ls hl => ?_)
        refine lv_goto (tgt := 36) hx hb dX12_findRound_302 (by decide) ?_
        exact kk36 _ h H locs ls hW hS (lv_sub hl [1, 2, 3, 4, 5, 0] rfl)
      · replace h := h.2 c276
        refine lv_aload_n hx hb dX12_findRound_279 rfl (lv_at hl 0 rfl) ?_
        refine m_getr S hK fk_X12_99 (gr_10_43 G 0) hW (ci_10 (Nat.le_of_ble_eq_true rfl)) dX12_findRound_280 ?_
        refine lv_iload hx hb dX12_findRound_283 (lv_at hl 6 rfl) ?_
        refine lv_aload_n hx hb dX12_findRound_285 rfl (lv_at hl 0 rfl) ?_
        refine m_getr S hK fk_X12_96 (gr_10_42 G 0) hW (ci_10 (Nat.le_of_ble_eq_true rfl)) dX12_findRound_286 ?_
        refine lv_iload hx hb dX12_findRound_289 (lv_at hl 6 rfl) ?_
        obtain ⟨hb291, h⟩ := h
        refine m_ald S hK (ar_70 G) hW (ci_70 (Nat.le_of_ble_eq_true rfl)) hb291 dX12_findRound_291 ?_
        obtain ⟨hb292, h⟩ := h
        refine m_ast S hK (ar_71 G) hW hS (ci_71 (Nat.le_of_ble_eq_true rfl)) hb292 dX12_findRound_292 (fun Mm292 eMm292 H locs hW hS => ?_)
        replace h := h Mm292 eMm292
        obtain ⟨x11_293, ex11_293⟩ : ∃ z : Int32, z = x11 + (1 : Int32) := ⟨_, rfl⟩
        replace h := h x11_293 ex11_293
        refine lv_iinc (v := x11_293) (lv' := [(11, .int x11_293), (0, .ref (ad G 10 0)), (1, .int x1), (2, .int x2), (3, .int x3), (4, .int x4), (5, .int x5)]) hx hb dX12_findRound_293 hl (k := 6) rfl (by rw [ex11_293, ki_1]) (by decide) rfl (fun ls hl => ?_)
        refine lv_goto (tgt := 270) hx hb dX12_findRound_296 (by decide) ?_
        exact kk270 _ h H locs ls hW hS (lv_sub hl [1, 2, 3, 4, 5, 6, 0] rfl)
    have b264 : ∀ (M : Mem) (x5 : Int32) (x9 : Int32) (H : Heap) (locs : List Loc) (ls : Array Slot), WPm G M H → va_S (fun q => bs G ≤ q) s.heap H locs → lv_has ls 12 [(0, .ref (ad G 10 0)), (1, .int x1), (2, .int x2), (4, .int x4), (5, .int x5), (9, .int x9)] → s_X12_findRound_264 x1 x2 x4 P K36 M x5 x9 → W p l e rm_X12_findRound s m AV below meth c H locs 0 0 (MQ below (va_Qi P (WS G) (fun q => bs G ≤ q)) AV s 0 0 (fun q => bs G ≤ q)) (F0 m 264 ls []) := by
      intro M x5 x9 H locs ls hW hS hl h
      unfold s_X12_findRound_264 at h
      refine lv_iload hx hb dX12_findRound_264 (lv_at hl 5 rfl) ?_
      refine lv_istore_n (lv' := [(3, .int x9), (0, .ref (ad G 10 0)), (1, .int x1), (2, .int x2), (4, .int x4), (5, .int x5), (9, .int x9)]) hx hb dX12_findRound_266 rfl hl (by decide) rfl (fun ls hl => ?_)
      refine lv_iconst hx hb dX12_findRound_267 ki_0 ?_
      refine lv_istore (lv' := [(11, .int (0 : Int32)), (3, .int x9), (0, .ref (ad G 10 0)), (1, .int x1), (2, .int x2), (4, .int x4), (5, .int x5), (9, .int x9)]) hx hb dX12_findRound_268 hl (by decide) rfl (fun ls hl => ?_)
      obtain ⟨n270, h⟩ := h
      exact w270 _ _ n270 _ h H locs ls hW hS (lv_sub hl [2, 3, 4, 1, 5, 6, 0] rfl)
    have b246 : ∀ (M : Mem) (x3 : Int32) (x5 : Int32) (x8 : Int32) (y0 : Int32) (y1 : Int32) (H : Heap) (locs : List Loc) (ls : Array Slot), WPm G M H → va_S (fun q => bs G ≤ q) s.heap H locs → lv_has ls 12 [(0, .ref (ad G 10 0)), (1, .int x1), (2, .int x2), (3, .int x3), (4, .int x4), (5, .int x5), (8, .int x8)] → s_X12_findRound_246 x1 x2 x4 P K36 M x3 x5 x8 y0 y1 → W p l e rm_X12_findRound s m AV below meth c H locs 0 0 (MQ below (va_Qi P (WS G) (fun q => bs G ≤ q)) AV s 0 0 (fun q => bs G ≤ q)) (F0 m 246 ls [.int y0, .int y1]) := by
      intro M x3 x5 x8 y0 y1 H locs ls hW hS hl h
      unfold s_X12_findRound_246 at h
      refine lv_iadd hx hb dX12_findRound_246 ?_
      refine lv_topi (fun x9_247 ex9_247 => ?_)
      replace h := h x9_247 ex9_247
      refine lv_istore (lv' := [(9, .int x9_247), (0, .ref (ad G 10 0)), (1, .int x1), (2, .int x2), (3, .int x3), (4, .int x4), (5, .int x5), (8, .int x8)]) hx hb dX12_findRound_247 hl (by decide) rfl (fun ls hl => ?_)
      refine lv_iload hx hb dX12_findRound_249 (lv_at hl 7 rfl) ?_
      refine lv_if_eq (tgt := 299) hx hb dX12_findRound_251 (by decide) (fun c251 => ?_) (fun c251 => ?_)
      · replace h := h.1 c251
        obtain ⟨x5_299, ex5_299⟩ : ∃ z : Int32, z = x5 + (1 : Int32) := ⟨_, rfl⟩
        replace h := h x5_299 ex5_299
        refine lv_iinc (v := x5_299) (lv' := [(5, .int x5_299), (9, .int x9_247), (0, .ref (ad G 10 0)), (1, .int x1), (2, .int x2), (3, .int x3), (4, .int x4), (8, .int x8)]) hx hb dX12_findRound_299 hl (k := 6) rfl (by rw [ex5_299, ki_1]) (by decide) rfl (fun ls hl => ?_)
        refine lv_goto (tgt := 36) hx hb dX12_findRound_302 (by decide) ?_
        exact kk36 _ h H locs ls hW hS (lv_sub hl [2, 3, 4, 5, 6, 0] rfl)
      · replace h := h.2 c251
        refine lv_iload_n hx hb dX12_findRound_254 rfl (lv_at hl 4 rfl) ?_
        refine lv_if_lt (tgt := 264) hx hb dX12_findRound_255 (by decide) (fun c255 => ?_) (fun c255 => ?_)
        · replace h := h.1 c255
          exact b264 _ _ _ H locs ls hW hS (lv_sub hl [1, 2, 3, 5, 6, 0] rfl) h
        · replace h := h.2 c255
          refine lv_iload hx hb dX12_findRound_258 (lv_at hl 0 rfl) ?_
          refine lv_iload_n hx hb dX12_findRound_260 rfl (lv_at hl 4 rfl) ?_
          refine lv_icmp_ge (tgt := 299) hx hb dX12_findRound_261 (by decide) (fun c261 => ?_) (fun c261 => ?_)
          · replace h := h.1 c261
            obtain ⟨x5_299, ex5_299⟩ : ∃ z : Int32, z = x5 + (1 : Int32) := ⟨_, rfl⟩
            replace h := h x5_299 ex5_299
            refine lv_iinc (v := x5_299) (lv' := [(5, .int x5_299), (9, .int x9_247), (0, .ref (ad G 10 0)), (1, .int x1), (2, .int x2), (3, .int x3), (4, .int x4), (8, .int x8)]) hx hb dX12_findRound_299 hl (k := 6) rfl (by rw [ex5_299, ki_1]) (by decide) rfl (fun ls hl => ?_)
            refine lv_goto (tgt := 36) hx hb dX12_findRound_302 (by decide) ?_
            exact kk36 _ h H locs ls hW hS (lv_sub hl [2, 3, 4, 5, 6, 0] rfl)
          · replace h := h.2 c261
            exact b264 _ _ _ H locs ls hW hS (lv_sub hl [1, 2, 3, 5, 6, 0] rfl) h
    have b227 : ∀ (M : Mem) (x3 : Int32) (x5 : Int32) (x8 : Int32) (x9 : Int32) (x10 : Int32) (H : Heap) (locs : List Loc) (ls : Array Slot), WPm G M H → va_S (fun q => bs G ≤ q) s.heap H locs → lv_has ls 12 [(0, .ref (ad G 10 0)), (1, .int x1), (2, .int x2), (3, .int x3), (4, .int x4), (5, .int x5), (8, .int x8), (9, .int x9), (10, .int x10)] → s_X12_findRound_227 x1 x2 x4 P K36 M x3 x5 x8 x9 x10 → W p l e rm_X12_findRound s m AV below meth c H locs 0 0 (MQ below (va_Qi P (WS G) (fun q => bs G ≤ q)) AV s 0 0 (fun q => bs G ≤ q)) (F0 m 227 ls []) := by
      intro M x3 x5 x8 x9 x10 H locs ls hW hS hl h
      unfold s_X12_findRound_227 at h
      refine lv_iload hx hb dX12_findRound_227 (lv_at hl 7 rfl) ?_
      refine lv_iload hx hb dX12_findRound_229 (lv_at hl 6 rfl) ?_
      refine lv_if_eq (tgt := 245) hx hb dX12_findRound_231 (by decide) (fun c231 => ?_) (fun c231 => ?_)
      · replace h := h.1 c231
        refine lv_iconst hx hb dX12_findRound_245 ki_0 ?_
        exact b246 _ _ _ _ _ _ H locs ls hW hS (lv_sub hl [0, 1, 2, 3, 4, 5, 6] rfl) h
      · replace h := h.2 c231
        refine lv_aload_n hx hb dX12_findRound_234 rfl (lv_at hl 0 rfl) ?_
        refine lv_iload_n hx hb dX12_findRound_235 rfl (lv_at hl 1 rfl) ?_
        refine lv_iload hx hb dX12_findRound_236 (lv_at hl 8 rfl) ?_
        refine lv_iconst hx hb dX12_findRound_238 ki_m1 ?_
        refine m_ci0 (m_rV S hKX hW (m_szH hbs hS) (c_X12_farOf l ) h lk_X12_306 (m_recv hK hW (ci_10 (Nat.le_of_ble_eq_true rfl)) (rc_10 G) rfl) rfl hl.1 rfl ⟨Nat.le_of_ble_eq_true rfl, Nat.le_of_ble_eq_true rfl⟩ (Nat.le_of_ble_eq_true rfl) ⟨Nat.le_of_ble_eq_true rfl, Nat.le_of_ble_eq_true rfl⟩ dX12_findRound_239) hS rfl rfl (fun rr239 Mm239 H locs h hW hS => ?_)
        refine lv_goto (tgt := 246) hx hb dX12_findRound_242 (by decide) ?_
        exact b246 _ _ _ _ _ _ H locs ls hW hS (lv_sub hl [0, 1, 2, 3, 4, 5, 6] rfl) h
    have w150 : ∀ (x3 : Int32) (x5 : Int32), ∀ (n : Nat) (a : Mem × Int32 × Int32 × Int32 × Int32), Lz (fun (K150 : Mem × Int32 × Int32 × Int32 × Int32 → Prop) (a : Mem × Int32 × Int32 × Int32 × Int32) => s_X12_findRound_150 x1 x2 x3 x4 x5 P K36 K150 a.1 a.2.1 a.2.2.1 a.2.2.2.1 a.2.2.2.2) n a → ∀ (H : Heap) (locs : List Loc) (ls : Array Slot), WPm G a.1 H → va_S (fun q => bs G ≤ q) s.heap H locs → lv_has ls 12 [(0, .ref (ad G 10 0)), (1, .int x1), (2, .int x2), (3, .int x3), (4, .int x4), (5, .int x5), (8, .int a.2.1), (9, .int a.2.2.1), (10, .int a.2.2.2.1), (11, .int a.2.2.2.2)] → W p l e rm_X12_findRound s m AV below meth c H locs 0 0 (MQ below (va_Qi P (WS G) (fun q => bs G ≤ q)) AV s 0 0 (fun q => bs G ≤ q)) (F0 m 150 ls []) := by
      intro x3 x5
      refine Lz_walk ?_
      rintro K150 kk150 ⟨M, x8, x9, x10, x11⟩ h H locs ls hW hS hl
      replace h : s_X12_findRound_150 x1 x2 x3 x4 x5 P K36 K150 M x8 x9 x10 x11 := h
      replace hW : WPm G M H := hW
      replace hl : lv_has ls 12 [(0, .ref (ad G 10 0)), (1, .int x1), (2, .int x2), (3, .int x3), (4, .int x4), (5, .int x5), (8, .int x8), (9, .int x9), (10, .int x10), (11, .int x11)] := hl
      have b219 : ∀ (M : Mem) (x9 : Int32) (x10 : Int32) (x11 : Int32) (y0 : Int32) (H : Heap) (locs : List Loc) (ls : Array Slot), WPm G M H → va_S (fun q => bs G ≤ q) s.heap H locs → lv_has ls 12 [(0, .ref (ad G 10 0)), (1, .int x1), (2, .int x2), (3, .int x3), (4, .int x4), (5, .int x5), (9, .int x9), (10, .int x10), (11, .int x11)] → s_X12_findRound_219 x1 x2 x3 x4 x5 P K36 K150 M x9 x10 x11 y0 → W p l e rm_X12_findRound s m AV below meth c H locs 0 0 (MQ below (va_Qi P (WS G) (fun q => bs G ≤ q)) AV s 0 0 (fun q => bs G ≤ q)) (F0 m 219 ls [.int y0]) := by
        intro M x9 x10 x11 y0 H locs ls hW hS hl h
        unfold s_X12_findRound_219 at h
        refine lv_istore (lv' := [(8, .int y0), (0, .ref (ad G 10 0)), (1, .int x1), (2, .int x2), (3, .int x3), (4, .int x4), (5, .int x5), (9, .int x9), (10, .int x10), (11, .int x11)]) hx hb dX12_findRound_219 hl (by decide) rfl (fun ls hl => ?_)
        obtain ⟨x11_221, ex11_221⟩ : ∃ z : Int32, z = x11 + (1 : Int32) := ⟨_, rfl⟩
        replace h := h x11_221 ex11_221
        refine lv_iinc (v := x11_221) (lv' := [(11, .int x11_221), (8, .int y0), (0, .ref (ad G 10 0)), (1, .int x1), (2, .int x2), (3, .int x3), (4, .int x4), (5, .int x5), (9, .int x9), (10, .int x10)]) hx hb dX12_findRound_221 hl (k := 9) rfl (by rw [ex11_221, ki_1]) (by decide) rfl (fun ls hl => ?_)
        refine lv_goto (tgt := 150) hx hb dX12_findRound_224 (by decide) ?_
        exact kk150 _ h H locs ls hW hS (lv_sub hl [2, 3, 4, 5, 6, 7, 1, 8, 9, 0] rfl)
      unfold s_X12_findRound_150 at h
      refine lv_iload hx hb dX12_findRound_150 (lv_at hl 9 rfl) ?_
      refine lv_aload_n hx hb dX12_findRound_152 rfl (lv_at hl 0 rfl) ?_
      refine m_geti S hK fk_X12_303 (gi_10_44 G) hW (ci_10 (Nat.le_of_ble_eq_true rfl)) dX12_findRound_153 ?_
      refine lv_icmp_ge (tgt := 227) hx hb dX12_findRound_156 (by decide) (fun c156 => ?_) (fun c156 => ?_)
      · replace h := h.1 c156
        exact b227 _ _ _ _ _ _ H locs ls hW hS (lv_sub hl [0, 1, 2, 3, 4, 5, 6, 7, 8] rfl) h
      · replace h := h.2 c156
        refine lv_iload hx hb dX12_findRound_159 (lv_at hl 6 rfl) ?_
        refine lv_if_eq (tgt := 227) hx hb dX12_findRound_161 (by decide) (fun c161 => ?_) (fun c161 => ?_)
        · replace h := h.1 c161
          exact b227 _ _ _ _ _ _ H locs ls hW hS (lv_sub hl [0, 1, 2, 3, 4, 5, 6, 7, 8] rfl) h
        · replace h := h.2 c161
          refine lv_iload hx hb dX12_findRound_164 (lv_at hl 7 rfl) ?_
          refine lv_aload_n hx hb dX12_findRound_166 rfl (lv_at hl 0 rfl) ?_
          refine lv_iload_n hx hb dX12_findRound_167 rfl (lv_at hl 1 rfl) ?_
          refine lv_iload hx hb dX12_findRound_168 (lv_at hl 8 rfl) ?_
          refine lv_aload_n hx hb dX12_findRound_170 rfl (lv_at hl 0 rfl) ?_
          refine m_getr S hK fk_X12_96 (gr_10_42 G 0) hW (ci_10 (Nat.le_of_ble_eq_true rfl)) dX12_findRound_171 ?_
          refine lv_iload hx hb dX12_findRound_174 (lv_at hl 9 rfl) ?_
          obtain ⟨hb176, h⟩ := h
          refine m_ald S hK (ar_70 G) hW (ci_70 (Nat.le_of_ble_eq_true rfl)) hb176 dX12_findRound_176 ?_
          refine m_ci0 (m_rV S hKX hW (m_szH hbs hS) (c_X12_farOf l ) h lk_X12_306 (m_recv hK hW (ci_10 (Nat.le_of_ble_eq_true rfl)) (rc_10 G) rfl) rfl hl.1 rfl ⟨Nat.le_of_ble_eq_true rfl, Nat.le_of_ble_eq_true rfl⟩ (Nat.le_of_ble_eq_true rfl) ⟨Nat.le_of_ble_eq_true rfl, Nat.le_of_ble_eq_true rfl⟩ dX12_findRound_177) hS rfl rfl (fun rr177 Mm177 H locs h hW hS => ?_)
          refine lv_iadd hx hb dX12_findRound_180 ?_
          refine lv_topi (fun x9_181 ex9_181 => ?_)
          replace h := h x9_181 ex9_181
          refine lv_istore (lv' := [(9, .int x9_181), (0, .ref (ad G 10 0)), (1, .int x1), (2, .int x2), (3, .int x3), (4, .int x4), (5, .int x5), (8, .int x8), (10, .int x10), (11, .int x11)]) hx hb dX12_findRound_181 hl (by decide) rfl (fun ls hl => ?_)
          refine lv_aload_n hx hb dX12_findRound_183 rfl (lv_at hl 1 rfl) ?_
          refine m_getr S hK fk_X12_96 (gr_10_42 G 0) hW (ci_10 (Nat.le_of_ble_eq_true rfl)) dX12_findRound_184 ?_
          refine lv_iload hx hb dX12_findRound_187 (lv_at hl 9 rfl) ?_
          obtain ⟨hb189, h⟩ := h
          refine m_ald S hK (ar_70 G) hW (ci_70 (Nat.le_of_ble_eq_true rfl)) hb189 dX12_findRound_189 ?_
          refine lv_topi (fun x10_190 ex10_190 => ?_)
          replace h := h x10_190 ex10_190
          refine lv_istore (lv' := [(10, .int x10_190), (9, .int x9_181), (0, .ref (ad G 10 0)), (1, .int x1), (2, .int x2), (3, .int x3), (4, .int x4), (5, .int x5), (8, .int x8), (11, .int x11)]) hx hb dX12_findRound_190 hl (by decide) rfl (fun ls hl => ?_)
          refine lv_iload_n hx hb dX12_findRound_192 rfl (lv_at hl 4 rfl) ?_
          refine lv_iload hx hb dX12_findRound_193 (lv_at hl 1 rfl) ?_
          refine lv_iadd hx hb dX12_findRound_195 ?_
          refine lv_aload_n hx hb dX12_findRound_196 rfl (lv_at hl 2 rfl) ?_
          refine m_getr S hK fk_X12_7 (gr_10_1 G 0) hW (ci_10 (Nat.le_of_ble_eq_true rfl)) dX12_findRound_197 ?_
          refine lv_bipush hx hb dX12_findRound_200 kb_50 ?_
          refine lv_aload_n hx hb dX12_findRound_202 rfl (lv_at hl 2 rfl) ?_
          refine m_getr S hK fk_X12_96 (gr_10_42 G 0) hW (ci_10 (Nat.le_of_ble_eq_true rfl)) dX12_findRound_203 ?_
          refine lv_iload hx hb dX12_findRound_206 (lv_at hl 9 rfl) ?_
          obtain ⟨hb208, h⟩ := h
          refine m_ald S hK (ar_70 G) hW (ci_70 (Nat.le_of_ble_eq_true rfl)) hb208 dX12_findRound_208 ?_
          refine lv_iadd hx hb dX12_findRound_209 ?_
          obtain ⟨hb210, h⟩ := h
          refine m_ald S hK (ar_44 G) hW (ci_44 (Nat.le_of_ble_eq_true rfl)) hb210 dX12_findRound_210 ?_
          refine lv_icmp_gt (tgt := 218) hx hb dX12_findRound_211 (by decide) (fun c211 => ?_) (fun c211 => ?_)
          · replace h := h.1 c211
            refine lv_iconst hx hb dX12_findRound_218 ki_0 ?_
            exact b219 _ _ _ _ _ H locs ls hW hS (lv_sub hl [2, 3, 4, 5, 6, 7, 1, 0, 9] rfl) h
          · replace h := h.2 c211
            refine lv_iconst hx hb dX12_findRound_214 ki_1 ?_
            refine lv_goto (tgt := 219) hx hb dX12_findRound_215 (by decide) ?_
            exact b219 _ _ _ _ _ H locs ls hW hS (lv_sub hl [2, 3, 4, 5, 6, 7, 1, 0, 9] rfl) h
    have w61 : ∀ (x3 : Int32) (x5 : Int32), ∀ (n : Nat) (a : Mem × Int32 × Int32 × Int32 × Int32), Lz (fun (K61 : Mem × Int32 × Int32 × Int32 × Int32 → Prop) (a : Mem × Int32 × Int32 × Int32 × Int32) => s_X12_findRound_61 x1 x2 x3 x4 x5 P K36 K61 a.1 a.2.1 a.2.2.1 a.2.2.2.1 a.2.2.2.2) n a → ∀ (H : Heap) (locs : List Loc) (ls : Array Slot), WPm G a.1 H → va_S (fun q => bs G ≤ q) s.heap H locs → lv_has ls 12 [(0, .ref (ad G 10 0)), (1, .int x1), (2, .int x2), (3, .int x3), (4, .int x4), (5, .int x5), (6, .int a.2.1), (7, .int a.2.2.1), (8, .int a.2.2.2.1), (9, .int a.2.2.2.2)] → W p l e rm_X12_findRound s m AV below meth c H locs 0 0 (MQ below (va_Qi P (WS G) (fun q => bs G ≤ q)) AV s 0 0 (fun q => bs G ≤ q)) (F0 m 61 ls []) := by
      intro x3 x5
      refine Lz_walk ?_
      rintro K61 kk61 ⟨M, x6, x7, x8, x9⟩ h H locs ls hW hS hl
      replace h : s_X12_findRound_61 x1 x2 x3 x4 x5 P K36 K61 M x6 x7 x8 x9 := h
      replace hW : WPm G M H := hW
      replace hl : lv_has ls 12 [(0, .ref (ad G 10 0)), (1, .int x1), (2, .int x2), (3, .int x3), (4, .int x4), (5, .int x5), (6, .int x6), (7, .int x7), (8, .int x8), (9, .int x9)] := hl
      have b110 : ∀ (M : Mem) (x6 : Int32) (x7 : Int32) (x9 : Int32) (y0 : Int32) (H : Heap) (locs : List Loc) (ls : Array Slot), WPm G M H → va_S (fun q => bs G ≤ q) s.heap H locs → lv_has ls 12 [(0, .ref (ad G 10 0)), (1, .int x1), (2, .int x2), (3, .int x3), (4, .int x4), (5, .int x5), (6, .int x6), (7, .int x7), (9, .int x9)] → s_X12_findRound_110 x1 x2 x3 x4 x5 P K36 K61 M x6 x7 x9 y0 → W p l e rm_X12_findRound s m AV below meth c H locs 0 0 (MQ below (va_Qi P (WS G) (fun q => bs G ≤ q)) AV s 0 0 (fun q => bs G ≤ q)) (F0 m 110 ls [.int y0]) := by
        intro M x6 x7 x9 y0 H locs ls hW hS hl h
        unfold s_X12_findRound_110 at h
        refine lv_istore (lv' := [(8, .int y0), (0, .ref (ad G 10 0)), (1, .int x1), (2, .int x2), (3, .int x3), (4, .int x4), (5, .int x5), (6, .int x6), (7, .int x7), (9, .int x9)]) hx hb dX12_findRound_110 hl (by decide) rfl (fun ls hl => ?_)
        refine lv_iload hx hb dX12_findRound_112 (lv_at hl 8 rfl) ?_
        refine lv_iconst hx hb dX12_findRound_114 ki_1 ?_
        refine lv_iload hx hb dX12_findRound_115 (lv_at hl 7 rfl) ?_
        refine lv_aload_n hx hb dX12_findRound_117 rfl (lv_at hl 1 rfl) ?_
        refine m_geti S hK fk_X12_303 (gi_10_44 G) hW (ci_10 (Nat.le_of_ble_eq_true rfl)) dX12_findRound_118 ?_
        obtain ⟨hz121, h⟩ := h
        refine lv_irem hx hb dX12_findRound_121 hz121 ?_
        refine lv_ishl hx hb dX12_findRound_122 ?_
        refine lv_ior hx hb dX12_findRound_123 ?_
        refine lv_topi (fun x7_124 ex7_124 => ?_)
        replace h := h x7_124 ex7_124
        refine lv_istore (lv' := [(7, .int x7_124), (8, .int y0), (0, .ref (ad G 10 0)), (1, .int x1), (2, .int x2), (3, .int x3), (4, .int x4), (5, .int x5), (6, .int x6), (9, .int x9)]) hx hb dX12_findRound_124 hl (by decide) rfl (fun ls hl => ?_)
        refine lv_iload hx hb dX12_findRound_126 (lv_at hl 8 rfl) ?_
        refine lv_aload_n hx hb dX12_findRound_128 rfl (lv_at hl 2 rfl) ?_
        refine m_geti S hK fk_X12_303 (gi_10_44 G) hW (ci_10 (Nat.le_of_ble_eq_true rfl)) dX12_findRound_129 ?_
        obtain ⟨hz132, h⟩ := h
        refine lv_idiv hx hb dX12_findRound_132 hz132 ?_
        refine lv_topi (fun x6_133 ex6_133 => ?_)
        replace h := h x6_133 ex6_133
        refine lv_istore (lv' := [(6, .int x6_133), (7, .int x7_124), (8, .int y0), (0, .ref (ad G 10 0)), (1, .int x1), (2, .int x2), (3, .int x3), (4, .int x4), (5, .int x5), (9, .int x9)]) hx hb dX12_findRound_133 hl (by decide) rfl (fun ls hl => ?_)
        obtain ⟨x9_135, ex9_135⟩ : ∃ z : Int32, z = x9 + (-1 : Int32) := ⟨_, rfl⟩
        replace h := h x9_135 ex9_135
        refine lv_iinc (v := x9_135) (lv' := [(9, .int x9_135), (6, .int x6_133), (7, .int x7_124), (8, .int y0), (0, .ref (ad G 10 0)), (1, .int x1), (2, .int x2), (3, .int x3), (4, .int x4), (5, .int x5)]) hx hb dX12_findRound_135 hl (k := 9) rfl (by rw [ex9_135, ki_m1]) (by decide) rfl (fun ls hl => ?_)
        refine lv_goto (tgt := 61) hx hb dX12_findRound_138 (by decide) ?_
        exact kk61 _ h H locs ls hW hS (lv_sub hl [4, 5, 6, 7, 8, 9, 1, 2, 3, 0] rfl)
      unfold s_X12_findRound_61 at h
      refine lv_iload hx hb dX12_findRound_61 (lv_at hl 9 rfl) ?_
      refine lv_if_lt (tgt := 141) hx hb dX12_findRound_63 (by decide) (fun c63 => ?_) (fun c63 => ?_)
      · replace h := h.1 c63
        refine lv_iconst hx hb dX12_findRound_141 ki_0 ?_
        refine lv_istore (lv' := [(9, .int (0 : Int32)), (0, .ref (ad G 10 0)), (1, .int x1), (2, .int x2), (3, .int x3), (4, .int x4), (5, .int x5), (6, .int x6), (7, .int x7), (8, .int x8)]) hx hb dX12_findRound_142 hl (by decide) rfl (fun ls hl => ?_)
        refine lv_iconst hx hb dX12_findRound_144 ki_m1 ?_
        refine lv_istore (lv' := [(10, .int (-1 : Int32)), (9, .int (0 : Int32)), (0, .ref (ad G 10 0)), (1, .int x1), (2, .int x2), (3, .int x3), (4, .int x4), (5, .int x5), (6, .int x6), (7, .int x7), (8, .int x8)]) hx hb dX12_findRound_145 hl (by decide) rfl (fun ls hl => ?_)
        refine lv_iconst hx hb dX12_findRound_147 ki_0 ?_
        refine lv_istore (lv' := [(11, .int (0 : Int32)), (10, .int (-1 : Int32)), (9, .int (0 : Int32)), (0, .ref (ad G 10 0)), (1, .int x1), (2, .int x2), (3, .int x3), (4, .int x4), (5, .int x5), (6, .int x6), (7, .int x7), (8, .int x8)]) hx hb dX12_findRound_148 hl (by decide) rfl (fun ls hl => ?_)
        obtain ⟨n150, h⟩ := h
        exact w150 _ _ n150 _ h H locs ls hW hS (lv_sub hl [3, 4, 5, 6, 7, 8, 11, 2, 1, 0] rfl)
      · replace h := h.2 c63
        refine lv_aload_n hx hb dX12_findRound_66 rfl (lv_at hl 0 rfl) ?_
        refine m_getr S hK fk_X12_96 (gr_10_42 G 0) hW (ci_10 (Nat.le_of_ble_eq_true rfl)) dX12_findRound_67 ?_
        refine lv_iload hx hb dX12_findRound_70 (lv_at hl 9 rfl) ?_
        refine lv_aload_n hx hb dX12_findRound_72 rfl (lv_at hl 0 rfl) ?_
        refine m_getr S hK fk_X12_93 (gr_10_41 G 0) hW (ci_10 (Nat.le_of_ble_eq_true rfl)) dX12_findRound_73 ?_
        refine lv_iload hx hb dX12_findRound_76 (lv_at hl 6 rfl) ?_
        refine lv_aload_n hx hb dX12_findRound_78 rfl (lv_at hl 0 rfl) ?_
        refine m_geti S hK fk_X12_303 (gi_10_44 G) hW (ci_10 (Nat.le_of_ble_eq_true rfl)) dX12_findRound_79 ?_
        obtain ⟨hz82, h⟩ := h
        refine lv_irem hx hb dX12_findRound_82 hz82 ?_
        obtain ⟨hb83, h⟩ := h
        refine m_ald S hK (ar_69 G) hW (ci_69 (Nat.le_of_ble_eq_true rfl)) hb83 dX12_findRound_83 ?_
        obtain ⟨hb84, h⟩ := h
        refine m_ast S hK (ar_70 G) hW hS (ci_70 (Nat.le_of_ble_eq_true rfl)) hb84 dX12_findRound_84 (fun Mm84 eMm84 H locs hW hS => ?_)
        replace h := h Mm84 eMm84
        refine lv_iload hx hb dX12_findRound_85 (lv_at hl 8 rfl) ?_
        refine lv_if_eq (tgt := 109) hx hb dX12_findRound_87 (by decide) (fun c87 => ?_) (fun c87 => ?_)
        · replace h := h.1 c87
          refine lv_iconst hx hb dX12_findRound_109 ki_0 ?_
          exact b110 _ _ _ _ _ H locs ls hW hS (lv_sub hl [0, 1, 2, 3, 4, 5, 6, 7, 9] rfl) h
        · replace h := h.2 c87
          refine lv_iload hx hb dX12_findRound_90 (lv_at hl 7 rfl) ?_
          refine lv_iload hx hb dX12_findRound_92 (lv_at hl 6 rfl) ?_
          refine lv_aload_n hx hb dX12_findRound_94 rfl (lv_at hl 0 rfl) ?_
          refine m_geti S hK fk_X12_303 (gi_10_44 G) hW (ci_10 (Nat.le_of_ble_eq_true rfl)) dX12_findRound_95 ?_
          obtain ⟨hz98, h⟩ := h
          refine lv_irem hx hb dX12_findRound_98 hz98 ?_
          refine lv_ishr hx hb dX12_findRound_99 ?_
          refine lv_iconst hx hb dX12_findRound_100 ki_1 ?_
          refine lv_iand hx hb dX12_findRound_101 ?_
          refine lv_if_ne (tgt := 109) hx hb dX12_findRound_102 (by decide) (fun c102 => ?_) (fun c102 => ?_)
          · replace h := h.1 c102
            refine lv_iconst hx hb dX12_findRound_109 ki_0 ?_
            exact b110 _ _ _ _ _ H locs ls hW hS (lv_sub hl [0, 1, 2, 3, 4, 5, 6, 7, 9] rfl) h
          · replace h := h.2 c102
            refine lv_iconst hx hb dX12_findRound_105 ki_1 ?_
            refine lv_goto (tgt := 110) hx hb dX12_findRound_106 (by decide) ?_
            exact b110 _ _ _ _ _ H locs ls hW hS (lv_sub hl [0, 1, 2, 3, 4, 5, 6, 7, 9] rfl) h
    unfold s_X12_findRound_36 at h
    refine lv_iload hx hb dX12_findRound_36 (lv_at hl 5 rfl) ?_
    refine lv_iload hx hb dX12_findRound_38 (lv_at hl 4 rfl) ?_
    refine lv_icmp_ge (tgt := 305) hx hb dX12_findRound_40 (by decide) (fun c40 => ?_) (fun c40 => ?_)
    · replace h := h.1 c40
      refine lv_iload_n hx hb dX12_findRound_305 rfl (lv_at hl 3 rfl) ?_
      exact m_iret S hret hlocks hKX hW hbs hS rfl h dX12_findRound_306
    · replace h := h.2 c40
      refine lv_iload hx hb dX12_findRound_43 (lv_at hl 5 rfl) ?_
      refine lv_istore (lv' := [(6, .int x5), (0, .ref (ad G 10 0)), (1, .int x1), (2, .int x2), (3, .int x3), (4, .int x4), (5, .int x5)]) hx hb dX12_findRound_45 hl (by decide) rfl (fun ls hl => ?_)
      refine lv_iconst hx hb dX12_findRound_47 ki_0 ?_
      refine lv_istore (lv' := [(7, .int (0 : Int32)), (6, .int x5), (0, .ref (ad G 10 0)), (1, .int x1), (2, .int x2), (3, .int x3), (4, .int x4), (5, .int x5)]) hx hb dX12_findRound_48 hl (by decide) rfl (fun ls hl => ?_)
      refine lv_iconst hx hb dX12_findRound_50 ki_1 ?_
      refine lv_istore (lv' := [(8, .int (1 : Int32)), (7, .int (0 : Int32)), (6, .int x5), (0, .ref (ad G 10 0)), (1, .int x1), (2, .int x2), (3, .int x3), (4, .int x4), (5, .int x5)]) hx hb dX12_findRound_51 hl (by decide) rfl (fun ls hl => ?_)
      refine lv_aload_n hx hb dX12_findRound_53 rfl (lv_at hl 3 rfl) ?_
      refine m_geti S hK fk_X12_303 (gi_10_44 G) hW (ci_10 (Nat.le_of_ble_eq_true rfl)) dX12_findRound_54 ?_
      refine lv_iconst hx hb dX12_findRound_57 ki_1 ?_
      refine lv_isub hx hb dX12_findRound_58 ?_
      refine lv_topi (fun x9_59 ex9_59 => ?_)
      replace h := h x9_59 ex9_59
      refine lv_istore (lv' := [(9, .int x9_59), (8, .int (1 : Int32)), (7, .int (0 : Int32)), (6, .int x5), (0, .ref (ad G 10 0)), (1, .int x1), (2, .int x2), (3, .int x3), (4, .int x4), (5, .int x5)]) hx hb dX12_findRound_59 hl (by decide) rfl (fun ls hl => ?_)
      obtain ⟨n61, h⟩ := h
      exact w61 _ _ n61 _ h H locs ls hW hS (lv_sub hl [4, 5, 6, 7, 8, 9, 3, 2, 1, 0] rfl)
  have w9 : ∀ (x3 : Int32), ∀ (n : Nat) (a : Mem × Int32 × Int32), Lz (fun (K9 : Mem × Int32 × Int32 → Prop) (a : Mem × Int32 × Int32) => s_X12_findRound_9 x1 x2 x3 P K9 a.1 a.2.1 a.2.2) n a → ∀ (H : Heap) (locs : List Loc) (ls : Array Slot), WPm G a.1 H → va_S (fun q => bs G ≤ q) s.heap H locs → lv_has ls 12 [(0, .ref (ad G 10 0)), (1, .int x1), (2, .int x2), (3, .int x3), (4, .int a.2.1), (5, .int a.2.2)] → W p l e rm_X12_findRound s m AV below meth c H locs 0 0 (MQ below (va_Qi P (WS G) (fun q => bs G ≤ q)) AV s 0 0 (fun q => bs G ≤ q)) (F0 m 9 ls []) := by
    intro x3
    refine Lz_walk ?_
    rintro K9 kk9 ⟨M, x4, x5⟩ h H locs ls hW hS hl
    replace h : s_X12_findRound_9 x1 x2 x3 P K9 M x4 x5 := h
    replace hW : WPm G M H := hW
    replace hl : lv_has ls 12 [(0, .ref (ad G 10 0)), (1, .int x1), (2, .int x2), (3, .int x3), (4, .int x4), (5, .int x5)] := hl
    unfold s_X12_findRound_9 at h
    refine lv_iload hx hb dX12_findRound_9 (lv_at hl 5 rfl) ?_
    refine lv_aload_n hx hb dX12_findRound_11 rfl (lv_at hl 0 rfl) ?_
    refine m_geti S hK fk_X12_303 (gi_10_44 G) hW (ci_10 (Nat.le_of_ble_eq_true rfl)) dX12_findRound_12 ?_
    refine lv_icmp_ge (tgt := 33) hx hb dX12_findRound_15 (by decide) (fun c15 => ?_) (fun c15 => ?_)
    · replace h := h.1 c15
      refine lv_iconst hx hb dX12_findRound_33 ki_0 ?_
      refine lv_istore (lv' := [(5, .int (0 : Int32)), (0, .ref (ad G 10 0)), (1, .int x1), (2, .int x2), (3, .int x3), (4, .int x4)]) hx hb dX12_findRound_34 hl (by decide) rfl (fun ls hl => ?_)
      obtain ⟨n36, h⟩ := h
      exact w36 _ n36 _ h H locs ls hW hS (lv_sub hl [1, 2, 3, 4, 5, 0] rfl)
    · replace h := h.2 c15
      refine lv_iload hx hb dX12_findRound_18 (lv_at hl 4 rfl) ?_
      refine lv_aload_n hx hb dX12_findRound_20 rfl (lv_at hl 0 rfl) ?_
      refine m_geti S hK fk_X12_303 (gi_10_44 G) hW (ci_10 (Nat.le_of_ble_eq_true rfl)) dX12_findRound_21 ?_
      refine lv_imul hx hb dX12_findRound_24 ?_
      refine lv_topi (fun x4_25 ex4_25 => ?_)
      replace h := h x4_25 ex4_25
      refine lv_istore (lv' := [(4, .int x4_25), (0, .ref (ad G 10 0)), (1, .int x1), (2, .int x2), (3, .int x3), (5, .int x5)]) hx hb dX12_findRound_25 hl (by decide) rfl (fun ls hl => ?_)
      obtain ⟨x5_27, ex5_27⟩ : ∃ z : Int32, z = x5 + (1 : Int32) := ⟨_, rfl⟩
      replace h := h x5_27 ex5_27
      refine lv_iinc (v := x5_27) (lv' := [(5, .int x5_27), (4, .int x4_25), (0, .ref (ad G 10 0)), (1, .int x1), (2, .int x2), (3, .int x3)]) hx hb dX12_findRound_27 hl (k := 5) rfl (by rw [ex5_27, ki_1]) (by decide) rfl (fun ls hl => ?_)
      refine lv_goto (tgt := 9) hx hb dX12_findRound_30 (by decide) ?_
      exact kk9 _ h H locs ls hW hS (lv_sub hl [2, 3, 4, 5, 1, 0] rfl)
  unfold s_X12_findRound at h
  refine lv_bipush hx hb dX12_findRound_0 kb_m4 ?_
  refine lv_istore_n (lv' := [(3, .int (-4 : Int32)), (0, .ref (ad G 10 0)), (1, .int x1), (2, .int x2)]) hx hb dX12_findRound_2 rfl hl (by decide) rfl (fun ls hl => ?_)
  refine lv_iconst hx hb dX12_findRound_3 ki_1 ?_
  refine lv_istore (lv' := [(4, .int (1 : Int32)), (3, .int (-4 : Int32)), (0, .ref (ad G 10 0)), (1, .int x1), (2, .int x2)]) hx hb dX12_findRound_4 hl (by decide) rfl (fun ls hl => ?_)
  refine lv_iconst hx hb dX12_findRound_6 ki_0 ?_
  refine lv_istore (lv' := [(5, .int (0 : Int32)), (4, .int (1 : Int32)), (3, .int (-4 : Int32)), (0, .ref (ad G 10 0)), (1, .int x1), (2, .int x2)]) hx hb dX12_findRound_7 hl (by decide) rfl (fun ls hl => ?_)
  obtain ⟨n9, h⟩ := h
  exact w9 _ n9 _ h H locs ls hW hS (lv_sub hl [3, 4, 5, 2, 1, 0] rfl)
abbrev rm_X12_findStops : Room := { frames := 2, cells := 0, slots := 0, locals := 43 }
set_option maxHeartbeats 4000000 in
set_option maxRecDepth 100000 in
theorem c_X12_findStops (l : Launch) {G : Gn} {M : Mem} {x1 : Int32} {P : Int32 → Mem → Prop} : MQi l yX12_findStops cX12_findStops 5 (some .int) rm_X12_findStops [.ref (ad G 10 0), .int x1] G M (s_X12_findStops M x1 P) P := by
  refine m_enter (by decide +kernel) (Nat.le_of_ble_eq_true rfl) ?_
  intro p e s m below meth c ls H locs S hret hlocks hname hKX hbs hW hS hl h
  obtain ⟨AV, hAV⟩ : ∃ z : Array Value, z = ([.ref (ad G 10 0), .int x1] : List Value).toArray := ⟨_, rfl⟩
  rw [← hAV] at S ⊢
  replace S : CallFix p m c cX12_findStops 5 s AV lw_G "MilkDeskModel" := S
  have hK := hKX.1
  have hx := S.1
  have hb := S.2.1
  have hml := S.2.2.1
  have hown := S.2.2.2.1
  have hts := S.2.2.2.2
  replace hl : lv_has ls 5 [(0, .ref (ad G 10 0)), (1, .int x1)] := hl
  have w25 : ∀ (n : Nat) (a : Mem × Int32), Lz (fun (K25 : Mem × Int32 → Prop) (a : Mem × Int32) => s_X12_findStops_25 x1 P K25 a.1 a.2) n a → ∀ (H : Heap) (locs : List Loc) (ls : Array Slot), WPm G a.1 H → va_S (fun q => bs G ≤ q) s.heap H locs → lv_has ls 5 [(0, .ref (ad G 10 0)), (1, .int x1), (2, .int a.2)] → W p l e rm_X12_findStops s m AV below meth c H locs 0 0 (MQ below (va_Qi P (WS G) (fun q => bs G ≤ q)) AV s 0 0 (fun q => bs G ≤ q)) (F0 m 25 ls []) := by
    refine Lz_walk ?_
    rintro K25 kk25 ⟨M, x2⟩ h H locs ls hW hS hl
    replace h : s_X12_findStops_25 x1 P K25 M x2 := h
    replace hW : WPm G M H := hW
    replace hl : lv_has ls 5 [(0, .ref (ad G 10 0)), (1, .int x1), (2, .int x2)] := hl
    have b126 : ∀ (M : Mem) (x2 : Int32) (x3 : Int32) (x4 : Int32) (H : Heap) (locs : List Loc) (ls : Array Slot), WPm G M H → va_S (fun q => bs G ≤ q) s.heap H locs → lv_has ls 5 [(0, .ref (ad G 10 0)), (1, .int x1), (2, .int x2), (3, .int x3), (4, .int x4)] → s_X12_findStops_126 x1 P K25 M x2 x3 x4 → W p l e rm_X12_findStops s m AV below meth c H locs 0 0 (MQ below (va_Qi P (WS G) (fun q => bs G ≤ q)) AV s 0 0 (fun q => bs G ≤ q)) (F0 m 126 ls []) := by
      intro M x2 x3 x4 H locs ls hW hS hl h
      unfold s_X12_findStops_126 at h
      refine lv_aload_n hx hb dX12_findStops_126 rfl (lv_at hl 0 rfl) ?_
      refine m_getr S hK fk_X12_93 (gr_10_41 G 0) hW (ci_10 (Nat.le_of_ble_eq_true rfl)) dX12_findStops_127 ?_
      refine lv_iload hx hb dX12_findStops_130 (lv_at hl 4 rfl) ?_
      refine lv_iload_n hx hb dX12_findStops_132 rfl (lv_at hl 3 rfl) ?_
      obtain ⟨hb133, h⟩ := h
      refine m_ast S hK (ar_69 G) hW hS (ci_69 (Nat.le_of_ble_eq_true rfl)) hb133 dX12_findStops_133 (fun Mm133 eMm133 H locs hW hS => ?_)
      replace h := h Mm133 eMm133
      refine lv_aload_n hx hb dX12_findStops_134 rfl (lv_at hl 0 rfl) ?_
      refine lv_dup hx hb dX12_findStops_135 rfl ?_
      refine m_geti S hK fk_X12_303 (gi_10_44 G) hW (ci_10 (Nat.le_of_ble_eq_true rfl)) dX12_findStops_136 ?_
      refine lv_iconst hx hb dX12_findStops_139 ki_1 ?_
      refine lv_iadd hx hb dX12_findStops_140 ?_
      refine m_put S hK fk_X12_303 tyX12_ok nmX12 rfl pf_X12_44 (pv_10_44 G) hW hS (ci_10 (Nat.le_of_ble_eq_true rfl)) rfl rfl dX12_findStops_141 (fun Mm141 eMm141 H locs hW hS => ?_)
      replace h := h Mm141 eMm141
      obtain ⟨x2_144, ex2_144⟩ : ∃ z : Int32, z = x2 + (1 : Int32) := ⟨_, rfl⟩
      replace h := h x2_144 ex2_144
      refine lv_iinc (v := x2_144) (lv' := [(2, .int x2_144), (0, .ref (ad G 10 0)), (1, .int x1), (3, .int x3), (4, .int x4)]) hx hb dX12_findStops_144 hl (k := 2) rfl (by rw [ex2_144, ki_1]) (by decide) rfl (fun ls hl => ?_)
      refine lv_goto (tgt := 25) hx hb dX12_findStops_147 (by decide) ?_
      exact kk25 _ h H locs ls hW hS (lv_sub hl [1, 2, 0] rfl)
    have b105 : ∀ (M : Mem) (x2 : Int32) (x3 : Int32) (x4 : Int32) (H : Heap) (locs : List Loc) (ls : Array Slot), WPm G M H → va_S (fun q => bs G ≤ q) s.heap H locs → lv_has ls 5 [(0, .ref (ad G 10 0)), (1, .int x1), (2, .int x2), (3, .int x3), (4, .int x4)] → s_X12_findStops_105 x1 P K25 M x2 x3 x4 → W p l e rm_X12_findStops s m AV below meth c H locs 0 0 (MQ below (va_Qi P (WS G) (fun q => bs G ≤ q)) AV s 0 0 (fun q => bs G ≤ q)) (F0 m 105 ls []) := by
      intro M x2 x3 x4 H locs ls hW hS hl h
      unfold s_X12_findStops_105 at h
      refine lv_iload hx hb dX12_findStops_105 (lv_at hl 4 rfl) ?_
      refine lv_if_le (tgt := 126) hx hb dX12_findStops_107 (by decide) (fun c107 => ?_) (fun c107 => ?_)
      · replace h := h.1 c107
        exact b126 _ _ _ _ H locs ls hW hS (lv_sub hl [0, 1, 2, 3, 4] rfl) h
      · replace h := h.2 c107
        refine lv_aload_n hx hb dX12_findStops_110 rfl (lv_at hl 0 rfl) ?_
        refine m_getr S hK fk_X12_93 (gr_10_41 G 0) hW (ci_10 (Nat.le_of_ble_eq_true rfl)) dX12_findStops_111 ?_
        refine lv_iload hx hb dX12_findStops_114 (lv_at hl 4 rfl) ?_
        refine lv_iconst hx hb dX12_findStops_116 ki_1 ?_
        refine lv_isub hx hb dX12_findStops_117 ?_
        obtain ⟨hb118, h⟩ := h
        refine m_ald S hK (ar_69 G) hW (ci_69 (Nat.le_of_ble_eq_true rfl)) hb118 dX12_findStops_118 ?_
        refine lv_iload_n hx hb dX12_findStops_119 rfl (lv_at hl 3 rfl) ?_
        refine lv_icmp_ne (tgt := 126) hx hb dX12_findStops_120 (by decide) (fun c120 => ?_) (fun c120 => ?_)
        · replace h := h.1 c120
          exact b126 _ _ _ _ H locs ls hW hS (lv_sub hl [0, 1, 2, 3, 4] rfl) h
        · replace h := h.2 c120
          refine lv_bipush hx hb dX12_findStops_123 kb_m13 ?_
          exact m_iret S hret hlocks hKX hW hbs hS rfl h dX12_findStops_125
    have w65 : ∀ (x2 : Int32) (x3 : Int32), ∀ (n : Nat) (a : Mem × Int32), Lz (fun (K65 : Mem × Int32 → Prop) (a : Mem × Int32) => s_X12_findStops_65 x1 x2 x3 P K25 K65 a.1 a.2) n a → ∀ (H : Heap) (locs : List Loc) (ls : Array Slot), WPm G a.1 H → va_S (fun q => bs G ≤ q) s.heap H locs → lv_has ls 5 [(0, .ref (ad G 10 0)), (1, .int x1), (2, .int x2), (3, .int x3), (4, .int a.2)] → W p l e rm_X12_findStops s m AV below meth c H locs 0 0 (MQ below (va_Qi P (WS G) (fun q => bs G ≤ q)) AV s 0 0 (fun q => bs G ≤ q)) (F0 m 65 ls []) := by
      intro x2 x3
      refine Lz_walk ?_
      rintro K65 kk65 ⟨M, x4⟩ h H locs ls hW hS hl
      replace h : s_X12_findStops_65 x1 x2 x3 P K25 K65 M x4 := h
      replace hW : WPm G M H := hW
      replace hl : lv_has ls 5 [(0, .ref (ad G 10 0)), (1, .int x1), (2, .int x2), (3, .int x3), (4, .int x4)] := hl
      unfold s_X12_findStops_65 at h
      refine lv_iload hx hb dX12_findStops_65 (lv_at hl 4 rfl) ?_
      refine lv_if_le (tgt := 105) hx hb dX12_findStops_67 (by decide) (fun c67 => ?_) (fun c67 => ?_)
      · replace h := h.1 c67
        exact b105 _ _ _ _ H locs ls hW hS (lv_sub hl [0, 1, 2, 3, 4] rfl) h
      · replace h := h.2 c67
        refine lv_aload_n hx hb dX12_findStops_70 rfl (lv_at hl 0 rfl) ?_
        refine m_getr S hK fk_X12_93 (gr_10_41 G 0) hW (ci_10 (Nat.le_of_ble_eq_true rfl)) dX12_findStops_71 ?_
        refine lv_iload hx hb dX12_findStops_74 (lv_at hl 4 rfl) ?_
        refine lv_iconst hx hb dX12_findStops_76 ki_1 ?_
        refine lv_isub hx hb dX12_findStops_77 ?_
        obtain ⟨hb78, h⟩ := h
        refine m_ald S hK (ar_69 G) hW (ci_69 (Nat.le_of_ble_eq_true rfl)) hb78 dX12_findStops_78 ?_
        refine lv_iload_n hx hb dX12_findStops_79 rfl (lv_at hl 3 rfl) ?_
        refine lv_icmp_le (tgt := 105) hx hb dX12_findStops_80 (by decide) (fun c80 => ?_) (fun c80 => ?_)
        · replace h := h.1 c80
          exact b105 _ _ _ _ H locs ls hW hS (lv_sub hl [0, 1, 2, 3, 4] rfl) h
        · replace h := h.2 c80
          refine lv_aload_n hx hb dX12_findStops_83 rfl (lv_at hl 0 rfl) ?_
          refine m_getr S hK fk_X12_93 (gr_10_41 G 0) hW (ci_10 (Nat.le_of_ble_eq_true rfl)) dX12_findStops_84 ?_
          refine lv_iload hx hb dX12_findStops_87 (lv_at hl 4 rfl) ?_
          refine lv_aload_n hx hb dX12_findStops_89 rfl (lv_at hl 0 rfl) ?_
          refine m_getr S hK fk_X12_93 (gr_10_41 G 0) hW (ci_10 (Nat.le_of_ble_eq_true rfl)) dX12_findStops_90 ?_
          refine lv_iload hx hb dX12_findStops_93 (lv_at hl 4 rfl) ?_
          refine lv_iconst hx hb dX12_findStops_95 ki_1 ?_
          refine lv_isub hx hb dX12_findStops_96 ?_
          obtain ⟨hb97, h⟩ := h
          refine m_ald S hK (ar_69 G) hW (ci_69 (Nat.le_of_ble_eq_true rfl)) hb97 dX12_findStops_97 ?_
          obtain ⟨hb98, h⟩ := h
          refine m_ast S hK (ar_69 G) hW hS (ci_69 (Nat.le_of_ble_eq_true rfl)) hb98 dX12_findStops_98 (fun Mm98 eMm98 H locs hW hS => ?_)
          replace h := h Mm98 eMm98
          obtain ⟨x4_99, ex4_99⟩ : ∃ z : Int32, z = x4 + (-1 : Int32) := ⟨_, rfl⟩
          replace h := h x4_99 ex4_99
          refine lv_iinc (v := x4_99) (lv' := [(4, .int x4_99), (0, .ref (ad G 10 0)), (1, .int x1), (2, .int x2), (3, .int x3)]) hx hb dX12_findStops_99 hl (k := 4) rfl (by rw [ex4_99, ki_m1]) (by decide) rfl (fun ls hl => ?_)
          refine lv_goto (tgt := 65) hx hb dX12_findStops_102 (by decide) ?_
          exact kk65 _ h H locs ls hW hS (lv_sub hl [1, 2, 3, 4, 0] rfl)
    unfold s_X12_findStops_25 at h
    refine lv_iload_n hx hb dX12_findStops_25 rfl (lv_at hl 2 rfl) ?_
    refine lv_aload_n hx hb dX12_findStops_26 rfl (lv_at hl 0 rfl) ?_
    refine m_getr S hK fk_X12_117 (gr_10_50 G 0) hW (ci_10 (Nat.le_of_ble_eq_true rfl)) dX12_findStops_27 ?_
    refine lv_iload_n hx hb dX12_findStops_30 rfl (lv_at hl 1 rfl) ?_
    obtain ⟨hb31, h⟩ := h
    refine m_ald S hK (ar_77 G) hW (ci_77 (Nat.le_of_ble_eq_true rfl)) hb31 dX12_findStops_31 ?_
    refine lv_icmp_ge (tgt := 150) hx hb dX12_findStops_32 (by decide) (fun c32 => ?_) (fun c32 => ?_)
    · replace h := h.1 c32
      refine lv_iconst hx hb dX12_findStops_150 ki_0 ?_
      exact m_iret S hret hlocks hKX hW hbs hS rfl h dX12_findStops_151
    · replace h := h.2 c32
      refine lv_aload_n hx hb dX12_findStops_35 rfl (lv_at hl 0 rfl) ?_
      refine m_getr S hK fk_X12_120 (gr_10_51 G 0) hW (ci_10 (Nat.le_of_ble_eq_true rfl)) dX12_findStops_36 ?_
      refine lv_bipush hx hb dX12_findStops_39 kb_80 ?_
      refine lv_iload_n hx hb dX12_findStops_41 rfl (lv_at hl 1 rfl) ?_
      refine lv_imul hx hb dX12_findStops_42 ?_
      refine lv_iload_n hx hb dX12_findStops_43 rfl (lv_at hl 2 rfl) ?_
      refine lv_iadd hx hb dX12_findStops_44 ?_
      obtain ⟨hb45, h⟩ := h
      refine m_jald S hK (ar_78 G) hW (ci_78 (Nat.le_of_ble_eq_true rfl)) hb45 dX12_findStops_45 ?_
      refine lv_l2i hx hb dX12_findStops_46 rfl ?_
      refine lv_topi (fun x3_47 ex3_47 => ?_)
      replace h := h x3_47 ex3_47
      refine lv_istore_n (lv' := [(3, .int x3_47), (0, .ref (ad G 10 0)), (1, .int x1), (2, .int x2)]) hx hb dX12_findStops_47 rfl hl (by decide) rfl (fun ls hl => ?_)
      refine lv_aload_n hx hb dX12_findStops_48 rfl (lv_at hl 1 rfl) ?_
      refine lv_iload_n hx hb dX12_findStops_49 rfl (lv_at hl 0 rfl) ?_
      refine m_ci0 (m_rV S hKX hW (m_szH hbs hS) (c_X12_isSchool l ) h lk_X12_139 (m_recv hK hW (ci_10 (Nat.le_of_ble_eq_true rfl)) (rc_10 G) rfl) rfl hl.1 rfl ⟨Nat.le_of_ble_eq_true rfl, Nat.le_of_ble_eq_true rfl⟩ (Nat.le_of_ble_eq_true rfl) ⟨Nat.le_of_ble_eq_true rfl, Nat.le_of_ble_eq_true rfl⟩ dX12_findStops_50) hS rfl rfl (fun rr50 Mm50 H locs h hW hS => ?_)
      refine lv_if_ne (tgt := 59) hx hb dX12_findStops_53 (by decide) (fun c53 => ?_) (fun c53 => ?_)
      · replace h := h.1 c53
        refine lv_aload_n hx hb dX12_findStops_59 rfl (lv_at hl 1 rfl) ?_
        refine m_geti S hK fk_X12_303 (gi_10_44 G) hW (ci_10 (Nat.le_of_ble_eq_true rfl)) dX12_findStops_60 ?_
        refine lv_topi (fun x4_63 ex4_63 => ?_)
        replace h := h x4_63 ex4_63
        refine lv_istore (lv' := [(4, .int x4_63), (3, .int x3_47), (0, .ref (ad G 10 0)), (1, .int x1), (2, .int x2)]) hx hb dX12_findStops_63 hl (by decide) rfl (fun ls hl => ?_)
        obtain ⟨n65, h⟩ := h
        exact w65 _ _ n65 _ h H locs ls hW hS (lv_sub hl [2, 3, 4, 1, 0] rfl)
      · replace h := h.2 c53
        refine lv_bipush hx hb dX12_findStops_56 kb_m13 ?_
        exact m_iret S hret hlocks hKX hW hbs hS rfl h dX12_findStops_58
  unfold s_X12_findStops at h
  refine lv_aload_n hx hb dX12_findStops_0 rfl (lv_at hl 0 rfl) ?_
  refine lv_iconst hx hb dX12_findStops_1 ki_0 ?_
  refine m_put S hK fk_X12_303 tyX12_ok nmX12 rfl pf_X12_44 (pv_10_44 G) hW hS (ci_10 (Nat.le_of_ble_eq_true rfl)) rfl rfl dX12_findStops_2 (fun Mm2 eMm2 H locs hW hS => ?_)
  replace h := h Mm2 eMm2
  refine lv_aload_n hx hb dX12_findStops_5 rfl (lv_at hl 0 rfl) ?_
  refine m_getr S hK fk_X12_117 (gr_10_50 G 0) hW (ci_10 (Nat.le_of_ble_eq_true rfl)) dX12_findStops_6 ?_
  refine lv_iload_n hx hb dX12_findStops_9 rfl (lv_at hl 1 rfl) ?_
  obtain ⟨hb10, h⟩ := h
  refine m_ald S hK (ar_77 G) hW (ci_77 (Nat.le_of_ble_eq_true rfl)) hb10 dX12_findStops_10 ?_
  refine lv_iconst hx hb dX12_findStops_11 ki_1 ?_
  refine lv_bipush hx hb dX12_findStops_12 kb_7 ?_
  refine m_ci0 (m_rS S hKX hW (m_szH hbs hS) (c_X12_in l ) h lk_X12_131 rfl hl.1 rfl ⟨Nat.le_of_ble_eq_true rfl, Nat.le_of_ble_eq_true rfl⟩ (Nat.le_of_ble_eq_true rfl) ⟨Nat.le_of_ble_eq_true rfl, Nat.le_of_ble_eq_true rfl⟩ dX12_findStops_14) hS rfl rfl (fun rr14 Mm14 H locs h hW hS => ?_)
  refine lv_if_ne (tgt := 23) hx hb dX12_findStops_17 (by decide) (fun c17 => ?_) (fun c17 => ?_)
  · replace h := h.1 c17
    refine lv_iconst hx hb dX12_findStops_23 ki_0 ?_
    refine lv_istore_n (lv' := [(2, .int (0 : Int32)), (0, .ref (ad G 10 0)), (1, .int x1)]) hx hb dX12_findStops_24 rfl hl (by decide) rfl (fun ls hl => ?_)
    obtain ⟨n25, h⟩ := h
    exact w25 n25 _ h H locs ls hW hS (lv_sub hl [1, 2, 0] rfl)
  · replace h := h.2 c17
    refine lv_bipush hx hb dX12_findStops_20 kb_m13 ?_
    exact m_iret S hret hlocks hKX hW hbs hS rfl h dX12_findStops_22
abbrev rm_X12_round : Room := { frames := 3, cells := 0, slots := 0, locals := 79 }
set_option maxHeartbeats 4000000 in
set_option maxRecDepth 100000 in
theorem c_X12_round (l : Launch) {G : Gn} {M : Mem} {x1 : Int32} {x2 : Int32} {x3 : Int32} {x4 : Int32} {P : Int32 → Mem → Prop} : MQi l yX12_round cX12_round 7 (some .int) rm_X12_round [.ref (ad G 10 0), .int x1, .int x2, .int x3, .int x4] G M (s_X12_round M x1 x2 x3 x4 P) P := by
  refine m_enter (by decide +kernel) (Nat.le_of_ble_eq_true rfl) ?_
  intro p e s m below meth c ls H locs S hret hlocks hname hKX hbs hW hS hl h
  obtain ⟨AV, hAV⟩ : ∃ z : Array Value, z = ([.ref (ad G 10 0), .int x1, .int x2, .int x3, .int x4] : List Value).toArray := ⟨_, rfl⟩
  rw [← hAV] at S ⊢
  replace S : CallFix p m c cX12_round 7 s AV lw_G "MilkDeskModel" := S
  have hK := hKX.1
  have hx := S.1
  have hb := S.2.1
  have hml := S.2.2.1
  have hown := S.2.2.2.1
  have hts := S.2.2.2.2
  replace hl : lv_has ls 7 [(0, .ref (ad G 10 0)), (1, .int x1), (2, .int x2), (3, .int x3), (4, .int x4)] := hl
  have b70 : ∀ (M : Mem) (y0 : Int32) (H : Heap) (locs : List Loc) (ls : Array Slot), WPm G M H → va_S (fun q => bs G ≤ q) s.heap H locs → lv_has ls 7 [(0, .ref (ad G 10 0)), (1, .int x1), (2, .int x2), (4, .int x4)] → s_X12_round_70 x1 x2 x4 P M y0 → W p l e rm_X12_round s m AV below meth c H locs 0 0 (MQ below (va_Qi P (WS G) (fun q => bs G ≤ q)) AV s 0 0 (fun q => bs G ≤ q)) (F0 m 70 ls [.int y0]) := by
    intro M y0 H locs ls hW hS hl h
    unfold s_X12_round_70 at h
    refine lv_istore (lv' := [(5, .int y0), (0, .ref (ad G 10 0)), (1, .int x1), (2, .int x2), (4, .int x4)]) hx hb dX12_round_70 hl (by decide) rfl (fun ls hl => ?_)
    refine lv_iload hx hb dX12_round_72 (lv_at hl 0 rfl) ?_
    refine lv_if_ge (tgt := 80) hx hb dX12_round_74 (by decide) (fun c74 => ?_) (fun c74 => ?_)
    · replace h := h.1 c74
      refine lv_iload hx hb dX12_round_80 (lv_at hl 4 rfl) ?_
      refine lv_aload_n hx hb dX12_round_82 rfl (lv_at hl 1 rfl) ?_
      refine m_geti S hK fk_X12_303 (gi_10_44 G) hW (ci_10 (Nat.le_of_ble_eq_true rfl)) dX12_round_83 ?_
      refine lv_icmp_lt (tgt := 92) hx hb dX12_round_86 (by decide) (fun c86 => ?_) (fun c86 => ?_)
      · replace h := h.1 c86
        refine lv_aload_n hx hb dX12_round_92 rfl (lv_at hl 1 rfl) ?_
        refine lv_iload_n hx hb dX12_round_93 rfl (lv_at hl 2 rfl) ?_
        refine lv_iload_n hx hb dX12_round_94 rfl (lv_at hl 3 rfl) ?_
        refine m_ci0 (m_rV S hKX hW (m_szH hbs hS) (c_X12_findRound l ) h lk_X12_312 (m_recv hK hW (ci_10 (Nat.le_of_ble_eq_true rfl)) (rc_10 G) rfl) rfl hl.1 rfl ⟨Nat.le_of_ble_eq_true rfl, Nat.le_of_ble_eq_true rfl⟩ (Nat.le_of_ble_eq_true rfl) ⟨Nat.le_of_ble_eq_true rfl, Nat.le_of_ble_eq_true rfl⟩ dX12_round_95) hS rfl rfl (fun rr95 Mm95 H locs h hW hS => ?_)
        refine lv_istore (lv' := [(6, .int rr95), (5, .int y0), (0, .ref (ad G 10 0)), (1, .int x1), (2, .int x2), (4, .int x4)]) hx hb dX12_round_98 hl (by decide) rfl (fun ls hl => ?_)
        refine lv_iload hx hb dX12_round_100 (lv_at hl 0 rfl) ?_
        refine lv_if_ge (tgt := 110) hx hb dX12_round_102 (by decide) (fun c102 => ?_) (fun c102 => ?_)
        · replace h := h.1 c102
          refine lv_iload hx hb dX12_round_110 (lv_at hl 5 rfl) ?_
          refine lv_iconst hx hb dX12_round_112 ki_m1 ?_
          refine lv_icmp_ne (tgt := 121) hx hb dX12_round_113 (by decide) (fun c113 => ?_) (fun c113 => ?_)
          · replace h := h.1 c113
            refine lv_aload_n hx hb dX12_round_121 rfl (lv_at hl 2 rfl) ?_
            refine m_getr S hK fk_X12_99 (gr_10_43 G 0) hW (ci_10 (Nat.le_of_ble_eq_true rfl)) dX12_round_122 ?_
            refine lv_iload hx hb dX12_round_125 (lv_at hl 5 rfl) ?_
            obtain ⟨hb127, h⟩ := h
            refine m_ald S hK (ar_71 G) hW (ci_71 (Nat.le_of_ble_eq_true rfl)) hb127 dX12_round_127 ?_
            exact m_iret S hret hlocks hKX hW hbs hS rfl h dX12_round_128
          · replace h := h.2 c113
            refine lv_iload hx hb dX12_round_116 (lv_at hl 0 rfl) ?_
            refine lv_goto (tgt := 128) hx hb dX12_round_118 (by decide) ?_
            exact m_iret S hret hlocks hKX hW hbs hS rfl h dX12_round_128
        · replace h := h.2 c102
          refine lv_bipush hx hb dX12_round_105 kb_m4 ?_
          refine lv_goto (tgt := 128) hx hb dX12_round_107 (by decide) ?_
          exact m_iret S hret hlocks hKX hW hbs hS rfl h dX12_round_128
      · replace h := h.2 c86
        refine lv_bipush hx hb dX12_round_89 kb_m4 ?_
        exact m_iret S hret hlocks hKX hW hbs hS rfl h dX12_round_91
    · replace h := h.2 c74
      refine lv_iload hx hb dX12_round_77 (lv_at hl 0 rfl) ?_
      exact m_iret S hret hlocks hKX hW hbs hS rfl h dX12_round_79
  unfold s_X12_round at h
  refine lv_aload_n hx hb dX12_round_0 rfl (lv_at hl 0 rfl) ?_
  refine lv_iconst hx hb dX12_round_1 ki_0 ?_
  refine m_put S hK fk_X12_128 tyX12_ok nmX12 rfl pf_X12_0 (pv_10_0 G) hW hS (ci_10 (Nat.le_of_ble_eq_true rfl)) rfl rfl dX12_round_2 (fun Mm2 eMm2 H locs hW hS => ?_)
  replace h := h Mm2 eMm2
  refine lv_aload_n hx hb dX12_round_5 rfl (lv_at hl 0 rfl) ?_
  refine lv_iload_n hx hb dX12_round_6 rfl (lv_at hl 1 rfl) ?_
  refine m_ci0 (m_rV S hKX hW (m_szH hbs hS) (c_X12_isDairy l ) h lk_X12_142 (m_recv hK hW (ci_10 (Nat.le_of_ble_eq_true rfl)) (rc_10 G) rfl) rfl hl.1 rfl ⟨Nat.le_of_ble_eq_true rfl, Nat.le_of_ble_eq_true rfl⟩ (Nat.le_of_ble_eq_true rfl) ⟨Nat.le_of_ble_eq_true rfl, Nat.le_of_ble_eq_true rfl⟩ dX12_round_7) hS rfl rfl (fun rr7 Mm7 H locs h hW hS => ?_)
  refine lv_if_eq (tgt := 45) hx hb dX12_round_10 (by decide) (fun c10 => ?_) (fun c10 => ?_)
  · replace h := h.1 c10
    refine lv_iconst hx hb dX12_round_45 ki_m1 ?_
    exact m_iret S hret hlocks hKX hW hbs hS rfl h dX12_round_46
  · replace h := h.2 c10
    refine lv_iload_n hx hb dX12_round_13 rfl (lv_at hl 2 rfl) ?_
    refine lv_iconst hx hb dX12_round_14 ki_0 ?_
    refine lv_sipush hx hb dX12_round_15 ks_600 ?_
    refine m_ci0 (m_rS S hKX hW (m_szH hbs hS) (c_X12_in l ) h lk_X12_131 rfl hl.1 rfl ⟨Nat.le_of_ble_eq_true rfl, Nat.le_of_ble_eq_true rfl⟩ (Nat.le_of_ble_eq_true rfl) ⟨Nat.le_of_ble_eq_true rfl, Nat.le_of_ble_eq_true rfl⟩ dX12_round_18) hS rfl rfl (fun rr18 Mm18 H locs h hW hS => ?_)
    refine lv_if_eq (tgt := 45) hx hb dX12_round_21 (by decide) (fun c21 => ?_) (fun c21 => ?_)
    · replace h := h.1 c21
      refine lv_iconst hx hb dX12_round_45 ki_m1 ?_
      exact m_iret S hret hlocks hKX hW hbs hS rfl h dX12_round_46
    · replace h := h.2 c21
      refine lv_iload_n hx hb dX12_round_24 rfl (lv_at hl 3 rfl) ?_
      refine lv_iconst hx hb dX12_round_25 ki_0 ?_
      refine lv_bipush hx hb dX12_round_26 kb_7 ?_
      refine m_ci0 (m_rS S hKX hW (m_szH hbs hS) (c_X12_in l ) h lk_X12_131 rfl hl.1 rfl ⟨Nat.le_of_ble_eq_true rfl, Nat.le_of_ble_eq_true rfl⟩ (Nat.le_of_ble_eq_true rfl) ⟨Nat.le_of_ble_eq_true rfl, Nat.le_of_ble_eq_true rfl⟩ dX12_round_28) hS rfl rfl (fun rr28 Mm28 H locs h hW hS => ?_)
      refine lv_if_eq (tgt := 45) hx hb dX12_round_31 (by decide) (fun c31 => ?_) (fun c31 => ?_)
      · replace h := h.1 c31
        refine lv_iconst hx hb dX12_round_45 ki_m1 ?_
        exact m_iret S hret hlocks hKX hW hbs hS rfl h dX12_round_46
      · replace h := h.2 c31
        refine lv_iload hx hb dX12_round_34 (lv_at hl 4 rfl) ?_
        refine lv_iconst hx hb dX12_round_36 ki_m1 ?_
        refine lv_bipush hx hb dX12_round_37 kb_6 ?_
        refine m_ci0 (m_rS S hKX hW (m_szH hbs hS) (c_X12_in l ) h lk_X12_131 rfl hl.1 rfl ⟨Nat.le_of_ble_eq_true rfl, Nat.le_of_ble_eq_true rfl⟩ (Nat.le_of_ble_eq_true rfl) ⟨Nat.le_of_ble_eq_true rfl, Nat.le_of_ble_eq_true rfl⟩ dX12_round_39) hS rfl rfl (fun rr39 Mm39 H locs h hW hS => ?_)
        refine lv_if_ne (tgt := 47) hx hb dX12_round_42 (by decide) (fun c42 => ?_) (fun c42 => ?_)
        · replace h := h.1 c42
          refine lv_aload_n hx hb dX12_round_47 rfl (lv_at hl 0 rfl) ?_
          refine lv_iload_n hx hb dX12_round_48 rfl (lv_at hl 3 rfl) ?_
          refine lv_iconst hx hb dX12_round_49 ki_0 ?_
          refine m_ci0 (m_rV S hKX hW (m_szH hbs hS) (c_X12_lacks l ) h lk_X12_245 (m_recv hK hW (ci_10 (Nat.le_of_ble_eq_true rfl)) (rc_10 G) rfl) rfl hl.1 rfl ⟨Nat.le_of_ble_eq_true rfl, Nat.le_of_ble_eq_true rfl⟩ (Nat.le_of_ble_eq_true rfl) ⟨Nat.le_of_ble_eq_true rfl, Nat.le_of_ble_eq_true rfl⟩ dX12_round_50) hS rfl rfl (fun rr50 Mm50 H locs h hW hS => ?_)
          refine lv_istore (lv' := [(5, .int rr50), (0, .ref (ad G 10 0)), (1, .int x1), (2, .int x2), (3, .int x3), (4, .int x4)]) hx hb dX12_round_53 hl (by decide) rfl (fun ls hl => ?_)
          refine lv_iload hx hb dX12_round_55 (lv_at hl 0 rfl) ?_
          refine lv_if_ne (tgt := 68) hx hb dX12_round_57 (by decide) (fun c57 => ?_) (fun c57 => ?_)
          · replace h := h.1 c57
            refine lv_iload hx hb dX12_round_68 (lv_at hl 0 rfl) ?_
            exact b70 _ _ H locs ls hW hS (lv_sub hl [1, 2, 3, 5] rfl) h
          · replace h := h.2 c57
            refine lv_aload_n hx hb dX12_round_60 rfl (lv_at hl 1 rfl) ?_
            refine lv_iload_n hx hb dX12_round_61 rfl (lv_at hl 4 rfl) ?_
            refine m_ci0 (m_rV S hKX hW (m_szH hbs hS) (c_X12_findStops l ) h lk_X12_309 (m_recv hK hW (ci_10 (Nat.le_of_ble_eq_true rfl)) (rc_10 G) rfl) rfl hl.1 rfl ⟨Nat.le_of_ble_eq_true rfl, Nat.le_of_ble_eq_true rfl⟩ (Nat.le_of_ble_eq_true rfl) ⟨Nat.le_of_ble_eq_true rfl, Nat.le_of_ble_eq_true rfl⟩ dX12_round_62) hS rfl rfl (fun rr62 Mm62 H locs h hW hS => ?_)
            refine lv_goto (tgt := 70) hx hb dX12_round_65 (by decide) ?_
            exact b70 _ _ H locs ls hW hS (lv_sub hl [1, 2, 3, 5] rfl) h
        · replace h := h.2 c42
          refine lv_iconst hx hb dX12_round_45 ki_m1 ?_
          exact m_iret S hret hlocks hKX hW hbs hS rfl h dX12_round_46
abbrev rm_X12_judge : Room := { frames := 2, cells := 0, slots := 0, locals := 48 }
set_option maxHeartbeats 4000000 in
set_option maxRecDepth 100000 in
theorem c_X12_judge (l : Launch) {G : Gn} {M : Mem} {x1 : Int32} {x2 : Int32} {x3 : Int32} {P : Int32 → Mem → Prop} : MQi l yX12_judge cX12_judge 10 (some .int) rm_X12_judge [.ref (ad G 10 0), .int x1, .int x2, .int x3] G M (s_X12_judge M x1 x2 x3 P) P := by
  refine m_enter (by decide +kernel) (Nat.le_of_ble_eq_true rfl) ?_
  intro p e s m below meth c ls H locs S hret hlocks hname hKX hbs hW hS hl h
  obtain ⟨AV, hAV⟩ : ∃ z : Array Value, z = ([.ref (ad G 10 0), .int x1, .int x2, .int x3] : List Value).toArray := ⟨_, rfl⟩
  rw [← hAV] at S ⊢
  replace S : CallFix p m c cX12_judge 10 s AV lw_G "MilkDeskModel" := S
  have hK := hKX.1
  have hx := S.1
  have hb := S.2.1
  have hml := S.2.2.1
  have hown := S.2.2.2.1
  have hts := S.2.2.2.2
  replace hl : lv_has ls 10 [(0, .ref (ad G 10 0)), (1, .int x1), (2, .int x2), (3, .int x3)] := hl
  have w64 : ∀ (n : Nat) (a : Mem × Int32 × Int32 × Int32 × Int32), Lz (fun (K64 : Mem × Int32 × Int32 × Int32 × Int32 → Prop) (a : Mem × Int32 × Int32 × Int32 × Int32) => s_X12_judge_64 x1 x3 P K64 a.1 a.2.1 a.2.2.1 a.2.2.2.1 a.2.2.2.2) n a → ∀ (H : Heap) (locs : List Loc) (ls : Array Slot), WPm G a.1 H → va_S (fun q => bs G ≤ q) s.heap H locs → lv_has ls 10 [(0, .ref (ad G 10 0)), (1, .int x1), (3, .int x3), (5, .int a.2.1), (6, .int a.2.2.1), (7, .int a.2.2.2.1), (8, .int a.2.2.2.2)] → W p l e rm_X12_judge s m AV below meth c H locs 0 0 (MQ below (va_Qi P (WS G) (fun q => bs G ≤ q)) AV s 0 0 (fun q => bs G ≤ q)) (F0 m 64 ls []) := by
    refine Lz_walk ?_
    rintro K64 kk64 ⟨M, x5, x6, x7, x8⟩ h H locs ls hW hS hl
    replace h : s_X12_judge_64 x1 x3 P K64 M x5 x6 x7 x8 := h
    replace hW : WPm G M H := hW
    replace hl : lv_has ls 10 [(0, .ref (ad G 10 0)), (1, .int x1), (3, .int x3), (5, .int x5), (6, .int x6), (7, .int x7), (8, .int x8)] := hl
    unfold s_X12_judge_64 at h
    refine lv_iload hx hb dX12_judge_64 (lv_at hl 6 rfl) ?_
    refine lv_aload_n hx hb dX12_judge_66 rfl (lv_at hl 0 rfl) ?_
    refine m_getr S hK fk_X12_117 (gr_10_50 G 0) hW (ci_10 (Nat.le_of_ble_eq_true rfl)) dX12_judge_67 ?_
    refine lv_iload_n hx hb dX12_judge_70 rfl (lv_at hl 2 rfl) ?_
    obtain ⟨hb71, h⟩ := h
    refine m_ald S hK (ar_77 G) hW (ci_77 (Nat.le_of_ble_eq_true rfl)) hb71 dX12_judge_71 ?_
    refine lv_icmp_ge (tgt := 164) hx hb dX12_judge_72 (by decide) (fun c72 => ?_) (fun c72 => ?_)
    · replace h := h.1 c72
      refine lv_bipush hx hb dX12_judge_164 kb_m4 ?_
      exact m_iret S hret hlocks hKX hW hbs hS rfl h dX12_judge_166
    · replace h := h.2 c72
      refine lv_aload_n hx hb dX12_judge_75 rfl (lv_at hl 0 rfl) ?_
      refine m_getr S hK fk_X12_120 (gr_10_51 G 0) hW (ci_10 (Nat.le_of_ble_eq_true rfl)) dX12_judge_76 ?_
      refine lv_bipush hx hb dX12_judge_79 kb_80 ?_
      refine lv_iload_n hx hb dX12_judge_81 rfl (lv_at hl 2 rfl) ?_
      refine lv_imul hx hb dX12_judge_82 ?_
      refine lv_iload hx hb dX12_judge_83 (lv_at hl 6 rfl) ?_
      refine lv_iadd hx hb dX12_judge_85 ?_
      obtain ⟨hb86, h⟩ := h
      refine m_jald S hK (ar_78 G) hW (ci_78 (Nat.le_of_ble_eq_true rfl)) hb86 dX12_judge_86 ?_
      refine lv_l2i hx hb dX12_judge_87 rfl ?_
      refine lv_topi (fun x9_88 ex9_88 => ?_)
      replace h := h x9_88 ex9_88
      refine lv_istore (lv' := [(9, .int x9_88), (0, .ref (ad G 10 0)), (1, .int x1), (3, .int x3), (5, .int x5), (6, .int x6), (7, .int x7), (8, .int x8)]) hx hb dX12_judge_88 hl (by decide) rfl (fun ls hl => ?_)
      refine lv_aload_n hx hb dX12_judge_90 rfl (lv_at hl 1 rfl) ?_
      refine lv_iload hx hb dX12_judge_91 (lv_at hl 0 rfl) ?_
      refine m_ci0 (m_rV S hKX hW (m_szH hbs hS) (c_X12_isSchool l ) h lk_X12_139 (m_recv hK hW (ci_10 (Nat.le_of_ble_eq_true rfl)) (rc_10 G) rfl) rfl hl.1 rfl ⟨Nat.le_of_ble_eq_true rfl, Nat.le_of_ble_eq_true rfl⟩ (Nat.le_of_ble_eq_true rfl) ⟨Nat.le_of_ble_eq_true rfl, Nat.le_of_ble_eq_true rfl⟩ dX12_judge_93) hS rfl rfl (fun rr93 Mm93 H locs h hW hS => ?_)
      refine lv_if_eq (tgt := 110) hx hb dX12_judge_96 (by decide) (fun c96 => ?_) (fun c96 => ?_)
      · replace h := h.1 c96
        refine lv_iload hx hb dX12_judge_110 (lv_at hl 7 rfl) ?_
        exact m_iret S hret hlocks hKX hW hbs hS rfl h dX12_judge_112
      · replace h := h.2 c96
        refine lv_iload hx hb dX12_judge_99 (lv_at hl 4 rfl) ?_
        refine lv_iload hx hb dX12_judge_101 (lv_at hl 0 rfl) ?_
        refine lv_ishr hx hb dX12_judge_103 ?_
        refine lv_iconst hx hb dX12_judge_104 ki_1 ?_
        refine lv_iand hx hb dX12_judge_105 ?_
        refine lv_iconst hx hb dX12_judge_106 ki_1 ?_
        refine lv_icmp_ne (tgt := 113) hx hb dX12_judge_107 (by decide) (fun c107 => ?_) (fun c107 => ?_)
        · replace h := h.1 c107
          refine lv_iload hx hb dX12_judge_113 (lv_at hl 5 rfl) ?_
          refine lv_aload_n hx hb dX12_judge_115 rfl (lv_at hl 1 rfl) ?_
          refine lv_iload_n hx hb dX12_judge_116 rfl (lv_at hl 2 rfl) ?_
          refine lv_iload hx hb dX12_judge_117 (lv_at hl 6 rfl) ?_
          refine lv_iload hx hb dX12_judge_119 (lv_at hl 0 rfl) ?_
          refine m_ci0 (m_rV S hKX hW (m_szH hbs hS) (c_X12_farOf l ) h lk_X12_306 (m_recv hK hW (ci_10 (Nat.le_of_ble_eq_true rfl)) (rc_10 G) rfl) rfl hl.1 rfl ⟨Nat.le_of_ble_eq_true rfl, Nat.le_of_ble_eq_true rfl⟩ (Nat.le_of_ble_eq_true rfl) ⟨Nat.le_of_ble_eq_true rfl, Nat.le_of_ble_eq_true rfl⟩ dX12_judge_121) hS rfl rfl (fun rr121 Mm121 H locs h hW hS => ?_)
          refine lv_iadd hx hb dX12_judge_124 ?_
          refine lv_topi (fun x6_125 ex6_125 => ?_)
          replace h := h x6_125 ex6_125
          refine lv_istore (lv' := [(6, .int x6_125), (9, .int x9_88), (0, .ref (ad G 10 0)), (1, .int x1), (3, .int x3), (5, .int x5), (7, .int x7), (8, .int x8)]) hx hb dX12_judge_125 hl (by decide) rfl (fun ls hl => ?_)
          refine lv_iload hx hb dX12_judge_127 (lv_at hl 0 rfl) ?_
          refine lv_aload_n hx hb dX12_judge_129 rfl (lv_at hl 2 rfl) ?_
          refine m_getr S hK fk_X12_7 (gr_10_1 G 0) hW (ci_10 (Nat.le_of_ble_eq_true rfl)) dX12_judge_130 ?_
          refine lv_bipush hx hb dX12_judge_133 kb_50 ?_
          refine lv_iload hx hb dX12_judge_135 (lv_at hl 1 rfl) ?_
          refine lv_iadd hx hb dX12_judge_137 ?_
          obtain ⟨hb138, h⟩ := h
          refine m_ald S hK (ar_44 G) hW (ci_44 (Nat.le_of_ble_eq_true rfl)) hb138 dX12_judge_138 ?_
          refine lv_icmp_le (tgt := 145) hx hb dX12_judge_139 (by decide) (fun c139 => ?_) (fun c139 => ?_)
          · replace h := h.1 c139
            refine lv_iload hx hb dX12_judge_145 (lv_at hl 5 rfl) ?_
            refine lv_iconst hx hb dX12_judge_147 ki_1 ?_
            refine lv_iload hx hb dX12_judge_148 (lv_at hl 1 rfl) ?_
            refine lv_ishl hx hb dX12_judge_150 ?_
            refine lv_ior hx hb dX12_judge_151 ?_
            refine lv_topi (fun x5_152 ex5_152 => ?_)
            replace h := h x5_152 ex5_152
            refine lv_istore (lv' := [(5, .int x5_152), (6, .int x6_125), (9, .int x9_88), (0, .ref (ad G 10 0)), (1, .int x1), (3, .int x3), (7, .int x7), (8, .int x8)]) hx hb dX12_judge_152 hl (by decide) rfl (fun ls hl => ?_)
            refine lv_iload hx hb dX12_judge_154 (lv_at hl 2 rfl) ?_
            refine lv_istore (lv' := [(7, .int x9_88), (5, .int x5_152), (6, .int x6_125), (9, .int x9_88), (0, .ref (ad G 10 0)), (1, .int x1), (3, .int x3), (8, .int x8)]) hx hb dX12_judge_156 hl (by decide) rfl (fun ls hl => ?_)
            obtain ⟨x8_158, ex8_158⟩ : ∃ z : Int32, z = x8 + (1 : Int32) := ⟨_, rfl⟩
            replace h := h x8_158 ex8_158
            refine lv_iinc (v := x8_158) (lv' := [(8, .int x8_158), (7, .int x9_88), (5, .int x5_152), (6, .int x6_125), (9, .int x9_88), (0, .ref (ad G 10 0)), (1, .int x1), (3, .int x3)]) hx hb dX12_judge_158 hl (k := 7) rfl (by rw [ex8_158, ki_1]) (by decide) rfl (fun ls hl => ?_)
            refine lv_goto (tgt := 64) hx hb dX12_judge_161 (by decide) ?_
            exact kk64 _ h H locs ls hW hS (lv_sub hl [5, 6, 7, 2, 3, 1, 0] rfl)
          · replace h := h.2 c139
            refine lv_iload hx hb dX12_judge_142 (lv_at hl 7 rfl) ?_
            exact m_iret S hret hlocks hKX hW hbs hS rfl h dX12_judge_144
        · replace h := h.2 c107
          refine lv_iload hx hb dX12_judge_110 (lv_at hl 7 rfl) ?_
          exact m_iret S hret hlocks hKX hW hbs hS rfl h dX12_judge_112
  unfold s_X12_judge at h
  refine lv_aload_n hx hb dX12_judge_0 rfl (lv_at hl 0 rfl) ?_
  refine lv_iconst hx hb dX12_judge_1 ki_0 ?_
  refine m_put S hK fk_X12_128 tyX12_ok nmX12 rfl pf_X12_0 (pv_10_0 G) hW hS (ci_10 (Nat.le_of_ble_eq_true rfl)) rfl rfl dX12_judge_2 (fun Mm2 eMm2 H locs hW hS => ?_)
  replace h := h Mm2 eMm2
  refine lv_aload_n hx hb dX12_judge_5 rfl (lv_at hl 0 rfl) ?_
  refine lv_iload_n hx hb dX12_judge_6 rfl (lv_at hl 1 rfl) ?_
  refine m_ci0 (m_rV S hKX hW (m_szH hbs hS) (c_X12_isDairy l ) h lk_X12_142 (m_recv hK hW (ci_10 (Nat.le_of_ble_eq_true rfl)) (rc_10 G) rfl) rfl hl.1 rfl ⟨Nat.le_of_ble_eq_true rfl, Nat.le_of_ble_eq_true rfl⟩ (Nat.le_of_ble_eq_true rfl) ⟨Nat.le_of_ble_eq_true rfl, Nat.le_of_ble_eq_true rfl⟩ dX12_judge_7) hS rfl rfl (fun rr7 Mm7 H locs h hW hS => ?_)
  refine lv_if_eq (tgt := 34) hx hb dX12_judge_10 (by decide) (fun c10 => ?_) (fun c10 => ?_)
  · replace h := h.1 c10
    refine lv_iconst hx hb dX12_judge_34 ki_m1 ?_
    exact m_iret S hret hlocks hKX hW hbs hS rfl h dX12_judge_35
  · replace h := h.2 c10
    refine lv_iload_n hx hb dX12_judge_13 rfl (lv_at hl 2 rfl) ?_
    refine lv_iconst hx hb dX12_judge_14 ki_0 ?_
    refine lv_sipush hx hb dX12_judge_15 ks_600 ?_
    refine m_ci0 (m_rS S hKX hW (m_szH hbs hS) (c_X12_in l ) h lk_X12_131 rfl hl.1 rfl ⟨Nat.le_of_ble_eq_true rfl, Nat.le_of_ble_eq_true rfl⟩ (Nat.le_of_ble_eq_true rfl) ⟨Nat.le_of_ble_eq_true rfl, Nat.le_of_ble_eq_true rfl⟩ dX12_judge_18) hS rfl rfl (fun rr18 Mm18 H locs h hW hS => ?_)
    refine lv_if_eq (tgt := 34) hx hb dX12_judge_21 (by decide) (fun c21 => ?_) (fun c21 => ?_)
    · replace h := h.1 c21
      refine lv_iconst hx hb dX12_judge_34 ki_m1 ?_
      exact m_iret S hret hlocks hKX hW hbs hS rfl h dX12_judge_35
    · replace h := h.2 c21
      refine lv_iload_n hx hb dX12_judge_24 rfl (lv_at hl 3 rfl) ?_
      refine lv_iconst hx hb dX12_judge_25 ki_0 ?_
      refine lv_bipush hx hb dX12_judge_26 kb_7 ?_
      refine m_ci0 (m_rS S hKX hW (m_szH hbs hS) (c_X12_in l ) h lk_X12_131 rfl hl.1 rfl ⟨Nat.le_of_ble_eq_true rfl, Nat.le_of_ble_eq_true rfl⟩ (Nat.le_of_ble_eq_true rfl) ⟨Nat.le_of_ble_eq_true rfl, Nat.le_of_ble_eq_true rfl⟩ dX12_judge_28) hS rfl rfl (fun rr28 Mm28 H locs h hW hS => ?_)
      refine lv_if_ne (tgt := 36) hx hb dX12_judge_31 (by decide) (fun c31 => ?_) (fun c31 => ?_)
      · replace h := h.1 c31
        refine lv_aload_n hx hb dX12_judge_36 rfl (lv_at hl 0 rfl) ?_
        refine lv_iload_n hx hb dX12_judge_37 rfl (lv_at hl 3 rfl) ?_
        refine lv_iconst hx hb dX12_judge_38 ki_0 ?_
        refine m_ci0 (m_rV S hKX hW (m_szH hbs hS) (c_X12_lacks l ) h lk_X12_245 (m_recv hK hW (ci_10 (Nat.le_of_ble_eq_true rfl)) (rc_10 G) rfl) rfl hl.1 rfl ⟨Nat.le_of_ble_eq_true rfl, Nat.le_of_ble_eq_true rfl⟩ (Nat.le_of_ble_eq_true rfl) ⟨Nat.le_of_ble_eq_true rfl, Nat.le_of_ble_eq_true rfl⟩ dX12_judge_39) hS rfl rfl (fun rr39 Mm39 H locs h hW hS => ?_)
        refine lv_istore (lv' := [(4, .int rr39), (0, .ref (ad G 10 0)), (1, .int x1), (2, .int x2), (3, .int x3)]) hx hb dX12_judge_42 hl (by decide) rfl (fun ls hl => ?_)
        refine lv_iload hx hb dX12_judge_44 (lv_at hl 0 rfl) ?_
        refine lv_if_ge (tgt := 52) hx hb dX12_judge_46 (by decide) (fun c46 => ?_) (fun c46 => ?_)
        · replace h := h.1 c46
          refine lv_iconst hx hb dX12_judge_52 ki_0 ?_
          refine lv_istore (lv' := [(5, .int (0 : Int32)), (4, .int rr39), (0, .ref (ad G 10 0)), (1, .int x1), (2, .int x2), (3, .int x3)]) hx hb dX12_judge_53 hl (by decide) rfl (fun ls hl => ?_)
          refine lv_iload_n hx hb dX12_judge_55 rfl (lv_at hl 4 rfl) ?_
          refine lv_istore (lv' := [(6, .int x2), (5, .int (0 : Int32)), (4, .int rr39), (0, .ref (ad G 10 0)), (1, .int x1), (2, .int x2), (3, .int x3)]) hx hb dX12_judge_56 hl (by decide) rfl (fun ls hl => ?_)
          refine lv_iconst hx hb dX12_judge_58 ki_m1 ?_
          refine lv_istore (lv' := [(7, .int (-1 : Int32)), (6, .int x2), (5, .int (0 : Int32)), (4, .int rr39), (0, .ref (ad G 10 0)), (1, .int x1), (2, .int x2), (3, .int x3)]) hx hb dX12_judge_59 hl (by decide) rfl (fun ls hl => ?_)
          refine lv_iconst hx hb dX12_judge_61 ki_0 ?_
          refine lv_istore (lv' := [(8, .int (0 : Int32)), (7, .int (-1 : Int32)), (6, .int x2), (5, .int (0 : Int32)), (4, .int rr39), (0, .ref (ad G 10 0)), (1, .int x1), (2, .int x2), (3, .int x3)]) hx hb dX12_judge_62 hl (by decide) rfl (fun ls hl => ?_)
          obtain ⟨n64, h⟩ := h
          exact w64 n64 _ h H locs ls hW hS (lv_sub hl [5, 6, 8, 3, 2, 1, 0] rfl)
        · replace h := h.2 c46
          refine lv_iload hx hb dX12_judge_49 (lv_at hl 0 rfl) ?_
          exact m_iret S hret hlocks hKX hW hbs hS rfl h dX12_judge_51
      · replace h := h.2 c31
        refine lv_iconst hx hb dX12_judge_34 ki_m1 ?_
        exact m_iret S hret hlocks hKX hW hbs hS rfl h dX12_judge_35
abbrev rm_X12_begin : Room := { frames := 0, cells := 0, slots := 0, locals := 0 }
set_option maxHeartbeats 4000000 in
set_option maxRecDepth 100000 in
theorem c_X12_begin (l : Launch) {G : Gn} {M : Mem} {P : Mem → Prop} : MQv l yX12_begin cX12_begin 2 none rm_X12_begin [.ref (ad G 10 0)] G M (s_X12_begin M P) P := by
  refine m_enter (by decide +kernel) (Nat.le_of_ble_eq_true rfl) ?_
  intro p e s m below meth c ls H locs S hret hlocks hname hKX hbs hW hS hl h
  obtain ⟨AV, hAV⟩ : ∃ z : Array Value, z = ([.ref (ad G 10 0)] : List Value).toArray := ⟨_, rfl⟩
  rw [← hAV] at S ⊢
  replace S : CallFix p m c cX12_begin 2 s AV lw_G "MilkDeskModel" := S
  have hK := hKX.1
  have hx := S.1
  have hb := S.2.1
  have hml := S.2.2.1
  have hown := S.2.2.2.1
  have hts := S.2.2.2.2
  replace hl : lv_has ls 2 [(0, .ref (ad G 10 0))] := hl
  have w2 : ∀ (n : Nat) (a : Mem × Int32), Lz (fun (K2 : Mem × Int32 → Prop) (a : Mem × Int32) => s_X12_begin_2 P K2 a.1 a.2) n a → ∀ (H : Heap) (locs : List Loc) (ls : Array Slot), WPm G a.1 H → va_S (fun q => bs G ≤ q) s.heap H locs → lv_has ls 2 [(0, .ref (ad G 10 0)), (1, .int a.2)] → W p l e rm_X12_begin s m AV below meth c H locs 0 0 (MQ below (va_Qv P (WS G) (fun q => bs G ≤ q)) AV s 0 0 (fun q => bs G ≤ q)) (F0 m 2 ls []) := by
    refine Lz_walk ?_
    rintro K2 kk2 ⟨M, x1⟩ h H locs ls hW hS hl
    replace h : s_X12_begin_2 P K2 M x1 := h
    replace hW : WPm G M H := hW
    replace hl : lv_has ls 2 [(0, .ref (ad G 10 0)), (1, .int x1)] := hl
    unfold s_X12_begin_2 at h
    refine lv_iload_n hx hb dX12_begin_2 rfl (lv_at hl 1 rfl) ?_
    refine lv_sipush hx hb dX12_begin_3 ks_320 ?_
    refine lv_icmp_ge (tgt := 27) hx hb dX12_begin_6 (by decide) (fun c6 => ?_) (fun c6 => ?_)
    · replace h := h.1 c6
      exact m_vret S hret hlocks hKX hW hbs hS h dX12_begin_27
    · replace h := h.2 c6
      refine lv_aload_n hx hb dX12_begin_9 rfl (lv_at hl 0 rfl) ?_
      refine m_getr S hK fk_X12_16 (gr_10_3 G 0) hW (ci_10 (Nat.le_of_ble_eq_true rfl)) dX12_begin_10 ?_
      refine lv_iload_n hx hb dX12_begin_13 rfl (lv_at hl 1 rfl) ?_
      refine lv_aload_n hx hb dX12_begin_14 rfl (lv_at hl 0 rfl) ?_
      refine m_getr S hK fk_X12_7 (gr_10_1 G 0) hW (ci_10 (Nat.le_of_ble_eq_true rfl)) dX12_begin_15 ?_
      refine lv_iload_n hx hb dX12_begin_18 rfl (lv_at hl 1 rfl) ?_
      obtain ⟨hb19, h⟩ := h
      refine m_ald S hK (ar_44 G) hW (ci_44 (Nat.le_of_ble_eq_true rfl)) hb19 dX12_begin_19 ?_
      obtain ⟨hb20, h⟩ := h
      refine m_ast S hK (ar_46 G) hW hS (ci_46 (Nat.le_of_ble_eq_true rfl)) hb20 dX12_begin_20 (fun Mm20 eMm20 H locs hW hS => ?_)
      replace h := h Mm20 eMm20
      obtain ⟨x1_21, ex1_21⟩ : ∃ z : Int32, z = x1 + (1 : Int32) := ⟨_, rfl⟩
      replace h := h x1_21 ex1_21
      refine lv_iinc (v := x1_21) (lv' := [(1, .int x1_21), (0, .ref (ad G 10 0))]) hx hb dX12_begin_21 hl (k := 1) rfl (by rw [ex1_21, ki_1]) (by decide) rfl (fun ls hl => ?_)
      refine lv_goto (tgt := 2) hx hb dX12_begin_24 (by decide) ?_
      exact kk2 _ h H locs ls hW hS (lv_sub hl [1, 0] rfl)
  unfold s_X12_begin at h
  refine lv_iconst hx hb dX12_begin_0 ki_0 ?_
  refine lv_istore_n (lv' := [(1, .int (0 : Int32)), (0, .ref (ad G 10 0))]) hx hb dX12_begin_1 rfl hl (by decide) rfl (fun ls hl => ?_)
  obtain ⟨n2, h⟩ := h
  exact w2 n2 _ h H locs ls hW hS (lv_sub hl [1, 0] rfl)
abbrev rm_X12_comeBack : Room := { frames := 0, cells := 0, slots := 0, locals := 0 }
set_option maxHeartbeats 4000000 in
set_option maxRecDepth 100000 in
theorem c_X12_comeBack (l : Launch) {G : Gn} {M : Mem} {P : Mem → Prop} : MQv l yX12_comeBack cX12_comeBack 2 none rm_X12_comeBack [.ref (ad G 10 0)] G M (s_X12_comeBack M P) P := by
  refine m_enter (by decide +kernel) (Nat.le_of_ble_eq_true rfl) ?_
  intro p e s m below meth c ls H locs S hret hlocks hname hKX hbs hW hS hl h
  obtain ⟨AV, hAV⟩ : ∃ z : Array Value, z = ([.ref (ad G 10 0)] : List Value).toArray := ⟨_, rfl⟩
  rw [← hAV] at S ⊢
  replace S : CallFix p m c cX12_comeBack 2 s AV lw_G "MilkDeskModel" := S
  have hK := hKX.1
  have hx := S.1
  have hb := S.2.1
  have hml := S.2.2.1
  have hown := S.2.2.2.1
  have hts := S.2.2.2.2
  replace hl : lv_has ls 2 [(0, .ref (ad G 10 0))] := hl
  have w2 : ∀ (n : Nat) (a : Mem × Int32), Lz (fun (K2 : Mem × Int32 → Prop) (a : Mem × Int32) => s_X12_comeBack_2 P K2 a.1 a.2) n a → ∀ (H : Heap) (locs : List Loc) (ls : Array Slot), WPm G a.1 H → va_S (fun q => bs G ≤ q) s.heap H locs → lv_has ls 2 [(0, .ref (ad G 10 0)), (1, .int a.2)] → W p l e rm_X12_comeBack s m AV below meth c H locs 0 0 (MQ below (va_Qv P (WS G) (fun q => bs G ≤ q)) AV s 0 0 (fun q => bs G ≤ q)) (F0 m 2 ls []) := by
    refine Lz_walk ?_
    rintro K2 kk2 ⟨M, x1⟩ h H locs ls hW hS hl
    replace h : s_X12_comeBack_2 P K2 M x1 := h
    replace hW : WPm G M H := hW
    replace hl : lv_has ls 2 [(0, .ref (ad G 10 0)), (1, .int x1)] := hl
    unfold s_X12_comeBack_2 at h
    refine lv_iload_n hx hb dX12_comeBack_2 rfl (lv_at hl 1 rfl) ?_
    refine lv_sipush hx hb dX12_comeBack_3 ks_320 ?_
    refine lv_icmp_ge (tgt := 27) hx hb dX12_comeBack_6 (by decide) (fun c6 => ?_) (fun c6 => ?_)
    · replace h := h.1 c6
      exact m_vret S hret hlocks hKX hW hbs hS h dX12_comeBack_27
    · replace h := h.2 c6
      refine lv_aload_n hx hb dX12_comeBack_9 rfl (lv_at hl 0 rfl) ?_
      refine m_getr S hK fk_X12_7 (gr_10_1 G 0) hW (ci_10 (Nat.le_of_ble_eq_true rfl)) dX12_comeBack_10 ?_
      refine lv_iload_n hx hb dX12_comeBack_13 rfl (lv_at hl 1 rfl) ?_
      refine lv_aload_n hx hb dX12_comeBack_14 rfl (lv_at hl 0 rfl) ?_
      refine m_getr S hK fk_X12_16 (gr_10_3 G 0) hW (ci_10 (Nat.le_of_ble_eq_true rfl)) dX12_comeBack_15 ?_
      refine lv_iload_n hx hb dX12_comeBack_18 rfl (lv_at hl 1 rfl) ?_
      obtain ⟨hb19, h⟩ := h
      refine m_ald S hK (ar_46 G) hW (ci_46 (Nat.le_of_ble_eq_true rfl)) hb19 dX12_comeBack_19 ?_
      obtain ⟨hb20, h⟩ := h
      refine m_ast S hK (ar_44 G) hW hS (ci_44 (Nat.le_of_ble_eq_true rfl)) hb20 dX12_comeBack_20 (fun Mm20 eMm20 H locs hW hS => ?_)
      replace h := h Mm20 eMm20
      obtain ⟨x1_21, ex1_21⟩ : ∃ z : Int32, z = x1 + (1 : Int32) := ⟨_, rfl⟩
      replace h := h x1_21 ex1_21
      refine lv_iinc (v := x1_21) (lv' := [(1, .int x1_21), (0, .ref (ad G 10 0))]) hx hb dX12_comeBack_21 hl (k := 1) rfl (by rw [ex1_21, ki_1]) (by decide) rfl (fun ls hl => ?_)
      refine lv_goto (tgt := 2) hx hb dX12_comeBack_24 (by decide) ?_
      exact kk2 _ h H locs ls hW hS (lv_sub hl [1, 0] rfl)
  unfold s_X12_comeBack at h
  refine lv_iconst hx hb dX12_comeBack_0 ki_0 ?_
  refine lv_istore_n (lv' := [(1, .int (0 : Int32)), (0, .ref (ad G 10 0))]) hx hb dX12_comeBack_1 rfl hl (by decide) rfl (fun ls hl => ?_)
  obtain ⟨n2, h⟩ := h
  exact w2 n2 _ h H locs ls hW hS (lv_sub hl [1, 0] rfl)
abbrev rm_X12_isEnough : Room := { frames := 13, cells := 0, slots := 0, locals := 312 }
set_option maxHeartbeats 4000000 in
set_option maxRecDepth 100000 in
theorem c_X12_isEnough (l : Launch) {G : Gn} {M : Mem} {x1 : Int32} {x2 : Int32} {x3 : Int32} {P : Int32 → Mem → Prop} : MQi l yX12_isEnough cX12_isEnough 6 (some .boolean) rm_X12_isEnough [.ref (ad G 10 0), .int x1, .int x2, .int x3] G M (s_X12_isEnough M x1 x2 x3 P) P := by
  refine m_enter (by decide +kernel) (Nat.le_of_ble_eq_true rfl) ?_
  intro p e s m below meth c ls H locs S hret hlocks hname hKX hbs hW hS hl h
  obtain ⟨AV, hAV⟩ : ∃ z : Array Value, z = ([.ref (ad G 10 0), .int x1, .int x2, .int x3] : List Value).toArray := ⟨_, rfl⟩
  rw [← hAV] at S ⊢
  replace S : CallFix p m c cX12_isEnough 6 s AV lw_G "MilkDeskModel" := S
  have hK := hKX.1
  have hx := S.1
  have hb := S.2.1
  have hml := S.2.2.1
  have hown := S.2.2.2.1
  have hts := S.2.2.2.2
  replace hl : lv_has ls 6 [(0, .ref (ad G 10 0)), (1, .int x1), (2, .int x2), (3, .int x3)] := hl
  have w42 : ∀ (n : Nat) (a : Mem × Int32 × Int32), Lz (fun (K42 : Mem × Int32 × Int32 → Prop) (a : Mem × Int32 × Int32) => s_X12_isEnough_42 x1 P K42 a.1 a.2.1 a.2.2) n a → ∀ (H : Heap) (locs : List Loc) (ls : Array Slot), WPm G a.1 H → va_S (fun q => bs G ≤ q) s.heap H locs → lv_has ls 6 [(0, .ref (ad G 10 0)), (1, .int x1), (4, .int a.2.1), (5, .int a.2.2)] → W p l e rm_X12_isEnough s m AV below meth c H locs 0 0 (MQ below (va_Qi P (WS G) (fun q => bs G ≤ q)) AV s 0 0 (fun q => bs G ≤ q)) (F0 m 42 ls []) := by
    refine Lz_walk ?_
    rintro K42 kk42 ⟨M, x4, x5⟩ h H locs ls hW hS hl
    replace h : s_X12_isEnough_42 x1 P K42 M x4 x5 := h
    replace hW : WPm G M H := hW
    replace hl : lv_has ls 6 [(0, .ref (ad G 10 0)), (1, .int x1), (4, .int x4), (5, .int x5)] := hl
    have b113 : ∀ (M : Mem) (x5 : Int32) (y0 : Int32) (H : Heap) (locs : List Loc) (ls : Array Slot), WPm G M H → va_S (fun q => bs G ≤ q) s.heap H locs → lv_has ls 6 [(0, .ref (ad G 10 0)), (1, .int x1), (5, .int x5)] → s_X12_isEnough_113 x1 P K42 M x5 y0 → W p l e rm_X12_isEnough s m AV below meth c H locs 0 0 (MQ below (va_Qi P (WS G) (fun q => bs G ≤ q)) AV s 0 0 (fun q => bs G ≤ q)) (F0 m 113 ls [.int y0]) := by
      intro M x5 y0 H locs ls hW hS hl h
      unfold s_X12_isEnough_113 at h
      refine lv_istore (lv' := [(4, .int y0), (0, .ref (ad G 10 0)), (1, .int x1), (5, .int x5)]) hx hb dX12_isEnough_113 hl (by decide) rfl (fun ls hl => ?_)
      obtain ⟨x5_115, ex5_115⟩ : ∃ z : Int32, z = x5 + (1 : Int32) := ⟨_, rfl⟩
      replace h := h x5_115 ex5_115
      refine lv_iinc (v := x5_115) (lv' := [(5, .int x5_115), (4, .int y0), (0, .ref (ad G 10 0)), (1, .int x1)]) hx hb dX12_isEnough_115 hl (k := 3) rfl (by rw [ex5_115, ki_1]) (by decide) rfl (fun ls hl => ?_)
      refine lv_goto (tgt := 42) hx hb dX12_isEnough_118 (by decide) ?_
      exact kk42 _ h H locs ls hW hS (lv_sub hl [2, 3, 1, 0] rfl)
    unfold s_X12_isEnough_42 at h
    refine lv_iload hx hb dX12_isEnough_42 (lv_at hl 3 rfl) ?_
    refine lv_aload_n hx hb dX12_isEnough_44 rfl (lv_at hl 0 rfl) ?_
    refine m_getr S hK fk_X12_7 (gr_10_1 G 0) hW (ci_10 (Nat.le_of_ble_eq_true rfl)) dX12_isEnough_45 ?_
    refine lv_iconst hx hb dX12_isEnough_48 ki_0 ?_
    refine m_aldk S hK (ar_44 G) hW (ci_44 (Nat.le_of_ble_eq_true rfl)) kn_0 (Nat.le_of_ble_eq_true rfl) dX12_isEnough_49 ?_
    refine lv_icmp_ge (tgt := 121) hx hb dX12_isEnough_50 (by decide) (fun c50 => ?_) (fun c50 => ?_)
    · replace h := h.1 c50
      refine lv_aload_n hx hb dX12_isEnough_121 rfl (lv_at hl 0 rfl) ?_
      refine m_cv0 (m_rV S hKX hW (m_szH hbs hS) (c_X12_comeBack l ) h lk_X12_318 (m_recv hK hW (ci_10 (Nat.le_of_ble_eq_true rfl)) (rc_10 G) rfl) rfl hl.1 rfl ⟨Nat.le_of_ble_eq_true rfl, Nat.le_of_ble_eq_true rfl⟩ (Nat.le_of_ble_eq_true rfl) ⟨Nat.le_of_ble_eq_true rfl, Nat.le_of_ble_eq_true rfl⟩ dX12_isEnough_122) hS rfl rfl (fun Mm122 H locs h hW hS => ?_)
      refine lv_iload hx hb dX12_isEnough_125 (lv_at hl 2 rfl) ?_
      obtain ⟨hn127, h⟩ := h
      exact m_iret S hret hlocks hKX hW hbs hS (isB_n hn127) h dX12_isEnough_127
    · replace h := h.2 c50
      refine lv_iload hx hb dX12_isEnough_53 (lv_at hl 2 rfl) ?_
      refine lv_if_eq (tgt := 112) hx hb dX12_isEnough_55 (by decide) (fun c55 => ?_) (fun c55 => ?_)
      · replace h := h.1 c55
        refine lv_iconst hx hb dX12_isEnough_112 ki_0 ?_
        exact b113 _ _ _ H locs ls hW hS (lv_sub hl [0, 1, 3] rfl) h
      · replace h := h.2 c55
        refine lv_aload_n hx hb dX12_isEnough_58 rfl (lv_at hl 0 rfl) ?_
        refine lv_aload_n hx hb dX12_isEnough_59 rfl (lv_at hl 0 rfl) ?_
        refine m_getr S hK fk_X12_19 (gr_10_5 G 0) hW (ci_10 (Nat.le_of_ble_eq_true rfl)) dX12_isEnough_60 ?_
        refine lv_iload hx hb dX12_isEnough_63 (lv_at hl 3 rfl) ?_
        obtain ⟨hb65, h⟩ := h
        refine m_ald S hK (ar_47 G) hW (ci_47 (Nat.le_of_ble_eq_true rfl)) hb65 dX12_isEnough_65 ?_
        refine m_ci0 (m_rV S hKX hW (m_szH hbs hS) (c_X12_wonBy l ) h lk_X12_145 (m_recv hK hW (ci_10 (Nat.le_of_ble_eq_true rfl)) (rc_10 G) rfl) rfl hl.1 rfl ⟨Nat.le_of_ble_eq_true rfl, Nat.le_of_ble_eq_true rfl⟩ (Nat.le_of_ble_eq_true rfl) ⟨Nat.le_of_ble_eq_true rfl, Nat.le_of_ble_eq_true rfl⟩ dX12_isEnough_66) hS rfl rfl (fun rr66 Mm66 H locs h hW hS => ?_)
        refine lv_iload_n hx hb dX12_isEnough_69 rfl (lv_at hl 1 rfl) ?_
        refine lv_icmp_ne (tgt := 108) hx hb dX12_isEnough_70 (by decide) (fun c70 => ?_) (fun c70 => ?_)
        · replace h := h.1 c70
          refine lv_iconst hx hb dX12_isEnough_108 ki_1 ?_
          refine lv_goto (tgt := 113) hx hb dX12_isEnough_109 (by decide) ?_
          exact b113 _ _ _ H locs ls hW hS (lv_sub hl [0, 1, 3] rfl) h
        · replace h := h.2 c70
          refine lv_aload_n hx hb dX12_isEnough_73 rfl (lv_at hl 0 rfl) ?_
          refine m_getr S hK fk_X12_7 (gr_10_1 G 0) hW (ci_10 (Nat.le_of_ble_eq_true rfl)) dX12_isEnough_74 ?_
          refine lv_sipush hx hb dX12_isEnough_77 ks_180 ?_
          refine lv_bipush hx hb dX12_isEnough_80 kb_11 ?_
          refine lv_iload hx hb dX12_isEnough_82 (lv_at hl 3 rfl) ?_
          refine lv_imul hx hb dX12_isEnough_84 ?_
          refine lv_iadd hx hb dX12_isEnough_85 ?_
          refine lv_iconst hx hb dX12_isEnough_86 ki_2 ?_
          refine lv_iadd hx hb dX12_isEnough_87 ?_
          obtain ⟨hb88, h⟩ := h
          refine m_ald S hK (ar_44 G) hW (ci_44 (Nat.le_of_ble_eq_true rfl)) hb88 dX12_isEnough_88 ?_
          refine lv_aload_n hx hb dX12_isEnough_89 rfl (lv_at hl 0 rfl) ?_
          refine m_getr S hK fk_X12_16 (gr_10_3 G 0) hW (ci_10 (Nat.le_of_ble_eq_true rfl)) dX12_isEnough_90 ?_
          refine lv_sipush hx hb dX12_isEnough_93 ks_180 ?_
          refine lv_bipush hx hb dX12_isEnough_96 kb_11 ?_
          refine lv_iload hx hb dX12_isEnough_98 (lv_at hl 3 rfl) ?_
          refine lv_imul hx hb dX12_isEnough_100 ?_
          refine lv_iadd hx hb dX12_isEnough_101 ?_
          refine lv_iconst hx hb dX12_isEnough_102 ki_2 ?_
          refine lv_iadd hx hb dX12_isEnough_103 ?_
          obtain ⟨hb104, h⟩ := h
          refine m_ald S hK (ar_46 G) hW (ci_46 (Nat.le_of_ble_eq_true rfl)) hb104 dX12_isEnough_104 ?_
          refine lv_icmp_ne (tgt := 112) hx hb dX12_isEnough_105 (by decide) (fun c105 => ?_) (fun c105 => ?_)
          · replace h := h.1 c105
            refine lv_iconst hx hb dX12_isEnough_112 ki_0 ?_
            exact b113 _ _ _ H locs ls hW hS (lv_sub hl [0, 1, 3] rfl) h
          · replace h := h.2 c105
            refine lv_iconst hx hb dX12_isEnough_108 ki_1 ?_
            refine lv_goto (tgt := 113) hx hb dX12_isEnough_109 (by decide) ?_
            exact b113 _ _ _ H locs ls hW hS (lv_sub hl [0, 1, 3] rfl) h
  have w20 : ∀ (n : Nat) (a : Mem × Int32), Lz (fun (K20 : Mem × Int32 → Prop) (a : Mem × Int32) => s_X12_isEnough_20 x1 x2 P K20 a.1 a.2) n a → ∀ (H : Heap) (locs : List Loc) (ls : Array Slot), WPm G a.1 H → va_S (fun q => bs G ≤ q) s.heap H locs → lv_has ls 6 [(0, .ref (ad G 10 0)), (1, .int x1), (2, .int x2), (4, .int a.2)] → W p l e rm_X12_isEnough s m AV below meth c H locs 0 0 (MQ below (va_Qi P (WS G) (fun q => bs G ≤ q)) AV s 0 0 (fun q => bs G ≤ q)) (F0 m 20 ls []) := by
    refine Lz_walk ?_
    rintro K20 kk20 ⟨M, x4⟩ h H locs ls hW hS hl
    replace h : s_X12_isEnough_20 x1 x2 P K20 M x4 := h
    replace hW : WPm G M H := hW
    replace hl : lv_has ls 6 [(0, .ref (ad G 10 0)), (1, .int x1), (2, .int x2), (4, .int x4)] := hl
    unfold s_X12_isEnough_20 at h
    refine lv_iload hx hb dX12_isEnough_20 (lv_at hl 3 rfl) ?_
    refine lv_iload_n hx hb dX12_isEnough_22 rfl (lv_at hl 2 rfl) ?_
    refine lv_icmp_ge (tgt := 36) hx hb dX12_isEnough_23 (by decide) (fun c23 => ?_) (fun c23 => ?_)
    · replace h := h.1 c23
      refine lv_iconst hx hb dX12_isEnough_36 ki_1 ?_
      refine lv_istore (lv' := [(4, .int (1 : Int32)), (0, .ref (ad G 10 0)), (1, .int x1), (2, .int x2)]) hx hb dX12_isEnough_37 hl (by decide) rfl (fun ls hl => ?_)
      refine lv_iconst hx hb dX12_isEnough_39 ki_0 ?_
      refine lv_istore (lv' := [(5, .int (0 : Int32)), (4, .int (1 : Int32)), (0, .ref (ad G 10 0)), (1, .int x1), (2, .int x2)]) hx hb dX12_isEnough_40 hl (by decide) rfl (fun ls hl => ?_)
      obtain ⟨n42, h⟩ := h
      exact w42 n42 _ h H locs ls hW hS (lv_sub hl [2, 3, 1, 0] rfl)
    · replace h := h.2 c23
      refine lv_aload_n hx hb dX12_isEnough_26 rfl (lv_at hl 0 rfl) ?_
      refine m_cv0 (m_rV S hKX hW (m_szH hbs hS) (c_X12_pass l ) h lk_X12_295 (m_recv hK hW (ci_10 (Nat.le_of_ble_eq_true rfl)) (rc_10 G) rfl) rfl hl.1 rfl ⟨Nat.le_of_ble_eq_true rfl, Nat.le_of_ble_eq_true rfl⟩ (Nat.le_of_ble_eq_true rfl) ⟨Nat.le_of_ble_eq_true rfl, Nat.le_of_ble_eq_true rfl⟩ dX12_isEnough_27) hS rfl rfl (fun Mm27 H locs h hW hS => ?_)
      obtain ⟨x4_30, ex4_30⟩ : ∃ z : Int32, z = x4 + (1 : Int32) := ⟨_, rfl⟩
      replace h := h x4_30 ex4_30
      refine lv_iinc (v := x4_30) (lv' := [(4, .int x4_30), (0, .ref (ad G 10 0)), (1, .int x1), (2, .int x2)]) hx hb dX12_isEnough_30 hl (k := 3) rfl (by rw [ex4_30, ki_1]) (by decide) rfl (fun ls hl => ?_)
      refine lv_goto (tgt := 20) hx hb dX12_isEnough_33 (by decide) ?_
      exact kk20 _ h H locs ls hW hS (lv_sub hl [1, 2, 3, 0] rfl)
  unfold s_X12_isEnough at h
  refine lv_aload_n hx hb dX12_isEnough_0 rfl (lv_at hl 0 rfl) ?_
  refine m_cv0 (m_rV S hKX hW (m_szH hbs hS) (c_X12_begin l ) h lk_X12_315 (m_recv hK hW (ci_10 (Nat.le_of_ble_eq_true rfl)) (rc_10 G) rfl) rfl hl.1 rfl ⟨Nat.le_of_ble_eq_true rfl, Nat.le_of_ble_eq_true rfl⟩ (Nat.le_of_ble_eq_true rfl) ⟨Nat.le_of_ble_eq_true rfl, Nat.le_of_ble_eq_true rfl⟩ dX12_isEnough_1) hS rfl rfl (fun Mm1 H locs h hW hS => ?_)
  refine lv_aload_n hx hb dX12_isEnough_4 rfl (lv_at hl 0 rfl) ?_
  refine m_getr S hK fk_X12_7 (gr_10_1 G 0) hW (ci_10 (Nat.le_of_ble_eq_true rfl)) dX12_isEnough_5 ?_
  refine lv_bipush hx hb dX12_isEnough_8 kb_70 ?_
  refine lv_iload_n hx hb dX12_isEnough_10 rfl (lv_at hl 1 rfl) ?_
  refine lv_iadd hx hb dX12_isEnough_11 ?_
  refine lv_dup2_11 hx hb dX12_isEnough_12 rfl rfl ?_
  obtain ⟨hb13, h⟩ := h
  refine m_ald S hK (ar_44 G) hW (ci_44 (Nat.le_of_ble_eq_true rfl)) hb13 dX12_isEnough_13 ?_
  refine lv_iload_n hx hb dX12_isEnough_14 rfl (lv_at hl 3 rfl) ?_
  refine lv_iadd hx hb dX12_isEnough_15 ?_
  obtain ⟨hb16, h⟩ := h
  refine m_ast S hK (ar_44 G) hW hS (ci_44 (Nat.le_of_ble_eq_true rfl)) hb16 dX12_isEnough_16 (fun Mm16 eMm16 H locs hW hS => ?_)
  replace h := h Mm16 eMm16
  refine lv_iconst hx hb dX12_isEnough_17 ki_0 ?_
  refine lv_istore (lv' := [(4, .int (0 : Int32)), (0, .ref (ad G 10 0)), (1, .int x1), (2, .int x2), (3, .int x3)]) hx hb dX12_isEnough_18 hl (by decide) rfl (fun ls hl => ?_)
  obtain ⟨n20, h⟩ := h
  exact w20 n20 _ h H locs ls hW hS (lv_sub hl [1, 2, 3, 0] rfl)
abbrev rm_X12_bought : Room := { frames := 14, cells := 0, slots := 0, locals := 337 }
set_option maxHeartbeats 4000000 in
set_option maxRecDepth 100000 in
theorem c_X12_bought (l : Launch) {G : Gn} {M : Mem} {x1 : Int32} {x2 : Int32} {P : Int32 → Mem → Prop} : MQi l yX12_bought cX12_bought 7 (some .int) rm_X12_bought [.ref (ad G 10 0), .int x1, .int x2] G M (s_X12_bought M x1 x2 P) P := by
  refine m_enter (by decide +kernel) (Nat.le_of_ble_eq_true rfl) ?_
  intro p e s m below meth c ls H locs S hret hlocks hname hKX hbs hW hS hl h
  obtain ⟨AV, hAV⟩ : ∃ z : Array Value, z = ([.ref (ad G 10 0), .int x1, .int x2] : List Value).toArray := ⟨_, rfl⟩
  rw [← hAV] at S ⊢
  replace S : CallFix p m c cX12_bought 7 s AV lw_G "MilkDeskModel" := S
  have hK := hKX.1
  have hx := S.1
  have hb := S.2.1
  have hml := S.2.2.1
  have hown := S.2.2.2.1
  have hts := S.2.2.2.2
  replace hl : lv_has ls 7 [(0, .ref (ad G 10 0)), (1, .int x1), (2, .int x2)] := hl
  have w64 : ∀ (n : Nat) (a : Mem × Int32 × Int32), Lz (fun (K64 : Mem × Int32 × Int32 → Prop) (a : Mem × Int32 × Int32) => s_X12_bought_64 x1 x2 P K64 a.1 a.2.1 a.2.2) n a → ∀ (H : Heap) (locs : List Loc) (ls : Array Slot), WPm G a.1 H → va_S (fun q => bs G ≤ q) s.heap H locs → lv_has ls 7 [(0, .ref (ad G 10 0)), (1, .int x1), (2, .int x2), (4, .int a.2.1), (5, .int a.2.2)] → W p l e rm_X12_bought s m AV below meth c H locs 0 0 (MQ below (va_Qi P (WS G) (fun q => bs G ≤ q)) AV s 0 0 (fun q => bs G ≤ q)) (F0 m 64 ls []) := by
    refine Lz_walk ?_
    rintro K64 kk64 ⟨M, x4, x5⟩ h H locs ls hW hS hl
    replace h : s_X12_bought_64 x1 x2 P K64 M x4 x5 := h
    replace hW : WPm G M H := hW
    replace hl : lv_has ls 7 [(0, .ref (ad G 10 0)), (1, .int x1), (2, .int x2), (4, .int x4), (5, .int x5)] := hl
    unfold s_X12_bought_64 at h
    refine lv_iload hx hb dX12_bought_64 (lv_at hl 4 rfl) ?_
    refine lv_iload hx hb dX12_bought_66 (lv_at hl 3 rfl) ?_
    refine lv_iconst hx hb dX12_bought_68 ki_1 ?_
    refine lv_iadd hx hb dX12_bought_69 ?_
    refine lv_icmp_le (tgt := 107) hx hb dX12_bought_70 (by decide) (fun c70 => ?_) (fun c70 => ?_)
    · replace h := h.1 c70
      refine lv_iload hx hb dX12_bought_107 (lv_at hl 4 rfl) ?_
      exact m_iret S hret hlocks hKX hW hbs hS rfl h dX12_bought_109
    · replace h := h.2 c70
      refine lv_iload hx hb dX12_bought_73 (lv_at hl 3 rfl) ?_
      refine lv_iload hx hb dX12_bought_75 (lv_at hl 4 rfl) ?_
      refine lv_iadd hx hb dX12_bought_77 ?_
      refine lv_iconst hx hb dX12_bought_78 ki_2 ?_
      refine lv_idiv hx hb dX12_bought_79 nz_2 ?_
      refine lv_topi (fun x6_80 ex6_80 => ?_)
      replace h := h x6_80 ex6_80
      refine lv_istore (lv' := [(6, .int x6_80), (0, .ref (ad G 10 0)), (1, .int x1), (2, .int x2), (4, .int x4), (5, .int x5)]) hx hb dX12_bought_80 hl (by decide) rfl (fun ls hl => ?_)
      refine lv_aload_n hx hb dX12_bought_82 rfl (lv_at hl 1 rfl) ?_
      refine lv_iload_n hx hb dX12_bought_83 rfl (lv_at hl 2 rfl) ?_
      refine lv_iload_n hx hb dX12_bought_84 rfl (lv_at hl 3 rfl) ?_
      refine lv_iload hx hb dX12_bought_85 (lv_at hl 0 rfl) ?_
      refine m_ci0 (m_rV S hKX hW (m_szH hbs hS) (c_X12_isEnough l ) h lk_X12_321 (m_recv hK hW (ci_10 (Nat.le_of_ble_eq_true rfl)) (rc_10 G) rfl) rfl hl.1 rfl ⟨Nat.le_of_ble_eq_true rfl, Nat.le_of_ble_eq_true rfl⟩ (Nat.le_of_ble_eq_true rfl) ⟨Nat.le_of_ble_eq_true rfl, Nat.le_of_ble_eq_true rfl⟩ dX12_bought_87) hS rfl rfl (fun rr87 Mm87 H locs h hW hS => ?_)
      refine lv_if_eq (tgt := 100) hx hb dX12_bought_90 (by decide) (fun c90 => ?_) (fun c90 => ?_)
      · replace h := h.1 c90
        refine lv_iload hx hb dX12_bought_100 (lv_at hl 0 rfl) ?_
        refine lv_istore (lv' := [(4, .int x6_80), (6, .int x6_80), (0, .ref (ad G 10 0)), (1, .int x1), (2, .int x2), (5, .int x5)]) hx hb dX12_bought_102 hl (by decide) rfl (fun ls hl => ?_)
        refine lv_goto (tgt := 64) hx hb dX12_bought_104 (by decide) ?_
        exact kk64 _ h H locs ls hW hS (lv_sub hl [2, 3, 4, 0, 5] rfl)
      · replace h := h.2 c90
        refine lv_iload hx hb dX12_bought_93 (lv_at hl 0 rfl) ?_
        refine lv_istore (lv' := [(5, .int x6_80), (6, .int x6_80), (0, .ref (ad G 10 0)), (1, .int x1), (2, .int x2), (4, .int x4)]) hx hb dX12_bought_95 hl (by decide) rfl (fun ls hl => ?_)
        refine lv_goto (tgt := 104) hx hb dX12_bought_97 (by decide) ?_
        refine lv_goto (tgt := 64) hx hb dX12_bought_104 (by decide) ?_
        exact kk64 _ h H locs ls hW hS (lv_sub hl [2, 3, 4, 5, 0] rfl)
  unfold s_X12_bought at h
  refine lv_aload_n hx hb dX12_bought_0 rfl (lv_at hl 0 rfl) ?_
  refine lv_iconst hx hb dX12_bought_1 ki_0 ?_
  refine m_put S hK fk_X12_128 tyX12_ok nmX12 rfl pf_X12_0 (pv_10_0 G) hW hS (ci_10 (Nat.le_of_ble_eq_true rfl)) rfl rfl dX12_bought_2 (fun Mm2 eMm2 H locs hW hS => ?_)
  replace h := h Mm2 eMm2
  refine lv_aload_n hx hb dX12_bought_5 rfl (lv_at hl 0 rfl) ?_
  refine lv_iload_n hx hb dX12_bought_6 rfl (lv_at hl 1 rfl) ?_
  refine m_ci0 (m_rV S hKX hW (m_szH hbs hS) (c_X12_isDairy l ) h lk_X12_142 (m_recv hK hW (ci_10 (Nat.le_of_ble_eq_true rfl)) (rc_10 G) rfl) rfl hl.1 rfl ⟨Nat.le_of_ble_eq_true rfl, Nat.le_of_ble_eq_true rfl⟩ (Nat.le_of_ble_eq_true rfl) ⟨Nat.le_of_ble_eq_true rfl, Nat.le_of_ble_eq_true rfl⟩ dX12_bought_7) hS rfl rfl (fun rr7 Mm7 H locs h hW hS => ?_)
  refine lv_if_ne (tgt := 15) hx hb dX12_bought_10 (by decide) (fun c10 => ?_) (fun c10 => ?_)
  · replace h := h.1 c10
    refine lv_aload_n hx hb dX12_bought_15 rfl (lv_at hl 0 rfl) ?_
    refine lv_iload_n hx hb dX12_bought_16 rfl (lv_at hl 2 rfl) ?_
    refine lv_bipush hx hb dX12_bought_17 kb_20 ?_
    refine m_ci0 (m_rV S hKX hW (m_szH hbs hS) (c_X12_wrongDays l ) h lk_X12_292 (m_recv hK hW (ci_10 (Nat.le_of_ble_eq_true rfl)) (rc_10 G) rfl) rfl hl.1 rfl ⟨Nat.le_of_ble_eq_true rfl, Nat.le_of_ble_eq_true rfl⟩ (Nat.le_of_ble_eq_true rfl) ⟨Nat.le_of_ble_eq_true rfl, Nat.le_of_ble_eq_true rfl⟩ dX12_bought_19) hS rfl rfl (fun rr19 Mm19 H locs h hW hS => ?_)
    refine lv_istore_n (lv' := [(3, .int rr19), (0, .ref (ad G 10 0)), (1, .int x1), (2, .int x2)]) hx hb dX12_bought_22 rfl hl (by decide) rfl (fun ls hl => ?_)
    refine lv_iload_n hx hb dX12_bought_23 rfl (lv_at hl 0 rfl) ?_
    refine lv_if_ge (tgt := 29) hx hb dX12_bought_24 (by decide) (fun c24 => ?_) (fun c24 => ?_)
    · replace h := h.1 c24
      refine lv_aload_n hx hb dX12_bought_29 rfl (lv_at hl 1 rfl) ?_
      refine lv_iload_n hx hb dX12_bought_30 rfl (lv_at hl 2 rfl) ?_
      refine lv_iload_n hx hb dX12_bought_31 rfl (lv_at hl 3 rfl) ?_
      refine lv_iconst hx hb dX12_bought_32 ki_0 ?_
      refine m_ci0 (m_rV S hKX hW (m_szH hbs hS) (c_X12_isEnough l ) h lk_X12_321 (m_recv hK hW (ci_10 (Nat.le_of_ble_eq_true rfl)) (rc_10 G) rfl) rfl hl.1 rfl ⟨Nat.le_of_ble_eq_true rfl, Nat.le_of_ble_eq_true rfl⟩ (Nat.le_of_ble_eq_true rfl) ⟨Nat.le_of_ble_eq_true rfl, Nat.le_of_ble_eq_true rfl⟩ dX12_bought_33) hS rfl rfl (fun rr33 Mm33 H locs h hW hS => ?_)
      refine lv_if_eq (tgt := 41) hx hb dX12_bought_36 (by decide) (fun c36 => ?_) (fun c36 => ?_)
      · replace h := h.1 c36
        refine lv_aload_n hx hb dX12_bought_41 rfl (lv_at hl 1 rfl) ?_
        refine lv_iload_n hx hb dX12_bought_42 rfl (lv_at hl 2 rfl) ?_
        refine lv_iload_n hx hb dX12_bought_43 rfl (lv_at hl 3 rfl) ?_
        refine lv_sipush hx hb dX12_bought_44 ks_1000 ?_
        refine m_ci0 (m_rV S hKX hW (m_szH hbs hS) (c_X12_isEnough l ) h lk_X12_321 (m_recv hK hW (ci_10 (Nat.le_of_ble_eq_true rfl)) (rc_10 G) rfl) rfl hl.1 rfl ⟨Nat.le_of_ble_eq_true rfl, Nat.le_of_ble_eq_true rfl⟩ (Nat.le_of_ble_eq_true rfl) ⟨Nat.le_of_ble_eq_true rfl, Nat.le_of_ble_eq_true rfl⟩ dX12_bought_47) hS rfl rfl (fun rr47 Mm47 H locs h hW hS => ?_)
        refine lv_if_ne (tgt := 56) hx hb dX12_bought_50 (by decide) (fun c50 => ?_) (fun c50 => ?_)
        · replace h := h.1 c50
          refine lv_iconst hx hb dX12_bought_56 ki_0 ?_
          refine lv_istore (lv' := [(4, .int (0 : Int32)), (3, .int rr19), (0, .ref (ad G 10 0)), (1, .int x1), (2, .int x2)]) hx hb dX12_bought_57 hl (by decide) rfl (fun ls hl => ?_)
          refine lv_sipush hx hb dX12_bought_59 ks_1000 ?_
          refine lv_istore (lv' := [(5, .int (1000 : Int32)), (4, .int (0 : Int32)), (3, .int rr19), (0, .ref (ad G 10 0)), (1, .int x1), (2, .int x2)]) hx hb dX12_bought_62 hl (by decide) rfl (fun ls hl => ?_)
          obtain ⟨n64, h⟩ := h
          exact w64 n64 _ h H locs ls hW hS (lv_sub hl [3, 4, 5, 1, 0] rfl)
        · replace h := h.2 c50
          refine lv_bipush hx hb dX12_bought_53 kb_m4 ?_
          exact m_iret S hret hlocks hKX hW hbs hS rfl h dX12_bought_55
      · replace h := h.2 c36
        refine lv_iconst hx hb dX12_bought_39 ki_0 ?_
        exact m_iret S hret hlocks hKX hW hbs hS rfl h dX12_bought_40
    · replace h := h.2 c24
      refine lv_iload_n hx hb dX12_bought_27 rfl (lv_at hl 0 rfl) ?_
      exact m_iret S hret hlocks hKX hW hbs hS rfl h dX12_bought_28
  · replace h := h.2 c10
    refine lv_iconst hx hb dX12_bought_13 ki_m1 ?_
    exact m_iret S hret hlocks hKX hW hbs hS rfl h dX12_bought_14
abbrev rm_X12_isPermutation : Room := { frames := 1, cells := 0, slots := 0, locals := 22 }
set_option maxHeartbeats 4000000 in
set_option maxRecDepth 100000 in
theorem c_X12_isPermutation (l : Launch) {G : Gn} {M : Mem} {x0 : Int32} {P : Int32 → Mem → Prop} : MQi l yX12_isPermutation cX12_isPermutation 3 (some .boolean) rm_X12_isPermutation [.int x0] G M (s_X12_isPermutation M x0 P) P := by
  refine m_enter (by decide +kernel) (Nat.le_of_ble_eq_true rfl) ?_
  intro p e s m below meth c ls H locs S hret hlocks hname hKX hbs hW hS hl h
  obtain ⟨AV, hAV⟩ : ∃ z : Array Value, z = ([.int x0] : List Value).toArray := ⟨_, rfl⟩
  rw [← hAV] at S ⊢
  replace S : CallFix p m c cX12_isPermutation 3 s AV lw_G "MilkDeskModel" := S
  have hK := hKX.1
  have hx := S.1
  have hb := S.2.1
  have hml := S.2.2.1
  have hown := S.2.2.2.1
  have hts := S.2.2.2.2
  replace hl : lv_has ls 3 [(0, .int x0)] := hl
  have w4 : ∀ (n : Nat) (a : Mem × Int32 × Int32), Lz (fun (K4 : Mem × Int32 × Int32 → Prop) (a : Mem × Int32 × Int32) => s_X12_isPermutation_4 x0 P K4 a.1 a.2.1 a.2.2) n a → ∀ (H : Heap) (locs : List Loc) (ls : Array Slot), WPm G a.1 H → va_S (fun q => bs G ≤ q) s.heap H locs → lv_has ls 3 [(0, .int x0), (1, .int a.2.1), (2, .int a.2.2)] → W p l e rm_X12_isPermutation s m AV below meth c H locs 0 0 (MQ below (va_Qi P (WS G) (fun q => bs G ≤ q)) AV s 0 0 (fun q => bs G ≤ q)) (F0 m 4 ls []) := by
    refine Lz_walk ?_
    rintro K4 kk4 ⟨M, x1, x2⟩ h H locs ls hW hS hl
    replace h : s_X12_isPermutation_4 x0 P K4 M x1 x2 := h
    replace hW : WPm G M H := hW
    replace hl : lv_has ls 3 [(0, .int x0), (1, .int x1), (2, .int x2)] := hl
    unfold s_X12_isPermutation_4 at h
    refine lv_iload_n hx hb dX12_isPermutation_4 rfl (lv_at hl 2 rfl) ?_
    refine lv_iconst hx hb dX12_isPermutation_5 ki_4 ?_
    refine lv_icmp_ge (tgt := 27) hx hb dX12_isPermutation_6 (by decide) (fun c6 => ?_) (fun c6 => ?_)
    · replace h := h.1 c6
      refine lv_iload_n hx hb dX12_isPermutation_27 rfl (lv_at hl 0 rfl) ?_
      refine lv_iconst hx hb dX12_isPermutation_28 ki_0 ?_
      refine lv_sipush hx hb dX12_isPermutation_29 ks_255 ?_
      refine m_ci0 (m_rS S hKX hW (m_szH hbs hS) (c_X12_in l ) h lk_X12_131 rfl hl.1 rfl ⟨Nat.le_of_ble_eq_true rfl, Nat.le_of_ble_eq_true rfl⟩ (Nat.le_of_ble_eq_true rfl) ⟨Nat.le_of_ble_eq_true rfl, Nat.le_of_ble_eq_true rfl⟩ dX12_isPermutation_32) hS rfl rfl (fun rr32 Mm32 H locs h hW hS => ?_)
      refine lv_if_eq (tgt := 48) hx hb dX12_isPermutation_35 (by decide) (fun c35 => ?_) (fun c35 => ?_)
      · replace h := h.1 c35
        refine lv_iconst hx hb dX12_isPermutation_48 ki_0 ?_
        exact m_iret S hret hlocks hKX hW hbs hS rfl h dX12_isPermutation_49
      · replace h := h.2 c35
        refine lv_iload_n hx hb dX12_isPermutation_38 rfl (lv_at hl 1 rfl) ?_
        refine lv_bipush hx hb dX12_isPermutation_39 kb_15 ?_
        refine lv_icmp_ne (tgt := 48) hx hb dX12_isPermutation_41 (by decide) (fun c41 => ?_) (fun c41 => ?_)
        · replace h := h.1 c41
          refine lv_iconst hx hb dX12_isPermutation_48 ki_0 ?_
          exact m_iret S hret hlocks hKX hW hbs hS rfl h dX12_isPermutation_49
        · replace h := h.2 c41
          refine lv_iconst hx hb dX12_isPermutation_44 ki_1 ?_
          refine lv_goto (tgt := 49) hx hb dX12_isPermutation_45 (by decide) ?_
          exact m_iret S hret hlocks hKX hW hbs hS rfl h dX12_isPermutation_49
    · replace h := h.2 c6
      refine lv_iload_n hx hb dX12_isPermutation_9 rfl (lv_at hl 1 rfl) ?_
      refine lv_iconst hx hb dX12_isPermutation_10 ki_1 ?_
      refine lv_iload_n hx hb dX12_isPermutation_11 rfl (lv_at hl 0 rfl) ?_
      refine lv_iconst hx hb dX12_isPermutation_12 ki_2 ?_
      refine lv_iload_n hx hb dX12_isPermutation_13 rfl (lv_at hl 2 rfl) ?_
      refine lv_imul hx hb dX12_isPermutation_14 ?_
      refine lv_ishr hx hb dX12_isPermutation_15 ?_
      refine lv_iconst hx hb dX12_isPermutation_16 ki_3 ?_
      refine lv_iand hx hb dX12_isPermutation_17 ?_
      refine lv_ishl hx hb dX12_isPermutation_18 ?_
      refine lv_ior hx hb dX12_isPermutation_19 ?_
      refine lv_topi (fun x1_20 ex1_20 => ?_)
      replace h := h x1_20 ex1_20
      refine lv_istore_n (lv' := [(1, .int x1_20), (0, .int x0), (2, .int x2)]) hx hb dX12_isPermutation_20 rfl hl (by decide) rfl (fun ls hl => ?_)
      obtain ⟨x2_21, ex2_21⟩ : ∃ z : Int32, z = x2 + (1 : Int32) := ⟨_, rfl⟩
      replace h := h x2_21 ex2_21
      refine lv_iinc (v := x2_21) (lv' := [(2, .int x2_21), (1, .int x1_20), (0, .int x0)]) hx hb dX12_isPermutation_21 hl (k := 2) rfl (by rw [ex2_21, ki_1]) (by decide) rfl (fun ls hl => ?_)
      refine lv_goto (tgt := 4) hx hb dX12_isPermutation_24 (by decide) ?_
      exact kk4 _ h H locs ls hW hS (lv_sub hl [2, 1, 0] rfl)
  unfold s_X12_isPermutation at h
  refine lv_iconst hx hb dX12_isPermutation_0 ki_0 ?_
  refine lv_istore_n (lv' := [(1, .int (0 : Int32)), (0, .int x0)]) hx hb dX12_isPermutation_1 rfl hl (by decide) rfl (fun ls hl => ?_)
  refine lv_iconst hx hb dX12_isPermutation_2 ki_0 ?_
  refine lv_istore_n (lv' := [(2, .int (0 : Int32)), (1, .int (0 : Int32)), (0, .int x0)]) hx hb dX12_isPermutation_3 rfl hl (by decide) rfl (fun ls hl => ?_)
  obtain ⟨n4, h⟩ := h
  exact w4 n4 _ h H locs ls hW hS (lv_sub hl [2, 1, 0] rfl)
abbrev rm_X12_parted : Room := { frames := 11, cells := 0, slots := 0, locals := 258 }
set_option maxHeartbeats 4000000 in
set_option maxRecDepth 100000 in
theorem c_X12_parted (l : Launch) {G : Gn} {M : Mem} {x1 : Int32} {x2 : Int32} {x3 : Int32} {x4 : Int32} {P : Int32 → Mem → Prop} : MQi l yX12_parted cX12_parted 11 (some .int) rm_X12_parted [.ref (ad G 10 0), .int x1, .int x2, .int x3, .int x4] G M (s_X12_parted M x1 x2 x3 x4 P) P := by
  refine m_enter (by decide +kernel) (Nat.le_of_ble_eq_true rfl) ?_
  intro p e s m below meth c ls H locs S hret hlocks hname hKX hbs hW hS hl h
  obtain ⟨AV, hAV⟩ : ∃ z : Array Value, z = ([.ref (ad G 10 0), .int x1, .int x2, .int x3, .int x4] : List Value).toArray := ⟨_, rfl⟩
  rw [← hAV] at S ⊢
  replace S : CallFix p m c cX12_parted 11 s AV lw_G "MilkDeskModel" := S
  have hK := hKX.1
  have hx := S.1
  have hb := S.2.1
  have hml := S.2.2.1
  have hown := S.2.2.2.1
  have hts := S.2.2.2.2
  replace hl : lv_has ls 11 [(0, .ref (ad G 10 0)), (1, .int x1), (2, .int x2), (3, .int x3), (4, .int x4)] := hl
  have w58 : ∀ (n : Nat) (a : Mem × Int32 × Int32 × Int32), Lz (fun (K58 : Mem × Int32 × Int32 × Int32 → Prop) (a : Mem × Int32 × Int32 × Int32) => s_X12_parted_58 x2 x3 x4 P K58 a.1 a.2.1 a.2.2.1 a.2.2.2) n a → ∀ (H : Heap) (locs : List Loc) (ls : Array Slot), WPm G a.1 H → va_S (fun q => bs G ≤ q) s.heap H locs → lv_has ls 11 [(0, .ref (ad G 10 0)), (2, .int x2), (3, .int x3), (4, .int x4), (5, .int a.2.1), (6, .int a.2.2.1), (7, .int a.2.2.2)] → W p l e rm_X12_parted s m AV below meth c H locs 0 0 (MQ below (va_Qi P (WS G) (fun q => bs G ≤ q)) AV s 0 0 (fun q => bs G ≤ q)) (F0 m 58 ls []) := by
    refine Lz_walk ?_
    rintro K58 kk58 ⟨M, x5, x6, x7⟩ h H locs ls hW hS hl
    replace h : s_X12_parted_58 x2 x3 x4 P K58 M x5 x6 x7 := h
    replace hW : WPm G M H := hW
    replace hl : lv_has ls 11 [(0, .ref (ad G 10 0)), (2, .int x2), (3, .int x3), (4, .int x4), (5, .int x5), (6, .int x6), (7, .int x7)] := hl
    have b155 : ∀ (M : Mem) (x5 : Int32) (x7 : Int32) (x10 : Int32) (y0 : Int32) (H : Heap) (locs : List Loc) (ls : Array Slot), WPm G M H → va_S (fun q => bs G ≤ q) s.heap H locs → lv_has ls 11 [(0, .ref (ad G 10 0)), (2, .int x2), (3, .int x3), (4, .int x4), (5, .int x5), (7, .int x7), (10, .int x10)] → s_X12_parted_155 x2 x3 x4 P K58 M x5 x7 x10 y0 → W p l e rm_X12_parted s m AV below meth c H locs 0 0 (MQ below (va_Qi P (WS G) (fun q => bs G ≤ q)) AV s 0 0 (fun q => bs G ≤ q)) (F0 m 155 ls [.int y0]) := by
      intro M x5 x7 x10 y0 H locs ls hW hS hl h
      unfold s_X12_parted_155 at h
      refine lv_istore (lv' := [(6, .int y0), (0, .ref (ad G 10 0)), (2, .int x2), (3, .int x3), (4, .int x4), (5, .int x5), (7, .int x7), (10, .int x10)]) hx hb dX12_parted_155 hl (by decide) rfl (fun ls hl => ?_)
      refine lv_iload hx hb dX12_parted_157 (lv_at hl 5 rfl) ?_
      refine lv_iload hx hb dX12_parted_159 (lv_at hl 7 rfl) ?_
      refine lv_isub hx hb dX12_parted_161 ?_
      refine lv_topi (fun x5_162 ex5_162 => ?_)
      replace h := h x5_162 ex5_162
      refine lv_istore (lv' := [(5, .int x5_162), (6, .int y0), (0, .ref (ad G 10 0)), (2, .int x2), (3, .int x3), (4, .int x4), (7, .int x7), (10, .int x10)]) hx hb dX12_parted_162 hl (by decide) rfl (fun ls hl => ?_)
      obtain ⟨x7_164, ex7_164⟩ : ∃ z : Int32, z = x7 + (1 : Int32) := ⟨_, rfl⟩
      replace h := h x7_164 ex7_164
      refine lv_iinc (v := x7_164) (lv' := [(7, .int x7_164), (5, .int x5_162), (6, .int y0), (0, .ref (ad G 10 0)), (2, .int x2), (3, .int x3), (4, .int x4), (10, .int x10)]) hx hb dX12_parted_164 hl (k := 6) rfl (by rw [ex7_164, ki_1]) (by decide) rfl (fun ls hl => ?_)
      refine lv_goto (tgt := 58) hx hb dX12_parted_167 (by decide) ?_
      exact kk58 _ h H locs ls hW hS (lv_sub hl [3, 4, 5, 6, 1, 2, 0] rfl)
    have b139 : ∀ (M : Mem) (x5 : Int32) (x6 : Int32) (x7 : Int32) (x8 : Int32) (y0 : Int32) (H : Heap) (locs : List Loc) (ls : Array Slot), WPm G M H → va_S (fun q => bs G ≤ q) s.heap H locs → lv_has ls 11 [(0, .ref (ad G 10 0)), (2, .int x2), (3, .int x3), (4, .int x4), (5, .int x5), (6, .int x6), (7, .int x7), (8, .int x8)] → s_X12_parted_139 x2 x3 x4 P K58 M x5 x6 x7 x8 y0 → W p l e rm_X12_parted s m AV below meth c H locs 0 0 (MQ below (va_Qi P (WS G) (fun q => bs G ≤ q)) AV s 0 0 (fun q => bs G ≤ q)) (F0 m 139 ls [.int y0]) := by
      intro M x5 x6 x7 x8 y0 H locs ls hW hS hl h
      unfold s_X12_parted_139 at h
      refine lv_istore (lv' := [(10, .int y0), (0, .ref (ad G 10 0)), (2, .int x2), (3, .int x3), (4, .int x4), (5, .int x5), (6, .int x6), (7, .int x7), (8, .int x8)]) hx hb dX12_parted_139 hl (by decide) rfl (fun ls hl => ?_)
      refine lv_iload hx hb dX12_parted_141 (lv_at hl 8 rfl) ?_
      refine lv_iload hx hb dX12_parted_143 (lv_at hl 4 rfl) ?_
      refine lv_icmp_ne (tgt := 153) hx hb dX12_parted_145 (by decide) (fun c145 => ?_) (fun c145 => ?_)
      · replace h := h.1 c145
        refine lv_iload hx hb dX12_parted_153 (lv_at hl 6 rfl) ?_
        exact b155 _ _ _ _ _ H locs ls hW hS (lv_sub hl [1, 2, 3, 4, 5, 7, 0] rfl) h
      · replace h := h.2 c145
        refine lv_iload hx hb dX12_parted_148 (lv_at hl 0 rfl) ?_
        refine lv_goto (tgt := 155) hx hb dX12_parted_150 (by decide) ?_
        exact b155 _ _ _ _ _ H locs ls hW hS (lv_sub hl [1, 2, 3, 4, 5, 7, 0] rfl) h
    have w80 : ∀ (x5 : Int32) (x6 : Int32) (x7 : Int32) (x8 : Int32), ∀ (n : Nat) (a : Mem × Int32 × Int32), Lz (fun (K80 : Mem × Int32 × Int32 → Prop) (a : Mem × Int32 × Int32) => s_X12_parted_80 x2 x3 x4 x5 x6 x7 x8 P K58 K80 a.1 a.2.1 a.2.2) n a → ∀ (H : Heap) (locs : List Loc) (ls : Array Slot), WPm G a.1 H → va_S (fun q => bs G ≤ q) s.heap H locs → lv_has ls 11 [(0, .ref (ad G 10 0)), (2, .int x2), (3, .int x3), (4, .int x4), (5, .int x5), (6, .int x6), (7, .int x7), (8, .int x8), (9, .int a.2.1), (10, .int a.2.2)] → W p l e rm_X12_parted s m AV below meth c H locs 0 0 (MQ below (va_Qi P (WS G) (fun q => bs G ≤ q)) AV s 0 0 (fun q => bs G ≤ q)) (F0 m 80 ls []) := by
      intro x5 x6 x7 x8
      refine Lz_walk ?_
      rintro K80 kk80 ⟨M, x9, x10⟩ h H locs ls hW hS hl
      replace h : s_X12_parted_80 x2 x3 x4 x5 x6 x7 x8 P K58 K80 M x9 x10 := h
      replace hW : WPm G M H := hW
      replace hl : lv_has ls 11 [(0, .ref (ad G 10 0)), (2, .int x2), (3, .int x3), (4, .int x4), (5, .int x5), (6, .int x6), (7, .int x7), (8, .int x8), (9, .int x9), (10, .int x10)] := hl
      have b116 : ∀ (M : Mem) (x10 : Int32) (y0 : Int32) (y1 : Int32) (H : Heap) (locs : List Loc) (ls : Array Slot), WPm G M H → va_S (fun q => bs G ≤ q) s.heap H locs → lv_has ls 11 [(0, .ref (ad G 10 0)), (2, .int x2), (3, .int x3), (4, .int x4), (5, .int x5), (6, .int x6), (7, .int x7), (8, .int x8), (10, .int x10)] → s_X12_parted_116 x2 x3 x4 x5 x6 x7 x8 P K58 K80 M x10 y0 y1 → W p l e rm_X12_parted s m AV below meth c H locs 0 0 (MQ below (va_Qi P (WS G) (fun q => bs G ≤ q)) AV s 0 0 (fun q => bs G ≤ q)) (F0 m 116 ls [.int y0, .int y1]) := by
        intro M x10 y0 y1 H locs ls hW hS hl h
        unfold s_X12_parted_116 at h
        refine lv_iadd hx hb dX12_parted_116 ?_
        refine lv_topi (fun x9_117 ex9_117 => ?_)
        replace h := h x9_117 ex9_117
        refine lv_istore (lv' := [(9, .int x9_117), (0, .ref (ad G 10 0)), (2, .int x2), (3, .int x3), (4, .int x4), (5, .int x5), (6, .int x6), (7, .int x7), (8, .int x8), (10, .int x10)]) hx hb dX12_parted_117 hl (by decide) rfl (fun ls hl => ?_)
        obtain ⟨x10_119, ex10_119⟩ : ∃ z : Int32, z = x10 + (1 : Int32) := ⟨_, rfl⟩
        replace h := h x10_119 ex10_119
        refine lv_iinc (v := x10_119) (lv' := [(10, .int x10_119), (9, .int x9_117), (0, .ref (ad G 10 0)), (2, .int x2), (3, .int x3), (4, .int x4), (5, .int x5), (6, .int x6), (7, .int x7), (8, .int x8)]) hx hb dX12_parted_119 hl (k := 9) rfl (by rw [ex10_119, ki_1]) (by decide) rfl (fun ls hl => ?_)
        refine lv_goto (tgt := 80) hx hb dX12_parted_122 (by decide) ?_
        exact kk80 _ h H locs ls hW hS (lv_sub hl [2, 3, 4, 5, 6, 7, 8, 9, 1, 0] rfl)
      unfold s_X12_parted_80 at h
      refine lv_iload hx hb dX12_parted_80 (lv_at hl 9 rfl) ?_
      refine lv_aload_n hx hb dX12_parted_82 rfl (lv_at hl 0 rfl) ?_
      refine m_getr S hK fk_X12_7 (gr_10_1 G 0) hW (ci_10 (Nat.le_of_ble_eq_true rfl)) dX12_parted_83 ?_
      refine lv_iconst hx hb dX12_parted_86 ki_0 ?_
      refine m_aldk S hK (ar_44 G) hW (ci_44 (Nat.le_of_ble_eq_true rfl)) kn_0 (Nat.le_of_ble_eq_true rfl) dX12_parted_87 ?_
      refine lv_icmp_ge (tgt := 125) hx hb dX12_parted_88 (by decide) (fun c88 => ?_) (fun c88 => ?_)
      · replace h := h.1 c88
        refine lv_iload hx hb dX12_parted_125 (lv_at hl 8 rfl) ?_
        refine lv_iload hx hb dX12_parted_127 (lv_at hl 4 rfl) ?_
        refine lv_icmp_ge (tgt := 137) hx hb dX12_parted_129 (by decide) (fun c129 => ?_) (fun c129 => ?_)
        · replace h := h.1 c129
          refine lv_iload hx hb dX12_parted_137 (lv_at hl 4 rfl) ?_
          exact b139 _ _ _ _ _ _ H locs ls hW hS (lv_sub hl [0, 1, 2, 3, 4, 5, 6, 7] rfl) h
        · replace h := h.2 c129
          refine lv_iload hx hb dX12_parted_132 (lv_at hl 8 rfl) ?_
          refine lv_goto (tgt := 139) hx hb dX12_parted_134 (by decide) ?_
          exact b139 _ _ _ _ _ _ H locs ls hW hS (lv_sub hl [0, 1, 2, 3, 4, 5, 6, 7] rfl) h
      · replace h := h.2 c88
        refine lv_iload hx hb dX12_parted_91 (lv_at hl 8 rfl) ?_
        refine lv_aload_n hx hb dX12_parted_93 rfl (lv_at hl 0 rfl) ?_
        refine m_getr S hK fk_X12_19 (gr_10_5 G 0) hW (ci_10 (Nat.le_of_ble_eq_true rfl)) dX12_parted_94 ?_
        refine lv_iload hx hb dX12_parted_97 (lv_at hl 9 rfl) ?_
        obtain ⟨hb99, h⟩ := h
        refine m_ald S hK (ar_47 G) hW (ci_47 (Nat.le_of_ble_eq_true rfl)) hb99 dX12_parted_99 ?_
        refine lv_iload hx hb dX12_parted_100 (lv_at hl 7 rfl) ?_
        refine lv_icmp_ne (tgt := 115) hx hb dX12_parted_102 (by decide) (fun c102 => ?_) (fun c102 => ?_)
        · replace h := h.1 c102
          refine lv_iconst hx hb dX12_parted_115 ki_0 ?_
          exact b116 _ _ _ _ H locs ls hW hS (lv_sub hl [0, 1, 2, 3, 4, 5, 6, 7, 9] rfl) h
        · replace h := h.2 c102
          refine lv_aload_n hx hb dX12_parted_105 rfl (lv_at hl 0 rfl) ?_
          refine lv_iload hx hb dX12_parted_106 (lv_at hl 9 rfl) ?_
          refine lv_iload_n hx hb dX12_parted_108 rfl (lv_at hl 1 rfl) ?_
          refine m_ci0 (m_rV S hKX hW (m_szH hbs hS) (c_X12_orderOf l ) h lk_X12_275 (m_recv hK hW (ci_10 (Nat.le_of_ble_eq_true rfl)) (rc_10 G) rfl) rfl hl.1 rfl ⟨Nat.le_of_ble_eq_true rfl, Nat.le_of_ble_eq_true rfl⟩ (Nat.le_of_ble_eq_true rfl) ⟨Nat.le_of_ble_eq_true rfl, Nat.le_of_ble_eq_true rfl⟩ dX12_parted_109) hS rfl rfl (fun rr109 Mm109 H locs h hW hS => ?_)
          refine lv_goto (tgt := 116) hx hb dX12_parted_112 (by decide) ?_
          exact b116 _ _ _ _ H locs ls hW hS (lv_sub hl [0, 1, 2, 3, 4, 5, 6, 7, 9] rfl) h
    unfold s_X12_parted_58 at h
    refine lv_iload hx hb dX12_parted_58 (lv_at hl 6 rfl) ?_
    refine lv_iconst hx hb dX12_parted_60 ki_4 ?_
    refine lv_icmp_ge (tgt := 170) hx hb dX12_parted_61 (by decide) (fun c61 => ?_) (fun c61 => ?_)
    · replace h := h.1 c61
      refine lv_iload hx hb dX12_parted_170 (lv_at hl 5 rfl) ?_
      exact m_iret S hret hlocks hKX hW hbs hS rfl h dX12_parted_172
    · replace h := h.2 c61
      refine lv_iload_n hx hb dX12_parted_64 rfl (lv_at hl 2 rfl) ?_
      refine lv_iconst hx hb dX12_parted_65 ki_2 ?_
      refine lv_iload hx hb dX12_parted_66 (lv_at hl 6 rfl) ?_
      refine lv_imul hx hb dX12_parted_68 ?_
      refine lv_ishr hx hb dX12_parted_69 ?_
      refine lv_iconst hx hb dX12_parted_70 ki_3 ?_
      refine lv_iand hx hb dX12_parted_71 ?_
      refine lv_topi (fun x8_72 ex8_72 => ?_)
      replace h := h x8_72 ex8_72
      refine lv_istore (lv' := [(8, .int x8_72), (0, .ref (ad G 10 0)), (2, .int x2), (3, .int x3), (4, .int x4), (5, .int x5), (6, .int x6), (7, .int x7)]) hx hb dX12_parted_72 hl (by decide) rfl (fun ls hl => ?_)
      refine lv_iconst hx hb dX12_parted_74 ki_0 ?_
      refine lv_istore (lv' := [(9, .int (0 : Int32)), (8, .int x8_72), (0, .ref (ad G 10 0)), (2, .int x2), (3, .int x3), (4, .int x4), (5, .int x5), (6, .int x6), (7, .int x7)]) hx hb dX12_parted_75 hl (by decide) rfl (fun ls hl => ?_)
      refine lv_iconst hx hb dX12_parted_77 ki_0 ?_
      refine lv_istore (lv' := [(10, .int (0 : Int32)), (9, .int (0 : Int32)), (8, .int x8_72), (0, .ref (ad G 10 0)), (2, .int x2), (3, .int x3), (4, .int x4), (5, .int x5), (6, .int x6), (7, .int x7)]) hx hb dX12_parted_78 hl (by decide) rfl (fun ls hl => ?_)
      obtain ⟨n80, h⟩ := h
      exact w80 _ _ _ _ n80 _ h H locs ls hW hS (lv_sub hl [3, 4, 5, 6, 7, 8, 9, 2, 1, 0] rfl)
  unfold s_X12_parted at h
  refine lv_aload_n hx hb dX12_parted_0 rfl (lv_at hl 0 rfl) ?_
  refine lv_iconst hx hb dX12_parted_1 ki_0 ?_
  refine m_put S hK fk_X12_128 tyX12_ok nmX12 rfl pf_X12_0 (pv_10_0 G) hW hS (ci_10 (Nat.le_of_ble_eq_true rfl)) rfl rfl dX12_parted_2 (fun Mm2 eMm2 H locs hW hS => ?_)
  replace h := h Mm2 eMm2
  refine lv_iload_n hx hb dX12_parted_5 rfl (lv_at hl 1 rfl) ?_
  refine lv_iconst hx hb dX12_parted_6 ki_0 ?_
  refine lv_sipush hx hb dX12_parted_7 ks_9999 ?_
  refine m_ci0 (m_rS S hKX hW (m_szH hbs hS) (c_X12_in l ) h lk_X12_131 rfl hl.1 rfl ⟨Nat.le_of_ble_eq_true rfl, Nat.le_of_ble_eq_true rfl⟩ (Nat.le_of_ble_eq_true rfl) ⟨Nat.le_of_ble_eq_true rfl, Nat.le_of_ble_eq_true rfl⟩ dX12_parted_10) hS rfl rfl (fun rr10 Mm10 H locs h hW hS => ?_)
  refine lv_if_eq (tgt := 47) hx hb dX12_parted_13 (by decide) (fun c13 => ?_) (fun c13 => ?_)
  · replace h := h.1 c13
    refine lv_iconst hx hb dX12_parted_47 ki_m1 ?_
    exact m_iret S hret hlocks hKX hW hbs hS rfl h dX12_parted_48
  · replace h := h.2 c13
    refine lv_iload_n hx hb dX12_parted_16 rfl (lv_at hl 2 rfl) ?_
    refine lv_aload_n hx hb dX12_parted_17 rfl (lv_at hl 0 rfl) ?_
    refine m_getr S hK fk_X12_7 (gr_10_1 G 0) hW (ci_10 (Nat.le_of_ble_eq_true rfl)) dX12_parted_18 ?_
    refine lv_iconst hx hb dX12_parted_21 ki_3 ?_
    refine m_aldk S hK (ar_44 G) hW (ci_44 (Nat.le_of_ble_eq_true rfl)) kn_3 (Nat.le_of_ble_eq_true rfl) dX12_parted_22 ?_
    refine lv_sipush hx hb dX12_parted_23 ks_400 ?_
    refine m_ci0 (m_rS S hKX hW (m_szH hbs hS) (c_X12_in l ) h lk_X12_131 rfl hl.1 rfl ⟨Nat.le_of_ble_eq_true rfl, Nat.le_of_ble_eq_true rfl⟩ (Nat.le_of_ble_eq_true rfl) ⟨Nat.le_of_ble_eq_true rfl, Nat.le_of_ble_eq_true rfl⟩ dX12_parted_26) hS rfl rfl (fun rr26 Mm26 H locs h hW hS => ?_)
    refine lv_if_eq (tgt := 47) hx hb dX12_parted_29 (by decide) (fun c29 => ?_) (fun c29 => ?_)
    · replace h := h.1 c29
      refine lv_iconst hx hb dX12_parted_47 ki_m1 ?_
      exact m_iret S hret hlocks hKX hW hbs hS rfl h dX12_parted_48
    · replace h := h.2 c29
      refine lv_iload_n hx hb dX12_parted_32 rfl (lv_at hl 3 rfl) ?_
      refine m_ci0 (m_rS S hKX hW (m_szH hbs hS) (c_X12_isPermutation l ) h lk_X12_324 rfl hl.1 rfl ⟨Nat.le_of_ble_eq_true rfl, Nat.le_of_ble_eq_true rfl⟩ (Nat.le_of_ble_eq_true rfl) ⟨Nat.le_of_ble_eq_true rfl, Nat.le_of_ble_eq_true rfl⟩ dX12_parted_33) hS rfl rfl (fun rr33 Mm33 H locs h hW hS => ?_)
      refine lv_if_eq (tgt := 47) hx hb dX12_parted_36 (by decide) (fun c36 => ?_) (fun c36 => ?_)
      · replace h := h.1 c36
        refine lv_iconst hx hb dX12_parted_47 ki_m1 ?_
        exact m_iret S hret hlocks hKX hW hbs hS rfl h dX12_parted_48
      · replace h := h.2 c36
        refine lv_iload hx hb dX12_parted_39 (lv_at hl 4 rfl) ?_
        refine m_ci0 (m_rS S hKX hW (m_szH hbs hS) (c_X12_isShire l ) h lk_X12_135 rfl hl.1 rfl ⟨Nat.le_of_ble_eq_true rfl, Nat.le_of_ble_eq_true rfl⟩ (Nat.le_of_ble_eq_true rfl) ⟨Nat.le_of_ble_eq_true rfl, Nat.le_of_ble_eq_true rfl⟩ dX12_parted_41) hS rfl rfl (fun rr41 Mm41 H locs h hW hS => ?_)
        refine lv_if_ne (tgt := 49) hx hb dX12_parted_44 (by decide) (fun c44 => ?_) (fun c44 => ?_)
        · replace h := h.1 c44
          refine lv_iload_n hx hb dX12_parted_49 rfl (lv_at hl 1 rfl) ?_
          refine lv_istore (lv' := [(5, .int x1), (0, .ref (ad G 10 0)), (1, .int x1), (2, .int x2), (3, .int x3), (4, .int x4)]) hx hb dX12_parted_50 hl (by decide) rfl (fun ls hl => ?_)
          refine lv_iconst hx hb dX12_parted_52 ki_0 ?_
          refine lv_istore (lv' := [(6, .int (0 : Int32)), (5, .int x1), (0, .ref (ad G 10 0)), (1, .int x1), (2, .int x2), (3, .int x3), (4, .int x4)]) hx hb dX12_parted_53 hl (by decide) rfl (fun ls hl => ?_)
          refine lv_iconst hx hb dX12_parted_55 ki_0 ?_
          refine lv_istore (lv' := [(7, .int (0 : Int32)), (6, .int (0 : Int32)), (5, .int x1), (0, .ref (ad G 10 0)), (1, .int x1), (2, .int x2), (3, .int x3), (4, .int x4)]) hx hb dX12_parted_56 hl (by decide) rfl (fun ls hl => ?_)
          obtain ⟨n58, h⟩ := h
          exact w58 n58 _ h H locs ls hW hS (lv_sub hl [3, 5, 6, 7, 2, 1, 0] rfl)
        · replace h := h.2 c44
          refine lv_iconst hx hb dX12_parted_47 ki_m1 ?_
          exact m_iret S hret hlocks hKX hW hbs hS rfl h dX12_parted_48
abbrev rm_X12_sumAhead : Room := { frames := 13, cells := 0, slots := 0, locals := 312 }
set_option maxHeartbeats 4000000 in
set_option maxRecDepth 100000 in
theorem c_X12_sumAhead (l : Launch) {G : Gn} {M : Mem} {x1 : Int32} {x2 : Int32} {x3 : Int32} {P : Int32 → Mem → Prop} : MQi l yX12_sumAhead cX12_sumAhead 6 (some .int) rm_X12_sumAhead [.ref (ad G 10 0), .int x1, .int x2, .int x3] G M (s_X12_sumAhead M x1 x2 x3 P) P := by
  refine m_enter (by decide +kernel) (Nat.le_of_ble_eq_true rfl) ?_
  intro p e s m below meth c ls H locs S hret hlocks hname hKX hbs hW hS hl h
  obtain ⟨AV, hAV⟩ : ∃ z : Array Value, z = ([.ref (ad G 10 0), .int x1, .int x2, .int x3] : List Value).toArray := ⟨_, rfl⟩
  rw [← hAV] at S ⊢
  replace S : CallFix p m c cX12_sumAhead 6 s AV lw_G "MilkDeskModel" := S
  have hK := hKX.1
  have hx := S.1
  have hb := S.2.1
  have hml := S.2.2.1
  have hown := S.2.2.2.1
  have hts := S.2.2.2.2
  replace hl : lv_has ls 6 [(0, .ref (ad G 10 0)), (1, .int x1), (2, .int x2), (3, .int x3)] := hl
  have w39 : ∀ (n : Nat) (a : Mem × Int32 × Int32), Lz (fun (K39 : Mem × Int32 × Int32 → Prop) (a : Mem × Int32 × Int32) => s_X12_sumAhead_39 x2 P K39 a.1 a.2.1 a.2.2) n a → ∀ (H : Heap) (locs : List Loc) (ls : Array Slot), WPm G a.1 H → va_S (fun q => bs G ≤ q) s.heap H locs → lv_has ls 6 [(0, .ref (ad G 10 0)), (2, .int x2), (4, .int a.2.1), (5, .int a.2.2)] → W p l e rm_X12_sumAhead s m AV below meth c H locs 0 0 (MQ below (va_Qi P (WS G) (fun q => bs G ≤ q)) AV s 0 0 (fun q => bs G ≤ q)) (F0 m 39 ls []) := by
    refine Lz_walk ?_
    rintro K39 kk39 ⟨M, x4, x5⟩ h H locs ls hW hS hl
    replace h : s_X12_sumAhead_39 x2 P K39 M x4 x5 := h
    replace hW : WPm G M H := hW
    replace hl : lv_has ls 6 [(0, .ref (ad G 10 0)), (2, .int x2), (4, .int x4), (5, .int x5)] := hl
    unfold s_X12_sumAhead_39 at h
    refine lv_iload hx hb dX12_sumAhead_39 (lv_at hl 3 rfl) ?_
    refine lv_aload_n hx hb dX12_sumAhead_41 rfl (lv_at hl 0 rfl) ?_
    refine m_getr S hK fk_X12_7 (gr_10_1 G 0) hW (ci_10 (Nat.le_of_ble_eq_true rfl)) dX12_sumAhead_42 ?_
    refine lv_iconst hx hb dX12_sumAhead_45 ki_0 ?_
    refine m_aldk S hK (ar_44 G) hW (ci_44 (Nat.le_of_ble_eq_true rfl)) kn_0 (Nat.le_of_ble_eq_true rfl) dX12_sumAhead_46 ?_
    refine lv_icmp_ge (tgt := 94) hx hb dX12_sumAhead_47 (by decide) (fun c47 => ?_) (fun c47 => ?_)
    · replace h := h.1 c47
      refine lv_aload_n hx hb dX12_sumAhead_94 rfl (lv_at hl 0 rfl) ?_
      refine m_cv0 (m_rV S hKX hW (m_szH hbs hS) (c_X12_comeBack l ) h lk_X12_318 (m_recv hK hW (ci_10 (Nat.le_of_ble_eq_true rfl)) (rc_10 G) rfl) rfl hl.1 rfl ⟨Nat.le_of_ble_eq_true rfl, Nat.le_of_ble_eq_true rfl⟩ (Nat.le_of_ble_eq_true rfl) ⟨Nat.le_of_ble_eq_true rfl, Nat.le_of_ble_eq_true rfl⟩ dX12_sumAhead_95) hS rfl rfl (fun Mm95 H locs h hW hS => ?_)
      refine lv_iload hx hb dX12_sumAhead_98 (lv_at hl 2 rfl) ?_
      exact m_iret S hret hlocks hKX hW hbs hS rfl h dX12_sumAhead_100
    · replace h := h.2 c47
      refine lv_iload hx hb dX12_sumAhead_50 (lv_at hl 2 rfl) ?_
      refine lv_aload_n hx hb dX12_sumAhead_52 rfl (lv_at hl 0 rfl) ?_
      refine m_getr S hK fk_X12_7 (gr_10_1 G 0) hW (ci_10 (Nat.le_of_ble_eq_true rfl)) dX12_sumAhead_53 ?_
      refine lv_sipush hx hb dX12_sumAhead_56 ks_180 ?_
      refine lv_bipush hx hb dX12_sumAhead_59 kb_11 ?_
      refine lv_iload hx hb dX12_sumAhead_61 (lv_at hl 3 rfl) ?_
      refine lv_imul hx hb dX12_sumAhead_63 ?_
      refine lv_iadd hx hb dX12_sumAhead_64 ?_
      refine lv_iload_n hx hb dX12_sumAhead_65 rfl (lv_at hl 1 rfl) ?_
      refine lv_iadd hx hb dX12_sumAhead_66 ?_
      obtain ⟨hb67, h⟩ := h
      refine m_ald S hK (ar_44 G) hW (ci_44 (Nat.le_of_ble_eq_true rfl)) hb67 dX12_sumAhead_67 ?_
      refine lv_aload_n hx hb dX12_sumAhead_68 rfl (lv_at hl 0 rfl) ?_
      refine m_getr S hK fk_X12_16 (gr_10_3 G 0) hW (ci_10 (Nat.le_of_ble_eq_true rfl)) dX12_sumAhead_69 ?_
      refine lv_sipush hx hb dX12_sumAhead_72 ks_180 ?_
      refine lv_bipush hx hb dX12_sumAhead_75 kb_11 ?_
      refine lv_iload hx hb dX12_sumAhead_77 (lv_at hl 3 rfl) ?_
      refine lv_imul hx hb dX12_sumAhead_79 ?_
      refine lv_iadd hx hb dX12_sumAhead_80 ?_
      refine lv_iload_n hx hb dX12_sumAhead_81 rfl (lv_at hl 1 rfl) ?_
      refine lv_iadd hx hb dX12_sumAhead_82 ?_
      obtain ⟨hb83, h⟩ := h
      refine m_ald S hK (ar_46 G) hW (ci_46 (Nat.le_of_ble_eq_true rfl)) hb83 dX12_sumAhead_83 ?_
      refine lv_isub hx hb dX12_sumAhead_84 ?_
      refine lv_iadd hx hb dX12_sumAhead_85 ?_
      refine lv_topi (fun x4_86 ex4_86 => ?_)
      replace h := h x4_86 ex4_86
      refine lv_istore (lv' := [(4, .int x4_86), (0, .ref (ad G 10 0)), (2, .int x2), (5, .int x5)]) hx hb dX12_sumAhead_86 hl (by decide) rfl (fun ls hl => ?_)
      obtain ⟨x5_88, ex5_88⟩ : ∃ z : Int32, z = x5 + (1 : Int32) := ⟨_, rfl⟩
      replace h := h x5_88 ex5_88
      refine lv_iinc (v := x5_88) (lv' := [(5, .int x5_88), (4, .int x4_86), (0, .ref (ad G 10 0)), (2, .int x2)]) hx hb dX12_sumAhead_88 hl (k := 3) rfl (by rw [ex5_88, ki_1]) (by decide) rfl (fun ls hl => ?_)
      refine lv_goto (tgt := 39) hx hb dX12_sumAhead_91 (by decide) ?_
      exact kk39 _ h H locs ls hW hS (lv_sub hl [2, 3, 1, 0] rfl)
  have w12 : ∀ (n : Nat) (a : Mem × Int32), Lz (fun (K12 : Mem × Int32 → Prop) (a : Mem × Int32) => s_X12_sumAhead_12 x1 x2 P K12 a.1 a.2) n a → ∀ (H : Heap) (locs : List Loc) (ls : Array Slot), WPm G a.1 H → va_S (fun q => bs G ≤ q) s.heap H locs → lv_has ls 6 [(0, .ref (ad G 10 0)), (1, .int x1), (2, .int x2), (4, .int a.2)] → W p l e rm_X12_sumAhead s m AV below meth c H locs 0 0 (MQ below (va_Qi P (WS G) (fun q => bs G ≤ q)) AV s 0 0 (fun q => bs G ≤ q)) (F0 m 12 ls []) := by
    refine Lz_walk ?_
    rintro K12 kk12 ⟨M, x4⟩ h H locs ls hW hS hl
    replace h : s_X12_sumAhead_12 x1 x2 P K12 M x4 := h
    replace hW : WPm G M H := hW
    replace hl : lv_has ls 6 [(0, .ref (ad G 10 0)), (1, .int x1), (2, .int x2), (4, .int x4)] := hl
    unfold s_X12_sumAhead_12 at h
    refine lv_iload hx hb dX12_sumAhead_12 (lv_at hl 3 rfl) ?_
    refine lv_iload_n hx hb dX12_sumAhead_14 rfl (lv_at hl 1 rfl) ?_
    refine lv_icmp_ge (tgt := 28) hx hb dX12_sumAhead_15 (by decide) (fun c15 => ?_) (fun c15 => ?_)
    · replace h := h.1 c15
      refine lv_aload_n hx hb dX12_sumAhead_28 rfl (lv_at hl 0 rfl) ?_
      refine lv_iconst hx hb dX12_sumAhead_29 ki_m1 ?_
      refine m_put S hK fk_X12_70 tyX12_ok nmX12 rfl pf_X12_22 (pv_10_22 G) hW hS (ci_10 (Nat.le_of_ble_eq_true rfl)) rfl rfl dX12_sumAhead_30 (fun Mm30 eMm30 H locs hW hS => ?_)
      replace h := h Mm30 eMm30
      refine lv_iconst hx hb dX12_sumAhead_33 ki_0 ?_
      refine lv_istore (lv' := [(4, .int (0 : Int32)), (0, .ref (ad G 10 0)), (1, .int x1), (2, .int x2)]) hx hb dX12_sumAhead_34 hl (by decide) rfl (fun ls hl => ?_)
      refine lv_iconst hx hb dX12_sumAhead_36 ki_0 ?_
      refine lv_istore (lv' := [(5, .int (0 : Int32)), (4, .int (0 : Int32)), (0, .ref (ad G 10 0)), (1, .int x1), (2, .int x2)]) hx hb dX12_sumAhead_37 hl (by decide) rfl (fun ls hl => ?_)
      obtain ⟨n39, h⟩ := h
      exact w39 n39 _ h H locs ls hW hS (lv_sub hl [2, 4, 1, 0] rfl)
    · replace h := h.2 c15
      refine lv_aload_n hx hb dX12_sumAhead_18 rfl (lv_at hl 0 rfl) ?_
      refine m_cv0 (m_rV S hKX hW (m_szH hbs hS) (c_X12_pass l ) h lk_X12_295 (m_recv hK hW (ci_10 (Nat.le_of_ble_eq_true rfl)) (rc_10 G) rfl) rfl hl.1 rfl ⟨Nat.le_of_ble_eq_true rfl, Nat.le_of_ble_eq_true rfl⟩ (Nat.le_of_ble_eq_true rfl) ⟨Nat.le_of_ble_eq_true rfl, Nat.le_of_ble_eq_true rfl⟩ dX12_sumAhead_19) hS rfl rfl (fun Mm19 H locs h hW hS => ?_)
      obtain ⟨x4_22, ex4_22⟩ : ∃ z : Int32, z = x4 + (1 : Int32) := ⟨_, rfl⟩
      replace h := h x4_22 ex4_22
      refine lv_iinc (v := x4_22) (lv' := [(4, .int x4_22), (0, .ref (ad G 10 0)), (1, .int x1), (2, .int x2)]) hx hb dX12_sumAhead_22 hl (k := 3) rfl (by rw [ex4_22, ki_1]) (by decide) rfl (fun ls hl => ?_)
      refine lv_goto (tgt := 12) hx hb dX12_sumAhead_25 (by decide) ?_
      exact kk12 _ h H locs ls hW hS (lv_sub hl [1, 2, 3, 0] rfl)
  unfold s_X12_sumAhead at h
  refine lv_aload_n hx hb dX12_sumAhead_0 rfl (lv_at hl 0 rfl) ?_
  refine m_cv0 (m_rV S hKX hW (m_szH hbs hS) (c_X12_begin l ) h lk_X12_315 (m_recv hK hW (ci_10 (Nat.le_of_ble_eq_true rfl)) (rc_10 G) rfl) rfl hl.1 rfl ⟨Nat.le_of_ble_eq_true rfl, Nat.le_of_ble_eq_true rfl⟩ (Nat.le_of_ble_eq_true rfl) ⟨Nat.le_of_ble_eq_true rfl, Nat.le_of_ble_eq_true rfl⟩ dX12_sumAhead_1) hS rfl rfl (fun Mm1 H locs h hW hS => ?_)
  refine lv_aload_n hx hb dX12_sumAhead_4 rfl (lv_at hl 0 rfl) ?_
  refine lv_iload_n hx hb dX12_sumAhead_5 rfl (lv_at hl 3 rfl) ?_
  refine m_put S hK fk_X12_70 tyX12_ok nmX12 rfl pf_X12_22 (pv_10_22 G) hW hS (ci_10 (Nat.le_of_ble_eq_true rfl)) rfl rfl dX12_sumAhead_6 (fun Mm6 eMm6 H locs hW hS => ?_)
  replace h := h Mm6 eMm6
  refine lv_iconst hx hb dX12_sumAhead_9 ki_0 ?_
  refine lv_istore (lv' := [(4, .int (0 : Int32)), (0, .ref (ad G 10 0)), (1, .int x1), (2, .int x2), (3, .int x3)]) hx hb dX12_sumAhead_10 hl (by decide) rfl (fun ls hl => ?_)
  obtain ⟨n12, h⟩ := h
  exact w12 n12 _ h H locs ls hW hS (lv_sub hl [1, 2, 3, 0] rfl)
abbrev rm_X12_away : Room := { frames := 14, cells := 0, slots := 0, locals := 337 }
set_option maxHeartbeats 4000000 in
set_option maxRecDepth 100000 in
theorem c_X12_away (l : Launch) {G : Gn} {M : Mem} {x1 : Int32} {x2 : Int32} {x3 : Int32} {P : Int32 → Mem → Prop} : MQi l yX12_away cX12_away 5 (some .int) rm_X12_away [.ref (ad G 10 0), .int x1, .int x2, .int x3] G M (s_X12_away M x1 x2 x3 P) P := by
  refine m_enter (by decide +kernel) (Nat.le_of_ble_eq_true rfl) ?_
  intro p e s m below meth c ls H locs S hret hlocks hname hKX hbs hW hS hl h
  obtain ⟨AV, hAV⟩ : ∃ z : Array Value, z = ([.ref (ad G 10 0), .int x1, .int x2, .int x3] : List Value).toArray := ⟨_, rfl⟩
  rw [← hAV] at S ⊢
  replace S : CallFix p m c cX12_away 5 s AV lw_G "MilkDeskModel" := S
  have hK := hKX.1
  have hx := S.1
  have hb := S.2.1
  have hml := S.2.2.1
  have hown := S.2.2.2.1
  have hts := S.2.2.2.2
  replace hl : lv_has ls 5 [(0, .ref (ad G 10 0)), (1, .int x1), (2, .int x2), (3, .int x3)] := hl
  have b73 : ∀ (M : Mem) (y0 : Int32) (H : Heap) (locs : List Loc) (ls : Array Slot), WPm G M H → va_S (fun q => bs G ≤ q) s.heap H locs → lv_has ls 5 [(0, .ref (ad G 10 0)), (1, .int x1), (2, .int x2)] → s_X12_away_73 x1 x2 P M y0 → W p l e rm_X12_away s m AV below meth c H locs 0 0 (MQ below (va_Qi P (WS G) (fun q => bs G ≤ q)) AV s 0 0 (fun q => bs G ≤ q)) (F0 m 73 ls [.int y0]) := by
    intro M y0 H locs ls hW hS hl h
    unfold s_X12_away_73 at h
    refine lv_istore (lv' := [(4, .int y0), (0, .ref (ad G 10 0)), (1, .int x1), (2, .int x2)]) hx hb dX12_away_73 hl (by decide) rfl (fun ls hl => ?_)
    refine lv_aload_n hx hb dX12_away_75 rfl (lv_at hl 1 rfl) ?_
    refine lv_iload_n hx hb dX12_away_76 rfl (lv_at hl 3 rfl) ?_
    refine lv_iload hx hb dX12_away_77 (lv_at hl 0 rfl) ?_
    refine lv_iconst hx hb dX12_away_79 ki_m1 ?_
    refine m_ci0 (m_rV S hKX hW (m_szH hbs hS) (c_X12_sumAhead l ) h lk_X12_328 (m_recv hK hW (ci_10 (Nat.le_of_ble_eq_true rfl)) (rc_10 G) rfl) rfl hl.1 rfl ⟨Nat.le_of_ble_eq_true rfl, Nat.le_of_ble_eq_true rfl⟩ (Nat.le_of_ble_eq_true rfl) ⟨Nat.le_of_ble_eq_true rfl, Nat.le_of_ble_eq_true rfl⟩ dX12_away_80) hS rfl rfl (fun rr80 Mm80 H locs h hW hS => ?_)
    refine lv_aload_n hx hb dX12_away_83 rfl (lv_at hl 1 rfl) ?_
    refine lv_iload_n hx hb dX12_away_84 rfl (lv_at hl 3 rfl) ?_
    refine lv_iload hx hb dX12_away_85 (lv_at hl 0 rfl) ?_
    refine lv_iload_n hx hb dX12_away_87 rfl (lv_at hl 2 rfl) ?_
    refine m_ci0 (m_rV S hKX hW (m_szH hbs hS) (c_X12_sumAhead l ) h lk_X12_328 (m_recv hK hW (ci_10 (Nat.le_of_ble_eq_true rfl)) (rc_10 G) rfl) rfl hl.1 rfl ⟨Nat.le_of_ble_eq_true rfl, Nat.le_of_ble_eq_true rfl⟩ (Nat.le_of_ble_eq_true rfl) ⟨Nat.le_of_ble_eq_true rfl, Nat.le_of_ble_eq_true rfl⟩ dX12_away_88) hS rfl rfl (fun rr88 Mm88 H locs h hW hS => ?_)
    refine lv_isub hx hb dX12_away_91 ?_
    exact m_iret S hret hlocks hKX hW hbs hS rfl h dX12_away_92
  unfold s_X12_away at h
  refine lv_aload_n hx hb dX12_away_0 rfl (lv_at hl 0 rfl) ?_
  refine lv_iconst hx hb dX12_away_1 ki_0 ?_
  refine m_put S hK fk_X12_128 tyX12_ok nmX12 rfl pf_X12_0 (pv_10_0 G) hW hS (ci_10 (Nat.le_of_ble_eq_true rfl)) rfl rfl dX12_away_2 (fun Mm2 eMm2 H locs hW hS => ?_)
  replace h := h Mm2 eMm2
  refine lv_iload_n hx hb dX12_away_5 rfl (lv_at hl 1 rfl) ?_
  refine m_ci0 (m_rS S hKX hW (m_szH hbs hS) (c_X12_isAge l ) h lk_X12_149 rfl hl.1 rfl ⟨Nat.le_of_ble_eq_true rfl, Nat.le_of_ble_eq_true rfl⟩ (Nat.le_of_ble_eq_true rfl) ⟨Nat.le_of_ble_eq_true rfl, Nat.le_of_ble_eq_true rfl⟩ dX12_away_6) hS rfl rfl (fun rr6 Mm6 H locs h hW hS => ?_)
  refine lv_if_eq (tgt := 31) hx hb dX12_away_9 (by decide) (fun c9 => ?_) (fun c9 => ?_)
  · replace h := h.1 c9
    refine lv_ldcw hx hb hown (hts _ mw_1528) dX12_away_31 ?_
    exact m_iret S hret hlocks hKX hW hbs hS rfl h dX12_away_34
  · replace h := h.2 c9
    refine lv_iload_n hx hb dX12_away_12 rfl (lv_at hl 3 rfl) ?_
    refine lv_iconst hx hb dX12_away_13 ki_0 ?_
    refine lv_iconst hx hb dX12_away_14 ki_2 ?_
    refine m_ci0 (m_rS S hKX hW (m_szH hbs hS) (c_X12_in l ) h lk_X12_131 rfl hl.1 rfl ⟨Nat.le_of_ble_eq_true rfl, Nat.le_of_ble_eq_true rfl⟩ (Nat.le_of_ble_eq_true rfl) ⟨Nat.le_of_ble_eq_true rfl, Nat.le_of_ble_eq_true rfl⟩ dX12_away_15) hS rfl rfl (fun rr15 Mm15 H locs h hW hS => ?_)
    refine lv_if_eq (tgt := 31) hx hb dX12_away_18 (by decide) (fun c18 => ?_) (fun c18 => ?_)
    · replace h := h.1 c18
      refine lv_ldcw hx hb hown (hts _ mw_1528) dX12_away_31 ?_
      exact m_iret S hret hlocks hKX hW hbs hS rfl h dX12_away_34
    · replace h := h.2 c18
      refine lv_iload_n hx hb dX12_away_21 rfl (lv_at hl 2 rfl) ?_
      refine lv_iconst hx hb dX12_away_22 ki_1 ?_
      refine lv_bipush hx hb dX12_away_23 kb_60 ?_
      refine m_ci0 (m_rS S hKX hW (m_szH hbs hS) (c_X12_in l ) h lk_X12_131 rfl hl.1 rfl ⟨Nat.le_of_ble_eq_true rfl, Nat.le_of_ble_eq_true rfl⟩ (Nat.le_of_ble_eq_true rfl) ⟨Nat.le_of_ble_eq_true rfl, Nat.le_of_ble_eq_true rfl⟩ dX12_away_25) hS rfl rfl (fun rr25 Mm25 H locs h hW hS => ?_)
      refine lv_if_ne (tgt := 35) hx hb dX12_away_28 (by decide) (fun c28 => ?_) (fun c28 => ?_)
      · replace h := h.1 c28
        refine lv_aload_n hx hb dX12_away_35 rfl (lv_at hl 0 rfl) ?_
        refine m_getr S hK fk_X12_7 (gr_10_1 G 0) hW (ci_10 (Nat.le_of_ble_eq_true rfl)) dX12_away_36 ?_
        refine lv_iconst hx hb dX12_away_39 ki_3 ?_
        refine m_aldk S hK (ar_44 G) hW (ci_44 (Nat.le_of_ble_eq_true rfl)) kn_3 (Nat.le_of_ble_eq_true rfl) dX12_away_40 ?_
        refine lv_iload_n hx hb dX12_away_41 rfl (lv_at hl 2 rfl) ?_
        refine lv_iadd hx hb dX12_away_42 ?_
        refine lv_sipush hx hb dX12_away_43 ks_400 ?_
        refine lv_icmp_le (tgt := 53) hx hb dX12_away_46 (by decide) (fun c46 => ?_) (fun c46 => ?_)
        · replace h := h.1 c46
          refine lv_iload_n hx hb dX12_away_53 rfl (lv_at hl 3 rfl) ?_
          refine lv_if_ne (tgt := 61) hx hb dX12_away_54 (by decide) (fun c54 => ?_) (fun c54 => ?_)
          · replace h := h.1 c54
            refine lv_iload_n hx hb dX12_away_61 rfl (lv_at hl 3 rfl) ?_
            refine lv_iconst hx hb dX12_away_62 ki_1 ?_
            refine lv_icmp_ne (tgt := 71) hx hb dX12_away_63 (by decide) (fun c63 => ?_) (fun c63 => ?_)
            · replace h := h.1 c63
              refine lv_bipush hx hb dX12_away_71 kb_8 ?_
              exact b73 _ _ H locs ls hW hS (lv_sub hl [0, 1, 2] rfl) h
            · replace h := h.2 c63
              refine lv_bipush hx hb dX12_away_66 kb_10 ?_
              refine lv_goto (tgt := 73) hx hb dX12_away_68 (by decide) ?_
              exact b73 _ _ H locs ls hW hS (lv_sub hl [0, 1, 2] rfl) h
          · replace h := h.2 c54
            refine lv_iconst hx hb dX12_away_57 ki_5 ?_
            refine lv_goto (tgt := 73) hx hb dX12_away_58 (by decide) ?_
            exact b73 _ _ H locs ls hW hS (lv_sub hl [0, 1, 2] rfl) h
        · replace h := h.2 c46
          refine lv_ldcw hx hb hown (hts _ mw_1580) dX12_away_49 ?_
          exact m_iret S hret hlocks hKX hW hbs hS rfl h dX12_away_52
      · replace h := h.2 c28
        refine lv_ldcw hx hb hown (hts _ mw_1528) dX12_away_31 ?_
        exact m_iret S hret hlocks hKX hW hbs hS rfl h dX12_away_34
abbrev rm_X12_markOf : Room := { frames := 0, cells := 0, slots := 0, locals := 0 }
set_option maxHeartbeats 4000000 in
set_option maxRecDepth 100000 in
theorem c_X12_markOf (l : Launch) {G : Gn} {M : Mem} {x1 : Int32} {x2 : Int32} {P : Int32 → Mem → Prop} : MQi l yX12_markOf cX12_markOf 3 (some .int) rm_X12_markOf [.ref (ad G 10 0), .int x1, .int x2] G M (s_X12_markOf M x1 x2 P) P := by
  refine m_enter (by decide +kernel) (Nat.le_of_ble_eq_true rfl) ?_
  intro p e s m below meth c ls H locs S hret hlocks hname hKX hbs hW hS hl h
  obtain ⟨AV, hAV⟩ : ∃ z : Array Value, z = ([.ref (ad G 10 0), .int x1, .int x2] : List Value).toArray := ⟨_, rfl⟩
  rw [← hAV] at S ⊢
  replace S : CallFix p m c cX12_markOf 3 s AV lw_G "MilkDeskModel" := S
  have hK := hKX.1
  have hx := S.1
  have hb := S.2.1
  have hml := S.2.2.1
  have hown := S.2.2.2.1
  have hts := S.2.2.2.2
  replace hl : lv_has ls 3 [(0, .ref (ad G 10 0)), (1, .int x1), (2, .int x2)] := hl
  unfold s_X12_markOf at h
  refine lv_iload_n hx hb dX12_markOf_0 rfl (lv_at hl 2 rfl) ?_
  refine lv_aload_n hx hb dX12_markOf_1 rfl (lv_at hl 0 rfl) ?_
  refine m_getr S hK fk_X12_117 (gr_10_50 G 0) hW (ci_10 (Nat.le_of_ble_eq_true rfl)) dX12_markOf_2 ?_
  refine lv_iload_n hx hb dX12_markOf_5 rfl (lv_at hl 1 rfl) ?_
  obtain ⟨hb6, h⟩ := h
  refine m_ald S hK (ar_77 G) hW (ci_77 (Nat.le_of_ble_eq_true rfl)) hb6 dX12_markOf_6 ?_
  refine lv_icmp_ge (tgt := 25) hx hb dX12_markOf_7 (by decide) (fun c7 => ?_) (fun c7 => ?_)
  · replace h := h.1 c7
    refine lv_iconst hx hb dX12_markOf_25 ki_m1 ?_
    exact m_iret S hret hlocks hKX hW hbs hS rfl h dX12_markOf_26
  · replace h := h.2 c7
    refine lv_aload_n hx hb dX12_markOf_10 rfl (lv_at hl 0 rfl) ?_
    refine m_getr S hK fk_X12_120 (gr_10_51 G 0) hW (ci_10 (Nat.le_of_ble_eq_true rfl)) dX12_markOf_11 ?_
    refine lv_bipush hx hb dX12_markOf_14 kb_80 ?_
    refine lv_iload_n hx hb dX12_markOf_16 rfl (lv_at hl 1 rfl) ?_
    refine lv_imul hx hb dX12_markOf_17 ?_
    refine lv_iload_n hx hb dX12_markOf_18 rfl (lv_at hl 2 rfl) ?_
    refine lv_iadd hx hb dX12_markOf_19 ?_
    obtain ⟨hb20, h⟩ := h
    refine m_jald S hK (ar_78 G) hW (ci_78 (Nat.le_of_ble_eq_true rfl)) hb20 dX12_markOf_20 ?_
    refine lv_l2i hx hb dX12_markOf_21 rfl ?_
    refine lv_goto (tgt := 26) hx hb dX12_markOf_22 (by decide) ?_
    exact m_iret S hret hlocks hKX hW hbs hS rfl h dX12_markOf_26
abbrev rm_X12_beside : Room := { frames := 2, cells := 0, slots := 0, locals := 48 }
set_option maxHeartbeats 4000000 in
set_option maxRecDepth 100000 in
theorem c_X12_beside (l : Launch) {G : Gn} {M : Mem} {x1 : Int32} {x2 : Int32} {x3 : Int32} {P : Int32 → Mem → Prop} : MQi l yX12_beside cX12_beside 10 (some .int) rm_X12_beside [.ref (ad G 10 0), .int x1, .int x2, .int x3] G M (s_X12_beside M x1 x2 x3 P) P := by
  refine m_enter (by decide +kernel) (Nat.le_of_ble_eq_true rfl) ?_
  intro p e s m below meth c ls H locs S hret hlocks hname hKX hbs hW hS hl h
  obtain ⟨AV, hAV⟩ : ∃ z : Array Value, z = ([.ref (ad G 10 0), .int x1, .int x2, .int x3] : List Value).toArray := ⟨_, rfl⟩
  rw [← hAV] at S ⊢
  replace S : CallFix p m c cX12_beside 10 s AV lw_G "MilkDeskModel" := S
  have hK := hKX.1
  have hx := S.1
  have hb := S.2.1
  have hml := S.2.2.1
  have hown := S.2.2.2.1
  have hts := S.2.2.2.2
  replace hl : lv_has ls 10 [(0, .ref (ad G 10 0)), (1, .int x1), (2, .int x2), (3, .int x3)] := hl
  have w68 : ∀ (n : Nat) (a : Mem × Int32 × Int32 × Int32), Lz (fun (K68 : Mem × Int32 × Int32 × Int32 → Prop) (a : Mem × Int32 × Int32 × Int32) => s_X12_beside_68 x1 x2 x3 P K68 a.1 a.2.1 a.2.2.1 a.2.2.2) n a → ∀ (H : Heap) (locs : List Loc) (ls : Array Slot), WPm G a.1 H → va_S (fun q => bs G ≤ q) s.heap H locs → lv_has ls 10 [(0, .ref (ad G 10 0)), (1, .int x1), (2, .int x2), (3, .int x3), (5, .int a.2.1), (6, .int a.2.2.1), (7, .int a.2.2.2)] → W p l e rm_X12_beside s m AV below meth c H locs 0 0 (MQ below (va_Qi P (WS G) (fun q => bs G ≤ q)) AV s 0 0 (fun q => bs G ≤ q)) (F0 m 68 ls []) := by
    refine Lz_walk ?_
    rintro K68 kk68 ⟨M, x5, x6, x7⟩ h H locs ls hW hS hl
    replace h : s_X12_beside_68 x1 x2 x3 P K68 M x5 x6 x7 := h
    replace hW : WPm G M H := hW
    replace hl : lv_has ls 10 [(0, .ref (ad G 10 0)), (1, .int x1), (2, .int x2), (3, .int x3), (5, .int x5), (6, .int x6), (7, .int x7)] := hl
    have w82 : ∀ (x7 : Int32), ∀ (n : Nat) (a : Mem × Int32 × Int32 × Int32), Lz (fun (K82 : Mem × Int32 × Int32 × Int32 → Prop) (a : Mem × Int32 × Int32 × Int32) => s_X12_beside_82 x1 x2 x3 x7 P K68 K82 a.1 a.2.1 a.2.2.1 a.2.2.2) n a → ∀ (H : Heap) (locs : List Loc) (ls : Array Slot), WPm G a.1 H → va_S (fun q => bs G ≤ q) s.heap H locs → lv_has ls 10 [(0, .ref (ad G 10 0)), (1, .int x1), (2, .int x2), (3, .int x3), (5, .int a.2.1), (6, .int a.2.2.1), (7, .int x7), (8, .int a.2.2.2)] → W p l e rm_X12_beside s m AV below meth c H locs 0 0 (MQ below (va_Qi P (WS G) (fun q => bs G ≤ q)) AV s 0 0 (fun q => bs G ≤ q)) (F0 m 82 ls []) := by
      intro x7
      refine Lz_walk ?_
      rintro K82 kk82 ⟨M, x5, x6, x8⟩ h H locs ls hW hS hl
      replace h : s_X12_beside_82 x1 x2 x3 x7 P K68 K82 M x5 x6 x8 := h
      replace hW : WPm G M H := hW
      replace hl : lv_has ls 10 [(0, .ref (ad G 10 0)), (1, .int x1), (2, .int x2), (3, .int x3), (5, .int x5), (6, .int x6), (7, .int x7), (8, .int x8)] := hl
      have b136 : ∀ (M : Mem) (x5 : Int32) (x6 : Int32) (x8 : Int32) (y0 : Int32) (H : Heap) (locs : List Loc) (ls : Array Slot), WPm G M H → va_S (fun q => bs G ≤ q) s.heap H locs → lv_has ls 10 [(0, .ref (ad G 10 0)), (1, .int x1), (2, .int x2), (3, .int x3), (5, .int x5), (6, .int x6), (7, .int x7), (8, .int x8)] → s_X12_beside_136 x1 x2 x3 x7 P K68 K82 M x5 x6 x8 y0 → W p l e rm_X12_beside s m AV below meth c H locs 0 0 (MQ below (va_Qi P (WS G) (fun q => bs G ≤ q)) AV s 0 0 (fun q => bs G ≤ q)) (F0 m 136 ls [.int y0]) := by
        intro M x5 x6 x8 y0 H locs ls hW hS hl h
        unfold s_X12_beside_136 at h
        refine lv_istore (lv' := [(9, .int y0), (0, .ref (ad G 10 0)), (1, .int x1), (2, .int x2), (3, .int x3), (5, .int x5), (6, .int x6), (7, .int x7), (8, .int x8)]) hx hb dX12_beside_136 hl (by decide) rfl (fun ls hl => ?_)
        refine lv_iload hx hb dX12_beside_138 (lv_at hl 0 rfl) ?_
        refine lv_if_eq (tgt := 215) hx hb dX12_beside_140 (by decide) (fun c140 => ?_) (fun c140 => ?_)
        · replace h := h.1 c140
          obtain ⟨x8_215, ex8_215⟩ : ∃ z : Int32, z = x8 + (1 : Int32) := ⟨_, rfl⟩
          replace h := h x8_215 ex8_215
          refine lv_iinc (v := x8_215) (lv' := [(8, .int x8_215), (9, .int y0), (0, .ref (ad G 10 0)), (1, .int x1), (2, .int x2), (3, .int x3), (5, .int x5), (6, .int x6), (7, .int x7)]) hx hb dX12_beside_215 hl (k := 8) rfl (by rw [ex8_215, ki_1]) (by decide) rfl (fun ls hl => ?_)
          refine lv_goto (tgt := 82) hx hb dX12_beside_218 (by decide) ?_
          exact kk82 _ h H locs ls hW hS (lv_sub hl [2, 3, 4, 5, 6, 7, 8, 0] rfl)
        · replace h := h.2 c140
          refine lv_aload_n hx hb dX12_beside_143 rfl (lv_at hl 1 rfl) ?_
          refine lv_iload hx hb dX12_beside_144 (lv_at hl 7 rfl) ?_
          refine lv_aload_n hx hb dX12_beside_146 rfl (lv_at hl 1 rfl) ?_
          refine m_getr S hK fk_X12_7 (gr_10_1 G 0) hW (ci_10 (Nat.le_of_ble_eq_true rfl)) dX12_beside_147 ?_
          refine lv_iconst hx hb dX12_beside_150 ki_3 ?_
          refine m_aldk S hK (ar_44 G) hW (ci_44 (Nat.le_of_ble_eq_true rfl)) kn_3 (Nat.le_of_ble_eq_true rfl) dX12_beside_151 ?_
          refine m_ci0 (m_rV S hKX hW (m_szH hbs hS) (c_X12_headsOf l ) h lk_X12_192 (m_recv hK hW (ci_10 (Nat.le_of_ble_eq_true rfl)) (rc_10 G) rfl) rfl hl.1 rfl ⟨Nat.le_of_ble_eq_true rfl, Nat.le_of_ble_eq_true rfl⟩ (Nat.le_of_ble_eq_true rfl) ⟨Nat.le_of_ble_eq_true rfl, Nat.le_of_ble_eq_true rfl⟩ dX12_beside_152) hS rfl rfl (fun rr152 Mm152 H locs h hW hS => ?_)
          refine lv_aload_n hx hb dX12_beside_155 rfl (lv_at hl 1 rfl) ?_
          refine lv_iload hx hb dX12_beside_156 (lv_at hl 8 rfl) ?_
          refine lv_aload_n hx hb dX12_beside_158 rfl (lv_at hl 1 rfl) ?_
          refine m_getr S hK fk_X12_7 (gr_10_1 G 0) hW (ci_10 (Nat.le_of_ble_eq_true rfl)) dX12_beside_159 ?_
          refine lv_iconst hx hb dX12_beside_162 ki_3 ?_
          refine m_aldk S hK (ar_44 G) hW (ci_44 (Nat.le_of_ble_eq_true rfl)) kn_3 (Nat.le_of_ble_eq_true rfl) dX12_beside_163 ?_
          refine m_ci0 (m_rV S hKX hW (m_szH hbs hS) (c_X12_headsOf l ) h lk_X12_192 (m_recv hK hW (ci_10 (Nat.le_of_ble_eq_true rfl)) (rc_10 G) rfl) rfl hl.1 rfl ⟨Nat.le_of_ble_eq_true rfl, Nat.le_of_ble_eq_true rfl⟩ (Nat.le_of_ble_eq_true rfl) ⟨Nat.le_of_ble_eq_true rfl, Nat.le_of_ble_eq_true rfl⟩ dX12_beside_164) hS rfl rfl (fun rr164 Mm164 H locs h hW hS => ?_)
          refine m_ci0 (m_rS S hKX hW (m_szH hbs hS) (c_X12_apart l ) h lk_X12_300 rfl hl.1 rfl ⟨Nat.le_of_ble_eq_true rfl, Nat.le_of_ble_eq_true rfl⟩ (Nat.le_of_ble_eq_true rfl) ⟨Nat.le_of_ble_eq_true rfl, Nat.le_of_ble_eq_true rfl⟩ dX12_beside_167) hS rfl rfl (fun rr167 Mm167 H locs h hW hS => ?_)
          refine lv_iload_n hx hb dX12_beside_170 rfl (lv_at hl 3 rfl) ?_
          refine lv_icmp_gt (tgt := 215) hx hb dX12_beside_171 (by decide) (fun c171 => ?_) (fun c171 => ?_)
          · replace h := h.1 c171
            obtain ⟨x8_215, ex8_215⟩ : ∃ z : Int32, z = x8 + (1 : Int32) := ⟨_, rfl⟩
            replace h := h x8_215 ex8_215
            refine lv_iinc (v := x8_215) (lv' := [(8, .int x8_215), (9, .int y0), (0, .ref (ad G 10 0)), (1, .int x1), (2, .int x2), (3, .int x3), (5, .int x5), (6, .int x6), (7, .int x7)]) hx hb dX12_beside_215 hl (k := 8) rfl (by rw [ex8_215, ki_1]) (by decide) rfl (fun ls hl => ?_)
            refine lv_goto (tgt := 82) hx hb dX12_beside_218 (by decide) ?_
            exact kk82 _ h H locs ls hW hS (lv_sub hl [2, 3, 4, 5, 6, 7, 8, 0] rfl)
          · replace h := h.2 c171
            refine lv_iload hx hb dX12_beside_174 (lv_at hl 5 rfl) ?_
            refine lv_aload_n hx hb dX12_beside_176 rfl (lv_at hl 1 rfl) ?_
            refine m_getr S hK fk_X12_7 (gr_10_1 G 0) hW (ci_10 (Nat.le_of_ble_eq_true rfl)) dX12_beside_177 ?_
            refine lv_sipush hx hb dX12_beside_180 ks_180 ?_
            refine lv_bipush hx hb dX12_beside_183 kb_11 ?_
            refine lv_iload hx hb dX12_beside_185 (lv_at hl 7 rfl) ?_
            refine lv_imul hx hb dX12_beside_187 ?_
            refine lv_iadd hx hb dX12_beside_188 ?_
            refine lv_iconst hx hb dX12_beside_189 ki_5 ?_
            refine lv_iadd hx hb dX12_beside_190 ?_
            obtain ⟨hb191, h⟩ := h
            refine m_ald S hK (ar_44 G) hW (ci_44 (Nat.le_of_ble_eq_true rfl)) hb191 dX12_beside_191 ?_
            refine lv_aload_n hx hb dX12_beside_192 rfl (lv_at hl 1 rfl) ?_
            refine m_getr S hK fk_X12_7 (gr_10_1 G 0) hW (ci_10 (Nat.le_of_ble_eq_true rfl)) dX12_beside_193 ?_
            refine lv_sipush hx hb dX12_beside_196 ks_180 ?_
            refine lv_bipush hx hb dX12_beside_199 kb_11 ?_
            refine lv_iload hx hb dX12_beside_201 (lv_at hl 8 rfl) ?_
            refine lv_imul hx hb dX12_beside_203 ?_
            refine lv_iadd hx hb dX12_beside_204 ?_
            refine lv_iconst hx hb dX12_beside_205 ki_5 ?_
            refine lv_iadd hx hb dX12_beside_206 ?_
            obtain ⟨hb207, h⟩ := h
            refine m_ald S hK (ar_44 G) hW (ci_44 (Nat.le_of_ble_eq_true rfl)) hb207 dX12_beside_207 ?_
            refine lv_isub hx hb dX12_beside_208 ?_
            refine lv_iadd hx hb dX12_beside_209 ?_
            refine lv_topi (fun x5_210 ex5_210 => ?_)
            replace h := h x5_210 ex5_210
            refine lv_istore (lv' := [(5, .int x5_210), (9, .int y0), (0, .ref (ad G 10 0)), (1, .int x1), (2, .int x2), (3, .int x3), (6, .int x6), (7, .int x7), (8, .int x8)]) hx hb dX12_beside_210 hl (by decide) rfl (fun ls hl => ?_)
            obtain ⟨x6_212, ex6_212⟩ : ∃ z : Int32, z = x6 + (1 : Int32) := ⟨_, rfl⟩
            replace h := h x6_212 ex6_212
            refine lv_iinc (v := x6_212) (lv' := [(6, .int x6_212), (5, .int x5_210), (9, .int y0), (0, .ref (ad G 10 0)), (1, .int x1), (2, .int x2), (3, .int x3), (7, .int x7), (8, .int x8)]) hx hb dX12_beside_212 hl (k := 6) rfl (by rw [ex6_212, ki_1]) (by decide) rfl (fun ls hl => ?_)
            obtain ⟨x8_215, ex8_215⟩ : ∃ z : Int32, z = x8 + (1 : Int32) := ⟨_, rfl⟩
            replace h := h x8_215 ex8_215
            refine lv_iinc (v := x8_215) (lv' := [(8, .int x8_215), (6, .int x6_212), (5, .int x5_210), (9, .int y0), (0, .ref (ad G 10 0)), (1, .int x1), (2, .int x2), (3, .int x3), (7, .int x7)]) hx hb dX12_beside_215 hl (k := 8) rfl (by rw [ex8_215, ki_1]) (by decide) rfl (fun ls hl => ?_)
            refine lv_goto (tgt := 82) hx hb dX12_beside_218 (by decide) ?_
            exact kk82 _ h H locs ls hW hS (lv_sub hl [4, 5, 6, 7, 2, 1, 8, 0] rfl)
      unfold s_X12_beside_82 at h
      refine lv_iload hx hb dX12_beside_82 (lv_at hl 7 rfl) ?_
      refine lv_aload_n hx hb dX12_beside_84 rfl (lv_at hl 0 rfl) ?_
      refine m_getr S hK fk_X12_7 (gr_10_1 G 0) hW (ci_10 (Nat.le_of_ble_eq_true rfl)) dX12_beside_85 ?_
      refine lv_iconst hx hb dX12_beside_88 ki_0 ?_
      refine m_aldk S hK (ar_44 G) hW (ci_44 (Nat.le_of_ble_eq_true rfl)) kn_0 (Nat.le_of_ble_eq_true rfl) dX12_beside_89 ?_
      refine lv_icmp_ge (tgt := 221) hx hb dX12_beside_90 (by decide) (fun c90 => ?_) (fun c90 => ?_)
      · replace h := h.1 c90
        obtain ⟨x7_221, ex7_221⟩ : ∃ z : Int32, z = x7 + (1 : Int32) := ⟨_, rfl⟩
        replace h := h x7_221 ex7_221
        refine lv_iinc (v := x7_221) (lv' := [(7, .int x7_221), (0, .ref (ad G 10 0)), (1, .int x1), (2, .int x2), (3, .int x3), (5, .int x5), (6, .int x6), (8, .int x8)]) hx hb dX12_beside_221 hl (k := 6) rfl (by rw [ex7_221, ki_1]) (by decide) rfl (fun ls hl => ?_)
        refine lv_goto (tgt := 68) hx hb dX12_beside_224 (by decide) ?_
        exact kk68 _ h H locs ls hW hS (lv_sub hl [1, 2, 3, 4, 5, 6, 0] rfl)
      · replace h := h.2 c90
        refine lv_aload_n hx hb dX12_beside_93 rfl (lv_at hl 0 rfl) ?_
        refine lv_iload_n hx hb dX12_beside_94 rfl (lv_at hl 1 rfl) ?_
        refine lv_iload hx hb dX12_beside_95 (lv_at hl 6 rfl) ?_
        refine m_ci0 (m_rV S hKX hW (m_szH hbs hS) (c_X12_markOf l ) h lk_X12_332 (m_recv hK hW (ci_10 (Nat.le_of_ble_eq_true rfl)) (rc_10 G) rfl) rfl hl.1 rfl ⟨Nat.le_of_ble_eq_true rfl, Nat.le_of_ble_eq_true rfl⟩ (Nat.le_of_ble_eq_true rfl) ⟨Nat.le_of_ble_eq_true rfl, Nat.le_of_ble_eq_true rfl⟩ dX12_beside_97) hS rfl rfl (fun rr97 Mm97 H locs h hW hS => ?_)
        refine lv_iconst hx hb dX12_beside_100 ki_1 ?_
        refine lv_icmp_ne (tgt := 135) hx hb dX12_beside_101 (by decide) (fun c101 => ?_) (fun c101 => ?_)
        · replace h := h.1 c101
          refine lv_iconst hx hb dX12_beside_135 ki_0 ?_
          exact b136 _ _ _ _ _ H locs ls hW hS (lv_sub hl [0, 1, 2, 3, 4, 5, 6, 7] rfl) h
        · replace h := h.2 c101
          refine lv_aload_n hx hb dX12_beside_104 rfl (lv_at hl 0 rfl) ?_
          refine lv_iload_n hx hb dX12_beside_105 rfl (lv_at hl 1 rfl) ?_
          refine lv_iload hx hb dX12_beside_106 (lv_at hl 7 rfl) ?_
          refine m_ci0 (m_rV S hKX hW (m_szH hbs hS) (c_X12_markOf l ) h lk_X12_332 (m_recv hK hW (ci_10 (Nat.le_of_ble_eq_true rfl)) (rc_10 G) rfl) rfl hl.1 rfl ⟨Nat.le_of_ble_eq_true rfl, Nat.le_of_ble_eq_true rfl⟩ (Nat.le_of_ble_eq_true rfl) ⟨Nat.le_of_ble_eq_true rfl, Nat.le_of_ble_eq_true rfl⟩ dX12_beside_108) hS rfl rfl (fun rr108 Mm108 H locs h hW hS => ?_)
          refine lv_if_ne (tgt := 135) hx hb dX12_beside_111 (by decide) (fun c111 => ?_) (fun c111 => ?_)
          · replace h := h.1 c111
            refine lv_iconst hx hb dX12_beside_135 ki_0 ?_
            exact b136 _ _ _ _ _ H locs ls hW hS (lv_sub hl [0, 1, 2, 3, 4, 5, 6, 7] rfl) h
          · replace h := h.2 c111
            refine lv_aload_n hx hb dX12_beside_114 rfl (lv_at hl 0 rfl) ?_
            refine m_getr S hK fk_X12_19 (gr_10_5 G 0) hW (ci_10 (Nat.le_of_ble_eq_true rfl)) dX12_beside_115 ?_
            refine lv_iload hx hb dX12_beside_118 (lv_at hl 6 rfl) ?_
            obtain ⟨hb120, h⟩ := h
            refine m_ald S hK (ar_47 G) hW (ci_47 (Nat.le_of_ble_eq_true rfl)) hb120 dX12_beside_120 ?_
            refine lv_aload_n hx hb dX12_beside_121 rfl (lv_at hl 0 rfl) ?_
            refine m_getr S hK fk_X12_19 (gr_10_5 G 0) hW (ci_10 (Nat.le_of_ble_eq_true rfl)) dX12_beside_122 ?_
            refine lv_iload hx hb dX12_beside_125 (lv_at hl 7 rfl) ?_
            obtain ⟨hb127, h⟩ := h
            refine m_ald S hK (ar_47 G) hW (ci_47 (Nat.le_of_ble_eq_true rfl)) hb127 dX12_beside_127 ?_
            refine lv_icmp_ne (tgt := 135) hx hb dX12_beside_128 (by decide) (fun c128 => ?_) (fun c128 => ?_)
            · replace h := h.1 c128
              refine lv_iconst hx hb dX12_beside_135 ki_0 ?_
              exact b136 _ _ _ _ _ H locs ls hW hS (lv_sub hl [0, 1, 2, 3, 4, 5, 6, 7] rfl) h
            · replace h := h.2 c128
              refine lv_iconst hx hb dX12_beside_131 ki_1 ?_
              refine lv_goto (tgt := 136) hx hb dX12_beside_132 (by decide) ?_
              exact b136 _ _ _ _ _ H locs ls hW hS (lv_sub hl [0, 1, 2, 3, 4, 5, 6, 7] rfl) h
    unfold s_X12_beside_68 at h
    refine lv_iload hx hb dX12_beside_68 (lv_at hl 6 rfl) ?_
    refine lv_aload_n hx hb dX12_beside_70 rfl (lv_at hl 0 rfl) ?_
    refine m_getr S hK fk_X12_7 (gr_10_1 G 0) hW (ci_10 (Nat.le_of_ble_eq_true rfl)) dX12_beside_71 ?_
    refine lv_iconst hx hb dX12_beside_74 ki_0 ?_
    refine m_aldk S hK (ar_44 G) hW (ci_44 (Nat.le_of_ble_eq_true rfl)) kn_0 (Nat.le_of_ble_eq_true rfl) dX12_beside_75 ?_
    refine lv_icmp_ge (tgt := 227) hx hb dX12_beside_76 (by decide) (fun c76 => ?_) (fun c76 => ?_)
    · replace h := h.1 c76
      refine lv_iload_n hx hb dX12_beside_227 rfl (lv_at hl 3 rfl) ?_
      refine lv_if_ne (tgt := 236) hx hb dX12_beside_228 (by decide) (fun c228 => ?_) (fun c228 => ?_)
      · replace h := h.1 c228
        refine lv_iload hx hb dX12_beside_236 (lv_at hl 5 rfl) ?_
        exact m_iret S hret hlocks hKX hW hbs hS rfl h dX12_beside_238
      · replace h := h.2 c228
        refine lv_iload hx hb dX12_beside_231 (lv_at hl 4 rfl) ?_
        refine lv_goto (tgt := 238) hx hb dX12_beside_233 (by decide) ?_
        exact m_iret S hret hlocks hKX hW hbs hS rfl h dX12_beside_238
    · replace h := h.2 c76
      refine lv_iconst hx hb dX12_beside_79 ki_0 ?_
      refine lv_istore (lv' := [(8, .int (0 : Int32)), (0, .ref (ad G 10 0)), (1, .int x1), (2, .int x2), (3, .int x3), (5, .int x5), (6, .int x6), (7, .int x7)]) hx hb dX12_beside_80 hl (by decide) rfl (fun ls hl => ?_)
      obtain ⟨n82, h⟩ := h
      exact w82 _ n82 _ h H locs ls hW hS (lv_sub hl [1, 2, 3, 4, 5, 6, 7, 0] rfl)
  unfold s_X12_beside at h
  refine lv_aload_n hx hb dX12_beside_0 rfl (lv_at hl 0 rfl) ?_
  refine lv_iconst hx hb dX12_beside_1 ki_0 ?_
  refine m_put S hK fk_X12_128 tyX12_ok nmX12 rfl pf_X12_0 (pv_10_0 G) hW hS (ci_10 (Nat.le_of_ble_eq_true rfl)) rfl rfl dX12_beside_2 (fun Mm2 eMm2 H locs hW hS => ?_)
  replace h := h Mm2 eMm2
  refine lv_iload_n hx hb dX12_beside_5 rfl (lv_at hl 1 rfl) ?_
  refine lv_iconst hx hb dX12_beside_6 ki_0 ?_
  refine lv_bipush hx hb dX12_beside_7 kb_7 ?_
  refine m_ci0 (m_rS S hKX hW (m_szH hbs hS) (c_X12_in l ) h lk_X12_131 rfl hl.1 rfl ⟨Nat.le_of_ble_eq_true rfl, Nat.le_of_ble_eq_true rfl⟩ (Nat.le_of_ble_eq_true rfl) ⟨Nat.le_of_ble_eq_true rfl, Nat.le_of_ble_eq_true rfl⟩ dX12_beside_9) hS rfl rfl (fun rr9 Mm9 H locs h hW hS => ?_)
  refine lv_if_eq (tgt := 35) hx hb dX12_beside_12 (by decide) (fun c12 => ?_) (fun c12 => ?_)
  · replace h := h.1 c12
    refine lv_ldcw hx hb hown (hts _ mw_1528) dX12_beside_35 ?_
    exact m_iret S hret hlocks hKX hW hbs hS rfl h dX12_beside_38
  · replace h := h.2 c12
    refine lv_iload_n hx hb dX12_beside_15 rfl (lv_at hl 2 rfl) ?_
    refine lv_iconst hx hb dX12_beside_16 ki_0 ?_
    refine lv_sipush hx hb dX12_beside_17 ks_600 ?_
    refine m_ci0 (m_rS S hKX hW (m_szH hbs hS) (c_X12_in l ) h lk_X12_131 rfl hl.1 rfl ⟨Nat.le_of_ble_eq_true rfl, Nat.le_of_ble_eq_true rfl⟩ (Nat.le_of_ble_eq_true rfl) ⟨Nat.le_of_ble_eq_true rfl, Nat.le_of_ble_eq_true rfl⟩ dX12_beside_20) hS rfl rfl (fun rr20 Mm20 H locs h hW hS => ?_)
    refine lv_if_eq (tgt := 35) hx hb dX12_beside_23 (by decide) (fun c23 => ?_) (fun c23 => ?_)
    · replace h := h.1 c23
      refine lv_ldcw hx hb hown (hts _ mw_1528) dX12_beside_35 ?_
      exact m_iret S hret hlocks hKX hW hbs hS rfl h dX12_beside_38
    · replace h := h.2 c23
      refine lv_iload_n hx hb dX12_beside_26 rfl (lv_at hl 3 rfl) ?_
      refine lv_iconst hx hb dX12_beside_27 ki_0 ?_
      refine lv_iconst hx hb dX12_beside_28 ki_1 ?_
      refine m_ci0 (m_rS S hKX hW (m_szH hbs hS) (c_X12_in l ) h lk_X12_131 rfl hl.1 rfl ⟨Nat.le_of_ble_eq_true rfl, Nat.le_of_ble_eq_true rfl⟩ (Nat.le_of_ble_eq_true rfl) ⟨Nat.le_of_ble_eq_true rfl, Nat.le_of_ble_eq_true rfl⟩ dX12_beside_29) hS rfl rfl (fun rr29 Mm29 H locs h hW hS => ?_)
      refine lv_if_ne (tgt := 39) hx hb dX12_beside_32 (by decide) (fun c32 => ?_) (fun c32 => ?_)
      · replace h := h.1 c32
        refine lv_aload_n hx hb dX12_beside_39 rfl (lv_at hl 0 rfl) ?_
        refine lv_iload_n hx hb dX12_beside_40 rfl (lv_at hl 1 rfl) ?_
        refine lv_iconst hx hb dX12_beside_41 ki_0 ?_
        refine m_ci0 (m_rV S hKX hW (m_szH hbs hS) (c_X12_lacks l ) h lk_X12_245 (m_recv hK hW (ci_10 (Nat.le_of_ble_eq_true rfl)) (rc_10 G) rfl) rfl hl.1 rfl ⟨Nat.le_of_ble_eq_true rfl, Nat.le_of_ble_eq_true rfl⟩ (Nat.le_of_ble_eq_true rfl) ⟨Nat.le_of_ble_eq_true rfl, Nat.le_of_ble_eq_true rfl⟩ dX12_beside_42) hS rfl rfl (fun rr42 Mm42 H locs h hW hS => ?_)
        refine lv_istore (lv' := [(4, .int rr42), (0, .ref (ad G 10 0)), (1, .int x1), (2, .int x2), (3, .int x3)]) hx hb dX12_beside_45 hl (by decide) rfl (fun ls hl => ?_)
        refine lv_iload hx hb dX12_beside_47 (lv_at hl 0 rfl) ?_
        refine lv_if_ge (tgt := 59) hx hb dX12_beside_49 (by decide) (fun c49 => ?_) (fun c49 => ?_)
        · replace h := h.1 c49
          refine lv_iconst hx hb dX12_beside_59 ki_0 ?_
          refine lv_istore (lv' := [(5, .int (0 : Int32)), (4, .int rr42), (0, .ref (ad G 10 0)), (1, .int x1), (2, .int x2), (3, .int x3)]) hx hb dX12_beside_60 hl (by decide) rfl (fun ls hl => ?_)
          refine lv_iconst hx hb dX12_beside_62 ki_0 ?_
          refine lv_istore (lv' := [(6, .int (0 : Int32)), (5, .int (0 : Int32)), (4, .int rr42), (0, .ref (ad G 10 0)), (1, .int x1), (2, .int x2), (3, .int x3)]) hx hb dX12_beside_63 hl (by decide) rfl (fun ls hl => ?_)
          refine lv_iconst hx hb dX12_beside_65 ki_0 ?_
          refine lv_istore (lv' := [(7, .int (0 : Int32)), (6, .int (0 : Int32)), (5, .int (0 : Int32)), (4, .int rr42), (0, .ref (ad G 10 0)), (1, .int x1), (2, .int x2), (3, .int x3)]) hx hb dX12_beside_66 hl (by decide) rfl (fun ls hl => ?_)
          obtain ⟨n68, h⟩ := h
          exact w68 n68 _ h H locs ls hW hS (lv_sub hl [4, 5, 6, 7, 2, 1, 0] rfl)
        · replace h := h.2 c49
          refine lv_ldcw hx hb hown (hts _ mw_1589) dX12_beside_52 ?_
          refine lv_iload hx hb dX12_beside_55 (lv_at hl 0 rfl) ?_
          refine lv_iadd hx hb dX12_beside_57 ?_
          exact m_iret S hret hlocks hKX hW hbs hS rfl h dX12_beside_58
      · replace h := h.2 c32
        refine lv_ldcw hx hb hown (hts _ mw_1528) dX12_beside_35 ?_
        exact m_iret S hret hlocks hKX hW hbs hS rfl h dX12_beside_38
