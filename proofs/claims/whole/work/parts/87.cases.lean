/-! THE LAW'S CASES -/
theorem law_arg {p : Program} {l : Launch} {e : Env} {R : Room} {s : State} {m : MethodId} {args : Array Value} {below : List Frame} {meth : Method} {c : Code} {H : Heap} {locs : List Loc} {cells slots : Nat} {Q : State → Prop} {pc : Nat} {ls : Array Slot} {st : List Value} {G : Gn} {b L i : Nat} {xs : Nat → Int32} (j : Nat) {v : Int} (hx : p.tables.exec = Jvm.exec) (hb : c.code = cL_law) (hX : va_X b L xs s s.heap) (hbl : b < s.heap.size) (hbs : bs G = s.heap.size) (hS : va_S (fun q => bs G ≤ q) s.heap H locs) (h0 : ls[0]? = some (.val (.ref b))) (h4 : ls[4]? = some (.val (.int (nI i)))) (hi : i + 6 ≤ L) (hL : L ≤ 384) (hj : j ≤ 5) (hv : Int32.ofInt v = nI j)
    (d0 : decode cL_law pc = .ok (.aload_n 0, 1)) (d1 : decode cL_law (pc + 1) = .ok (.iload 4, 2)) (d2 : decode cL_law (pc + 3) = .ok (.iconst v, 1)) (d3 : decode cL_law (pc + 4) = .ok (.iadd, 1)) (d4 : decode cL_law (pc + 5) = .ok (.iaload, 1))
    (kk : W p l e R s m args below meth c H locs cells slots Q (F0 m (pc + 6) ls (.int (xs (i + j)) :: st))) : W p l e R s m args below meth c H locs cells slots Q (F0 m pc ls st) := by
  refine lv_aload_n hx hb d0 rfl h0 ?_
  refine lv_iload hx hb d1 h4 ?_
  refine lv_iconst hx hb d2 hv ?_
  refine lv_iadd hx hb d3 ?_
  rw [nI_add]
  refine va_sld hx hb hX hbl (by show ¬ (bs G ≤ b); omega) hS (vp_in_nI (by omega) (by omega)) d4 ?_
  rw [nI_clamp (by omega)]
  exact kk
/-- what stands all the while -/
def LC (p : Program) (s : State) (m : MethodId) (c : Code) (b L : Nat) (xs : Nat → Int32) (G : Gn) : Prop := CallFix p m c cL_law 8 s #[Value.ref b] lw_G "MilkDeskLaw" ∧ va_X b L xs s s.heap ∧ b < s.heap.size ∧ bs G = s.heap.size ∧ KX G s ∧ L ≤ 384
abbrev LV (b : Nat) (G : Gn) (i : Nat) : List (Nat × Value) := [(0, .ref b), (1, .ref (ad G 0 0)), (2, .ref (ad G 10 0)), (3, .ref (ad G 81 0)), (4, .int (nI i))]
/-- the way on from a case's end -/
def TL (p : Program) (l : Launch) (e : Env) (s : State) (m : MethodId) (below : List Frame) (meth : Method) (c : Code) (b : Nat) (G : Gn) (t : Nat) : Prop :=
  ∀ (S' : Sg) (M' : Mem) (H' : Heap) (locs' : List Loc) (ls' : Array Slot), IV S' → RCX M' S' → RMX M' S' → WPm G M' H' → va_S (fun q => bs G ≤ q) s.heap H' locs' → lv_has ls' 8 (LV b G (6 * t)) → W p l e room_1 s m #[Value.ref b] below meth c H' locs' (200 + 4 * (t + 1)) (8000 + 100 * (t + 1)) (lw_Z below #[Value.ref b] s) (F0 m 1778 ls' [])
theorem law_rc {x a : Nat} (hx : x ≤ 1000) (ha : a ≤ 100) : x + a ≤ room_1.cells := by
  show x + a ≤ 600128
  omega
theorem law_rs {x a : Nat} (hx : x ≤ 20000) (ha : a ≤ 1000) : x + a ≤ room_1.slots := by
  show x + a ≤ 7301098
  omega
theorem RCX.w81 {M : Mem} {S : Sg} {v : Int64} (h : RCX M S) : RCX (wJ M 81 0 0 v) S := h
theorem RMX.w81 {M : Mem} {S : Sg} {v : Int64} (h : RMX M S) : RMX (wJ M 81 0 0 v) S := by
  refine ⟨h.1, h.2.1, fun d hd => ?_, h.2.2.2⟩
  obtain ⟨h1, h2, h3⟩ := h.2.2.1 d hd
  refine ⟨h1, h2, fun q => ⟨(h3 q).1, (h3 q).2.1, fun j hj => ?_⟩⟩
  rw [wJ_nc (by decide)]
  exact (h3 q).2.2 j hj
theorem mw_391 : Cond.code yX11_school cX11_school 3 (some .int) ∈ lw_G := lw_Gi 451 (by decide +kernel) rfl
theorem mw_389 : Cond.instanceMethod yX11_school ∈ lw_G := lw_Gi 449 (by decide +kernel) rfl
theorem mw_390 : Cond.selects yX11_school.cls yX11_school yX11_school ∈ lw_G := lw_Gi 450 (by decide +kernel) rfl
theorem mw_388 : Cond.methodLink "MilkDeskLaw" 21 yX11_school ∈ lw_G := lw_Gi 448 (by decide +kernel) rfl
theorem lk_L_21 : LKV "MilkDeskLaw" 21 yX11_school.cls yX11_school cX11_school 3 (some .int) 2 := ⟨mw_388, mw_389, mw_390, mw_1, mw_391, by decide +kernel, by decide +kernel, by decide +kernel⟩
theorem mw_1311 : Cond.code yX12_school cX12_school 5 (some .int) ∈ lw_G := lw_Gi 1371 (by decide +kernel) rfl
theorem mw_1309 : Cond.instanceMethod yX12_school ∈ lw_G := lw_Gi 1369 (by decide +kernel) rfl
theorem mw_1310 : Cond.selects yX12_school.cls yX12_school yX12_school ∈ lw_G := lw_Gi 1370 (by decide +kernel) rfl
theorem mw_1308 : Cond.methodLink "MilkDeskLaw" 25 yX12_school ∈ lw_G := lw_Gi 1368 (by decide +kernel) rfl
theorem lk_L_25 : LKV "MilkDeskLaw" 25 yX12_school.cls yX12_school cX12_school 5 (some .int) 2 := ⟨mw_1308, mw_1309, mw_1310, mw_12, mw_1311, by decide +kernel, by decide +kernel, by decide +kernel⟩
theorem mw_402 : Cond.code yX11_set cX11_set 7 (some .int) ∈ lw_G := lw_Gi 462 (by decide +kernel) rfl
theorem mw_400 : Cond.instanceMethod yX11_set ∈ lw_G := lw_Gi 460 (by decide +kernel) rfl
theorem mw_401 : Cond.selects yX11_set.cls yX11_set yX11_set ∈ lw_G := lw_Gi 461 (by decide +kernel) rfl
theorem mw_399 : Cond.methodLink "MilkDeskLaw" 26 yX11_set ∈ lw_G := lw_Gi 459 (by decide +kernel) rfl
theorem lk_L_26 : LKV "MilkDeskLaw" 26 yX11_set.cls yX11_set cX11_set 7 (some .int) 3 := ⟨mw_399, mw_400, mw_401, mw_1, mw_402, by decide +kernel, by decide +kernel, by decide +kernel⟩
theorem mw_1321 : Cond.code yX12_set cX12_set 6 (some .int) ∈ lw_G := lw_Gi 1381 (by decide +kernel) rfl
theorem mw_1319 : Cond.instanceMethod yX12_set ∈ lw_G := lw_Gi 1379 (by decide +kernel) rfl
theorem mw_1320 : Cond.selects yX12_set.cls yX12_set yX12_set ∈ lw_G := lw_Gi 1380 (by decide +kernel) rfl
theorem mw_1318 : Cond.methodLink "MilkDeskLaw" 30 yX12_set ∈ lw_G := lw_Gi 1378 (by decide +kernel) rfl
theorem lk_L_30 : LKV "MilkDeskLaw" 30 yX12_set.cls yX12_set cX12_set 6 (some .int) 3 := ⟨mw_1318, mw_1319, mw_1320, mw_12, mw_1321, by decide +kernel, by decide +kernel, by decide +kernel⟩
theorem mw_410 : Cond.code yX11_dairy cX11_dairy 4 (some .int) ∈ lw_G := lw_Gi 470 (by decide +kernel) rfl
theorem mw_408 : Cond.instanceMethod yX11_dairy ∈ lw_G := lw_Gi 468 (by decide +kernel) rfl
theorem mw_409 : Cond.selects yX11_dairy.cls yX11_dairy yX11_dairy ∈ lw_G := lw_Gi 469 (by decide +kernel) rfl
theorem mw_407 : Cond.methodLink "MilkDeskLaw" 31 yX11_dairy ∈ lw_G := lw_Gi 467 (by decide +kernel) rfl
theorem lk_L_31 : LKV "MilkDeskLaw" 31 yX11_dairy.cls yX11_dairy cX11_dairy 4 (some .int) 3 := ⟨mw_407, mw_408, mw_409, mw_1, mw_410, by decide +kernel, by decide +kernel, by decide +kernel⟩
theorem mw_1329 : Cond.code yX12_dairy cX12_dairy 6 (some .int) ∈ lw_G := lw_Gi 1389 (by decide +kernel) rfl
theorem mw_1327 : Cond.instanceMethod yX12_dairy ∈ lw_G := lw_Gi 1387 (by decide +kernel) rfl
theorem mw_1328 : Cond.selects yX12_dairy.cls yX12_dairy yX12_dairy ∈ lw_G := lw_Gi 1388 (by decide +kernel) rfl
theorem mw_1326 : Cond.methodLink "MilkDeskLaw" 34 yX12_dairy ∈ lw_G := lw_Gi 1386 (by decide +kernel) rfl
theorem lk_L_34 : LKV "MilkDeskLaw" 34 yX12_dairy.cls yX12_dairy cX12_dairy 6 (some .int) 3 := ⟨mw_1326, mw_1327, mw_1328, mw_12, mw_1329, by decide +kernel, by decide +kernel, by decide +kernel⟩
theorem mw_418 : Cond.code yX11_bid cX11_bid 6 (some .int) ∈ lw_G := lw_Gi 478 (by decide +kernel) rfl
theorem mw_416 : Cond.instanceMethod yX11_bid ∈ lw_G := lw_Gi 476 (by decide +kernel) rfl
theorem mw_417 : Cond.selects yX11_bid.cls yX11_bid yX11_bid ∈ lw_G := lw_Gi 477 (by decide +kernel) rfl
theorem mw_415 : Cond.methodLink "MilkDeskLaw" 35 yX11_bid ∈ lw_G := lw_Gi 475 (by decide +kernel) rfl
theorem lk_L_35 : LKV "MilkDeskLaw" 35 yX11_bid.cls yX11_bid cX11_bid 6 (some .int) 3 := ⟨mw_415, mw_416, mw_417, mw_1, mw_418, by decide +kernel, by decide +kernel, by decide +kernel⟩
theorem mw_1333 : Cond.code yX12_bid cX12_bid 5 (some .int) ∈ lw_G := lw_Gi 1393 (by decide +kernel) rfl
theorem mw_1331 : Cond.instanceMethod yX12_bid ∈ lw_G := lw_Gi 1391 (by decide +kernel) rfl
theorem mw_1332 : Cond.selects yX12_bid.cls yX12_bid yX12_bid ∈ lw_G := lw_Gi 1392 (by decide +kernel) rfl
theorem mw_1330 : Cond.methodLink "MilkDeskLaw" 38 yX12_bid ∈ lw_G := lw_Gi 1390 (by decide +kernel) rfl
theorem lk_L_38 : LKV "MilkDeskLaw" 38 yX12_bid.cls yX12_bid cX12_bid 5 (some .int) 3 := ⟨mw_1330, mw_1331, mw_1332, mw_12, mw_1333, by decide +kernel, by decide +kernel, by decide +kernel⟩
theorem mw_426 : Cond.code yX11_won cX11_won 3 (some .int) ∈ lw_G := lw_Gi 486 (by decide +kernel) rfl
theorem mw_424 : Cond.instanceMethod yX11_won ∈ lw_G := lw_Gi 484 (by decide +kernel) rfl
theorem mw_425 : Cond.selects yX11_won.cls yX11_won yX11_won ∈ lw_G := lw_Gi 485 (by decide +kernel) rfl
theorem mw_423 : Cond.methodLink "MilkDeskLaw" 39 yX11_won ∈ lw_G := lw_Gi 483 (by decide +kernel) rfl
theorem lk_L_39 : LKV "MilkDeskLaw" 39 yX11_won.cls yX11_won cX11_won 3 (some .int) 1 := ⟨mw_423, mw_424, mw_425, mw_1, mw_426, by decide +kernel, by decide +kernel, by decide +kernel⟩
theorem mw_1341 : Cond.code yX12_won cX12_won 2 (some .int) ∈ lw_G := lw_Gi 1401 (by decide +kernel) rfl
theorem mw_1339 : Cond.instanceMethod yX12_won ∈ lw_G := lw_Gi 1399 (by decide +kernel) rfl
theorem mw_1340 : Cond.selects yX12_won.cls yX12_won yX12_won ∈ lw_G := lw_Gi 1400 (by decide +kernel) rfl
theorem mw_1338 : Cond.methodLink "MilkDeskLaw" 43 yX12_won ∈ lw_G := lw_Gi 1398 (by decide +kernel) rfl
theorem lk_L_43 : LKV "MilkDeskLaw" 43 yX12_won.cls yX12_won cX12_won 2 (some .int) 1 := ⟨mw_1338, mw_1339, mw_1340, mw_12, mw_1341, by decide +kernel, by decide +kernel, by decide +kernel⟩
theorem mw_434 : Cond.code yX11_bottles cX11_bottles 2 (some .int) ∈ lw_G := lw_Gi 494 (by decide +kernel) rfl
theorem mw_432 : Cond.instanceMethod yX11_bottles ∈ lw_G := lw_Gi 492 (by decide +kernel) rfl
theorem mw_433 : Cond.selects yX11_bottles.cls yX11_bottles yX11_bottles ∈ lw_G := lw_Gi 493 (by decide +kernel) rfl
theorem mw_431 : Cond.methodLink "MilkDeskLaw" 44 yX11_bottles ∈ lw_G := lw_Gi 491 (by decide +kernel) rfl
theorem lk_L_44 : LKV "MilkDeskLaw" 44 yX11_bottles.cls yX11_bottles cX11_bottles 2 (some .int) 1 := ⟨mw_431, mw_432, mw_433, mw_1, mw_434, by decide +kernel, by decide +kernel, by decide +kernel⟩
theorem mw_1349 : Cond.code yX12_bottles cX12_bottles 2 (some .int) ∈ lw_G := lw_Gi 1409 (by decide +kernel) rfl
theorem mw_1347 : Cond.instanceMethod yX12_bottles ∈ lw_G := lw_Gi 1407 (by decide +kernel) rfl
theorem mw_1348 : Cond.selects yX12_bottles.cls yX12_bottles yX12_bottles ∈ lw_G := lw_Gi 1408 (by decide +kernel) rfl
theorem mw_1346 : Cond.methodLink "MilkDeskLaw" 47 yX12_bottles ∈ lw_G := lw_Gi 1406 (by decide +kernel) rfl
theorem lk_L_47 : LKV "MilkDeskLaw" 47 yX12_bottles.cls yX12_bottles cX12_bottles 2 (some .int) 1 := ⟨mw_1346, mw_1347, mw_1348, mw_12, mw_1349, by decide +kernel, by decide +kernel, by decide +kernel⟩
theorem mw_438 : Cond.code yX11_month cX11_month 7 (some .int) ∈ lw_G := lw_Gi 498 (by decide +kernel) rfl
theorem mw_436 : Cond.instanceMethod yX11_month ∈ lw_G := lw_Gi 496 (by decide +kernel) rfl
theorem mw_437 : Cond.selects yX11_month.cls yX11_month yX11_month ∈ lw_G := lw_Gi 497 (by decide +kernel) rfl
theorem mw_435 : Cond.methodLink "MilkDeskLaw" 48 yX11_month ∈ lw_G := lw_Gi 495 (by decide +kernel) rfl
theorem lk_L_48 : LKV "MilkDeskLaw" 48 yX11_month.cls yX11_month cX11_month 7 (some .int) 3 := ⟨mw_435, mw_436, mw_437, mw_1, mw_438, by decide +kernel, by decide +kernel, by decide +kernel⟩
theorem mw_1353 : Cond.code yX12_month cX12_month 6 (some .int) ∈ lw_G := lw_Gi 1413 (by decide +kernel) rfl
theorem mw_1351 : Cond.instanceMethod yX12_month ∈ lw_G := lw_Gi 1411 (by decide +kernel) rfl
theorem mw_1352 : Cond.selects yX12_month.cls yX12_month yX12_month ∈ lw_G := lw_Gi 1412 (by decide +kernel) rfl
theorem mw_1350 : Cond.methodLink "MilkDeskLaw" 51 yX12_month ∈ lw_G := lw_Gi 1410 (by decide +kernel) rfl
theorem lk_L_51 : LKV "MilkDeskLaw" 51 yX12_month.cls yX12_month cX12_month 6 (some .int) 3 := ⟨mw_1350, mw_1351, mw_1352, mw_12, mw_1353, by decide +kernel, by decide +kernel, by decide +kernel⟩
theorem mw_443 : Cond.code yX11_heads cX11_heads 5 (some .int) ∈ lw_G := lw_Gi 503 (by decide +kernel) rfl
theorem mw_441 : Cond.instanceMethod yX11_heads ∈ lw_G := lw_Gi 501 (by decide +kernel) rfl
theorem mw_442 : Cond.selects yX11_heads.cls yX11_heads yX11_heads ∈ lw_G := lw_Gi 502 (by decide +kernel) rfl
theorem mw_440 : Cond.methodLink "MilkDeskLaw" 52 yX11_heads ∈ lw_G := lw_Gi 500 (by decide +kernel) rfl
theorem lk_L_52 : LKV "MilkDeskLaw" 52 yX11_heads.cls yX11_heads cX11_heads 5 (some .int) 2 := ⟨mw_440, mw_441, mw_442, mw_1, mw_443, by decide +kernel, by decide +kernel, by decide +kernel⟩
theorem mw_1357 : Cond.code yX12_heads cX12_heads 9 (some .int) ∈ lw_G := lw_Gi 1417 (by decide +kernel) rfl
theorem mw_1355 : Cond.instanceMethod yX12_heads ∈ lw_G := lw_Gi 1415 (by decide +kernel) rfl
theorem mw_1356 : Cond.selects yX12_heads.cls yX12_heads yX12_heads ∈ lw_G := lw_Gi 1416 (by decide +kernel) rfl
theorem mw_1354 : Cond.methodLink "MilkDeskLaw" 55 yX12_heads ∈ lw_G := lw_Gi 1414 (by decide +kernel) rfl
theorem lk_L_55 : LKV "MilkDeskLaw" 55 yX12_heads.cls yX12_heads cX12_heads 9 (some .int) 2 := ⟨mw_1354, mw_1355, mw_1356, mw_12, mw_1357, by decide +kernel, by decide +kernel, by decide +kernel⟩
theorem mw_481 : Cond.code yX11_head cX11_head 5 (some .int) ∈ lw_G := lw_Gi 541 (by decide +kernel) rfl
theorem mw_479 : Cond.instanceMethod yX11_head ∈ lw_G := lw_Gi 539 (by decide +kernel) rfl
theorem mw_480 : Cond.selects yX11_head.cls yX11_head yX11_head ∈ lw_G := lw_Gi 540 (by decide +kernel) rfl
theorem mw_478 : Cond.methodLink "MilkDeskLaw" 56 yX11_head ∈ lw_G := lw_Gi 538 (by decide +kernel) rfl
theorem lk_L_56 : LKV "MilkDeskLaw" 56 yX11_head.cls yX11_head cX11_head 5 (some .int) 4 := ⟨mw_478, mw_479, mw_480, mw_1, mw_481, by decide +kernel, by decide +kernel, by decide +kernel⟩
theorem mw_1368 : Cond.code yX12_head cX12_head 5 (some .int) ∈ lw_G := lw_Gi 1428 (by decide +kernel) rfl
theorem mw_1366 : Cond.instanceMethod yX12_head ∈ lw_G := lw_Gi 1426 (by decide +kernel) rfl
theorem mw_1367 : Cond.selects yX12_head.cls yX12_head yX12_head ∈ lw_G := lw_Gi 1427 (by decide +kernel) rfl
theorem mw_1365 : Cond.methodLink "MilkDeskLaw" 60 yX12_head ∈ lw_G := lw_Gi 1425 (by decide +kernel) rfl
theorem lk_L_60 : LKV "MilkDeskLaw" 60 yX12_head.cls yX12_head cX12_head 5 (some .int) 4 := ⟨mw_1365, mw_1366, mw_1367, mw_12, mw_1368, by decide +kernel, by decide +kernel, by decide +kernel⟩
theorem mw_489 : Cond.code yX11_fault cX11_fault 5 (some .int) ∈ lw_G := lw_Gi 549 (by decide +kernel) rfl
theorem mw_487 : Cond.instanceMethod yX11_fault ∈ lw_G := lw_Gi 547 (by decide +kernel) rfl
theorem mw_488 : Cond.selects yX11_fault.cls yX11_fault yX11_fault ∈ lw_G := lw_Gi 548 (by decide +kernel) rfl
theorem mw_486 : Cond.methodLink "MilkDeskLaw" 61 yX11_fault ∈ lw_G := lw_Gi 546 (by decide +kernel) rfl
theorem lk_L_61 : LKV "MilkDeskLaw" 61 yX11_fault.cls yX11_fault cX11_fault 5 (some .int) 1 := ⟨mw_486, mw_487, mw_488, mw_1, mw_489, by decide +kernel, by decide +kernel, by decide +kernel⟩
theorem mw_1379 : Cond.code yX12_fault cX12_fault 4 (some .int) ∈ lw_G := lw_Gi 1439 (by decide +kernel) rfl
theorem mw_1377 : Cond.instanceMethod yX12_fault ∈ lw_G := lw_Gi 1437 (by decide +kernel) rfl
theorem mw_1378 : Cond.selects yX12_fault.cls yX12_fault yX12_fault ∈ lw_G := lw_Gi 1438 (by decide +kernel) rfl
theorem mw_1376 : Cond.methodLink "MilkDeskLaw" 64 yX12_fault ∈ lw_G := lw_Gi 1436 (by decide +kernel) rfl
theorem lk_L_64 : LKV "MilkDeskLaw" 64 yX12_fault.cls yX12_fault cX12_fault 4 (some .int) 1 := ⟨mw_1376, mw_1377, mw_1378, mw_12, mw_1379, by decide +kernel, by decide +kernel, by decide +kernel⟩
theorem mw_632 : Cond.code yX11_act cX11_act 7 (some .int) ∈ lw_G := lw_Gi 692 (by decide +kernel) rfl
theorem mw_630 : Cond.instanceMethod yX11_act ∈ lw_G := lw_Gi 690 (by decide +kernel) rfl
theorem mw_631 : Cond.selects yX11_act.cls yX11_act yX11_act ∈ lw_G := lw_Gi 691 (by decide +kernel) rfl
theorem mw_629 : Cond.methodLink "MilkDeskLaw" 65 yX11_act ∈ lw_G := lw_Gi 689 (by decide +kernel) rfl
theorem lk_L_65 : LKV "MilkDeskLaw" 65 yX11_act.cls yX11_act cX11_act 7 (some .int) 3 := ⟨mw_629, mw_630, mw_631, mw_1, mw_632, by decide +kernel, by decide +kernel, by decide +kernel⟩
theorem mw_1441 : Cond.code yX12_act cX12_act 8 (some .int) ∈ lw_G := lw_Gi 1501 (by decide +kernel) rfl
theorem mw_1439 : Cond.instanceMethod yX12_act ∈ lw_G := lw_Gi 1499 (by decide +kernel) rfl
theorem mw_1440 : Cond.selects yX12_act.cls yX12_act yX12_act ∈ lw_G := lw_Gi 1500 (by decide +kernel) rfl
theorem mw_1438 : Cond.methodLink "MilkDeskLaw" 68 yX12_act ∈ lw_G := lw_Gi 1498 (by decide +kernel) rfl
theorem lk_L_68 : LKV "MilkDeskLaw" 68 yX12_act.cls yX12_act cX12_act 8 (some .int) 3 := ⟨mw_1438, mw_1439, mw_1440, mw_12, mw_1441, by decide +kernel, by decide +kernel, by decide +kernel⟩
theorem mw_671 : Cond.code yX11_strike cX11_strike 3 (some .int) ∈ lw_G := lw_Gi 731 (by decide +kernel) rfl
theorem mw_669 : Cond.instanceMethod yX11_strike ∈ lw_G := lw_Gi 729 (by decide +kernel) rfl
theorem mw_670 : Cond.selects yX11_strike.cls yX11_strike yX11_strike ∈ lw_G := lw_Gi 730 (by decide +kernel) rfl
theorem mw_668 : Cond.methodLink "MilkDeskLaw" 69 yX11_strike ∈ lw_G := lw_Gi 728 (by decide +kernel) rfl
theorem lk_L_69 : LKV "MilkDeskLaw" 69 yX11_strike.cls yX11_strike cX11_strike 3 (some .int) 2 := ⟨mw_668, mw_669, mw_670, mw_1, mw_671, by decide +kernel, by decide +kernel, by decide +kernel⟩
theorem mw_1446 : Cond.code yX12_strike cX12_strike 3 (some .int) ∈ lw_G := lw_Gi 1506 (by decide +kernel) rfl
theorem mw_1444 : Cond.instanceMethod yX12_strike ∈ lw_G := lw_Gi 1504 (by decide +kernel) rfl
theorem mw_1445 : Cond.selects yX12_strike.cls yX12_strike yX12_strike ∈ lw_G := lw_Gi 1505 (by decide +kernel) rfl
theorem mw_1443 : Cond.methodLink "MilkDeskLaw" 72 yX12_strike ∈ lw_G := lw_Gi 1503 (by decide +kernel) rfl
theorem lk_L_72 : LKV "MilkDeskLaw" 72 yX12_strike.cls yX12_strike cX12_strike 3 (some .int) 2 := ⟨mw_1443, mw_1444, mw_1445, mw_12, mw_1446, by decide +kernel, by decide +kernel, by decide +kernel⟩
theorem mw_679 : Cond.code yX11_force cX11_force 5 (some .int) ∈ lw_G := lw_Gi 739 (by decide +kernel) rfl
theorem mw_677 : Cond.instanceMethod yX11_force ∈ lw_G := lw_Gi 737 (by decide +kernel) rfl
theorem mw_678 : Cond.selects yX11_force.cls yX11_force yX11_force ∈ lw_G := lw_Gi 738 (by decide +kernel) rfl
theorem mw_676 : Cond.methodLink "MilkDeskLaw" 73 yX11_force ∈ lw_G := lw_Gi 736 (by decide +kernel) rfl
theorem lk_L_73 : LKV "MilkDeskLaw" 73 yX11_force.cls yX11_force cX11_force 5 (some .int) 3 := ⟨mw_676, mw_677, mw_678, mw_1, mw_679, by decide +kernel, by decide +kernel, by decide +kernel⟩
theorem mw_1450 : Cond.code yX12_force cX12_force 4 (some .int) ∈ lw_G := lw_Gi 1510 (by decide +kernel) rfl
theorem mw_1448 : Cond.instanceMethod yX12_force ∈ lw_G := lw_Gi 1508 (by decide +kernel) rfl
theorem mw_1449 : Cond.selects yX12_force.cls yX12_force yX12_force ∈ lw_G := lw_Gi 1509 (by decide +kernel) rfl
theorem mw_1447 : Cond.methodLink "MilkDeskLaw" 76 yX12_force ∈ lw_G := lw_Gi 1507 (by decide +kernel) rfl
theorem lk_L_76 : LKV "MilkDeskLaw" 76 yX12_force.cls yX12_force cX12_force 4 (some .int) 3 := ⟨mw_1447, mw_1448, mw_1449, mw_12, mw_1450, by decide +kernel, by decide +kernel, by decide +kernel⟩
theorem mw_696 : Cond.code yX11_holds cX11_holds 5 (some .int) ∈ lw_G := lw_Gi 756 (by decide +kernel) rfl
theorem mw_694 : Cond.instanceMethod yX11_holds ∈ lw_G := lw_Gi 754 (by decide +kernel) rfl
theorem mw_695 : Cond.selects yX11_holds.cls yX11_holds yX11_holds ∈ lw_G := lw_Gi 755 (by decide +kernel) rfl
theorem mw_693 : Cond.methodLink "MilkDeskLaw" 77 yX11_holds ∈ lw_G := lw_Gi 753 (by decide +kernel) rfl
theorem lk_L_77 : LKV "MilkDeskLaw" 77 yX11_holds.cls yX11_holds cX11_holds 5 (some .int) 4 := ⟨mw_693, mw_694, mw_695, mw_1, mw_696, by decide +kernel, by decide +kernel, by decide +kernel⟩
theorem mw_1465 : Cond.code yX12_holds cX12_holds 5 (some .int) ∈ lw_G := lw_Gi 1525 (by decide +kernel) rfl
theorem mw_1463 : Cond.instanceMethod yX12_holds ∈ lw_G := lw_Gi 1523 (by decide +kernel) rfl
theorem mw_1464 : Cond.selects yX12_holds.cls yX12_holds yX12_holds ∈ lw_G := lw_Gi 1524 (by decide +kernel) rfl
theorem mw_1462 : Cond.methodLink "MilkDeskLaw" 80 yX12_holds ∈ lw_G := lw_Gi 1522 (by decide +kernel) rfl
theorem lk_L_80 : LKV "MilkDeskLaw" 80 yX12_holds.cls yX12_holds cX12_holds 5 (some .int) 4 := ⟨mw_1462, mw_1463, mw_1464, mw_12, mw_1465, by decide +kernel, by decide +kernel, by decide +kernel⟩
theorem mw_735 : Cond.code yX11_quarrel cX11_quarrel 7 (some .int) ∈ lw_G := lw_Gi 795 (by decide +kernel) rfl
theorem mw_733 : Cond.instanceMethod yX11_quarrel ∈ lw_G := lw_Gi 793 (by decide +kernel) rfl
theorem mw_734 : Cond.selects yX11_quarrel.cls yX11_quarrel yX11_quarrel ∈ lw_G := lw_Gi 794 (by decide +kernel) rfl
theorem mw_732 : Cond.methodLink "MilkDeskLaw" 81 yX11_quarrel ∈ lw_G := lw_Gi 792 (by decide +kernel) rfl
theorem lk_L_81 : LKV "MilkDeskLaw" 81 yX11_quarrel.cls yX11_quarrel cX11_quarrel 7 (some .int) 4 := ⟨mw_732, mw_733, mw_734, mw_1, mw_735, by decide +kernel, by decide +kernel, by decide +kernel⟩
theorem mw_1477 : Cond.code yX12_quarrel cX12_quarrel 9 (some .int) ∈ lw_G := lw_Gi 1537 (by decide +kernel) rfl
theorem mw_1475 : Cond.instanceMethod yX12_quarrel ∈ lw_G := lw_Gi 1535 (by decide +kernel) rfl
theorem mw_1476 : Cond.selects yX12_quarrel.cls yX12_quarrel yX12_quarrel ∈ lw_G := lw_Gi 1536 (by decide +kernel) rfl
theorem mw_1474 : Cond.methodLink "MilkDeskLaw" 84 yX12_quarrel ∈ lw_G := lw_Gi 1534 (by decide +kernel) rfl
theorem lk_L_84 : LKV "MilkDeskLaw" 84 yX12_quarrel.cls yX12_quarrel cX12_quarrel 9 (some .int) 4 := ⟨mw_1474, mw_1475, mw_1476, mw_12, mw_1477, by decide +kernel, by decide +kernel, by decide +kernel⟩
theorem mw_744 : Cond.code yX11_go cX11_go 2 (some .int) ∈ lw_G := lw_Gi 804 (by decide +kernel) rfl
theorem mw_742 : Cond.instanceMethod yX11_go ∈ lw_G := lw_Gi 802 (by decide +kernel) rfl
theorem mw_743 : Cond.selects yX11_go.cls yX11_go yX11_go ∈ lw_G := lw_Gi 803 (by decide +kernel) rfl
theorem mw_741 : Cond.methodLink "MilkDeskLaw" 85 yX11_go ∈ lw_G := lw_Gi 801 (by decide +kernel) rfl
theorem lk_L_85 : LKV "MilkDeskLaw" 85 yX11_go.cls yX11_go cX11_go 2 (some .int) 1 := ⟨mw_741, mw_742, mw_743, mw_1, mw_744, by decide +kernel, by decide +kernel, by decide +kernel⟩
theorem mw_1485 : Cond.code yX12_go cX12_go 4 (some .int) ∈ lw_G := lw_Gi 1545 (by decide +kernel) rfl
theorem mw_1483 : Cond.instanceMethod yX12_go ∈ lw_G := lw_Gi 1543 (by decide +kernel) rfl
theorem mw_1484 : Cond.selects yX12_go.cls yX12_go yX12_go ∈ lw_G := lw_Gi 1544 (by decide +kernel) rfl
theorem mw_1482 : Cond.methodLink "MilkDeskLaw" 88 yX12_go ∈ lw_G := lw_Gi 1542 (by decide +kernel) rfl
theorem lk_L_88 : LKV "MilkDeskLaw" 88 yX12_go.cls yX12_go cX12_go 4 (some .int) 1 := ⟨mw_1482, mw_1483, mw_1484, mw_12, mw_1485, by decide +kernel, by decide +kernel, by decide +kernel⟩
theorem mw_795 : Cond.code yX11_of cX11_of 3 (some .int) ∈ lw_G := lw_Gi 855 (by decide +kernel) rfl
theorem mw_793 : Cond.instanceMethod yX11_of ∈ lw_G := lw_Gi 853 (by decide +kernel) rfl
theorem mw_794 : Cond.selects yX11_of.cls yX11_of yX11_of ∈ lw_G := lw_Gi 854 (by decide +kernel) rfl
theorem mw_792 : Cond.methodLink "MilkDeskLaw" 89 yX11_of ∈ lw_G := lw_Gi 852 (by decide +kernel) rfl
theorem lk_L_89 : LKV "MilkDeskLaw" 89 yX11_of.cls yX11_of cX11_of 3 (some .int) 2 := ⟨mw_792, mw_793, mw_794, mw_1, mw_795, by decide +kernel, by decide +kernel, by decide +kernel⟩
theorem mw_1515 : Cond.code yX12_of cX12_of 3 (some .int) ∈ lw_G := lw_Gi 1575 (by decide +kernel) rfl
theorem mw_1513 : Cond.instanceMethod yX12_of ∈ lw_G := lw_Gi 1573 (by decide +kernel) rfl
theorem mw_1514 : Cond.selects yX12_of.cls yX12_of yX12_of ∈ lw_G := lw_Gi 1574 (by decide +kernel) rfl
theorem mw_1512 : Cond.methodLink "MilkDeskLaw" 92 yX12_of ∈ lw_G := lw_Gi 1572 (by decide +kernel) rfl
theorem lk_L_92 : LKV "MilkDeskLaw" 92 yX12_of.cls yX12_of cX12_of 3 (some .int) 2 := ⟨mw_1512, mw_1513, mw_1514, mw_12, mw_1515, by decide +kernel, by decide +kernel, by decide +kernel⟩
theorem mw_799 : Cond.code yX11_order cX11_order 2 (some .int) ∈ lw_G := lw_Gi 859 (by decide +kernel) rfl
theorem mw_797 : Cond.instanceMethod yX11_order ∈ lw_G := lw_Gi 857 (by decide +kernel) rfl
theorem mw_798 : Cond.selects yX11_order.cls yX11_order yX11_order ∈ lw_G := lw_Gi 858 (by decide +kernel) rfl
theorem mw_796 : Cond.methodLink "MilkDeskLaw" 93 yX11_order ∈ lw_G := lw_Gi 856 (by decide +kernel) rfl
theorem lk_L_93 : LKV "MilkDeskLaw" 93 yX11_order.cls yX11_order cX11_order 2 (some .int) 1 := ⟨mw_796, mw_797, mw_798, mw_1, mw_799, by decide +kernel, by decide +kernel, by decide +kernel⟩
theorem mw_1519 : Cond.code yX12_order cX12_order 2 (some .int) ∈ lw_G := lw_Gi 1579 (by decide +kernel) rfl
theorem mw_1517 : Cond.instanceMethod yX12_order ∈ lw_G := lw_Gi 1577 (by decide +kernel) rfl
theorem mw_1518 : Cond.selects yX12_order.cls yX12_order yX12_order ∈ lw_G := lw_Gi 1578 (by decide +kernel) rfl
theorem mw_1516 : Cond.methodLink "MilkDeskLaw" 96 yX12_order ∈ lw_G := lw_Gi 1576 (by decide +kernel) rfl
theorem lk_L_96 : LKV "MilkDeskLaw" 96 yX12_order.cls yX12_order cX12_order 2 (some .int) 1 := ⟨mw_1516, mw_1517, mw_1518, mw_12, mw_1519, by decide +kernel, by decide +kernel, by decide +kernel⟩
theorem mw_804 : Cond.code yX11_look cX11_look 4 (some .int) ∈ lw_G := lw_Gi 864 (by decide +kernel) rfl
theorem mw_802 : Cond.instanceMethod yX11_look ∈ lw_G := lw_Gi 862 (by decide +kernel) rfl
theorem mw_803 : Cond.selects yX11_look.cls yX11_look yX11_look ∈ lw_G := lw_Gi 863 (by decide +kernel) rfl
theorem mw_801 : Cond.methodLink "MilkDeskLaw" 97 yX11_look ∈ lw_G := lw_Gi 861 (by decide +kernel) rfl
theorem lk_L_97 : LKV "MilkDeskLaw" 97 yX11_look.cls yX11_look cX11_look 4 (some .int) 3 := ⟨mw_801, mw_802, mw_803, mw_1, mw_804, by decide +kernel, by decide +kernel, by decide +kernel⟩
theorem mw_1523 : Cond.code yX12_look cX12_look 4 (some .int) ∈ lw_G := lw_Gi 1583 (by decide +kernel) rfl
theorem mw_1521 : Cond.instanceMethod yX12_look ∈ lw_G := lw_Gi 1581 (by decide +kernel) rfl
theorem mw_1522 : Cond.selects yX12_look.cls yX12_look yX12_look ∈ lw_G := lw_Gi 1582 (by decide +kernel) rfl
theorem mw_1520 : Cond.methodLink "MilkDeskLaw" 100 yX12_look ∈ lw_G := lw_Gi 1580 (by decide +kernel) rfl
theorem lk_L_100 : LKV "MilkDeskLaw" 100 yX12_look.cls yX12_look cX12_look 4 (some .int) 3 := ⟨mw_1520, mw_1521, mw_1522, mw_12, mw_1523, by decide +kernel, by decide +kernel, by decide +kernel⟩
theorem mw_812 : Cond.code yX11_byHowMuch cX11_byHowMuch 9 (some .int) ∈ lw_G := lw_Gi 872 (by decide +kernel) rfl
theorem mw_810 : Cond.instanceMethod yX11_byHowMuch ∈ lw_G := lw_Gi 870 (by decide +kernel) rfl
theorem mw_811 : Cond.selects yX11_byHowMuch.cls yX11_byHowMuch yX11_byHowMuch ∈ lw_G := lw_Gi 871 (by decide +kernel) rfl
theorem mw_809 : Cond.methodLink "MilkDeskLaw" 101 yX11_byHowMuch ∈ lw_G := lw_Gi 869 (by decide +kernel) rfl
theorem lk_L_101 : LKV "MilkDeskLaw" 101 yX11_byHowMuch.cls yX11_byHowMuch cX11_byHowMuch 9 (some .int) 2 := ⟨mw_809, mw_810, mw_811, mw_1, mw_812, by decide +kernel, by decide +kernel, by decide +kernel⟩
theorem mw_1527 : Cond.code yX12_byHowMuch cX12_byHowMuch 9 (some .int) ∈ lw_G := lw_Gi 1587 (by decide +kernel) rfl
theorem mw_1525 : Cond.instanceMethod yX12_byHowMuch ∈ lw_G := lw_Gi 1585 (by decide +kernel) rfl
theorem mw_1526 : Cond.selects yX12_byHowMuch.cls yX12_byHowMuch yX12_byHowMuch ∈ lw_G := lw_Gi 1586 (by decide +kernel) rfl
theorem mw_1524 : Cond.methodLink "MilkDeskLaw" 104 yX12_byHowMuch ∈ lw_G := lw_Gi 1584 (by decide +kernel) rfl
theorem lk_L_104 : LKV "MilkDeskLaw" 104 yX12_byHowMuch.cls yX12_byHowMuch cX12_byHowMuch 9 (some .int) 2 := ⟨mw_1524, mw_1525, mw_1526, mw_12, mw_1527, by decide +kernel, by decide +kernel, by decide +kernel⟩
theorem mw_824 : Cond.code yX11_round cX11_round 7 (some .int) ∈ lw_G := lw_Gi 884 (by decide +kernel) rfl
theorem mw_822 : Cond.instanceMethod yX11_round ∈ lw_G := lw_Gi 882 (by decide +kernel) rfl
theorem mw_823 : Cond.selects yX11_round.cls yX11_round yX11_round ∈ lw_G := lw_Gi 883 (by decide +kernel) rfl
theorem mw_821 : Cond.methodLink "MilkDeskLaw" 105 yX11_round ∈ lw_G := lw_Gi 881 (by decide +kernel) rfl
theorem lk_L_105 : LKV "MilkDeskLaw" 105 yX11_round.cls yX11_round cX11_round 7 (some .int) 4 := ⟨mw_821, mw_822, mw_823, mw_1, mw_824, by decide +kernel, by decide +kernel, by decide +kernel⟩
theorem mw_1533 : Cond.code yX12_round cX12_round 7 (some .int) ∈ lw_G := lw_Gi 1593 (by decide +kernel) rfl
theorem mw_1531 : Cond.instanceMethod yX12_round ∈ lw_G := lw_Gi 1591 (by decide +kernel) rfl
theorem mw_1532 : Cond.selects yX12_round.cls yX12_round yX12_round ∈ lw_G := lw_Gi 1592 (by decide +kernel) rfl
theorem mw_1530 : Cond.methodLink "MilkDeskLaw" 108 yX12_round ∈ lw_G := lw_Gi 1590 (by decide +kernel) rfl
theorem lk_L_108 : LKV "MilkDeskLaw" 108 yX12_round.cls yX12_round cX12_round 7 (some .int) 4 := ⟨mw_1530, mw_1531, mw_1532, mw_12, mw_1533, by decide +kernel, by decide +kernel, by decide +kernel⟩
theorem mw_860 : Cond.code yX11_judge cX11_judge 6 (some .int) ∈ lw_G := lw_Gi 920 (by decide +kernel) rfl
theorem mw_858 : Cond.instanceMethod yX11_judge ∈ lw_G := lw_Gi 918 (by decide +kernel) rfl
theorem mw_859 : Cond.selects yX11_judge.cls yX11_judge yX11_judge ∈ lw_G := lw_Gi 919 (by decide +kernel) rfl
theorem mw_857 : Cond.methodLink "MilkDeskLaw" 109 yX11_judge ∈ lw_G := lw_Gi 917 (by decide +kernel) rfl
theorem lk_L_109 : LKV "MilkDeskLaw" 109 yX11_judge.cls yX11_judge cX11_judge 6 (some .int) 3 := ⟨mw_857, mw_858, mw_859, mw_1, mw_860, by decide +kernel, by decide +kernel, by decide +kernel⟩
theorem mw_1552 : Cond.code yX12_judge cX12_judge 10 (some .int) ∈ lw_G := lw_Gi 1612 (by decide +kernel) rfl
theorem mw_1550 : Cond.instanceMethod yX12_judge ∈ lw_G := lw_Gi 1610 (by decide +kernel) rfl
theorem mw_1551 : Cond.selects yX12_judge.cls yX12_judge yX12_judge ∈ lw_G := lw_Gi 1611 (by decide +kernel) rfl
theorem mw_1549 : Cond.methodLink "MilkDeskLaw" 112 yX12_judge ∈ lw_G := lw_Gi 1609 (by decide +kernel) rfl
theorem lk_L_112 : LKV "MilkDeskLaw" 112 yX12_judge.cls yX12_judge cX12_judge 10 (some .int) 3 := ⟨mw_1549, mw_1550, mw_1551, mw_12, mw_1552, by decide +kernel, by decide +kernel, by decide +kernel⟩
theorem mw_870 : Cond.code yX11_bought cX11_bought 6 (some .int) ∈ lw_G := lw_Gi 930 (by decide +kernel) rfl
theorem mw_868 : Cond.instanceMethod yX11_bought ∈ lw_G := lw_Gi 928 (by decide +kernel) rfl
theorem mw_869 : Cond.selects yX11_bought.cls yX11_bought yX11_bought ∈ lw_G := lw_Gi 929 (by decide +kernel) rfl
theorem mw_867 : Cond.methodLink "MilkDeskLaw" 113 yX11_bought ∈ lw_G := lw_Gi 927 (by decide +kernel) rfl
theorem lk_L_113 : LKV "MilkDeskLaw" 113 yX11_bought.cls yX11_bought cX11_bought 6 (some .int) 2 := ⟨mw_867, mw_868, mw_869, mw_1, mw_870, by decide +kernel, by decide +kernel, by decide +kernel⟩
theorem mw_1556 : Cond.code yX12_bought cX12_bought 7 (some .int) ∈ lw_G := lw_Gi 1616 (by decide +kernel) rfl
theorem mw_1554 : Cond.instanceMethod yX12_bought ∈ lw_G := lw_Gi 1614 (by decide +kernel) rfl
theorem mw_1555 : Cond.selects yX12_bought.cls yX12_bought yX12_bought ∈ lw_G := lw_Gi 1615 (by decide +kernel) rfl
theorem mw_1553 : Cond.methodLink "MilkDeskLaw" 116 yX12_bought ∈ lw_G := lw_Gi 1613 (by decide +kernel) rfl
theorem lk_L_116 : LKV "MilkDeskLaw" 116 yX12_bought.cls yX12_bought cX12_bought 7 (some .int) 2 := ⟨mw_1553, mw_1554, mw_1555, mw_12, mw_1556, by decide +kernel, by decide +kernel, by decide +kernel⟩
theorem mw_908 : Cond.code yX11_parted cX11_parted 9 (some .int) ∈ lw_G := lw_Gi 968 (by decide +kernel) rfl
theorem mw_906 : Cond.instanceMethod yX11_parted ∈ lw_G := lw_Gi 966 (by decide +kernel) rfl
theorem mw_907 : Cond.selects yX11_parted.cls yX11_parted yX11_parted ∈ lw_G := lw_Gi 967 (by decide +kernel) rfl
theorem mw_905 : Cond.methodLink "MilkDeskLaw" 117 yX11_parted ∈ lw_G := lw_Gi 965 (by decide +kernel) rfl
theorem lk_L_117 : LKV "MilkDeskLaw" 117 yX11_parted.cls yX11_parted cX11_parted 9 (some .int) 4 := ⟨mw_905, mw_906, mw_907, mw_1, mw_908, by decide +kernel, by decide +kernel, by decide +kernel⟩
theorem mw_1572 : Cond.code yX12_parted cX12_parted 11 (some .int) ∈ lw_G := lw_Gi 1632 (by decide +kernel) rfl
theorem mw_1570 : Cond.instanceMethod yX12_parted ∈ lw_G := lw_Gi 1630 (by decide +kernel) rfl
theorem mw_1571 : Cond.selects yX12_parted.cls yX12_parted yX12_parted ∈ lw_G := lw_Gi 1631 (by decide +kernel) rfl
theorem mw_1569 : Cond.methodLink "MilkDeskLaw" 120 yX12_parted ∈ lw_G := lw_Gi 1629 (by decide +kernel) rfl
theorem lk_L_120 : LKV "MilkDeskLaw" 120 yX12_parted.cls yX12_parted cX12_parted 11 (some .int) 4 := ⟨mw_1569, mw_1570, mw_1571, mw_12, mw_1572, by decide +kernel, by decide +kernel, by decide +kernel⟩
theorem mw_922 : Cond.code yX11_away cX11_away 6 (some .int) ∈ lw_G := lw_Gi 982 (by decide +kernel) rfl
theorem mw_920 : Cond.instanceMethod yX11_away ∈ lw_G := lw_Gi 980 (by decide +kernel) rfl
theorem mw_921 : Cond.selects yX11_away.cls yX11_away yX11_away ∈ lw_G := lw_Gi 981 (by decide +kernel) rfl
theorem mw_919 : Cond.methodLink "MilkDeskLaw" 121 yX11_away ∈ lw_G := lw_Gi 979 (by decide +kernel) rfl
theorem lk_L_121 : LKV "MilkDeskLaw" 121 yX11_away.cls yX11_away cX11_away 6 (some .int) 3 := ⟨mw_919, mw_920, mw_921, mw_1, mw_922, by decide +kernel, by decide +kernel, by decide +kernel⟩
theorem mw_1579 : Cond.code yX12_away cX12_away 5 (some .int) ∈ lw_G := lw_Gi 1639 (by decide +kernel) rfl
theorem mw_1577 : Cond.instanceMethod yX12_away ∈ lw_G := lw_Gi 1637 (by decide +kernel) rfl
theorem mw_1578 : Cond.selects yX12_away.cls yX12_away yX12_away ∈ lw_G := lw_Gi 1638 (by decide +kernel) rfl
theorem mw_1576 : Cond.methodLink "MilkDeskLaw" 124 yX12_away ∈ lw_G := lw_Gi 1636 (by decide +kernel) rfl
theorem lk_L_124 : LKV "MilkDeskLaw" 124 yX12_away.cls yX12_away cX12_away 5 (some .int) 3 := ⟨mw_1576, mw_1577, mw_1578, mw_12, mw_1579, by decide +kernel, by decide +kernel, by decide +kernel⟩
theorem mw_931 : Cond.code yX11_beside cX11_beside 10 (some .int) ∈ lw_G := lw_Gi 991 (by decide +kernel) rfl
theorem mw_929 : Cond.instanceMethod yX11_beside ∈ lw_G := lw_Gi 989 (by decide +kernel) rfl
theorem mw_930 : Cond.selects yX11_beside.cls yX11_beside yX11_beside ∈ lw_G := lw_Gi 990 (by decide +kernel) rfl
theorem mw_928 : Cond.methodLink "MilkDeskLaw" 125 yX11_beside ∈ lw_G := lw_Gi 988 (by decide +kernel) rfl
theorem lk_L_125 : LKV "MilkDeskLaw" 125 yX11_beside.cls yX11_beside cX11_beside 10 (some .int) 3 := ⟨mw_928, mw_929, mw_930, mw_1, mw_931, by decide +kernel, by decide +kernel, by decide +kernel⟩
theorem mw_1588 : Cond.code yX12_beside cX12_beside 10 (some .int) ∈ lw_G := lw_Gi 1648 (by decide +kernel) rfl
theorem mw_1586 : Cond.instanceMethod yX12_beside ∈ lw_G := lw_Gi 1646 (by decide +kernel) rfl
theorem mw_1587 : Cond.selects yX12_beside.cls yX12_beside yX12_beside ∈ lw_G := lw_Gi 1647 (by decide +kernel) rfl
theorem mw_1585 : Cond.methodLink "MilkDeskLaw" 128 yX12_beside ∈ lw_G := lw_Gi 1645 (by decide +kernel) rfl
theorem lk_L_128 : LKV "MilkDeskLaw" 128 yX12_beside.cls yX12_beside cX12_beside 10 (some .int) 3 := ⟨mw_1585, mw_1586, mw_1587, mw_12, mw_1588, by decide +kernel, by decide +kernel, by decide +kernel⟩
theorem mw_949 : Cond.code yX11_image cX11_image 1 (some .int) ∈ lw_G := lw_Gi 1009 (by decide +kernel) rfl
theorem mw_947 : Cond.instanceMethod yX11_image ∈ lw_G := lw_Gi 1007 (by decide +kernel) rfl
theorem mw_948 : Cond.selects yX11_image.cls yX11_image yX11_image ∈ lw_G := lw_Gi 1008 (by decide +kernel) rfl
theorem mw_946 : Cond.methodLink "MilkDeskLaw" 129 yX11_image ∈ lw_G := lw_Gi 1006 (by decide +kernel) rfl
theorem lk_L_129 : LKV "MilkDeskLaw" 129 yX11_image.cls yX11_image cX11_image 1 (some .int) 0 := ⟨mw_946, mw_947, mw_948, mw_1, mw_949, by decide +kernel, by decide +kernel, by decide +kernel⟩
theorem mw_1597 : Cond.code yX12_image cX12_image 2 (some .int) ∈ lw_G := lw_Gi 1657 (by decide +kernel) rfl
theorem mw_1595 : Cond.instanceMethod yX12_image ∈ lw_G := lw_Gi 1655 (by decide +kernel) rfl
theorem mw_1596 : Cond.selects yX12_image.cls yX12_image yX12_image ∈ lw_G := lw_Gi 1656 (by decide +kernel) rfl
theorem mw_1594 : Cond.methodLink "MilkDeskLaw" 133 yX12_image ∈ lw_G := lw_Gi 1654 (by decide +kernel) rfl
theorem lk_L_133 : LKV "MilkDeskLaw" 133 yX12_image.cls yX12_image cX12_image 2 (some .int) 0 := ⟨mw_1594, mw_1595, mw_1596, mw_12, mw_1597, by decide +kernel, by decide +kernel, by decide +kernel⟩
theorem mw_953 : Cond.code yX11_restore cX11_restore 1 (some .int) ∈ lw_G := lw_Gi 1013 (by decide +kernel) rfl
theorem mw_951 : Cond.instanceMethod yX11_restore ∈ lw_G := lw_Gi 1011 (by decide +kernel) rfl
theorem mw_952 : Cond.selects yX11_restore.cls yX11_restore yX11_restore ∈ lw_G := lw_Gi 1012 (by decide +kernel) rfl
theorem mw_950 : Cond.methodLink "MilkDeskLaw" 134 yX11_restore ∈ lw_G := lw_Gi 1010 (by decide +kernel) rfl
theorem lk_L_134 : LKV "MilkDeskLaw" 134 yX11_restore.cls yX11_restore cX11_restore 1 (some .int) 0 := ⟨mw_950, mw_951, mw_952, mw_1, mw_953, by decide +kernel, by decide +kernel, by decide +kernel⟩
theorem mw_1601 : Cond.code yX12_restore cX12_restore 2 (some .int) ∈ lw_G := lw_Gi 1661 (by decide +kernel) rfl
theorem mw_1599 : Cond.instanceMethod yX12_restore ∈ lw_G := lw_Gi 1659 (by decide +kernel) rfl
theorem mw_1600 : Cond.selects yX12_restore.cls yX12_restore yX12_restore ∈ lw_G := lw_Gi 1660 (by decide +kernel) rfl
theorem mw_1598 : Cond.methodLink "MilkDeskLaw" 137 yX12_restore ∈ lw_G := lw_Gi 1658 (by decide +kernel) rfl
theorem lk_L_137 : LKV "MilkDeskLaw" 137 yX12_restore.cls yX12_restore cX12_restore 2 (some .int) 0 := ⟨mw_1598, mw_1599, mw_1600, mw_12, mw_1601, by decide +kernel, by decide +kernel, by decide +kernel⟩
theorem mw_957 : Cond.code yX11_count cX11_count 2 (some .int) ∈ lw_G := lw_Gi 1017 (by decide +kernel) rfl
theorem mw_955 : Cond.instanceMethod yX11_count ∈ lw_G := lw_Gi 1015 (by decide +kernel) rfl
theorem mw_956 : Cond.selects yX11_count.cls yX11_count yX11_count ∈ lw_G := lw_Gi 1016 (by decide +kernel) rfl
theorem mw_954 : Cond.methodLink "MilkDeskLaw" 138 yX11_count ∈ lw_G := lw_Gi 1014 (by decide +kernel) rfl
theorem lk_L_138 : LKV "MilkDeskLaw" 138 yX11_count.cls yX11_count cX11_count 2 (some .int) 1 := ⟨mw_954, mw_955, mw_956, mw_1, mw_957, by decide +kernel, by decide +kernel, by decide +kernel⟩
theorem mw_1605 : Cond.code yX12_count cX12_count 4 (some .int) ∈ lw_G := lw_Gi 1665 (by decide +kernel) rfl
theorem mw_1603 : Cond.instanceMethod yX12_count ∈ lw_G := lw_Gi 1663 (by decide +kernel) rfl
theorem mw_1604 : Cond.selects yX12_count.cls yX12_count yX12_count ∈ lw_G := lw_Gi 1664 (by decide +kernel) rfl
theorem mw_1602 : Cond.methodLink "MilkDeskLaw" 141 yX12_count ∈ lw_G := lw_Gi 1662 (by decide +kernel) rfl
theorem lk_L_141 : LKV "MilkDeskLaw" 141 yX12_count.cls yX12_count cX12_count 4 (some .int) 1 := ⟨mw_1602, mw_1603, mw_1604, mw_12, mw_1605, by decide +kernel, by decide +kernel, by decide +kernel⟩
theorem mw_965 : Cond.code yX11_keep cX11_keep 7 (some .int) ∈ lw_G := lw_Gi 1025 (by decide +kernel) rfl
theorem mw_963 : Cond.instanceMethod yX11_keep ∈ lw_G := lw_Gi 1023 (by decide +kernel) rfl
theorem mw_964 : Cond.selects yX11_keep.cls yX11_keep yX11_keep ∈ lw_G := lw_Gi 1024 (by decide +kernel) rfl
theorem mw_962 : Cond.methodLink "MilkDeskLaw" 142 yX11_keep ∈ lw_G := lw_Gi 1022 (by decide +kernel) rfl
theorem lk_L_142 : LKV "MilkDeskLaw" 142 yX11_keep.cls yX11_keep cX11_keep 7 (some .int) 5 := ⟨mw_962, mw_963, mw_964, mw_1, mw_965, by decide +kernel, by decide +kernel, by decide +kernel⟩
theorem mw_1613 : Cond.code yX12_keep cX12_keep 6 (some .int) ∈ lw_G := lw_Gi 1673 (by decide +kernel) rfl
theorem mw_1611 : Cond.instanceMethod yX12_keep ∈ lw_G := lw_Gi 1671 (by decide +kernel) rfl
theorem mw_1612 : Cond.selects yX12_keep.cls yX12_keep yX12_keep ∈ lw_G := lw_Gi 1672 (by decide +kernel) rfl
theorem mw_1610 : Cond.methodLink "MilkDeskLaw" 146 yX12_keep ∈ lw_G := lw_Gi 1670 (by decide +kernel) rfl
theorem lk_L_146 : LKV "MilkDeskLaw" 146 yX12_keep.cls yX12_keep cX12_keep 6 (some .int) 5 := ⟨mw_1610, mw_1611, mw_1612, mw_12, mw_1613, by decide +kernel, by decide +kernel, by decide +kernel⟩
theorem mw_977 : Cond.code yX11_row cX11_row 5 (some .int) ∈ lw_G := lw_Gi 1037 (by decide +kernel) rfl
theorem mw_975 : Cond.instanceMethod yX11_row ∈ lw_G := lw_Gi 1035 (by decide +kernel) rfl
theorem mw_976 : Cond.selects yX11_row.cls yX11_row yX11_row ∈ lw_G := lw_Gi 1036 (by decide +kernel) rfl
theorem mw_974 : Cond.methodLink "MilkDeskLaw" 147 yX11_row ∈ lw_G := lw_Gi 1034 (by decide +kernel) rfl
theorem lk_L_147 : LKV "MilkDeskLaw" 147 yX11_row.cls yX11_row cX11_row 5 (some .int) 3 := ⟨mw_974, mw_975, mw_976, mw_1, mw_977, by decide +kernel, by decide +kernel, by decide +kernel⟩
theorem mw_1617 : Cond.code yX12_row cX12_row 5 (some .int) ∈ lw_G := lw_Gi 1677 (by decide +kernel) rfl
theorem mw_1615 : Cond.instanceMethod yX12_row ∈ lw_G := lw_Gi 1675 (by decide +kernel) rfl
theorem mw_1616 : Cond.selects yX12_row.cls yX12_row yX12_row ∈ lw_G := lw_Gi 1676 (by decide +kernel) rfl
theorem mw_1614 : Cond.methodLink "MilkDeskLaw" 150 yX12_row ∈ lw_G := lw_Gi 1674 (by decide +kernel) rfl
theorem lk_L_150 : LKV "MilkDeskLaw" 150 yX12_row.cls yX12_row cX12_row 5 (some .int) 3 := ⟨mw_1614, mw_1615, mw_1616, mw_12, mw_1617, by decide +kernel, by decide +kernel, by decide +kernel⟩
theorem mw_985 : Cond.code yX11_put cX11_put 6 (some .int) ∈ lw_G := lw_Gi 1045 (by decide +kernel) rfl
theorem mw_983 : Cond.instanceMethod yX11_put ∈ lw_G := lw_Gi 1043 (by decide +kernel) rfl
theorem mw_984 : Cond.selects yX11_put.cls yX11_put yX11_put ∈ lw_G := lw_Gi 1044 (by decide +kernel) rfl
theorem mw_982 : Cond.methodLink "MilkDeskLaw" 151 yX11_put ∈ lw_G := lw_Gi 1042 (by decide +kernel) rfl
theorem lk_L_151 : LKV "MilkDeskLaw" 151 yX11_put.cls yX11_put cX11_put 6 (some .int) 3 := ⟨mw_982, mw_983, mw_984, mw_1, mw_985, by decide +kernel, by decide +kernel, by decide +kernel⟩
theorem mw_1621 : Cond.code yX12_put cX12_put 5 (some .int) ∈ lw_G := lw_Gi 1681 (by decide +kernel) rfl
theorem mw_1619 : Cond.instanceMethod yX12_put ∈ lw_G := lw_Gi 1679 (by decide +kernel) rfl
theorem mw_1620 : Cond.selects yX12_put.cls yX12_put yX12_put ∈ lw_G := lw_Gi 1680 (by decide +kernel) rfl
theorem mw_1618 : Cond.methodLink "MilkDeskLaw" 154 yX12_put ∈ lw_G := lw_Gi 1678 (by decide +kernel) rfl
theorem lk_L_154 : LKV "MilkDeskLaw" 154 yX12_put.cls yX12_put cX12_put 5 (some .int) 3 := ⟨mw_1618, mw_1619, mw_1620, mw_12, mw_1621, by decide +kernel, by decide +kernel, by decide +kernel⟩
theorem mw_994 : Cond.code yX11_copy cX11_copy 8 (some .int) ∈ lw_G := lw_Gi 1054 (by decide +kernel) rfl
theorem mw_992 : Cond.instanceMethod yX11_copy ∈ lw_G := lw_Gi 1052 (by decide +kernel) rfl
theorem mw_993 : Cond.selects yX11_copy.cls yX11_copy yX11_copy ∈ lw_G := lw_Gi 1053 (by decide +kernel) rfl
theorem mw_991 : Cond.methodLink "MilkDeskLaw" 164 yX11_copy ∈ lw_G := lw_Gi 1051 (by decide +kernel) rfl
theorem lk_L_164 : LKV "MilkDeskLaw" 164 yX11_copy.cls yX11_copy cX11_copy 8 (some .int) 5 := ⟨mw_991, mw_992, mw_993, mw_1, mw_994, by decide +kernel, by decide +kernel, by decide +kernel⟩
theorem mw_1636 : Cond.code yX12_copy cX12_copy 7 (some .int) ∈ lw_G := lw_Gi 1696 (by decide +kernel) rfl
theorem mw_1634 : Cond.instanceMethod yX12_copy ∈ lw_G := lw_Gi 1694 (by decide +kernel) rfl
theorem mw_1635 : Cond.selects yX12_copy.cls yX12_copy yX12_copy ∈ lw_G := lw_Gi 1695 (by decide +kernel) rfl
theorem mw_1633 : Cond.methodLink "MilkDeskLaw" 167 yX12_copy ∈ lw_G := lw_Gi 1693 (by decide +kernel) rfl
theorem lk_L_167 : LKV "MilkDeskLaw" 167 yX12_copy.cls yX12_copy cX12_copy 7 (some .int) 5 := ⟨mw_1633, mw_1634, mw_1635, mw_12, mw_1636, by decide +kernel, by decide +kernel, by decide +kernel⟩
theorem mw_1002 : Cond.code yX11_crate cX11_crate 6 (some .int) ∈ lw_G := lw_Gi 1062 (by decide +kernel) rfl
theorem mw_1000 : Cond.instanceMethod yX11_crate ∈ lw_G := lw_Gi 1060 (by decide +kernel) rfl
theorem mw_1001 : Cond.selects yX11_crate.cls yX11_crate yX11_crate ∈ lw_G := lw_Gi 1061 (by decide +kernel) rfl
theorem mw_999 : Cond.methodLink "MilkDeskLaw" 168 yX11_crate ∈ lw_G := lw_Gi 1059 (by decide +kernel) rfl
theorem lk_L_168 : LKV "MilkDeskLaw" 168 yX11_crate.cls yX11_crate cX11_crate 6 (some .int) 3 := ⟨mw_999, mw_1000, mw_1001, mw_1, mw_1002, by decide +kernel, by decide +kernel, by decide +kernel⟩
theorem mw_1640 : Cond.code yX12_crate cX12_crate 6 (some .int) ∈ lw_G := lw_Gi 1700 (by decide +kernel) rfl
theorem mw_1638 : Cond.instanceMethod yX12_crate ∈ lw_G := lw_Gi 1698 (by decide +kernel) rfl
theorem mw_1639 : Cond.selects yX12_crate.cls yX12_crate yX12_crate ∈ lw_G := lw_Gi 1699 (by decide +kernel) rfl
theorem mw_1637 : Cond.methodLink "MilkDeskLaw" 171 yX12_crate ∈ lw_G := lw_Gi 1697 (by decide +kernel) rfl
theorem lk_L_171 : LKV "MilkDeskLaw" 171 yX12_crate.cls yX12_crate cX12_crate 6 (some .int) 3 := ⟨mw_1637, mw_1638, mw_1639, mw_12, mw_1640, by decide +kernel, by decide +kernel, by decide +kernel⟩
theorem mw_1010 : Cond.methodLink "MilkDeskLaw" 172 yX11_toss ∈ lw_G := lw_Gi 1070 (by decide +kernel) rfl
theorem mw_1011 : Cond.instanceMethod yX11_toss ∈ lw_G := lw_Gi 1071 (by decide +kernel) rfl
theorem mw_1012 : Cond.selects yX11_toss.cls yX11_toss yX11_toss ∈ lw_G := lw_Gi 1072 (by decide +kernel) rfl
theorem mw_1648 : Cond.code yX12_toss cX12_toss 3 (some .int) ∈ lw_G := lw_Gi 1708 (by decide +kernel) rfl
theorem mw_1646 : Cond.instanceMethod yX12_toss ∈ lw_G := lw_Gi 1706 (by decide +kernel) rfl
theorem mw_1647 : Cond.selects yX12_toss.cls yX12_toss yX12_toss ∈ lw_G := lw_Gi 1707 (by decide +kernel) rfl
theorem mw_1645 : Cond.methodLink "MilkDeskLaw" 175 yX12_toss ∈ lw_G := lw_Gi 1705 (by decide +kernel) rfl
theorem lk_L_175 : LKV "MilkDeskLaw" 175 yX12_toss.cls yX12_toss cX12_toss 3 (some .int) 1 := ⟨mw_1645, mw_1646, mw_1647, mw_12, mw_1648, by decide +kernel, by decide +kernel, by decide +kernel⟩
theorem mw_1632 : Cond.code yX12_element cX12_element 4 (some .long) ∈ lw_G := lw_Gi 1692 (by decide +kernel) rfl
theorem mw_1630 : Cond.instanceMethod yX12_element ∈ lw_G := lw_Gi 1690 (by decide +kernel) rfl
theorem mw_1631 : Cond.selects yX12_element.cls yX12_element yX12_element ∈ lw_G := lw_Gi 1691 (by decide +kernel) rfl
theorem mw_1629 : Cond.methodLink "MilkDeskLaw" 160 yX12_element ∈ lw_G := lw_Gi 1689 (by decide +kernel) rfl
theorem lk_L_160 : LKV "MilkDeskLaw" 160 yX12_element.cls yX12_element cX12_element 4 (some .long) 2 := ⟨mw_1629, mw_1630, mw_1631, mw_12, mw_1632, by decide +kernel, by decide +kernel, by decide +kernel⟩
theorem mw_1307 : Cond.code yX12_thrown cX12_thrown 1 (some .int) ∈ lw_G := lw_Gi 1367 (by decide +kernel) rfl
theorem mw_1305 : Cond.instanceMethod yX12_thrown ∈ lw_G := lw_Gi 1365 (by decide +kernel) rfl
theorem mw_1306 : Cond.selects yX12_thrown.cls yX12_thrown yX12_thrown ∈ lw_G := lw_Gi 1366 (by decide +kernel) rfl
theorem mw_1304 : Cond.methodLink "MilkDeskLaw" 161 yX12_thrown ∈ lw_G := lw_Gi 1364 (by decide +kernel) rfl
theorem lk_L_161 : LKV "MilkDeskLaw" 161 yX12_thrown.cls yX12_thrown cX12_thrown 1 (some .int) 0 := ⟨mw_1304, mw_1305, mw_1306, mw_12, mw_1307, by decide +kernel, by decide +kernel, by decide +kernel⟩
theorem mw_1122 : Cond.methodLink "MilkDeskLaw" 155 yL_element ∈ lw_G := lw_Gi 1182 (by decide +kernel) rfl
theorem mw_1123 : Cond.static yL_element ∈ lw_G := lw_Gi 1183 (by decide +kernel) rfl
theorem iy_L : Cond.initialized yL_element.cls ∈ lw_G := lw_Gi 60 (by decide +kernel) rfl
theorem law_gV {own : String} {idx : Nat} {y : MethodName} {bytes : ByteArray} {maxL : Nat} {ret : Option FieldType} {hh : List (Nat × Nat × Nat × Nat)} (h1 : Cond.methodLink own idx y ∈ lw_G) (h2 : Cond.instanceMethod y ∈ lw_G) (h3 : Cond.selects y.cls y y ∈ lw_G) (h4 : Cond.initialized y.cls ∈ lw_G) (h5 : Cond.codeWith y bytes maxL ret hh ∈ lw_G) : GoodIn lw_G (wsV own idx y.cls y (Cond.codeWith y bytes maxL ret hh :: lw_G)) := by
  refine lw_Gg (fun w hw => ?_) (fun _ h => h)
  unfold wsV at hw
  rcases List.mem_append.mp hw with h | h
  · simp only [List.mem_cons, List.not_mem_nil, or_false] at h
    rcases h with rfl | rfl | rfl | rfl
    · exact h1
    · exact h2
    · exact h3
    · exact h4
  · rcases List.mem_cons.mp h with rfl | h
    · exact h5
    · exact h
theorem law_gS {own : String} {idx : Nat} {y : MethodName} {bytes : ByteArray} {maxL : Nat} {ret : Option FieldType} {hh : List (Nat × Nat × Nat × Nat)} (h1 : Cond.methodLink own idx y ∈ lw_G) (h2 : Cond.static y ∈ lw_G) (h4 : Cond.initialized y.cls ∈ lw_G) (h5 : Cond.codeWith y bytes maxL ret hh ∈ lw_G) : GoodIn lw_G (va_wsS own idx y (Cond.codeWith y bytes maxL ret hh :: lw_G)) := by
  refine lw_Gg (fun w hw => ?_) (fun _ h => h)
  unfold va_wsS at hw
  rcases List.mem_append.mp hw with h | h
  · simp only [List.mem_cons, List.not_mem_nil, or_false] at h
    rcases h with rfl | rfl | rfl
    · exact h1
    · exact h2
    · exact h4
  · rcases List.mem_cons.mp h with rfl | h
    · exact h5
    · exact h
theorem law_cmp (x : Int64) : lg_cmp x x = 0 := by
  unfold lg_cmp
  simp
set_option maxHeartbeats 4000000 in
set_option maxRecDepth 100000 in
theorem lc_0 {p : Program} {l : Launch} {e : Env} {s : State} {m : MethodId} {below : List Frame} {meth : Method} {c : Code} {b L t : Nat} {xs : Nat → Int32} {G : Gn} {M : Mem} {S9 : Sg} {H : Heap} {locs : List Loc} {ls : Array Slot} (hC : LC p s m c b L xs G) (hi : 6 * t + 6 ≤ L) (hW : WPm G M H) (hR : RCX M S9) (hM : RMX M S9) (hI : IV S9) (hS : va_S (fun q => bs G ≤ q) s.heap H locs) (hl : lv_has ls 8 (LV b G (6 * t))) (tail : TL p l e s m below meth c b G t) : W p l e room_1 s m #[Value.ref b] below meth c H locs (200 + 4 * t) (8000 + 100 * t) (lw_Z below #[Value.ref b] s) (F0 m 200 ls []) := by
  obtain ⟨S, hX, hbl, hbs, hKX, hL⟩ := hC
  have hbs' : bs G ≤ s.heap.size := Nat.le_of_eq hbs
  have hK := hKX.1
  have hx := S.1
  have hb := S.2.1
  refine lv_aload_n hx hb dL_law_200 rfl (lv_at hl 1 rfl) ?_
  refine law_arg 1 hx hb hX hbl hbs hS (lv_at hl 0 rfl) (lv_at hl 4 rfl) hi hL (by decide) ki_1 dL_law_201 dL_law_202 dL_law_204 dL_law_205 dL_law_206 ?_
  refine law_arg 2 hx hb hX hbl hbs hS (lv_at hl 0 rfl) (lv_at hl 4 rfl) hi hL (by decide) ki_2 dL_law_207 dL_law_208 dL_law_210 dL_law_211 dL_law_212 ?_
  refine m_ci0 (m_rV S hKX hW (m_szH hbs' hS) (c_X11_school l (P := fun r M' => r = (sp_school S9 (xs (6 * t + 1)) (xs (6 * t + 2))).1 ∧ RCX M' (sp_school S9 (xs (6 * t + 1)) (xs (6 * t + 2))).2 ∧ RMX M' S9)) (tC_school hR hI.1 (fun M' hs h' => ⟨rfl, h', hM.sameM hs⟩)) lk_L_21 (m_recv hK hW (ci_0 (Nat.le_of_ble_eq_true rfl)) (rc_0 G) rfl) rfl hl.1 rfl ⟨Nat.le_of_ble_eq_true rfl, Nat.le_of_ble_eq_true rfl⟩ (Nat.le_of_ble_eq_true rfl) ⟨law_rc (by omega) (Nat.le_of_ble_eq_true rfl), law_rs (by omega) (Nat.le_of_ble_eq_true rfl)⟩ dL_law_213) hS rfl rfl (fun r1 M1 H locs h1 hW hS => ?_)
  obtain ⟨e1, hR1, hM1⟩ := h1
  refine lv_aload_n hx hb dL_law_216 rfl (lv_at hl 2 rfl) ?_
  refine law_arg 1 hx hb hX hbl hbs hS (lv_at hl 0 rfl) (lv_at hl 4 rfl) hi hL (by decide) ki_1 dL_law_217 dL_law_218 dL_law_220 dL_law_221 dL_law_222 ?_
  refine law_arg 2 hx hb hX hbl hbs hS (lv_at hl 0 rfl) (lv_at hl 4 rfl) hi hL (by decide) ki_2 dL_law_223 dL_law_224 dL_law_226 dL_law_227 dL_law_228 ?_
  refine m_ci0 (m_rV S hKX hW (m_szH hbs' hS) (c_X12_school l (P := fun r M' => r = (sp_school S9 (xs (6 * t + 1)) (xs (6 * t + 2))).1 ∧ RCX M' (sp_school S9 (xs (6 * t + 1)) (xs (6 * t + 2))).2 ∧ RMX M' (sp_school S9 (xs (6 * t + 1)) (xs (6 * t + 2))).2)) (tM_school hM1 hI.1 (fun M' hs h' => ⟨rfl, hR1.sameC hs, h'⟩)) lk_L_25 (m_recv hK hW (ci_10 (Nat.le_of_ble_eq_true rfl)) (rc_10 G) rfl) rfl hl.1 rfl ⟨Nat.le_of_ble_eq_true rfl, Nat.le_of_ble_eq_true rfl⟩ (Nat.le_of_ble_eq_true rfl) ⟨law_rc (by show 200 + 4 * t ≤ 1000; omega) (Nat.le_of_ble_eq_true rfl), law_rs (by show 8000 + 100 * t ≤ 20000; omega) (Nat.le_of_ble_eq_true rfl)⟩ dL_law_229) hS rfl rfl (fun r2 M2 H locs h2 hW hS => ?_)
  obtain ⟨e2, hR2, hM2⟩ := h2
  refine lv_icmp_eq (tgt := 1778) hx hb dL_law_232 (by decide) (fun cz => ?_) (fun cz => absurd (by rw [e1, e2]) cz)
  refine W.widen (k := 200 + 4 * (t + 1)) (n := 8000 + 100 * (t + 1)) (by show 200 + 4 * t ≤ _; omega) (by show 8000 + 100 * t ≤ _; omega) ?_
  exact tail (sp_school S9 (xs (6 * t + 1)) (xs (6 * t + 2))).2 M2 H locs ls (iv_school hI) hR2 hM2 hW hS hl
set_option maxHeartbeats 4000000 in
set_option maxRecDepth 100000 in
theorem lc_1 {p : Program} {l : Launch} {e : Env} {s : State} {m : MethodId} {below : List Frame} {meth : Method} {c : Code} {b L t : Nat} {xs : Nat → Int32} {G : Gn} {M : Mem} {S9 : Sg} {H : Heap} {locs : List Loc} {ls : Array Slot} (hC : LC p s m c b L xs G) (hi : 6 * t + 6 ≤ L) (hW : WPm G M H) (hR : RCX M S9) (hM : RMX M S9) (hI : IV S9) (hS : va_S (fun q => bs G ≤ q) s.heap H locs) (hl : lv_has ls 8 (LV b G (6 * t))) (tail : TL p l e s m below meth c b G t) : W p l e room_1 s m #[Value.ref b] below meth c H locs (200 + 4 * t) (8000 + 100 * t) (lw_Z below #[Value.ref b] s) (F0 m 237 ls []) := by
  obtain ⟨S, hX, hbl, hbs, hKX, hL⟩ := hC
  have hbs' : bs G ≤ s.heap.size := Nat.le_of_eq hbs
  have hK := hKX.1
  have hx := S.1
  have hb := S.2.1
  refine lv_aload_n hx hb dL_law_237 rfl (lv_at hl 1 rfl) ?_
  refine law_arg 1 hx hb hX hbl hbs hS (lv_at hl 0 rfl) (lv_at hl 4 rfl) hi hL (by decide) ki_1 dL_law_238 dL_law_239 dL_law_241 dL_law_242 dL_law_243 ?_
  refine law_arg 2 hx hb hX hbl hbs hS (lv_at hl 0 rfl) (lv_at hl 4 rfl) hi hL (by decide) ki_2 dL_law_244 dL_law_245 dL_law_247 dL_law_248 dL_law_249 ?_
  refine law_arg 3 hx hb hX hbl hbs hS (lv_at hl 0 rfl) (lv_at hl 4 rfl) hi hL (by decide) ki_3 dL_law_250 dL_law_251 dL_law_253 dL_law_254 dL_law_255 ?_
  refine m_ci0 (m_rV S hKX hW (m_szH hbs' hS) (c_X11_set l (P := fun r M' => r = (sp_set S9 (xs (6 * t + 1)) (xs (6 * t + 2)) (xs (6 * t + 3))).1 ∧ RCX M' (sp_set S9 (xs (6 * t + 1)) (xs (6 * t + 2)) (xs (6 * t + 3))).2 ∧ RMX M' S9)) (tC_set hR hI.1 (fun M' hs h' => ⟨rfl, h', hM.sameM hs⟩)) lk_L_26 (m_recv hK hW (ci_0 (Nat.le_of_ble_eq_true rfl)) (rc_0 G) rfl) rfl hl.1 rfl ⟨Nat.le_of_ble_eq_true rfl, Nat.le_of_ble_eq_true rfl⟩ (Nat.le_of_ble_eq_true rfl) ⟨law_rc (by omega) (Nat.le_of_ble_eq_true rfl), law_rs (by omega) (Nat.le_of_ble_eq_true rfl)⟩ dL_law_256) hS rfl rfl (fun r1 M1 H locs h1 hW hS => ?_)
  obtain ⟨e1, hR1, hM1⟩ := h1
  refine lv_aload_n hx hb dL_law_259 rfl (lv_at hl 2 rfl) ?_
  refine law_arg 1 hx hb hX hbl hbs hS (lv_at hl 0 rfl) (lv_at hl 4 rfl) hi hL (by decide) ki_1 dL_law_260 dL_law_261 dL_law_263 dL_law_264 dL_law_265 ?_
  refine law_arg 2 hx hb hX hbl hbs hS (lv_at hl 0 rfl) (lv_at hl 4 rfl) hi hL (by decide) ki_2 dL_law_266 dL_law_267 dL_law_269 dL_law_270 dL_law_271 ?_
  refine law_arg 3 hx hb hX hbl hbs hS (lv_at hl 0 rfl) (lv_at hl 4 rfl) hi hL (by decide) ki_3 dL_law_272 dL_law_273 dL_law_275 dL_law_276 dL_law_277 ?_
  refine m_ci0 (m_rV S hKX hW (m_szH hbs' hS) (c_X12_set l (P := fun r M' => r = (sp_set S9 (xs (6 * t + 1)) (xs (6 * t + 2)) (xs (6 * t + 3))).1 ∧ RCX M' (sp_set S9 (xs (6 * t + 1)) (xs (6 * t + 2)) (xs (6 * t + 3))).2 ∧ RMX M' (sp_set S9 (xs (6 * t + 1)) (xs (6 * t + 2)) (xs (6 * t + 3))).2)) (tM_set hM1 hI.1 (fun M' hs h' => ⟨rfl, hR1.sameC hs, h'⟩)) lk_L_30 (m_recv hK hW (ci_10 (Nat.le_of_ble_eq_true rfl)) (rc_10 G) rfl) rfl hl.1 rfl ⟨Nat.le_of_ble_eq_true rfl, Nat.le_of_ble_eq_true rfl⟩ (Nat.le_of_ble_eq_true rfl) ⟨law_rc (by show 200 + 4 * t ≤ 1000; omega) (Nat.le_of_ble_eq_true rfl), law_rs (by show 8000 + 100 * t ≤ 20000; omega) (Nat.le_of_ble_eq_true rfl)⟩ dL_law_278) hS rfl rfl (fun r2 M2 H locs h2 hW hS => ?_)
  obtain ⟨e2, hR2, hM2⟩ := h2
  refine lv_icmp_eq (tgt := 1778) hx hb dL_law_281 (by decide) (fun cz => ?_) (fun cz => absurd (by rw [e1, e2]) cz)
  refine W.widen (k := 200 + 4 * (t + 1)) (n := 8000 + 100 * (t + 1)) (by show 200 + 4 * t ≤ _; omega) (by show 8000 + 100 * t ≤ _; omega) ?_
  exact tail (sp_set S9 (xs (6 * t + 1)) (xs (6 * t + 2)) (xs (6 * t + 3))).2 M2 H locs ls (iv_set hI) hR2 hM2 hW hS hl
set_option maxHeartbeats 4000000 in
set_option maxRecDepth 100000 in
theorem lc_2 {p : Program} {l : Launch} {e : Env} {s : State} {m : MethodId} {below : List Frame} {meth : Method} {c : Code} {b L t : Nat} {xs : Nat → Int32} {G : Gn} {M : Mem} {S9 : Sg} {H : Heap} {locs : List Loc} {ls : Array Slot} (hC : LC p s m c b L xs G) (hi : 6 * t + 6 ≤ L) (hW : WPm G M H) (hR : RCX M S9) (hM : RMX M S9) (hI : IV S9) (hS : va_S (fun q => bs G ≤ q) s.heap H locs) (hl : lv_has ls 8 (LV b G (6 * t))) (tail : TL p l e s m below meth c b G t) : W p l e room_1 s m #[Value.ref b] below meth c H locs (200 + 4 * t) (8000 + 100 * t) (lw_Z below #[Value.ref b] s) (F0 m 286 ls []) := by
  obtain ⟨S, hX, hbl, hbs, hKX, hL⟩ := hC
  have hbs' : bs G ≤ s.heap.size := Nat.le_of_eq hbs
  have hK := hKX.1
  have hx := S.1
  have hb := S.2.1
  refine lv_aload_n hx hb dL_law_286 rfl (lv_at hl 1 rfl) ?_
  refine law_arg 1 hx hb hX hbl hbs hS (lv_at hl 0 rfl) (lv_at hl 4 rfl) hi hL (by decide) ki_1 dL_law_287 dL_law_288 dL_law_290 dL_law_291 dL_law_292 ?_
  refine law_arg 2 hx hb hX hbl hbs hS (lv_at hl 0 rfl) (lv_at hl 4 rfl) hi hL (by decide) ki_2 dL_law_293 dL_law_294 dL_law_296 dL_law_297 dL_law_298 ?_
  refine law_arg 3 hx hb hX hbl hbs hS (lv_at hl 0 rfl) (lv_at hl 4 rfl) hi hL (by decide) ki_3 dL_law_299 dL_law_300 dL_law_302 dL_law_303 dL_law_304 ?_
  refine m_ci0 (m_rV S hKX hW (m_szH hbs' hS) (c_X11_dairy l (P := fun r M' => r = (sp_dairy S9 (xs (6 * t + 1)) (xs (6 * t + 2)) (xs (6 * t + 3))).1 ∧ RCX M' (sp_dairy S9 (xs (6 * t + 1)) (xs (6 * t + 2)) (xs (6 * t + 3))).2 ∧ RMX M' S9)) (tC_dairy hR hI.1 (fun M' hs h' => ⟨rfl, h', hM.sameM hs⟩)) lk_L_31 (m_recv hK hW (ci_0 (Nat.le_of_ble_eq_true rfl)) (rc_0 G) rfl) rfl hl.1 rfl ⟨Nat.le_of_ble_eq_true rfl, Nat.le_of_ble_eq_true rfl⟩ (Nat.le_of_ble_eq_true rfl) ⟨law_rc (by omega) (Nat.le_of_ble_eq_true rfl), law_rs (by omega) (Nat.le_of_ble_eq_true rfl)⟩ dL_law_305) hS rfl rfl (fun r1 M1 H locs h1 hW hS => ?_)
  obtain ⟨e1, hR1, hM1⟩ := h1
  refine lv_aload_n hx hb dL_law_308 rfl (lv_at hl 2 rfl) ?_
  refine law_arg 1 hx hb hX hbl hbs hS (lv_at hl 0 rfl) (lv_at hl 4 rfl) hi hL (by decide) ki_1 dL_law_309 dL_law_310 dL_law_312 dL_law_313 dL_law_314 ?_
  refine law_arg 2 hx hb hX hbl hbs hS (lv_at hl 0 rfl) (lv_at hl 4 rfl) hi hL (by decide) ki_2 dL_law_315 dL_law_316 dL_law_318 dL_law_319 dL_law_320 ?_
  refine law_arg 3 hx hb hX hbl hbs hS (lv_at hl 0 rfl) (lv_at hl 4 rfl) hi hL (by decide) ki_3 dL_law_321 dL_law_322 dL_law_324 dL_law_325 dL_law_326 ?_
  refine m_ci0 (m_rV S hKX hW (m_szH hbs' hS) (c_X12_dairy l (P := fun r M' => r = (sp_dairy S9 (xs (6 * t + 1)) (xs (6 * t + 2)) (xs (6 * t + 3))).1 ∧ RCX M' (sp_dairy S9 (xs (6 * t + 1)) (xs (6 * t + 2)) (xs (6 * t + 3))).2 ∧ RMX M' (sp_dairy S9 (xs (6 * t + 1)) (xs (6 * t + 2)) (xs (6 * t + 3))).2)) (tM_dairy hM1 hI.1 (fun M' hs h' => ⟨rfl, hR1.sameC hs, h'⟩)) lk_L_34 (m_recv hK hW (ci_10 (Nat.le_of_ble_eq_true rfl)) (rc_10 G) rfl) rfl hl.1 rfl ⟨Nat.le_of_ble_eq_true rfl, Nat.le_of_ble_eq_true rfl⟩ (Nat.le_of_ble_eq_true rfl) ⟨law_rc (by show 200 + 4 * t ≤ 1000; omega) (Nat.le_of_ble_eq_true rfl), law_rs (by show 8000 + 100 * t ≤ 20000; omega) (Nat.le_of_ble_eq_true rfl)⟩ dL_law_327) hS rfl rfl (fun r2 M2 H locs h2 hW hS => ?_)
  obtain ⟨e2, hR2, hM2⟩ := h2
  refine lv_icmp_eq (tgt := 1778) hx hb dL_law_330 (by decide) (fun cz => ?_) (fun cz => absurd (by rw [e1, e2]) cz)
  refine W.widen (k := 200 + 4 * (t + 1)) (n := 8000 + 100 * (t + 1)) (by show 200 + 4 * t ≤ _; omega) (by show 8000 + 100 * t ≤ _; omega) ?_
  exact tail (sp_dairy S9 (xs (6 * t + 1)) (xs (6 * t + 2)) (xs (6 * t + 3))).2 M2 H locs ls (iv_dairy hI) hR2 hM2 hW hS hl
set_option maxHeartbeats 4000000 in
set_option maxRecDepth 100000 in
theorem lc_3 {p : Program} {l : Launch} {e : Env} {s : State} {m : MethodId} {below : List Frame} {meth : Method} {c : Code} {b L t : Nat} {xs : Nat → Int32} {G : Gn} {M : Mem} {S9 : Sg} {H : Heap} {locs : List Loc} {ls : Array Slot} (hC : LC p s m c b L xs G) (hi : 6 * t + 6 ≤ L) (hW : WPm G M H) (hR : RCX M S9) (hM : RMX M S9) (hI : IV S9) (hS : va_S (fun q => bs G ≤ q) s.heap H locs) (hl : lv_has ls 8 (LV b G (6 * t))) (tail : TL p l e s m below meth c b G t) : W p l e room_1 s m #[Value.ref b] below meth c H locs (200 + 4 * t) (8000 + 100 * t) (lw_Z below #[Value.ref b] s) (F0 m 335 ls []) := by
  obtain ⟨S, hX, hbl, hbs, hKX, hL⟩ := hC
  have hbs' : bs G ≤ s.heap.size := Nat.le_of_eq hbs
  have hK := hKX.1
  have hx := S.1
  have hb := S.2.1
  refine lv_aload_n hx hb dL_law_335 rfl (lv_at hl 1 rfl) ?_
  refine law_arg 1 hx hb hX hbl hbs hS (lv_at hl 0 rfl) (lv_at hl 4 rfl) hi hL (by decide) ki_1 dL_law_336 dL_law_337 dL_law_339 dL_law_340 dL_law_341 ?_
  refine law_arg 2 hx hb hX hbl hbs hS (lv_at hl 0 rfl) (lv_at hl 4 rfl) hi hL (by decide) ki_2 dL_law_342 dL_law_343 dL_law_345 dL_law_346 dL_law_347 ?_
  refine law_arg 3 hx hb hX hbl hbs hS (lv_at hl 0 rfl) (lv_at hl 4 rfl) hi hL (by decide) ki_3 dL_law_348 dL_law_349 dL_law_351 dL_law_352 dL_law_353 ?_
  refine m_ci0 (m_rV S hKX hW (m_szH hbs' hS) (c_X11_bid l (P := fun r M' => r = (sp_bid S9 (xs (6 * t + 1)) (xs (6 * t + 2)) (xs (6 * t + 3))).1 ∧ RCX M' (sp_bid S9 (xs (6 * t + 1)) (xs (6 * t + 2)) (xs (6 * t + 3))).2 ∧ RMX M' S9)) (tC_bid hR hI.1 (fun M' hs h' => ⟨rfl, h', hM.sameM hs⟩)) lk_L_35 (m_recv hK hW (ci_0 (Nat.le_of_ble_eq_true rfl)) (rc_0 G) rfl) rfl hl.1 rfl ⟨Nat.le_of_ble_eq_true rfl, Nat.le_of_ble_eq_true rfl⟩ (Nat.le_of_ble_eq_true rfl) ⟨law_rc (by omega) (Nat.le_of_ble_eq_true rfl), law_rs (by omega) (Nat.le_of_ble_eq_true rfl)⟩ dL_law_354) hS rfl rfl (fun r1 M1 H locs h1 hW hS => ?_)
  obtain ⟨e1, hR1, hM1⟩ := h1
  refine lv_aload_n hx hb dL_law_357 rfl (lv_at hl 2 rfl) ?_
  refine law_arg 1 hx hb hX hbl hbs hS (lv_at hl 0 rfl) (lv_at hl 4 rfl) hi hL (by decide) ki_1 dL_law_358 dL_law_359 dL_law_361 dL_law_362 dL_law_363 ?_
  refine law_arg 2 hx hb hX hbl hbs hS (lv_at hl 0 rfl) (lv_at hl 4 rfl) hi hL (by decide) ki_2 dL_law_364 dL_law_365 dL_law_367 dL_law_368 dL_law_369 ?_
  refine law_arg 3 hx hb hX hbl hbs hS (lv_at hl 0 rfl) (lv_at hl 4 rfl) hi hL (by decide) ki_3 dL_law_370 dL_law_371 dL_law_373 dL_law_374 dL_law_375 ?_
  refine m_ci0 (m_rV S hKX hW (m_szH hbs' hS) (c_X12_bid l (P := fun r M' => r = (sp_bid S9 (xs (6 * t + 1)) (xs (6 * t + 2)) (xs (6 * t + 3))).1 ∧ RCX M' (sp_bid S9 (xs (6 * t + 1)) (xs (6 * t + 2)) (xs (6 * t + 3))).2 ∧ RMX M' (sp_bid S9 (xs (6 * t + 1)) (xs (6 * t + 2)) (xs (6 * t + 3))).2)) (tM_bid hM1 hI.1 (fun M' hs h' => ⟨rfl, hR1.sameC hs, h'⟩)) lk_L_38 (m_recv hK hW (ci_10 (Nat.le_of_ble_eq_true rfl)) (rc_10 G) rfl) rfl hl.1 rfl ⟨Nat.le_of_ble_eq_true rfl, Nat.le_of_ble_eq_true rfl⟩ (Nat.le_of_ble_eq_true rfl) ⟨law_rc (by show 200 + 4 * t ≤ 1000; omega) (Nat.le_of_ble_eq_true rfl), law_rs (by show 8000 + 100 * t ≤ 20000; omega) (Nat.le_of_ble_eq_true rfl)⟩ dL_law_376) hS rfl rfl (fun r2 M2 H locs h2 hW hS => ?_)
  obtain ⟨e2, hR2, hM2⟩ := h2
  refine lv_icmp_eq (tgt := 1778) hx hb dL_law_379 (by decide) (fun cz => ?_) (fun cz => absurd (by rw [e1, e2]) cz)
  refine W.widen (k := 200 + 4 * (t + 1)) (n := 8000 + 100 * (t + 1)) (by show 200 + 4 * t ≤ _; omega) (by show 8000 + 100 * t ≤ _; omega) ?_
  exact tail (sp_bid S9 (xs (6 * t + 1)) (xs (6 * t + 2)) (xs (6 * t + 3))).2 M2 H locs ls (iv_bid hI) hR2 hM2 hW hS hl
set_option maxHeartbeats 4000000 in
set_option maxRecDepth 100000 in
theorem lc_4 {p : Program} {l : Launch} {e : Env} {s : State} {m : MethodId} {below : List Frame} {meth : Method} {c : Code} {b L t : Nat} {xs : Nat → Int32} {G : Gn} {M : Mem} {S9 : Sg} {H : Heap} {locs : List Loc} {ls : Array Slot} (hC : LC p s m c b L xs G) (hi : 6 * t + 6 ≤ L) (hW : WPm G M H) (hR : RCX M S9) (hM : RMX M S9) (hI : IV S9) (hS : va_S (fun q => bs G ≤ q) s.heap H locs) (hl : lv_has ls 8 (LV b G (6 * t))) (tail : TL p l e s m below meth c b G t) : W p l e room_1 s m #[Value.ref b] below meth c H locs (200 + 4 * t) (8000 + 100 * t) (lw_Z below #[Value.ref b] s) (F0 m 384 ls []) := by
  obtain ⟨S, hX, hbl, hbs, hKX, hL⟩ := hC
  have hbs' : bs G ≤ s.heap.size := Nat.le_of_eq hbs
  have hK := hKX.1
  have hx := S.1
  have hb := S.2.1
  refine lv_aload_n hx hb dL_law_384 rfl (lv_at hl 1 rfl) ?_
  refine law_arg 1 hx hb hX hbl hbs hS (lv_at hl 0 rfl) (lv_at hl 4 rfl) hi hL (by decide) ki_1 dL_law_385 dL_law_386 dL_law_388 dL_law_389 dL_law_390 ?_
  refine m_ci0 (m_rV S hKX hW (m_szH hbs' hS) (c_X11_won l (P := fun r M' => r = (sp_won S9 (xs (6 * t + 1))) ∧ RCX M' S9 ∧ RMX M' S9)) (tC_won hR hI.1 ⟨rfl, hR, hM⟩) lk_L_39 (m_recv hK hW (ci_0 (Nat.le_of_ble_eq_true rfl)) (rc_0 G) rfl) rfl hl.1 rfl ⟨Nat.le_of_ble_eq_true rfl, Nat.le_of_ble_eq_true rfl⟩ (Nat.le_of_ble_eq_true rfl) ⟨law_rc (by omega) (Nat.le_of_ble_eq_true rfl), law_rs (by omega) (Nat.le_of_ble_eq_true rfl)⟩ dL_law_391) hS rfl rfl (fun r1 M1 H locs h1 hW hS => ?_)
  obtain ⟨e1, hR1, hM1⟩ := h1
  refine lv_aload_n hx hb dL_law_394 rfl (lv_at hl 2 rfl) ?_
  refine law_arg 1 hx hb hX hbl hbs hS (lv_at hl 0 rfl) (lv_at hl 4 rfl) hi hL (by decide) ki_1 dL_law_395 dL_law_396 dL_law_398 dL_law_399 dL_law_400 ?_
  refine m_ci0 (m_rV S hKX hW (m_szH hbs' hS) (c_X12_won l (P := fun r M' => r = (sp_won S9 (xs (6 * t + 1))) ∧ RCX M' S9 ∧ RMX M' S9)) (tM_won hM1 hI.1 (fun M' hs h' => ⟨rfl, hR1.sameC hs, h'⟩)) lk_L_43 (m_recv hK hW (ci_10 (Nat.le_of_ble_eq_true rfl)) (rc_10 G) rfl) rfl hl.1 rfl ⟨Nat.le_of_ble_eq_true rfl, Nat.le_of_ble_eq_true rfl⟩ (Nat.le_of_ble_eq_true rfl) ⟨law_rc (by show 200 + 4 * t ≤ 1000; omega) (Nat.le_of_ble_eq_true rfl), law_rs (by show 8000 + 100 * t ≤ 20000; omega) (Nat.le_of_ble_eq_true rfl)⟩ dL_law_401) hS rfl rfl (fun r2 M2 H locs h2 hW hS => ?_)
  obtain ⟨e2, hR2, hM2⟩ := h2
  refine lv_icmp_eq (tgt := 1778) hx hb dL_law_404 (by decide) (fun cz => ?_) (fun cz => absurd (by rw [e1, e2]) cz)
  refine W.widen (k := 200 + 4 * (t + 1)) (n := 8000 + 100 * (t + 1)) (by show 200 + 4 * t ≤ _; omega) (by show 8000 + 100 * t ≤ _; omega) ?_
  exact tail S9 M2 H locs ls hI hR2 hM2 hW hS hl
set_option maxHeartbeats 4000000 in
set_option maxRecDepth 100000 in
theorem lc_5 {p : Program} {l : Launch} {e : Env} {s : State} {m : MethodId} {below : List Frame} {meth : Method} {c : Code} {b L t : Nat} {xs : Nat → Int32} {G : Gn} {M : Mem} {S9 : Sg} {H : Heap} {locs : List Loc} {ls : Array Slot} (hC : LC p s m c b L xs G) (hi : 6 * t + 6 ≤ L) (hW : WPm G M H) (hR : RCX M S9) (hM : RMX M S9) (hI : IV S9) (hS : va_S (fun q => bs G ≤ q) s.heap H locs) (hl : lv_has ls 8 (LV b G (6 * t))) (tail : TL p l e s m below meth c b G t) : W p l e room_1 s m #[Value.ref b] below meth c H locs (200 + 4 * t) (8000 + 100 * t) (lw_Z below #[Value.ref b] s) (F0 m 409 ls []) := by
  obtain ⟨S, hX, hbl, hbs, hKX, hL⟩ := hC
  have hbs' : bs G ≤ s.heap.size := Nat.le_of_eq hbs
  have hK := hKX.1
  have hx := S.1
  have hb := S.2.1
  refine lv_aload_n hx hb dL_law_409 rfl (lv_at hl 1 rfl) ?_
  refine law_arg 1 hx hb hX hbl hbs hS (lv_at hl 0 rfl) (lv_at hl 4 rfl) hi hL (by decide) ki_1 dL_law_410 dL_law_411 dL_law_413 dL_law_414 dL_law_415 ?_
  refine m_ci0 (m_rV S hKX hW (m_szH hbs' hS) (c_X11_bottles l (P := fun r M' => r = (sp_bottles S9 (xs (6 * t + 1))) ∧ RCX M' S9 ∧ RMX M' S9)) (tC_bottles hR hI.1 ⟨rfl, hR, hM⟩) lk_L_44 (m_recv hK hW (ci_0 (Nat.le_of_ble_eq_true rfl)) (rc_0 G) rfl) rfl hl.1 rfl ⟨Nat.le_of_ble_eq_true rfl, Nat.le_of_ble_eq_true rfl⟩ (Nat.le_of_ble_eq_true rfl) ⟨law_rc (by omega) (Nat.le_of_ble_eq_true rfl), law_rs (by omega) (Nat.le_of_ble_eq_true rfl)⟩ dL_law_416) hS rfl rfl (fun r1 M1 H locs h1 hW hS => ?_)
  obtain ⟨e1, hR1, hM1⟩ := h1
  refine lv_aload_n hx hb dL_law_419 rfl (lv_at hl 2 rfl) ?_
  refine law_arg 1 hx hb hX hbl hbs hS (lv_at hl 0 rfl) (lv_at hl 4 rfl) hi hL (by decide) ki_1 dL_law_420 dL_law_421 dL_law_423 dL_law_424 dL_law_425 ?_
  refine m_ci0 (m_rV S hKX hW (m_szH hbs' hS) (c_X12_bottles l (P := fun r M' => r = (sp_bottles S9 (xs (6 * t + 1))) ∧ RCX M' S9 ∧ RMX M' S9)) (tM_bottles hM1 hI.1 (fun M' hs h' => ⟨rfl, hR1.sameC hs, h'⟩)) lk_L_47 (m_recv hK hW (ci_10 (Nat.le_of_ble_eq_true rfl)) (rc_10 G) rfl) rfl hl.1 rfl ⟨Nat.le_of_ble_eq_true rfl, Nat.le_of_ble_eq_true rfl⟩ (Nat.le_of_ble_eq_true rfl) ⟨law_rc (by show 200 + 4 * t ≤ 1000; omega) (Nat.le_of_ble_eq_true rfl), law_rs (by show 8000 + 100 * t ≤ 20000; omega) (Nat.le_of_ble_eq_true rfl)⟩ dL_law_426) hS rfl rfl (fun r2 M2 H locs h2 hW hS => ?_)
  obtain ⟨e2, hR2, hM2⟩ := h2
  refine lv_icmp_eq (tgt := 1778) hx hb dL_law_429 (by decide) (fun cz => ?_) (fun cz => absurd (by rw [e1, e2]) cz)
  refine W.widen (k := 200 + 4 * (t + 1)) (n := 8000 + 100 * (t + 1)) (by show 200 + 4 * t ≤ _; omega) (by show 8000 + 100 * t ≤ _; omega) ?_
  exact tail S9 M2 H locs ls hI hR2 hM2 hW hS hl
set_option maxHeartbeats 4000000 in
set_option maxRecDepth 100000 in
theorem lc_6 {p : Program} {l : Launch} {e : Env} {s : State} {m : MethodId} {below : List Frame} {meth : Method} {c : Code} {b L t : Nat} {xs : Nat → Int32} {G : Gn} {M : Mem} {S9 : Sg} {H : Heap} {locs : List Loc} {ls : Array Slot} (hC : LC p s m c b L xs G) (hi : 6 * t + 6 ≤ L) (hW : WPm G M H) (hR : RCX M S9) (hM : RMX M S9) (hI : IV S9) (hS : va_S (fun q => bs G ≤ q) s.heap H locs) (hl : lv_has ls 8 (LV b G (6 * t))) (tail : TL p l e s m below meth c b G t) : W p l e room_1 s m #[Value.ref b] below meth c H locs (200 + 4 * t) (8000 + 100 * t) (lw_Z below #[Value.ref b] s) (F0 m 434 ls []) := by
  obtain ⟨S, hX, hbl, hbs, hKX, hL⟩ := hC
  have hbs' : bs G ≤ s.heap.size := Nat.le_of_eq hbs
  have hK := hKX.1
  have hx := S.1
  have hb := S.2.1
  refine lv_aload_n hx hb dL_law_434 rfl (lv_at hl 1 rfl) ?_
  refine law_arg 1 hx hb hX hbl hbs hS (lv_at hl 0 rfl) (lv_at hl 4 rfl) hi hL (by decide) ki_1 dL_law_435 dL_law_436 dL_law_438 dL_law_439 dL_law_440 ?_
  refine law_arg 2 hx hb hX hbl hbs hS (lv_at hl 0 rfl) (lv_at hl 4 rfl) hi hL (by decide) ki_2 dL_law_441 dL_law_442 dL_law_444 dL_law_445 dL_law_446 ?_
  refine law_arg 3 hx hb hX hbl hbs hS (lv_at hl 0 rfl) (lv_at hl 4 rfl) hi hL (by decide) ki_3 dL_law_447 dL_law_448 dL_law_450 dL_law_451 dL_law_452 ?_
  refine m_ci0 (m_rV S hKX hW (m_szH hbs' hS) (c_X11_month l (P := fun r M' => r = (sp_month S9 (xs (6 * t + 1)) (xs (6 * t + 2)) (xs (6 * t + 3))).1 ∧ RCX M' (sp_month S9 (xs (6 * t + 1)) (xs (6 * t + 2)) (xs (6 * t + 3))).2 ∧ RMX M' S9)) (tC_month hR (fun M' hs h' => ⟨rfl, h', hM.sameM hs⟩)) lk_L_48 (m_recv hK hW (ci_0 (Nat.le_of_ble_eq_true rfl)) (rc_0 G) rfl) rfl hl.1 rfl ⟨Nat.le_of_ble_eq_true rfl, Nat.le_of_ble_eq_true rfl⟩ (Nat.le_of_ble_eq_true rfl) ⟨law_rc (by omega) (Nat.le_of_ble_eq_true rfl), law_rs (by omega) (Nat.le_of_ble_eq_true rfl)⟩ dL_law_453) hS rfl rfl (fun r1 M1 H locs h1 hW hS => ?_)
  obtain ⟨e1, hR1, hM1⟩ := h1
  refine lv_aload_n hx hb dL_law_456 rfl (lv_at hl 2 rfl) ?_
  refine law_arg 1 hx hb hX hbl hbs hS (lv_at hl 0 rfl) (lv_at hl 4 rfl) hi hL (by decide) ki_1 dL_law_457 dL_law_458 dL_law_460 dL_law_461 dL_law_462 ?_
  refine law_arg 2 hx hb hX hbl hbs hS (lv_at hl 0 rfl) (lv_at hl 4 rfl) hi hL (by decide) ki_2 dL_law_463 dL_law_464 dL_law_466 dL_law_467 dL_law_468 ?_
  refine law_arg 3 hx hb hX hbl hbs hS (lv_at hl 0 rfl) (lv_at hl 4 rfl) hi hL (by decide) ki_3 dL_law_469 dL_law_470 dL_law_472 dL_law_473 dL_law_474 ?_
  refine m_ci0 (m_rV S hKX hW (m_szH hbs' hS) (c_X12_month l (P := fun r M' => r = (sp_month S9 (xs (6 * t + 1)) (xs (6 * t + 2)) (xs (6 * t + 3))).1 ∧ RCX M' (sp_month S9 (xs (6 * t + 1)) (xs (6 * t + 2)) (xs (6 * t + 3))).2 ∧ RMX M' (sp_month S9 (xs (6 * t + 1)) (xs (6 * t + 2)) (xs (6 * t + 3))).2)) (tM_month hM1 hI.1 (fun M' hs h' => ⟨rfl, hR1.sameC hs, h'⟩)) lk_L_51 (m_recv hK hW (ci_10 (Nat.le_of_ble_eq_true rfl)) (rc_10 G) rfl) rfl hl.1 rfl ⟨Nat.le_of_ble_eq_true rfl, Nat.le_of_ble_eq_true rfl⟩ (Nat.le_of_ble_eq_true rfl) ⟨law_rc (by show 200 + 4 * t ≤ 1000; omega) (Nat.le_of_ble_eq_true rfl), law_rs (by show 8000 + 100 * t ≤ 20000; omega) (Nat.le_of_ble_eq_true rfl)⟩ dL_law_475) hS rfl rfl (fun r2 M2 H locs h2 hW hS => ?_)
  obtain ⟨e2, hR2, hM2⟩ := h2
  refine lv_icmp_eq (tgt := 1778) hx hb dL_law_478 (by decide) (fun cz => ?_) (fun cz => absurd (by rw [e1, e2]) cz)
  refine W.widen (k := 200 + 4 * (t + 1)) (n := 8000 + 100 * (t + 1)) (by show 200 + 4 * t ≤ _; omega) (by show 8000 + 100 * t ≤ _; omega) ?_
  exact tail (sp_month S9 (xs (6 * t + 1)) (xs (6 * t + 2)) (xs (6 * t + 3))).2 M2 H locs ls (iv_month hI) hR2 hM2 hW hS hl
set_option maxHeartbeats 4000000 in
set_option maxRecDepth 100000 in
theorem lc_7 {p : Program} {l : Launch} {e : Env} {s : State} {m : MethodId} {below : List Frame} {meth : Method} {c : Code} {b L t : Nat} {xs : Nat → Int32} {G : Gn} {M : Mem} {S9 : Sg} {H : Heap} {locs : List Loc} {ls : Array Slot} (hC : LC p s m c b L xs G) (hi : 6 * t + 6 ≤ L) (hW : WPm G M H) (hR : RCX M S9) (hM : RMX M S9) (hI : IV S9) (hS : va_S (fun q => bs G ≤ q) s.heap H locs) (hl : lv_has ls 8 (LV b G (6 * t))) (tail : TL p l e s m below meth c b G t) : W p l e room_1 s m #[Value.ref b] below meth c H locs (200 + 4 * t) (8000 + 100 * t) (lw_Z below #[Value.ref b] s) (F0 m 483 ls []) := by
  obtain ⟨S, hX, hbl, hbs, hKX, hL⟩ := hC
  have hbs' : bs G ≤ s.heap.size := Nat.le_of_eq hbs
  have hK := hKX.1
  have hx := S.1
  have hb := S.2.1
  refine lv_aload_n hx hb dL_law_483 rfl (lv_at hl 1 rfl) ?_
  refine law_arg 1 hx hb hX hbl hbs hS (lv_at hl 0 rfl) (lv_at hl 4 rfl) hi hL (by decide) ki_1 dL_law_484 dL_law_485 dL_law_487 dL_law_488 dL_law_489 ?_
  refine law_arg 2 hx hb hX hbl hbs hS (lv_at hl 0 rfl) (lv_at hl 4 rfl) hi hL (by decide) ki_2 dL_law_490 dL_law_491 dL_law_493 dL_law_494 dL_law_495 ?_
  refine m_ci0 (m_rV S hKX hW (m_szH hbs' hS) (c_X11_heads l (P := fun r M' => r = (sp_heads S9 (xs (6 * t + 1)) (xs (6 * t + 2))).1 ∧ RCX M' (sp_heads S9 (xs (6 * t + 1)) (xs (6 * t + 2))).2 ∧ RMX M' S9)) (tC_heads hR hI.1 (fun M' hs h' => ⟨rfl, h', hM.sameM hs⟩)) lk_L_52 (m_recv hK hW (ci_0 (Nat.le_of_ble_eq_true rfl)) (rc_0 G) rfl) rfl hl.1 rfl ⟨Nat.le_of_ble_eq_true rfl, Nat.le_of_ble_eq_true rfl⟩ (Nat.le_of_ble_eq_true rfl) ⟨law_rc (by omega) (Nat.le_of_ble_eq_true rfl), law_rs (by omega) (Nat.le_of_ble_eq_true rfl)⟩ dL_law_496) hS rfl rfl (fun r1 M1 H locs h1 hW hS => ?_)
  obtain ⟨e1, hR1, hM1⟩ := h1
  refine lv_aload_n hx hb dL_law_499 rfl (lv_at hl 2 rfl) ?_
  refine law_arg 1 hx hb hX hbl hbs hS (lv_at hl 0 rfl) (lv_at hl 4 rfl) hi hL (by decide) ki_1 dL_law_500 dL_law_501 dL_law_503 dL_law_504 dL_law_505 ?_
  refine law_arg 2 hx hb hX hbl hbs hS (lv_at hl 0 rfl) (lv_at hl 4 rfl) hi hL (by decide) ki_2 dL_law_506 dL_law_507 dL_law_509 dL_law_510 dL_law_511 ?_
  refine m_ci0 (m_rV S hKX hW (m_szH hbs' hS) (c_X12_heads l (P := fun r M' => r = (sp_heads S9 (xs (6 * t + 1)) (xs (6 * t + 2))).1 ∧ RCX M' (sp_heads S9 (xs (6 * t + 1)) (xs (6 * t + 2))).2 ∧ RMX M' (sp_heads S9 (xs (6 * t + 1)) (xs (6 * t + 2))).2)) (tM_heads hM1 hI.1 (fun M' hs h' => ⟨rfl, hR1.sameC hs, h'⟩)) lk_L_55 (m_recv hK hW (ci_10 (Nat.le_of_ble_eq_true rfl)) (rc_10 G) rfl) rfl hl.1 rfl ⟨Nat.le_of_ble_eq_true rfl, Nat.le_of_ble_eq_true rfl⟩ (Nat.le_of_ble_eq_true rfl) ⟨law_rc (by show 200 + 4 * t ≤ 1000; omega) (Nat.le_of_ble_eq_true rfl), law_rs (by show 8000 + 100 * t ≤ 20000; omega) (Nat.le_of_ble_eq_true rfl)⟩ dL_law_512) hS rfl rfl (fun r2 M2 H locs h2 hW hS => ?_)
  obtain ⟨e2, hR2, hM2⟩ := h2
  refine lv_icmp_eq (tgt := 1778) hx hb dL_law_515 (by decide) (fun cz => ?_) (fun cz => absurd (by rw [e1, e2]) cz)
  refine W.widen (k := 200 + 4 * (t + 1)) (n := 8000 + 100 * (t + 1)) (by show 200 + 4 * t ≤ _; omega) (by show 8000 + 100 * t ≤ _; omega) ?_
  exact tail (sp_heads S9 (xs (6 * t + 1)) (xs (6 * t + 2))).2 M2 H locs ls (iv_heads hI) hR2 hM2 hW hS hl
set_option maxHeartbeats 4000000 in
set_option maxRecDepth 100000 in
theorem lc_8 {p : Program} {l : Launch} {e : Env} {s : State} {m : MethodId} {below : List Frame} {meth : Method} {c : Code} {b L t : Nat} {xs : Nat → Int32} {G : Gn} {M : Mem} {S9 : Sg} {H : Heap} {locs : List Loc} {ls : Array Slot} (hC : LC p s m c b L xs G) (hi : 6 * t + 6 ≤ L) (hW : WPm G M H) (hR : RCX M S9) (hM : RMX M S9) (hI : IV S9) (hS : va_S (fun q => bs G ≤ q) s.heap H locs) (hl : lv_has ls 8 (LV b G (6 * t))) (tail : TL p l e s m below meth c b G t) : W p l e room_1 s m #[Value.ref b] below meth c H locs (200 + 4 * t) (8000 + 100 * t) (lw_Z below #[Value.ref b] s) (F0 m 520 ls []) := by
  obtain ⟨S, hX, hbl, hbs, hKX, hL⟩ := hC
  have hbs' : bs G ≤ s.heap.size := Nat.le_of_eq hbs
  have hK := hKX.1
  have hx := S.1
  have hb := S.2.1
  refine lv_aload_n hx hb dL_law_520 rfl (lv_at hl 1 rfl) ?_
  refine law_arg 1 hx hb hX hbl hbs hS (lv_at hl 0 rfl) (lv_at hl 4 rfl) hi hL (by decide) ki_1 dL_law_521 dL_law_522 dL_law_524 dL_law_525 dL_law_526 ?_
  refine law_arg 2 hx hb hX hbl hbs hS (lv_at hl 0 rfl) (lv_at hl 4 rfl) hi hL (by decide) ki_2 dL_law_527 dL_law_528 dL_law_530 dL_law_531 dL_law_532 ?_
  refine law_arg 3 hx hb hX hbl hbs hS (lv_at hl 0 rfl) (lv_at hl 4 rfl) hi hL (by decide) ki_3 dL_law_533 dL_law_534 dL_law_536 dL_law_537 dL_law_538 ?_
  refine law_arg 4 hx hb hX hbl hbs hS (lv_at hl 0 rfl) (lv_at hl 4 rfl) hi hL (by decide) ki_4 dL_law_539 dL_law_540 dL_law_542 dL_law_543 dL_law_544 ?_
  refine m_ci0 (m_rV S hKX hW (m_szH hbs' hS) (c_X11_head l (P := fun r M' => r = (sp_head S9 (xs (6 * t + 1)) (xs (6 * t + 2)) (xs (6 * t + 3)) (xs (6 * t + 4))) ∧ RCX M' S9 ∧ RMX M' S9)) (tC_head hR hI.1 ⟨rfl, hR, hM⟩) lk_L_56 (m_recv hK hW (ci_0 (Nat.le_of_ble_eq_true rfl)) (rc_0 G) rfl) rfl hl.1 rfl ⟨Nat.le_of_ble_eq_true rfl, Nat.le_of_ble_eq_true rfl⟩ (Nat.le_of_ble_eq_true rfl) ⟨law_rc (by omega) (Nat.le_of_ble_eq_true rfl), law_rs (by omega) (Nat.le_of_ble_eq_true rfl)⟩ dL_law_545) hS rfl rfl (fun r1 M1 H locs h1 hW hS => ?_)
  obtain ⟨e1, hR1, hM1⟩ := h1
  refine lv_aload_n hx hb dL_law_548 rfl (lv_at hl 2 rfl) ?_
  refine law_arg 1 hx hb hX hbl hbs hS (lv_at hl 0 rfl) (lv_at hl 4 rfl) hi hL (by decide) ki_1 dL_law_549 dL_law_550 dL_law_552 dL_law_553 dL_law_554 ?_
  refine law_arg 2 hx hb hX hbl hbs hS (lv_at hl 0 rfl) (lv_at hl 4 rfl) hi hL (by decide) ki_2 dL_law_555 dL_law_556 dL_law_558 dL_law_559 dL_law_560 ?_
  refine law_arg 3 hx hb hX hbl hbs hS (lv_at hl 0 rfl) (lv_at hl 4 rfl) hi hL (by decide) ki_3 dL_law_561 dL_law_562 dL_law_564 dL_law_565 dL_law_566 ?_
  refine law_arg 4 hx hb hX hbl hbs hS (lv_at hl 0 rfl) (lv_at hl 4 rfl) hi hL (by decide) ki_4 dL_law_567 dL_law_568 dL_law_570 dL_law_571 dL_law_572 ?_
  refine m_ci0 (m_rV S hKX hW (m_szH hbs' hS) (c_X12_head l (P := fun r M' => r = (sp_head S9 (xs (6 * t + 1)) (xs (6 * t + 2)) (xs (6 * t + 3)) (xs (6 * t + 4))) ∧ RCX M' S9 ∧ RMX M' S9)) (tM_head hM1 hI.1 (fun M' hs h' => ⟨rfl, hR1.sameC hs, h'⟩)) lk_L_60 (m_recv hK hW (ci_10 (Nat.le_of_ble_eq_true rfl)) (rc_10 G) rfl) rfl hl.1 rfl ⟨Nat.le_of_ble_eq_true rfl, Nat.le_of_ble_eq_true rfl⟩ (Nat.le_of_ble_eq_true rfl) ⟨law_rc (by show 200 + 4 * t ≤ 1000; omega) (Nat.le_of_ble_eq_true rfl), law_rs (by show 8000 + 100 * t ≤ 20000; omega) (Nat.le_of_ble_eq_true rfl)⟩ dL_law_573) hS rfl rfl (fun r2 M2 H locs h2 hW hS => ?_)
  obtain ⟨e2, hR2, hM2⟩ := h2
  refine lv_icmp_eq (tgt := 1778) hx hb dL_law_576 (by decide) (fun cz => ?_) (fun cz => absurd (by rw [e1, e2]) cz)
  refine W.widen (k := 200 + 4 * (t + 1)) (n := 8000 + 100 * (t + 1)) (by show 200 + 4 * t ≤ _; omega) (by show 8000 + 100 * t ≤ _; omega) ?_
  exact tail S9 M2 H locs ls hI hR2 hM2 hW hS hl
set_option maxHeartbeats 4000000 in
set_option maxRecDepth 100000 in
theorem lc_9 {p : Program} {l : Launch} {e : Env} {s : State} {m : MethodId} {below : List Frame} {meth : Method} {c : Code} {b L t : Nat} {xs : Nat → Int32} {G : Gn} {M : Mem} {S9 : Sg} {H : Heap} {locs : List Loc} {ls : Array Slot} (hC : LC p s m c b L xs G) (hi : 6 * t + 6 ≤ L) (hW : WPm G M H) (hR : RCX M S9) (hM : RMX M S9) (hI : IV S9) (hS : va_S (fun q => bs G ≤ q) s.heap H locs) (hl : lv_has ls 8 (LV b G (6 * t))) (tail : TL p l e s m below meth c b G t) : W p l e room_1 s m #[Value.ref b] below meth c H locs (200 + 4 * t) (8000 + 100 * t) (lw_Z below #[Value.ref b] s) (F0 m 581 ls []) := by
  obtain ⟨S, hX, hbl, hbs, hKX, hL⟩ := hC
  have hbs' : bs G ≤ s.heap.size := Nat.le_of_eq hbs
  have hK := hKX.1
  have hx := S.1
  have hb := S.2.1
  refine lv_aload_n hx hb dL_law_581 rfl (lv_at hl 1 rfl) ?_
  refine law_arg 1 hx hb hX hbl hbs hS (lv_at hl 0 rfl) (lv_at hl 4 rfl) hi hL (by decide) ki_1 dL_law_582 dL_law_583 dL_law_585 dL_law_586 dL_law_587 ?_
  refine m_ci0 (m_rV S hKX hW (m_szH hbs' hS) (c_X11_fault l (P := fun r M' => r = (sp_fault S9 (xs (6 * t + 1))) ∧ RCX M' S9 ∧ RMX M' S9)) (tC_fault hR hI.1 (fun M' hs h' => ⟨rfl, h', hM.sameM hs⟩)) lk_L_61 (m_recv hK hW (ci_0 (Nat.le_of_ble_eq_true rfl)) (rc_0 G) rfl) rfl hl.1 rfl ⟨Nat.le_of_ble_eq_true rfl, Nat.le_of_ble_eq_true rfl⟩ (Nat.le_of_ble_eq_true rfl) ⟨law_rc (by omega) (Nat.le_of_ble_eq_true rfl), law_rs (by omega) (Nat.le_of_ble_eq_true rfl)⟩ dL_law_588) hS rfl rfl (fun r1 M1 H locs h1 hW hS => ?_)
  obtain ⟨e1, hR1, hM1⟩ := h1
  refine lv_aload_n hx hb dL_law_591 rfl (lv_at hl 2 rfl) ?_
  refine law_arg 1 hx hb hX hbl hbs hS (lv_at hl 0 rfl) (lv_at hl 4 rfl) hi hL (by decide) ki_1 dL_law_592 dL_law_593 dL_law_595 dL_law_596 dL_law_597 ?_
  refine m_ci0 (m_rV S hKX hW (m_szH hbs' hS) (c_X12_fault l (P := fun r M' => r = (sp_fault S9 (xs (6 * t + 1))) ∧ RCX M' S9 ∧ RMX M' S9)) (tM_fault hM1 hI.1 (fun M' hs h' => ⟨rfl, hR1.sameC hs, h'⟩)) lk_L_64 (m_recv hK hW (ci_10 (Nat.le_of_ble_eq_true rfl)) (rc_10 G) rfl) rfl hl.1 rfl ⟨Nat.le_of_ble_eq_true rfl, Nat.le_of_ble_eq_true rfl⟩ (Nat.le_of_ble_eq_true rfl) ⟨law_rc (by show 200 + 4 * t ≤ 1000; omega) (Nat.le_of_ble_eq_true rfl), law_rs (by show 8000 + 100 * t ≤ 20000; omega) (Nat.le_of_ble_eq_true rfl)⟩ dL_law_598) hS rfl rfl (fun r2 M2 H locs h2 hW hS => ?_)
  obtain ⟨e2, hR2, hM2⟩ := h2
  refine lv_icmp_eq (tgt := 1778) hx hb dL_law_601 (by decide) (fun cz => ?_) (fun cz => absurd (by rw [e1, e2]) cz)
  refine W.widen (k := 200 + 4 * (t + 1)) (n := 8000 + 100 * (t + 1)) (by show 200 + 4 * t ≤ _; omega) (by show 8000 + 100 * t ≤ _; omega) ?_
  exact tail S9 M2 H locs ls hI hR2 hM2 hW hS hl
set_option maxHeartbeats 4000000 in
set_option maxRecDepth 100000 in
theorem lc_10 {p : Program} {l : Launch} {e : Env} {s : State} {m : MethodId} {below : List Frame} {meth : Method} {c : Code} {b L t : Nat} {xs : Nat → Int32} {G : Gn} {M : Mem} {S9 : Sg} {H : Heap} {locs : List Loc} {ls : Array Slot} (hC : LC p s m c b L xs G) (hi : 6 * t + 6 ≤ L) (hW : WPm G M H) (hR : RCX M S9) (hM : RMX M S9) (hI : IV S9) (hS : va_S (fun q => bs G ≤ q) s.heap H locs) (hl : lv_has ls 8 (LV b G (6 * t))) (tail : TL p l e s m below meth c b G t) : W p l e room_1 s m #[Value.ref b] below meth c H locs (200 + 4 * t) (8000 + 100 * t) (lw_Z below #[Value.ref b] s) (F0 m 606 ls []) := by
  obtain ⟨S, hX, hbl, hbs, hKX, hL⟩ := hC
  have hbs' : bs G ≤ s.heap.size := Nat.le_of_eq hbs
  have hK := hKX.1
  have hx := S.1
  have hb := S.2.1
  refine lv_aload_n hx hb dL_law_606 rfl (lv_at hl 1 rfl) ?_
  refine law_arg 1 hx hb hX hbl hbs hS (lv_at hl 0 rfl) (lv_at hl 4 rfl) hi hL (by decide) ki_1 dL_law_607 dL_law_608 dL_law_610 dL_law_611 dL_law_612 ?_
  refine law_arg 2 hx hb hX hbl hbs hS (lv_at hl 0 rfl) (lv_at hl 4 rfl) hi hL (by decide) ki_2 dL_law_613 dL_law_614 dL_law_616 dL_law_617 dL_law_618 ?_
  refine law_arg 3 hx hb hX hbl hbs hS (lv_at hl 0 rfl) (lv_at hl 4 rfl) hi hL (by decide) ki_3 dL_law_619 dL_law_620 dL_law_622 dL_law_623 dL_law_624 ?_
  refine m_ci (m_rV S hKX hW (m_szH hbs' hS) (c_X11_act l (P := fun r M' => r = (sp_act S9 (xs (6 * t + 1)) (xs (6 * t + 2)) (xs (6 * t + 3))).1 ∧ RCX M' (sp_act S9 (xs (6 * t + 1)) (xs (6 * t + 2)) (xs (6 * t + 3))).2 ∧ RMX M' S9)) (tC_act hR hI.1 (fun M' hs h' => ⟨rfl, h', hM.sameM hs⟩)) lk_L_65 (m_recv hK hW (ci_0 (Nat.le_of_ble_eq_true rfl)) (rc_0 G) rfl) rfl hl.1 rfl ⟨Nat.le_of_ble_eq_true rfl, Nat.le_of_ble_eq_true rfl⟩ (Nat.le_of_ble_eq_true rfl) ⟨law_rc (by omega) (Nat.le_of_ble_eq_true rfl), law_rs (by omega) (Nat.le_of_ble_eq_true rfl)⟩ dL_law_625) hS (fun r1 M1 H locs h1 hW hS => ?_)
  obtain ⟨e1, hR1, hM1⟩ := h1
  refine lv_aload_n hx hb dL_law_628 rfl (lv_at hl 2 rfl) ?_
  refine law_arg 1 hx hb hX hbl hbs hS (lv_at hl 0 rfl) (lv_at hl 4 rfl) hi hL (by decide) ki_1 dL_law_629 dL_law_630 dL_law_632 dL_law_633 dL_law_634 ?_
  refine law_arg 2 hx hb hX hbl hbs hS (lv_at hl 0 rfl) (lv_at hl 4 rfl) hi hL (by decide) ki_2 dL_law_635 dL_law_636 dL_law_638 dL_law_639 dL_law_640 ?_
  refine law_arg 3 hx hb hX hbl hbs hS (lv_at hl 0 rfl) (lv_at hl 4 rfl) hi hL (by decide) ki_3 dL_law_641 dL_law_642 dL_law_644 dL_law_645 dL_law_646 ?_
  refine m_ci0 (m_rV S hKX hW (m_szH hbs' hS) (c_X12_act l (P := fun r M' => r = (sp_act S9 (xs (6 * t + 1)) (xs (6 * t + 2)) (xs (6 * t + 3))).1 ∧ RCX M' (sp_act S9 (xs (6 * t + 1)) (xs (6 * t + 2)) (xs (6 * t + 3))).2 ∧ RMX M' (sp_act S9 (xs (6 * t + 1)) (xs (6 * t + 2)) (xs (6 * t + 3))).2)) (tM_act hM1 hI.1 (fun M' hs h' => ⟨rfl, hR1.sameC hs, h'⟩)) lk_L_68 (m_recv hK hW (ci_10 (Nat.le_of_ble_eq_true rfl)) (rc_10 G) rfl) rfl hl.1 rfl ⟨Nat.le_of_ble_eq_true rfl, Nat.le_of_ble_eq_true rfl⟩ (Nat.le_of_ble_eq_true rfl) ⟨law_rc (by show 200 + 4 * t + 2 ≤ 1000; omega) (Nat.le_of_ble_eq_true rfl), law_rs (by show 8000 + 100 * t + 84 ≤ 20000; omega) (Nat.le_of_ble_eq_true rfl)⟩ dL_law_647) hS rfl rfl (fun r2 M2 H locs h2 hW hS => ?_)
  obtain ⟨e2, hR2, hM2⟩ := h2
  refine lv_icmp_eq (tgt := 1778) hx hb dL_law_650 (by decide) (fun cz => ?_) (fun cz => absurd (by rw [e1, e2]) cz)
  refine W.widen (k := 200 + 4 * (t + 1)) (n := 8000 + 100 * (t + 1)) (by show 200 + 4 * t + 2 ≤ _; omega) (by show 8000 + 100 * t + 84 ≤ _; omega) ?_
  exact tail (sp_act S9 (xs (6 * t + 1)) (xs (6 * t + 2)) (xs (6 * t + 3))).2 M2 H locs ls (iv_act hI) hR2 hM2 hW hS hl
set_option maxHeartbeats 4000000 in
set_option maxRecDepth 100000 in
theorem lc_11 {p : Program} {l : Launch} {e : Env} {s : State} {m : MethodId} {below : List Frame} {meth : Method} {c : Code} {b L t : Nat} {xs : Nat → Int32} {G : Gn} {M : Mem} {S9 : Sg} {H : Heap} {locs : List Loc} {ls : Array Slot} (hC : LC p s m c b L xs G) (hi : 6 * t + 6 ≤ L) (hW : WPm G M H) (hR : RCX M S9) (hM : RMX M S9) (hI : IV S9) (hS : va_S (fun q => bs G ≤ q) s.heap H locs) (hl : lv_has ls 8 (LV b G (6 * t))) (tail : TL p l e s m below meth c b G t) : W p l e room_1 s m #[Value.ref b] below meth c H locs (200 + 4 * t) (8000 + 100 * t) (lw_Z below #[Value.ref b] s) (F0 m 655 ls []) := by
  obtain ⟨S, hX, hbl, hbs, hKX, hL⟩ := hC
  have hbs' : bs G ≤ s.heap.size := Nat.le_of_eq hbs
  have hK := hKX.1
  have hx := S.1
  have hb := S.2.1
  refine lv_aload_n hx hb dL_law_655 rfl (lv_at hl 1 rfl) ?_
  refine law_arg 1 hx hb hX hbl hbs hS (lv_at hl 0 rfl) (lv_at hl 4 rfl) hi hL (by decide) ki_1 dL_law_656 dL_law_657 dL_law_659 dL_law_660 dL_law_661 ?_
  refine law_arg 2 hx hb hX hbl hbs hS (lv_at hl 0 rfl) (lv_at hl 4 rfl) hi hL (by decide) ki_2 dL_law_662 dL_law_663 dL_law_665 dL_law_666 dL_law_667 ?_
  refine m_ci0 (m_rV S hKX hW (m_szH hbs' hS) (c_X11_strike l (P := fun r M' => r = (sp_strike S9 (xs (6 * t + 1)) (xs (6 * t + 2))).1 ∧ RCX M' (sp_strike S9 (xs (6 * t + 1)) (xs (6 * t + 2))).2 ∧ RMX M' S9)) (tC_strike hR hI.1 (fun M' hs h' => ⟨rfl, h', hM.sameM hs⟩)) lk_L_69 (m_recv hK hW (ci_0 (Nat.le_of_ble_eq_true rfl)) (rc_0 G) rfl) rfl hl.1 rfl ⟨Nat.le_of_ble_eq_true rfl, Nat.le_of_ble_eq_true rfl⟩ (Nat.le_of_ble_eq_true rfl) ⟨law_rc (by omega) (Nat.le_of_ble_eq_true rfl), law_rs (by omega) (Nat.le_of_ble_eq_true rfl)⟩ dL_law_668) hS rfl rfl (fun r1 M1 H locs h1 hW hS => ?_)
  obtain ⟨e1, hR1, hM1⟩ := h1
  refine lv_aload_n hx hb dL_law_671 rfl (lv_at hl 2 rfl) ?_
  refine law_arg 1 hx hb hX hbl hbs hS (lv_at hl 0 rfl) (lv_at hl 4 rfl) hi hL (by decide) ki_1 dL_law_672 dL_law_673 dL_law_675 dL_law_676 dL_law_677 ?_
  refine law_arg 2 hx hb hX hbl hbs hS (lv_at hl 0 rfl) (lv_at hl 4 rfl) hi hL (by decide) ki_2 dL_law_678 dL_law_679 dL_law_681 dL_law_682 dL_law_683 ?_
  refine m_ci0 (m_rV S hKX hW (m_szH hbs' hS) (c_X12_strike l (P := fun r M' => r = (sp_strike S9 (xs (6 * t + 1)) (xs (6 * t + 2))).1 ∧ RCX M' (sp_strike S9 (xs (6 * t + 1)) (xs (6 * t + 2))).2 ∧ RMX M' (sp_strike S9 (xs (6 * t + 1)) (xs (6 * t + 2))).2)) (tM_strike hM1 hI.1 (fun M' hs h' => ⟨rfl, hR1.sameC hs, h'⟩)) lk_L_72 (m_recv hK hW (ci_10 (Nat.le_of_ble_eq_true rfl)) (rc_10 G) rfl) rfl hl.1 rfl ⟨Nat.le_of_ble_eq_true rfl, Nat.le_of_ble_eq_true rfl⟩ (Nat.le_of_ble_eq_true rfl) ⟨law_rc (by show 200 + 4 * t ≤ 1000; omega) (Nat.le_of_ble_eq_true rfl), law_rs (by show 8000 + 100 * t ≤ 20000; omega) (Nat.le_of_ble_eq_true rfl)⟩ dL_law_684) hS rfl rfl (fun r2 M2 H locs h2 hW hS => ?_)
  obtain ⟨e2, hR2, hM2⟩ := h2
  refine lv_icmp_eq (tgt := 1778) hx hb dL_law_687 (by decide) (fun cz => ?_) (fun cz => absurd (by rw [e1, e2]) cz)
  refine W.widen (k := 200 + 4 * (t + 1)) (n := 8000 + 100 * (t + 1)) (by show 200 + 4 * t ≤ _; omega) (by show 8000 + 100 * t ≤ _; omega) ?_
  exact tail (sp_strike S9 (xs (6 * t + 1)) (xs (6 * t + 2))).2 M2 H locs ls (iv_strike hI) hR2 hM2 hW hS hl
set_option maxHeartbeats 4000000 in
set_option maxRecDepth 100000 in
theorem lc_12 {p : Program} {l : Launch} {e : Env} {s : State} {m : MethodId} {below : List Frame} {meth : Method} {c : Code} {b L t : Nat} {xs : Nat → Int32} {G : Gn} {M : Mem} {S9 : Sg} {H : Heap} {locs : List Loc} {ls : Array Slot} (hC : LC p s m c b L xs G) (hi : 6 * t + 6 ≤ L) (hW : WPm G M H) (hR : RCX M S9) (hM : RMX M S9) (hI : IV S9) (hS : va_S (fun q => bs G ≤ q) s.heap H locs) (hl : lv_has ls 8 (LV b G (6 * t))) (tail : TL p l e s m below meth c b G t) : W p l e room_1 s m #[Value.ref b] below meth c H locs (200 + 4 * t) (8000 + 100 * t) (lw_Z below #[Value.ref b] s) (F0 m 692 ls []) := by
  obtain ⟨S, hX, hbl, hbs, hKX, hL⟩ := hC
  have hbs' : bs G ≤ s.heap.size := Nat.le_of_eq hbs
  have hK := hKX.1
  have hx := S.1
  have hb := S.2.1
  refine lv_aload_n hx hb dL_law_692 rfl (lv_at hl 1 rfl) ?_
  refine law_arg 1 hx hb hX hbl hbs hS (lv_at hl 0 rfl) (lv_at hl 4 rfl) hi hL (by decide) ki_1 dL_law_693 dL_law_694 dL_law_696 dL_law_697 dL_law_698 ?_
  refine law_arg 2 hx hb hX hbl hbs hS (lv_at hl 0 rfl) (lv_at hl 4 rfl) hi hL (by decide) ki_2 dL_law_699 dL_law_700 dL_law_702 dL_law_703 dL_law_704 ?_
  refine law_arg 3 hx hb hX hbl hbs hS (lv_at hl 0 rfl) (lv_at hl 4 rfl) hi hL (by decide) ki_3 dL_law_705 dL_law_706 dL_law_708 dL_law_709 dL_law_710 ?_
  refine m_ci0 (m_rV S hKX hW (m_szH hbs' hS) (c_X11_force l (P := fun r M' => r = (sp_force S9 (xs (6 * t + 1)) (xs (6 * t + 2)) (xs (6 * t + 3))) ∧ RCX M' S9 ∧ RMX M' S9)) (tC_force hR hI.1 ⟨rfl, hR, hM⟩) lk_L_73 (m_recv hK hW (ci_0 (Nat.le_of_ble_eq_true rfl)) (rc_0 G) rfl) rfl hl.1 rfl ⟨Nat.le_of_ble_eq_true rfl, Nat.le_of_ble_eq_true rfl⟩ (Nat.le_of_ble_eq_true rfl) ⟨law_rc (by omega) (Nat.le_of_ble_eq_true rfl), law_rs (by omega) (Nat.le_of_ble_eq_true rfl)⟩ dL_law_711) hS rfl rfl (fun r1 M1 H locs h1 hW hS => ?_)
  obtain ⟨e1, hR1, hM1⟩ := h1
  refine lv_aload_n hx hb dL_law_714 rfl (lv_at hl 2 rfl) ?_
  refine law_arg 1 hx hb hX hbl hbs hS (lv_at hl 0 rfl) (lv_at hl 4 rfl) hi hL (by decide) ki_1 dL_law_715 dL_law_716 dL_law_718 dL_law_719 dL_law_720 ?_
  refine law_arg 2 hx hb hX hbl hbs hS (lv_at hl 0 rfl) (lv_at hl 4 rfl) hi hL (by decide) ki_2 dL_law_721 dL_law_722 dL_law_724 dL_law_725 dL_law_726 ?_
  refine law_arg 3 hx hb hX hbl hbs hS (lv_at hl 0 rfl) (lv_at hl 4 rfl) hi hL (by decide) ki_3 dL_law_727 dL_law_728 dL_law_730 dL_law_731 dL_law_732 ?_
  refine m_ci0 (m_rV S hKX hW (m_szH hbs' hS) (c_X12_force l (P := fun r M' => r = (sp_force S9 (xs (6 * t + 1)) (xs (6 * t + 2)) (xs (6 * t + 3))) ∧ RCX M' S9 ∧ RMX M' S9)) (tM_force hM1 hI.1 hI.2.1.1 (fun M' hs h' => ⟨rfl, hR1.sameC hs, h'⟩)) lk_L_76 (m_recv hK hW (ci_10 (Nat.le_of_ble_eq_true rfl)) (rc_10 G) rfl) rfl hl.1 rfl ⟨Nat.le_of_ble_eq_true rfl, Nat.le_of_ble_eq_true rfl⟩ (Nat.le_of_ble_eq_true rfl) ⟨law_rc (by show 200 + 4 * t ≤ 1000; omega) (Nat.le_of_ble_eq_true rfl), law_rs (by show 8000 + 100 * t ≤ 20000; omega) (Nat.le_of_ble_eq_true rfl)⟩ dL_law_733) hS rfl rfl (fun r2 M2 H locs h2 hW hS => ?_)
  obtain ⟨e2, hR2, hM2⟩ := h2
  refine lv_icmp_eq (tgt := 1778) hx hb dL_law_736 (by decide) (fun cz => ?_) (fun cz => absurd (by rw [e1, e2]) cz)
  refine W.widen (k := 200 + 4 * (t + 1)) (n := 8000 + 100 * (t + 1)) (by show 200 + 4 * t ≤ _; omega) (by show 8000 + 100 * t ≤ _; omega) ?_
  exact tail S9 M2 H locs ls hI hR2 hM2 hW hS hl
set_option maxHeartbeats 4000000 in
set_option maxRecDepth 100000 in
theorem lc_13 {p : Program} {l : Launch} {e : Env} {s : State} {m : MethodId} {below : List Frame} {meth : Method} {c : Code} {b L t : Nat} {xs : Nat → Int32} {G : Gn} {M : Mem} {S9 : Sg} {H : Heap} {locs : List Loc} {ls : Array Slot} (hC : LC p s m c b L xs G) (hi : 6 * t + 6 ≤ L) (hW : WPm G M H) (hR : RCX M S9) (hM : RMX M S9) (hI : IV S9) (hS : va_S (fun q => bs G ≤ q) s.heap H locs) (hl : lv_has ls 8 (LV b G (6 * t))) (tail : TL p l e s m below meth c b G t) : W p l e room_1 s m #[Value.ref b] below meth c H locs (200 + 4 * t) (8000 + 100 * t) (lw_Z below #[Value.ref b] s) (F0 m 741 ls []) := by
  obtain ⟨S, hX, hbl, hbs, hKX, hL⟩ := hC
  have hbs' : bs G ≤ s.heap.size := Nat.le_of_eq hbs
  have hK := hKX.1
  have hx := S.1
  have hb := S.2.1
  refine lv_aload_n hx hb dL_law_741 rfl (lv_at hl 1 rfl) ?_
  refine law_arg 1 hx hb hX hbl hbs hS (lv_at hl 0 rfl) (lv_at hl 4 rfl) hi hL (by decide) ki_1 dL_law_742 dL_law_743 dL_law_745 dL_law_746 dL_law_747 ?_
  refine law_arg 2 hx hb hX hbl hbs hS (lv_at hl 0 rfl) (lv_at hl 4 rfl) hi hL (by decide) ki_2 dL_law_748 dL_law_749 dL_law_751 dL_law_752 dL_law_753 ?_
  refine law_arg 3 hx hb hX hbl hbs hS (lv_at hl 0 rfl) (lv_at hl 4 rfl) hi hL (by decide) ki_3 dL_law_754 dL_law_755 dL_law_757 dL_law_758 dL_law_759 ?_
  refine law_arg 4 hx hb hX hbl hbs hS (lv_at hl 0 rfl) (lv_at hl 4 rfl) hi hL (by decide) ki_4 dL_law_760 dL_law_761 dL_law_763 dL_law_764 dL_law_765 ?_
  refine m_ci0 (m_rV S hKX hW (m_szH hbs' hS) (c_X11_holds l (P := fun r M' => r = (sp_holds S9 (xs (6 * t + 1)) (xs (6 * t + 2)) (xs (6 * t + 3)) (xs (6 * t + 4))) ∧ RCX M' S9 ∧ RMX M' S9)) (tC_holds hR hI.1 (fun M' hs h' => ⟨rfl, h', hM.sameM hs⟩)) lk_L_77 (m_recv hK hW (ci_0 (Nat.le_of_ble_eq_true rfl)) (rc_0 G) rfl) rfl hl.1 rfl ⟨Nat.le_of_ble_eq_true rfl, Nat.le_of_ble_eq_true rfl⟩ (Nat.le_of_ble_eq_true rfl) ⟨law_rc (by omega) (Nat.le_of_ble_eq_true rfl), law_rs (by omega) (Nat.le_of_ble_eq_true rfl)⟩ dL_law_766) hS rfl rfl (fun r1 M1 H locs h1 hW hS => ?_)
  obtain ⟨e1, hR1, hM1⟩ := h1
  refine lv_aload_n hx hb dL_law_769 rfl (lv_at hl 2 rfl) ?_
  refine law_arg 1 hx hb hX hbl hbs hS (lv_at hl 0 rfl) (lv_at hl 4 rfl) hi hL (by decide) ki_1 dL_law_770 dL_law_771 dL_law_773 dL_law_774 dL_law_775 ?_
  refine law_arg 2 hx hb hX hbl hbs hS (lv_at hl 0 rfl) (lv_at hl 4 rfl) hi hL (by decide) ki_2 dL_law_776 dL_law_777 dL_law_779 dL_law_780 dL_law_781 ?_
  refine law_arg 3 hx hb hX hbl hbs hS (lv_at hl 0 rfl) (lv_at hl 4 rfl) hi hL (by decide) ki_3 dL_law_782 dL_law_783 dL_law_785 dL_law_786 dL_law_787 ?_
  refine law_arg 4 hx hb hX hbl hbs hS (lv_at hl 0 rfl) (lv_at hl 4 rfl) hi hL (by decide) ki_4 dL_law_788 dL_law_789 dL_law_791 dL_law_792 dL_law_793 ?_
  refine m_ci0 (m_rV S hKX hW (m_szH hbs' hS) (c_X12_holds l (P := fun r M' => r = (sp_holds S9 (xs (6 * t + 1)) (xs (6 * t + 2)) (xs (6 * t + 3)) (xs (6 * t + 4))) ∧ RCX M' S9 ∧ RMX M' S9)) (tM_holds hM1 hI.1 hI.2.1 (fun M' hs h' => ⟨rfl, hR1.sameC hs, h'⟩)) lk_L_80 (m_recv hK hW (ci_10 (Nat.le_of_ble_eq_true rfl)) (rc_10 G) rfl) rfl hl.1 rfl ⟨Nat.le_of_ble_eq_true rfl, Nat.le_of_ble_eq_true rfl⟩ (Nat.le_of_ble_eq_true rfl) ⟨law_rc (by show 200 + 4 * t ≤ 1000; omega) (Nat.le_of_ble_eq_true rfl), law_rs (by show 8000 + 100 * t ≤ 20000; omega) (Nat.le_of_ble_eq_true rfl)⟩ dL_law_794) hS rfl rfl (fun r2 M2 H locs h2 hW hS => ?_)
  obtain ⟨e2, hR2, hM2⟩ := h2
  refine lv_icmp_eq (tgt := 1778) hx hb dL_law_797 (by decide) (fun cz => ?_) (fun cz => absurd (by rw [e1, e2]) cz)
  refine W.widen (k := 200 + 4 * (t + 1)) (n := 8000 + 100 * (t + 1)) (by show 200 + 4 * t ≤ _; omega) (by show 8000 + 100 * t ≤ _; omega) ?_
  exact tail S9 M2 H locs ls hI hR2 hM2 hW hS hl
set_option maxHeartbeats 4000000 in
set_option maxRecDepth 100000 in
theorem lc_14 {p : Program} {l : Launch} {e : Env} {s : State} {m : MethodId} {below : List Frame} {meth : Method} {c : Code} {b L t : Nat} {xs : Nat → Int32} {G : Gn} {M : Mem} {S9 : Sg} {H : Heap} {locs : List Loc} {ls : Array Slot} (hC : LC p s m c b L xs G) (hi : 6 * t + 6 ≤ L) (hW : WPm G M H) (hR : RCX M S9) (hM : RMX M S9) (hI : IV S9) (hS : va_S (fun q => bs G ≤ q) s.heap H locs) (hl : lv_has ls 8 (LV b G (6 * t))) (tail : TL p l e s m below meth c b G t) : W p l e room_1 s m #[Value.ref b] below meth c H locs (200 + 4 * t) (8000 + 100 * t) (lw_Z below #[Value.ref b] s) (F0 m 802 ls []) := by
  obtain ⟨S, hX, hbl, hbs, hKX, hL⟩ := hC
  have hbs' : bs G ≤ s.heap.size := Nat.le_of_eq hbs
  have hK := hKX.1
  have hx := S.1
  have hb := S.2.1
  refine lv_aload_n hx hb dL_law_802 rfl (lv_at hl 1 rfl) ?_
  refine law_arg 1 hx hb hX hbl hbs hS (lv_at hl 0 rfl) (lv_at hl 4 rfl) hi hL (by decide) ki_1 dL_law_803 dL_law_804 dL_law_806 dL_law_807 dL_law_808 ?_
  refine law_arg 2 hx hb hX hbl hbs hS (lv_at hl 0 rfl) (lv_at hl 4 rfl) hi hL (by decide) ki_2 dL_law_809 dL_law_810 dL_law_812 dL_law_813 dL_law_814 ?_
  refine law_arg 3 hx hb hX hbl hbs hS (lv_at hl 0 rfl) (lv_at hl 4 rfl) hi hL (by decide) ki_3 dL_law_815 dL_law_816 dL_law_818 dL_law_819 dL_law_820 ?_
  refine law_arg 4 hx hb hX hbl hbs hS (lv_at hl 0 rfl) (lv_at hl 4 rfl) hi hL (by decide) ki_4 dL_law_821 dL_law_822 dL_law_824 dL_law_825 dL_law_826 ?_
  refine m_ci0 (m_rV S hKX hW (m_szH hbs' hS) (c_X11_quarrel l (P := fun r M' => r = (sp_quarrel S9 (xs (6 * t + 1)) (xs (6 * t + 2)) (xs (6 * t + 3)) (xs (6 * t + 4))) ∧ RCX M' S9 ∧ RMX M' S9)) (tC_quarrel hR hI.1 (fun M' hs h' => ⟨rfl, h', hM.sameM hs⟩)) lk_L_81 (m_recv hK hW (ci_0 (Nat.le_of_ble_eq_true rfl)) (rc_0 G) rfl) rfl hl.1 rfl ⟨Nat.le_of_ble_eq_true rfl, Nat.le_of_ble_eq_true rfl⟩ (Nat.le_of_ble_eq_true rfl) ⟨law_rc (by omega) (Nat.le_of_ble_eq_true rfl), law_rs (by omega) (Nat.le_of_ble_eq_true rfl)⟩ dL_law_827) hS rfl rfl (fun r1 M1 H locs h1 hW hS => ?_)
  obtain ⟨e1, hR1, hM1⟩ := h1
  refine lv_aload_n hx hb dL_law_830 rfl (lv_at hl 2 rfl) ?_
  refine law_arg 1 hx hb hX hbl hbs hS (lv_at hl 0 rfl) (lv_at hl 4 rfl) hi hL (by decide) ki_1 dL_law_831 dL_law_832 dL_law_834 dL_law_835 dL_law_836 ?_
  refine law_arg 2 hx hb hX hbl hbs hS (lv_at hl 0 rfl) (lv_at hl 4 rfl) hi hL (by decide) ki_2 dL_law_837 dL_law_838 dL_law_840 dL_law_841 dL_law_842 ?_
  refine law_arg 3 hx hb hX hbl hbs hS (lv_at hl 0 rfl) (lv_at hl 4 rfl) hi hL (by decide) ki_3 dL_law_843 dL_law_844 dL_law_846 dL_law_847 dL_law_848 ?_
  refine law_arg 4 hx hb hX hbl hbs hS (lv_at hl 0 rfl) (lv_at hl 4 rfl) hi hL (by decide) ki_4 dL_law_849 dL_law_850 dL_law_852 dL_law_853 dL_law_854 ?_
  refine m_ci0 (m_rV S hKX hW (m_szH hbs' hS) (c_X12_quarrel l (P := fun r M' => r = (sp_quarrel S9 (xs (6 * t + 1)) (xs (6 * t + 2)) (xs (6 * t + 3)) (xs (6 * t + 4))) ∧ RCX M' S9 ∧ RMX M' S9)) (tM_quarrel hM1 hI.1 hI.2.1 (fun M' hs h' => ⟨rfl, hR1.sameC hs, h'⟩)) lk_L_84 (m_recv hK hW (ci_10 (Nat.le_of_ble_eq_true rfl)) (rc_10 G) rfl) rfl hl.1 rfl ⟨Nat.le_of_ble_eq_true rfl, Nat.le_of_ble_eq_true rfl⟩ (Nat.le_of_ble_eq_true rfl) ⟨law_rc (by show 200 + 4 * t ≤ 1000; omega) (Nat.le_of_ble_eq_true rfl), law_rs (by show 8000 + 100 * t ≤ 20000; omega) (Nat.le_of_ble_eq_true rfl)⟩ dL_law_855) hS rfl rfl (fun r2 M2 H locs h2 hW hS => ?_)
  obtain ⟨e2, hR2, hM2⟩ := h2
  refine lv_icmp_eq (tgt := 1778) hx hb dL_law_858 (by decide) (fun cz => ?_) (fun cz => absurd (by rw [e1, e2]) cz)
  refine W.widen (k := 200 + 4 * (t + 1)) (n := 8000 + 100 * (t + 1)) (by show 200 + 4 * t ≤ _; omega) (by show 8000 + 100 * t ≤ _; omega) ?_
  exact tail S9 M2 H locs ls hI hR2 hM2 hW hS hl
set_option maxHeartbeats 4000000 in
set_option maxRecDepth 100000 in
theorem lc_15 {p : Program} {l : Launch} {e : Env} {s : State} {m : MethodId} {below : List Frame} {meth : Method} {c : Code} {b L t : Nat} {xs : Nat → Int32} {G : Gn} {M : Mem} {S9 : Sg} {H : Heap} {locs : List Loc} {ls : Array Slot} (hC : LC p s m c b L xs G) (hi : 6 * t + 6 ≤ L) (hW : WPm G M H) (hR : RCX M S9) (hM : RMX M S9) (hI : IV S9) (hS : va_S (fun q => bs G ≤ q) s.heap H locs) (hl : lv_has ls 8 (LV b G (6 * t))) (tail : TL p l e s m below meth c b G t) : W p l e room_1 s m #[Value.ref b] below meth c H locs (200 + 4 * t) (8000 + 100 * t) (lw_Z below #[Value.ref b] s) (F0 m 863 ls []) := by
  obtain ⟨S, hX, hbl, hbs, hKX, hL⟩ := hC
  have hbs' : bs G ≤ s.heap.size := Nat.le_of_eq hbs
  have hK := hKX.1
  have hx := S.1
  have hb := S.2.1
  refine lv_aload_n hx hb dL_law_863 rfl (lv_at hl 1 rfl) ?_
  refine law_arg 1 hx hb hX hbl hbs hS (lv_at hl 0 rfl) (lv_at hl 4 rfl) hi hL (by decide) ki_1 dL_law_864 dL_law_865 dL_law_867 dL_law_868 dL_law_869 ?_
  refine m_ci0 (m_rV S hKX hW (m_szH hbs' hS) (c_X11_go l (P := fun r M' => r = (sp_go S9 (xs (6 * t + 1))).1 ∧ RCX M' (sp_go S9 (xs (6 * t + 1))).2 ∧ RMX M' S9)) (tC_go hR hI.1 (fun M' hs h' => ⟨rfl, h', hM.sameM hs⟩)) lk_L_85 (m_recv hK hW (ci_0 (Nat.le_of_ble_eq_true rfl)) (rc_0 G) rfl) rfl hl.1 rfl ⟨Nat.le_of_ble_eq_true rfl, Nat.le_of_ble_eq_true rfl⟩ (Nat.le_of_ble_eq_true rfl) ⟨law_rc (by omega) (Nat.le_of_ble_eq_true rfl), law_rs (by omega) (Nat.le_of_ble_eq_true rfl)⟩ dL_law_870) hS rfl rfl (fun r1 M1 H locs h1 hW hS => ?_)
  obtain ⟨e1, hR1, hM1⟩ := h1
  refine lv_aload_n hx hb dL_law_873 rfl (lv_at hl 2 rfl) ?_
  refine law_arg 1 hx hb hX hbl hbs hS (lv_at hl 0 rfl) (lv_at hl 4 rfl) hi hL (by decide) ki_1 dL_law_874 dL_law_875 dL_law_877 dL_law_878 dL_law_879 ?_
  refine m_ci0 (m_rV S hKX hW (m_szH hbs' hS) (c_X12_go l (P := fun r M' => r = (sp_go S9 (xs (6 * t + 1))).1 ∧ RCX M' (sp_go S9 (xs (6 * t + 1))).2 ∧ RMX M' (sp_go S9 (xs (6 * t + 1))).2)) (tM_go hM1 hI.1 hI.2.1 (fun M' hs h' => ⟨rfl, hR1.sameC hs, h'⟩)) lk_L_88 (m_recv hK hW (ci_10 (Nat.le_of_ble_eq_true rfl)) (rc_10 G) rfl) rfl hl.1 rfl ⟨Nat.le_of_ble_eq_true rfl, Nat.le_of_ble_eq_true rfl⟩ (Nat.le_of_ble_eq_true rfl) ⟨law_rc (by show 200 + 4 * t ≤ 1000; omega) (Nat.le_of_ble_eq_true rfl), law_rs (by show 8000 + 100 * t ≤ 20000; omega) (Nat.le_of_ble_eq_true rfl)⟩ dL_law_880) hS rfl rfl (fun r2 M2 H locs h2 hW hS => ?_)
  obtain ⟨e2, hR2, hM2⟩ := h2
  refine lv_icmp_eq (tgt := 1778) hx hb dL_law_883 (by decide) (fun cz => ?_) (fun cz => absurd (by rw [e1, e2]) cz)
  refine W.widen (k := 200 + 4 * (t + 1)) (n := 8000 + 100 * (t + 1)) (by show 200 + 4 * t ≤ _; omega) (by show 8000 + 100 * t ≤ _; omega) ?_
  exact tail (sp_go S9 (xs (6 * t + 1))).2 M2 H locs ls (iv_go hI) hR2 hM2 hW hS hl
set_option maxHeartbeats 4000000 in
set_option maxRecDepth 100000 in
theorem lc_16 {p : Program} {l : Launch} {e : Env} {s : State} {m : MethodId} {below : List Frame} {meth : Method} {c : Code} {b L t : Nat} {xs : Nat → Int32} {G : Gn} {M : Mem} {S9 : Sg} {H : Heap} {locs : List Loc} {ls : Array Slot} (hC : LC p s m c b L xs G) (hi : 6 * t + 6 ≤ L) (hW : WPm G M H) (hR : RCX M S9) (hM : RMX M S9) (hI : IV S9) (hS : va_S (fun q => bs G ≤ q) s.heap H locs) (hl : lv_has ls 8 (LV b G (6 * t))) (tail : TL p l e s m below meth c b G t) : W p l e room_1 s m #[Value.ref b] below meth c H locs (200 + 4 * t) (8000 + 100 * t) (lw_Z below #[Value.ref b] s) (F0 m 888 ls []) := by
  obtain ⟨S, hX, hbl, hbs, hKX, hL⟩ := hC
  have hbs' : bs G ≤ s.heap.size := Nat.le_of_eq hbs
  have hK := hKX.1
  have hx := S.1
  have hb := S.2.1
  refine lv_aload_n hx hb dL_law_888 rfl (lv_at hl 1 rfl) ?_
  refine law_arg 1 hx hb hX hbl hbs hS (lv_at hl 0 rfl) (lv_at hl 4 rfl) hi hL (by decide) ki_1 dL_law_889 dL_law_890 dL_law_892 dL_law_893 dL_law_894 ?_
  refine law_arg 2 hx hb hX hbl hbs hS (lv_at hl 0 rfl) (lv_at hl 4 rfl) hi hL (by decide) ki_2 dL_law_895 dL_law_896 dL_law_898 dL_law_899 dL_law_900 ?_
  refine m_ci0 (m_rV S hKX hW (m_szH hbs' hS) (c_X11_of l (P := fun r M' => r = (sp_of S9 (xs (6 * t + 1)) (xs (6 * t + 2))) ∧ RCX M' S9 ∧ RMX M' S9)) (tC_of hR hI.1 ⟨rfl, hR, hM⟩) lk_L_89 (m_recv hK hW (ci_0 (Nat.le_of_ble_eq_true rfl)) (rc_0 G) rfl) rfl hl.1 rfl ⟨Nat.le_of_ble_eq_true rfl, Nat.le_of_ble_eq_true rfl⟩ (Nat.le_of_ble_eq_true rfl) ⟨law_rc (by omega) (Nat.le_of_ble_eq_true rfl), law_rs (by omega) (Nat.le_of_ble_eq_true rfl)⟩ dL_law_901) hS rfl rfl (fun r1 M1 H locs h1 hW hS => ?_)
  obtain ⟨e1, hR1, hM1⟩ := h1
  refine lv_aload_n hx hb dL_law_904 rfl (lv_at hl 2 rfl) ?_
  refine law_arg 1 hx hb hX hbl hbs hS (lv_at hl 0 rfl) (lv_at hl 4 rfl) hi hL (by decide) ki_1 dL_law_905 dL_law_906 dL_law_908 dL_law_909 dL_law_910 ?_
  refine law_arg 2 hx hb hX hbl hbs hS (lv_at hl 0 rfl) (lv_at hl 4 rfl) hi hL (by decide) ki_2 dL_law_911 dL_law_912 dL_law_914 dL_law_915 dL_law_916 ?_
  refine m_ci0 (m_rV S hKX hW (m_szH hbs' hS) (c_X12_of l (P := fun r M' => r = (sp_of S9 (xs (6 * t + 1)) (xs (6 * t + 2))) ∧ RCX M' S9 ∧ RMX M' S9)) (tM_of hM1 hI.1 (fun M' hs h' => ⟨rfl, hR1.sameC hs, h'⟩)) lk_L_92 (m_recv hK hW (ci_10 (Nat.le_of_ble_eq_true rfl)) (rc_10 G) rfl) rfl hl.1 rfl ⟨Nat.le_of_ble_eq_true rfl, Nat.le_of_ble_eq_true rfl⟩ (Nat.le_of_ble_eq_true rfl) ⟨law_rc (by show 200 + 4 * t ≤ 1000; omega) (Nat.le_of_ble_eq_true rfl), law_rs (by show 8000 + 100 * t ≤ 20000; omega) (Nat.le_of_ble_eq_true rfl)⟩ dL_law_917) hS rfl rfl (fun r2 M2 H locs h2 hW hS => ?_)
  obtain ⟨e2, hR2, hM2⟩ := h2
  refine lv_icmp_eq (tgt := 1778) hx hb dL_law_920 (by decide) (fun cz => ?_) (fun cz => absurd (by rw [e1, e2]) cz)
  refine W.widen (k := 200 + 4 * (t + 1)) (n := 8000 + 100 * (t + 1)) (by show 200 + 4 * t ≤ _; omega) (by show 8000 + 100 * t ≤ _; omega) ?_
  exact tail S9 M2 H locs ls hI hR2 hM2 hW hS hl
set_option maxHeartbeats 4000000 in
set_option maxRecDepth 100000 in
theorem lc_17 {p : Program} {l : Launch} {e : Env} {s : State} {m : MethodId} {below : List Frame} {meth : Method} {c : Code} {b L t : Nat} {xs : Nat → Int32} {G : Gn} {M : Mem} {S9 : Sg} {H : Heap} {locs : List Loc} {ls : Array Slot} (hC : LC p s m c b L xs G) (hi : 6 * t + 6 ≤ L) (hW : WPm G M H) (hR : RCX M S9) (hM : RMX M S9) (hI : IV S9) (hS : va_S (fun q => bs G ≤ q) s.heap H locs) (hl : lv_has ls 8 (LV b G (6 * t))) (tail : TL p l e s m below meth c b G t) : W p l e room_1 s m #[Value.ref b] below meth c H locs (200 + 4 * t) (8000 + 100 * t) (lw_Z below #[Value.ref b] s) (F0 m 925 ls []) := by
  obtain ⟨S, hX, hbl, hbs, hKX, hL⟩ := hC
  have hbs' : bs G ≤ s.heap.size := Nat.le_of_eq hbs
  have hK := hKX.1
  have hx := S.1
  have hb := S.2.1
  refine lv_aload_n hx hb dL_law_925 rfl (lv_at hl 1 rfl) ?_
  refine law_arg 1 hx hb hX hbl hbs hS (lv_at hl 0 rfl) (lv_at hl 4 rfl) hi hL (by decide) ki_1 dL_law_926 dL_law_927 dL_law_929 dL_law_930 dL_law_931 ?_
  refine m_ci0 (m_rV S hKX hW (m_szH hbs' hS) (c_X11_order l (P := fun r M' => r = (sp_order S9 (xs (6 * t + 1))) ∧ RCX M' S9 ∧ RMX M' S9)) (tC_order hR hI.1 (fun M' hs h' => ⟨rfl, h', hM.sameM hs⟩)) lk_L_93 (m_recv hK hW (ci_0 (Nat.le_of_ble_eq_true rfl)) (rc_0 G) rfl) rfl hl.1 rfl ⟨Nat.le_of_ble_eq_true rfl, Nat.le_of_ble_eq_true rfl⟩ (Nat.le_of_ble_eq_true rfl) ⟨law_rc (by omega) (Nat.le_of_ble_eq_true rfl), law_rs (by omega) (Nat.le_of_ble_eq_true rfl)⟩ dL_law_932) hS rfl rfl (fun r1 M1 H locs h1 hW hS => ?_)
  obtain ⟨e1, hR1, hM1⟩ := h1
  refine lv_aload_n hx hb dL_law_935 rfl (lv_at hl 2 rfl) ?_
  refine law_arg 1 hx hb hX hbl hbs hS (lv_at hl 0 rfl) (lv_at hl 4 rfl) hi hL (by decide) ki_1 dL_law_936 dL_law_937 dL_law_939 dL_law_940 dL_law_941 ?_
  refine m_ci0 (m_rV S hKX hW (m_szH hbs' hS) (c_X12_order l (P := fun r M' => r = (sp_order S9 (xs (6 * t + 1))) ∧ RCX M' S9 ∧ RMX M' S9)) (tM_order hM1 hI.1 hI.2.1 (fun M' hs h' => ⟨rfl, hR1.sameC hs, h'⟩)) lk_L_96 (m_recv hK hW (ci_10 (Nat.le_of_ble_eq_true rfl)) (rc_10 G) rfl) rfl hl.1 rfl ⟨Nat.le_of_ble_eq_true rfl, Nat.le_of_ble_eq_true rfl⟩ (Nat.le_of_ble_eq_true rfl) ⟨law_rc (by show 200 + 4 * t ≤ 1000; omega) (Nat.le_of_ble_eq_true rfl), law_rs (by show 8000 + 100 * t ≤ 20000; omega) (Nat.le_of_ble_eq_true rfl)⟩ dL_law_942) hS rfl rfl (fun r2 M2 H locs h2 hW hS => ?_)
  obtain ⟨e2, hR2, hM2⟩ := h2
  refine lv_icmp_eq (tgt := 1778) hx hb dL_law_945 (by decide) (fun cz => ?_) (fun cz => absurd (by rw [e1, e2]) cz)
  refine W.widen (k := 200 + 4 * (t + 1)) (n := 8000 + 100 * (t + 1)) (by show 200 + 4 * t ≤ _; omega) (by show 8000 + 100 * t ≤ _; omega) ?_
  exact tail S9 M2 H locs ls hI hR2 hM2 hW hS hl
