/-! THE LAW'S LOOP -/
theorem kb_63 : (Int8.ofInt 63).toInt32 = (63 : Int32) := by decide +kernel
theorem law_end {L i : Nat} (hL : L ≤ 384) (hi : i ≤ 384) : nI L - 6 < nI i ↔ L < i + 6 := by
  have e6 : (6 : Int32).toInt = 6 := by decide
  rw [lt_i, nI_toInt (by omega), Int32.toInt_sub, nI_toInt (by omega), e6]
  rw [Int.bmod_eq_of_le (by omega) (by omega)]
  omega
set_option maxHeartbeats 8000000 in
set_option maxRecDepth 100000 in
theorem law_loop {p : Program} {l : Launch} {e : Env} {s : State} {m : MethodId} {below : List Frame} {meth : Method} {c : Code} {b L : Nat} {xs : Nat → Int32} {G : Gn} (hl0 : l.stackTraces = false) (hC : LC p s m c b L xs G) (hret : meth.sig.returnType = ret) (hlocks : meth.locks = false) :
    ∀ (n t : Nat), L < 6 * t + 6 * n → 6 * t ≤ L → ∀ (S9 : Sg) (M : Mem) (H : Heap) (locs : List Loc) (ls : Array Slot), IV S9 → RCX M S9 → RMX M S9 → WPm G M H → va_S (fun q => bs G ≤ q) s.heap H locs → lv_has ls 8 (LV b G (6 * t)) → W p l e room_1 s m #[Value.ref b] below meth c H locs (200 + 4 * t) (8000 + 100 * t) (lw_Z below #[Value.ref b] s) (F0 m 23 ls []) := by
  intro n
  induction n with
  | zero =>
    intro t h1 h2
    omega
  | succ n ih =>
    intro t h1 h2 S9 M H locs ls hI hR hM hW hS hl
    obtain ⟨S, hX, hbl, hbs, hKX, hL⟩ := id hC
    have hx := S.1
    have hb := S.2.1
    have hnA : ¬ (bs G ≤ b) := by omega
    refine lv_iload hx hb dL_law_23 (lv_at hl 4 rfl) ?_
    refine lv_aload_n hx hb dL_law_25 rfl (lv_at hl 0 rfl) ?_
    refine va_slen hx hb hX hbl hnA hS dL_law_26 ?_
    refine lv_bipush hx hb dL_law_27 kb_6 ?_
    refine lv_isub hx hb dL_law_29 ?_
    refine lv_icmp_gt (tgt := 1784) hx hb dL_law_30 (by decide) (fun cz => ?_) (fun cz => ?_)
    · refine lv_iconst hx hb dL_law_1784 ki_1 ?_
      refine va_forget (fun q hq => by have := hS.2.2 q hq; omega) ?_
      refine W.widen (k := 600128) (n := 7301098) (by omega) (by omega) ?_
      exact lw_ret hx hb hret hlocks dL_law_1785
    · replace cz : ¬ nI L - 6 < nI (6 * t) := cz
      rw [law_end hL (by omega)] at cz
      have hi : 6 * t + 6 ≤ L := by omega
      have tail : TL p l e s m below meth c b G t := by
        intro S' M' H' locs' ls' hI' hR' hM' hW' hS' hl'
        refine lv_iinc (v := nI (6 * (t + 1))) (lv' := [(4, .int (nI (6 * (t + 1)))), (0, .ref b), (1, .ref (ad G 0 0)), (2, .ref (ad G 10 0)), (3, .ref (ad G 81 0))]) hx hb dL_law_1778 hl' (k := 4) rfl (by rw [show Int32.ofInt 6 = nI 6 by decide +kernel, nI_add]; rfl) (by decide) rfl (fun ls2 hl2 => ?_)
        refine lv_goto (tgt := 23) hx hb dL_law_1781 (by decide) ?_
        exact ih (t + 1) (by omega) (by omega) S' M' H' locs' ls2 hI' hR' hM' hW' hS' (lv_sub hl2 [1, 2, 3, 4, 0] rfl)
      refine lv_aload_n hx hb dL_law_33 rfl (lv_at hl 0 rfl) ?_
      refine lv_iload hx hb dL_law_34 (lv_at hl 4 rfl) ?_
      refine va_sld hx hb hX hbl hnA hS (vp_in_nI (by omega) (by omega)) dL_law_36 ?_
      refine lv_bipush hx hb dL_law_37 kb_63 ?_
      refine lv_iand hx hb dL_law_39 ?_
      refine lv_topi (fun x _ => ?_)
      by_cases q0 : x.toInt = 0
      · refine lv_tableIn (off := 160) (tgt := 200) hx hb dL_law_40 (by rw [q0]; decide) (by rw [q0]; decide) (by rw [q0]; rfl) (by decide) ?_
        exact lc_0 hC hi hW hR hM hI hS hl tail
      by_cases q1 : x.toInt = 1
      · refine lv_tableIn (off := 197) (tgt := 237) hx hb dL_law_40 (by rw [q1]; decide) (by rw [q1]; decide) (by rw [q1]; rfl) (by decide) ?_
        exact lc_1 hC hi hW hR hM hI hS hl tail
      by_cases q2 : x.toInt = 2
      · refine lv_tableIn (off := 246) (tgt := 286) hx hb dL_law_40 (by rw [q2]; decide) (by rw [q2]; decide) (by rw [q2]; rfl) (by decide) ?_
        exact lc_2 hC hi hW hR hM hI hS hl tail
      by_cases q3 : x.toInt = 3
      · refine lv_tableIn (off := 295) (tgt := 335) hx hb dL_law_40 (by rw [q3]; decide) (by rw [q3]; decide) (by rw [q3]; rfl) (by decide) ?_
        exact lc_3 hC hi hW hR hM hI hS hl tail
      by_cases q4 : x.toInt = 4
      · refine lv_tableIn (off := 344) (tgt := 384) hx hb dL_law_40 (by rw [q4]; decide) (by rw [q4]; decide) (by rw [q4]; rfl) (by decide) ?_
        exact lc_4 hC hi hW hR hM hI hS hl tail
      by_cases q5 : x.toInt = 5
      · refine lv_tableIn (off := 369) (tgt := 409) hx hb dL_law_40 (by rw [q5]; decide) (by rw [q5]; decide) (by rw [q5]; rfl) (by decide) ?_
        exact lc_5 hC hi hW hR hM hI hS hl tail
      by_cases q6 : x.toInt = 6
      · refine lv_tableIn (off := 394) (tgt := 434) hx hb dL_law_40 (by rw [q6]; decide) (by rw [q6]; decide) (by rw [q6]; rfl) (by decide) ?_
        exact lc_6 hC hi hW hR hM hI hS hl tail
      by_cases q7 : x.toInt = 7
      · refine lv_tableIn (off := 443) (tgt := 483) hx hb dL_law_40 (by rw [q7]; decide) (by rw [q7]; decide) (by rw [q7]; rfl) (by decide) ?_
        exact lc_7 hC hi hW hR hM hI hS hl tail
      by_cases q8 : x.toInt = 8
      · refine lv_tableIn (off := 480) (tgt := 520) hx hb dL_law_40 (by rw [q8]; decide) (by rw [q8]; decide) (by rw [q8]; rfl) (by decide) ?_
        exact lc_8 hC hi hW hR hM hI hS hl tail
      by_cases q9 : x.toInt = 9
      · refine lv_tableIn (off := 541) (tgt := 581) hx hb dL_law_40 (by rw [q9]; decide) (by rw [q9]; decide) (by rw [q9]; rfl) (by decide) ?_
        exact lc_9 hC hi hW hR hM hI hS hl tail
      by_cases q10 : x.toInt = 10
      · refine lv_tableIn (off := 566) (tgt := 606) hx hb dL_law_40 (by rw [q10]; decide) (by rw [q10]; decide) (by rw [q10]; rfl) (by decide) ?_
        exact lc_10 hC hi hW hR hM hI hS hl tail
      by_cases q11 : x.toInt = 11
      · refine lv_tableIn (off := 615) (tgt := 655) hx hb dL_law_40 (by rw [q11]; decide) (by rw [q11]; decide) (by rw [q11]; rfl) (by decide) ?_
        exact lc_11 hC hi hW hR hM hI hS hl tail
      by_cases q12 : x.toInt = 12
      · refine lv_tableIn (off := 652) (tgt := 692) hx hb dL_law_40 (by rw [q12]; decide) (by rw [q12]; decide) (by rw [q12]; rfl) (by decide) ?_
        exact lc_12 hC hi hW hR hM hI hS hl tail
      by_cases q13 : x.toInt = 13
      · refine lv_tableIn (off := 701) (tgt := 741) hx hb dL_law_40 (by rw [q13]; decide) (by rw [q13]; decide) (by rw [q13]; rfl) (by decide) ?_
        exact lc_13 hC hi hW hR hM hI hS hl tail
      by_cases q14 : x.toInt = 14
      · refine lv_tableIn (off := 762) (tgt := 802) hx hb dL_law_40 (by rw [q14]; decide) (by rw [q14]; decide) (by rw [q14]; rfl) (by decide) ?_
        exact lc_14 hC hi hW hR hM hI hS hl tail
      by_cases q15 : x.toInt = 15
      · refine lv_tableIn (off := 823) (tgt := 863) hx hb dL_law_40 (by rw [q15]; decide) (by rw [q15]; decide) (by rw [q15]; rfl) (by decide) ?_
        exact lc_15 hC hi hW hR hM hI hS hl tail
      by_cases q16 : x.toInt = 16
      · refine lv_tableIn (off := 848) (tgt := 888) hx hb dL_law_40 (by rw [q16]; decide) (by rw [q16]; decide) (by rw [q16]; rfl) (by decide) ?_
        exact lc_16 hC hi hW hR hM hI hS hl tail
      by_cases q17 : x.toInt = 17
      · refine lv_tableIn (off := 885) (tgt := 925) hx hb dL_law_40 (by rw [q17]; decide) (by rw [q17]; decide) (by rw [q17]; rfl) (by decide) ?_
        exact lc_17 hC hi hW hR hM hI hS hl tail
      by_cases q18 : x.toInt = 18
      · refine lv_tableIn (off := 910) (tgt := 950) hx hb dL_law_40 (by rw [q18]; decide) (by rw [q18]; decide) (by rw [q18]; rfl) (by decide) ?_
        exact lc_18 hC hi hW hR hM hI hS hl tail
      by_cases q19 : x.toInt = 19
      · refine lv_tableIn (off := 959) (tgt := 999) hx hb dL_law_40 (by rw [q19]; decide) (by rw [q19]; decide) (by rw [q19]; rfl) (by decide) ?_
        exact lc_19 hC hi hW hR hM hI hS hl tail
      by_cases q20 : x.toInt = 20
      · refine lv_tableIn (off := 996) (tgt := 1036) hx hb dL_law_40 (by rw [q20]; decide) (by rw [q20]; decide) (by rw [q20]; rfl) (by decide) ?_
        exact lc_20 hC hi hW hR hM hI hS hl tail
      by_cases q21 : x.toInt = 21
      · refine lv_tableIn (off := 1057) (tgt := 1097) hx hb dL_law_40 (by rw [q21]; decide) (by rw [q21]; decide) (by rw [q21]; rfl) (by decide) ?_
        exact lc_21 hC hi hW hR hM hI hS hl tail
      by_cases q22 : x.toInt = 22
      · refine lv_tableIn (off := 1106) (tgt := 1146) hx hb dL_law_40 (by rw [q22]; decide) (by rw [q22]; decide) (by rw [q22]; rfl) (by decide) ?_
        exact lc_22 hC hi hW hR hM hI hS hl tail
      by_cases q23 : x.toInt = 23
      · refine lv_tableIn (off := 1143) (tgt := 1183) hx hb dL_law_40 (by rw [q23]; decide) (by rw [q23]; decide) (by rw [q23]; rfl) (by decide) ?_
        exact lc_23 hC hi hW hR hM hI hS hl tail
      by_cases q24 : x.toInt = 24
      · refine lv_tableIn (off := 1204) (tgt := 1244) hx hb dL_law_40 (by rw [q24]; decide) (by rw [q24]; decide) (by rw [q24]; rfl) (by decide) ?_
        exact lc_24 hC hi hW hR hM hI hS hl tail
      by_cases q25 : x.toInt = 25
      · refine lv_tableIn (off := 1253) (tgt := 1293) hx hb dL_law_40 (by rw [q25]; decide) (by rw [q25]; decide) (by rw [q25]; rfl) (by decide) ?_
        exact lc_25 hC hi hW hR hM hI hS hl tail
      by_cases q26 : x.toInt = 26
      · refine lv_tableIn (off := 1302) (tgt := 1342) hx hb dL_law_40 (by rw [q26]; decide) (by rw [q26]; decide) (by rw [q26]; rfl) (by decide) ?_
        exact lc_26 hC hi hW hR hM hI hS hl tail
      by_cases q27 : x.toInt = 27
      · refine lv_tableIn (off := 1315) (tgt := 1355) hx hb dL_law_40 (by rw [q27]; decide) (by rw [q27]; decide) (by rw [q27]; rfl) (by decide) ?_
        exact lc_27 hC hi hW hR hM hI hS hl tail
      by_cases q28 : x.toInt = 28
      · refine lv_tableIn (off := 1328) (tgt := 1368) hx hb dL_law_40 (by rw [q28]; decide) (by rw [q28]; decide) (by rw [q28]; rfl) (by decide) ?_
        exact lc_28 hC hi hW hR hM hI hS hl tail
      by_cases q29 : x.toInt = 29
      · refine lv_tableIn (off := 1353) (tgt := 1393) hx hb dL_law_40 (by rw [q29]; decide) (by rw [q29]; decide) (by rw [q29]; rfl) (by decide) ?_
        exact lc_29 hC hi hW hR hM hI hS hl tail
      by_cases q30 : x.toInt = 30
      · refine lv_tableIn (off := 1426) (tgt := 1466) hx hb dL_law_40 (by rw [q30]; decide) (by rw [q30]; decide) (by rw [q30]; rfl) (by decide) ?_
        exact lc_30 hC hi hW hR hM hI hS hl tail
      by_cases q31 : x.toInt = 31
      · refine lv_tableIn (off := 1475) (tgt := 1515) hx hb dL_law_40 (by rw [q31]; decide) (by rw [q31]; decide) (by rw [q31]; rfl) (by decide) ?_
        exact lc_31 hC hi hW hR hM hI hS hl tail
      by_cases q32 : x.toInt = 32
      · refine lv_tableIn (off := 1524) (tgt := 1564) hx hb dL_law_40 (by rw [q32]; decide) (by rw [q32]; decide) (by rw [q32]; rfl) (by decide) ?_
        exact lc_32 hl0 hC hi hW hR hM hI hS hl tail
      by_cases q33 : x.toInt = 33
      · refine lv_tableIn (off := 1591) (tgt := 1631) hx hb dL_law_40 (by rw [q33]; decide) (by rw [q33]; decide) (by rw [q33]; rfl) (by decide) ?_
        exact lc_33 hC hi hW hR hM hI hS hl tail
      by_cases q34 : x.toInt = 34
      · refine lv_tableIn (off := 1664) (tgt := 1704) hx hb dL_law_40 (by rw [q34]; decide) (by rw [q34]; decide) (by rw [q34]; rfl) (by decide) ?_
        exact lc_34 hC hi hW hR hM hI hS hl tail
      by_cases q35 : x.toInt = 35
      · refine lv_tableIn (off := 1713) (tgt := 1753) hx hb dL_law_40 (by rw [q35]; decide) (by rw [q35]; decide) (by rw [q35]; rfl) (by decide) ?_
        exact lc_35 hl0 hC hi hW hR hM hI hS hl tail
      refine lv_tableOut (tgt := 1778) hx hb dL_law_40 (by omega) (by decide) ?_
      refine W.widen (k := 200 + 4 * (t + 1)) (n := 8000 + 100 * (t + 1)) (by omega) (by omega) ?_
      exact tail S9 M H locs ls hI hR hM hW hS hl
