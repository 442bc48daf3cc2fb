/-! WHERE A SIGN STANDS IN A TEXT: the library's own search -/
theorem tw_1 : Cond.fieldLink "java/lang/String" 38 "java/lang/String" "COMPACT_STRINGS" "Z" ∈ lw_G := lw_Gi 270 (by decide +kernel) rfl
theorem tw_2 : Cond.fieldLink "java/lang/String" 15 "java/lang/String" "coder" "B" ∈ lw_G := lw_Gi 1711 (by decide +kernel) rfl
theorem tw_3 : Cond.fieldLink "java/lang/String" 9 "java/lang/String" "value" "[B" ∈ lw_G := lw_Gi 1710 (by decide +kernel) rfl
theorem tw_4 : Cond.methodLink "java/lang/StringLatin1" 92 Lib.Math.max.name ∈ lw_G := lw_Gi 585 (by decide +kernel) rfl
theorem tw_5 : Cond.methodLink "java/lang/StringLatin1" 38 Lib.Math.min.name ∈ lw_G := lw_Gi 586 (by decide +kernel) rfl
theorem tw_i : Cond.initialized "java/lang/String" ∈ lw_G := lw_Gi 68 (by decide +kernel) rfl
theorem tw_j : Cond.initialized "java/lang/StringLatin1" ∈ lw_G := lw_Gi 74 (by decide +kernel) rfl
theorem lk_J0_335 : LKV "java/lang/String" 335 RJ0 yJ0_coder_7d493 cJ0_coder_7d493 1 (some .byte) 0 := ⟨lw_Gi 266 (by decide +kernel) rfl, lw_Gi 267 (by decide +kernel) rfl, lw_Gi 268 (by decide +kernel) rfl, tw_i, lw_Gi 269 (by decide +kernel) rfl, by decide +kernel, by decide +kernel, by decide +kernel⟩
theorem lk_J0_505 : LKV "java/lang/String" 505 RJ0 yJ0_length_8abf5 cJ0_length_8abf5 1 (some .int) 0 := ⟨lw_Gi 578 (by decide +kernel) rfl, lw_Gi 263 (by decide +kernel) rfl, lw_Gi 264 (by decide +kernel) rfl, tw_i, lw_Gi 265 (by decide +kernel) rfl, by decide +kernel, by decide +kernel, by decide +kernel⟩
theorem lk_J0_492 : LKV "java/lang/String" 492 RJ0 yJ0_isLatin1_aae02 cJ0_isLatin1_aae02 1 (some .boolean) 0 := ⟨lw_Gi 574 (by decide +kernel) rfl, lw_Gi 575 (by decide +kernel) rfl, lw_Gi 576 (by decide +kernel) rfl, tw_i, lw_Gi 577 (by decide +kernel) rfl, by decide +kernel, by decide +kernel, by decide +kernel⟩
theorem lk_J0_633 : LKV "java/lang/String" 633 RJ0 yJ0_indexOf_7cf53 cJ0_indexOf_7cf53 3 (some .int) 2 := ⟨lw_Gi 570 (by decide +kernel) rfl, lw_Gi 571 (by decide +kernel) rfl, lw_Gi 572 (by decide +kernel) rfl, tw_i, lw_Gi 573 (by decide +kernel) rfl, by decide +kernel, by decide +kernel, by decide +kernel⟩
theorem lk_X2_71 : LKV "MilkDesk$ActReader" 71 RJ0 yJ0_indexOf_0f7a4 cJ0_indexOf_0f7a4 2 (some .int) 1 := ⟨lw_Gi 566 (by decide +kernel) rfl, lw_Gi 567 (by decide +kernel) rfl, lw_Gi 568 (by decide +kernel) rfl, tw_i, lw_Gi 569 (by decide +kernel) rfl, by decide +kernel, by decide +kernel, by decide +kernel⟩
theorem lk_J0_637 : LKS "java/lang/String" 637 yJ1_indexOf_4cfef cJ1_indexOf_4cfef 4 (some .int) 4 := ⟨lw_Gi 579 (by decide +kernel) rfl, lw_Gi 580 (by decide +kernel) rfl, tw_j, lw_Gi 581 (by decide +kernel) rfl, by decide +kernel, by decide +kernel, by decide +kernel⟩
theorem lk_J1_88 : LKS "java/lang/StringLatin1" 88 yJ1_canEncode_9a6ad cJ1_canEncode_9a6ad 1 (some .boolean) 1 := ⟨lw_Gi 582 (by decide +kernel) rfl, lw_Gi 583 (by decide +kernel) rfl, tw_j, lw_Gi 584 (by decide +kernel) rfl, by decide +kernel, by decide +kernel, by decide +kernel⟩
theorem lk_J1_95 : LKS "java/lang/StringLatin1" 95 yJ1_indexOfChar_4cfef cJ1_indexOfChar_4cfef 6 (some .int) 4 := ⟨lw_Gi 587 (by decide +kernel) rfl, lw_Gi 588 (by decide +kernel) rfl, tw_j, lw_Gi 589 (by decide +kernel) rfl, by decide +kernel, by decide +kernel, by decide +kernel⟩
/-- how long a text is -/
def lnB (k : Nat) : Nat := [10, 3, 2, 3].getD k 0
section TX
variable {p : Program} {l : Launch} {e : Env} {R : Room} {s : State} {m : MethodId} {args : Array Value} {below : List Frame} {meth : Method} {c : Code} {H : Heap} {locs : List Loc} {cells slots : Nat} {Q : State → Prop}
variable {cc : ByteArray} {pc : Nat} {ls : Array Slot} {rest : List Value} {G : Gn} {M : Mem} {own : String} {nL : Nat}
theorem x_S (hKX : KX G s) (hW : WPm G M H) : vk_S 4 [10, 3, 2, 3] [txB 0, txB 1, txB 2, txB 3] (gK G) (gV G) (fun q => bs G ≤ q) s H := hKX.2.1.kept (fun a _ hA => hW.2.2.2.1 a (Nat.not_le.mp hA))
theorem x_recv (hKX : KX G s) (hW : WPm G M H) {k : Nat} (hk : k < 4) : ∃ cell : Cell, H[gK G k]? = some cell ∧ cell.vm.isStatics = false ∧ s.vm.findClass RJ0 = some cell.cls := by
  obtain ⟨cell, h1, h2, h3, -⟩ := ((x_S hKX hW).1 k hk).1
  exact ⟨cell, h1, h2, h3⟩
theorem x_coder (S : CallFix p m c cc nL s args lw_G "java/lang/String") (hKX : KX G s) (hW : WPm G M H) {k : Nat} (hk : k < 4) (hdg : decode cc pc = .ok (.getfield 15, 3))
    (kk : W p l e R s m args below meth c H locs cells slots Q (F0 m (pc + 3) ls (.int 0 :: rest))) : W p l e R s m args below meth c H locs cells slots Q (F0 m pc ls (.ref (gK G k) :: rest)) := by
  obtain ⟨cf, k', fi, f, cell, h1, h2, h3, h4, h5, h6⟩ := ((x_S hKX hW).1 k hk).2.1
  exact W.getf S.1 S.2.1 S.2.2.2.1 (S.2.2.2.2 _ tw_2) h1 h2 h3 h4 h5 rfl rfl hdg kk
theorem x_value (S : CallFix p m c cc nL s args lw_G "java/lang/String") (hKX : KX G s) (hW : WPm G M H) {k : Nat} (hk : k < 4) (hdg : decode cc pc = .ok (.getfield 9, 3))
    (kk : W p l e R s m args below meth c H locs cells slots Q (F0 m (pc + 3) ls (.ref (gV G k) :: rest))) : W p l e R s m args below meth c H locs cells slots Q (F0 m pc ls (.ref (gK G k) :: rest)) := by
  obtain ⟨cf, k', fi, f, cell, h1, h2, h3, h4, h5, h6⟩ := ((x_S hKX hW).1 k hk).2.2.1
  exact W.getf S.1 S.2.1 S.2.2.2.1 (S.2.2.2.2 _ tw_3) h1 h2 h3 h4 h5 rfl rfl hdg kk
theorem x_compact (S : CallFix p m c cc nL s args lw_G "java/lang/String") (hKX : KX G s) (hW : WPm G M H) (hdg : decode cc pc = .ok (.getstatic 38, 3))
    (kk : W p l e R s m args below meth c H locs cells slots Q (F0 m (pc + 3) ls (.int 1 :: rest))) : W p l e R s m args below meth c H locs cells slots Q (F0 m pc ls rest) := by
  obtain ⟨cf, kf, fi, f, a, cell, h1, h2, h3, h4, h5, h6, h7, h8⟩ := hKX.2.2.1
  exact W.gets S.1 S.2.1 S.2.2.2.1 (S.2.2.2.2 _ tw_1) h1 h2 h3 h4 (by rw [hW.2.2.2.1 a (Nat.not_le.mp h8)]; exact h5) (fun e => by rw [e] at h6; cases h6) h7 rfl hdg kk
theorem x_len (S : CallFix p m c cc nL s args lw_G own) (hKX : KX G s) (hW : WPm G M H) {k : Nat} (hk : k < 4) (hdg : decode cc pc = .ok (.arraylength, 1))
    (kk : W p l e R s m args below meth c H locs cells slots Q (F0 m (pc + 1) ls (.int (nI (lnB k)) :: rest))) : W p l e R s m args below meth c H locs cells slots Q (F0 m pc ls (.ref (gV G k) :: rest)) := by
  obtain ⟨cell, h1, h2, h3, h4, h5, h6, h7⟩ := ((x_S hKX hW).1 k hk).2.2.2
  exact W.alen (n := nI (lnB k)) S.1 S.2.1 h1 h2 h5 rfl rfl hdg kk
theorem x_byte (S : CallFix p m c cc nL s args lw_G own) (hKX : KX G s) (hW : WPm G M H) {k j : Nat} (hk : k < 4) (hj : j < lnB k) (hdg : decode cc pc = .ok (.baload, 1))
    (kk : W p l e R s m args below meth c H locs cells slots Q (F0 m (pc + 1) ls (.int ((txB k).getD j 0) :: rest))) : W p l e R s m args below meth c H locs cells slots Q (F0 m pc ls (.int (nI j) :: .ref (gV G k) :: rest)) := by
  obtain ⟨cell, h1, h2, h3, h4, h5, h6, h7⟩ := ((x_S hKX hW).1 k hk).2.2.2
  have l10 : lnB k ≤ 10 := by
    rcases (show k = 0 ∨ k = 1 ∨ k = 2 ∨ k = 3 by omega) with rfl | rfl | rfl | rfl <;> decide
  have ec : (nI j).toNatClampNeg = j := nI_clamp (by omega)
  have h4' : lnB k ≤ cell.slots.size := h4
  have h6' := h6 j hj
  have et : ([txB 0, txB 1, txB 2, txB 3].getD k []) = txB k := by
    rcases (show k = 0 ∨ k = 1 ∨ k = 2 ∨ k = 3 by omega) with rfl | rfl | rfl | rfl <;> rfl
  rw [et] at h6'
  refine W.bald (v := .int ((txB k).getD j 0)) S.1 S.2.1 h1 h2 h3 (fun q => ?_) (by rw [ec]; exact h6') rfl rfl hdg kk
  rcases q with q | q
  · exact nI_pos (by omega) q
  · rw [ec] at q; omega
end TX
abbrev rm_J0 : Room := { frames := 0, cells := 0, slots := 0, locals := 0 }
abbrev rm_J1 : Room := { frames := 1, cells := 0, slots := 0, locals := 30 }
abbrev rm_J2 : Room := { frames := 2, cells := 0, slots := 0, locals := 60 }
abbrev rm_J3 : Room := { frames := 3, cells := 0, slots := 0, locals := 90 }
set_option maxHeartbeats 4000000 in
theorem c_J0_coder (l : Launch) {G : Gn} {k : Nat} {M : Mem} {P : Int32 → Mem → Prop} (hk : k < 4) : MQi l yJ0_coder_7d493 cJ0_coder_7d493 1 (some .byte) rm_J0 [.ref (gK G k)] G M (P 0 M) P := by
  refine m_enter (by decide +kernel) (Nat.le_of_ble_eq_true rfl) ?_
  intro p e s m below meth c ls H locs S hret hlocks hname hKX hbs hW hS hl h
  obtain ⟨AV, hAV⟩ : ∃ z : Array Value, z = ([.ref (gK G k)] : List Value).toArray := ⟨_, rfl⟩
  rw [← hAV] at S ⊢
  replace S : CallFix p m c cJ0_coder_7d493 1 s AV lw_G "java/lang/String" := S
  have hx := S.1
  have hb := S.2.1
  replace hl : lv_has ls 1 [(0, .ref (gK G k))] := hl
  refine x_compact S hKX hW dJ0_coder_7d493_0 ?_
  refine lv_if_eq (tgt := 13) hx hb dJ0_coder_7d493_3 (by decide) (fun c3 => absurd c3 (by decide)) (fun c3 => ?_)
  refine lv_aload_n hx hb dJ0_coder_7d493_6 rfl (lv_at hl 0 rfl) ?_
  refine x_coder S hKX hW hk dJ0_coder_7d493_7 ?_
  refine lv_goto (tgt := 14) hx hb dJ0_coder_7d493_10 (by decide) ?_
  exact m_iret S hret hlocks hKX hW hbs hS rfl h dJ0_coder_7d493_14
set_option maxHeartbeats 4000000 in
theorem c_J0_isLatin1 (l : Launch) {G : Gn} {k : Nat} {M : Mem} {P : Int32 → Mem → Prop} (hk : k < 4) : MQi l yJ0_isLatin1_aae02 cJ0_isLatin1_aae02 1 (some .boolean) rm_J0 [.ref (gK G k)] G M (P 1 M) P := by
  refine m_enter (by decide +kernel) (Nat.le_of_ble_eq_true rfl) ?_
  intro p e s m below meth c ls H locs S hret hlocks hname hKX hbs hW hS hl h
  obtain ⟨AV, hAV⟩ : ∃ z : Array Value, z = ([.ref (gK G k)] : List Value).toArray := ⟨_, rfl⟩
  rw [← hAV] at S ⊢
  replace S : CallFix p m c cJ0_isLatin1_aae02 1 s AV lw_G "java/lang/String" := S
  have hx := S.1
  have hb := S.2.1
  replace hl : lv_has ls 1 [(0, .ref (gK G k))] := hl
  refine x_compact S hKX hW dJ0_isLatin1_aae02_0 ?_
  refine lv_if_eq (tgt := 17) hx hb dJ0_isLatin1_aae02_3 (by decide) (fun c3 => absurd c3 (by decide)) (fun c3 => ?_)
  refine lv_aload_n hx hb dJ0_isLatin1_aae02_6 rfl (lv_at hl 0 rfl) ?_
  refine x_coder S hKX hW hk dJ0_isLatin1_aae02_7 ?_
  refine lv_if_ne (tgt := 17) hx hb dJ0_isLatin1_aae02_10 (by decide) (fun c3 => absurd rfl c3) (fun c3 => ?_)
  refine lv_iconst hx hb dJ0_isLatin1_aae02_13 ki_1 ?_
  refine lv_goto (tgt := 18) hx hb dJ0_isLatin1_aae02_14 (by decide) ?_
  exact m_iret S hret hlocks hKX hW hbs hS rfl h dJ0_isLatin1_aae02_18
set_option maxHeartbeats 4000000 in
theorem c_J0_length (l : Launch) {G : Gn} {k : Nat} {M : Mem} {P : Int32 → Mem → Prop} (hk : k < 4) : MQi l yJ0_length_8abf5 cJ0_length_8abf5 1 (some .int) rm_J1 [.ref (gK G k)] G M (P (nI (lnB k)) M) P := by
  refine m_enter (by decide +kernel) (Nat.le_of_ble_eq_true rfl) ?_
  intro p e s m below meth c ls H locs S hret hlocks hname hKX hbs hW hS hl h
  obtain ⟨AV, hAV⟩ : ∃ z : Array Value, z = ([.ref (gK G k)] : List Value).toArray := ⟨_, rfl⟩
  rw [← hAV] at S ⊢
  replace S : CallFix p m c cJ0_length_8abf5 1 s AV lw_G "java/lang/String" := S
  have hx := S.1
  have hb := S.2.1
  replace hl : lv_has ls 1 [(0, .ref (gK G k))] := hl
  refine lv_aload_n hx hb dJ0_length_8abf5_0 rfl (lv_at hl 0 rfl) ?_
  refine x_value S hKX hW hk dJ0_length_8abf5_1 ?_
  refine x_len S hKX hW hk dJ0_length_8abf5_4 ?_
  refine lv_aload_n hx hb dJ0_length_8abf5_5 rfl (lv_at hl 0 rfl) ?_
  refine m_ci0 (m_rV S hKX hW (m_szH hbs hS) (c_J0_coder l hk (P := fun r M1 => r = 0 ∧ M1 = M)) ⟨rfl, rfl⟩ lk_J0_335 (x_recv hKX hW hk) rfl hl.1 rfl ⟨Nat.le_of_ble_eq_true rfl, Nat.le_of_ble_eq_true rfl⟩ (Nat.le_of_ble_eq_true rfl) ⟨Nat.le_of_ble_eq_true rfl, Nat.le_of_ble_eq_true rfl⟩ dJ0_length_8abf5_6) hS rfl rfl (fun r M1 H locs hr hW hS => ?_)
  obtain ⟨rfl, eM⟩ := hr
  rw [eM] at hW
  refine lv_ishr hx hb dJ0_length_8abf5_9 ?_
  have e : nI (lnB k) >>> ((0 : Int32) &&& 31) = nI (lnB k) := by
    rcases (show k = 0 ∨ k = 1 ∨ k = 2 ∨ k = 3 by omega) with rfl | rfl | rfl | rfl <;> decide +kernel
  rw [e]
  exact m_iret S hret hlocks hKX hW hbs hS rfl h dJ0_length_8abf5_10
set_option maxHeartbeats 4000000 in
theorem c_J1_canEncode (l : Launch) {G : Gn} {x : Int32} {M : Mem} {P : Int32 → Mem → Prop} : MQi l yJ1_canEncode_9a6ad cJ1_canEncode_9a6ad 1 (some .boolean) rm_J0 [.int x] G M (P (if x < 0 then 0 else if 255 < x then 0 else 1) M) P := by
  refine m_enter (by decide +kernel) (Nat.le_of_ble_eq_true rfl) ?_
  intro p e s m below meth c ls H locs S hret hlocks hname hKX hbs hW hS hl h
  obtain ⟨AV, hAV⟩ : ∃ z : Array Value, z = ([.int x] : List Value).toArray := ⟨_, rfl⟩
  rw [← hAV] at S ⊢
  replace S : CallFix p m c cJ1_canEncode_9a6ad 1 s AV lw_G "java/lang/StringLatin1" := S
  have hx := S.1
  have hb := S.2.1
  replace hl : lv_has ls 1 [(0, .int x)] := hl
  refine lv_iload_n hx hb dJ1_canEncode_9a6ad_0 rfl (lv_at hl 0 rfl) ?_
  refine lv_if_lt (tgt := 15) hx hb dJ1_canEncode_9a6ad_1 (by decide) (fun c1 => ?_) (fun c1 => ?_)
  · rw [if_pos c1] at h
    refine lv_iconst hx hb dJ1_canEncode_9a6ad_15 ki_0 ?_
    exact m_iret S hret hlocks hKX hW hbs hS rfl h dJ1_canEncode_9a6ad_16
  · rw [if_neg c1] at h
    refine lv_iload_n hx hb dJ1_canEncode_9a6ad_4 rfl (lv_at hl 0 rfl) ?_
    refine lv_sipush hx hb dJ1_canEncode_9a6ad_5 (show Int32.ofInt 255 = (255 : Int32) by decide +kernel) ?_
    refine lv_icmp_gt (tgt := 15) hx hb dJ1_canEncode_9a6ad_8 (by decide) (fun c2 => ?_) (fun c2 => ?_)
    · rw [if_pos c2] at h
      refine lv_iconst hx hb dJ1_canEncode_9a6ad_15 ki_0 ?_
      exact m_iret S hret hlocks hKX hW hbs hS rfl h dJ1_canEncode_9a6ad_16
    · rw [if_neg c2] at h
      refine lv_iconst hx hb dJ1_canEncode_9a6ad_11 ki_1 ?_
      refine lv_goto (tgt := 16) hx hb dJ1_canEncode_9a6ad_12 (by decide) ?_
      exact m_iret S hret hlocks hKX hW hbs hS rfl h dJ1_canEncode_9a6ad_16
/-- the search over a text's bytes, r places left from j -/
def srcB (b : Int32) (k : Nat) : Nat → Nat → Int32
  | 0, _ => -1
  | r + 1, j => if (txB k).getD j 0 = b then nI j else srcB b k r (j + 1)
theorem lnB_10 {k : Nat} (hk : k < 4) : lnB k ≤ 10 ∧ (txB k).length = lnB k := by
  rcases (show k = 0 ∨ k = 1 ∨ k = 2 ∨ k = 3 by omega) with rfl | rfl | rfl | rfl <;> decide
theorem nI_b {a b : Nat} (ha : a < 2 ^ 31) (hb : b < 2 ^ 31) : nI b ≤ nI a ↔ b ≤ a := by
  rw [Int32.le_iff_toInt_le, nI_toInt hb, nI_toInt ha]
  omega
set_option maxHeartbeats 4000000 in
theorem c_J1_indexOfChar (l : Launch) {G : Gn} {k : Nat} {x : Int32} {M : Mem} {P : Int32 → Mem → Prop} (hk : k < 4) : MQi l yJ1_indexOfChar_4cfef cJ1_indexOfChar_4cfef 6 (some .int) rm_J0 [.ref (gV G k), .int x, .int 0, .int (nI (lnB k))] G M (P (srcB x.toInt8.toInt32 k (lnB k) 0) M) P := by
  refine m_enter (by decide +kernel) (Nat.le_of_ble_eq_true rfl) ?_
  intro p e s m below meth c ls H locs S hret hlocks hname hKX hbs hW hS hl h
  obtain ⟨AV, hAV⟩ : ∃ z : Array Value, z = ([.ref (gV G k), .int x, .int 0, .int (nI (lnB k))] : List Value).toArray := ⟨_, rfl⟩
  rw [← hAV] at S ⊢
  replace S : CallFix p m c cJ1_indexOfChar_4cfef 6 s AV lw_G "java/lang/StringLatin1" := S
  have hx := S.1
  have hb := S.2.1
  replace hl : lv_has ls 6 [(0, .ref (gV G k)), (1, .int x), (2, .int 0), (3, .int (nI (lnB k)))] := hl
  have l10 := (lnB_10 hk).1
  have loop : ∀ (r j : Nat) (ls : Array Slot), j + r = lnB k → lv_has ls 6 [(0, .ref (gV G k)), (3, .int (nI (lnB k))), (4, .int x.toInt8.toInt32), (5, .int (nI j))] → P (srcB x.toInt8.toInt32 k r j) M →
      W p l e rm_J0 s m AV below meth c H locs 0 0 (MQ below (va_Qi P (WS G) (fun q => bs G ≤ q)) AV s 0 0 (fun q => bs G ≤ q)) (F0 m 7 ls []) := by
    intro r
    induction r with
    | zero =>
      intro j ls hj hl h
      refine lv_iload hx hb dJ1_indexOfChar_4cfef_7 (lv_at hl 3 rfl) ?_
      refine lv_iload_n hx hb dJ1_indexOfChar_4cfef_9 rfl (lv_at hl 1 rfl) ?_
      refine lv_icmp_ge (tgt := 31) hx hb dJ1_indexOfChar_4cfef_10 (by decide) (fun c1 => ?_) (fun c1 => ?_)
      · refine lv_iconst hx hb dJ1_indexOfChar_4cfef_31 ki_m1 ?_
        exact m_iret S hret hlocks hKX hW hbs hS rfl h dJ1_indexOfChar_4cfef_32
      · rw [nI_b (by omega) (by omega)] at c1
        omega
    | succ r ih =>
      intro j ls hj hl h
      refine lv_iload hx hb dJ1_indexOfChar_4cfef_7 (lv_at hl 3 rfl) ?_
      refine lv_iload_n hx hb dJ1_indexOfChar_4cfef_9 rfl (lv_at hl 1 rfl) ?_
      refine lv_icmp_ge (tgt := 31) hx hb dJ1_indexOfChar_4cfef_10 (by decide) (fun c1 => ?_) (fun c1 => ?_)
      · rw [nI_b (by omega) (by omega)] at c1
        omega
      refine lv_aload_n hx hb dJ1_indexOfChar_4cfef_13 rfl (lv_at hl 0 rfl) ?_
      refine lv_iload hx hb dJ1_indexOfChar_4cfef_14 (lv_at hl 3 rfl) ?_
      refine x_byte S hKX hW hk (by omega) dJ1_indexOfChar_4cfef_16 ?_
      refine lv_iload hx hb dJ1_indexOfChar_4cfef_17 (lv_at hl 2 rfl) ?_
      refine lv_icmp_ne (tgt := 25) hx hb dJ1_indexOfChar_4cfef_19 (by decide) (fun c2 => ?_) (fun c2 => ?_)
      · unfold srcB at h
        rw [if_neg c2] at h
        refine lv_iinc (v := nI (j + 1)) (lv' := [(5, .int (nI (j + 1))), (0, .ref (gV G k)), (3, .int (nI (lnB k))), (4, .int x.toInt8.toInt32)]) hx hb dJ1_indexOfChar_4cfef_25 hl (k := 3) rfl (by rw [ki_1]; exact (Int32.ofNat_add j 1).symm) (by decide) rfl (fun ls hl => ?_)
        refine lv_goto (tgt := 7) hx hb dJ1_indexOfChar_4cfef_28 (by decide) ?_
        exact ih (j + 1) ls (by omega) (lv_sub hl [1, 2, 3, 0] rfl) h
      · unfold srcB at h
        rw [if_pos c2] at h
        refine lv_iload hx hb dJ1_indexOfChar_4cfef_22 (lv_at hl 3 rfl) ?_
        exact m_iret S hret hlocks hKX hW hbs hS rfl h dJ1_indexOfChar_4cfef_24
  refine lv_iload_n hx hb dJ1_indexOfChar_4cfef_0 rfl (lv_at hl 1 rfl) ?_
  refine lv_i2b hx hb dJ1_indexOfChar_4cfef_1 rfl ?_
  refine lv_istore (lv' := [(4, .int x.toInt8.toInt32), (0, .ref (gV G k)), (1, .int x), (2, .int 0), (3, .int (nI (lnB k)))]) hx hb dJ1_indexOfChar_4cfef_2 hl (by decide) rfl (fun ls hl => ?_)
  refine lv_iload_n hx hb dJ1_indexOfChar_4cfef_4 rfl (lv_at hl 3 rfl) ?_
  refine lv_istore (lv' := [(5, .int 0), (4, .int x.toInt8.toInt32), (0, .ref (gV G k)), (1, .int x), (2, .int 0), (3, .int (nI (lnB k)))]) hx hb dJ1_indexOfChar_4cfef_5 hl (by decide) rfl (fun ls hl => ?_)
  exact loop (lnB k) 0 ls (by omega) (lv_sub hl [2, 5, 1, 0] rfl) h
/-- what the library answers -/
def libB (k : Nat) (x : Int32) : Int32 := if x < 0 then -1 else if 255 < x then -1 else srcB x.toInt8.toInt32 k (lnB k) 0
set_option maxHeartbeats 4000000 in
theorem c_J1_indexOf (l : Launch) {G : Gn} {k : Nat} {x : Int32} {M : Mem} {P : Int32 → Mem → Prop} (hk : k < 4) : MQi l yJ1_indexOf_4cfef cJ1_indexOf_4cfef 4 (some .int) rm_J1 [.ref (gV G k), .int x, .int 0, .int (nI (lnB k))] G M (P (libB k x) M) P := by
  refine m_enter (by decide +kernel) (Nat.le_of_ble_eq_true rfl) ?_
  intro p e s m below meth c ls H locs S hret hlocks hname hKX hbs hW hS hl h
  obtain ⟨AV, hAV⟩ : ∃ z : Array Value, z = ([.ref (gV G k), .int x, .int 0, .int (nI (lnB k))] : List Value).toArray := ⟨_, rfl⟩
  rw [← hAV] at S ⊢
  replace S : CallFix p m c cJ1_indexOf_4cfef 4 s AV lw_G "java/lang/StringLatin1" := S
  have hx := S.1
  have hb := S.2.1
  have hml := S.2.2.1
  have hown := S.2.2.2.1
  have hts := S.2.2.2.2
  have l10 := (lnB_10 hk).1
  have l1 : 1 ≤ lnB k := by
    rcases (show k = 0 ∨ k = 1 ∨ k = 2 ∨ k = 3 by omega) with rfl | rfl | rfl | rfl <;> decide
  replace hl : lv_has ls 4 [(0, .ref (gV G k)), (1, .int x), (2, .int 0), (3, .int (nI (lnB k)))] := hl
  refine lv_iload_n hx hb dJ1_indexOf_4cfef_0 rfl (lv_at hl 1 rfl) ?_
  refine m_ci0 (m_rS S hKX hW (m_szH hbs hS) (c_J1_canEncode l (P := fun r M1 => r = (if x < 0 then 0 else if 255 < x then 0 else 1) ∧ M1 = M)) ⟨rfl, rfl⟩ lk_J1_88 rfl hl.1 rfl ⟨Nat.le_of_ble_eq_true rfl, Nat.le_of_ble_eq_true rfl⟩ (Nat.le_of_ble_eq_true rfl) ⟨Nat.le_of_ble_eq_true rfl, Nat.le_of_ble_eq_true rfl⟩ dJ1_indexOf_4cfef_1) hS rfl rfl (fun r M1 H locs hr hW hS => ?_)
  obtain ⟨hr, eM⟩ := hr
  rw [eM] at hW
  unfold libB at h
  refine lv_if_ne (tgt := 9) hx hb dJ1_indexOf_4cfef_4 (by decide) (fun c4 => ?_) (fun c4 => ?_)
  · have n0 : ¬ x < 0 := fun z => c4 (by rw [hr, if_pos z])
    have n1 : ¬ 255 < x := fun z => c4 (by rw [hr, if_neg n0, if_pos z])
    rw [if_neg n0, if_neg n1] at h
    refine lv_iload_n hx hb dJ1_indexOf_4cfef_9 rfl (lv_at hl 2 rfl) ?_
    refine lv_iconst hx hb dJ1_indexOf_4cfef_10 ki_0 ?_
    refine va_mmax hx hb (hml.trans hl.1.symm) hown (hts _ tw_4) (hts _ aw_7) (hts _ mw_13) (hts _ aw_8) (Nat.le_of_ble_eq_true rfl) (Nat.le_of_ble_eq_true rfl) (Nat.zero_le _) (Nat.zero_le _) dJ1_indexOf_4cfef_11 ?_
    rw [if_neg (show ¬ (0 : Int32) < 0 by decide)]
    refine lv_istore_n (lv' := [(2, .int 0), (0, .ref (gV G k)), (1, .int x), (3, .int (nI (lnB k)))]) hx hb dJ1_indexOf_4cfef_14 rfl hl (by decide) rfl (fun ls hl => ?_)
    refine lv_iload_n hx hb dJ1_indexOf_4cfef_15 rfl (lv_at hl 3 rfl) ?_
    refine lv_aload_n hx hb dJ1_indexOf_4cfef_16 rfl (lv_at hl 1 rfl) ?_
    refine x_len S hKX hW hk dJ1_indexOf_4cfef_17 ?_
    refine va_mmin hx hb (hml.trans hl.1.symm) hown (hts _ tw_5) (hts _ aw_19) (hts _ mw_13) (hts _ aw_20) (Nat.le_of_ble_eq_true rfl) (Nat.le_of_ble_eq_true rfl) (Nat.zero_le _) (Nat.zero_le _) dJ1_indexOf_4cfef_18 ?_
    rw [if_neg (show ¬ nI (lnB k) < nI (lnB k) from Int32.lt_irrefl)]
    refine lv_istore_n (lv' := [(3, .int (nI (lnB k))), (2, .int 0), (0, .ref (gV G k)), (1, .int x)]) hx hb dJ1_indexOf_4cfef_21 rfl hl (by decide) rfl (fun ls hl => ?_)
    refine lv_iload_n hx hb dJ1_indexOf_4cfef_22 rfl (lv_at hl 1 rfl) ?_
    refine lv_iload_n hx hb dJ1_indexOf_4cfef_23 rfl (lv_at hl 0 rfl) ?_
    refine lv_icmp_lt (tgt := 29) hx hb dJ1_indexOf_4cfef_24 (by decide) (fun c5 => ?_) (fun c5 => ?_)
    · refine lv_aload_n hx hb dJ1_indexOf_4cfef_29 rfl (lv_at hl 2 rfl) ?_
      refine lv_iload_n hx hb dJ1_indexOf_4cfef_30 rfl (lv_at hl 3 rfl) ?_
      refine lv_iload_n hx hb dJ1_indexOf_4cfef_31 rfl (lv_at hl 1 rfl) ?_
      refine lv_iload_n hx hb dJ1_indexOf_4cfef_32 rfl (lv_at hl 0 rfl) ?_
      refine m_ci0 (m_rS S hKX hW (m_szH hbs hS) (c_J1_indexOfChar l hk (x := x) (P := P)) h lk_J1_95 rfl hl.1 rfl ⟨Nat.le_of_ble_eq_true rfl, Nat.le_of_ble_eq_true rfl⟩ (Nat.le_of_ble_eq_true rfl) ⟨Nat.le_of_ble_eq_true rfl, Nat.le_of_ble_eq_true rfl⟩ dJ1_indexOf_4cfef_33) hS rfl rfl (fun r M1 H locs hr hW hS => ?_)
      exact m_iret S hret hlocks hKX hW hbs hS rfl hr dJ1_indexOf_4cfef_36
    · exfalso
      have e0 : (0 : Int32) = nI 0 := rfl
      rw [Int32.not_lt, e0, nI_b (by omega) (by omega)] at c5
      omega
  · have h' : P (-1) M := by
      by_cases n0 : x < 0
      · rw [if_pos n0] at h; exact h
      · rw [if_neg n0] at h hr
        by_cases n1 : 255 < x
        · rw [if_pos n1] at h; exact h
        · rw [if_neg n1] at hr
          rw [hr] at c4
          exact absurd c4 (by decide)
    refine lv_iconst hx hb dJ1_indexOf_4cfef_7 ki_m1 ?_
    exact m_iret S hret hlocks hKX hW hbs hS rfl h' dJ1_indexOf_4cfef_8
set_option maxHeartbeats 4000000 in
theorem c_J0_indexOf2 (l : Launch) {G : Gn} {k : Nat} {x : Int32} {M : Mem} {P : Int32 → Mem → Prop} (hk : k < 4) : MQi l yJ0_indexOf_7cf53 cJ0_indexOf_7cf53 3 (some .int) rm_J2 [.ref (gK G k), .int x, .int 0] G M (P (libB k x) M) P := by
  refine m_enter (by decide +kernel) (Nat.le_of_ble_eq_true rfl) ?_
  intro p e s m below meth c ls H locs S hret hlocks hname hKX hbs hW hS hl h
  obtain ⟨AV, hAV⟩ : ∃ z : Array Value, z = ([.ref (gK G k), .int x, .int 0] : List Value).toArray := ⟨_, rfl⟩
  rw [← hAV] at S ⊢
  replace S : CallFix p m c cJ0_indexOf_7cf53 3 s AV lw_G "java/lang/String" := S
  have hx := S.1
  have hb := S.2.1
  replace hl : lv_has ls 3 [(0, .ref (gK G k)), (1, .int x), (2, .int 0)] := hl
  refine lv_aload_n hx hb dJ0_indexOf_7cf53_0 rfl (lv_at hl 0 rfl) ?_
  refine m_ci0 (m_rV S hKX hW (m_szH hbs hS) (c_J0_isLatin1 l hk (P := fun r M1 => r = 1 ∧ M1 = M)) ⟨rfl, rfl⟩ lk_J0_492 (x_recv hKX hW hk) rfl hl.1 rfl ⟨Nat.le_of_ble_eq_true rfl, Nat.le_of_ble_eq_true rfl⟩ (Nat.le_of_ble_eq_true rfl) ⟨Nat.le_of_ble_eq_true rfl, Nat.le_of_ble_eq_true rfl⟩ dJ0_indexOf_7cf53_1) hS rfl rfl (fun r M1 H locs hr hW hS => ?_)
  obtain ⟨rfl, eM⟩ := hr
  rw [eM] at hW
  refine lv_if_eq (tgt := 23) hx hb dJ0_indexOf_7cf53_4 (by decide) (fun c3 => absurd c3 (by decide)) (fun c3 => ?_)
  refine lv_aload_n hx hb dJ0_indexOf_7cf53_7 rfl (lv_at hl 0 rfl) ?_
  refine x_value S hKX hW hk dJ0_indexOf_7cf53_8 ?_
  refine lv_iload_n hx hb dJ0_indexOf_7cf53_11 rfl (lv_at hl 1 rfl) ?_
  refine lv_iload_n hx hb dJ0_indexOf_7cf53_12 rfl (lv_at hl 2 rfl) ?_
  refine lv_aload_n hx hb dJ0_indexOf_7cf53_13 rfl (lv_at hl 0 rfl) ?_
  refine m_ci0 (m_rV S hKX hW (m_szH hbs hS) (c_J0_length l hk (P := fun r M2 => r = nI (lnB k) ∧ M2 = M)) ⟨rfl, rfl⟩ lk_J0_505 (x_recv hKX hW hk) rfl hl.1 rfl ⟨Nat.le_of_ble_eq_true rfl, Nat.le_of_ble_eq_true rfl⟩ (Nat.le_of_ble_eq_true rfl) ⟨Nat.le_of_ble_eq_true rfl, Nat.le_of_ble_eq_true rfl⟩ dJ0_indexOf_7cf53_14) hS rfl rfl (fun r M2 H locs hr hW hS => ?_)
  obtain ⟨rfl, eM⟩ := hr
  rw [eM] at hW
  refine m_ci0 (m_rS S hKX hW (m_szH hbs hS) (c_J1_indexOf l hk (x := x) (P := P)) h lk_J0_637 rfl hl.1 rfl ⟨Nat.le_of_ble_eq_true rfl, Nat.le_of_ble_eq_true rfl⟩ (Nat.le_of_ble_eq_true rfl) ⟨Nat.le_of_ble_eq_true rfl, Nat.le_of_ble_eq_true rfl⟩ dJ0_indexOf_7cf53_17) hS rfl rfl (fun r M3 H locs hr hW hS => ?_)
  refine lv_goto (tgt := 36) hx hb dJ0_indexOf_7cf53_20 (by decide) ?_
  exact m_iret S hret hlocks hKX hW hbs hS rfl hr dJ0_indexOf_7cf53_36
set_option maxHeartbeats 4000000 in
theorem c_J0_indexOf1 (l : Launch) {G : Gn} {k : Nat} {x : Int32} {M : Mem} {P : Int32 → Mem → Prop} (hk : k < 4) : MQi l yJ0_indexOf_0f7a4 cJ0_indexOf_0f7a4 2 (some .int) rm_J3 [.ref (gK G k), .int x] G M (P (libB k x) M) P := by
  refine m_enter (by decide +kernel) (Nat.le_of_ble_eq_true rfl) ?_
  intro p e s m below meth c ls H locs S hret hlocks hname hKX hbs hW hS hl h
  obtain ⟨AV, hAV⟩ : ∃ z : Array Value, z = ([.ref (gK G k), .int x] : List Value).toArray := ⟨_, rfl⟩
  rw [← hAV] at S ⊢
  replace S : CallFix p m c cJ0_indexOf_0f7a4 2 s AV lw_G "java/lang/String" := S
  have hx := S.1
  have hb := S.2.1
  replace hl : lv_has ls 2 [(0, .ref (gK G k)), (1, .int x)] := hl
  refine lv_aload_n hx hb dJ0_indexOf_0f7a4_0 rfl (lv_at hl 0 rfl) ?_
  refine lv_iload_n hx hb dJ0_indexOf_0f7a4_1 rfl (lv_at hl 1 rfl) ?_
  refine lv_iconst hx hb dJ0_indexOf_0f7a4_2 ki_0 ?_
  refine m_ci0 (m_rV S hKX hW (m_szH hbs hS) (c_J0_indexOf2 l hk (x := x) (P := P)) h lk_J0_633 (x_recv hKX hW hk) rfl hl.1 rfl ⟨Nat.le_of_ble_eq_true rfl, Nat.le_of_ble_eq_true rfl⟩ (Nat.le_of_ble_eq_true rfl) ⟨Nat.le_of_ble_eq_true rfl, Nat.le_of_ble_eq_true rfl⟩ dJ0_indexOf_0f7a4_3) hS rfl rfl (fun r M1 H locs hr hW hS => ?_)
  exact m_iret S hret hlocks hKX hW hbs hS rfl hr dJ0_indexOf_0f7a4_6
theorem b255 : ∀ k, k < 4 → ∀ j, j < 10 → ∀ n : Nat, n < 256 → (((txB k).getD j 0 = (nI n).toInt8.toInt32 ∧ j < (txB k).length) ↔ ((txB k).getD j 0 &&& 255 = nI n ∧ j < (txB k).length)) := by decide +kernel
theorem b127 : ∀ k, k < 4 → ∀ j, j < 10 → ((txB k).getD j 0 &&& 255).toInt < 256 := by decide +kernel
theorem lib_plc {k : Nat} (hk : k < 4) {x : Int32} (hx : ¬ x < 0) : libB k x = ixF x (txB k) 0 := by
  have hx0 : 0 ≤ x.toInt := by
    rw [Int32.lt_iff_toInt_lt] at hx
    have : (0 : Int32).toInt = 0 := by decide
    omega
  have e255 : (255 : Int32).toInt = 255 := by decide
  obtain ⟨l10, el⟩ := lnB_10 hk
  unfold libB
  rw [if_neg hx]
  have gd : ∀ j, j < (txB k).length → (txB k).drop j = (txB k).getD j 0 :: (txB k).drop (j + 1) := fun j hj => by
    rw [List.drop_eq_getElem_cons hj, List.getD_eq_getElem?_getD, List.getElem?_eq_getElem hj]
    rfl
  by_cases h : 255 < x
  · rw [if_pos h]
    rw [Int32.lt_iff_toInt_lt, e255] at h
    have key : ∀ r j, j + r = (txB k).length → (-1 : Int32) = ixF x ((txB k).drop j) j := by
      intro r
      induction r with
      | zero =>
        intro j hj
        rw [List.drop_eq_nil_of_le (by omega)]
        rfl
      | succ r ih =>
        intro j hj
        rw [gd j (by omega)]
        unfold ixF
        rw [if_neg (fun z => by have := b127 k hk j (by omega); rw [z] at this; omega)]
        exact ih (j + 1) (by omega)
    exact key _ 0 (Nat.zero_add _)
  · rw [if_neg h]
    rw [Int32.lt_iff_toInt_lt, e255] at h
    have ex : x = nI x.toInt.toNat := by
      apply Int32.toInt_inj.mp
      rw [nI_toInt (by omega)]
      omega
    have key : ∀ r j, j + r = (txB k).length → srcB x.toInt8.toInt32 k r j = ixF x ((txB k).drop j) j := by
      intro r
      induction r with
      | zero =>
        intro j hj
        rw [List.drop_eq_nil_of_le (by omega)]
        rfl
      | succ r ih =>
        intro j hj
        have bb := b255 k hk j (by omega) x.toInt.toNat (by omega)
        rw [← ex] at bb
        rw [gd j (by omega)]
        unfold srcB ixF
        by_cases z : (txB k).getD j 0 = x.toInt8.toInt32
        · rw [if_pos z, if_pos (bb.mp ⟨z, by omega⟩).1]
        · rw [if_neg z, if_neg (fun y => z (bb.mpr ⟨y, by omega⟩).1)]
          exact ih (j + 1) (by omega)
    have := key _ 0 (Nat.zero_add _)
    rw [el] at this
    exact this
abbrev rm_X2_placeOf : Room := { frames := 6, cells := 0, slots := 0, locals := 200 }
theorem i2c_nn (x : Int32) : ¬ (x.toUInt32 % 65536).toInt32 < 0 := by
  rw [Int32.lt_iff_toInt_lt]
  have h : (x.toUInt32 % 65536).toNat < 65536 := by
    rw [UInt32.toNat_mod]
    exact Nat.mod_lt _ (by decide)
  have e : (x.toUInt32 % 65536).toInt32 = nI (x.toUInt32 % 65536).toNat := by
    generalize (x.toUInt32 % 65536) = u
    exact (congrArg UInt32.toInt32 (UInt32.ofNat_toNat (x := u))).symm
  rw [e, nI_toInt (by omega)]
  have : (0 : Int32).toInt = 0 := by decide
  omega
set_option maxHeartbeats 4000000 in
theorem c_X2_placeOf (l : Launch) {G : Gn} {k : Nat} {M : Mem} {x : Int32} {P : Int32 → Mem → Prop} (hk : k < 4) : MQi l yX2_placeOf cX2_placeOf 2 (some .int) rm_X2_placeOf [.int x, .ref (gK G k)] G M (s_X2_placeOf k M x P) P := by
  refine m_enter (by decide +kernel) (Nat.le_of_ble_eq_true rfl) ?_
  intro p e s m below meth c ls H locs S hret hlocks hname hKX hbs hW hS hl h
  obtain ⟨AV, hAV⟩ : ∃ z : Array Value, z = ([.int x, .ref (gK G k)] : List Value).toArray := ⟨_, rfl⟩
  rw [← hAV] at S ⊢
  replace S : CallFix p m c cX2_placeOf 2 s AV lw_G "MilkDesk$ActReader" := S
  have hx := S.1
  have hb := S.2.1
  replace hl : lv_has ls 2 [(0, .int x), (1, .ref (gK G k))] := hl
  unfold s_X2_placeOf plc at h
  refine lv_iload_n hx hb dX2_placeOf_0 rfl (lv_at hl 0 rfl) ?_
  refine lv_if_ge (tgt := 8) hx hb dX2_placeOf_1 (by decide) (fun c1 => ?_) (fun c1 => ?_)
  · rw [if_neg (Int32.not_lt.mpr c1), ← lib_plc hk (i2c_nn x)] at h
    refine lv_aload_n hx hb dX2_placeOf_8 rfl (lv_at hl 1 rfl) ?_
    refine lv_iload_n hx hb dX2_placeOf_9 rfl (lv_at hl 0 rfl) ?_
    refine lv_i2c hx hb dX2_placeOf_10 rfl ?_
    refine m_ci0 (m_rV S hKX hW (m_szH hbs hS) (c_J0_indexOf1 l hk (P := P)) h lk_X2_71 (x_recv hKX hW hk) rfl hl.1 rfl ⟨Nat.le_of_ble_eq_true rfl, Nat.le_of_ble_eq_true rfl⟩ (Nat.le_of_ble_eq_true rfl) ⟨Nat.le_of_ble_eq_true rfl, Nat.le_of_ble_eq_true rfl⟩ dX2_placeOf_11) hS rfl rfl (fun r M1 H locs hr hW hS => ?_)
    exact m_iret S hret hlocks hKX hW hbs hS rfl hr dX2_placeOf_14
  · rw [if_pos (Int32.not_le.mp c1)] at h
    refine lv_iconst hx hb dX2_placeOf_4 ki_m1 ?_
    refine lv_goto (tgt := 14) hx hb dX2_placeOf_5 (by decide) ?_
    exact m_iret S hret hlocks hKX hW hbs hS rfl h dX2_placeOf_14
