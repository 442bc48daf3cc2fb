/-! THE DESK -/
theorem k_setX {o v : va_E} {X Y : List va_E} {n j : Nat} (h : X.length = n) : (o :: (X ++ Y)).set (n + j + 1) v = o :: (X ++ Y.set j v) := by
  rw [List.set_cons_succ, List.set_append_right _ _ (by omega), h, Nat.add_sub_cancel_left]
theorem k_getX {o : va_E} {X Y : List va_E} {n j : Nat} {r : Option va_E} (h : X.length = n) (hr : Y[j]? = r) : (o :: (X ++ Y))[n + j + 1]? = r := by
  show (X ++ Y)[n + j]? = r
  rw [List.getElem?_append_right (by omega), h, Nat.add_sub_cancel_left]
  exact hr
theorem k_blkX {G : Gn} {a : Nat} {o : va_E} {X Y Z : List va_E} {H : Heap} (h : Blk G a ((o :: (X ++ Y)) ++ Z) H) : Blk G a (o :: (X ++ (Y ++ Z))) H := by
  rw [← List.append_assoc]
  exact h
def bX11s (G : Gn) (a : Nat) : List va_E := ((((bX10 G (a + 1) ++ bX10 G (a + 34)) ++ bX10 G (a + 67)) ++ bX2 G (a + 100)) ++ bX7 G (a + 103))
def bX11t (G : Gn) (a : Nat) : List va_E := [.inl (gS G, 8, .inr (.inr (.inr (.inr (va_up (va_up (va_up (va_up (va_up (va_up (va_up (va_up (fun _ => none) 0 (some (a + 111))) 1 (some (a + 113))) 2 (some (a + 115))) 3 (some (a + 117))) 4 (some (a + 119))) 5 (some (a + 121))) 6 (some (a + 123))) 7 (some (a + 125)))))))] ++ bX9 G (a + 111) ++ bX9 G (a + 113) ++ bX9 G (a + 115) ++ bX9 G (a + 117) ++ bX9 G (a + 119) ++ bX9 G (a + 121) ++ bX9 G (a + 123) ++ bX9 G (a + 125)
def bX11 (G : Gn) (a : Nat) : List va_E := .inr (10, [.ref (a + 1), .ref (a + 34), .ref (a + 67), .int 0, .ref (a + 110), .ref (a + 100), .ref (a + 103)]) :: (bX11s G a ++ bX11t G a)
abbrev rm_X11_init : Room := { frames := 3, cells := 126, slots := 3203, locals := 81 }
set_option maxHeartbeats 4000000 in
set_option maxRecDepth 100000 in
theorem c_X11_init (l : Launch) {G : Gn} {a : Nat} : MQk l yX11_init cX11_init 2 rm_X11_init [.ref a] (fun _ => True) G a (.inr (10, [.null, .null, .null, .int 0, .null, .null, .null])) (bX11 G a) := by
  refine k_enter (by decide +kernel) rfl (Nat.le_of_ble_eq_true rfl) ?_
  intro p e s m AV below meth c ls H locs S hret hlocks hname hKC hO hba hsz hB hS hl hz
  replace S : CallFix p m c cX11_init 2 s AV lw_G "MilkDesk" := S
  have hK := hKC.1.1
  have hx := S.1
  have hb := S.2.1
  have hml := S.2.2.1
  have hown := S.2.2.2.1
  have hts := S.2.2.2.2
  replace hl : lv_has ls 2 [(0, .ref a)] := hl
  refine lv_aload_n hx hb dX11_init_0 rfl (lv_at hl 0 rfl) ?_
  refine k_obj S hl.1 mw_32 dX11_init_1 (Nat.le_of_ble_eq_true rfl) (Nat.le_of_ble_eq_true rfl) ?_
  refine lv_aload_n hx hb dX11_init_4 rfl (lv_at hl 0 rfl) ?_
  refine k_new S hK (ci := 9) rfl in_wsX100 tyX10 tyX10_ok mw_35 mw_36 iw_X10 hS hB (n := 1) (by rfl) (fs := [.int 0, .null, .null, .null, .null, .null, .null, .null, .null, .int 0]) rfl (Nat.le_of_ble_eq_true rfl) (Nat.le_of_ble_eq_true rfl) dX11_init_5 (fun H hB hS => ?_)
  refine lv_dup hx hb dX11_init_8 rfl ?_
  refine k_ctor (rm := rm_X10_init) (n := 0) (nb := 1) (es := [.inr (10, [.null, .null, .null, .int 0, .null, .null, .null])]) S hKC (k_old hO hba hsz hS) hba hS hB (by rfl) (c_X10_init l (G := G) (a := a + 1)) trivial mw_37 mw_38 iy_X10 mw_39 ⟨by decide +kernel, by decide +kernel, by decide +kernel⟩ rfl rfl hl.1 rfl ⟨Nat.le_of_ble_eq_true rfl, Nat.le_of_ble_eq_true rfl⟩ (Nat.le_of_ble_eq_true rfl) ⟨Nat.le_of_ble_eq_true rfl, Nat.le_of_ble_eq_true rfl⟩ dX11_init_9 (fun H locs hB hS => ?_)
  obtain ⟨X0, ex0, el0, ew0⟩ : ∃ z : List va_E, z = bX10 G (a + 1) ∧ z.length = 33 ∧ z[0]? = some (.inr (9, fW G (a + 1))) := ⟨_, rfl, rfl, rfl⟩
  replace hB : Blk G a (.inr (10, [.null, .null, .null, .int 0, .null, .null, .null]) :: X0) H := by rw [ex0]; exact hB
  refine k_putF (a := a) (j := 0) S hK fk_X11_12 tyX11_ok nmX11 rfl hname rfl rfl rfl hB rfl (Nat.le_of_ble_eq_true rfl) hS dX11_init_12 (fun H locs hB hS => ?_)
  replace hB : Blk G a (.inr (10, [.ref (a + 1), .null, .null, .int 0, .null, .null, .null]) :: X0) H := hB
  refine lv_aload_n hx hb dX11_init_15 rfl (lv_at hl 0 rfl) ?_
  refine k_new S hK (ci := 9) rfl in_wsX100 tyX10 tyX10_ok mw_35 mw_36 iw_X10 hS hB (n := 34) (by show X0.length + 1 = 34; rw [el0]) (fs := [.int 0, .null, .null, .null, .null, .null, .null, .null, .null, .int 0]) rfl (Nat.le_of_ble_eq_true rfl) (Nat.le_of_ble_eq_true rfl) dX11_init_16 (fun H hB hS => ?_)
  refine lv_dup hx hb dX11_init_19 rfl ?_
  refine k_ctor (rm := rm_X10_init) (n := 0) (nb := 34) (es := (.inr (10, [.ref (a + 1), .null, .null, .int 0, .null, .null, .null]) :: X0)) S hKC (k_old hO hba hsz hS) hba hS hB (by show X0.length + 1 = 34; rw [el0]) (c_X10_init l (G := G) (a := a + 34)) trivial mw_37 mw_38 iy_X10 mw_39 ⟨by decide +kernel, by decide +kernel, by decide +kernel⟩ rfl rfl hl.1 rfl ⟨Nat.le_of_ble_eq_true rfl, Nat.le_of_ble_eq_true rfl⟩ (Nat.le_of_ble_eq_true rfl) ⟨Nat.le_of_ble_eq_true rfl, Nat.le_of_ble_eq_true rfl⟩ dX11_init_20 (fun H locs hB hS => ?_)
  obtain ⟨X1, ex1, el1, ew1⟩ : ∃ z : List va_E, z = X0 ++ bX10 G (a + 34) ∧ z.length = 66 ∧ z[0]? = some (.inr (9, fW G (a + 1))) := ⟨_, rfl, by rw [List.length_append, el0]; rfl, by rw [List.getElem?_append_left (by omega)]; exact ew0⟩
  replace hB : Blk G a (.inr (10, [.ref (a + 1), .null, .null, .int 0, .null, .null, .null]) :: X1) H := by rw [ex1]; exact hB
  refine k_putF (a := a) (j := 0) S hK fk_X11_16 tyX11_ok nmX11 rfl hname rfl rfl rfl hB rfl (Nat.le_of_ble_eq_true rfl) hS dX11_init_23 (fun H locs hB hS => ?_)
  replace hB : Blk G a (.inr (10, [.ref (a + 1), .ref (a + 34), .null, .int 0, .null, .null, .null]) :: X1) H := hB
  refine lv_aload_n hx hb dX11_init_26 rfl (lv_at hl 0 rfl) ?_
  refine k_new S hK (ci := 9) rfl in_wsX100 tyX10 tyX10_ok mw_35 mw_36 iw_X10 hS hB (n := 67) (by show X1.length + 1 = 67; rw [el1]) (fs := [.int 0, .null, .null, .null, .null, .null, .null, .null, .null, .int 0]) rfl (Nat.le_of_ble_eq_true rfl) (Nat.le_of_ble_eq_true rfl) dX11_init_27 (fun H hB hS => ?_)
  refine lv_dup hx hb dX11_init_30 rfl ?_
  refine k_ctor (rm := rm_X10_init) (n := 0) (nb := 67) (es := (.inr (10, [.ref (a + 1), .ref (a + 34), .null, .int 0, .null, .null, .null]) :: X1)) S hKC (k_old hO hba hsz hS) hba hS hB (by show X1.length + 1 = 67; rw [el1]) (c_X10_init l (G := G) (a := a + 67)) trivial mw_37 mw_38 iy_X10 mw_39 ⟨by decide +kernel, by decide +kernel, by decide +kernel⟩ rfl rfl hl.1 rfl ⟨Nat.le_of_ble_eq_true rfl, Nat.le_of_ble_eq_true rfl⟩ (Nat.le_of_ble_eq_true rfl) ⟨Nat.le_of_ble_eq_true rfl, Nat.le_of_ble_eq_true rfl⟩ dX11_init_31 (fun H locs hB hS => ?_)
  obtain ⟨X2, ex2, el2, ew2⟩ : ∃ z : List va_E, z = X1 ++ bX10 G (a + 67) ∧ z.length = 99 ∧ z[0]? = some (.inr (9, fW G (a + 1))) := ⟨_, rfl, by rw [List.length_append, el1]; rfl, by rw [List.getElem?_append_left (by omega)]; exact ew1⟩
  replace hB : Blk G a (.inr (10, [.ref (a + 1), .ref (a + 34), .null, .int 0, .null, .null, .null]) :: X2) H := by rw [ex2]; exact hB
  refine k_putF (a := a) (j := 0) S hK fk_X11_19 tyX11_ok nmX11 rfl hname rfl rfl rfl hB rfl (Nat.le_of_ble_eq_true rfl) hS dX11_init_34 (fun H locs hB hS => ?_)
  replace hB : Blk G a (.inr (10, [.ref (a + 1), .ref (a + 34), .ref (a + 67), .int 0, .null, .null, .null]) :: X2) H := hB
  refine lv_aload_n hx hb dX11_init_37 rfl (lv_at hl 0 rfl) ?_
  refine k_new S hK (ci := 2) rfl in_wsX20 tyX2 tyX2_ok mw_252 mw_253 iw_X2 hS hB (n := 100) (by show X2.length + 1 = 100; rw [el2]) (fs := [.null, .int 0, .int 0, .null, .int 0, .int 0, .int 0]) rfl (Nat.le_of_ble_eq_true rfl) (Nat.le_of_ble_eq_true rfl) dX11_init_38 (fun H hB hS => ?_)
  refine lv_dup hx hb dX11_init_41 rfl ?_
  refine k_ctorN (rm := rm_X2_init) (n := 0) (nb := 100) (es := (.inr (10, [.ref (a + 1), .ref (a + 34), .ref (a + 67), .int 0, .null, .null, .null]) :: X2)) S hKC (k_old hO hba hsz hS) hba hS hB (by show X2.length + 1 = 100; rw [el2]) (c_X2_init l (G := G) (a := a + 100)) trivial mt_254 mw_255 iy_X2 mw_256 ⟨by decide +kernel, by decide +kernel, by decide +kernel⟩ rfl rfl hl.1 rfl ⟨Nat.le_of_ble_eq_true rfl, Nat.le_of_ble_eq_true rfl⟩ (Nat.le_of_ble_eq_true rfl) ⟨Nat.le_of_ble_eq_true rfl, Nat.le_of_ble_eq_true rfl⟩ dX11_init_42 (fun H locs hB hS => ?_)
  obtain ⟨X3, ex3, el3, ew3⟩ : ∃ z : List va_E, z = X2 ++ bX2 G (a + 100) ∧ z.length = 102 ∧ z[0]? = some (.inr (9, fW G (a + 1))) := ⟨_, rfl, by rw [List.length_append, el2]; rfl, by rw [List.getElem?_append_left (by omega)]; exact ew2⟩
  replace hB : Blk G a (.inr (10, [.ref (a + 1), .ref (a + 34), .ref (a + 67), .int 0, .null, .null, .null]) :: X3) H := by rw [ex3]; exact hB
  refine k_putF (a := a) (j := 0) S hK fk_X11_25 tyX11_ok nmX11 rfl hname rfl rfl rfl hB rfl (Nat.le_of_ble_eq_true rfl) hS dX11_init_45 (fun H locs hB hS => ?_)
  replace hB : Blk G a (.inr (10, [.ref (a + 1), .ref (a + 34), .ref (a + 67), .int 0, .null, .ref (a + 100), .null]) :: X3) H := hB
  refine lv_aload_n hx hb dX11_init_48 rfl (lv_at hl 0 rfl) ?_
  refine k_new S hK (ci := 6) rfl in_wsX70 tyX7 tyX7_ok mw_280 mw_281 iw_X7 hS hB (n := 103) (by show X3.length + 1 = 103; rw [el3]) (fs := [.int 0, .null, .null, .null, .null, .null, .null, .int 0, .int 0, .int 0, .int 0, .int 0]) rfl (Nat.le_of_ble_eq_true rfl) (Nat.le_of_ble_eq_true rfl) dX11_init_49 (fun H hB hS => ?_)
  refine lv_dup hx hb dX11_init_52 rfl ?_
  refine k_ctorN (rm := rm_X7_init) (n := 0) (nb := 103) (es := (.inr (10, [.ref (a + 1), .ref (a + 34), .ref (a + 67), .int 0, .null, .ref (a + 100), .null]) :: X3)) S hKC (k_old hO hba hsz hS) hba hS hB (by show X3.length + 1 = 103; rw [el3]) (c_X7_init l (G := G) (a := a + 103)) trivial mt_282 mw_283 iy_X7 mw_284 ⟨by decide +kernel, by decide +kernel, by decide +kernel⟩ rfl rfl hl.1 rfl ⟨Nat.le_of_ble_eq_true rfl, Nat.le_of_ble_eq_true rfl⟩ (Nat.le_of_ble_eq_true rfl) ⟨Nat.le_of_ble_eq_true rfl, Nat.le_of_ble_eq_true rfl⟩ dX11_init_53 (fun H locs hB hS => ?_)
  obtain ⟨X4, ex4, el4, ew4⟩ : ∃ z : List va_E, z = X3 ++ bX7 G (a + 103) ∧ z.length = 109 ∧ z[0]? = some (.inr (9, fW G (a + 1))) := ⟨_, rfl, by rw [List.length_append, el3]; rfl, by rw [List.getElem?_append_left (by omega)]; exact ew3⟩
  replace hB : Blk G a (.inr (10, [.ref (a + 1), .ref (a + 34), .ref (a + 67), .int 0, .null, .ref (a + 100), .null]) :: X4) H := by rw [ex4]; exact hB
  refine k_putF (a := a) (j := 0) S hK fk_X11_32 tyX11_ok nmX11 rfl hname rfl rfl rfl hB rfl (Nat.le_of_ble_eq_true rfl) hS dX11_init_56 (fun H locs hB hS => ?_)
  replace hB : Blk G a (.inr (10, [.ref (a + 1), .ref (a + 34), .ref (a + 67), .int 0, .null, .ref (a + 100), .ref (a + 103)]) :: X4) H := hB
  refine lv_aload_n hx hb dX11_init_59 rfl (lv_at hl 0 rfl) ?_
  refine lv_bipush hx hb dX11_init_60 kb_8 ?_
  refine k_newq S (C := RX9) (cA := gS G) (hK.2 3 _ rfl).2 hKC.2.2 mw_324 hS hB (N := 8) (z := 110) (by show X4.length + 1 = 110; rw [el4]) kn_8 (Nat.le_of_ble_eq_true rfl) (Nat.le_of_ble_eq_true rfl) (Nat.le_of_ble_eq_true rfl) dX11_init_62 (fun H hB hS => ?_)
  replace hB : Blk G a (.inr (10, [.ref (a + 1), .ref (a + 34), .ref (a + 67), .int 0, .null, .ref (a + 100), .ref (a + 103)]) :: (X4 ++ ([.inl (gS G, 8, .inr (.inr (.inr (.inr (fun _ => none)))))] : List va_E))) H := hB
  refine k_putF (a := a) (j := 0) S hK fk_X11_38 tyX11_ok nmX11 rfl hname rfl rfl rfl hB rfl (Nat.le_of_ble_eq_true rfl) hS dX11_init_65 (fun H locs hB hS => ?_)
  replace hB : Blk G a (.inr (10, [.ref (a + 1), .ref (a + 34), .ref (a + 67), .int 0, .ref (a + 110), .ref (a + 100), .ref (a + 103)]) :: (X4 ++ ([.inl (gS G, 8, .inr (.inr (.inr (.inr (fun _ => none)))))] : List va_E))) H := hB
  refine lv_iconst hx hb dX11_init_68 ki_0 ?_
  refine lv_istore_n (lv' := [(1, .int 0), (0, .ref a)]) hx hb dX11_init_69 rfl hl (by decide) rfl (fun ls hl => ?_)
  refine lv_iload_n hx hb dX11_init_70 rfl (lv_at hl 0 rfl) ?_
  refine lv_bipush hx hb dX11_init_71 kb_8 ?_
  refine lv_icmp_ge (tgt := 95) hx hb dX11_init_73 (by decide) (fun cz => absurd cz (by decide)) (fun cz => ?_)
  refine lv_aload_n hx hb dX11_init_76 rfl (lv_at hl 1 rfl) ?_
  refine k_get (a := a) (j := 0) S hK fk_X11_38 hB rfl rfl dX11_init_77 ?_
  refine lv_iload_n hx hb dX11_init_80 rfl (lv_at hl 0 rfl) ?_
  refine k_new S hK (ci := 8) rfl in_wsX90 tyX9 tyX9_ok mw_324 mw_326 iw_X9 hS hB (n := 111) (by show (X4 ++ _).length + 1 = 111; rw [List.length_append, el4]; rfl) (fs := [.int 0, .int 0, .int 0, .int 0, .int 0, .int 0, .null]) rfl (Nat.le_of_ble_eq_true rfl) (Nat.le_of_ble_eq_true rfl) dX11_init_81 (fun H hB hS => ?_)
  refine lv_dup hx hb dX11_init_84 rfl ?_
  refine k_ctorN (rm := rm_X9_init) (n := 0) (nb := 111) (es := (.inr (10, [.ref (a + 1), .ref (a + 34), .ref (a + 67), .int 0, .ref (a + 110), .ref (a + 100), .ref (a + 103)]) :: (X4 ++ ([.inl (gS G, 8, .inr (.inr (.inr (.inr (fun _ => none)))))] : List va_E)))) S hKC (k_old hO hba hsz hS) hba hS hB (by show (X4 ++ _).length + 1 = 111; rw [List.length_append, el4]; rfl) (c_X9_init l (G := G) (a := a + 111)) trivial mt_327 mw_328 iy_X9 mw_329 ⟨by decide +kernel, by decide +kernel, by decide +kernel⟩ rfl rfl hl.1 rfl ⟨Nat.le_of_ble_eq_true rfl, Nat.le_of_ble_eq_true rfl⟩ (Nat.le_of_ble_eq_true rfl) ⟨Nat.le_of_ble_eq_true rfl, Nat.le_of_ble_eq_true rfl⟩ dX11_init_85 (fun H locs hB hS => ?_)
  replace hB : Blk G a (.inr (10, [.ref (a + 1), .ref (a + 34), .ref (a + 67), .int 0, .ref (a + 110), .ref (a + 100), .ref (a + 103)]) :: (X4 ++ ([.inl (gS G, 8, .inr (.inr (.inr (.inr (fun _ => none)))))] ++ bX9 G (a + 111) : List va_E))) H := k_blkX hB
  refine k_aast (a := a) (j := 110) (v := 111) (k := 0) (ci := 8) S hK hB (k_getX (n := 109) (j := 0) el4 rfl) (k_getX (n := 109) (j := 1) el4 rfl) rfl (hK.2 3 _ rfl).2 hS kn_0 (Nat.le_of_ble_eq_true rfl) dX11_init_88 (fun H locs hB hS => ?_)
  replace hB : Blk G a (.inr (10, [.ref (a + 1), .ref (a + 34), .ref (a + 67), .int 0, .ref (a + 110), .ref (a + 100), .ref (a + 103)]) :: (X4 ++ ([.inl (gS G, 8, .inr (.inr (.inr (.inr (va_up (fun _ => none) 0 (some (a + 111)))))))] ++ bX9 G (a + 111) : List va_E))) H := Eq.mp (congrArg (fun z => Blk G a z H) (k_setX (n := 109) (j := 0) el4)) hB
  refine lv_iinc (v := 1) (lv' := [(1, .int 1), (0, .ref a)]) hx hb dX11_init_89 hl (k := 0) rfl (by decide +kernel) (by decide) rfl (fun ls hl => ?_)
  refine lv_goto (tgt := 70) hx hb dX11_init_92 (by decide) ?_
  refine lv_iload_n hx hb dX11_init_70 rfl (lv_at hl 0 rfl) ?_
  refine lv_bipush hx hb dX11_init_71 kb_8 ?_
  refine lv_icmp_ge (tgt := 95) hx hb dX11_init_73 (by decide) (fun cz => absurd cz (by decide)) (fun cz => ?_)
  refine lv_aload_n hx hb dX11_init_76 rfl (lv_at hl 1 rfl) ?_
  refine k_get (a := a) (j := 0) S hK fk_X11_38 hB rfl rfl dX11_init_77 ?_
  refine lv_iload_n hx hb dX11_init_80 rfl (lv_at hl 0 rfl) ?_
  refine k_new S hK (ci := 8) rfl in_wsX90 tyX9 tyX9_ok mw_324 mw_326 iw_X9 hS hB (n := 113) (by show (X4 ++ _).length + 1 = 113; rw [List.length_append, el4]; rfl) (fs := [.int 0, .int 0, .int 0, .int 0, .int 0, .int 0, .null]) rfl (Nat.le_of_ble_eq_true rfl) (Nat.le_of_ble_eq_true rfl) dX11_init_81 (fun H hB hS => ?_)
  refine lv_dup hx hb dX11_init_84 rfl ?_
  refine k_ctorN (rm := rm_X9_init) (n := 0) (nb := 113) (es := (.inr (10, [.ref (a + 1), .ref (a + 34), .ref (a + 67), .int 0, .ref (a + 110), .ref (a + 100), .ref (a + 103)]) :: (X4 ++ ([.inl (gS G, 8, .inr (.inr (.inr (.inr (va_up (fun _ => none) 0 (some (a + 111)))))))] ++ bX9 G (a + 111) : List va_E)))) S hKC (k_old hO hba hsz hS) hba hS hB (by show (X4 ++ _).length + 1 = 113; rw [List.length_append, el4]; rfl) (c_X9_init l (G := G) (a := a + 113)) trivial mt_327 mw_328 iy_X9 mw_329 ⟨by decide +kernel, by decide +kernel, by decide +kernel⟩ rfl rfl hl.1 rfl ⟨Nat.le_of_ble_eq_true rfl, Nat.le_of_ble_eq_true rfl⟩ (Nat.le_of_ble_eq_true rfl) ⟨Nat.le_of_ble_eq_true rfl, Nat.le_of_ble_eq_true rfl⟩ dX11_init_85 (fun H locs hB hS => ?_)
  replace hB : Blk G a (.inr (10, [.ref (a + 1), .ref (a + 34), .ref (a + 67), .int 0, .ref (a + 110), .ref (a + 100), .ref (a + 103)]) :: (X4 ++ ([.inl (gS G, 8, .inr (.inr (.inr (.inr (va_up (fun _ => none) 0 (some (a + 111)))))))] ++ bX9 G (a + 111) ++ bX9 G (a + 113) : List va_E))) H := k_blkX hB
  refine k_aast (a := a) (j := 110) (v := 113) (k := 1) (ci := 8) S hK hB (k_getX (n := 109) (j := 0) el4 rfl) (k_getX (n := 109) (j := 3) el4 rfl) rfl (hK.2 3 _ rfl).2 hS kn_1 (Nat.le_of_ble_eq_true rfl) dX11_init_88 (fun H locs hB hS => ?_)
  replace hB : Blk G a (.inr (10, [.ref (a + 1), .ref (a + 34), .ref (a + 67), .int 0, .ref (a + 110), .ref (a + 100), .ref (a + 103)]) :: (X4 ++ ([.inl (gS G, 8, .inr (.inr (.inr (.inr (va_up (va_up (fun _ => none) 0 (some (a + 111))) 1 (some (a + 113)))))))] ++ bX9 G (a + 111) ++ bX9 G (a + 113) : List va_E))) H := Eq.mp (congrArg (fun z => Blk G a z H) (k_setX (n := 109) (j := 0) el4)) hB
  refine lv_iinc (v := 2) (lv' := [(1, .int 2), (0, .ref a)]) hx hb dX11_init_89 hl (k := 0) rfl (by decide +kernel) (by decide) rfl (fun ls hl => ?_)
  refine lv_goto (tgt := 70) hx hb dX11_init_92 (by decide) ?_
  refine lv_iload_n hx hb dX11_init_70 rfl (lv_at hl 0 rfl) ?_
  refine lv_bipush hx hb dX11_init_71 kb_8 ?_
  refine lv_icmp_ge (tgt := 95) hx hb dX11_init_73 (by decide) (fun cz => absurd cz (by decide)) (fun cz => ?_)
  refine lv_aload_n hx hb dX11_init_76 rfl (lv_at hl 1 rfl) ?_
  refine k_get (a := a) (j := 0) S hK fk_X11_38 hB rfl rfl dX11_init_77 ?_
  refine lv_iload_n hx hb dX11_init_80 rfl (lv_at hl 0 rfl) ?_
  refine k_new S hK (ci := 8) rfl in_wsX90 tyX9 tyX9_ok mw_324 mw_326 iw_X9 hS hB (n := 115) (by show (X4 ++ _).length + 1 = 115; rw [List.length_append, el4]; rfl) (fs := [.int 0, .int 0, .int 0, .int 0, .int 0, .int 0, .null]) rfl (Nat.le_of_ble_eq_true rfl) (Nat.le_of_ble_eq_true rfl) dX11_init_81 (fun H hB hS => ?_)
  refine lv_dup hx hb dX11_init_84 rfl ?_
  refine k_ctorN (rm := rm_X9_init) (n := 0) (nb := 115) (es := (.inr (10, [.ref (a + 1), .ref (a + 34), .ref (a + 67), .int 0, .ref (a + 110), .ref (a + 100), .ref (a + 103)]) :: (X4 ++ ([.inl (gS G, 8, .inr (.inr (.inr (.inr (va_up (va_up (fun _ => none) 0 (some (a + 111))) 1 (some (a + 113)))))))] ++ bX9 G (a + 111) ++ bX9 G (a + 113) : List va_E)))) S hKC (k_old hO hba hsz hS) hba hS hB (by show (X4 ++ _).length + 1 = 115; rw [List.length_append, el4]; rfl) (c_X9_init l (G := G) (a := a + 115)) trivial mt_327 mw_328 iy_X9 mw_329 ⟨by decide +kernel, by decide +kernel, by decide +kernel⟩ rfl rfl hl.1 rfl ⟨Nat.le_of_ble_eq_true rfl, Nat.le_of_ble_eq_true rfl⟩ (Nat.le_of_ble_eq_true rfl) ⟨Nat.le_of_ble_eq_true rfl, Nat.le_of_ble_eq_true rfl⟩ dX11_init_85 (fun H locs hB hS => ?_)
  replace hB : Blk G a (.inr (10, [.ref (a + 1), .ref (a + 34), .ref (a + 67), .int 0, .ref (a + 110), .ref (a + 100), .ref (a + 103)]) :: (X4 ++ ([.inl (gS G, 8, .inr (.inr (.inr (.inr (va_up (va_up (fun _ => none) 0 (some (a + 111))) 1 (some (a + 113)))))))] ++ bX9 G (a + 111) ++ bX9 G (a + 113) ++ bX9 G (a + 115) : List va_E))) H := k_blkX hB
  refine k_aast (a := a) (j := 110) (v := 115) (k := 2) (ci := 8) S hK hB (k_getX (n := 109) (j := 0) el4 rfl) (k_getX (n := 109) (j := 5) el4 rfl) rfl (hK.2 3 _ rfl).2 hS kn_2 (Nat.le_of_ble_eq_true rfl) dX11_init_88 (fun H locs hB hS => ?_)
  replace hB : Blk G a (.inr (10, [.ref (a + 1), .ref (a + 34), .ref (a + 67), .int 0, .ref (a + 110), .ref (a + 100), .ref (a + 103)]) :: (X4 ++ ([.inl (gS G, 8, .inr (.inr (.inr (.inr (va_up (va_up (va_up (fun _ => none) 0 (some (a + 111))) 1 (some (a + 113))) 2 (some (a + 115)))))))] ++ bX9 G (a + 111) ++ bX9 G (a + 113) ++ bX9 G (a + 115) : List va_E))) H := Eq.mp (congrArg (fun z => Blk G a z H) (k_setX (n := 109) (j := 0) el4)) hB
  refine lv_iinc (v := 3) (lv' := [(1, .int 3), (0, .ref a)]) hx hb dX11_init_89 hl (k := 0) rfl (by decide +kernel) (by decide) rfl (fun ls hl => ?_)
  refine lv_goto (tgt := 70) hx hb dX11_init_92 (by decide) ?_
  refine lv_iload_n hx hb dX11_init_70 rfl (lv_at hl 0 rfl) ?_
  refine lv_bipush hx hb dX11_init_71 kb_8 ?_
  refine lv_icmp_ge (tgt := 95) hx hb dX11_init_73 (by decide) (fun cz => absurd cz (by decide)) (fun cz => ?_)
  refine lv_aload_n hx hb dX11_init_76 rfl (lv_at hl 1 rfl) ?_
  refine k_get (a := a) (j := 0) S hK fk_X11_38 hB rfl rfl dX11_init_77 ?_
  refine lv_iload_n hx hb dX11_init_80 rfl (lv_at hl 0 rfl) ?_
  refine k_new S hK (ci := 8) rfl in_wsX90 tyX9 tyX9_ok mw_324 mw_326 iw_X9 hS hB (n := 117) (by show (X4 ++ _).length + 1 = 117; rw [List.length_append, el4]; rfl) (fs := [.int 0, .int 0, .int 0, .int 0, .int 0, .int 0, .null]) rfl (Nat.le_of_ble_eq_true rfl) (Nat.le_of_ble_eq_true rfl) dX11_init_81 (fun H hB hS => ?_)
  refine lv_dup hx hb dX11_init_84 rfl ?_
  refine k_ctorN (rm := rm_X9_init) (n := 0) (nb := 117) (es := (.inr (10, [.ref (a + 1), .ref (a + 34), .ref (a + 67), .int 0, .ref (a + 110), .ref (a + 100), .ref (a + 103)]) :: (X4 ++ ([.inl (gS G, 8, .inr (.inr (.inr (.inr (va_up (va_up (va_up (fun _ => none) 0 (some (a + 111))) 1 (some (a + 113))) 2 (some (a + 115)))))))] ++ bX9 G (a + 111) ++ bX9 G (a + 113) ++ bX9 G (a + 115) : List va_E)))) S hKC (k_old hO hba hsz hS) hba hS hB (by show (X4 ++ _).length + 1 = 117; rw [List.length_append, el4]; rfl) (c_X9_init l (G := G) (a := a + 117)) trivial mt_327 mw_328 iy_X9 mw_329 ⟨by decide +kernel, by decide +kernel, by decide +kernel⟩ rfl rfl hl.1 rfl ⟨Nat.le_of_ble_eq_true rfl, Nat.le_of_ble_eq_true rfl⟩ (Nat.le_of_ble_eq_true rfl) ⟨Nat.le_of_ble_eq_true rfl, Nat.le_of_ble_eq_true rfl⟩ dX11_init_85 (fun H locs hB hS => ?_)
  replace hB : Blk G a (.inr (10, [.ref (a + 1), .ref (a + 34), .ref (a + 67), .int 0, .ref (a + 110), .ref (a + 100), .ref (a + 103)]) :: (X4 ++ ([.inl (gS G, 8, .inr (.inr (.inr (.inr (va_up (va_up (va_up (fun _ => none) 0 (some (a + 111))) 1 (some (a + 113))) 2 (some (a + 115)))))))] ++ bX9 G (a + 111) ++ bX9 G (a + 113) ++ bX9 G (a + 115) ++ bX9 G (a + 117) : List va_E))) H := k_blkX hB
  refine k_aast (a := a) (j := 110) (v := 117) (k := 3) (ci := 8) S hK hB (k_getX (n := 109) (j := 0) el4 rfl) (k_getX (n := 109) (j := 7) el4 rfl) rfl (hK.2 3 _ rfl).2 hS kn_3 (Nat.le_of_ble_eq_true rfl) dX11_init_88 (fun H locs hB hS => ?_)
  replace hB : Blk G a (.inr (10, [.ref (a + 1), .ref (a + 34), .ref (a + 67), .int 0, .ref (a + 110), .ref (a + 100), .ref (a + 103)]) :: (X4 ++ ([.inl (gS G, 8, .inr (.inr (.inr (.inr (va_up (va_up (va_up (va_up (fun _ => none) 0 (some (a + 111))) 1 (some (a + 113))) 2 (some (a + 115))) 3 (some (a + 117)))))))] ++ bX9 G (a + 111) ++ bX9 G (a + 113) ++ bX9 G (a + 115) ++ bX9 G (a + 117) : List va_E))) H := Eq.mp (congrArg (fun z => Blk G a z H) (k_setX (n := 109) (j := 0) el4)) hB
  refine lv_iinc (v := 4) (lv' := [(1, .int 4), (0, .ref a)]) hx hb dX11_init_89 hl (k := 0) rfl (by decide +kernel) (by decide) rfl (fun ls hl => ?_)
  refine lv_goto (tgt := 70) hx hb dX11_init_92 (by decide) ?_
  refine lv_iload_n hx hb dX11_init_70 rfl (lv_at hl 0 rfl) ?_
  refine lv_bipush hx hb dX11_init_71 kb_8 ?_
  refine lv_icmp_ge (tgt := 95) hx hb dX11_init_73 (by decide) (fun cz => absurd cz (by decide)) (fun cz => ?_)
  refine lv_aload_n hx hb dX11_init_76 rfl (lv_at hl 1 rfl) ?_
  refine k_get (a := a) (j := 0) S hK fk_X11_38 hB rfl rfl dX11_init_77 ?_
  refine lv_iload_n hx hb dX11_init_80 rfl (lv_at hl 0 rfl) ?_
  refine k_new S hK (ci := 8) rfl in_wsX90 tyX9 tyX9_ok mw_324 mw_326 iw_X9 hS hB (n := 119) (by show (X4 ++ _).length + 1 = 119; rw [List.length_append, el4]; rfl) (fs := [.int 0, .int 0, .int 0, .int 0, .int 0, .int 0, .null]) rfl (Nat.le_of_ble_eq_true rfl) (Nat.le_of_ble_eq_true rfl) dX11_init_81 (fun H hB hS => ?_)
  refine lv_dup hx hb dX11_init_84 rfl ?_
  refine k_ctorN (rm := rm_X9_init) (n := 0) (nb := 119) (es := (.inr (10, [.ref (a + 1), .ref (a + 34), .ref (a + 67), .int 0, .ref (a + 110), .ref (a + 100), .ref (a + 103)]) :: (X4 ++ ([.inl (gS G, 8, .inr (.inr (.inr (.inr (va_up (va_up (va_up (va_up (fun _ => none) 0 (some (a + 111))) 1 (some (a + 113))) 2 (some (a + 115))) 3 (some (a + 117)))))))] ++ bX9 G (a + 111) ++ bX9 G (a + 113) ++ bX9 G (a + 115) ++ bX9 G (a + 117) : List va_E)))) S hKC (k_old hO hba hsz hS) hba hS hB (by show (X4 ++ _).length + 1 = 119; rw [List.length_append, el4]; rfl) (c_X9_init l (G := G) (a := a + 119)) trivial mt_327 mw_328 iy_X9 mw_329 ⟨by decide +kernel, by decide +kernel, by decide +kernel⟩ rfl rfl hl.1 rfl ⟨Nat.le_of_ble_eq_true rfl, Nat.le_of_ble_eq_true rfl⟩ (Nat.le_of_ble_eq_true rfl) ⟨Nat.le_of_ble_eq_true rfl, Nat.le_of_ble_eq_true rfl⟩ dX11_init_85 (fun H locs hB hS => ?_)
  replace hB : Blk G a (.inr (10, [.ref (a + 1), .ref (a + 34), .ref (a + 67), .int 0, .ref (a + 110), .ref (a + 100), .ref (a + 103)]) :: (X4 ++ ([.inl (gS G, 8, .inr (.inr (.inr (.inr (va_up (va_up (va_up (va_up (fun _ => none) 0 (some (a + 111))) 1 (some (a + 113))) 2 (some (a + 115))) 3 (some (a + 117)))))))] ++ bX9 G (a + 111) ++ bX9 G (a + 113) ++ bX9 G (a + 115) ++ bX9 G (a + 117) ++ bX9 G (a + 119) : List va_E))) H := k_blkX hB
  refine k_aast (a := a) (j := 110) (v := 119) (k := 4) (ci := 8) S hK hB (k_getX (n := 109) (j := 0) el4 rfl) (k_getX (n := 109) (j := 9) el4 rfl) rfl (hK.2 3 _ rfl).2 hS kn_4 (Nat.le_of_ble_eq_true rfl) dX11_init_88 (fun H locs hB hS => ?_)
  replace hB : Blk G a (.inr (10, [.ref (a + 1), .ref (a + 34), .ref (a + 67), .int 0, .ref (a + 110), .ref (a + 100), .ref (a + 103)]) :: (X4 ++ ([.inl (gS G, 8, .inr (.inr (.inr (.inr (va_up (va_up (va_up (va_up (va_up (fun _ => none) 0 (some (a + 111))) 1 (some (a + 113))) 2 (some (a + 115))) 3 (some (a + 117))) 4 (some (a + 119)))))))] ++ bX9 G (a + 111) ++ bX9 G (a + 113) ++ bX9 G (a + 115) ++ bX9 G (a + 117) ++ bX9 G (a + 119) : List va_E))) H := Eq.mp (congrArg (fun z => Blk G a z H) (k_setX (n := 109) (j := 0) el4)) hB
  refine lv_iinc (v := 5) (lv' := [(1, .int 5), (0, .ref a)]) hx hb dX11_init_89 hl (k := 0) rfl (by decide +kernel) (by decide) rfl (fun ls hl => ?_)
  refine lv_goto (tgt := 70) hx hb dX11_init_92 (by decide) ?_
  refine lv_iload_n hx hb dX11_init_70 rfl (lv_at hl 0 rfl) ?_
  refine lv_bipush hx hb dX11_init_71 kb_8 ?_
  refine lv_icmp_ge (tgt := 95) hx hb dX11_init_73 (by decide) (fun cz => absurd cz (by decide)) (fun cz => ?_)
  refine lv_aload_n hx hb dX11_init_76 rfl (lv_at hl 1 rfl) ?_
  refine k_get (a := a) (j := 0) S hK fk_X11_38 hB rfl rfl dX11_init_77 ?_
  refine lv_iload_n hx hb dX11_init_80 rfl (lv_at hl 0 rfl) ?_
  refine k_new S hK (ci := 8) rfl in_wsX90 tyX9 tyX9_ok mw_324 mw_326 iw_X9 hS hB (n := 121) (by show (X4 ++ _).length + 1 = 121; rw [List.length_append, el4]; rfl) (fs := [.int 0, .int 0, .int 0, .int 0, .int 0, .int 0, .null]) rfl (Nat.le_of_ble_eq_true rfl) (Nat.le_of_ble_eq_true rfl) dX11_init_81 (fun H hB hS => ?_)
  refine lv_dup hx hb dX11_init_84 rfl ?_
  refine k_ctorN (rm := rm_X9_init) (n := 0) (nb := 121) (es := (.inr (10, [.ref (a + 1), .ref (a + 34), .ref (a + 67), .int 0, .ref (a + 110), .ref (a + 100), .ref (a + 103)]) :: (X4 ++ ([.inl (gS G, 8, .inr (.inr (.inr (.inr (va_up (va_up (va_up (va_up (va_up (fun _ => none) 0 (some (a + 111))) 1 (some (a + 113))) 2 (some (a + 115))) 3 (some (a + 117))) 4 (some (a + 119)))))))] ++ bX9 G (a + 111) ++ bX9 G (a + 113) ++ bX9 G (a + 115) ++ bX9 G (a + 117) ++ bX9 G (a + 119) : List va_E)))) S hKC (k_old hO hba hsz hS) hba hS hB (by show (X4 ++ _).length + 1 = 121; rw [List.length_append, el4]; rfl) (c_X9_init l (G := G) (a := a + 121)) trivial mt_327 mw_328 iy_X9 mw_329 ⟨by decide +kernel, by decide +kernel, by decide +kernel⟩ rfl rfl hl.1 rfl ⟨Nat.le_of_ble_eq_true rfl, Nat.le_of_ble_eq_true rfl⟩ (Nat.le_of_ble_eq_true rfl) ⟨Nat.le_of_ble_eq_true rfl, Nat.le_of_ble_eq_true rfl⟩ dX11_init_85 (fun H locs hB hS => ?_)
  replace hB : Blk G a (.inr (10, [.ref (a + 1), .ref (a + 34), .ref (a + 67), .int 0, .ref (a + 110), .ref (a + 100), .ref (a + 103)]) :: (X4 ++ ([.inl (gS G, 8, .inr (.inr (.inr (.inr (va_up (va_up (va_up (va_up (va_up (fun _ => none) 0 (some (a + 111))) 1 (some (a + 113))) 2 (some (a + 115))) 3 (some (a + 117))) 4 (some (a + 119)))))))] ++ bX9 G (a + 111) ++ bX9 G (a + 113) ++ bX9 G (a + 115) ++ bX9 G (a + 117) ++ bX9 G (a + 119) ++ bX9 G (a + 121) : List va_E))) H := k_blkX hB
  refine k_aast (a := a) (j := 110) (v := 121) (k := 5) (ci := 8) S hK hB (k_getX (n := 109) (j := 0) el4 rfl) (k_getX (n := 109) (j := 11) el4 rfl) rfl (hK.2 3 _ rfl).2 hS kn_5 (Nat.le_of_ble_eq_true rfl) dX11_init_88 (fun H locs hB hS => ?_)
  replace hB : Blk G a (.inr (10, [.ref (a + 1), .ref (a + 34), .ref (a + 67), .int 0, .ref (a + 110), .ref (a + 100), .ref (a + 103)]) :: (X4 ++ ([.inl (gS G, 8, .inr (.inr (.inr (.inr (va_up (va_up (va_up (va_up (va_up (va_up (fun _ => none) 0 (some (a + 111))) 1 (some (a + 113))) 2 (some (a + 115))) 3 (some (a + 117))) 4 (some (a + 119))) 5 (some (a + 121)))))))] ++ bX9 G (a + 111) ++ bX9 G (a + 113) ++ bX9 G (a + 115) ++ bX9 G (a + 117) ++ bX9 G (a + 119) ++ bX9 G (a + 121) : List va_E))) H := Eq.mp (congrArg (fun z => Blk G a z H) (k_setX (n := 109) (j := 0) el4)) hB
  refine lv_iinc (v := 6) (lv' := [(1, .int 6), (0, .ref a)]) hx hb dX11_init_89 hl (k := 0) rfl (by decide +kernel) (by decide) rfl (fun ls hl => ?_)
  refine lv_goto (tgt := 70) hx hb dX11_init_92 (by decide) ?_
  refine lv_iload_n hx hb dX11_init_70 rfl (lv_at hl 0 rfl) ?_
  refine lv_bipush hx hb dX11_init_71 kb_8 ?_
  refine lv_icmp_ge (tgt := 95) hx hb dX11_init_73 (by decide) (fun cz => absurd cz (by decide)) (fun cz => ?_)
  refine lv_aload_n hx hb dX11_init_76 rfl (lv_at hl 1 rfl) ?_
  refine k_get (a := a) (j := 0) S hK fk_X11_38 hB rfl rfl dX11_init_77 ?_
  refine lv_iload_n hx hb dX11_init_80 rfl (lv_at hl 0 rfl) ?_
  refine k_new S hK (ci := 8) rfl in_wsX90 tyX9 tyX9_ok mw_324 mw_326 iw_X9 hS hB (n := 123) (by show (X4 ++ _).length + 1 = 123; rw [List.length_append, el4]; rfl) (fs := [.int 0, .int 0, .int 0, .int 0, .int 0, .int 0, .null]) rfl (Nat.le_of_ble_eq_true rfl) (Nat.le_of_ble_eq_true rfl) dX11_init_81 (fun H hB hS => ?_)
  refine lv_dup hx hb dX11_init_84 rfl ?_
  refine k_ctorN (rm := rm_X9_init) (n := 0) (nb := 123) (es := (.inr (10, [.ref (a + 1), .ref (a + 34), .ref (a + 67), .int 0, .ref (a + 110), .ref (a + 100), .ref (a + 103)]) :: (X4 ++ ([.inl (gS G, 8, .inr (.inr (.inr (.inr (va_up (va_up (va_up (va_up (va_up (va_up (fun _ => none) 0 (some (a + 111))) 1 (some (a + 113))) 2 (some (a + 115))) 3 (some (a + 117))) 4 (some (a + 119))) 5 (some (a + 121)))))))] ++ bX9 G (a + 111) ++ bX9 G (a + 113) ++ bX9 G (a + 115) ++ bX9 G (a + 117) ++ bX9 G (a + 119) ++ bX9 G (a + 121) : List va_E)))) S hKC (k_old hO hba hsz hS) hba hS hB (by show (X4 ++ _).length + 1 = 123; rw [List.length_append, el4]; rfl) (c_X9_init l (G := G) (a := a + 123)) trivial mt_327 mw_328 iy_X9 mw_329 ⟨by decide +kernel, by decide +kernel, by decide +kernel⟩ rfl rfl hl.1 rfl ⟨Nat.le_of_ble_eq_true rfl, Nat.le_of_ble_eq_true rfl⟩ (Nat.le_of_ble_eq_true rfl) ⟨Nat.le_of_ble_eq_true rfl, Nat.le_of_ble_eq_true rfl⟩ dX11_init_85 (fun H locs hB hS => ?_)
  replace hB : Blk G a (.inr (10, [.ref (a + 1), .ref (a + 34), .ref (a + 67), .int 0, .ref (a + 110), .ref (a + 100), .ref (a + 103)]) :: (X4 ++ ([.inl (gS G, 8, .inr (.inr (.inr (.inr (va_up (va_up (va_up (va_up (va_up (va_up (fun _ => none) 0 (some (a + 111))) 1 (some (a + 113))) 2 (some (a + 115))) 3 (some (a + 117))) 4 (some (a + 119))) 5 (some (a + 121)))))))] ++ bX9 G (a + 111) ++ bX9 G (a + 113) ++ bX9 G (a + 115) ++ bX9 G (a + 117) ++ bX9 G (a + 119) ++ bX9 G (a + 121) ++ bX9 G (a + 123) : List va_E))) H := k_blkX hB
  refine k_aast (a := a) (j := 110) (v := 123) (k := 6) (ci := 8) S hK hB (k_getX (n := 109) (j := 0) el4 rfl) (k_getX (n := 109) (j := 13) el4 rfl) rfl (hK.2 3 _ rfl).2 hS kn_6 (Nat.le_of_ble_eq_true rfl) dX11_init_88 (fun H locs hB hS => ?_)
  replace hB : Blk G a (.inr (10, [.ref (a + 1), .ref (a + 34), .ref (a + 67), .int 0, .ref (a + 110), .ref (a + 100), .ref (a + 103)]) :: (X4 ++ ([.inl (gS G, 8, .inr (.inr (.inr (.inr (va_up (va_up (va_up (va_up (va_up (va_up (va_up (fun _ => none) 0 (some (a + 111))) 1 (some (a + 113))) 2 (some (a + 115))) 3 (some (a + 117))) 4 (some (a + 119))) 5 (some (a + 121))) 6 (some (a + 123)))))))] ++ bX9 G (a + 111) ++ bX9 G (a + 113) ++ bX9 G (a + 115) ++ bX9 G (a + 117) ++ bX9 G (a + 119) ++ bX9 G (a + 121) ++ bX9 G (a + 123) : List va_E))) H := Eq.mp (congrArg (fun z => Blk G a z H) (k_setX (n := 109) (j := 0) el4)) hB
  refine lv_iinc (v := 7) (lv' := [(1, .int 7), (0, .ref a)]) hx hb dX11_init_89 hl (k := 0) rfl (by decide +kernel) (by decide) rfl (fun ls hl => ?_)
  refine lv_goto (tgt := 70) hx hb dX11_init_92 (by decide) ?_
  refine lv_iload_n hx hb dX11_init_70 rfl (lv_at hl 0 rfl) ?_
  refine lv_bipush hx hb dX11_init_71 kb_8 ?_
  refine lv_icmp_ge (tgt := 95) hx hb dX11_init_73 (by decide) (fun cz => absurd cz (by decide)) (fun cz => ?_)
  refine lv_aload_n hx hb dX11_init_76 rfl (lv_at hl 1 rfl) ?_
  refine k_get (a := a) (j := 0) S hK fk_X11_38 hB rfl rfl dX11_init_77 ?_
  refine lv_iload_n hx hb dX11_init_80 rfl (lv_at hl 0 rfl) ?_
  refine k_new S hK (ci := 8) rfl in_wsX90 tyX9 tyX9_ok mw_324 mw_326 iw_X9 hS hB (n := 125) (by show (X4 ++ _).length + 1 = 125; rw [List.length_append, el4]; rfl) (fs := [.int 0, .int 0, .int 0, .int 0, .int 0, .int 0, .null]) rfl (Nat.le_of_ble_eq_true rfl) (Nat.le_of_ble_eq_true rfl) dX11_init_81 (fun H hB hS => ?_)
  refine lv_dup hx hb dX11_init_84 rfl ?_
  refine k_ctorN (rm := rm_X9_init) (n := 0) (nb := 125) (es := (.inr (10, [.ref (a + 1), .ref (a + 34), .ref (a + 67), .int 0, .ref (a + 110), .ref (a + 100), .ref (a + 103)]) :: (X4 ++ ([.inl (gS G, 8, .inr (.inr (.inr (.inr (va_up (va_up (va_up (va_up (va_up (va_up (va_up (fun _ => none) 0 (some (a + 111))) 1 (some (a + 113))) 2 (some (a + 115))) 3 (some (a + 117))) 4 (some (a + 119))) 5 (some (a + 121))) 6 (some (a + 123)))))))] ++ bX9 G (a + 111) ++ bX9 G (a + 113) ++ bX9 G (a + 115) ++ bX9 G (a + 117) ++ bX9 G (a + 119) ++ bX9 G (a + 121) ++ bX9 G (a + 123) : List va_E)))) S hKC (k_old hO hba hsz hS) hba hS hB (by show (X4 ++ _).length + 1 = 125; rw [List.length_append, el4]; rfl) (c_X9_init l (G := G) (a := a + 125)) trivial mt_327 mw_328 iy_X9 mw_329 ⟨by decide +kernel, by decide +kernel, by decide +kernel⟩ rfl rfl hl.1 rfl ⟨Nat.le_of_ble_eq_true rfl, Nat.le_of_ble_eq_true rfl⟩ (Nat.le_of_ble_eq_true rfl) ⟨Nat.le_of_ble_eq_true rfl, Nat.le_of_ble_eq_true rfl⟩ dX11_init_85 (fun H locs hB hS => ?_)
  replace hB : Blk G a (.inr (10, [.ref (a + 1), .ref (a + 34), .ref (a + 67), .int 0, .ref (a + 110), .ref (a + 100), .ref (a + 103)]) :: (X4 ++ ([.inl (gS G, 8, .inr (.inr (.inr (.inr (va_up (va_up (va_up (va_up (va_up (va_up (va_up (fun _ => none) 0 (some (a + 111))) 1 (some (a + 113))) 2 (some (a + 115))) 3 (some (a + 117))) 4 (some (a + 119))) 5 (some (a + 121))) 6 (some (a + 123)))))))] ++ bX9 G (a + 111) ++ bX9 G (a + 113) ++ bX9 G (a + 115) ++ bX9 G (a + 117) ++ bX9 G (a + 119) ++ bX9 G (a + 121) ++ bX9 G (a + 123) ++ bX9 G (a + 125) : List va_E))) H := k_blkX hB
  refine k_aast (a := a) (j := 110) (v := 125) (k := 7) (ci := 8) S hK hB (k_getX (n := 109) (j := 0) el4 rfl) (k_getX (n := 109) (j := 15) el4 rfl) rfl (hK.2 3 _ rfl).2 hS kn_7 (Nat.le_of_ble_eq_true rfl) dX11_init_88 (fun H locs hB hS => ?_)
  replace hB : Blk G a (.inr (10, [.ref (a + 1), .ref (a + 34), .ref (a + 67), .int 0, .ref (a + 110), .ref (a + 100), .ref (a + 103)]) :: (X4 ++ ([.inl (gS G, 8, .inr (.inr (.inr (.inr (va_up (va_up (va_up (va_up (va_up (va_up (va_up (va_up (fun _ => none) 0 (some (a + 111))) 1 (some (a + 113))) 2 (some (a + 115))) 3 (some (a + 117))) 4 (some (a + 119))) 5 (some (a + 121))) 6 (some (a + 123))) 7 (some (a + 125)))))))] ++ bX9 G (a + 111) ++ bX9 G (a + 113) ++ bX9 G (a + 115) ++ bX9 G (a + 117) ++ bX9 G (a + 119) ++ bX9 G (a + 121) ++ bX9 G (a + 123) ++ bX9 G (a + 125) : List va_E))) H := Eq.mp (congrArg (fun z => Blk G a z H) (k_setX (n := 109) (j := 0) el4)) hB
  refine lv_iinc (v := 8) (lv' := [(1, .int 8), (0, .ref a)]) hx hb dX11_init_89 hl (k := 0) rfl (by decide +kernel) (by decide) rfl (fun ls hl => ?_)
  refine lv_goto (tgt := 70) hx hb dX11_init_92 (by decide) ?_
  refine lv_iload_n hx hb dX11_init_70 rfl (lv_at hl 0 rfl) ?_
  refine lv_bipush hx hb dX11_init_71 kb_8 ?_
  refine lv_icmp_ge (tgt := 95) hx hb dX11_init_73 (by decide) (fun cz => ?_) (fun cz => absurd (by decide) cz)
  replace hB : Blk G a (bX11 G a) H := by
    subst ex4 ex3 ex2 ex1 ex0
    exact hB
  exact k_ret (es := bX11 G a) S hret hlocks hKC hB hS (Nat.le_of_ble_eq_true rfl) (Nat.le_of_ble_eq_true rfl) dX11_init_95
