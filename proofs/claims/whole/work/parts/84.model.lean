/-! THE REFERENCE -/
theorem mw_1140 : Cond.methodLink "MilkDeskModel" 1 Lib.objectInit ∈ lw_G := lw_Gi 1200 (by decide +kernel) rfl
theorem kn_320 : (320 : Int32).toNatClampNeg = 320 ∧ ¬ (320 : Int32) < 0 := by decide +kernel
theorem ks_1280 : (Int16.ofInt 1280).toInt32 = (1280 : Int32) := by decide +kernel
theorem kn_1280 : (1280 : Int32).toNatClampNeg = 1280 ∧ ¬ (1280 : Int32) < 0 := by decide +kernel
theorem kn_100 : (100 : Int32).toNatClampNeg = 100 ∧ ¬ (100 : Int32) < 0 := by decide +kernel
theorem mw_1302 : Cond.arrayClass .boolean ∈ lw_G := lw_Gi 1362 (by decide +kernel) rfl
theorem kn_200 : (200 : Int32).toNatClampNeg = 200 ∧ ¬ (200 : Int32) < 0 := by decide +kernel
theorem ks_640 : (Int16.ofInt 640).toInt32 = (640 : Int32) := by decide +kernel
theorem kn_640 : (640 : Int32).toNatClampNeg = 640 ∧ ¬ (640 : Int32) < 0 := by decide +kernel
theorem mw_1303 : Cond.arrayClass .long ∈ lw_G := lw_Gi 1363 (by decide +kernel) rfl
def fX12 (a : Nat) : List Value := [.int 0, .ref (a + 1), .ref (a + 2), .ref (a + 3), .int 0, .ref (a + 4), .ref (a + 5), .ref (a + 6), .ref (a + 7), .ref (a + 8), .ref (a + 9), .ref (a + 10), .ref (a + 11), .ref (a + 12), .ref (a + 13), .ref (a + 14), .ref (a + 15), .ref (a + 16), .ref (a + 17), .ref (a + 18), .ref (a + 19), .ref (a + 20), .int (-1), .int 0, .int 0, .int 0, .int 0, .int 0, .int 0, .int 0, .int 0, .int 0, .ref (a + 21), .int 0, .ref (a + 22), .int 0, .ref (a + 23), .int (-1), .ref (a + 24), .ref (a + 25), .int 0, .ref (a + 26), .ref (a + 27), .ref (a + 28), .int 0, .ref (a + 29), .ref (a + 30), .ref (a + 31), .ref (a + 32), .ref (a + 33), .ref (a + 34), .ref (a + 35), .ref (a + 36)]
def rX12 (G : Gn) : List va_E := [.inl (gI G, 320, .inl (fun _ => 0)), .inl (gI G, 320, .inl (fun _ => 0)), .inl (gI G, 12, .inl (fun _ => 0)), .inl (gI G, 12, .inl (fun _ => 0)), .inl (gI G, 12, .inl (fun _ => 0)), .inl (gI G, 5, .inl (fun _ => 0)), .inl (gI G, 5, .inl (fun _ => 0)), .inl (gI G, 5, .inl (fun _ => 0)), .inl (gI G, 16, .inl (fun _ => 0)), .inl (gI G, 16, .inl (fun _ => 0)), .inl (gI G, 16, .inl (fun _ => 0)), .inl (gI G, 192, .inl (fun _ => 0)), .inl (gI G, 1280, .inl (fun _ => 0)), .inl (gI G, 16, .inl (fun _ => 0)), .inl (gI G, 16, .inl (fun _ => 0)), .inl (gI G, 16, .inl (fun _ => 0)), .inl (gI G, 30, .inl (fun _ => 0)), .inl (gI G, 30, .inl (fun _ => 0)), .inl (gI G, 30, .inl (fun _ => 0)), .inl (gZ G, 100, .inl (fun _ => 0)), .inl (gI G, 200, .inl (fun _ => 0)), .inl (gI G, 12, .inl (fun _ => 0)), .inl (gI G, 5, .inl (fun _ => 0)), .inl (gI G, 5, .inl (fun _ => 0)), .inl (gI G, 7, .inl (fun _ => 0)), .inl (gI G, 7, .inl (fun _ => 0)), .inl (gI G, 7, .inl (fun _ => 0)), .inl (gI G, 8, .inl (fun _ => 0)), .inl (gI G, 8, .inl (fun _ => 0)), .inl (gI G, 8, .inl (fun _ => 0)), .inl (gI G, 8, .inl (fun _ => 0)), .inl (gI G, 8, .inl (fun _ => 0)), .inl (gI G, 8, .inl (fun _ => 0)), .inl (gJ G, 640, .inr (.inl (fun _ => 0))), .inl (gJ G, 80, .inr (.inl (fun _ => 0)))]
def bX12 (G : Gn) (a : Nat) : List va_E := .inr (11, fX12 a) :: .inl (gI G, 320, .inl (fil (fun k => 140 + k) (99999 : Int32) (fil (fun k => 80 + k) (-1 : Int32) (fil (fun k => 50 + k) (660 : Int32) (fun _ => 0) 12) 20) 12)) :: rX12 G
abbrev rm_X12_init : Room := { frames := 1, cells := 36, slots := 3780, locals := 12 }
set_option maxHeartbeats 4000000 in
set_option maxRecDepth 100000 in
theorem c_X12_init (l : Launch) {G : Gn} {a : Nat} : MQk l yX12_init cX12_init 2 rm_X12_init [.ref a] (fun _ => True) G a (.inr (11, [.int 0, .null, .null, .null, .int 0, .null, .null, .null, .null, .null, .null, .null, .null, .null, .null, .null, .null, .null, .null, .null, .null, .null, .int 0, .int 0, .int 0, .int 0, .int 0, .int 0, .int 0, .int 0, .int 0, .int 0, .null, .int 0, .null, .int 0, .null, .int 0, .null, .null, .int 0, .null, .null, .null, .int 0, .null, .null, .null, .null, .null, .null, .null, .null])) (bX12 G a) := by
  refine k_enter (by decide +kernel) rfl (Nat.le_of_ble_eq_true rfl) ?_
  intro p e s m AV below meth c ls H locs S hret hlocks hname hKC hO hba hsz hB hS hl hz
  replace S : CallFix p m c cX12_init 2 s AV lw_G "MilkDeskModel" := S
  have hK := hKC.1.1
  have hx := S.1
  have hb := S.2.1
  have hml := S.2.2.1
  have hown := S.2.2.2.1
  have hts := S.2.2.2.2
  replace hl : lv_has ls 2 [(0, .ref a)] := hl
  refine lv_aload_n hx hb dX12_init_0 rfl (lv_at hl 0 rfl) ?_
  refine k_obj S hl.1 mw_1140 dX12_init_1 (Nat.le_of_ble_eq_true rfl) (Nat.le_of_ble_eq_true rfl) ?_
  obtain ⟨f0, ef0, lf0⟩ : ∃ z : List Value, z = [.int 0, .null, .null, .null, .int 0, .null, .null, .null, .null, .null, .null, .null, .null, .null, .null, .null, .null, .null, .null, .null, .null, .null, .int 0, .int 0, .int 0, .int 0, .int 0, .int 0, .int 0, .int 0, .int 0, .int 0, .null, .int 0, .null, .int 0, .null, .int 0, .null, .null, .int 0, .null, .null, .null, .int 0, .null, .null, .null, .null, .null, .null, .null, .null] ∧ z.length = 53 := ⟨_, rfl, rfl⟩
  obtain ⟨X0, eX0, lX0⟩ : ∃ z : List va_E, z = [] ∧ z.length = 0 := ⟨_, rfl, rfl⟩
  replace hB : Blk G a (.inr (11, f0) :: X0) H := by rw [ef0, eX0]; exact hB
  refine lv_aload_n hx hb dX12_init_4 rfl (lv_at hl 0 rfl) ?_
  refine lv_sipush hx hb dX12_init_5 ks_320 ?_
  refine k_newi S hK hS hB (N := 320) (z := 1) (by show X0.length + 1 = 1; rw [lX0]) kn_320 (Nat.le_of_ble_eq_true rfl) (Nat.le_of_ble_eq_true rfl) (Nat.le_of_ble_eq_true rfl) dX12_init_8 (fun H hB hS => ?_)
  refine k_putF (a := a) (j := 0) S hK fk_X12_7 tyX12_ok nmX12 rfl hname rfl rfl rfl hB rfl (by rw [lf0]; decide) hS dX12_init_10 (fun H locs hB hS => ?_)
  obtain ⟨f1, ef1, lf1⟩ : ∃ z : List Value, z = [.int 0, .ref (a + 1), .null, .null, .int 0, .null, .null, .null, .null, .null, .null, .null, .null, .null, .null, .null, .null, .null, .null, .null, .null, .null, .int 0, .int 0, .int 0, .int 0, .int 0, .int 0, .int 0, .int 0, .int 0, .int 0, .null, .int 0, .null, .int 0, .null, .int 0, .null, .null, .int 0, .null, .null, .null, .int 0, .null, .null, .null, .null, .null, .null, .null, .null] ∧ z.length = 53 := ⟨_, rfl, rfl⟩
  rw [ef0, eX0] at hB
  obtain ⟨X1, eX1, lX1⟩ : ∃ z : List va_E, z = [.inl (gI G, 320, .inl (fun _ => 0))] ∧ z.length = 1 := ⟨_, rfl, rfl⟩
  replace hB : Blk G a (.inr (11, f1) :: X1) H := by rw [ef1, eX1]; exact hB
  refine lv_aload_n hx hb dX12_init_13 rfl (lv_at hl 0 rfl) ?_
  refine lv_sipush hx hb dX12_init_14 ks_320 ?_
  refine k_newi S hK hS hB (N := 320) (z := 2) (by show X1.length + 1 = 2; rw [lX1]) kn_320 (Nat.le_of_ble_eq_true rfl) (Nat.le_of_ble_eq_true rfl) (Nat.le_of_ble_eq_true rfl) dX12_init_17 (fun H hB hS => ?_)
  refine k_putF (a := a) (j := 0) S hK fk_X12_13 tyX12_ok nmX12 rfl hname rfl rfl rfl hB rfl (by rw [lf1]; decide) hS dX12_init_19 (fun H locs hB hS => ?_)
  obtain ⟨f2, ef2, lf2⟩ : ∃ z : List Value, z = [.int 0, .ref (a + 1), .ref (a + 2), .null, .int 0, .null, .null, .null, .null, .null, .null, .null, .null, .null, .null, .null, .null, .null, .null, .null, .null, .null, .int 0, .int 0, .int 0, .int 0, .int 0, .int 0, .int 0, .int 0, .int 0, .int 0, .null, .int 0, .null, .int 0, .null, .int 0, .null, .null, .int 0, .null, .null, .null, .int 0, .null, .null, .null, .null, .null, .null, .null, .null] ∧ z.length = 53 := ⟨_, rfl, rfl⟩
  rw [ef1, eX1] at hB
  obtain ⟨X2, eX2, lX2⟩ : ∃ z : List va_E, z = [.inl (gI G, 320, .inl (fun _ => 0)), .inl (gI G, 320, .inl (fun _ => 0))] ∧ z.length = 2 := ⟨_, rfl, rfl⟩
  replace hB : Blk G a (.inr (11, f2) :: X2) H := by rw [ef2, eX2]; exact hB
  refine lv_aload_n hx hb dX12_init_22 rfl (lv_at hl 0 rfl) ?_
  refine lv_sipush hx hb dX12_init_23 ks_320 ?_
  refine k_newi S hK hS hB (N := 320) (z := 3) (by show X2.length + 1 = 3; rw [lX2]) kn_320 (Nat.le_of_ble_eq_true rfl) (Nat.le_of_ble_eq_true rfl) (Nat.le_of_ble_eq_true rfl) dX12_init_26 (fun H hB hS => ?_)
  refine k_putF (a := a) (j := 0) S hK fk_X12_16 tyX12_ok nmX12 rfl hname rfl rfl rfl hB rfl (by rw [lf2]; decide) hS dX12_init_28 (fun H locs hB hS => ?_)
  obtain ⟨f3, ef3, lf3⟩ : ∃ z : List Value, z = [.int 0, .ref (a + 1), .ref (a + 2), .ref (a + 3), .int 0, .null, .null, .null, .null, .null, .null, .null, .null, .null, .null, .null, .null, .null, .null, .null, .null, .null, .int 0, .int 0, .int 0, .int 0, .int 0, .int 0, .int 0, .int 0, .int 0, .int 0, .null, .int 0, .null, .int 0, .null, .int 0, .null, .null, .int 0, .null, .null, .null, .int 0, .null, .null, .null, .null, .null, .null, .null, .null] ∧ z.length = 53 := ⟨_, rfl, rfl⟩
  rw [ef2, eX2] at hB
  obtain ⟨X3, eX3, lX3⟩ : ∃ z : List va_E, z = [.inl (gI G, 320, .inl (fun _ => 0)), .inl (gI G, 320, .inl (fun _ => 0)), .inl (gI G, 320, .inl (fun _ => 0))] ∧ z.length = 3 := ⟨_, rfl, rfl⟩
  replace hB : Blk G a (.inr (11, f3) :: X3) H := by rw [ef3, eX3]; exact hB
  refine lv_aload_n hx hb dX12_init_31 rfl (lv_at hl 0 rfl) ?_
  refine lv_bipush hx hb dX12_init_32 kb_12 ?_
  refine k_newi S hK hS hB (N := 12) (z := 4) (by show X3.length + 1 = 4; rw [lX3]) kn_12 (Nat.le_of_ble_eq_true rfl) (Nat.le_of_ble_eq_true rfl) (Nat.le_of_ble_eq_true rfl) dX12_init_34 (fun H hB hS => ?_)
  refine k_putF (a := a) (j := 0) S hK fk_X12_19 tyX12_ok nmX12 rfl hname rfl rfl rfl hB rfl (by rw [lf3]; decide) hS dX12_init_36 (fun H locs hB hS => ?_)
  obtain ⟨f4, ef4, lf4⟩ : ∃ z : List Value, z = [.int 0, .ref (a + 1), .ref (a + 2), .ref (a + 3), .int 0, .ref (a + 4), .null, .null, .null, .null, .null, .null, .null, .null, .null, .null, .null, .null, .null, .null, .null, .null, .int 0, .int 0, .int 0, .int 0, .int 0, .int 0, .int 0, .int 0, .int 0, .int 0, .null, .int 0, .null, .int 0, .null, .int 0, .null, .null, .int 0, .null, .null, .null, .int 0, .null, .null, .null, .null, .null, .null, .null, .null] ∧ z.length = 53 := ⟨_, rfl, rfl⟩
  rw [ef3, eX3] at hB
  obtain ⟨X4, eX4, lX4⟩ : ∃ z : List va_E, z = [.inl (gI G, 320, .inl (fun _ => 0)), .inl (gI G, 320, .inl (fun _ => 0)), .inl (gI G, 320, .inl (fun _ => 0)), .inl (gI G, 12, .inl (fun _ => 0))] ∧ z.length = 4 := ⟨_, rfl, rfl⟩
  replace hB : Blk G a (.inr (11, f4) :: X4) H := by rw [ef4, eX4]; exact hB
  refine lv_aload_n hx hb dX12_init_39 rfl (lv_at hl 0 rfl) ?_
  refine lv_bipush hx hb dX12_init_40 kb_12 ?_
  refine k_newi S hK hS hB (N := 12) (z := 5) (by show X4.length + 1 = 5; rw [lX4]) kn_12 (Nat.le_of_ble_eq_true rfl) (Nat.le_of_ble_eq_true rfl) (Nat.le_of_ble_eq_true rfl) dX12_init_42 (fun H hB hS => ?_)
  refine k_putF (a := a) (j := 0) S hK fk_X12_22 tyX12_ok nmX12 rfl hname rfl rfl rfl hB rfl (by rw [lf4]; decide) hS dX12_init_44 (fun H locs hB hS => ?_)
  obtain ⟨f5, ef5, lf5⟩ : ∃ z : List Value, z = [.int 0, .ref (a + 1), .ref (a + 2), .ref (a + 3), .int 0, .ref (a + 4), .ref (a + 5), .null, .null, .null, .null, .null, .null, .null, .null, .null, .null, .null, .null, .null, .null, .null, .int 0, .int 0, .int 0, .int 0, .int 0, .int 0, .int 0, .int 0, .int 0, .int 0, .null, .int 0, .null, .int 0, .null, .int 0, .null, .null, .int 0, .null, .null, .null, .int 0, .null, .null, .null, .null, .null, .null, .null, .null] ∧ z.length = 53 := ⟨_, rfl, rfl⟩
  rw [ef4, eX4] at hB
  obtain ⟨X5, eX5, lX5⟩ : ∃ z : List va_E, z = [.inl (gI G, 320, .inl (fun _ => 0)), .inl (gI G, 320, .inl (fun _ => 0)), .inl (gI G, 320, .inl (fun _ => 0)), .inl (gI G, 12, .inl (fun _ => 0)), .inl (gI G, 12, .inl (fun _ => 0))] ∧ z.length = 5 := ⟨_, rfl, rfl⟩
  replace hB : Blk G a (.inr (11, f5) :: X5) H := by rw [ef5, eX5]; exact hB
  refine lv_aload_n hx hb dX12_init_47 rfl (lv_at hl 0 rfl) ?_
  refine lv_bipush hx hb dX12_init_48 kb_12 ?_
  refine k_newi S hK hS hB (N := 12) (z := 6) (by show X5.length + 1 = 6; rw [lX5]) kn_12 (Nat.le_of_ble_eq_true rfl) (Nat.le_of_ble_eq_true rfl) (Nat.le_of_ble_eq_true rfl) dX12_init_50 (fun H hB hS => ?_)
  refine k_putF (a := a) (j := 0) S hK fk_X12_25 tyX12_ok nmX12 rfl hname rfl rfl rfl hB rfl (by rw [lf5]; decide) hS dX12_init_52 (fun H locs hB hS => ?_)
  obtain ⟨f6, ef6, lf6⟩ : ∃ z : List Value, z = [.int 0, .ref (a + 1), .ref (a + 2), .ref (a + 3), .int 0, .ref (a + 4), .ref (a + 5), .ref (a + 6), .null, .null, .null, .null, .null, .null, .null, .null, .null, .null, .null, .null, .null, .null, .int 0, .int 0, .int 0, .int 0, .int 0, .int 0, .int 0, .int 0, .int 0, .int 0, .null, .int 0, .null, .int 0, .null, .int 0, .null, .null, .int 0, .null, .null, .null, .int 0, .null, .null, .null, .null, .null, .null, .null, .null] ∧ z.length = 53 := ⟨_, rfl, rfl⟩
  rw [ef5, eX5] at hB
  obtain ⟨X6, eX6, lX6⟩ : ∃ z : List va_E, z = [.inl (gI G, 320, .inl (fun _ => 0)), .inl (gI G, 320, .inl (fun _ => 0)), .inl (gI G, 320, .inl (fun _ => 0)), .inl (gI G, 12, .inl (fun _ => 0)), .inl (gI G, 12, .inl (fun _ => 0)), .inl (gI G, 12, .inl (fun _ => 0))] ∧ z.length = 6 := ⟨_, rfl, rfl⟩
  replace hB : Blk G a (.inr (11, f6) :: X6) H := by rw [ef6, eX6]; exact hB
  refine lv_aload_n hx hb dX12_init_55 rfl (lv_at hl 0 rfl) ?_
  refine lv_iconst hx hb dX12_init_56 ki_5 ?_
  refine k_newi S hK hS hB (N := 5) (z := 7) (by show X6.length + 1 = 7; rw [lX6]) kn_5 (Nat.le_of_ble_eq_true rfl) (Nat.le_of_ble_eq_true rfl) (Nat.le_of_ble_eq_true rfl) dX12_init_57 (fun H hB hS => ?_)
  refine k_putF (a := a) (j := 0) S hK fk_X12_28 tyX12_ok nmX12 rfl hname rfl rfl rfl hB rfl (by rw [lf6]; decide) hS dX12_init_59 (fun H locs hB hS => ?_)
  obtain ⟨f7, ef7, lf7⟩ : ∃ z : List Value, z = [.int 0, .ref (a + 1), .ref (a + 2), .ref (a + 3), .int 0, .ref (a + 4), .ref (a + 5), .ref (a + 6), .ref (a + 7), .null, .null, .null, .null, .null, .null, .null, .null, .null, .null, .null, .null, .null, .int 0, .int 0, .int 0, .int 0, .int 0, .int 0, .int 0, .int 0, .int 0, .int 0, .null, .int 0, .null, .int 0, .null, .int 0, .null, .null, .int 0, .null, .null, .null, .int 0, .null, .null, .null, .null, .null, .null, .null, .null] ∧ z.length = 53 := ⟨_, rfl, rfl⟩
  rw [ef6, eX6] at hB
  obtain ⟨X7, eX7, lX7⟩ : ∃ z : List va_E, z = [.inl (gI G, 320, .inl (fun _ => 0)), .inl (gI G, 320, .inl (fun _ => 0)), .inl (gI G, 320, .inl (fun _ => 0)), .inl (gI G, 12, .inl (fun _ => 0)), .inl (gI G, 12, .inl (fun _ => 0)), .inl (gI G, 12, .inl (fun _ => 0)), .inl (gI G, 5, .inl (fun _ => 0))] ∧ z.length = 7 := ⟨_, rfl, rfl⟩
  replace hB : Blk G a (.inr (11, f7) :: X7) H := by rw [ef7, eX7]; exact hB
  refine lv_aload_n hx hb dX12_init_62 rfl (lv_at hl 0 rfl) ?_
  refine lv_iconst hx hb dX12_init_63 ki_5 ?_
  refine k_newi S hK hS hB (N := 5) (z := 8) (by show X7.length + 1 = 8; rw [lX7]) kn_5 (Nat.le_of_ble_eq_true rfl) (Nat.le_of_ble_eq_true rfl) (Nat.le_of_ble_eq_true rfl) dX12_init_64 (fun H hB hS => ?_)
  refine k_putF (a := a) (j := 0) S hK fk_X12_31 tyX12_ok nmX12 rfl hname rfl rfl rfl hB rfl (by rw [lf7]; decide) hS dX12_init_66 (fun H locs hB hS => ?_)
  obtain ⟨f8, ef8, lf8⟩ : ∃ z : List Value, z = [.int 0, .ref (a + 1), .ref (a + 2), .ref (a + 3), .int 0, .ref (a + 4), .ref (a + 5), .ref (a + 6), .ref (a + 7), .ref (a + 8), .null, .null, .null, .null, .null, .null, .null, .null, .null, .null, .null, .null, .int 0, .int 0, .int 0, .int 0, .int 0, .int 0, .int 0, .int 0, .int 0, .int 0, .null, .int 0, .null, .int 0, .null, .int 0, .null, .null, .int 0, .null, .null, .null, .int 0, .null, .null, .null, .null, .null, .null, .null, .null] ∧ z.length = 53 := ⟨_, rfl, rfl⟩
  rw [ef7, eX7] at hB
  obtain ⟨X8, eX8, lX8⟩ : ∃ z : List va_E, z = [.inl (gI G, 320, .inl (fun _ => 0)), .inl (gI G, 320, .inl (fun _ => 0)), .inl (gI G, 320, .inl (fun _ => 0)), .inl (gI G, 12, .inl (fun _ => 0)), .inl (gI G, 12, .inl (fun _ => 0)), .inl (gI G, 12, .inl (fun _ => 0)), .inl (gI G, 5, .inl (fun _ => 0)), .inl (gI G, 5, .inl (fun _ => 0))] ∧ z.length = 8 := ⟨_, rfl, rfl⟩
  replace hB : Blk G a (.inr (11, f8) :: X8) H := by rw [ef8, eX8]; exact hB
  refine lv_aload_n hx hb dX12_init_69 rfl (lv_at hl 0 rfl) ?_
  refine lv_iconst hx hb dX12_init_70 ki_5 ?_
  refine k_newi S hK hS hB (N := 5) (z := 9) (by show X8.length + 1 = 9; rw [lX8]) kn_5 (Nat.le_of_ble_eq_true rfl) (Nat.le_of_ble_eq_true rfl) (Nat.le_of_ble_eq_true rfl) dX12_init_71 (fun H hB hS => ?_)
  refine k_putF (a := a) (j := 0) S hK fk_X12_34 tyX12_ok nmX12 rfl hname rfl rfl rfl hB rfl (by rw [lf8]; decide) hS dX12_init_73 (fun H locs hB hS => ?_)
  obtain ⟨f9, ef9, lf9⟩ : ∃ z : List Value, z = [.int 0, .ref (a + 1), .ref (a + 2), .ref (a + 3), .int 0, .ref (a + 4), .ref (a + 5), .ref (a + 6), .ref (a + 7), .ref (a + 8), .ref (a + 9), .null, .null, .null, .null, .null, .null, .null, .null, .null, .null, .null, .int 0, .int 0, .int 0, .int 0, .int 0, .int 0, .int 0, .int 0, .int 0, .int 0, .null, .int 0, .null, .int 0, .null, .int 0, .null, .null, .int 0, .null, .null, .null, .int 0, .null, .null, .null, .null, .null, .null, .null, .null] ∧ z.length = 53 := ⟨_, rfl, rfl⟩
  rw [ef8, eX8] at hB
  obtain ⟨X9, eX9, lX9⟩ : ∃ z : List va_E, z = [.inl (gI G, 320, .inl (fun _ => 0)), .inl (gI G, 320, .inl (fun _ => 0)), .inl (gI G, 320, .inl (fun _ => 0)), .inl (gI G, 12, .inl (fun _ => 0)), .inl (gI G, 12, .inl (fun _ => 0)), .inl (gI G, 12, .inl (fun _ => 0)), .inl (gI G, 5, .inl (fun _ => 0)), .inl (gI G, 5, .inl (fun _ => 0)), .inl (gI G, 5, .inl (fun _ => 0))] ∧ z.length = 9 := ⟨_, rfl, rfl⟩
  replace hB : Blk G a (.inr (11, f9) :: X9) H := by rw [ef9, eX9]; exact hB
  refine lv_aload_n hx hb dX12_init_76 rfl (lv_at hl 0 rfl) ?_
  refine lv_bipush hx hb dX12_init_77 kb_16 ?_
  refine k_newi S hK hS hB (N := 16) (z := 10) (by show X9.length + 1 = 10; rw [lX9]) kn_16 (Nat.le_of_ble_eq_true rfl) (Nat.le_of_ble_eq_true rfl) (Nat.le_of_ble_eq_true rfl) dX12_init_79 (fun H hB hS => ?_)
  refine k_putF (a := a) (j := 0) S hK fk_X12_37 tyX12_ok nmX12 rfl hname rfl rfl rfl hB rfl (by rw [lf9]; decide) hS dX12_init_81 (fun H locs hB hS => ?_)
  obtain ⟨f10, ef10, lf10⟩ : ∃ z : List Value, z = [.int 0, .ref (a + 1), .ref (a + 2), .ref (a + 3), .int 0, .ref (a + 4), .ref (a + 5), .ref (a + 6), .ref (a + 7), .ref (a + 8), .ref (a + 9), .ref (a + 10), .null, .null, .null, .null, .null, .null, .null, .null, .null, .null, .int 0, .int 0, .int 0, .int 0, .int 0, .int 0, .int 0, .int 0, .int 0, .int 0, .null, .int 0, .null, .int 0, .null, .int 0, .null, .null, .int 0, .null, .null, .null, .int 0, .null, .null, .null, .null, .null, .null, .null, .null] ∧ z.length = 53 := ⟨_, rfl, rfl⟩
  rw [ef9, eX9] at hB
  obtain ⟨X10, eX10, lX10⟩ : ∃ z : List va_E, z = [.inl (gI G, 320, .inl (fun _ => 0)), .inl (gI G, 320, .inl (fun _ => 0)), .inl (gI G, 320, .inl (fun _ => 0)), .inl (gI G, 12, .inl (fun _ => 0)), .inl (gI G, 12, .inl (fun _ => 0)), .inl (gI G, 12, .inl (fun _ => 0)), .inl (gI G, 5, .inl (fun _ => 0)), .inl (gI G, 5, .inl (fun _ => 0)), .inl (gI G, 5, .inl (fun _ => 0)), .inl (gI G, 16, .inl (fun _ => 0))] ∧ z.length = 10 := ⟨_, rfl, rfl⟩
  replace hB : Blk G a (.inr (11, f10) :: X10) H := by rw [ef10, eX10]; exact hB
  refine lv_aload_n hx hb dX12_init_84 rfl (lv_at hl 0 rfl) ?_
  refine lv_bipush hx hb dX12_init_85 kb_16 ?_
  refine k_newi S hK hS hB (N := 16) (z := 11) (by show X10.length + 1 = 11; rw [lX10]) kn_16 (Nat.le_of_ble_eq_true rfl) (Nat.le_of_ble_eq_true rfl) (Nat.le_of_ble_eq_true rfl) dX12_init_87 (fun H hB hS => ?_)
  refine k_putF (a := a) (j := 0) S hK fk_X12_40 tyX12_ok nmX12 rfl hname rfl rfl rfl hB rfl (by rw [lf10]; decide) hS dX12_init_89 (fun H locs hB hS => ?_)
  obtain ⟨f11, ef11, lf11⟩ : ∃ z : List Value, z = [.int 0, .ref (a + 1), .ref (a + 2), .ref (a + 3), .int 0, .ref (a + 4), .ref (a + 5), .ref (a + 6), .ref (a + 7), .ref (a + 8), .ref (a + 9), .ref (a + 10), .ref (a + 11), .null, .null, .null, .null, .null, .null, .null, .null, .null, .int 0, .int 0, .int 0, .int 0, .int 0, .int 0, .int 0, .int 0, .int 0, .int 0, .null, .int 0, .null, .int 0, .null, .int 0, .null, .null, .int 0, .null, .null, .null, .int 0, .null, .null, .null, .null, .null, .null, .null, .null] ∧ z.length = 53 := ⟨_, rfl, rfl⟩
  rw [ef10, eX10] at hB
  obtain ⟨X11, eX11, lX11⟩ : ∃ z : List va_E, z = [.inl (gI G, 320, .inl (fun _ => 0)), .inl (gI G, 320, .inl (fun _ => 0)), .inl (gI G, 320, .inl (fun _ => 0)), .inl (gI G, 12, .inl (fun _ => 0)), .inl (gI G, 12, .inl (fun _ => 0)), .inl (gI G, 12, .inl (fun _ => 0)), .inl (gI G, 5, .inl (fun _ => 0)), .inl (gI G, 5, .inl (fun _ => 0)), .inl (gI G, 5, .inl (fun _ => 0)), .inl (gI G, 16, .inl (fun _ => 0)), .inl (gI G, 16, .inl (fun _ => 0))] ∧ z.length = 11 := ⟨_, rfl, rfl⟩
  replace hB : Blk G a (.inr (11, f11) :: X11) H := by rw [ef11, eX11]; exact hB
  refine lv_aload_n hx hb dX12_init_92 rfl (lv_at hl 0 rfl) ?_
  refine lv_bipush hx hb dX12_init_93 kb_16 ?_
  refine k_newi S hK hS hB (N := 16) (z := 12) (by show X11.length + 1 = 12; rw [lX11]) kn_16 (Nat.le_of_ble_eq_true rfl) (Nat.le_of_ble_eq_true rfl) (Nat.le_of_ble_eq_true rfl) dX12_init_95 (fun H hB hS => ?_)
  refine k_putF (a := a) (j := 0) S hK fk_X12_43 tyX12_ok nmX12 rfl hname rfl rfl rfl hB rfl (by rw [lf11]; decide) hS dX12_init_97 (fun H locs hB hS => ?_)
  obtain ⟨f12, ef12, lf12⟩ : ∃ z : List Value, z = [.int 0, .ref (a + 1), .ref (a + 2), .ref (a + 3), .int 0, .ref (a + 4), .ref (a + 5), .ref (a + 6), .ref (a + 7), .ref (a + 8), .ref (a + 9), .ref (a + 10), .ref (a + 11), .ref (a + 12), .null, .null, .null, .null, .null, .null, .null, .null, .int 0, .int 0, .int 0, .int 0, .int 0, .int 0, .int 0, .int 0, .int 0, .int 0, .null, .int 0, .null, .int 0, .null, .int 0, .null, .null, .int 0, .null, .null, .null, .int 0, .null, .null, .null, .null, .null, .null, .null, .null] ∧ z.length = 53 := ⟨_, rfl, rfl⟩
  rw [ef11, eX11] at hB
  obtain ⟨X12, eX12, lX12⟩ : ∃ z : List va_E, z = [.inl (gI G, 320, .inl (fun _ => 0)), .inl (gI G, 320, .inl (fun _ => 0)), .inl (gI G, 320, .inl (fun _ => 0)), .inl (gI G, 12, .inl (fun _ => 0)), .inl (gI G, 12, .inl (fun _ => 0)), .inl (gI G, 12, .inl (fun _ => 0)), .inl (gI G, 5, .inl (fun _ => 0)), .inl (gI G, 5, .inl (fun _ => 0)), .inl (gI G, 5, .inl (fun _ => 0)), .inl (gI G, 16, .inl (fun _ => 0)), .inl (gI G, 16, .inl (fun _ => 0)), .inl (gI G, 16, .inl (fun _ => 0))] ∧ z.length = 12 := ⟨_, rfl, rfl⟩
  replace hB : Blk G a (.inr (11, f12) :: X12) H := by rw [ef12, eX12]; exact hB
  refine lv_aload_n hx hb dX12_init_100 rfl (lv_at hl 0 rfl) ?_
  refine lv_sipush hx hb dX12_init_101 ks_192 ?_
  refine k_newi S hK hS hB (N := 192) (z := 13) (by show X12.length + 1 = 13; rw [lX12]) kn_192 (Nat.le_of_ble_eq_true rfl) (Nat.le_of_ble_eq_true rfl) (Nat.le_of_ble_eq_true rfl) dX12_init_104 (fun H hB hS => ?_)
  refine k_putF (a := a) (j := 0) S hK fk_X12_46 tyX12_ok nmX12 rfl hname rfl rfl rfl hB rfl (by rw [lf12]; decide) hS dX12_init_106 (fun H locs hB hS => ?_)
  obtain ⟨f13, ef13, lf13⟩ : ∃ z : List Value, z = [.int 0, .ref (a + 1), .ref (a + 2), .ref (a + 3), .int 0, .ref (a + 4), .ref (a + 5), .ref (a + 6), .ref (a + 7), .ref (a + 8), .ref (a + 9), .ref (a + 10), .ref (a + 11), .ref (a + 12), .ref (a + 13), .null, .null, .null, .null, .null, .null, .null, .int 0, .int 0, .int 0, .int 0, .int 0, .int 0, .int 0, .int 0, .int 0, .int 0, .null, .int 0, .null, .int 0, .null, .int 0, .null, .null, .int 0, .null, .null, .null, .int 0, .null, .null, .null, .null, .null, .null, .null, .null] ∧ z.length = 53 := ⟨_, rfl, rfl⟩
  rw [ef12, eX12] at hB
  obtain ⟨X13, eX13, lX13⟩ : ∃ z : List va_E, z = [.inl (gI G, 320, .inl (fun _ => 0)), .inl (gI G, 320, .inl (fun _ => 0)), .inl (gI G, 320, .inl (fun _ => 0)), .inl (gI G, 12, .inl (fun _ => 0)), .inl (gI G, 12, .inl (fun _ => 0)), .inl (gI G, 12, .inl (fun _ => 0)), .inl (gI G, 5, .inl (fun _ => 0)), .inl (gI G, 5, .inl (fun _ => 0)), .inl (gI G, 5, .inl (fun _ => 0)), .inl (gI G, 16, .inl (fun _ => 0)), .inl (gI G, 16, .inl (fun _ => 0)), .inl (gI G, 16, .inl (fun _ => 0)), .inl (gI G, 192, .inl (fun _ => 0))] ∧ z.length = 13 := ⟨_, rfl, rfl⟩
  replace hB : Blk G a (.inr (11, f13) :: X13) H := by rw [ef13, eX13]; exact hB
  refine lv_aload_n hx hb dX12_init_109 rfl (lv_at hl 0 rfl) ?_
  refine lv_sipush hx hb dX12_init_110 ks_1280 ?_
  refine k_newi S hK hS hB (N := 1280) (z := 14) (by show X13.length + 1 = 14; rw [lX13]) kn_1280 (Nat.le_of_ble_eq_true rfl) (Nat.le_of_ble_eq_true rfl) (Nat.le_of_ble_eq_true rfl) dX12_init_113 (fun H hB hS => ?_)
  refine k_putF (a := a) (j := 0) S hK fk_X12_49 tyX12_ok nmX12 rfl hname rfl rfl rfl hB rfl (by rw [lf13]; decide) hS dX12_init_115 (fun H locs hB hS => ?_)
  obtain ⟨f14, ef14, lf14⟩ : ∃ z : List Value, z = [.int 0, .ref (a + 1), .ref (a + 2), .ref (a + 3), .int 0, .ref (a + 4), .ref (a + 5), .ref (a + 6), .ref (a + 7), .ref (a + 8), .ref (a + 9), .ref (a + 10), .ref (a + 11), .ref (a + 12), .ref (a + 13), .ref (a + 14), .null, .null, .null, .null, .null, .null, .int 0, .int 0, .int 0, .int 0, .int 0, .int 0, .int 0, .int 0, .int 0, .int 0, .null, .int 0, .null, .int 0, .null, .int 0, .null, .null, .int 0, .null, .null, .null, .int 0, .null, .null, .null, .null, .null, .null, .null, .null] ∧ z.length = 53 := ⟨_, rfl, rfl⟩
  rw [ef13, eX13] at hB
  obtain ⟨X14, eX14, lX14⟩ : ∃ z : List va_E, z = [.inl (gI G, 320, .inl (fun _ => 0)), .inl (gI G, 320, .inl (fun _ => 0)), .inl (gI G, 320, .inl (fun _ => 0)), .inl (gI G, 12, .inl (fun _ => 0)), .inl (gI G, 12, .inl (fun _ => 0)), .inl (gI G, 12, .inl (fun _ => 0)), .inl (gI G, 5, .inl (fun _ => 0)), .inl (gI G, 5, .inl (fun _ => 0)), .inl (gI G, 5, .inl (fun _ => 0)), .inl (gI G, 16, .inl (fun _ => 0)), .inl (gI G, 16, .inl (fun _ => 0)), .inl (gI G, 16, .inl (fun _ => 0)), .inl (gI G, 192, .inl (fun _ => 0)), .inl (gI G, 1280, .inl (fun _ => 0))] ∧ z.length = 14 := ⟨_, rfl, rfl⟩
  replace hB : Blk G a (.inr (11, f14) :: X14) H := by rw [ef14, eX14]; exact hB
  refine lv_aload_n hx hb dX12_init_118 rfl (lv_at hl 0 rfl) ?_
  refine lv_bipush hx hb dX12_init_119 kb_16 ?_
  refine k_newi S hK hS hB (N := 16) (z := 15) (by show X14.length + 1 = 15; rw [lX14]) kn_16 (Nat.le_of_ble_eq_true rfl) (Nat.le_of_ble_eq_true rfl) (Nat.le_of_ble_eq_true rfl) dX12_init_121 (fun H hB hS => ?_)
  refine k_putF (a := a) (j := 0) S hK fk_X12_52 tyX12_ok nmX12 rfl hname rfl rfl rfl hB rfl (by rw [lf14]; decide) hS dX12_init_123 (fun H locs hB hS => ?_)
  obtain ⟨f15, ef15, lf15⟩ : ∃ z : List Value, z = [.int 0, .ref (a + 1), .ref (a + 2), .ref (a + 3), .int 0, .ref (a + 4), .ref (a + 5), .ref (a + 6), .ref (a + 7), .ref (a + 8), .ref (a + 9), .ref (a + 10), .ref (a + 11), .ref (a + 12), .ref (a + 13), .ref (a + 14), .ref (a + 15), .null, .null, .null, .null, .null, .int 0, .int 0, .int 0, .int 0, .int 0, .int 0, .int 0, .int 0, .int 0, .int 0, .null, .int 0, .null, .int 0, .null, .int 0, .null, .null, .int 0, .null, .null, .null, .int 0, .null, .null, .null, .null, .null, .null, .null, .null] ∧ z.length = 53 := ⟨_, rfl, rfl⟩
  rw [ef14, eX14] at hB
  obtain ⟨X15, eX15, lX15⟩ : ∃ z : List va_E, z = [.inl (gI G, 320, .inl (fun _ => 0)), .inl (gI G, 320, .inl (fun _ => 0)), .inl (gI G, 320, .inl (fun _ => 0)), .inl (gI G, 12, .inl (fun _ => 0)), .inl (gI G, 12, .inl (fun _ => 0)), .inl (gI G, 12, .inl (fun _ => 0)), .inl (gI G, 5, .inl (fun _ => 0)), .inl (gI G, 5, .inl (fun _ => 0)), .inl (gI G, 5, .inl (fun _ => 0)), .inl (gI G, 16, .inl (fun _ => 0)), .inl (gI G, 16, .inl (fun _ => 0)), .inl (gI G, 16, .inl (fun _ => 0)), .inl (gI G, 192, .inl (fun _ => 0)), .inl (gI G, 1280, .inl (fun _ => 0)), .inl (gI G, 16, .inl (fun _ => 0))] ∧ z.length = 15 := ⟨_, rfl, rfl⟩
  replace hB : Blk G a (.inr (11, f15) :: X15) H := by rw [ef15, eX15]; exact hB
  refine lv_aload_n hx hb dX12_init_126 rfl (lv_at hl 0 rfl) ?_
  refine lv_bipush hx hb dX12_init_127 kb_16 ?_
  refine k_newi S hK hS hB (N := 16) (z := 16) (by show X15.length + 1 = 16; rw [lX15]) kn_16 (Nat.le_of_ble_eq_true rfl) (Nat.le_of_ble_eq_true rfl) (Nat.le_of_ble_eq_true rfl) dX12_init_129 (fun H hB hS => ?_)
  refine k_putF (a := a) (j := 0) S hK fk_X12_55 tyX12_ok nmX12 rfl hname rfl rfl rfl hB rfl (by rw [lf15]; decide) hS dX12_init_131 (fun H locs hB hS => ?_)
  obtain ⟨f16, ef16, lf16⟩ : ∃ z : List Value, z = [.int 0, .ref (a + 1), .ref (a + 2), .ref (a + 3), .int 0, .ref (a + 4), .ref (a + 5), .ref (a + 6), .ref (a + 7), .ref (a + 8), .ref (a + 9), .ref (a + 10), .ref (a + 11), .ref (a + 12), .ref (a + 13), .ref (a + 14), .ref (a + 15), .ref (a + 16), .null, .null, .null, .null, .int 0, .int 0, .int 0, .int 0, .int 0, .int 0, .int 0, .int 0, .int 0, .int 0, .null, .int 0, .null, .int 0, .null, .int 0, .null, .null, .int 0, .null, .null, .null, .int 0, .null, .null, .null, .null, .null, .null, .null, .null] ∧ z.length = 53 := ⟨_, rfl, rfl⟩
  rw [ef15, eX15] at hB
  obtain ⟨X16, eX16, lX16⟩ : ∃ z : List va_E, z = [.inl (gI G, 320, .inl (fun _ => 0)), .inl (gI G, 320, .inl (fun _ => 0)), .inl (gI G, 320, .inl (fun _ => 0)), .inl (gI G, 12, .inl (fun _ => 0)), .inl (gI G, 12, .inl (fun _ => 0)), .inl (gI G, 12, .inl (fun _ => 0)), .inl (gI G, 5, .inl (fun _ => 0)), .inl (gI G, 5, .inl (fun _ => 0)), .inl (gI G, 5, .inl (fun _ => 0)), .inl (gI G, 16, .inl (fun _ => 0)), .inl (gI G, 16, .inl (fun _ => 0)), .inl (gI G, 16, .inl (fun _ => 0)), .inl (gI G, 192, .inl (fun _ => 0)), .inl (gI G, 1280, .inl (fun _ => 0)), .inl (gI G, 16, .inl (fun _ => 0)), .inl (gI G, 16, .inl (fun _ => 0))] ∧ z.length = 16 := ⟨_, rfl, rfl⟩
  replace hB : Blk G a (.inr (11, f16) :: X16) H := by rw [ef16, eX16]; exact hB
  refine lv_aload_n hx hb dX12_init_134 rfl (lv_at hl 0 rfl) ?_
  refine lv_bipush hx hb dX12_init_135 kb_16 ?_
  refine k_newi S hK hS hB (N := 16) (z := 17) (by show X16.length + 1 = 17; rw [lX16]) kn_16 (Nat.le_of_ble_eq_true rfl) (Nat.le_of_ble_eq_true rfl) (Nat.le_of_ble_eq_true rfl) dX12_init_137 (fun H hB hS => ?_)
  refine k_putF (a := a) (j := 0) S hK fk_X12_58 tyX12_ok nmX12 rfl hname rfl rfl rfl hB rfl (by rw [lf16]; decide) hS dX12_init_139 (fun H locs hB hS => ?_)
  obtain ⟨f17, ef17, lf17⟩ : ∃ z : List Value, z = [.int 0, .ref (a + 1), .ref (a + 2), .ref (a + 3), .int 0, .ref (a + 4), .ref (a + 5), .ref (a + 6), .ref (a + 7), .ref (a + 8), .ref (a + 9), .ref (a + 10), .ref (a + 11), .ref (a + 12), .ref (a + 13), .ref (a + 14), .ref (a + 15), .ref (a + 16), .ref (a + 17), .null, .null, .null, .int 0, .int 0, .int 0, .int 0, .int 0, .int 0, .int 0, .int 0, .int 0, .int 0, .null, .int 0, .null, .int 0, .null, .int 0, .null, .null, .int 0, .null, .null, .null, .int 0, .null, .null, .null, .null, .null, .null, .null, .null] ∧ z.length = 53 := ⟨_, rfl, rfl⟩
  rw [ef16, eX16] at hB
  obtain ⟨X17, eX17, lX17⟩ : ∃ z : List va_E, z = [.inl (gI G, 320, .inl (fun _ => 0)), .inl (gI G, 320, .inl (fun _ => 0)), .inl (gI G, 320, .inl (fun _ => 0)), .inl (gI G, 12, .inl (fun _ => 0)), .inl (gI G, 12, .inl (fun _ => 0)), .inl (gI G, 12, .inl (fun _ => 0)), .inl (gI G, 5, .inl (fun _ => 0)), .inl (gI G, 5, .inl (fun _ => 0)), .inl (gI G, 5, .inl (fun _ => 0)), .inl (gI G, 16, .inl (fun _ => 0)), .inl (gI G, 16, .inl (fun _ => 0)), .inl (gI G, 16, .inl (fun _ => 0)), .inl (gI G, 192, .inl (fun _ => 0)), .inl (gI G, 1280, .inl (fun _ => 0)), .inl (gI G, 16, .inl (fun _ => 0)), .inl (gI G, 16, .inl (fun _ => 0)), .inl (gI G, 16, .inl (fun _ => 0))] ∧ z.length = 17 := ⟨_, rfl, rfl⟩
  replace hB : Blk G a (.inr (11, f17) :: X17) H := by rw [ef17, eX17]; exact hB
  refine lv_aload_n hx hb dX12_init_142 rfl (lv_at hl 0 rfl) ?_
  refine lv_bipush hx hb dX12_init_143 kb_30 ?_
  refine k_newi S hK hS hB (N := 30) (z := 18) (by show X17.length + 1 = 18; rw [lX17]) kn_30 (Nat.le_of_ble_eq_true rfl) (Nat.le_of_ble_eq_true rfl) (Nat.le_of_ble_eq_true rfl) dX12_init_145 (fun H hB hS => ?_)
  refine k_putF (a := a) (j := 0) S hK fk_X12_61 tyX12_ok nmX12 rfl hname rfl rfl rfl hB rfl (by rw [lf17]; decide) hS dX12_init_147 (fun H locs hB hS => ?_)
  obtain ⟨f18, ef18, lf18⟩ : ∃ z : List Value, z = [.int 0, .ref (a + 1), .ref (a + 2), .ref (a + 3), .int 0, .ref (a + 4), .ref (a + 5), .ref (a + 6), .ref (a + 7), .ref (a + 8), .ref (a + 9), .ref (a + 10), .ref (a + 11), .ref (a + 12), .ref (a + 13), .ref (a + 14), .ref (a + 15), .ref (a + 16), .ref (a + 17), .ref (a + 18), .null, .null, .int 0, .int 0, .int 0, .int 0, .int 0, .int 0, .int 0, .int 0, .int 0, .int 0, .null, .int 0, .null, .int 0, .null, .int 0, .null, .null, .int 0, .null, .null, .null, .int 0, .null, .null, .null, .null, .null, .null, .null, .null] ∧ z.length = 53 := ⟨_, rfl, rfl⟩
  rw [ef17, eX17] at hB
  obtain ⟨X18, eX18, lX18⟩ : ∃ z : List va_E, z = [.inl (gI G, 320, .inl (fun _ => 0)), .inl (gI G, 320, .inl (fun _ => 0)), .inl (gI G, 320, .inl (fun _ => 0)), .inl (gI G, 12, .inl (fun _ => 0)), .inl (gI G, 12, .inl (fun _ => 0)), .inl (gI G, 12, .inl (fun _ => 0)), .inl (gI G, 5, .inl (fun _ => 0)), .inl (gI G, 5, .inl (fun _ => 0)), .inl (gI G, 5, .inl (fun _ => 0)), .inl (gI G, 16, .inl (fun _ => 0)), .inl (gI G, 16, .inl (fun _ => 0)), .inl (gI G, 16, .inl (fun _ => 0)), .inl (gI G, 192, .inl (fun _ => 0)), .inl (gI G, 1280, .inl (fun _ => 0)), .inl (gI G, 16, .inl (fun _ => 0)), .inl (gI G, 16, .inl (fun _ => 0)), .inl (gI G, 16, .inl (fun _ => 0)), .inl (gI G, 30, .inl (fun _ => 0))] ∧ z.length = 18 := ⟨_, rfl, rfl⟩
  replace hB : Blk G a (.inr (11, f18) :: X18) H := by rw [ef18, eX18]; exact hB
  refine lv_aload_n hx hb dX12_init_150 rfl (lv_at hl 0 rfl) ?_
  refine lv_bipush hx hb dX12_init_151 kb_30 ?_
  refine k_newi S hK hS hB (N := 30) (z := 19) (by show X18.length + 1 = 19; rw [lX18]) kn_30 (Nat.le_of_ble_eq_true rfl) (Nat.le_of_ble_eq_true rfl) (Nat.le_of_ble_eq_true rfl) dX12_init_153 (fun H hB hS => ?_)
  refine k_putF (a := a) (j := 0) S hK fk_X12_64 tyX12_ok nmX12 rfl hname rfl rfl rfl hB rfl (by rw [lf18]; decide) hS dX12_init_155 (fun H locs hB hS => ?_)
  obtain ⟨f19, ef19, lf19⟩ : ∃ z : List Value, z = [.int 0, .ref (a + 1), .ref (a + 2), .ref (a + 3), .int 0, .ref (a + 4), .ref (a + 5), .ref (a + 6), .ref (a + 7), .ref (a + 8), .ref (a + 9), .ref (a + 10), .ref (a + 11), .ref (a + 12), .ref (a + 13), .ref (a + 14), .ref (a + 15), .ref (a + 16), .ref (a + 17), .ref (a + 18), .ref (a + 19), .null, .int 0, .int 0, .int 0, .int 0, .int 0, .int 0, .int 0, .int 0, .int 0, .int 0, .null, .int 0, .null, .int 0, .null, .int 0, .null, .null, .int 0, .null, .null, .null, .int 0, .null, .null, .null, .null, .null, .null, .null, .null] ∧ z.length = 53 := ⟨_, rfl, rfl⟩
  rw [ef18, eX18] at hB
  obtain ⟨X19, eX19, lX19⟩ : ∃ z : List va_E, z = [.inl (gI G, 320, .inl (fun _ => 0)), .inl (gI G, 320, .inl (fun _ => 0)), .inl (gI G, 320, .inl (fun _ => 0)), .inl (gI G, 12, .inl (fun _ => 0)), .inl (gI G, 12, .inl (fun _ => 0)), .inl (gI G, 12, .inl (fun _ => 0)), .inl (gI G, 5, .inl (fun _ => 0)), .inl (gI G, 5, .inl (fun _ => 0)), .inl (gI G, 5, .inl (fun _ => 0)), .inl (gI G, 16, .inl (fun _ => 0)), .inl (gI G, 16, .inl (fun _ => 0)), .inl (gI G, 16, .inl (fun _ => 0)), .inl (gI G, 192, .inl (fun _ => 0)), .inl (gI G, 1280, .inl (fun _ => 0)), .inl (gI G, 16, .inl (fun _ => 0)), .inl (gI G, 16, .inl (fun _ => 0)), .inl (gI G, 16, .inl (fun _ => 0)), .inl (gI G, 30, .inl (fun _ => 0)), .inl (gI G, 30, .inl (fun _ => 0))] ∧ z.length = 19 := ⟨_, rfl, rfl⟩
  replace hB : Blk G a (.inr (11, f19) :: X19) H := by rw [ef19, eX19]; exact hB
  refine lv_aload_n hx hb dX12_init_158 rfl (lv_at hl 0 rfl) ?_
  refine lv_bipush hx hb dX12_init_159 kb_30 ?_
  refine k_newi S hK hS hB (N := 30) (z := 20) (by show X19.length + 1 = 20; rw [lX19]) kn_30 (Nat.le_of_ble_eq_true rfl) (Nat.le_of_ble_eq_true rfl) (Nat.le_of_ble_eq_true rfl) dX12_init_161 (fun H hB hS => ?_)
  refine k_putF (a := a) (j := 0) S hK fk_X12_67 tyX12_ok nmX12 rfl hname rfl rfl rfl hB rfl (by rw [lf19]; decide) hS dX12_init_163 (fun H locs hB hS => ?_)
  obtain ⟨f20, ef20, lf20⟩ : ∃ z : List Value, z = [.int 0, .ref (a + 1), .ref (a + 2), .ref (a + 3), .int 0, .ref (a + 4), .ref (a + 5), .ref (a + 6), .ref (a + 7), .ref (a + 8), .ref (a + 9), .ref (a + 10), .ref (a + 11), .ref (a + 12), .ref (a + 13), .ref (a + 14), .ref (a + 15), .ref (a + 16), .ref (a + 17), .ref (a + 18), .ref (a + 19), .ref (a + 20), .int 0, .int 0, .int 0, .int 0, .int 0, .int 0, .int 0, .int 0, .int 0, .int 0, .null, .int 0, .null, .int 0, .null, .int 0, .null, .null, .int 0, .null, .null, .null, .int 0, .null, .null, .null, .null, .null, .null, .null, .null] ∧ z.length = 53 := ⟨_, rfl, rfl⟩
  rw [ef19, eX19] at hB
  obtain ⟨X20, eX20, lX20⟩ : ∃ z : List va_E, z = [.inl (gI G, 320, .inl (fun _ => 0)), .inl (gI G, 320, .inl (fun _ => 0)), .inl (gI G, 320, .inl (fun _ => 0)), .inl (gI G, 12, .inl (fun _ => 0)), .inl (gI G, 12, .inl (fun _ => 0)), .inl (gI G, 12, .inl (fun _ => 0)), .inl (gI G, 5, .inl (fun _ => 0)), .inl (gI G, 5, .inl (fun _ => 0)), .inl (gI G, 5, .inl (fun _ => 0)), .inl (gI G, 16, .inl (fun _ => 0)), .inl (gI G, 16, .inl (fun _ => 0)), .inl (gI G, 16, .inl (fun _ => 0)), .inl (gI G, 192, .inl (fun _ => 0)), .inl (gI G, 1280, .inl (fun _ => 0)), .inl (gI G, 16, .inl (fun _ => 0)), .inl (gI G, 16, .inl (fun _ => 0)), .inl (gI G, 16, .inl (fun _ => 0)), .inl (gI G, 30, .inl (fun _ => 0)), .inl (gI G, 30, .inl (fun _ => 0)), .inl (gI G, 30, .inl (fun _ => 0))] ∧ z.length = 20 := ⟨_, rfl, rfl⟩
  replace hB : Blk G a (.inr (11, f20) :: X20) H := by rw [ef20, eX20]; exact hB
  refine lv_aload_n hx hb dX12_init_166 rfl (lv_at hl 0 rfl) ?_
  refine lv_iconst hx hb dX12_init_167 ki_m1 ?_
  refine k_putN (a := a) (j := 0) S hK fk_X12_70 tyX12_ok nmX12 rfl rfl rfl hB rfl (by rw [lf20]; decide) hS dX12_init_168 (fun H locs hB hS => ?_)
  obtain ⟨f21, ef21, lf21⟩ : ∃ z : List Value, z = [.int 0, .ref (a + 1), .ref (a + 2), .ref (a + 3), .int 0, .ref (a + 4), .ref (a + 5), .ref (a + 6), .ref (a + 7), .ref (a + 8), .ref (a + 9), .ref (a + 10), .ref (a + 11), .ref (a + 12), .ref (a + 13), .ref (a + 14), .ref (a + 15), .ref (a + 16), .ref (a + 17), .ref (a + 18), .ref (a + 19), .ref (a + 20), .int (-1), .int 0, .int 0, .int 0, .int 0, .int 0, .int 0, .int 0, .int 0, .int 0, .null, .int 0, .null, .int 0, .null, .int 0, .null, .null, .int 0, .null, .null, .null, .int 0, .null, .null, .null, .null, .null, .null, .null, .null] ∧ z.length = 53 := ⟨_, rfl, rfl⟩
  rw [ef20] at hB
  replace hB : Blk G a (.inr (11, f21) :: X20) H := by rw [ef21]; exact hB
  refine lv_aload_n hx hb dX12_init_171 rfl (lv_at hl 0 rfl) ?_
  refine lv_bipush hx hb dX12_init_172 kb_100 ?_
  refine k_newz S hK hS hB (N := 100) (z := 21) (by show X20.length + 1 = 21; rw [lX20]) kn_100 (Nat.le_of_ble_eq_true rfl) (Nat.le_of_ble_eq_true rfl) (Nat.le_of_ble_eq_true rfl) mw_1302 dX12_init_174 (fun H hB hS => ?_)
  refine k_putF (a := a) (j := 0) S hK fk_X12_74 tyX12_ok nmX12 rfl hname rfl rfl rfl hB rfl (by rw [lf21]; decide) hS dX12_init_176 (fun H locs hB hS => ?_)
  obtain ⟨f22, ef22, lf22⟩ : ∃ z : List Value, z = [.int 0, .ref (a + 1), .ref (a + 2), .ref (a + 3), .int 0, .ref (a + 4), .ref (a + 5), .ref (a + 6), .ref (a + 7), .ref (a + 8), .ref (a + 9), .ref (a + 10), .ref (a + 11), .ref (a + 12), .ref (a + 13), .ref (a + 14), .ref (a + 15), .ref (a + 16), .ref (a + 17), .ref (a + 18), .ref (a + 19), .ref (a + 20), .int (-1), .int 0, .int 0, .int 0, .int 0, .int 0, .int 0, .int 0, .int 0, .int 0, .ref (a + 21), .int 0, .null, .int 0, .null, .int 0, .null, .null, .int 0, .null, .null, .null, .int 0, .null, .null, .null, .null, .null, .null, .null, .null] ∧ z.length = 53 := ⟨_, rfl, rfl⟩
  rw [ef21, eX20] at hB
  obtain ⟨X21, eX21, lX21⟩ : ∃ z : List va_E, z = [.inl (gI G, 320, .inl (fun _ => 0)), .inl (gI G, 320, .inl (fun _ => 0)), .inl (gI G, 320, .inl (fun _ => 0)), .inl (gI G, 12, .inl (fun _ => 0)), .inl (gI G, 12, .inl (fun _ => 0)), .inl (gI G, 12, .inl (fun _ => 0)), .inl (gI G, 5, .inl (fun _ => 0)), .inl (gI G, 5, .inl (fun _ => 0)), .inl (gI G, 5, .inl (fun _ => 0)), .inl (gI G, 16, .inl (fun _ => 0)), .inl (gI G, 16, .inl (fun _ => 0)), .inl (gI G, 16, .inl (fun _ => 0)), .inl (gI G, 192, .inl (fun _ => 0)), .inl (gI G, 1280, .inl (fun _ => 0)), .inl (gI G, 16, .inl (fun _ => 0)), .inl (gI G, 16, .inl (fun _ => 0)), .inl (gI G, 16, .inl (fun _ => 0)), .inl (gI G, 30, .inl (fun _ => 0)), .inl (gI G, 30, .inl (fun _ => 0)), .inl (gI G, 30, .inl (fun _ => 0)), .inl (gZ G, 100, .inl (fun _ => 0))] ∧ z.length = 21 := ⟨_, rfl, rfl⟩
  replace hB : Blk G a (.inr (11, f22) :: X21) H := by rw [ef22, eX21]; exact hB
  refine lv_aload_n hx hb dX12_init_179 rfl (lv_at hl 0 rfl) ?_
  refine lv_sipush hx hb dX12_init_180 ks_200 ?_
  refine k_newi S hK hS hB (N := 200) (z := 22) (by show X21.length + 1 = 22; rw [lX21]) kn_200 (Nat.le_of_ble_eq_true rfl) (Nat.le_of_ble_eq_true rfl) (Nat.le_of_ble_eq_true rfl) dX12_init_183 (fun H hB hS => ?_)
  refine k_putF (a := a) (j := 0) S hK fk_X12_78 tyX12_ok nmX12 rfl hname rfl rfl rfl hB rfl (by rw [lf22]; decide) hS dX12_init_185 (fun H locs hB hS => ?_)
  obtain ⟨f23, ef23, lf23⟩ : ∃ z : List Value, z = [.int 0, .ref (a + 1), .ref (a + 2), .ref (a + 3), .int 0, .ref (a + 4), .ref (a + 5), .ref (a + 6), .ref (a + 7), .ref (a + 8), .ref (a + 9), .ref (a + 10), .ref (a + 11), .ref (a + 12), .ref (a + 13), .ref (a + 14), .ref (a + 15), .ref (a + 16), .ref (a + 17), .ref (a + 18), .ref (a + 19), .ref (a + 20), .int (-1), .int 0, .int 0, .int 0, .int 0, .int 0, .int 0, .int 0, .int 0, .int 0, .ref (a + 21), .int 0, .ref (a + 22), .int 0, .null, .int 0, .null, .null, .int 0, .null, .null, .null, .int 0, .null, .null, .null, .null, .null, .null, .null, .null] ∧ z.length = 53 := ⟨_, rfl, rfl⟩
  rw [ef22, eX21] at hB
  obtain ⟨X22, eX22, lX22⟩ : ∃ z : List va_E, z = [.inl (gI G, 320, .inl (fun _ => 0)), .inl (gI G, 320, .inl (fun _ => 0)), .inl (gI G, 320, .inl (fun _ => 0)), .inl (gI G, 12, .inl (fun _ => 0)), .inl (gI G, 12, .inl (fun _ => 0)), .inl (gI G, 12, .inl (fun _ => 0)), .inl (gI G, 5, .inl (fun _ => 0)), .inl (gI G, 5, .inl (fun _ => 0)), .inl (gI G, 5, .inl (fun _ => 0)), .inl (gI G, 16, .inl (fun _ => 0)), .inl (gI G, 16, .inl (fun _ => 0)), .inl (gI G, 16, .inl (fun _ => 0)), .inl (gI G, 192, .inl (fun _ => 0)), .inl (gI G, 1280, .inl (fun _ => 0)), .inl (gI G, 16, .inl (fun _ => 0)), .inl (gI G, 16, .inl (fun _ => 0)), .inl (gI G, 16, .inl (fun _ => 0)), .inl (gI G, 30, .inl (fun _ => 0)), .inl (gI G, 30, .inl (fun _ => 0)), .inl (gI G, 30, .inl (fun _ => 0)), .inl (gZ G, 100, .inl (fun _ => 0)), .inl (gI G, 200, .inl (fun _ => 0))] ∧ z.length = 22 := ⟨_, rfl, rfl⟩
  replace hB : Blk G a (.inr (11, f23) :: X22) H := by rw [ef23, eX22]; exact hB
  refine lv_aload_n hx hb dX12_init_188 rfl (lv_at hl 0 rfl) ?_
  refine lv_bipush hx hb dX12_init_189 kb_12 ?_
  refine k_newi S hK hS hB (N := 12) (z := 23) (by show X22.length + 1 = 23; rw [lX22]) kn_12 (Nat.le_of_ble_eq_true rfl) (Nat.le_of_ble_eq_true rfl) (Nat.le_of_ble_eq_true rfl) dX12_init_191 (fun H hB hS => ?_)
  refine k_putF (a := a) (j := 0) S hK fk_X12_81 tyX12_ok nmX12 rfl hname rfl rfl rfl hB rfl (by rw [lf23]; decide) hS dX12_init_193 (fun H locs hB hS => ?_)
  obtain ⟨f24, ef24, lf24⟩ : ∃ z : List Value, z = [.int 0, .ref (a + 1), .ref (a + 2), .ref (a + 3), .int 0, .ref (a + 4), .ref (a + 5), .ref (a + 6), .ref (a + 7), .ref (a + 8), .ref (a + 9), .ref (a + 10), .ref (a + 11), .ref (a + 12), .ref (a + 13), .ref (a + 14), .ref (a + 15), .ref (a + 16), .ref (a + 17), .ref (a + 18), .ref (a + 19), .ref (a + 20), .int (-1), .int 0, .int 0, .int 0, .int 0, .int 0, .int 0, .int 0, .int 0, .int 0, .ref (a + 21), .int 0, .ref (a + 22), .int 0, .ref (a + 23), .int 0, .null, .null, .int 0, .null, .null, .null, .int 0, .null, .null, .null, .null, .null, .null, .null, .null] ∧ z.length = 53 := ⟨_, rfl, rfl⟩
  rw [ef23, eX22] at hB
  obtain ⟨X23, eX23, lX23⟩ : ∃ z : List va_E, z = [.inl (gI G, 320, .inl (fun _ => 0)), .inl (gI G, 320, .inl (fun _ => 0)), .inl (gI G, 320, .inl (fun _ => 0)), .inl (gI G, 12, .inl (fun _ => 0)), .inl (gI G, 12, .inl (fun _ => 0)), .inl (gI G, 12, .inl (fun _ => 0)), .inl (gI G, 5, .inl (fun _ => 0)), .inl (gI G, 5, .inl (fun _ => 0)), .inl (gI G, 5, .inl (fun _ => 0)), .inl (gI G, 16, .inl (fun _ => 0)), .inl (gI G, 16, .inl (fun _ => 0)), .inl (gI G, 16, .inl (fun _ => 0)), .inl (gI G, 192, .inl (fun _ => 0)), .inl (gI G, 1280, .inl (fun _ => 0)), .inl (gI G, 16, .inl (fun _ => 0)), .inl (gI G, 16, .inl (fun _ => 0)), .inl (gI G, 16, .inl (fun _ => 0)), .inl (gI G, 30, .inl (fun _ => 0)), .inl (gI G, 30, .inl (fun _ => 0)), .inl (gI G, 30, .inl (fun _ => 0)), .inl (gZ G, 100, .inl (fun _ => 0)), .inl (gI G, 200, .inl (fun _ => 0)), .inl (gI G, 12, .inl (fun _ => 0))] ∧ z.length = 23 := ⟨_, rfl, rfl⟩
  replace hB : Blk G a (.inr (11, f24) :: X23) H := by rw [ef24, eX23]; exact hB
  refine lv_aload_n hx hb dX12_init_196 rfl (lv_at hl 0 rfl) ?_
  refine lv_iconst hx hb dX12_init_197 ki_m1 ?_
  refine k_putN (a := a) (j := 0) S hK fk_X12_84 tyX12_ok nmX12 rfl rfl rfl hB rfl (by rw [lf24]; decide) hS dX12_init_198 (fun H locs hB hS => ?_)
  obtain ⟨f25, ef25, lf25⟩ : ∃ z : List Value, z = [.int 0, .ref (a + 1), .ref (a + 2), .ref (a + 3), .int 0, .ref (a + 4), .ref (a + 5), .ref (a + 6), .ref (a + 7), .ref (a + 8), .ref (a + 9), .ref (a + 10), .ref (a + 11), .ref (a + 12), .ref (a + 13), .ref (a + 14), .ref (a + 15), .ref (a + 16), .ref (a + 17), .ref (a + 18), .ref (a + 19), .ref (a + 20), .int (-1), .int 0, .int 0, .int 0, .int 0, .int 0, .int 0, .int 0, .int 0, .int 0, .ref (a + 21), .int 0, .ref (a + 22), .int 0, .ref (a + 23), .int (-1), .null, .null, .int 0, .null, .null, .null, .int 0, .null, .null, .null, .null, .null, .null, .null, .null] ∧ z.length = 53 := ⟨_, rfl, rfl⟩
  rw [ef24] at hB
  replace hB : Blk G a (.inr (11, f25) :: X23) H := by rw [ef25]; exact hB
  refine lv_aload_n hx hb dX12_init_201 rfl (lv_at hl 0 rfl) ?_
  refine lv_iconst hx hb dX12_init_202 ki_5 ?_
  refine k_newi S hK hS hB (N := 5) (z := 24) (by show X23.length + 1 = 24; rw [lX23]) kn_5 (Nat.le_of_ble_eq_true rfl) (Nat.le_of_ble_eq_true rfl) (Nat.le_of_ble_eq_true rfl) dX12_init_203 (fun H hB hS => ?_)
  refine k_putF (a := a) (j := 0) S hK fk_X12_87 tyX12_ok nmX12 rfl hname rfl rfl rfl hB rfl (by rw [lf25]; decide) hS dX12_init_205 (fun H locs hB hS => ?_)
  obtain ⟨f26, ef26, lf26⟩ : ∃ z : List Value, z = [.int 0, .ref (a + 1), .ref (a + 2), .ref (a + 3), .int 0, .ref (a + 4), .ref (a + 5), .ref (a + 6), .ref (a + 7), .ref (a + 8), .ref (a + 9), .ref (a + 10), .ref (a + 11), .ref (a + 12), .ref (a + 13), .ref (a + 14), .ref (a + 15), .ref (a + 16), .ref (a + 17), .ref (a + 18), .ref (a + 19), .ref (a + 20), .int (-1), .int 0, .int 0, .int 0, .int 0, .int 0, .int 0, .int 0, .int 0, .int 0, .ref (a + 21), .int 0, .ref (a + 22), .int 0, .ref (a + 23), .int (-1), .ref (a + 24), .null, .int 0, .null, .null, .null, .int 0, .null, .null, .null, .null, .null, .null, .null, .null] ∧ z.length = 53 := ⟨_, rfl, rfl⟩
  rw [ef25, eX23] at hB
  obtain ⟨X24, eX24, lX24⟩ : ∃ z : List va_E, z = [.inl (gI G, 320, .inl (fun _ => 0)), .inl (gI G, 320, .inl (fun _ => 0)), .inl (gI G, 320, .inl (fun _ => 0)), .inl (gI G, 12, .inl (fun _ => 0)), .inl (gI G, 12, .inl (fun _ => 0)), .inl (gI G, 12, .inl (fun _ => 0)), .inl (gI G, 5, .inl (fun _ => 0)), .inl (gI G, 5, .inl (fun _ => 0)), .inl (gI G, 5, .inl (fun _ => 0)), .inl (gI G, 16, .inl (fun _ => 0)), .inl (gI G, 16, .inl (fun _ => 0)), .inl (gI G, 16, .inl (fun _ => 0)), .inl (gI G, 192, .inl (fun _ => 0)), .inl (gI G, 1280, .inl (fun _ => 0)), .inl (gI G, 16, .inl (fun _ => 0)), .inl (gI G, 16, .inl (fun _ => 0)), .inl (gI G, 16, .inl (fun _ => 0)), .inl (gI G, 30, .inl (fun _ => 0)), .inl (gI G, 30, .inl (fun _ => 0)), .inl (gI G, 30, .inl (fun _ => 0)), .inl (gZ G, 100, .inl (fun _ => 0)), .inl (gI G, 200, .inl (fun _ => 0)), .inl (gI G, 12, .inl (fun _ => 0)), .inl (gI G, 5, .inl (fun _ => 0))] ∧ z.length = 24 := ⟨_, rfl, rfl⟩
  replace hB : Blk G a (.inr (11, f26) :: X24) H := by rw [ef26, eX24]; exact hB
  refine lv_aload_n hx hb dX12_init_208 rfl (lv_at hl 0 rfl) ?_
  refine lv_iconst hx hb dX12_init_209 ki_5 ?_
  refine k_newi S hK hS hB (N := 5) (z := 25) (by show X24.length + 1 = 25; rw [lX24]) kn_5 (Nat.le_of_ble_eq_true rfl) (Nat.le_of_ble_eq_true rfl) (Nat.le_of_ble_eq_true rfl) dX12_init_210 (fun H hB hS => ?_)
  refine k_putF (a := a) (j := 0) S hK fk_X12_90 tyX12_ok nmX12 rfl hname rfl rfl rfl hB rfl (by rw [lf26]; decide) hS dX12_init_212 (fun H locs hB hS => ?_)
  obtain ⟨f27, ef27, lf27⟩ : ∃ z : List Value, z = [.int 0, .ref (a + 1), .ref (a + 2), .ref (a + 3), .int 0, .ref (a + 4), .ref (a + 5), .ref (a + 6), .ref (a + 7), .ref (a + 8), .ref (a + 9), .ref (a + 10), .ref (a + 11), .ref (a + 12), .ref (a + 13), .ref (a + 14), .ref (a + 15), .ref (a + 16), .ref (a + 17), .ref (a + 18), .ref (a + 19), .ref (a + 20), .int (-1), .int 0, .int 0, .int 0, .int 0, .int 0, .int 0, .int 0, .int 0, .int 0, .ref (a + 21), .int 0, .ref (a + 22), .int 0, .ref (a + 23), .int (-1), .ref (a + 24), .ref (a + 25), .int 0, .null, .null, .null, .int 0, .null, .null, .null, .null, .null, .null, .null, .null] ∧ z.length = 53 := ⟨_, rfl, rfl⟩
  rw [ef26, eX24] at hB
  obtain ⟨X25, eX25, lX25⟩ : ∃ z : List va_E, z = [.inl (gI G, 320, .inl (fun _ => 0)), .inl (gI G, 320, .inl (fun _ => 0)), .inl (gI G, 320, .inl (fun _ => 0)), .inl (gI G, 12, .inl (fun _ => 0)), .inl (gI G, 12, .inl (fun _ => 0)), .inl (gI G, 12, .inl (fun _ => 0)), .inl (gI G, 5, .inl (fun _ => 0)), .inl (gI G, 5, .inl (fun _ => 0)), .inl (gI G, 5, .inl (fun _ => 0)), .inl (gI G, 16, .inl (fun _ => 0)), .inl (gI G, 16, .inl (fun _ => 0)), .inl (gI G, 16, .inl (fun _ => 0)), .inl (gI G, 192, .inl (fun _ => 0)), .inl (gI G, 1280, .inl (fun _ => 0)), .inl (gI G, 16, .inl (fun _ => 0)), .inl (gI G, 16, .inl (fun _ => 0)), .inl (gI G, 16, .inl (fun _ => 0)), .inl (gI G, 30, .inl (fun _ => 0)), .inl (gI G, 30, .inl (fun _ => 0)), .inl (gI G, 30, .inl (fun _ => 0)), .inl (gZ G, 100, .inl (fun _ => 0)), .inl (gI G, 200, .inl (fun _ => 0)), .inl (gI G, 12, .inl (fun _ => 0)), .inl (gI G, 5, .inl (fun _ => 0)), .inl (gI G, 5, .inl (fun _ => 0))] ∧ z.length = 25 := ⟨_, rfl, rfl⟩
  replace hB : Blk G a (.inr (11, f27) :: X25) H := by rw [ef27, eX25]; exact hB
  refine lv_aload_n hx hb dX12_init_215 rfl (lv_at hl 0 rfl) ?_
  refine lv_bipush hx hb dX12_init_216 kb_7 ?_
  refine k_newi S hK hS hB (N := 7) (z := 26) (by show X25.length + 1 = 26; rw [lX25]) kn_7 (Nat.le_of_ble_eq_true rfl) (Nat.le_of_ble_eq_true rfl) (Nat.le_of_ble_eq_true rfl) dX12_init_218 (fun H hB hS => ?_)
  refine k_putF (a := a) (j := 0) S hK fk_X12_93 tyX12_ok nmX12 rfl hname rfl rfl rfl hB rfl (by rw [lf27]; decide) hS dX12_init_220 (fun H locs hB hS => ?_)
  obtain ⟨f28, ef28, lf28⟩ : ∃ z : List Value, z = [.int 0, .ref (a + 1), .ref (a + 2), .ref (a + 3), .int 0, .ref (a + 4), .ref (a + 5), .ref (a + 6), .ref (a + 7), .ref (a + 8), .ref (a + 9), .ref (a + 10), .ref (a + 11), .ref (a + 12), .ref (a + 13), .ref (a + 14), .ref (a + 15), .ref (a + 16), .ref (a + 17), .ref (a + 18), .ref (a + 19), .ref (a + 20), .int (-1), .int 0, .int 0, .int 0, .int 0, .int 0, .int 0, .int 0, .int 0, .int 0, .ref (a + 21), .int 0, .ref (a + 22), .int 0, .ref (a + 23), .int (-1), .ref (a + 24), .ref (a + 25), .int 0, .ref (a + 26), .null, .null, .int 0, .null, .null, .null, .null, .null, .null, .null, .null] ∧ z.length = 53 := ⟨_, rfl, rfl⟩
  rw [ef27, eX25] at hB
  obtain ⟨X26, eX26, lX26⟩ : ∃ z : List va_E, z = [.inl (gI G, 320, .inl (fun _ => 0)), .inl (gI G, 320, .inl (fun _ => 0)), .inl (gI G, 320, .inl (fun _ => 0)), .inl (gI G, 12, .inl (fun _ => 0)), .inl (gI G, 12, .inl (fun _ => 0)), .inl (gI G, 12, .inl (fun _ => 0)), .inl (gI G, 5, .inl (fun _ => 0)), .inl (gI G, 5, .inl (fun _ => 0)), .inl (gI G, 5, .inl (fun _ => 0)), .inl (gI G, 16, .inl (fun _ => 0)), .inl (gI G, 16, .inl (fun _ => 0)), .inl (gI G, 16, .inl (fun _ => 0)), .inl (gI G, 192, .inl (fun _ => 0)), .inl (gI G, 1280, .inl (fun _ => 0)), .inl (gI G, 16, .inl (fun _ => 0)), .inl (gI G, 16, .inl (fun _ => 0)), .inl (gI G, 16, .inl (fun _ => 0)), .inl (gI G, 30, .inl (fun _ => 0)), .inl (gI G, 30, .inl (fun _ => 0)), .inl (gI G, 30, .inl (fun _ => 0)), .inl (gZ G, 100, .inl (fun _ => 0)), .inl (gI G, 200, .inl (fun _ => 0)), .inl (gI G, 12, .inl (fun _ => 0)), .inl (gI G, 5, .inl (fun _ => 0)), .inl (gI G, 5, .inl (fun _ => 0)), .inl (gI G, 7, .inl (fun _ => 0))] ∧ z.length = 26 := ⟨_, rfl, rfl⟩
  replace hB : Blk G a (.inr (11, f28) :: X26) H := by rw [ef28, eX26]; exact hB
  refine lv_aload_n hx hb dX12_init_223 rfl (lv_at hl 0 rfl) ?_
  refine lv_bipush hx hb dX12_init_224 kb_7 ?_
  refine k_newi S hK hS hB (N := 7) (z := 27) (by show X26.length + 1 = 27; rw [lX26]) kn_7 (Nat.le_of_ble_eq_true rfl) (Nat.le_of_ble_eq_true rfl) (Nat.le_of_ble_eq_true rfl) dX12_init_226 (fun H hB hS => ?_)
  refine k_putF (a := a) (j := 0) S hK fk_X12_96 tyX12_ok nmX12 rfl hname rfl rfl rfl hB rfl (by rw [lf28]; decide) hS dX12_init_228 (fun H locs hB hS => ?_)
  obtain ⟨f29, ef29, lf29⟩ : ∃ z : List Value, z = [.int 0, .ref (a + 1), .ref (a + 2), .ref (a + 3), .int 0, .ref (a + 4), .ref (a + 5), .ref (a + 6), .ref (a + 7), .ref (a + 8), .ref (a + 9), .ref (a + 10), .ref (a + 11), .ref (a + 12), .ref (a + 13), .ref (a + 14), .ref (a + 15), .ref (a + 16), .ref (a + 17), .ref (a + 18), .ref (a + 19), .ref (a + 20), .int (-1), .int 0, .int 0, .int 0, .int 0, .int 0, .int 0, .int 0, .int 0, .int 0, .ref (a + 21), .int 0, .ref (a + 22), .int 0, .ref (a + 23), .int (-1), .ref (a + 24), .ref (a + 25), .int 0, .ref (a + 26), .ref (a + 27), .null, .int 0, .null, .null, .null, .null, .null, .null, .null, .null] ∧ z.length = 53 := ⟨_, rfl, rfl⟩
  rw [ef28, eX26] at hB
  obtain ⟨X27, eX27, lX27⟩ : ∃ z : List va_E, z = [.inl (gI G, 320, .inl (fun _ => 0)), .inl (gI G, 320, .inl (fun _ => 0)), .inl (gI G, 320, .inl (fun _ => 0)), .inl (gI G, 12, .inl (fun _ => 0)), .inl (gI G, 12, .inl (fun _ => 0)), .inl (gI G, 12, .inl (fun _ => 0)), .inl (gI G, 5, .inl (fun _ => 0)), .inl (gI G, 5, .inl (fun _ => 0)), .inl (gI G, 5, .inl (fun _ => 0)), .inl (gI G, 16, .inl (fun _ => 0)), .inl (gI G, 16, .inl (fun _ => 0)), .inl (gI G, 16, .inl (fun _ => 0)), .inl (gI G, 192, .inl (fun _ => 0)), .inl (gI G, 1280, .inl (fun _ => 0)), .inl (gI G, 16, .inl (fun _ => 0)), .inl (gI G, 16, .inl (fun _ => 0)), .inl (gI G, 16, .inl (fun _ => 0)), .inl (gI G, 30, .inl (fun _ => 0)), .inl (gI G, 30, .inl (fun _ => 0)), .inl (gI G, 30, .inl (fun _ => 0)), .inl (gZ G, 100, .inl (fun _ => 0)), .inl (gI G, 200, .inl (fun _ => 0)), .inl (gI G, 12, .inl (fun _ => 0)), .inl (gI G, 5, .inl (fun _ => 0)), .inl (gI G, 5, .inl (fun _ => 0)), .inl (gI G, 7, .inl (fun _ => 0)), .inl (gI G, 7, .inl (fun _ => 0))] ∧ z.length = 27 := ⟨_, rfl, rfl⟩
  replace hB : Blk G a (.inr (11, f29) :: X27) H := by rw [ef29, eX27]; exact hB
  refine lv_aload_n hx hb dX12_init_231 rfl (lv_at hl 0 rfl) ?_
  refine lv_bipush hx hb dX12_init_232 kb_7 ?_
  refine k_newi S hK hS hB (N := 7) (z := 28) (by show X27.length + 1 = 28; rw [lX27]) kn_7 (Nat.le_of_ble_eq_true rfl) (Nat.le_of_ble_eq_true rfl) (Nat.le_of_ble_eq_true rfl) dX12_init_234 (fun H hB hS => ?_)
  refine k_putF (a := a) (j := 0) S hK fk_X12_99 tyX12_ok nmX12 rfl hname rfl rfl rfl hB rfl (by rw [lf29]; decide) hS dX12_init_236 (fun H locs hB hS => ?_)
  obtain ⟨f30, ef30, lf30⟩ : ∃ z : List Value, z = [.int 0, .ref (a + 1), .ref (a + 2), .ref (a + 3), .int 0, .ref (a + 4), .ref (a + 5), .ref (a + 6), .ref (a + 7), .ref (a + 8), .ref (a + 9), .ref (a + 10), .ref (a + 11), .ref (a + 12), .ref (a + 13), .ref (a + 14), .ref (a + 15), .ref (a + 16), .ref (a + 17), .ref (a + 18), .ref (a + 19), .ref (a + 20), .int (-1), .int 0, .int 0, .int 0, .int 0, .int 0, .int 0, .int 0, .int 0, .int 0, .ref (a + 21), .int 0, .ref (a + 22), .int 0, .ref (a + 23), .int (-1), .ref (a + 24), .ref (a + 25), .int 0, .ref (a + 26), .ref (a + 27), .ref (a + 28), .int 0, .null, .null, .null, .null, .null, .null, .null, .null] ∧ z.length = 53 := ⟨_, rfl, rfl⟩
  rw [ef29, eX27] at hB
  obtain ⟨X28, eX28, lX28⟩ : ∃ z : List va_E, z = [.inl (gI G, 320, .inl (fun _ => 0)), .inl (gI G, 320, .inl (fun _ => 0)), .inl (gI G, 320, .inl (fun _ => 0)), .inl (gI G, 12, .inl (fun _ => 0)), .inl (gI G, 12, .inl (fun _ => 0)), .inl (gI G, 12, .inl (fun _ => 0)), .inl (gI G, 5, .inl (fun _ => 0)), .inl (gI G, 5, .inl (fun _ => 0)), .inl (gI G, 5, .inl (fun _ => 0)), .inl (gI G, 16, .inl (fun _ => 0)), .inl (gI G, 16, .inl (fun _ => 0)), .inl (gI G, 16, .inl (fun _ => 0)), .inl (gI G, 192, .inl (fun _ => 0)), .inl (gI G, 1280, .inl (fun _ => 0)), .inl (gI G, 16, .inl (fun _ => 0)), .inl (gI G, 16, .inl (fun _ => 0)), .inl (gI G, 16, .inl (fun _ => 0)), .inl (gI G, 30, .inl (fun _ => 0)), .inl (gI G, 30, .inl (fun _ => 0)), .inl (gI G, 30, .inl (fun _ => 0)), .inl (gZ G, 100, .inl (fun _ => 0)), .inl (gI G, 200, .inl (fun _ => 0)), .inl (gI G, 12, .inl (fun _ => 0)), .inl (gI G, 5, .inl (fun _ => 0)), .inl (gI G, 5, .inl (fun _ => 0)), .inl (gI G, 7, .inl (fun _ => 0)), .inl (gI G, 7, .inl (fun _ => 0)), .inl (gI G, 7, .inl (fun _ => 0))] ∧ z.length = 28 := ⟨_, rfl, rfl⟩
  replace hB : Blk G a (.inr (11, f30) :: X28) H := by rw [ef30, eX28]; exact hB
  refine lv_aload_n hx hb dX12_init_239 rfl (lv_at hl 0 rfl) ?_
  refine lv_bipush hx hb dX12_init_240 kb_8 ?_
  refine k_newi S hK hS hB (N := 8) (z := 29) (by show X28.length + 1 = 29; rw [lX28]) kn_8 (Nat.le_of_ble_eq_true rfl) (Nat.le_of_ble_eq_true rfl) (Nat.le_of_ble_eq_true rfl) dX12_init_242 (fun H hB hS => ?_)
  refine k_putF (a := a) (j := 0) S hK fk_X12_102 tyX12_ok nmX12 rfl hname rfl rfl rfl hB rfl (by rw [lf30]; decide) hS dX12_init_244 (fun H locs hB hS => ?_)
  obtain ⟨f31, ef31, lf31⟩ : ∃ z : List Value, z = [.int 0, .ref (a + 1), .ref (a + 2), .ref (a + 3), .int 0, .ref (a + 4), .ref (a + 5), .ref (a + 6), .ref (a + 7), .ref (a + 8), .ref (a + 9), .ref (a + 10), .ref (a + 11), .ref (a + 12), .ref (a + 13), .ref (a + 14), .ref (a + 15), .ref (a + 16), .ref (a + 17), .ref (a + 18), .ref (a + 19), .ref (a + 20), .int (-1), .int 0, .int 0, .int 0, .int 0, .int 0, .int 0, .int 0, .int 0, .int 0, .ref (a + 21), .int 0, .ref (a + 22), .int 0, .ref (a + 23), .int (-1), .ref (a + 24), .ref (a + 25), .int 0, .ref (a + 26), .ref (a + 27), .ref (a + 28), .int 0, .ref (a + 29), .null, .null, .null, .null, .null, .null, .null] ∧ z.length = 53 := ⟨_, rfl, rfl⟩
  rw [ef30, eX28] at hB
  obtain ⟨X29, eX29, lX29⟩ : ∃ z : List va_E, z = [.inl (gI G, 320, .inl (fun _ => 0)), .inl (gI G, 320, .inl (fun _ => 0)), .inl (gI G, 320, .inl (fun _ => 0)), .inl (gI G, 12, .inl (fun _ => 0)), .inl (gI G, 12, .inl (fun _ => 0)), .inl (gI G, 12, .inl (fun _ => 0)), .inl (gI G, 5, .inl (fun _ => 0)), .inl (gI G, 5, .inl (fun _ => 0)), .inl (gI G, 5, .inl (fun _ => 0)), .inl (gI G, 16, .inl (fun _ => 0)), .inl (gI G, 16, .inl (fun _ => 0)), .inl (gI G, 16, .inl (fun _ => 0)), .inl (gI G, 192, .inl (fun _ => 0)), .inl (gI G, 1280, .inl (fun _ => 0)), .inl (gI G, 16, .inl (fun _ => 0)), .inl (gI G, 16, .inl (fun _ => 0)), .inl (gI G, 16, .inl (fun _ => 0)), .inl (gI G, 30, .inl (fun _ => 0)), .inl (gI G, 30, .inl (fun _ => 0)), .inl (gI G, 30, .inl (fun _ => 0)), .inl (gZ G, 100, .inl (fun _ => 0)), .inl (gI G, 200, .inl (fun _ => 0)), .inl (gI G, 12, .inl (fun _ => 0)), .inl (gI G, 5, .inl (fun _ => 0)), .inl (gI G, 5, .inl (fun _ => 0)), .inl (gI G, 7, .inl (fun _ => 0)), .inl (gI G, 7, .inl (fun _ => 0)), .inl (gI G, 7, .inl (fun _ => 0)), .inl (gI G, 8, .inl (fun _ => 0))] ∧ z.length = 29 := ⟨_, rfl, rfl⟩
  replace hB : Blk G a (.inr (11, f31) :: X29) H := by rw [ef31, eX29]; exact hB
  refine lv_aload_n hx hb dX12_init_247 rfl (lv_at hl 0 rfl) ?_
  refine lv_bipush hx hb dX12_init_248 kb_8 ?_
  refine k_newi S hK hS hB (N := 8) (z := 30) (by show X29.length + 1 = 30; rw [lX29]) kn_8 (Nat.le_of_ble_eq_true rfl) (Nat.le_of_ble_eq_true rfl) (Nat.le_of_ble_eq_true rfl) dX12_init_250 (fun H hB hS => ?_)
  refine k_putF (a := a) (j := 0) S hK fk_X12_105 tyX12_ok nmX12 rfl hname rfl rfl rfl hB rfl (by rw [lf31]; decide) hS dX12_init_252 (fun H locs hB hS => ?_)
  obtain ⟨f32, ef32, lf32⟩ : ∃ z : List Value, z = [.int 0, .ref (a + 1), .ref (a + 2), .ref (a + 3), .int 0, .ref (a + 4), .ref (a + 5), .ref (a + 6), .ref (a + 7), .ref (a + 8), .ref (a + 9), .ref (a + 10), .ref (a + 11), .ref (a + 12), .ref (a + 13), .ref (a + 14), .ref (a + 15), .ref (a + 16), .ref (a + 17), .ref (a + 18), .ref (a + 19), .ref (a + 20), .int (-1), .int 0, .int 0, .int 0, .int 0, .int 0, .int 0, .int 0, .int 0, .int 0, .ref (a + 21), .int 0, .ref (a + 22), .int 0, .ref (a + 23), .int (-1), .ref (a + 24), .ref (a + 25), .int 0, .ref (a + 26), .ref (a + 27), .ref (a + 28), .int 0, .ref (a + 29), .ref (a + 30), .null, .null, .null, .null, .null, .null] ∧ z.length = 53 := ⟨_, rfl, rfl⟩
  rw [ef31, eX29] at hB
  obtain ⟨X30, eX30, lX30⟩ : ∃ z : List va_E, z = [.inl (gI G, 320, .inl (fun _ => 0)), .inl (gI G, 320, .inl (fun _ => 0)), .inl (gI G, 320, .inl (fun _ => 0)), .inl (gI G, 12, .inl (fun _ => 0)), .inl (gI G, 12, .inl (fun _ => 0)), .inl (gI G, 12, .inl (fun _ => 0)), .inl (gI G, 5, .inl (fun _ => 0)), .inl (gI G, 5, .inl (fun _ => 0)), .inl (gI G, 5, .inl (fun _ => 0)), .inl (gI G, 16, .inl (fun _ => 0)), .inl (gI G, 16, .inl (fun _ => 0)), .inl (gI G, 16, .inl (fun _ => 0)), .inl (gI G, 192, .inl (fun _ => 0)), .inl (gI G, 1280, .inl (fun _ => 0)), .inl (gI G, 16, .inl (fun _ => 0)), .inl (gI G, 16, .inl (fun _ => 0)), .inl (gI G, 16, .inl (fun _ => 0)), .inl (gI G, 30, .inl (fun _ => 0)), .inl (gI G, 30, .inl (fun _ => 0)), .inl (gI G, 30, .inl (fun _ => 0)), .inl (gZ G, 100, .inl (fun _ => 0)), .inl (gI G, 200, .inl (fun _ => 0)), .inl (gI G, 12, .inl (fun _ => 0)), .inl (gI G, 5, .inl (fun _ => 0)), .inl (gI G, 5, .inl (fun _ => 0)), .inl (gI G, 7, .inl (fun _ => 0)), .inl (gI G, 7, .inl (fun _ => 0)), .inl (gI G, 7, .inl (fun _ => 0)), .inl (gI G, 8, .inl (fun _ => 0)), .inl (gI G, 8, .inl (fun _ => 0))] ∧ z.length = 30 := ⟨_, rfl, rfl⟩
  replace hB : Blk G a (.inr (11, f32) :: X30) H := by rw [ef32, eX30]; exact hB
  refine lv_aload_n hx hb dX12_init_255 rfl (lv_at hl 0 rfl) ?_
  refine lv_bipush hx hb dX12_init_256 kb_8 ?_
  refine k_newi S hK hS hB (N := 8) (z := 31) (by show X30.length + 1 = 31; rw [lX30]) kn_8 (Nat.le_of_ble_eq_true rfl) (Nat.le_of_ble_eq_true rfl) (Nat.le_of_ble_eq_true rfl) dX12_init_258 (fun H hB hS => ?_)
  refine k_putF (a := a) (j := 0) S hK fk_X12_108 tyX12_ok nmX12 rfl hname rfl rfl rfl hB rfl (by rw [lf32]; decide) hS dX12_init_260 (fun H locs hB hS => ?_)
  obtain ⟨f33, ef33, lf33⟩ : ∃ z : List Value, z = [.int 0, .ref (a + 1), .ref (a + 2), .ref (a + 3), .int 0, .ref (a + 4), .ref (a + 5), .ref (a + 6), .ref (a + 7), .ref (a + 8), .ref (a + 9), .ref (a + 10), .ref (a + 11), .ref (a + 12), .ref (a + 13), .ref (a + 14), .ref (a + 15), .ref (a + 16), .ref (a + 17), .ref (a + 18), .ref (a + 19), .ref (a + 20), .int (-1), .int 0, .int 0, .int 0, .int 0, .int 0, .int 0, .int 0, .int 0, .int 0, .ref (a + 21), .int 0, .ref (a + 22), .int 0, .ref (a + 23), .int (-1), .ref (a + 24), .ref (a + 25), .int 0, .ref (a + 26), .ref (a + 27), .ref (a + 28), .int 0, .ref (a + 29), .ref (a + 30), .ref (a + 31), .null, .null, .null, .null, .null] ∧ z.length = 53 := ⟨_, rfl, rfl⟩
  rw [ef32, eX30] at hB
  obtain ⟨X31, eX31, lX31⟩ : ∃ z : List va_E, z = [.inl (gI G, 320, .inl (fun _ => 0)), .inl (gI G, 320, .inl (fun _ => 0)), .inl (gI G, 320, .inl (fun _ => 0)), .inl (gI G, 12, .inl (fun _ => 0)), .inl (gI G, 12, .inl (fun _ => 0)), .inl (gI G, 12, .inl (fun _ => 0)), .inl (gI G, 5, .inl (fun _ => 0)), .inl (gI G, 5, .inl (fun _ => 0)), .inl (gI G, 5, .inl (fun _ => 0)), .inl (gI G, 16, .inl (fun _ => 0)), .inl (gI G, 16, .inl (fun _ => 0)), .inl (gI G, 16, .inl (fun _ => 0)), .inl (gI G, 192, .inl (fun _ => 0)), .inl (gI G, 1280, .inl (fun _ => 0)), .inl (gI G, 16, .inl (fun _ => 0)), .inl (gI G, 16, .inl (fun _ => 0)), .inl (gI G, 16, .inl (fun _ => 0)), .inl (gI G, 30, .inl (fun _ => 0)), .inl (gI G, 30, .inl (fun _ => 0)), .inl (gI G, 30, .inl (fun _ => 0)), .inl (gZ G, 100, .inl (fun _ => 0)), .inl (gI G, 200, .inl (fun _ => 0)), .inl (gI G, 12, .inl (fun _ => 0)), .inl (gI G, 5, .inl (fun _ => 0)), .inl (gI G, 5, .inl (fun _ => 0)), .inl (gI G, 7, .inl (fun _ => 0)), .inl (gI G, 7, .inl (fun _ => 0)), .inl (gI G, 7, .inl (fun _ => 0)), .inl (gI G, 8, .inl (fun _ => 0)), .inl (gI G, 8, .inl (fun _ => 0)), .inl (gI G, 8, .inl (fun _ => 0))] ∧ z.length = 31 := ⟨_, rfl, rfl⟩
  replace hB : Blk G a (.inr (11, f33) :: X31) H := by rw [ef33, eX31]; exact hB
  refine lv_aload_n hx hb dX12_init_263 rfl (lv_at hl 0 rfl) ?_
  refine lv_bipush hx hb dX12_init_264 kb_8 ?_
  refine k_newi S hK hS hB (N := 8) (z := 32) (by show X31.length + 1 = 32; rw [lX31]) kn_8 (Nat.le_of_ble_eq_true rfl) (Nat.le_of_ble_eq_true rfl) (Nat.le_of_ble_eq_true rfl) dX12_init_266 (fun H hB hS => ?_)
  refine k_putF (a := a) (j := 0) S hK fk_X12_111 tyX12_ok nmX12 rfl hname rfl rfl rfl hB rfl (by rw [lf33]; decide) hS dX12_init_268 (fun H locs hB hS => ?_)
  obtain ⟨f34, ef34, lf34⟩ : ∃ z : List Value, z = [.int 0, .ref (a + 1), .ref (a + 2), .ref (a + 3), .int 0, .ref (a + 4), .ref (a + 5), .ref (a + 6), .ref (a + 7), .ref (a + 8), .ref (a + 9), .ref (a + 10), .ref (a + 11), .ref (a + 12), .ref (a + 13), .ref (a + 14), .ref (a + 15), .ref (a + 16), .ref (a + 17), .ref (a + 18), .ref (a + 19), .ref (a + 20), .int (-1), .int 0, .int 0, .int 0, .int 0, .int 0, .int 0, .int 0, .int 0, .int 0, .ref (a + 21), .int 0, .ref (a + 22), .int 0, .ref (a + 23), .int (-1), .ref (a + 24), .ref (a + 25), .int 0, .ref (a + 26), .ref (a + 27), .ref (a + 28), .int 0, .ref (a + 29), .ref (a + 30), .ref (a + 31), .ref (a + 32), .null, .null, .null, .null] ∧ z.length = 53 := ⟨_, rfl, rfl⟩
  rw [ef33, eX31] at hB
  obtain ⟨X32, eX32, lX32⟩ : ∃ z : List va_E, z = [.inl (gI G, 320, .inl (fun _ => 0)), .inl (gI G, 320, .inl (fun _ => 0)), .inl (gI G, 320, .inl (fun _ => 0)), .inl (gI G, 12, .inl (fun _ => 0)), .inl (gI G, 12, .inl (fun _ => 0)), .inl (gI G, 12, .inl (fun _ => 0)), .inl (gI G, 5, .inl (fun _ => 0)), .inl (gI G, 5, .inl (fun _ => 0)), .inl (gI G, 5, .inl (fun _ => 0)), .inl (gI G, 16, .inl (fun _ => 0)), .inl (gI G, 16, .inl (fun _ => 0)), .inl (gI G, 16, .inl (fun _ => 0)), .inl (gI G, 192, .inl (fun _ => 0)), .inl (gI G, 1280, .inl (fun _ => 0)), .inl (gI G, 16, .inl (fun _ => 0)), .inl (gI G, 16, .inl (fun _ => 0)), .inl (gI G, 16, .inl (fun _ => 0)), .inl (gI G, 30, .inl (fun _ => 0)), .inl (gI G, 30, .inl (fun _ => 0)), .inl (gI G, 30, .inl (fun _ => 0)), .inl (gZ G, 100, .inl (fun _ => 0)), .inl (gI G, 200, .inl (fun _ => 0)), .inl (gI G, 12, .inl (fun _ => 0)), .inl (gI G, 5, .inl (fun _ => 0)), .inl (gI G, 5, .inl (fun _ => 0)), .inl (gI G, 7, .inl (fun _ => 0)), .inl (gI G, 7, .inl (fun _ => 0)), .inl (gI G, 7, .inl (fun _ => 0)), .inl (gI G, 8, .inl (fun _ => 0)), .inl (gI G, 8, .inl (fun _ => 0)), .inl (gI G, 8, .inl (fun _ => 0)), .inl (gI G, 8, .inl (fun _ => 0))] ∧ z.length = 32 := ⟨_, rfl, rfl⟩
  replace hB : Blk G a (.inr (11, f34) :: X32) H := by rw [ef34, eX32]; exact hB
  refine lv_aload_n hx hb dX12_init_271 rfl (lv_at hl 0 rfl) ?_
  refine lv_bipush hx hb dX12_init_272 kb_8 ?_
  refine k_newi S hK hS hB (N := 8) (z := 33) (by show X32.length + 1 = 33; rw [lX32]) kn_8 (Nat.le_of_ble_eq_true rfl) (Nat.le_of_ble_eq_true rfl) (Nat.le_of_ble_eq_true rfl) dX12_init_274 (fun H hB hS => ?_)
  refine k_putF (a := a) (j := 0) S hK fk_X12_114 tyX12_ok nmX12 rfl hname rfl rfl rfl hB rfl (by rw [lf34]; decide) hS dX12_init_276 (fun H locs hB hS => ?_)
  obtain ⟨f35, ef35, lf35⟩ : ∃ z : List Value, z = [.int 0, .ref (a + 1), .ref (a + 2), .ref (a + 3), .int 0, .ref (a + 4), .ref (a + 5), .ref (a + 6), .ref (a + 7), .ref (a + 8), .ref (a + 9), .ref (a + 10), .ref (a + 11), .ref (a + 12), .ref (a + 13), .ref (a + 14), .ref (a + 15), .ref (a + 16), .ref (a + 17), .ref (a + 18), .ref (a + 19), .ref (a + 20), .int (-1), .int 0, .int 0, .int 0, .int 0, .int 0, .int 0, .int 0, .int 0, .int 0, .ref (a + 21), .int 0, .ref (a + 22), .int 0, .ref (a + 23), .int (-1), .ref (a + 24), .ref (a + 25), .int 0, .ref (a + 26), .ref (a + 27), .ref (a + 28), .int 0, .ref (a + 29), .ref (a + 30), .ref (a + 31), .ref (a + 32), .ref (a + 33), .null, .null, .null] ∧ z.length = 53 := ⟨_, rfl, rfl⟩
  rw [ef34, eX32] at hB
  obtain ⟨X33, eX33, lX33⟩ : ∃ z : List va_E, z = [.inl (gI G, 320, .inl (fun _ => 0)), .inl (gI G, 320, .inl (fun _ => 0)), .inl (gI G, 320, .inl (fun _ => 0)), .inl (gI G, 12, .inl (fun _ => 0)), .inl (gI G, 12, .inl (fun _ => 0)), .inl (gI G, 12, .inl (fun _ => 0)), .inl (gI G, 5, .inl (fun _ => 0)), .inl (gI G, 5, .inl (fun _ => 0)), .inl (gI G, 5, .inl (fun _ => 0)), .inl (gI G, 16, .inl (fun _ => 0)), .inl (gI G, 16, .inl (fun _ => 0)), .inl (gI G, 16, .inl (fun _ => 0)), .inl (gI G, 192, .inl (fun _ => 0)), .inl (gI G, 1280, .inl (fun _ => 0)), .inl (gI G, 16, .inl (fun _ => 0)), .inl (gI G, 16, .inl (fun _ => 0)), .inl (gI G, 16, .inl (fun _ => 0)), .inl (gI G, 30, .inl (fun _ => 0)), .inl (gI G, 30, .inl (fun _ => 0)), .inl (gI G, 30, .inl (fun _ => 0)), .inl (gZ G, 100, .inl (fun _ => 0)), .inl (gI G, 200, .inl (fun _ => 0)), .inl (gI G, 12, .inl (fun _ => 0)), .inl (gI G, 5, .inl (fun _ => 0)), .inl (gI G, 5, .inl (fun _ => 0)), .inl (gI G, 7, .inl (fun _ => 0)), .inl (gI G, 7, .inl (fun _ => 0)), .inl (gI G, 7, .inl (fun _ => 0)), .inl (gI G, 8, .inl (fun _ => 0)), .inl (gI G, 8, .inl (fun _ => 0)), .inl (gI G, 8, .inl (fun _ => 0)), .inl (gI G, 8, .inl (fun _ => 0)), .inl (gI G, 8, .inl (fun _ => 0))] ∧ z.length = 33 := ⟨_, rfl, rfl⟩
  replace hB : Blk G a (.inr (11, f35) :: X33) H := by rw [ef35, eX33]; exact hB
  refine lv_aload_n hx hb dX12_init_279 rfl (lv_at hl 0 rfl) ?_
  refine lv_bipush hx hb dX12_init_280 kb_8 ?_
  refine k_newi S hK hS hB (N := 8) (z := 34) (by show X33.length + 1 = 34; rw [lX33]) kn_8 (Nat.le_of_ble_eq_true rfl) (Nat.le_of_ble_eq_true rfl) (Nat.le_of_ble_eq_true rfl) dX12_init_282 (fun H hB hS => ?_)
  refine k_putF (a := a) (j := 0) S hK fk_X12_117 tyX12_ok nmX12 rfl hname rfl rfl rfl hB rfl (by rw [lf35]; decide) hS dX12_init_284 (fun H locs hB hS => ?_)
  obtain ⟨f36, ef36, lf36⟩ : ∃ z : List Value, z = [.int 0, .ref (a + 1), .ref (a + 2), .ref (a + 3), .int 0, .ref (a + 4), .ref (a + 5), .ref (a + 6), .ref (a + 7), .ref (a + 8), .ref (a + 9), .ref (a + 10), .ref (a + 11), .ref (a + 12), .ref (a + 13), .ref (a + 14), .ref (a + 15), .ref (a + 16), .ref (a + 17), .ref (a + 18), .ref (a + 19), .ref (a + 20), .int (-1), .int 0, .int 0, .int 0, .int 0, .int 0, .int 0, .int 0, .int 0, .int 0, .ref (a + 21), .int 0, .ref (a + 22), .int 0, .ref (a + 23), .int (-1), .ref (a + 24), .ref (a + 25), .int 0, .ref (a + 26), .ref (a + 27), .ref (a + 28), .int 0, .ref (a + 29), .ref (a + 30), .ref (a + 31), .ref (a + 32), .ref (a + 33), .ref (a + 34), .null, .null] ∧ z.length = 53 := ⟨_, rfl, rfl⟩
  rw [ef35, eX33] at hB
  obtain ⟨X34, eX34, lX34⟩ : ∃ z : List va_E, z = [.inl (gI G, 320, .inl (fun _ => 0)), .inl (gI G, 320, .inl (fun _ => 0)), .inl (gI G, 320, .inl (fun _ => 0)), .inl (gI G, 12, .inl (fun _ => 0)), .inl (gI G, 12, .inl (fun _ => 0)), .inl (gI G, 12, .inl (fun _ => 0)), .inl (gI G, 5, .inl (fun _ => 0)), .inl (gI G, 5, .inl (fun _ => 0)), .inl (gI G, 5, .inl (fun _ => 0)), .inl (gI G, 16, .inl (fun _ => 0)), .inl (gI G, 16, .inl (fun _ => 0)), .inl (gI G, 16, .inl (fun _ => 0)), .inl (gI G, 192, .inl (fun _ => 0)), .inl (gI G, 1280, .inl (fun _ => 0)), .inl (gI G, 16, .inl (fun _ => 0)), .inl (gI G, 16, .inl (fun _ => 0)), .inl (gI G, 16, .inl (fun _ => 0)), .inl (gI G, 30, .inl (fun _ => 0)), .inl (gI G, 30, .inl (fun _ => 0)), .inl (gI G, 30, .inl (fun _ => 0)), .inl (gZ G, 100, .inl (fun _ => 0)), .inl (gI G, 200, .inl (fun _ => 0)), .inl (gI G, 12, .inl (fun _ => 0)), .inl (gI G, 5, .inl (fun _ => 0)), .inl (gI G, 5, .inl (fun _ => 0)), .inl (gI G, 7, .inl (fun _ => 0)), .inl (gI G, 7, .inl (fun _ => 0)), .inl (gI G, 7, .inl (fun _ => 0)), .inl (gI G, 8, .inl (fun _ => 0)), .inl (gI G, 8, .inl (fun _ => 0)), .inl (gI G, 8, .inl (fun _ => 0)), .inl (gI G, 8, .inl (fun _ => 0)), .inl (gI G, 8, .inl (fun _ => 0)), .inl (gI G, 8, .inl (fun _ => 0))] ∧ z.length = 34 := ⟨_, rfl, rfl⟩
  replace hB : Blk G a (.inr (11, f36) :: X34) H := by rw [ef36, eX34]; exact hB
  refine lv_aload_n hx hb dX12_init_287 rfl (lv_at hl 0 rfl) ?_
  refine lv_sipush hx hb dX12_init_288 ks_640 ?_
  refine k_newj S hK hS hB (N := 640) (z := 35) (by show X34.length + 1 = 35; rw [lX34]) kn_640 (Nat.le_of_ble_eq_true rfl) (Nat.le_of_ble_eq_true rfl) (Nat.le_of_ble_eq_true rfl) mw_1303 dX12_init_291 (fun H hB hS => ?_)
  refine k_putF (a := a) (j := 0) S hK fk_X12_120 tyX12_ok nmX12 rfl hname rfl rfl rfl hB rfl (by rw [lf36]; decide) hS dX12_init_293 (fun H locs hB hS => ?_)
  obtain ⟨f37, ef37, lf37⟩ : ∃ z : List Value, z = [.int 0, .ref (a + 1), .ref (a + 2), .ref (a + 3), .int 0, .ref (a + 4), .ref (a + 5), .ref (a + 6), .ref (a + 7), .ref (a + 8), .ref (a + 9), .ref (a + 10), .ref (a + 11), .ref (a + 12), .ref (a + 13), .ref (a + 14), .ref (a + 15), .ref (a + 16), .ref (a + 17), .ref (a + 18), .ref (a + 19), .ref (a + 20), .int (-1), .int 0, .int 0, .int 0, .int 0, .int 0, .int 0, .int 0, .int 0, .int 0, .ref (a + 21), .int 0, .ref (a + 22), .int 0, .ref (a + 23), .int (-1), .ref (a + 24), .ref (a + 25), .int 0, .ref (a + 26), .ref (a + 27), .ref (a + 28), .int 0, .ref (a + 29), .ref (a + 30), .ref (a + 31), .ref (a + 32), .ref (a + 33), .ref (a + 34), .ref (a + 35), .null] ∧ z.length = 53 := ⟨_, rfl, rfl⟩
  rw [ef36, eX34] at hB
  obtain ⟨X35, eX35, lX35⟩ : ∃ z : List va_E, z = [.inl (gI G, 320, .inl (fun _ => 0)), .inl (gI G, 320, .inl (fun _ => 0)), .inl (gI G, 320, .inl (fun _ => 0)), .inl (gI G, 12, .inl (fun _ => 0)), .inl (gI G, 12, .inl (fun _ => 0)), .inl (gI G, 12, .inl (fun _ => 0)), .inl (gI G, 5, .inl (fun _ => 0)), .inl (gI G, 5, .inl (fun _ => 0)), .inl (gI G, 5, .inl (fun _ => 0)), .inl (gI G, 16, .inl (fun _ => 0)), .inl (gI G, 16, .inl (fun _ => 0)), .inl (gI G, 16, .inl (fun _ => 0)), .inl (gI G, 192, .inl (fun _ => 0)), .inl (gI G, 1280, .inl (fun _ => 0)), .inl (gI G, 16, .inl (fun _ => 0)), .inl (gI G, 16, .inl (fun _ => 0)), .inl (gI G, 16, .inl (fun _ => 0)), .inl (gI G, 30, .inl (fun _ => 0)), .inl (gI G, 30, .inl (fun _ => 0)), .inl (gI G, 30, .inl (fun _ => 0)), .inl (gZ G, 100, .inl (fun _ => 0)), .inl (gI G, 200, .inl (fun _ => 0)), .inl (gI G, 12, .inl (fun _ => 0)), .inl (gI G, 5, .inl (fun _ => 0)), .inl (gI G, 5, .inl (fun _ => 0)), .inl (gI G, 7, .inl (fun _ => 0)), .inl (gI G, 7, .inl (fun _ => 0)), .inl (gI G, 7, .inl (fun _ => 0)), .inl (gI G, 8, .inl (fun _ => 0)), .inl (gI G, 8, .inl (fun _ => 0)), .inl (gI G, 8, .inl (fun _ => 0)), .inl (gI G, 8, .inl (fun _ => 0)), .inl (gI G, 8, .inl (fun _ => 0)), .inl (gI G, 8, .inl (fun _ => 0)), .inl (gJ G, 640, .inr (.inl (fun _ => 0)))] ∧ z.length = 35 := ⟨_, rfl, rfl⟩
  replace hB : Blk G a (.inr (11, f37) :: X35) H := by rw [ef37, eX35]; exact hB
  refine lv_aload_n hx hb dX12_init_296 rfl (lv_at hl 0 rfl) ?_
  refine lv_bipush hx hb dX12_init_297 kb_80 ?_
  refine k_newj S hK hS hB (N := 80) (z := 36) (by show X35.length + 1 = 36; rw [lX35]) kn_80 (Nat.le_of_ble_eq_true rfl) (Nat.le_of_ble_eq_true rfl) (Nat.le_of_ble_eq_true rfl) mw_1303 dX12_init_299 (fun H hB hS => ?_)
  refine k_putF (a := a) (j := 0) S hK fk_X12_124 tyX12_ok nmX12 rfl hname rfl rfl rfl hB rfl (by rw [lf37]; decide) hS dX12_init_301 (fun H locs hB hS => ?_)
  obtain ⟨f38, ef38, lf38⟩ : ∃ z : List Value, z = [.int 0, .ref (a + 1), .ref (a + 2), .ref (a + 3), .int 0, .ref (a + 4), .ref (a + 5), .ref (a + 6), .ref (a + 7), .ref (a + 8), .ref (a + 9), .ref (a + 10), .ref (a + 11), .ref (a + 12), .ref (a + 13), .ref (a + 14), .ref (a + 15), .ref (a + 16), .ref (a + 17), .ref (a + 18), .ref (a + 19), .ref (a + 20), .int (-1), .int 0, .int 0, .int 0, .int 0, .int 0, .int 0, .int 0, .int 0, .int 0, .ref (a + 21), .int 0, .ref (a + 22), .int 0, .ref (a + 23), .int (-1), .ref (a + 24), .ref (a + 25), .int 0, .ref (a + 26), .ref (a + 27), .ref (a + 28), .int 0, .ref (a + 29), .ref (a + 30), .ref (a + 31), .ref (a + 32), .ref (a + 33), .ref (a + 34), .ref (a + 35), .ref (a + 36)] ∧ z.length = 53 := ⟨_, rfl, rfl⟩
  rw [ef37, eX35] at hB
  obtain ⟨X36, eX36, lX36⟩ : ∃ z : List va_E, z = [.inl (gI G, 320, .inl (fun _ => 0)), .inl (gI G, 320, .inl (fun _ => 0)), .inl (gI G, 320, .inl (fun _ => 0)), .inl (gI G, 12, .inl (fun _ => 0)), .inl (gI G, 12, .inl (fun _ => 0)), .inl (gI G, 12, .inl (fun _ => 0)), .inl (gI G, 5, .inl (fun _ => 0)), .inl (gI G, 5, .inl (fun _ => 0)), .inl (gI G, 5, .inl (fun _ => 0)), .inl (gI G, 16, .inl (fun _ => 0)), .inl (gI G, 16, .inl (fun _ => 0)), .inl (gI G, 16, .inl (fun _ => 0)), .inl (gI G, 192, .inl (fun _ => 0)), .inl (gI G, 1280, .inl (fun _ => 0)), .inl (gI G, 16, .inl (fun _ => 0)), .inl (gI G, 16, .inl (fun _ => 0)), .inl (gI G, 16, .inl (fun _ => 0)), .inl (gI G, 30, .inl (fun _ => 0)), .inl (gI G, 30, .inl (fun _ => 0)), .inl (gI G, 30, .inl (fun _ => 0)), .inl (gZ G, 100, .inl (fun _ => 0)), .inl (gI G, 200, .inl (fun _ => 0)), .inl (gI G, 12, .inl (fun _ => 0)), .inl (gI G, 5, .inl (fun _ => 0)), .inl (gI G, 5, .inl (fun _ => 0)), .inl (gI G, 7, .inl (fun _ => 0)), .inl (gI G, 7, .inl (fun _ => 0)), .inl (gI G, 7, .inl (fun _ => 0)), .inl (gI G, 8, .inl (fun _ => 0)), .inl (gI G, 8, .inl (fun _ => 0)), .inl (gI G, 8, .inl (fun _ => 0)), .inl (gI G, 8, .inl (fun _ => 0)), .inl (gI G, 8, .inl (fun _ => 0)), .inl (gI G, 8, .inl (fun _ => 0)), .inl (gJ G, 640, .inr (.inl (fun _ => 0))), .inl (gJ G, 80, .inr (.inl (fun _ => 0)))] ∧ z.length = 36 := ⟨_, rfl, rfl⟩
  replace hB : Blk G a (.inr (11, f38) :: X36) H := by rw [ef38, eX36]; exact hB
  have hf : f38 = fX12 a := ef38
  have hX : X36 = .inl (gI G, 320, .inl (fun _ => 0)) :: rX12 G := eX36
  rw [hf, hX] at hB
  have hg1 : (fX12 a)[1]? = some (.ref (a + 1)) := rfl
  generalize hff : fX12 a = fF at hB hg1
  generalize hrr : rX12 G = rR at hB
  have lo2 : ∀ (r k : Nat) (H : Heap) (locs : List Loc) (ls : Array Slot), k + r = 12 → Blk G a (.inr (11, fF) :: .inl (gI G, 320, .inl (fil (fun k => 140 + k) (99999 : Int32) (fil (fun k => 80 + k) (-1 : Int32) (fil (fun k => 50 + k) (660 : Int32) (fun _ => 0) 12) 20) k)) :: rR) H → va_S (fun q => a ≤ q) s.heap H locs → lv_has ls 2 [(1, .int (nI k)), (0, .ref a)] → W p l e rm_X12_init s m AV below meth c H locs rm_X12_init.cells rm_X12_init.slots (MQ below (va_Qv (S := Unit) (fun _ => True) (fun _ t => KC G t ∧ Blk G a (bX12 G a) t.heap) (fun q => a ≤ q)) AV s rm_X12_init.cells rm_X12_init.slots (fun q => a ≤ q)) (F0 m 356 ls []) := by
    intro r
    induction r with
    | zero =>
      intro k H locs ls hk hB hS hl
      have hk : k = 12 := by omega
      subst hk
      refine lv_iload_n hx hb dX12_init_356 rfl (lv_at hl 0 rfl) ?_
      refine lv_bipush hx hb dX12_init_357 kb_12 ?_
      refine lv_icmp_ge (tgt := 380) hx hb dX12_init_359 (by decide) (fun cz => ?_) (fun cz => absurd (by decide) cz)
      subst hff hrr
      exact k_ret (es := bX12 G a) S hret hlocks hKC hB hS (Nat.le_refl _) (Nat.le_refl _) dX12_init_380
    | succ r ih =>
      intro k H locs ls hk hB hS hl
      refine lv_iload_n hx hb dX12_init_356 rfl (lv_at hl 0 rfl) ?_
      refine lv_bipush hx hb dX12_init_357 kb_12 ?_
      refine lv_icmp_ge (tgt := 380) hx hb dX12_init_359 (by decide) (fun cz => ?_) (fun cz => ?_)
      · rw [show (12 : Int32) = nI 12 from rfl, nI_b (by omega) (by omega)] at cz
        omega
      refine lv_aload_n hx hb dX12_init_362 rfl (lv_at hl 1 rfl) ?_
      refine k_get (a := a) (j := 0) S hK fk_X12_7 hB rfl hg1 dX12_init_363 ?_
      refine lv_sipush hx hb dX12_init_366 ks_140 ?_
      refine lv_iload_n hx hb dX12_init_369 rfl (lv_at hl 0 rfl) ?_
      refine lv_iadd hx hb dX12_init_370 ?_
      refine lv_ldc hx hb hown (hts _ mw_1141) dX12_init_371 ?_
      refine k_iast (a := a) (j := 1) (n := 320) (k := 140 + k) (f := fil (fun k => 140 + k) (99999 : Int32) (fil (fun k => 80 + k) (-1 : Int32) (fil (fun k => 50 + k) (660 : Int32) (fun _ => 0) 12) 20) k) S hK hB rfl hS (k_ix (by rw [show (140 : Int32) = nI 140 from rfl, nI_add]) (by omega)) (by omega) dX12_init_373 (fun H locs hB hS => ?_)
      refine lv_iinc (v := nI (k + 1)) (lv' := [(1, .int (nI (k + 1))), (0, .ref a)]) hx hb dX12_init_374 hl (k := 0) rfl (by rw [ki_1]; exact (Int32.ofNat_add k 1).symm) (by decide) rfl (fun ls hl => ?_)
      refine lv_goto (tgt := 356) hx hb dX12_init_377 (by decide) ?_
      exact ih (k + 1) H locs ls (by omega) hB hS hl
  have lo1 : ∀ (r k : Nat) (H : Heap) (locs : List Loc) (ls : Array Slot), k + r = 20 → Blk G a (.inr (11, fF) :: .inl (gI G, 320, .inl (fil (fun k => 80 + k) (-1 : Int32) (fil (fun k => 50 + k) (660 : Int32) (fun _ => 0) 12) k)) :: rR) H → va_S (fun q => a ≤ q) s.heap H locs → lv_has ls 2 [(1, .int (nI k)), (0, .ref a)] → W p l e rm_X12_init s m AV below meth c H locs rm_X12_init.cells rm_X12_init.slots (MQ below (va_Qv (S := Unit) (fun _ => True) (fun _ t => KC G t ∧ Blk G a (bX12 G a) t.heap) (fun q => a ≤ q)) AV s rm_X12_init.cells rm_X12_init.slots (fun q => a ≤ q)) (F0 m 332 ls []) := by
    intro r
    induction r with
    | zero =>
      intro k H locs ls hk hB hS hl
      have hk : k = 20 := by omega
      subst hk
      refine lv_iload_n hx hb dX12_init_332 rfl (lv_at hl 0 rfl) ?_
      refine lv_bipush hx hb dX12_init_333 kb_20 ?_
      refine lv_icmp_ge (tgt := 354) hx hb dX12_init_335 (by decide) (fun cz => ?_) (fun cz => absurd (by decide) cz)
      refine lv_iconst hx hb dX12_init_354 ki_0 ?_
      refine lv_istore_n (lv' := [(1, .int 0), (0, .ref a)]) hx hb dX12_init_355 rfl hl (by decide) rfl (fun ls hl => ?_)
      exact lo2 12 0 H locs ls rfl hB hS hl
    | succ r ih =>
      intro k H locs ls hk hB hS hl
      refine lv_iload_n hx hb dX12_init_332 rfl (lv_at hl 0 rfl) ?_
      refine lv_bipush hx hb dX12_init_333 kb_20 ?_
      refine lv_icmp_ge (tgt := 354) hx hb dX12_init_335 (by decide) (fun cz => ?_) (fun cz => ?_)
      · rw [show (20 : Int32) = nI 20 from rfl, nI_b (by omega) (by omega)] at cz
        omega
      refine lv_aload_n hx hb dX12_init_338 rfl (lv_at hl 1 rfl) ?_
      refine k_get (a := a) (j := 0) S hK fk_X12_7 hB rfl hg1 dX12_init_339 ?_
      refine lv_bipush hx hb dX12_init_342 kb_80 ?_
      refine lv_iload_n hx hb dX12_init_344 rfl (lv_at hl 0 rfl) ?_
      refine lv_iadd hx hb dX12_init_345 ?_
      refine lv_iconst hx hb dX12_init_346 ki_m1 ?_
      refine k_iast (a := a) (j := 1) (n := 320) (k := 80 + k) (f := fil (fun k => 80 + k) (-1 : Int32) (fil (fun k => 50 + k) (660 : Int32) (fun _ => 0) 12) k) S hK hB rfl hS (k_ix (by rw [show (80 : Int32) = nI 80 from rfl, nI_add]) (by omega)) (by omega) dX12_init_347 (fun H locs hB hS => ?_)
      refine lv_iinc (v := nI (k + 1)) (lv' := [(1, .int (nI (k + 1))), (0, .ref a)]) hx hb dX12_init_348 hl (k := 0) rfl (by rw [ki_1]; exact (Int32.ofNat_add k 1).symm) (by decide) rfl (fun ls hl => ?_)
      refine lv_goto (tgt := 332) hx hb dX12_init_351 (by decide) ?_
      exact ih (k + 1) H locs ls (by omega) hB hS hl
  have lo0 : ∀ (r k : Nat) (H : Heap) (locs : List Loc) (ls : Array Slot), k + r = 12 → Blk G a (.inr (11, fF) :: .inl (gI G, 320, .inl (fil (fun k => 50 + k) (660 : Int32) (fun _ => 0) k)) :: rR) H → va_S (fun q => a ≤ q) s.heap H locs → lv_has ls 2 [(1, .int (nI k)), (0, .ref a)] → W p l e rm_X12_init s m AV below meth c H locs rm_X12_init.cells rm_X12_init.slots (MQ below (va_Qv (S := Unit) (fun _ => True) (fun _ t => KC G t ∧ Blk G a (bX12 G a) t.heap) (fun q => a ≤ q)) AV s rm_X12_init.cells rm_X12_init.slots (fun q => a ≤ q)) (F0 m 306 ls []) := by
    intro r
    induction r with
    | zero =>
      intro k H locs ls hk hB hS hl
      have hk : k = 12 := by omega
      subst hk
      refine lv_iload_n hx hb dX12_init_306 rfl (lv_at hl 0 rfl) ?_
      refine lv_bipush hx hb dX12_init_307 kb_12 ?_
      refine lv_icmp_ge (tgt := 330) hx hb dX12_init_309 (by decide) (fun cz => ?_) (fun cz => absurd (by decide) cz)
      refine lv_iconst hx hb dX12_init_330 ki_0 ?_
      refine lv_istore_n (lv' := [(1, .int 0), (0, .ref a)]) hx hb dX12_init_331 rfl hl (by decide) rfl (fun ls hl => ?_)
      exact lo1 20 0 H locs ls rfl hB hS hl
    | succ r ih =>
      intro k H locs ls hk hB hS hl
      refine lv_iload_n hx hb dX12_init_306 rfl (lv_at hl 0 rfl) ?_
      refine lv_bipush hx hb dX12_init_307 kb_12 ?_
      refine lv_icmp_ge (tgt := 330) hx hb dX12_init_309 (by decide) (fun cz => ?_) (fun cz => ?_)
      · rw [show (12 : Int32) = nI 12 from rfl, nI_b (by omega) (by omega)] at cz
        omega
      refine lv_aload_n hx hb dX12_init_312 rfl (lv_at hl 1 rfl) ?_
      refine k_get (a := a) (j := 0) S hK fk_X12_7 hB rfl hg1 dX12_init_313 ?_
      refine lv_bipush hx hb dX12_init_316 kb_50 ?_
      refine lv_iload_n hx hb dX12_init_318 rfl (lv_at hl 0 rfl) ?_
      refine lv_iadd hx hb dX12_init_319 ?_
      refine lv_sipush hx hb dX12_init_320 ks_660 ?_
      refine k_iast (a := a) (j := 1) (n := 320) (k := 50 + k) (f := fil (fun k => 50 + k) (660 : Int32) (fun _ => 0) k) S hK hB rfl hS (k_ix (by rw [show (50 : Int32) = nI 50 from rfl, nI_add]) (by omega)) (by omega) dX12_init_323 (fun H locs hB hS => ?_)
      refine lv_iinc (v := nI (k + 1)) (lv' := [(1, .int (nI (k + 1))), (0, .ref a)]) hx hb dX12_init_324 hl (k := 0) rfl (by rw [ki_1]; exact (Int32.ofNat_add k 1).symm) (by decide) rfl (fun ls hl => ?_)
      refine lv_goto (tgt := 306) hx hb dX12_init_327 (by decide) ?_
      exact ih (k + 1) H locs ls (by omega) hB hS hl
  refine lv_iconst hx hb dX12_init_304 ki_0 ?_
  refine lv_istore_n (lv' := [(1, .int 0), (0, .ref a)]) hx hb dX12_init_305 rfl hl (by decide) rfl (fun ls hl => ?_)
  refine W.widen (k := rm_X12_init.cells) (n := rm_X12_init.slots) (Nat.le_of_ble_eq_true rfl) (Nat.le_of_ble_eq_true rfl) ?_
  exact lo0 12 0 H locs ls rfl hB hS (lv_sub hl [0, 1] rfl)
