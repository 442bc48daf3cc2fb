/-! A WORLD -/
def bX10 (G : Gn) (a : Nat) : List va_E :=
  ([.inr (9, [.int 0, .ref (a + 1), .ref (a + 9), .ref (a + 18), .ref (a + 23), .ref (a + 26), .ref (a + 30), .ref (a + 31), .ref (a + 32), .int 0])] ++ bX8 G (a + 1) ++ bX4 G (a + 9) ++ bX5 G (a + 18) ++ bX1 G (a + 23) ++ bX6 G (a + 26) ++ [.inl (gI G, 36, .inl (fil (fun k => 3 * k + 2) (99999 : Int32) (fun _ => 0) 12))] ++ [.inl (gI G, 10, .inl (fun _ => 0))] ++ [.inl (gI G, 80, .inl (fun _ => 0))] : List va_E)
abbrev rm_X10_init : Room := { frames := 2, cells := 32, slots := 776, locals := 60 }
set_option maxHeartbeats 4000000 in
set_option maxRecDepth 100000 in
theorem c_X10_init (l : Launch) {G : Gn} {a : Nat} : MQk l yX10_init cX10_init 2 rm_X10_init [.ref a] (fun _ => True) G a (.inr (9, [.int 0, .null, .null, .null, .null, .null, .null, .null, .null, .int 0])) (bX10 G a) := by
  refine k_enter (by decide +kernel) rfl (Nat.le_of_ble_eq_true rfl) ?_
  intro p e s m AV below meth c ls H locs S hret hlocks hname hKC hO hba hsz hB hS hl hz
  replace S : CallFix p m c cX10_init 2 s AV lw_G "MilkDesk$World" := S
  have hK := hKC.1.1
  have hx := S.1
  have hb := S.2.1
  have hml := S.2.2.1
  have hown := S.2.2.2.1
  have hts := S.2.2.2.2
  replace hl : lv_has ls 2 [(0, .ref a)] := hl
  have lo0 : ∀ (r k : Nat) (H : Heap) (locs : List Loc) (ls : Array Slot), k + r = 12 → Blk G a ([.inr (9, [.int 0, .ref (a + 1), .ref (a + 9), .ref (a + 18), .ref (a + 23), .ref (a + 26), .ref (a + 30), .ref (a + 31), .ref (a + 32), .int 0])] ++ bX8 G (a + 1) ++ bX4 G (a + 9) ++ bX5 G (a + 18) ++ bX1 G (a + 23) ++ bX6 G (a + 26) ++ [.inl (gI G, 36, .inl (fil (fun k => 3 * k + 2) (99999 : Int32) (fun _ => 0) k))] ++ [.inl (gI G, 10, .inl (fun _ => 0))] ++ [.inl (gI G, 80, .inl (fun _ => 0))] : List va_E) H → va_S (fun q => a ≤ q) s.heap H locs → lv_has ls 2 [(1, .int (nI k)), (0, .ref a)] → W p l e rm_X10_init s m AV below meth c H locs rm_X10_init.cells rm_X10_init.slots (MQ below (va_Qv (S := Unit) (fun _ => True) (fun _ t => KC G t ∧ Blk G a (bX10 G a) t.heap) (fun q => a ≤ q)) AV s rm_X10_init.cells rm_X10_init.slots (fun q => a ≤ q)) (F0 m 88 ls []) := by
    intro r
    induction r with
    | zero =>
      intro k H locs ls hk hB hS hl
      have hk : k = 12 := by omega
      subst hk
      refine lv_iload_n hx hb dX10_init_88 rfl (lv_at hl 0 rfl) ?_
      refine lv_bipush hx hb dX10_init_89 kb_12 ?_
      refine lv_icmp_ge (tgt := 112) hx hb dX10_init_91 (by decide) (fun cz => ?_) (fun cz => absurd (by decide) cz)
      exact k_ret (es := bX10 G a) S hret hlocks hKC hB hS (Nat.le_refl _) (Nat.le_refl _) dX10_init_112
    | succ r ih =>
      intro k H locs ls hk hB hS hl
      refine lv_iload_n hx hb dX10_init_88 rfl (lv_at hl 0 rfl) ?_
      refine lv_bipush hx hb dX10_init_89 kb_12 ?_
      refine lv_icmp_ge (tgt := 112) hx hb dX10_init_91 (by decide) (fun cz => ?_) (fun cz => ?_)
      · rw [show (12 : Int32) = nI 12 from rfl, nI_b (by omega) (by omega)] at cz
        omega
      refine lv_aload_n hx hb dX10_init_94 rfl (lv_at hl 1 rfl) ?_
      refine k_get (a := a) (j := 0) S hK fk_X10_46 hB rfl rfl dX10_init_95 ?_
      refine lv_iload_n hx hb dX10_init_98 rfl (lv_at hl 0 rfl) ?_
      refine lv_iconst hx hb dX10_init_99 ki_3 ?_
      refine lv_imul hx hb dX10_init_100 ?_
      refine lv_iconst hx hb dX10_init_101 ki_2 ?_
      refine lv_iadd hx hb dX10_init_102 ?_
      refine lv_ldc hx hb hown (hts _ mw_212) dX10_init_103 ?_
      refine k_iast (a := a) (j := 30) (n := 36) (k := 3 * k + 2) (f := fil (fun k => 3 * k + 2) (99999 : Int32) (fun _ => 0) k) S hK hB rfl hS (k_ix (by rw [show (3 : Int32) = nI 3 from rfl, show (2 : Int32) = nI 2 from rfl, pk_mul, nI_add, Nat.mul_comm]) (by omega)) (by omega) dX10_init_105 (fun H locs hB hS => ?_)
      refine lv_iinc (v := nI (k + 1)) (lv' := [(1, .int (nI (k + 1))), (0, .ref a)]) hx hb dX10_init_106 hl (k := 0) rfl (by rw [ki_1]; exact (Int32.ofNat_add k 1).symm) (by decide) rfl (fun ls hl => ?_)
      refine lv_goto (tgt := 88) hx hb dX10_init_109 (by decide) ?_
      exact ih (k + 1) H locs ls (by omega) hB hS hl
  refine lv_aload_n hx hb dX10_init_0 rfl (lv_at hl 0 rfl) ?_
  refine k_obj S hl.1 mw_40 dX10_init_1 (Nat.le_of_ble_eq_true rfl) (Nat.le_of_ble_eq_true rfl) ?_
  refine lv_aload_n hx hb dX10_init_4 rfl (lv_at hl 0 rfl) ?_
  refine k_new S hK (ci := 7) rfl in_wsX80 tyX8 tyX8_ok mw_41 mw_42 iw_X8 hS hB (n := 1) rfl (fs := [.int 0, .null, .null, .null, .null, .null, .null, .null]) rfl (Nat.le_of_ble_eq_true rfl) (Nat.le_of_ble_eq_true rfl) dX10_init_5 (fun H hB hS => ?_)
  refine lv_dup hx hb dX10_init_8 rfl ?_
  refine k_ctorN (rm := rm_X8_init) (n := 0) (nb := 1) (es := ([.inr (9, [.int 0, .null, .null, .null, .null, .null, .null, .null, .null, .int 0])] : List va_E)) S hKC (k_old hO hba hsz hS) hba hS hB rfl (c_X8_init l (G := G) (a := a + 1)) trivial mt_43 mw_44 iy_X8 mw_45 ⟨by decide +kernel, by decide +kernel, by decide +kernel⟩ rfl rfl hl.1 rfl ⟨Nat.le_of_ble_eq_true rfl, Nat.le_of_ble_eq_true rfl⟩ (Nat.le_of_ble_eq_true rfl) ⟨Nat.le_of_ble_eq_true rfl, Nat.le_of_ble_eq_true rfl⟩ dX10_init_9 (fun H locs hB hS => ?_)
  refine k_putF (a := a) (j := 0) S hK fk_X10_12 tyX10_ok nmX10 rfl hname rfl rfl rfl hB rfl (Nat.le_of_ble_eq_true rfl) hS dX10_init_12 (fun H locs hB hS => ?_)
  replace hB : Blk G a ([.inr (9, [.int 0, .ref (a + 1), .null, .null, .null, .null, .null, .null, .null, .int 0])] ++ bX8 G (a + 1) : List va_E) H := hB
  refine lv_aload_n hx hb dX10_init_15 rfl (lv_at hl 0 rfl) ?_
  refine k_new S hK (ci := 3) rfl in_wsX40 tyX4 tyX4_ok mw_90 mw_91 iw_X4 hS hB (n := 9) rfl (fs := [.int 0, .null, .null, .null, .null, .null, .null, .null, .null]) rfl (Nat.le_of_ble_eq_true rfl) (Nat.le_of_ble_eq_true rfl) dX10_init_16 (fun H hB hS => ?_)
  refine lv_dup hx hb dX10_init_19 rfl ?_
  refine k_ctorN (rm := rm_X4_init) (n := 0) (nb := 9) (es := ([.inr (9, [.int 0, .ref (a + 1), .null, .null, .null, .null, .null, .null, .null, .int 0])] ++ bX8 G (a + 1) : List va_E)) S hKC (k_old hO hba hsz hS) hba hS hB rfl (c_X4_init l (G := G) (a := a + 9)) trivial mt_92 mw_93 iy_X4 mw_94 ⟨by decide +kernel, by decide +kernel, by decide +kernel⟩ rfl rfl hl.1 rfl ⟨Nat.le_of_ble_eq_true rfl, Nat.le_of_ble_eq_true rfl⟩ (Nat.le_of_ble_eq_true rfl) ⟨Nat.le_of_ble_eq_true rfl, Nat.le_of_ble_eq_true rfl⟩ dX10_init_20 (fun H locs hB hS => ?_)
  refine k_putF (a := a) (j := 0) S hK fk_X10_21 tyX10_ok nmX10 rfl hname rfl rfl rfl hB rfl (Nat.le_of_ble_eq_true rfl) hS dX10_init_23 (fun H locs hB hS => ?_)
  replace hB : Blk G a ([.inr (9, [.int 0, .ref (a + 1), .ref (a + 9), .null, .null, .null, .null, .null, .null, .int 0])] ++ bX8 G (a + 1) ++ bX4 G (a + 9) : List va_E) H := hB
  refine lv_aload_n hx hb dX10_init_26 rfl (lv_at hl 0 rfl) ?_
  refine k_new S hK (ci := 4) rfl in_wsX50 tyX5 tyX5_ok mw_133 mw_134 iw_X5 hS hB (n := 18) rfl (fs := [.int 0, .null, .null, .null, .null]) rfl (Nat.le_of_ble_eq_true rfl) (Nat.le_of_ble_eq_true rfl) dX10_init_27 (fun H hB hS => ?_)
  refine lv_dup hx hb dX10_init_30 rfl ?_
  refine k_ctorN (rm := rm_X5_init) (n := 0) (nb := 18) (es := ([.inr (9, [.int 0, .ref (a + 1), .ref (a + 9), .null, .null, .null, .null, .null, .null, .int 0])] ++ bX8 G (a + 1) ++ bX4 G (a + 9) : List va_E)) S hKC (k_old hO hba hsz hS) hba hS hB rfl (c_X5_init l (G := G) (a := a + 18)) trivial mt_135 mw_136 iy_X5 mw_137 ⟨by decide +kernel, by decide +kernel, by decide +kernel⟩ rfl rfl hl.1 rfl ⟨Nat.le_of_ble_eq_true rfl, Nat.le_of_ble_eq_true rfl⟩ (Nat.le_of_ble_eq_true rfl) ⟨Nat.le_of_ble_eq_true rfl, Nat.le_of_ble_eq_true rfl⟩ dX10_init_31 (fun H locs hB hS => ?_)
  refine k_putF (a := a) (j := 0) S hK fk_X10_28 tyX10_ok nmX10 rfl hname rfl rfl rfl hB rfl (Nat.le_of_ble_eq_true rfl) hS dX10_init_34 (fun H locs hB hS => ?_)
  replace hB : Blk G a ([.inr (9, [.int 0, .ref (a + 1), .ref (a + 9), .ref (a + 18), .null, .null, .null, .null, .null, .int 0])] ++ bX8 G (a + 1) ++ bX4 G (a + 9) ++ bX5 G (a + 18) : List va_E) H := hB
  refine lv_aload_n hx hb dX10_init_37 rfl (lv_at hl 0 rfl) ?_
  refine k_new S hK (ci := 1) rfl in_wsX10 tyX1 tyX1_ok mw_156 mw_157 iw_X1 hS hB (n := 23) rfl (fs := [.int 0, .null, .null]) rfl (Nat.le_of_ble_eq_true rfl) (Nat.le_of_ble_eq_true rfl) dX10_init_38 (fun H hB hS => ?_)
  refine lv_dup hx hb dX10_init_41 rfl ?_
  refine k_ctorN (rm := rm_X1_init) (n := 0) (nb := 23) (es := ([.inr (9, [.int 0, .ref (a + 1), .ref (a + 9), .ref (a + 18), .null, .null, .null, .null, .null, .int 0])] ++ bX8 G (a + 1) ++ bX4 G (a + 9) ++ bX5 G (a + 18) : List va_E)) S hKC (k_old hO hba hsz hS) hba hS hB rfl (c_X1_init l (G := G) (a := a + 23)) trivial mt_158 mw_159 iy_X1 mw_160 ⟨by decide +kernel, by decide +kernel, by decide +kernel⟩ rfl rfl hl.1 rfl ⟨Nat.le_of_ble_eq_true rfl, Nat.le_of_ble_eq_true rfl⟩ (Nat.le_of_ble_eq_true rfl) ⟨Nat.le_of_ble_eq_true rfl, Nat.le_of_ble_eq_true rfl⟩ dX10_init_42 (fun H locs hB hS => ?_)
  refine k_putF (a := a) (j := 0) S hK fk_X10_35 tyX10_ok nmX10 rfl hname rfl rfl rfl hB rfl (Nat.le_of_ble_eq_true rfl) hS dX10_init_45 (fun H locs hB hS => ?_)
  replace hB : Blk G a ([.inr (9, [.int 0, .ref (a + 1), .ref (a + 9), .ref (a + 18), .ref (a + 23), .null, .null, .null, .null, .int 0])] ++ bX8 G (a + 1) ++ bX4 G (a + 9) ++ bX5 G (a + 18) ++ bX1 G (a + 23) : List va_E) H := hB
  refine lv_aload_n hx hb dX10_init_48 rfl (lv_at hl 0 rfl) ?_
  refine k_new S hK (ci := 5) rfl in_wsX60 tyX6 tyX6_ok mw_177 mw_178 iw_X6 hS hB (n := 26) rfl (fs := [.int 0, .null, .null, .null]) rfl (Nat.le_of_ble_eq_true rfl) (Nat.le_of_ble_eq_true rfl) dX10_init_49 (fun H hB hS => ?_)
  refine lv_dup hx hb dX10_init_52 rfl ?_
  refine k_ctorN (rm := rm_X6_init) (n := 0) (nb := 26) (es := ([.inr (9, [.int 0, .ref (a + 1), .ref (a + 9), .ref (a + 18), .ref (a + 23), .null, .null, .null, .null, .int 0])] ++ bX8 G (a + 1) ++ bX4 G (a + 9) ++ bX5 G (a + 18) ++ bX1 G (a + 23) : List va_E)) S hKC (k_old hO hba hsz hS) hba hS hB rfl (c_X6_init l (G := G) (a := a + 26)) trivial mt_179 mw_180 iy_X6 mw_181 ⟨by decide +kernel, by decide +kernel, by decide +kernel⟩ rfl rfl hl.1 rfl ⟨Nat.le_of_ble_eq_true rfl, Nat.le_of_ble_eq_true rfl⟩ (Nat.le_of_ble_eq_true rfl) ⟨Nat.le_of_ble_eq_true rfl, Nat.le_of_ble_eq_true rfl⟩ dX10_init_53 (fun H locs hB hS => ?_)
  refine k_putF (a := a) (j := 0) S hK fk_X10_42 tyX10_ok nmX10 rfl hname rfl rfl rfl hB rfl (Nat.le_of_ble_eq_true rfl) hS dX10_init_56 (fun H locs hB hS => ?_)
  replace hB : Blk G a ([.inr (9, [.int 0, .ref (a + 1), .ref (a + 9), .ref (a + 18), .ref (a + 23), .ref (a + 26), .null, .null, .null, .int 0])] ++ bX8 G (a + 1) ++ bX4 G (a + 9) ++ bX5 G (a + 18) ++ bX1 G (a + 23) ++ bX6 G (a + 26) : List va_E) H := hB
  refine lv_aload_n hx hb dX10_init_59 rfl (lv_at hl 0 rfl) ?_
  refine lv_bipush hx hb dX10_init_60 kb_36 ?_
  refine k_newi S hK hS hB (N := 36) (z := 30) rfl kn_36 (Nat.le_of_ble_eq_true rfl) (Nat.le_of_ble_eq_true rfl) (Nat.le_of_ble_eq_true rfl) dX10_init_62 (fun H hB hS => ?_)
  refine k_putF (a := a) (j := 0) S hK fk_X10_46 tyX10_ok nmX10 rfl hname rfl rfl rfl hB rfl (Nat.le_of_ble_eq_true rfl) hS dX10_init_64 (fun H locs hB hS => ?_)
  replace hB : Blk G a ([.inr (9, [.int 0, .ref (a + 1), .ref (a + 9), .ref (a + 18), .ref (a + 23), .ref (a + 26), .ref (a + 30), .null, .null, .int 0])] ++ bX8 G (a + 1) ++ bX4 G (a + 9) ++ bX5 G (a + 18) ++ bX1 G (a + 23) ++ bX6 G (a + 26) ++ [.inl (gI G, 36, .inl (fun _ => 0))] : List va_E) H := hB
  refine lv_aload_n hx hb dX10_init_67 rfl (lv_at hl 0 rfl) ?_
  refine va_ldcS hx hb hown (hKC.1.2.2.2.1.1) dX10_init_68 ?_
  have hO1 := k_old hO hba hsz hS
  have hr := va_runV (g := F0 m 70 ls [.ref (gK G 0), .ref a]) (C := RJ0) (rest := [.ref a]) S (c_K_length l (G := G) (k := 0) (H0 := H) (by decide)) ⟨callB_of (R := rm_X10_init) 0 hts (m_good lk_X10_54.2.2.2.2.1) rfl rfl rfl (hts _ lk_X10_54.2.2.2.1) (hts _ lk_X10_54.1) lk_X10_54.2.2.2.2.2 ⟨Nat.le_of_ble_eq_true rfl, Nat.le_of_ble_eq_true rfl⟩, hts _ lk_X10_54.2.1, hts _ lk_X10_54.2.2.1⟩ ⟨fun _ _ _ _ q => ⟨q.1, ⟨q.2.1.1.blind, q.2.1.2⟩, q.2.2⟩, y_recv hKC hO1 (by decide), fun U hU hWm => ⟨rfl, ⟨hKC.warm hWm, by rw [hU]; exact hO1⟩, hU⟩⟩ rfl rfl hl.1 rfl (lv_room (Nat.le_of_ble_eq_true rfl)) dX10_init_70 (p := p) (e := e) (below := below) (meth := meth) (H := H) (locs := locs) (cells := 30) (slots := 686) ⟨Nat.le_of_ble_eq_true rfl, Nat.le_of_ble_eq_true rfl⟩
  refine va_calli hr hS (fun q _ h => h.elim) (fun q h => h.elim) (fun rr u t H1 locs9 ht _ hp hB1 _ _ hS9 => ?_)
  have eH : H1 = H := by rw [← ht]; exact hB1
  subst eH
  subst hp
  generalize locs9 = locs at hS9 ⊢
  have hS := hS9
  show W p l e rm_X10_init s m AV below meth c H1 locs (30) (686) _ (F0 m 73 ls [.int (nI (lnB 0)), .ref a])
  refine k_newi (R := rm_X10_init) (p := p) (l := l) (e := e) (below := below) (meth := meth) (cells := 30) (slots := 686) (pc := 73) (ls := ls) (rest := [.ref a]) S hK hS hB (N := 10) (z := 31) rfl k_n10 (Nat.le_of_ble_eq_true rfl) (Nat.le_of_ble_eq_true rfl) (Nat.le_of_ble_eq_true rfl) dX10_init_73 (fun H hB hS => ?_)
  refine k_putF (a := a) (j := 0) S hK fk_X10_60 tyX10_ok nmX10 rfl hname rfl rfl rfl hB rfl (Nat.le_of_ble_eq_true rfl) hS dX10_init_75 (fun H locs hB hS => ?_)
  replace hB : Blk G a ([.inr (9, [.int 0, .ref (a + 1), .ref (a + 9), .ref (a + 18), .ref (a + 23), .ref (a + 26), .ref (a + 30), .ref (a + 31), .null, .int 0])] ++ bX8 G (a + 1) ++ bX4 G (a + 9) ++ bX5 G (a + 18) ++ bX1 G (a + 23) ++ bX6 G (a + 26) ++ [.inl (gI G, 36, .inl (fun _ => 0))] ++ [.inl (gI G, 10, .inl (fun _ => 0))] : List va_E) H := hB
  refine lv_aload_n hx hb dX10_init_78 rfl (lv_at hl 0 rfl) ?_
  refine lv_bipush hx hb dX10_init_79 kb_80 ?_
  refine k_newi S hK hS hB (N := 80) (z := 32) rfl kn_80 (Nat.le_of_ble_eq_true rfl) (Nat.le_of_ble_eq_true rfl) (Nat.le_of_ble_eq_true rfl) dX10_init_81 (fun H hB hS => ?_)
  refine k_putF (a := a) (j := 0) S hK fk_X10_63 tyX10_ok nmX10 rfl hname rfl rfl rfl hB rfl (Nat.le_of_ble_eq_true rfl) hS dX10_init_83 (fun H locs hB hS => ?_)
  replace hB : Blk G a ([.inr (9, [.int 0, .ref (a + 1), .ref (a + 9), .ref (a + 18), .ref (a + 23), .ref (a + 26), .ref (a + 30), .ref (a + 31), .ref (a + 32), .int 0])] ++ bX8 G (a + 1) ++ bX4 G (a + 9) ++ bX5 G (a + 18) ++ bX1 G (a + 23) ++ bX6 G (a + 26) ++ [.inl (gI G, 36, .inl (fun _ => 0))] ++ [.inl (gI G, 10, .inl (fun _ => 0))] ++ [.inl (gI G, 80, .inl (fun _ => 0))] : List va_E) H := hB
  refine lv_iconst hx hb dX10_init_86 ki_0 ?_
  refine lv_istore_n (lv' := [(1, .int 0), (0, .ref a)]) hx hb dX10_init_87 rfl hl (by decide) rfl (fun ls hl => ?_)
  refine W.widen (k := rm_X10_init.cells) (n := rm_X10_init.slots) (Nat.le_of_ble_eq_true rfl) (Nat.le_of_ble_eq_true rfl) ?_
  exact lo0 12 0 H locs ls rfl hB hS (lv_sub hl [0, 1] rfl)
