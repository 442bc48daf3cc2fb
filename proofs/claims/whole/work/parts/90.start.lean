/-! THE LAW, from its entry -/
theorem sw_1 : Cond.classLink "MilkDeskLaw" 8 RX11 ∈ lw_G := lw_Gi 87 (by decide +kernel) rfl
theorem sw_2 : Cond.instantiable RX11 7 ∈ lw_G := lw_Gi 88 (by decide +kernel) rfl
theorem sw_3 : Cond.initialized RX11 ∈ lw_G := lw_Gi 61 (by decide +kernel) rfl
theorem sw_4 : Cond.methodLink "MilkDeskLaw" 17 yX11_init ∈ lw_G := lw_Gi 89 (by decide +kernel) rfl
theorem sw_5 : Cond.instanceMethod yX11_init ∈ lw_G := lw_Gi 90 (by decide +kernel) rfl
theorem sw_6 : Cond.initialized yX11_init.cls ∈ lw_G := lw_Gi 61 (by decide +kernel) rfl
theorem sw_7 : Cond.code yX11_init cX11_init 2 none ∈ lw_G := lw_Gi 91 (by decide +kernel) rfl
theorem sw_11 : Cond.classLink "MilkDeskLaw" 18 RX12 ∈ lw_G := lw_Gi 1195 (by decide +kernel) rfl
theorem sw_12 : Cond.instantiable RX12 53 ∈ lw_G := lw_Gi 1196 (by decide +kernel) rfl
theorem sw_13 : Cond.initialized RX12 ∈ lw_G := lw_Gi 72 (by decide +kernel) rfl
theorem sw_14 : Cond.methodLink "MilkDeskLaw" 20 yX12_init ∈ lw_G := lw_Gi 1197 (by decide +kernel) rfl
theorem sw_15 : Cond.instanceMethod yX12_init ∈ lw_G := lw_Gi 1198 (by decide +kernel) rfl
theorem sw_16 : Cond.initialized yX12_init.cls ∈ lw_G := lw_Gi 72 (by decide +kernel) rfl
theorem sw_17 : Cond.code yX12_init cX12_init 2 none ∈ lw_G := lw_Gi 1199 (by decide +kernel) rfl
theorem sw_20 : Cond.arrayClass .long ∈ lw_G := lw_Gi 1363 (by decide +kernel) rfl
theorem old_s {G : Gn} {s : State} {H : Heap} {locs : List Loc} (h1 : bs G = s.heap.size) (h2 : gH G = s.heap) (hS : va_S (fun q => bs G ≤ q) s.heap H locs) : Old G H := fun q hq => by
  rw [h2]
  exact hS.2.1 q (by omega) (by omega)
set_option maxHeartbeats 8000000 in
set_option maxRecDepth 100000 in
theorem whole_start {p : Program} {e : Env} {s : State} {m : MethodId} {below : List Frame} {meth : Method} {c : Code} (l : Launch) (hflags : l.flags = flags0) {b L : Nat} {xs : Nat → Int32} (hL : L ≤ 384) (C0 : lw_At p s m meth c b L xs) : W p l e room_1 s m #[Value.ref b] below meth c s.heap [] 0 0 (lw_Z below #[Value.ref b] s) (entryFrame m ([Value.ref b] : List Value).toArray 8) := by
  obtain ⟨hx, hb, hr, hml, hown, hts, hX, hbl, hlocks, hgv⟩ := C0
  have hl0 : l.stackTraces = false := by
    unfold Launch.stackTraces
    rw [hflags]
    decide +kernel
  obtain ⟨G, eb, eH, ea, hKC⟩ := st_G offK hts hgv
  have had : ∀ c i, ad G c i = bs G + offK c i := fun c i => by rw [ea, eb]
  have hS9 : va_S (fun q => bs G ≤ q) s.heap s.heap [] := va_S.rf
  have hts2 : ∀ w ∈ lw_G, w.before #[Value.ref b] s = true := fun w hw => hts w (lw_Gt w hw)
  have S : CallFix p m c cL_law 8 s #[Value.ref b] lw_G "MilkDeskLaw" := ⟨hx, hb, hml, hown, hts2⟩
  have hK := hKC.1.1
  have hl := lv_entry ([Value.ref b] : List Value) (n := 8) (Nat.le_of_ble_eq_true rfl)
  rw [lg_entry_eq]
  generalize (lg_sl ([Value.ref b] : List Value) ++ List.replicate (8 - (lg_sl ([Value.ref b] : List Value)).length) Slot.unset).toArray = ls at hl ⊢
  replace hl : lv_has ls 8 [(0, .ref b)] := hl
  have hB : Blk G (bs G) [] s.heap := ⟨eb.symm, fun j x hx => by simp at hx⟩
  generalize hHH : s.heap = H at hB
  have hS : va_S (fun q => bs G ≤ q) s.heap H [] := by rw [← hHH]; exact va_S.rf
  show W p l e room_1 s m #[Value.ref b] below meth c H [] 0 0 _ (F0 m 0 ls [])
  generalize ([] : List Loc) = locs at hS ⊢
  refine k_new (a := bs G) (es := []) S hK (ci := 10) rfl in_wsX110 tyX11 tyX11_ok sw_1 sw_2 sw_3 hS hB (n := 0) rfl (fs := [.null, .null, .null, .int 0, .null, .null, .null]) rfl (Nat.le_of_ble_eq_true rfl) (Nat.le_of_ble_eq_true rfl) dL_law_0 (fun H hB hS => ?_)
  refine lv_dup hx hb dL_law_3 rfl ?_
  refine k_ctor (rm := rm_X11_init) (n := 0) (a := bs G) (nb := 0) (es := []) S hKC (old_s eb eH hS) (Nat.le_refl _) hS hB rfl (c_X11_init l (G := G) (a := bs G + 0)) trivial sw_4 sw_5 sw_6 sw_7 ⟨by decide +kernel, by decide +kernel, by decide +kernel⟩ rfl rfl hl.1 rfl ⟨Nat.le_of_ble_eq_true rfl, Nat.le_of_ble_eq_true rfl⟩ (Nat.le_of_ble_eq_true rfl) ⟨Nat.le_of_ble_eq_true rfl, Nat.le_of_ble_eq_true rfl⟩ dL_law_4 (fun H locs hB hS => ?_)
  replace hB : Blk G (bs G) (bX11 G (bs G)) H := hB
  have e11 : (bX11 G (bs G)).length = 127 := lX11
  generalize h11 : bX11 G (bs G) = E1 at hB e11
  refine lv_astore_n (lv' := [(1, .ref (bs G + 0)), (0, .ref b)]) hx hb dL_law_7 rfl hl (by decide) rfl (fun ls hl => ?_)
  refine k_new (a := bs G) (es := E1) S hK (ci := 11) rfl in_wsX120 tyX12 tyX12_ok sw_11 sw_12 sw_13 hS hB (n := 127) e11 (fs := [.int 0, .null, .null, .null, .int 0, .null, .null, .null, .null, .null, .null, .null, .null, .null, .null, .null, .null, .null, .null, .null, .null, .null, .int 0, .int 0, .int 0, .int 0, .int 0, .int 0, .int 0, .int 0, .int 0, .int 0, .null, .int 0, .null, .int 0, .null, .int 0, .null, .null, .int 0, .null, .null, .null, .int 0, .null, .null, .null, .null, .null, .null, .null, .null]) rfl (Nat.le_of_ble_eq_true rfl) (Nat.le_of_ble_eq_true rfl) dL_law_8 (fun H hB hS => ?_)
  refine lv_dup hx hb dL_law_11 rfl ?_
  refine k_ctor (rm := rm_X12_init) (n := 0) (a := bs G) (nb := 127) (es := E1) S hKC (old_s eb eH hS) (Nat.le_refl _) hS hB e11 (c_X12_init l (G := G) (a := bs G + 127)) trivial sw_14 sw_15 sw_16 sw_17 ⟨by decide +kernel, by decide +kernel, by decide +kernel⟩ rfl rfl hl.1 rfl ⟨Nat.le_of_ble_eq_true rfl, Nat.le_of_ble_eq_true rfl⟩ (Nat.le_of_ble_eq_true rfl) ⟨Nat.le_of_ble_eq_true rfl, Nat.le_of_ble_eq_true rfl⟩ dL_law_12 (fun H locs hB hS => ?_)
  have e12 : (bX12 G (bs G + 127)).length = 37 := lX12
  generalize h12 : bX12 G (bs G + 127) = E2 at hB e12
  refine lv_astore_n (lv' := [(2, .ref (bs G + 127)), (1, .ref (bs G + 0)), (0, .ref b)]) hx hb dL_law_15 rfl hl (by decide) rfl (fun ls hl => ?_)
  refine lv_iconst hx hb dL_law_16 ki_1 ?_
  refine k_newj S hK hS hB (N := 1) (z := 164) (by rw [List.length_append, e11, e12]) (by decide +kernel) (Nat.le_of_ble_eq_true rfl) (Nat.le_of_ble_eq_true rfl) (Nat.le_of_ble_eq_true rfl) sw_20 dL_law_17 (fun H hB hS => ?_)
  refine lv_astore_n (lv' := [(3, .ref (bs G + 164)), (2, .ref (bs G + 127)), (1, .ref (bs G + 0)), (0, .ref b)]) hx hb dL_law_19 rfl hl (by decide) rfl (fun ls hl => ?_)
  refine lv_iconst hx hb dL_law_20 ki_0 ?_
  refine lv_istore (lv' := [(4, .int 0), (3, .ref (bs G + 164)), (2, .ref (bs G + 127)), (1, .ref (bs G + 0)), (0, .ref b)]) hx hb dL_law_21 hl (by decide) rfl (fun ls hl => ?_)
  have hW : WPm G M0 H := by
    refine wp_all had (old_s eb eH hS) ?_
    rw [h11, h12]
    exact hB
  refine W.widen (k := 200 + 4 * 0) (n := 8000 + 100 * 0) (Nat.le_of_ble_eq_true rfl) (Nat.le_of_ble_eq_true rfl) ?_
  have hl2 : lv_has ls 8 (LV b G (6 * 0)) := by
    have h9 := lv_sub (l' := [(0, .ref b), (1, .ref (bs G + 0)), (2, .ref (bs G + 127)), (3, .ref (bs G + 164)), (4, .int 0)]) hl [4, 3, 2, 1, 0] rfl
    unfold LV
    rw [had, had, had]
    exact h9
  exact law_loop hl0 ⟨S, hX, hbl, eb, hKC.1, hL⟩ hr hlocks (L + 1) 0 (by omega) (by omega) S0 M0 H locs ls iv0 rcx0 rmx0 hW hS hl2
set_option maxHeartbeats 4000000 in
theorem lw_walk (l : Launch) (hflags : l.flags = flags0) (b : Addr) (xs : List Int32) : MetFree l x (headSpec (Jvm.Cond.code x code maxLocals ret :: tables_1) room_1) (lw_P b xs) (fun _ _ _ _ _ => True) lw_Q := by
  refine MetFree.of_bodyS (code := code) (maxLocals := maxLocals) (ret := ret) (by decide) ?_ ?_
  · intro args s m h hn
    obtain ⟨meth, c, h1, h2, h3, h4, h5, h6, -, -⟩ := Cond.code_spec hn (atoms_spec (ws := Jvm.Cond.code x code maxLocals ret :: tables_1) h _ List.mem_cons_self)
    exact ⟨meth, c, h1, h2, h3, h4, h5, h6⟩
  · intro p e s m args below meth c s₁ B hml0 hP _
    obtain ⟨rfl, hx, hbd, hgv⟩ := hP
    obtain ⟨scr, harrAt, hlist, hof, hsmall⟩ := hx
    obtain ⟨hcb, hkn, -, -⟩ := State.arrayAt?_spec harrAt
    have hown : s.vm.findClass R_law = some m.cls := findClass_of_methodNamed B.named
    have hts0 : ∀ c ∈ (Jvm.Cond.code x code maxLocals ret :: tables_1), c.before #[Value.ref b] s = true := atoms_spec (ws := Jvm.Cond.code x code maxLocals ret :: tables_1) B.pre
    have hts : ∀ w ∈ lw_tbl, w.before #[Value.ref b] s = true := k2_hts_sels lw_privs (fun w hw => hts0 w (List.mem_cons_of_mem _ hw)) lw_privs_ok
    have hml : c.maxLocals = 8 := B.maxLocals_eq (hts0 _ List.mem_cons_self)
    have X₀ : Stand p l e room_1 s m #[Value.ref b] below meth c s₁ [] 0 0 := Stand.of_body B
    have hh0 : s₁.heap = s.heap := by rw [B.state]; rfl
    have hsz : scr.slots.size = xs.length := by rw [← Array.length_toList, hlist, List.length_map]
    have hval : ∀ j : Nat, j < xs.length → scr.slots[j]? = some (.int (xs.getD j 0)) := fun j hj => by
      rw [← Array.getElem?_toList, hlist]
      simp [hj]
    have hbl : b < s.heap.size := (Array.getElem?_eq_some_iff.mp hcb).1
    have hX : va_X b xs.length (fun j => xs.getD j 0) s s.heap := ⟨scr, hcb, hof, hkn, hsz, hval⟩
    have K : W p l e room_1 s m #[Value.ref b] below meth c s₁.heap [] 0 0 (lw_Z below #[Value.ref b] s) (entryFrame m ([Value.ref b] : List Value).toArray 8) := by
      rw [hh0]
      exact whole_start l hflags hbd ⟨B.exec, B.bytes, B.returns, hml, hown, hts, hX, hbl, B.notSynchronized, hgv⟩
    obtain ⟨t, a1, o, b1, b2, b3⟩ := K s₁ rfl X₀
    exact ⟨t, o, a1, b1, b2, b3⟩
theorem lw_pre_spec {args : Array Value} {s : State} (h : (Jvm.Cond.and given_1 narrow_1).before args s = true) (hr : rest_1_c.before args s = true) : ∃ (b : Addr) (xs : List Int32), lw_P b xs args s := by
  have hs := flat_of_before _ h
  have hq := flat_of_before _ hr
  have hc : (Cond.count 1).before args s = true := hs _ (by decide +kernel)
  have harr : (Cond.arrayOf (.arg 0) .int).before args s = true := hs _ (by decide +kernel)
  have hle : (Cond.le (.length (.arg 0)) (.int 384)).before args s = true := hs _ (by decide +kernel)
  have hlen : (Cond.isInt (.length (.arg 0))).before args s = true := hq _ (by decide +kernel)
  have hall : (Cond.all (.arg 0) (.isInt (.elem (.arg 0) (.index 0)))).before args s = true := hq _ (by decide +kernel)
  obtain ⟨b, xs, hb, hx⟩ := State.ints_of_pre rfl harr hlen hall
  have hsm : xs.length < 2 ^ 31 := hx.choose_spec.2.2.2
  have hev : (Term.length (.arg 0)).eval args s none [] s = some (.int xs.length.toInt32) := hx.length_eval hb
  have hv := Cond.le_ints hev (show (Term.int 384).eval args s none [] s = some (.int 384) from rfl)
  have hd : xs.length.toInt32 ≤ 384 := by
    simpa [Cond.before, Cond.holds, hv] using hle
  have hN : xs.length ≤ 384 := (Int32.ofNat_le_ofNat hsm (by decide)).mp (show Int32.ofNat xs.length ≤ Int32.ofNat 384 from hd)
  exact ⟨b, xs, Cond.one_arg hc (show args[0]? = some (.ref b) from hb), hx, hN, h⟩
theorem lw_comes (l : Launch) (hflags : l.flags = flags0) : Comes l x (Jvm.Cond.code x code maxLocals ret :: tables_1) room_1 (fun tb e args s => Calls_1 tb e args s ∧ rest_1 tb e args s ∧ Pre_1 tb e args s)
    (fun _ _ args s o t => lw_Q args s o t) := by
  intro p e ha hc hk s m args below hf hfit hheap happ hpre
  obtain ⟨b, xs, hP⟩ := lw_pre_spec hpre.2.2 hpre.2.1
  obtain ⟨k, o, h1, h2, h3, hQ⟩ := lw_walk l hflags b xs p e ha hc hk s m args below hf ((Spec.applies_iff_loose hf).mp happ).1 hP trivial
  exact ⟨k, o, h1, h2, h3, hQ⟩
theorem lw_frame {s t : State} {o : Outcome} {args : Array Value} (h : Framed s o t [] 600128 7301098) :
    Framed s o t (fieldLocs frame_1_writes args s ++ arrayLocs frame_1_arrays args s ++ staticLocs frame_1_statics s) 600128 7301098 := h
theorem lw_limb (L : Cond) (hL : ∀ (args : Array Value) (s t : State), L.after args s (.returned (some (.int 1))) t = true) :
    ArmFor flags0 classFile x code maxLocals ret World_1 tables_1 room_1 Calls_1 rest_1 Pre_1
      (fun tb e a s o t => postC L tb e a s o t ∧ Framed s o t (fieldLocs frame_1_writes a s ++ arrayLocs frame_1_arrays a s ++ staticLocs frame_1_statics s) 600128 7301098) := by
  intro l hflags _ _ p e ha hc hk s m args below hf hfit hheap happ hpre
  obtain ⟨k, o, h1, h2, h3, rfl, hF⟩ := lw_comes l hflags p e ha hc hk s m args below hf hfit hheap happ hpre
  exact ⟨k, _, h1, h2, h3, hL args s _, lw_frame hF⟩
theorem i_vc : Claimed_1_1 ∧ Claimed_1_2 := ⟨lw_limb limb_1_1 (fun args s t => by simp [limb_1_1, Cond.after, Cond.holds, Cond.value]), lw_limb limb_1_2 (fun args s t => Cond.after_iff.mpr (by
  first | (rw [show limb_1_2 = Cond.eq .result (.int 1) from rfl, Cond.eq_ints (x := 1) (y := 1) rfl rfl]; simp; done) | (simp [limb_1_2, Cond.value, Term.eval]; done)))⟩
