/-! MAKING THE WORLD: a block of new cells from a on -/
def Blk (G : Gn) (a : Nat) (es : List va_E) (H : Heap) : Prop := H.size = a + es.length ∧ ∀ (j : Nat) (e : va_E), es[j]? = some e → va_at (gD G) vwCl (a + j, e) H
/-- what lay there before is as it was -/
def Old (G : Gn) (H : Heap) : Prop := ∀ q : Nat, q < bs G → H[q]? = (gH G)[q]?
/-- what is known while the world is made -/
def KC (G : Gn) (U : State) : Prop := KX G U ∧ va_AO "MilkDesk$Act" U ∧ va_AO "MilkDesk$Shelf" U
theorem KC.warm {G : Gn} {s U : State} (hW : s.WarmedH U.vm) (h : KC G s) : KC G U := ⟨h.1.warm hW, h.2.1.moved hW.alike, h.2.2.moved hW.alike⟩
theorem KC.blind {G : Gn} {U : State} {g : JFrame} {mk : MethodId} {a : Array Value} (h : KC G U) : KC G (U.calling g mk a) := ⟨⟨va_K.moved (u := U) (U := U.calling g mk a) (Vm.Alike.refl U.vm) h.1.1, XF.same (U := U.calling g mk a) rfl h.1.2⟩, va_AO.moved (u := U) (U := U.calling g mk a) (Vm.Alike.refl U.vm) h.2.1, va_AO.moved (u := U) (U := U.calling g mk a) (Vm.Alike.refl U.vm) h.2.2⟩
theorem Blk.push {G : Gn} {a : Nat} {es : List va_E} {H H1 : Heap} {e : va_E} (h : Blk G a es H) (z : H1.size = H.size + 1) (he : va_at (gD G) vwCl (H.size, e) H1) (o : ∀ q : Nat, q < H.size → H1[q]? = H[q]?) : Blk G a (es ++ [e]) H1 := by
  refine ⟨by rw [z, h.1, List.length_append]; rfl, fun j x hx => ?_⟩
  by_cases hj : j < es.length
  · rw [List.getElem?_append_left hj] at hx
    exact (h.2 j x hx).kept (o _ (h.2 j x hx).lt)
  · rw [List.getElem?_append_right (by omega)] at hx
    have hz : j - es.length < 1 := (List.getElem?_eq_some_iff.mp hx).1
    have hj2 : j = es.length := by omega
    subst hj2
    rw [Nat.sub_self] at hx
    cases hx
    rw [h.1] at he
    exact he
theorem Blk.upd {G : Gn} {a : Nat} {es : List va_E} {H H1 : Heap} {j : Nat} {e e' : va_E} (h : Blk G a es H) (hj : es[j]? = some e) (z : H1.size = H.size) (he : va_at (gD G) vwCl (a + j, e') H1) (o : ∀ q : Nat, q ≠ a + j → H1[q]? = H[q]?) : Blk G a (es.set j e') H1 := by
  refine ⟨by rw [z, h.1, List.length_set], fun i x hx => ?_⟩
  by_cases hi : i = j
  · subst hi
    have hl := (List.getElem?_eq_some_iff.mp hj).1
    rw [List.getElem?_set_self hl] at hx
    cases hx
    exact he
  · rw [List.getElem?_set_ne (Ne.symm hi)] at hx
    exact (h.2 i x hx).kept (o _ (by show a + i ≠ a + j; omega))
theorem Blk.join {G : Gn} {a n : Nat} {es es' : List va_E} {e0 : va_E} {H H1 : Heap} (h : Blk G a (es ++ [e0]) H) (hn : es.length = n) (h1 : Blk G (a + n) es' H1) (o : ∀ q : Nat, q < H.size → q < a + n → H1[q]? = H[q]?) : Blk G a (es ++ es') H1 := by
  refine ⟨by rw [h1.1, List.length_append, hn]; omega, fun j x hx => ?_⟩
  by_cases hj : j < es.length
  · rw [List.getElem?_append_left hj] at hx
    have h2 := h.2 j x (by rw [List.getElem?_append_left hj]; exact hx)
    exact h2.kept (o _ h2.lt (by show a + j < a + n; omega))
  · rw [List.getElem?_append_right (by omega)] at hx
    have h2 := h1.2 _ x hx
    rw [show a + n + (j - es.length) = a + j by omega] at h2
    exact h2
/-- the block's last cell alone -/
theorem Blk.last {G : Gn} {a n : Nat} {es : List va_E} {e0 : va_E} {H : Heap} (h : Blk G a (es ++ [e0]) H) (hn : es.length = n) : Blk G (a + n) [e0] H := by
  refine ⟨by rw [h.1, List.length_append, hn]; show a + (n + 1) = a + n + 1; omega, fun j x hx => ?_⟩
  have hz : j < 1 := (List.getElem?_eq_some_iff.mp hx).1
  have hj0 : j = 0 := by omega
  subst hj0
  cases hx
  have h2 := h.2 n e0 (by rw [List.getElem?_append_right (by omega), hn, Nat.sub_self]; rfl)
  exact h2
theorem k_dfl {ty : Nat → FieldType} {N : Nat} {fs : List Value} (h : fs = (List.range N).map (fun j => defaultValue (ty j))) : ∀ j, j < N → defaultValue (ty j) = vp_V fs j := by
  intro j hj
  rw [h]
  unfold vp_V
  rw [List.getD_eq_getElem?_getD, List.getElem?_map, List.getElem?_range hj]
  rfl
/-- a constructor's contract: out of one new cell at a, a block of cells from a on -/
abbrev MQk (l : Launch) (y : MethodName) (code : ByteArray) (maxL : Nat) (rm : Room) (av : List Value) (Zh : Heap → Prop) (G : Gn) (a : Nat) (e0 : va_E) (es : List va_E) : Prop :=
  Met l y (cwd y code maxL none) rm (va_Pc av (fun U => (KC G U ∧ Old G U.heap ∧ bs G ≤ a) ∧ Blk G a [e0] U.heap ∧ Zh U.heap)) (va_Qv (S := Unit) (fun _ => True) (fun _ t => KC G t ∧ Blk G a es t.heap) (fun q => a ≤ q)) rm.cells rm.slots (fun q => a ≤ q)
theorem k_blind {G : Gn} {a : Nat} {e0 : va_E} {av : List Value} {Zh : Heap → Prop} : FrameBlind (va_Pc av (fun U => (KC G U ∧ Old G U.heap ∧ bs G ≤ a) ∧ Blk G a [e0] U.heap ∧ Zh U.heap)) := fun _ _ _ _ q => ⟨q.1, ⟨q.2.1.1.blind, q.2.1.2⟩, q.2.2⟩
/-- a constructor's entry -/
theorem k_enter {cc : ByteArray} {l : Launch} {y : MethodName} {maxL : Nat} {rm : Room} {av : List Value} {Zh : Heap → Prop} {G : Gn} {a : Nat} {e0 : va_E} {es : List va_E} (hy : plainName y.cls = true) (hyi : y.name = "<init>") (hn : (lg_sl av).length ≤ maxL)
    (body : ∀ (p : Program) (e : Env) (s : State) (m : MethodId) (AV : Array Value) (below : List Frame) (meth : Method) (c : Code) (ls : Array Slot) (H : Heap) (locs : List Loc), CallFix p m c cc maxL s AV lw_G y.cls → meth.sig.returnType = none → meth.locks = false → meth.name = "<init>" → KC G s → Old G s.heap → bs G ≤ a → a < s.heap.size → Blk G a [e0] H → va_S (fun q => a ≤ q) s.heap H locs → lv_has ls maxL (lv_args 0 av) → Zh H →
      W p l e rm s m AV below meth c H locs 0 0 (MQ below (va_Qv (S := Unit) (fun _ => True) (fun _ t => KC G t ∧ Blk G a es t.heap) (fun q => a ≤ q)) AV s rm.cells rm.slots (fun q => a ≤ q)) (F0 m 0 ls [])) : MQk l y cc maxL rm av Zh G a e0 es := by
  refine Met.ofW (cc := cc) (maxL := maxL) (ret := none) hy rfl ?_
  intro p e s m args below meth c s₁ B hml hv
  obtain ⟨rfl, ⟨hK, hO, hba⟩, hB, hz⟩ := hv
  have hts := atoms_spec (ws := cwd y cc maxL none) B.pre
  rw [lg_entry_eq]
  exact body p e s m _ below meth c _ s.heap [] ⟨B.exec, B.bytes, hml, findClass_of_methodNamed B.named, fun w hw => hts w (List.mem_cons_of_mem _ hw)⟩ B.returns B.notSynchronized (((name_of_methodNamed B.named B.method).1).trans hyi) hK hO hba (by rw [hB.1]; exact Nat.lt_succ_self _) hB va_S.rf (lv_entry av hn) hz
section KR
variable {p : Program} {l : Launch} {e : Env} {R : Room} {s : State} {m : MethodId} {args : Array Value} {below : List Frame} {meth : Method} {c : Code} {H : Heap} {locs : List Loc} {cells slots : Nat} {Q : State → Prop}
variable {cc : ByteArray} {pc : Nat} {ls : Array Slot} {rest : List Value} {G : Gn} {own : String} {nL : Nat} {a : Nat} {es : List va_E}
theorem k_old (hO : Old G s.heap) (hba : bs G ≤ a) (hsz : a < s.heap.size) (hS : va_S (fun q => a ≤ q) s.heap H locs) : Old G H := fun q hq => (hS.2.1 q (by omega) (by omega)).trans (hO q hq)
theorem k_ret (S : CallFix p m c cc nL s args lw_G own) (hret : meth.sig.returnType = none) (hlocks : meth.locks = false) (hKC : KC G s) (hB : Blk G a es H) (hS : va_S (fun q => a ≤ q) s.heap H locs) {mc ms : Nat} (h1 : cells ≤ mc) (h2 : slots ≤ ms) (hdg : decode cc pc = .ok (.return_, 1)) :
    W p l e R s m args below meth c H locs cells slots (MQ below (va_Qv (S := Unit) (fun _ => True) (fun _ t => KC G t ∧ Blk G a es t.heap) (fun q => a ≤ q)) args s mc ms (fun q => a ≤ q)) (F0 m pc ls []) :=
  W.widen h1 h2 (W.vret S.1 S.2.1 hret (fun t ht hWm => ⟨⟨(), rfl, trivial, hKC.warm hWm, by rw [ht]; exact hB⟩, hS.F ht⟩) hS.2.2 hdg)
theorem k_obj (S : CallFix p m c cc nL s args lw_G own) (hz : ls.size = nL) {idx : Nat} (hl : Cond.methodLink own idx Lib.objectInit ∈ lw_G) (hdg : decode cc pc = .ok (.invokespecial idx, 3)) (hf : 1 ≤ R.frames) (hlo : 12 ≤ R.locals) {x : Nat}
    (kk : W p l e R s m args below meth c H locs cells slots Q (F0 m (pc + 3) ls [])) : W p l e R s m args below meth c H locs cells slots Q (F0 m pc ls [.ref x]) := by
  refine W.objInit S.1 S.2.1 S.2.2.2.1 (S.2.2.2.2 _ hl) (S.2.2.2.2 _ aw_2) (S.2.2.2.2 _ aw_3) rfl (by rw [S.2.2.1]; exact hz) rfl hdg hf hlo ?_
  exact W.eq (g2 := F0 m (pc + 3) ls []) rfl kk
theorem k_new (S : CallFix p m c cc nL s args lw_G own) (hK : va_K (gD G) vwCl (tysG G) s) {ci N idx n : Nat} {C : String} {T : u_T} (hc : vwCl[ci]? = some (C, T, N)) (hin : ∀ w ∈ u_ws C T N, w ∈ lw_G) (ty : Nat → FieldType) (hty : ∀ k, k < N → parseFieldDescriptor (T k).2.2.1 = some (ty k))
    (hcl : Cond.classLink own idx C ∈ lw_G) (hinst : Cond.instantiable C N ∈ lw_G) (hini : Cond.initialized C ∈ lw_G) (hS0 : va_S (fun q => a ≤ q) s.heap H locs) (hB : Blk G a es H) (hn : es.length = n) {fs : List Value} (hfs : fs = (List.range N).map (fun j => defaultValue (ty j))) (hcells : cells + 1 ≤ R.cells) (hslots : slots + N ≤ R.slots) (hdg : decode cc pc = .ok (.new idx, 3))
    (kk : ∀ H1 : Heap, Blk G a (es ++ [.inr (ci, fs)]) H1 → va_S (fun q => a ≤ q) s.heap H1 locs → W p l e R s m args below meth c H1 locs (cells + 1) (slots + N) Q (F0 m (pc + 3) ls (.ref (a + n) :: rest))) : W p l e R s m args below meth c H locs cells slots Q (F0 m pc ls rest) := by
  obtain ⟨hx, hb, hml, hown, hts⟩ := S
  subst hn
  have hKn := hK.1 ci _ hc
  refine W.newcK hx hb hown (hts _ hcl) (hts _ hinst) (hts _ hini) rfl hdg hcells hslots hKn.2.1 rfl fun H1 kC hkC e1 z1 o1 => ?_
  have h9 := kk H1 (hB.push z1 ⟨_, hc, (u_born ty hts hin hKn hkC e1 hty).to (k_dfl hfs)⟩ o1) ⟨Nat.le_trans hS0.1 (by omega), fun x h1 h2 => (o1 x (Nat.lt_of_lt_of_le h1 hS0.1)).trans (hS0.2.1 x h1 h2), hS0.2.2⟩
  rw [← hB.1] at h9
  exact h9
theorem k_newi (S : CallFix p m c cc nL s args lw_G own) (hK : va_K (gD G) vwCl (tysG G) s) (hS0 : va_S (fun q => a ≤ q) s.heap H locs) (hB : Blk G a es H) {n : Int32} {N z : Nat} (hn : es.length = z) (hN : n.toNatClampNeg = N ∧ ¬ n < 0) (hN2 : N ≤ 1280) (hcells : cells + 1 ≤ R.cells) (hslots : slots + N ≤ R.slots) (hdg : decode cc pc = .ok (.newarray .int, 2))
    (kk : ∀ H1 : Heap, Blk G a (es ++ [.inl (gI G, N, .inl (fun _ => 0))]) H1 → va_S (fun q => a ≤ q) s.heap H1 locs → W p l e R s m args below meth c H1 locs (cells + 1) (slots + N) Q (F0 m (pc + 2) ls (.ref (a + z) :: rest))) : W p l e R s m args below meth c H locs cells slots Q (F0 m pc ls (.int n :: rest)) := by
  obtain ⟨hx, hb, hml, hown, hts⟩ := S
  subst hn
  refine va_newaK (atype := .int) hx hb (hts _ aw_18) rfl hdg rfl hN.2 hN.1 (by show N * 4 ≤ _; omega) hcells hslots rfl fun H1 cA e1 z1 o1 hAr hNm => ?_
  have ec : cA = gI G := by
    have h2 : s.vm.findClass ("[" ++ FieldType.int.toString) = some (gI G) := (hK.2 0 _ rfl).2
    exact Option.some.inj (hNm.symm.trans h2)
  subst ec
  have h9 := kk H1 (hB.push z1 e1 o1) ⟨Nat.le_trans hS0.1 (by omega), fun x h1 h2 => (o1 x (Nat.lt_of_lt_of_le h1 hS0.1)).trans (hS0.2.1 x h1 h2), hS0.2.2⟩
  rw [← hB.1] at h9
  exact h9
theorem k_newz (S : CallFix p m c cc nL s args lw_G own) (hK : va_K (gD G) vwCl (tysG G) s) (hS0 : va_S (fun q => a ≤ q) s.heap H locs) (hB : Blk G a es H) {n : Int32} {N z : Nat} (hn : es.length = z) (hN : n.toNatClampNeg = N ∧ ¬ n < 0) (hN2 : N ≤ 1280) (hcells : cells + 1 ≤ R.cells) (hslots : slots + N ≤ R.slots) (harr : Cond.arrayClass .boolean ∈ lw_G) (hdg : decode cc pc = .ok (.newarray .boolean, 2))
    (kk : ∀ H1 : Heap, Blk G a (es ++ [.inl (gZ G, N, .inl (fun _ => 0))]) H1 → va_S (fun q => a ≤ q) s.heap H1 locs → W p l e R s m args below meth c H1 locs (cells + 1) (slots + N) Q (F0 m (pc + 2) ls (.ref (a + z) :: rest))) : W p l e R s m args below meth c H locs cells slots Q (F0 m pc ls (.int n :: rest)) := by
  obtain ⟨hx, hb, hml, hown, hts⟩ := S
  subst hn
  refine va_newaK (atype := .boolean) hx hb (hts _ harr) rfl hdg rfl hN.2 hN.1 (by show N * 1 ≤ _; omega) hcells hslots rfl fun H1 cA e1 z1 o1 hAr hNm => ?_
  have ec : cA = gZ G := by
    have h2 : s.vm.findClass ("[" ++ FieldType.boolean.toString) = some (gZ G) := (hK.2 2 _ rfl).2
    exact Option.some.inj (hNm.symm.trans h2)
  subst ec
  have h9 := kk H1 (hB.push z1 e1 o1) ⟨Nat.le_trans hS0.1 (by omega), fun x h1 h2 => (o1 x (Nat.lt_of_lt_of_le h1 hS0.1)).trans (hS0.2.1 x h1 h2), hS0.2.2⟩
  rw [← hB.1] at h9
  exact h9
theorem k_newj (S : CallFix p m c cc nL s args lw_G own) (hK : va_K (gD G) vwCl (tysG G) s) (hS0 : va_S (fun q => a ≤ q) s.heap H locs) (hB : Blk G a es H) {n : Int32} {N z : Nat} (hn : es.length = z) (hN : n.toNatClampNeg = N ∧ ¬ n < 0) (hN2 : N ≤ 1280) (hcells : cells + 1 ≤ R.cells) (hslots : slots + N ≤ R.slots) (harr : Cond.arrayClass .long ∈ lw_G) (hdg : decode cc pc = .ok (.newarray .long, 2))
    (kk : ∀ H1 : Heap, Blk G a (es ++ [.inl (gJ G, N, .inr (.inl (fun _ => 0)))]) H1 → va_S (fun q => a ≤ q) s.heap H1 locs → W p l e R s m args below meth c H1 locs (cells + 1) (slots + N) Q (F0 m (pc + 2) ls (.ref (a + z) :: rest))) : W p l e R s m args below meth c H locs cells slots Q (F0 m pc ls (.int n :: rest)) := by
  obtain ⟨hx, hb, hml, hown, hts⟩ := S
  subst hn
  refine va_newaK (atype := .long) hx hb (hts _ harr) rfl hdg rfl hN.2 hN.1 (by show N * 8 ≤ _; omega) hcells hslots rfl fun H1 cA e1 z1 o1 hAr hNm => ?_
  have ec : cA = gJ G := by
    have h2 : s.vm.findClass ("[" ++ FieldType.long.toString) = some (gJ G) := (hK.2 1 _ rfl).2
    exact Option.some.inj (hNm.symm.trans h2)
  subst ec
  have h9 := kk H1 (hB.push z1 e1 o1) ⟨Nat.le_trans hS0.1 (by omega), fun x h1 h2 => (o1 x (Nat.lt_of_lt_of_le h1 hS0.1)).trans (hS0.2.1 x h1 h2), hS0.2.2⟩
  rw [← hB.1] at h9
  exact h9
/-- a new row of references, to a class whose rows are known (k: its place among the kinds of rows) -/
theorem k_newq (S : CallFix p m c cc nL s args lw_G own) {idx : Nat} {C : String} {cA : ClassId} (hra : va_RA s cA (.object C)) (hover : va_AO C s) (hcl : Cond.classLink own idx C ∈ lw_G) (hS0 : va_S (fun q => a ≤ q) s.heap H locs) (hB : Blk G a es H) {n : Int32} {N z : Nat} (hn : es.length = z) (hN : n.toNatClampNeg = N ∧ ¬ n < 0) (hN2 : N ≤ 1280) (hcells : cells + 1 ≤ R.cells) (hslots : slots + N ≤ R.slots) (hdg : decode cc pc = .ok (.anewarray idx, 3))
    (kk : ∀ H1 : Heap, Blk G a (es ++ [.inl (cA, N, .inr (.inr (.inr (.inr (fun _ => none)))))]) H1 → va_S (fun q => a ≤ q) s.heap H1 locs → W p l e R s m args below meth c H1 locs (cells + 1) (slots + N) Q (F0 m (pc + 3) ls (.ref (a + z) :: rest))) : W p l e R s m args below meth c H locs cells slots Q (F0 m pc ls (.int n :: rest)) := by
  obtain ⟨hx, hb, hml, hown, hts⟩ := S
  subst hn
  obtain ⟨hN1, hN0⟩ := hN
  subst hN1
  refine W.anew hx hb hown (hts _ hcl) (va_AO.use hover) rfl hdg rfl hN0 (by omega) hcells hslots fun cB kA comp f1 f2 f3 f4 => ?_
  obtain ⟨kA', comp', r1, r2, r3, r4⟩ := hra
  have ec : cB = cA := Option.some.inj (f1.symm.trans r4)
  subst ec
  generalize hH1 : H.push ({ cls := cB, slots := Array.replicate n.toNatClampNeg .null, vm := .none } : Cell) = H1
  have z1 : H1.size = H.size + 1 := by rw [← hH1, Array.size_push]
  have e1 : H1[H.size]? = some (arrV cB n.toNatClampNeg (fun _ => .null)) := by rw [← hH1, Array.getElem?_push_size, ← arrV_new]
  have o1 : ∀ q : Nat, q < H.size → H1[q]? = H[q]? := fun q hq => by rw [← hH1, Array.getElem?_push, if_neg (Nat.ne_of_lt hq)]
  have h9 := kk H1 (hB.push z1 e1 o1) ⟨Nat.le_trans hS0.1 (by omega), fun x h1 h2 => (o1 x (Nat.lt_of_lt_of_le h1 hS0.1)).trans (hS0.2.1 x h1 h2), hS0.2.2⟩
  rw [← hB.1] at h9
  exact h9
/-- a final field of a cell of the block -/
theorem k_putF (S : CallFix p m c cc nL s args lw_G own) (hK : va_K (gD G) vwCl (tysG G) s) {idx ci k j : Nat} {C : String} {T : u_T} {N : Nat} (hF : FLK own idx ci k C T N) {ty0 : Nat → FieldType} (hty : ∀ k, k < N → parseFieldDescriptor (T k).2.2.1 = some (ty0 k)) (hnm : ∀ a, a < N → ∀ b, b < N → a ≠ b → (T a).2.1 ≠ (T b).2.1) (hfin : (T k).2.2.2 = true) (hin2 : meth.name = "<init>") (hdecl : (T k).1 = own) {v : Value} (hn : narrow (ty0 k) v = v) (hfit : fits (ty0 k) v = true)
    (hB : Blk G a es H) {fs : List Value} (hj : es[j]? = some (.inr (ci, fs))) (hl : k < fs.length) (hS0 : va_S (fun q => a ≤ q) s.heap H locs) (hdg : decode cc pc = .ok (.putfield idx, 3))
    (kk : ∀ (H1 : Heap) (locs1 : List Loc), Blk G a (es.set j (.inr (ci, fs.set k v))) H1 → va_S (fun q => a ≤ q) s.heap H1 locs1 → W p l e R s m args below meth c H1 locs1 cells slots Q (F0 m (pc + 3) ls rest)) : W p l e R s m args below meth c H locs cells slots Q (F0 m pc ls (v :: .ref (a + j) :: rest)) := by
  obtain ⟨hx, hb, hml, hown, hts⟩ := S
  obtain ⟨hc, hk, hlk, hin⟩ := hF
  have hlink := hts _ hlk
  have hap := va_apart (own := own) hts hin ty0 hty hnm hK hc
  obtain ⟨r, h1, cell, q1, q2, q3, q4⟩ := hB.2 j _ hj
  have hr : r = (C, T, N) := Option.some.inj (h1.symm.trans hc)
  subst hr
  obtain ⟨hS, hfc, kC, hkC, hkind⟩ := hK.1 ci _ hc
  obtain ⟨cf, kf, fi, f, hi, hsl⟩ := hS k hk
  have hlay := hts _ (hin _ (u_in_lay hk))
  unfold u_lay at hlay
  rw [if_pos hfin] at hlay
  have hst := (u_facts hfc hkC (u_lays hts hin hk) hi).1
  have hcf : m.cls = cf := by
    obtain ⟨_, _, c', _, _, _, -, -, hf', -, -, -, hown2, -⟩ := Cond.laysFinal_spec hlay
    have e1 : c' = cf := by have := hi.symm.trans hf'; simp at this; exact this.1.symm
    rw [hdecl] at hown2
    rw [← e1]; exact Option.some.inj (hown.symm.trans hown2)
  have h6 := u_fits hfc hkC hkind (Or.inr hlay) hi (hty k hk) hn hfit
  refine W.putFinK hx hb hown hlink hi hst hcf hin2 (by rw [q2]; exact h6) q1 q3 (by rw [hsl]; exact k2_hasslot (q4 k hk)) rfl rfl hdg fun H' e1 e2 e3 => ?_
  rw [hsl] at e1 ⊢
  exact kk H' _ (hB.upd hj e2 ⟨_, hc, t_OB.to (V := updV (vp_V fs) k v) ⟨_, e1, q2, q3, t_set q4 hap hk v⟩ (fun j _ => vp_updV_set hl v j)⟩ e3) (hS0.put e2 e3 (Nat.le_add_right a j))
/-- a field that isn't final -/
theorem k_putN (S : CallFix p m c cc nL s args lw_G own) (hK : va_K (gD G) vwCl (tysG G) s) {idx ci k j : Nat} {C : String} {T : u_T} {N : Nat} (hF : FLK own idx ci k C T N) {ty0 : Nat → FieldType} (hty : ∀ k, k < N → parseFieldDescriptor (T k).2.2.1 = some (ty0 k)) (hnm : ∀ a, a < N → ∀ b, b < N → a ≠ b → (T a).2.1 ≠ (T b).2.1) (hfin : (T k).2.2.2 = false) {v : Value} (hn : narrow (ty0 k) v = v) (hfit : fits (ty0 k) v = true)
    (hB : Blk G a es H) {fs : List Value} (hj : es[j]? = some (.inr (ci, fs))) (hl : k < fs.length) (hS0 : va_S (fun q => a ≤ q) s.heap H locs) (hdg : decode cc pc = .ok (.putfield idx, 3))
    (kk : ∀ (H1 : Heap) (locs1 : List Loc), Blk G a (es.set j (.inr (ci, fs.set k v))) H1 → va_S (fun q => a ≤ q) s.heap H1 locs1 → W p l e R s m args below meth c H1 locs1 cells slots Q (F0 m (pc + 3) ls rest)) : W p l e R s m args below meth c H locs cells slots Q (F0 m pc ls (v :: .ref (a + j) :: rest)) := by
  obtain ⟨hx, hb, hml, hown, hts⟩ := S
  obtain ⟨hc, hk, hlk, hin⟩ := hF
  have hlink := hts _ hlk
  have hap := va_apart (own := own) hts hin ty0 hty hnm hK hc
  obtain ⟨r, h1, cell, q1, q2, q3, q4⟩ := hB.2 j _ hj
  have hr : r = (C, T, N) := Option.some.inj (h1.symm.trans hc)
  subst hr
  obtain ⟨hS, hfc, kC, hkC, hkind⟩ := hK.1 ci _ hc
  obtain ⟨cf, kf, fi, f, hi', hsl⟩ := hS k hk
  have hlay := hts _ (hin _ (u_in_lay hk))
  unfold u_lay at hlay
  rw [if_neg (by rw [hfin]; decide)] at hlay
  have hst := (u_facts hfc hkC (u_lays hts hin hk) hi').1
  have h6 := u_store hfc hkC hkind hlay hi' (hty k hk) hn hfit
  refine W.putK hx hb (f := f) ⟨hown, hlink, ⟨_, _, _, hi'⟩, hst⟩ (by rw [q2]; exact h6) q1 q3 (by rw [hsl]; exact k2_hasslot (q4 k hk)) rfl rfl hdg fun H' e1' e2' e3' => ?_
  rw [hsl] at e1' ⊢
  exact kk H' _ (hB.upd hj e2' ⟨_, hc, t_OB.to (V := updV (vp_V fs) k v) ⟨_, e1', q2, q3, t_set q4 hap hk v⟩ (fun j _ => vp_updV_set hl v j)⟩ e3') (hS0.put e2' e3' (Nat.le_add_right a j))
/-- a field of a cell of the block -/
theorem k_get (S : CallFix p m c cc nL s args lw_G own) (hK : va_K (gD G) vwCl (tysG G) s) {idx ci k j : Nat} {C : String} {T : u_T} {N : Nat} (hF : FLK own idx ci k C T N) (hB : Blk G a es H) {fs : List Value} {v : Value} (hj : es[j]? = some (.inr (ci, fs))) (hv : fs[k]? = some v) (hdg : decode cc pc = .ok (.getfield idx, 3))
    (kk : W p l e R s m args below meth c H locs cells slots Q (F0 m (pc + 3) ls (v :: rest))) : W p l e R s m args below meth c H locs cells slots Q (F0 m pc ls (.ref (a + j) :: rest)) := m_get S hK hF (hB.2 j _ hj) hv hdg kk
/-- a place of a row of ints of the block -/
theorem k_iast (S : CallFix p m c cc nL s args lw_G own) (hK : va_K (gD G) vwCl (tysG G) s) (hB : Blk G a es H) {j n k : Nat} {f : Nat → Int32} (hj : es[j]? = some (.inl (gI G, n, .inl f))) (hS0 : va_S (fun q => a ≤ q) s.heap H locs) {i x : Int32} (hi : i.toNatClampNeg = k ∧ ¬ i < 0) (hk : k < n) (hdg : decode cc pc = .ok (.iastore, 1))
    (kk : ∀ (H1 : Heap) (locs1 : List Loc), Blk G a (es.set j (.inl (gI G, n, .inl (upd f k x)))) H1 → va_S (fun q => a ≤ q) s.heap H1 locs1 → W p l e R s m args below meth c H1 locs1 cells slots Q (F0 m (pc + 1) ls rest)) : W p l e R s m args below meth c H locs cells slots Q (F0 m pc ls (.int x :: .int i :: .ref (a + j) :: rest)) := by
  have hc : H[a + j]? = some (vp_cell (gI G) (n, .inl f)) := hB.2 j _ hj
  obtain ⟨hi1, hi0⟩ := hi
  subst hi1
  refine W.iast S.1 S.2.1 hc (m_kI hK n (fun j => .int (f j))) (fun q => by cases q) (fun q => by
    rcases q with q | q
    · exact hi0 q
    · have q : (arrV (gI G) n (fun j => .int (f j))).slots.size ≤ i.toNatClampNeg := q
      rw [arrV_size] at q
      omega) rfl rfl hdg fun H1 e z oq => ?_
  refine kk H1 _ (hB.upd hj z ?_ oq) (hS0.put z oq (Nat.le_add_right a j))
  show H1[a + j]? = some (vp_cell _ _)
  rw [e]
  show some ((vp_cell _ _).setSlot _ _) = _
  rw [vp_cell_i, vp_cell_i, arrV_store]
  congr 2
  funext q
  by_cases hq : q = i.toNatClampNeg
  · subst hq
    simp [updV, upd]
  · simp [updV, upd, hq]
/-- a place of a row of references of the block: an object of the block -/
theorem k_aast (S : CallFix p m c cc nL s args lw_G own) (hK : va_K (gD G) vwCl (tysG G) s) (hB : Blk G a es H) {j n k v ci : Nat} {cA : ClassId} {q : vw_C} {fs : List Value} {f : Nat → Option Nat} (hj : es[j]? = some (.inl (cA, n, .inr (.inr (.inr (.inr f)))))) (hv : es[v]? = some (.inr (ci, fs))) (hq : vwCl[ci]? = some q) (hra : va_RA s cA (.object q.1)) (hS0 : va_S (fun q => a ≤ q) s.heap H locs) {i : Int32} (hi : i.toNatClampNeg = k ∧ ¬ i < 0) (hk : k < n) (hdg : decode cc pc = .ok (.aastore, 1))
    (kk : ∀ (H1 : Heap) (locs1 : List Loc), Blk G a (es.set j (.inl (cA, n, .inr (.inr (.inr (.inr (va_up f k (some (a + v)))))))) ) H1 → va_S (fun q => a ≤ q) s.heap H1 locs1 → W p l e R s m args below meth c H1 locs1 cells slots Q (F0 m (pc + 1) ls rest)) : W p l e R s m args below meth c H locs cells slots Q (F0 m pc ls (.ref (a + v) :: .int i :: .ref (a + j) :: rest)) := by
  have hc : H[a + j]? = some (vp_cell cA (n, .inr (.inr (.inr (.inr f))))) := hB.2 j _ hj
  obtain ⟨hi1, hi0⟩ := hi
  subst hi1
  obtain ⟨r', hr', cellV, g1, g2, g3, -⟩ := hB.2 v _ hv
  have hrq : r' = q := Option.some.inj (hr'.symm.trans hq)
  subst hrq
  have hcls := (hK.1 ci _ hq).2
  obtain ⟨kA, comp, k1, k2, k3, -⟩ := hra
  have hcomp : comp = (gD G).1 ci := Option.some.inj (k3.symm.trans hcls.1)
  subst hcomp
  obtain ⟨kC, hkC, -⟩ := hcls.2
  refine W.aast S.1 S.2.1 hc (fun q h => by cases h) (fun h => by cases h) k1 k2 rfl hkC ⟨hi0, by show _ < (arrV _ _ _).slots.size; rw [arrV_size]; exact hk⟩ g1 (fun q h => by rw [g3] at h; cases h) (by rw [g2]; exact hkC) (by rw [g2]; exact va_assign hcls) rfl rfl hdg fun H1 e z oq => ?_
  refine kk H1 _ (hB.upd hj z ?_ oq) (hS0.put z oq (Nat.le_add_right a j))
  show H1[a + j]? = some (vp_cell _ _)
  rw [e]
  show some ((vp_cell _ _).setSlot _ _) = _
  rw [vp_cell_q, vp_cell_q, arrV_store]
  congr 2
  funext q
  by_cases hq : q = i.toNatClampNeg
  · subst hq
    simp [updV, va_up, va_rf]
  · simp [updV, va_up, hq]
/-- behind a constructor's call -/
theorem k_back {nb mc ms : Nat} {e0 : va_E} {es' : List va_E} {aa : Array Value} {st0 : List Value} (hr : va_Run p l e R s m args below meth c H locs cells slots mc ms (F0 m pc ls st0) rest (va_Qv (S := Unit) (fun _ => True) (fun _ t => KC G t ∧ Blk G (a + nb) es' t.heap) (fun q => a + nb ≤ q) aa) (fun q => a + nb ≤ q)) (hS : va_S (fun q => a ≤ q) s.heap H locs) (hB : Blk G a (es ++ [e0]) H) (hn : es.length = nb)
    (kk : ∀ (H1 : Heap) (locs1 : List Loc), Blk G a (es ++ es') H1 → va_S (fun q => a ≤ q) s.heap H1 locs1 → W p l e R s m args below meth c H1 locs1 (cells + mc) (slots + ms) Q (F0 m (pc + 3) ls rest)) : W p l e R s m args below meth c H locs cells slots Q (F0 m pc ls st0) :=
  va_callv hr hS (fun q _ h => Nat.le_trans (Nat.le_add_right a nb) h) (fun q h => Nat.le_trans (Nat.le_add_right a nb) h) (fun u t H1 locs1 ht _ _ hB1 _ hk hS1 => kk H1 locs1 (hB.join hn (by rw [← ht]; exact hB1.2) (fun q hq hq2 => hk q hq (Nat.not_le.mpr hq2))) hS1)
theorem k_ctor {y : MethodName} {bytes : ByteArray} {maxL n idx nb : Nat} {rm : Room} {As : List Value} {Zh : Heap → Prop} {e0 : va_E} {es' : List va_E} {st0 : List Value}
    (S : CallFix p m c cc nL s args lw_G own) (hKC : KC G s) (hO : Old G H) (hba : bs G ≤ a) (hS : va_S (fun q => a ≤ q) s.heap H locs) (hB : Blk G a (es ++ [e0]) H) (hnb : es.length = nb) (hM : MQk l y bytes maxL rm (.ref (a + nb) :: As) Zh G (a + nb) e0 es') (hz : Zh H) (h1 : Cond.methodLink own idx y ∈ lw_G) (h2 : Cond.instanceMethod y ∈ lw_G) (h3 : Cond.initialized y.cls ∈ lw_G) (h4 : Cond.code y bytes maxL none ∈ lw_G)
    (hd : y.cls ≠ "java/lang/invoke/MethodHandle" ∧ y.cls ≠ "java/lang/invoke/VarHandle" ∧ (parseMethodDescriptor y.desc).map (fun d => d.parameters.length) = some n) (hyi : y.name = "<init>")
    (hn : As.length = n) (hsize : ls.size = nL) (hstack : st0 = As.reverse ++ .ref (a + nb) :: rest) (hR : rm.frames + 1 ≤ R.frames ∧ 8 + (maxL + 11) + rm.locals ≤ R.locals) (hw : (rest.map fun v => v.category).sum ≤ 8) (hf : cells + rm.cells ≤ R.cells ∧ slots + rm.slots ≤ R.slots) (hdg : decode cc pc = .ok (.invokespecial idx, 3))
    (kk : ∀ (H1 : Heap) (locs1 : List Loc), Blk G a (es ++ es') H1 → va_S (fun q => a ≤ q) s.heap H1 locs1 → W p l e R s m args below meth c H1 locs1 (cells + rm.cells) (slots + rm.slots) Q (F0 m (pc + 3) ls rest)) : W p l e R s m args below meth c H locs cells slots Q (F0 m pc ls st0) := by
  have hts := S.2.2.2.2
  have hbl := hB.last hnb
  exact k_back (va_runI S hM (cwI n hts (m_good h4) rfl rfl rfl (hts _ h3) (hts _ h1) (hts _ h2) hyi hd hR) ⟨k_blind, fun U hU hWm => ⟨rfl, ⟨hKC.warm hWm, by rw [hU]; exact hO, by omega⟩, by rw [hU]; exact hbl, by rw [hU]; exact hz⟩⟩ rfl hn hsize hstack (lv_room hw) hdg hf) hS hB hnb kk
theorem k_ctorN {host : String} {y : MethodName} {bytes : ByteArray} {maxL n idx nb : Nat} {rm : Room} {As : List Value} {Zh : Heap → Prop} {e0 : va_E} {es' : List va_E} {st0 : List Value}
    (S : CallFix p m c cc nL s args lw_G own) (hKC : KC G s) (hO : Old G H) (hba : bs G ≤ a) (hS : va_S (fun q => a ≤ q) s.heap H locs) (hB : Blk G a (es ++ [e0]) H) (hnb : es.length = nb) (hM : MQk l y bytes maxL rm (.ref (a + nb) :: As) Zh G (a + nb) e0 es') (hz : Zh H) (h1 : Cond.methodLinkNest own idx y host ∈ lw_tbl) (h2 : Cond.instanceMethod y ∈ lw_G) (h3 : Cond.initialized y.cls ∈ lw_G) (h4 : Cond.code y bytes maxL none ∈ lw_G)
    (hd : y.cls ≠ "java/lang/invoke/MethodHandle" ∧ y.cls ≠ "java/lang/invoke/VarHandle" ∧ (parseMethodDescriptor y.desc).map (fun d => d.parameters.length) = some n) (hyi : y.name = "<init>")
    (hn : As.length = n) (hsize : ls.size = nL) (hstack : st0 = As.reverse ++ .ref (a + nb) :: rest) (hR : rm.frames + 1 ≤ R.frames ∧ 8 + (maxL + 11) + rm.locals ≤ R.locals) (hw : (rest.map fun v => v.category).sum ≤ 8) (hf : cells + rm.cells ≤ R.cells ∧ slots + rm.slots ≤ R.slots) (hdg : decode cc pc = .ok (.invokespecial idx, 3))
    (kk : ∀ (H1 : Heap) (locs1 : List Loc), Blk G a (es ++ es') H1 → va_S (fun q => a ≤ q) s.heap H1 locs1 → W p l e R s m args below meth c H1 locs1 (cells + rm.cells) (slots + rm.slots) Q (F0 m (pc + 3) ls rest)) : W p l e R s m args below meth c H locs cells slots Q (F0 m pc ls st0) := by
  have hts := S.2.2.2.2
  have hbl := hB.last hnb
  exact k_back (va_runIN S hM ⟨va_cnB n hts (m_good h4) rfl rfl rfl (hKC.1.2.2.2.2.2.2.1 _ _ _ _ h1) (hts _ h3) hd hR, hyi, hts _ h2⟩ ⟨k_blind, fun U hU hWm => ⟨rfl, ⟨hKC.warm hWm, by rw [hU]; exact hO, by omega⟩, by rw [hU]; exact hbl, by rw [hU]; exact hz⟩⟩ rfl hn hsize hstack (lv_room hw) hdg hf) hS hB hnb kk
end KR
