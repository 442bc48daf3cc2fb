/-! NEW CELLS: what is made beside the world -/
/-- a place that is not of the world -/
def lone (G : Gn) (M : Mem) (q : Nat) : Prop := bs G ≤ q ∧ (∀ c i, i < cntK c → ad G c i ≠ q) ∧ ∀ a, a < M.2.2 2 0 0 → M.2.2 0 0 a ≠ q ∧ M.2.2 0 1 a ≠ q
theorem WPm.lone {G : Gn} {M : Mem} {H H1 : Heap} {q : Nat} (h : WPm G M H) (hq : lone G M q) (oq : ∀ a, a ≠ q → H1[a]? = H[a]?) : WPm G M H1 := by
  obtain ⟨h1, h2, h3, h4, h5⟩ := h
  refine ⟨fun c i hi => ⟨(h1 c i hi).1, (h1 c i hi).2.kept (oq _ (hq.2.1 c i hi))⟩, h2, fun a ha => ?_, fun z hz => (oq z (by have := hq.1; omega)).trans (h4 z hz), h5⟩
  obtain ⟨b1, b2, b3, b4⟩ := h3 a ha
  exact ⟨b1, b2.kept (oq _ (hq.2.2 a ha).1), b3.kept (oq _ (hq.2.2 a ha).2), b4⟩
theorem lone_new {G : Gn} {M : Mem} {H : Heap} (h : WPm G M H) (hbs : bs G ≤ H.size) : lone G M H.size :=
  ⟨hbs, fun c i hi e => by have := ((h.1 c i hi).2).lt; omega, fun a ha => ⟨fun e => by have := ((h.2.2.1 a ha).2.1).lt; omega, fun e => by have := ((h.2.2.1 a ha).2.2.1).lt; omega⟩⟩
theorem oq_push {H H1 : Heap} (z1 : H1.size = H.size + 1) (o1 : ∀ q, q < H.size → H1[q]? = H[q]?) : ∀ q, q ≠ H.size → H1[q]? = H[q]? := fun q hq => by
  rcases Nat.lt_or_ge q H.size with z | z
  · exact o1 q z
  · rw [Array.getElem?_eq_none (by omega), Array.getElem?_eq_none (by omega)]
section NC
variable {p : Program} {l : Launch} {e : Env} {R : Room} {s : State} {m : MethodId} {args : Array Value} {below : List Frame} {meth : Method} {c : Code} {H : Heap} {locs : List Loc} {cells slots : Nat} {Q : State → Prop}
variable {cc : ByteArray} {pc : Nat} {ls : Array Slot} {rest : List Value} {G : Gn} {M : Mem} {own : String} {nL : Nat}
/-- a new object -/
theorem m_new (S : CallFix p m c cc nL s args lw_G own) (hK : va_K (gD G) vwCl (tysG G) s) {ci N idx : Nat} {C : String} {T : u_T} (hc : vwCl[ci]? = some (C, T, N)) (hin : ∀ w ∈ u_ws C T N, w ∈ lw_G) (ty : Nat → FieldType) (hty : ∀ k, k < N → parseFieldDescriptor (T k).2.2.1 = some (ty k))
    (hcl : Cond.classLink own idx C ∈ lw_G) (hinst : Cond.instantiable C N ∈ lw_G) (hini : Cond.initialized C ∈ lw_G) (hS0 : va_S (fun q => bs G ≤ q) s.heap H locs) {fs : List Value} (hfs : ∀ j, j < N → defaultValue (ty j) = vp_V fs j) (hcells : cells + 1 ≤ R.cells) (hslots : slots + N ≤ R.slots) (hdg : decode cc pc = .ok (.new idx, 3))
    (kk : ∀ H1 : Heap, H1.size = H.size + 1 → va_at (gD G) vwCl (H.size, .inr (ci, fs)) H1 → (∀ q, q ≠ H.size → H1[q]? = H[q]?) → va_S (fun q => bs G ≤ q) s.heap H1 locs → W p l e R s m args below meth c H1 locs (cells + 1) (slots + N) Q (F0 m (pc + 3) ls (.ref H.size :: rest))) : W p l e R s m args below meth c H locs cells slots Q (F0 m pc ls rest) := by
  obtain ⟨hx, hb, hml, hown, hts⟩ := S
  have hKn := hK.1 ci _ hc
  refine W.newcK hx hb hown (hts _ hcl) (hts _ hinst) (hts _ hini) rfl hdg hcells hslots hKn.2.1 rfl fun H1 kC hkC e1 z1 o1 => ?_
  exact kk H1 z1 ⟨_, hc, (u_born ty hts hin hKn hkC e1 hty).to hfs⟩ (oq_push z1 o1) ⟨Nat.le_trans hS0.1 (by omega), fun x h1 h2 => (o1 x (Nat.lt_of_lt_of_le h1 hS0.1)).trans (hS0.2.1 x h1 h2), hS0.2.2⟩
/-- a new row of ints -/
theorem m_newi (S : CallFix p m c cc nL s args lw_G own) (hK : va_K (gD G) vwCl (tysG G) s) (hS0 : va_S (fun q => bs G ≤ q) s.heap H locs) {n : Int32} {N : Nat} (hn : ¬ n < 0) (hN : n.toNatClampNeg = N) (hN2 : N ≤ 1280) (hcells : cells + 1 ≤ R.cells) (hslots : slots + N ≤ R.slots) (harr : Cond.arrayClass .int ∈ lw_G) (hdg : decode cc pc = .ok (.newarray .int, 2))
    (kk : ∀ H1 : Heap, H1.size = H.size + 1 → va_at (gD G) vwCl (H.size, .inl (gI G, N, .inl (fun _ => 0))) H1 → (∀ q, q ≠ H.size → H1[q]? = H[q]?) → va_S (fun q => bs G ≤ q) s.heap H1 locs → W p l e R s m args below meth c H1 locs (cells + 1) (slots + N) Q (F0 m (pc + 2) ls (.ref H.size :: rest))) : W p l e R s m args below meth c H locs cells slots Q (F0 m pc ls (.int n :: rest)) := by
  obtain ⟨hx, hb, hml, hown, hts⟩ := S
  refine va_newaK (atype := .int) hx hb (hts _ harr) rfl hdg rfl hn hN (by show N * 4 ≤ _; omega) hcells hslots rfl fun H1 cA e1 z1 o1 hAr hNm => ?_
  have ec : cA = gI G := by
    have h2 : s.vm.findClass ("[" ++ FieldType.int.toString) = some (gI G) := (hK.2 0 _ rfl).2
    exact Option.some.inj (hNm.symm.trans h2)
  subst ec
  exact kk H1 z1 e1 (oq_push z1 o1) ⟨Nat.le_trans hS0.1 (by omega), fun x h1 h2 => (o1 x (Nat.lt_of_lt_of_le h1 hS0.1)).trans (hS0.2.1 x h1 h2), hS0.2.2⟩
/-- a final field of a new object, in its constructor -/
theorem m_putF (S : CallFix p m c cc nL s args lw_G own) (hK : va_K (gD G) vwCl (tysG G) s) {idx ci k : Nat} {C : String} {T : u_T} {N : Nat} (hF : FLK own idx ci k C T N) {ty0 : Nat → FieldType} (hty : ∀ k, k < N → parseFieldDescriptor (T k).2.2.1 = some (ty0 k)) (hnm : ∀ a, a < N → ∀ b, b < N → a ≠ b → (T a).2.1 ≠ (T b).2.1) (hfin : (T k).2.2.2 = true) (hin2 : meth.name = "<init>") (hdecl : (T k).1 = own) {ty : FieldType} {v : Value} (hd : parseFieldDescriptor (T k).2.2.1 = some ty) (hn : narrow ty v = v) (hfit : fits ty v = true)
    {a : Nat} {fs : List Value} (hl : k < fs.length) (hat : va_at (gD G) vwCl (a, .inr (ci, fs)) H) (hS0 : va_S (fun q => bs G ≤ q) s.heap H locs) (hba : bs G ≤ a) (hdg : decode cc pc = .ok (.putfield idx, 3))
    (kk : ∀ (H1 : Heap) (locs1 : List Loc), va_at (gD G) vwCl (a, .inr (ci, fs.set k v)) H1 → H1.size = H.size → (∀ q, q ≠ a → H1[q]? = H[q]?) → va_S (fun q => bs G ≤ q) s.heap H1 locs1 → W p l e R s m args below meth c H1 locs1 cells slots Q (F0 m (pc + 3) ls rest)) : W p l e R s m args below meth c H locs cells slots Q (F0 m pc ls (v :: .ref a :: rest)) := by
  obtain ⟨hx, hb, hml, hown, hts⟩ := S
  obtain ⟨hc, hk, hlk, hin⟩ := hF
  have hlink := hts _ hlk
  have hap := va_apart (own := own) hts hin ty0 hty hnm hK hc
  obtain ⟨r, h1, cell, q1, q2, q3, q4⟩ := hat
  have hr : r = (C, T, N) := Option.some.inj (h1.symm.trans hc)
  subst hr
  obtain ⟨hS, hfc, kC, hkC, hkind⟩ := hK.1 ci _ hc
  obtain ⟨cf, kf, fi, f, hi, hsl⟩ := hS k hk
  have hlay := hts _ (hin _ (u_in_lay hk))
  unfold u_lay at hlay
  rw [if_pos hfin] at hlay
  have hst := (u_facts hfc hkC (u_lays hts hin hk) hi).1
  have hcf : m.cls = cf := by
    obtain ⟨_, _, c', _, _, _, -, -, hf', -, -, -, hown2, -⟩ := Cond.laysFinal_spec hlay
    have e1 : c' = cf := by have := hi.symm.trans hf'; simp at this; exact this.1.symm
    rw [hdecl] at hown2
    rw [← e1]; exact Option.some.inj (hown.symm.trans hown2)
  have h6 := u_fits hfc hkC hkind (Or.inr hlay) hi hd hn hfit
  refine W.putFinK hx hb hown hlink hi hst hcf hin2 (by rw [q2]; exact h6) q1 q3 (by rw [hsl]; exact k2_hasslot (q4 k hk)) rfl rfl hdg fun H' e1 e2 e3 => ?_
  rw [hsl] at e1 ⊢
  exact kk H' _ ⟨_, hc, t_OB.to (V := updV (vp_V fs) k v) ⟨_, e1, q2, q3, t_set q4 hap hk v⟩ (fun j _ => vp_updV_set hl v j)⟩ e2 e3 (hS0.put e2 e3 hba)
/-- a copy out of the world into a new row -/
theorem m_acopyN (S : CallFix p m c cc nL s args lw_G own) (hK : va_K (gD G) vwCl (tysG G) s) (hml : c.maxLocals = nL) (hsz : ls.size = nL) {k0 i0 n0 n1 d : Nat} {f1 : Nat → Int32} (hE0 : AI G k0 n0) (hW : WPm G M H) (hS : va_S (fun q => bs G ≤ q) s.heap H locs) (hi0 : i0 < cntK k0) (hd : bs G ≤ d) (hc1 : va_at (gD G) vwCl (d, .inl (gI G, n1, .inl f1)) H) {index : Nat} (hlink : (Cond.methodLink own index arraycopyName).before args s = true) (hnat : (Cond.native arraycopyName).before args s = true) (hstat : (Cond.static arraycopyName).before args s = true) (hini : (Cond.initialized "java/lang/System").before args s = true) {sp dp n : Int32} (hc : cpyOK sp dp n n0 n1)
    (hframes : 1 ≤ R.frames) (hlocals : (rest.map fun v => v.category).sum + (nativeFrameWords "java/lang/System" "arraycopy" 5 + 11) ≤ R.locals) (hdg : decode cc pc = .ok (.invokestatic index, 3))
    (kk : ∀ (H1 : Heap) (locs1 : List Loc), va_at (gD G) vwCl (d, .inl (gI G, n1, .inl (va_cpy (M.1 k0 i0) f1 sp.toNatClampNeg dp.toNatClampNeg n.toNatClampNeg))) H1 → H1.size = H.size → (∀ q, q ≠ d → H1[q]? = H[q]?) → va_S (fun q => bs G ≤ q) s.heap H1 locs1 → W p l e R s m args below meth c H1 locs1 cells slots Q (F0 m (pc + 3) ls rest)) : W p l e R s m args below meth c H locs cells slots Q (F0 m pc ls (.int n :: .int dp :: .ref d :: .int sp :: .ref (ad G k0 i0) :: rest)) := by
  have nn : ∀ z : Int32, ¬ z < 0 → z.toInt = (z.toNatClampNeg : Int) := by
    intro z hz
    have hz0 : (0 : Int) ≤ z.toInt := by
      have := Int32.not_lt.mp hz
      simpa using Int32.le_iff_toInt_le.mp this
    show z.toInt = ((z.toInt.toNat : Nat) : Int)
    omega
  obtain ⟨h1, h2, h3, h4, h5⟩ := hc
  intro T hT X
  have hc0 : H[ad G k0 i0]? = some (vp_cell (gI G) (n0, .inl (M.1 k0 i0))) := m_cell hW hi0 (hE0 _ _ _ _)
  have hc1 : H[d]? = some (vp_cell (gI G) (n1, .inl f1)) := hc1
  obtain ⟨-, q0, hk0, cm0, hkk0⟩ := m_kI hK n0 (fun j => .int (M.1 k0 i0 j))
  obtain ⟨-, q1, hk1, cm1, hkk1⟩ := m_kI hK n1 (fun j => .int (f1 j))
  obtain ⟨vm', X', step⟩ := X.arraycopy S.1 S.2.2.2.1 hlink hnat hstat hini (src := ad G k0 i0) (dst := d) (cs := vp_cell (gI G) (n0, .inl (M.1 k0 i0))) (cd := vp_cell (gI G) (n1, .inl f1)) (srcPos := sp) (destPos := dp) (n := n) (by rw [hT]; exact hc0) (by rw [hT]; exact hc1)
    (fun _ h => by cases h) (fun _ h => by cases h) (fun h => by cases h) (fun h => by cases h) hk0 hk1 hkk0 hkk1 (by simp [refKind]) h1 h2 h3
    (by rw [nn sp h1, nn n h3]; show ¬ _ > ((arrV (gI G) n0 (fun j => .int (M.1 k0 i0 j))).slots.size : Int); rw [arrV_size]; omega)
    (by rw [nn dp h2, nn n h3]; show ¬ _ > ((arrV (gI G) n1 (fun j => .int (f1 j))).slots.size : Int); rw [arrV_size]; omega)
    (fun vm₁ _ i hi => by
      have e : (vp_cell (gI G) (n0, .inl (M.1 k0 i0))).slots.getD (sp.toNatClampNeg + i) .null = .int (M.1 k0 i0 (sp.toNatClampNeg + i)) := by
        show (arrV (gI G) n0 (fun j => .int (M.1 k0 i0 j))).slots.getD _ _ = _
        rw [Array.getD_eq_getD_getElem?, arrV_read _ _ (by omega)]
        rfl
      refine ⟨?_, ?_⟩
      · rw [e]
        rfl
      · rw [e]
        exact trivial)
    (g := F0 m pc ls (.int n :: .int dp :: .ref d :: .int sp :: .ref (ad G k0 i0) :: rest)) rfl (by rw [hml]; exact hsz) (rest := rest) rfl (by rw [S.2.1]; exact hdg) hframes (by show 2 * 0 + _ + _ ≤ _; omega)
  have e1 : copied (vp_cell (gI G) (n0, .inl (M.1 k0 i0))) (vp_cell (gI G) (n1, .inl f1)) sp dp n = vp_cell (gI G) (n1, .inl (va_cpy (M.1 k0 i0) f1 sp.toNatClampNeg dp.toNatClampNeg n.toNatClampNeg)) := va_copied (fun z => .int z) (gI G) (gI G) (M.1 k0 i0) f1 h4
  rw [e1] at X' step
  have hl : d < H.size := (Array.getElem?_eq_some_iff.mp hc1).1
  have hheap : ((T.setVm vm').setCell d (vp_cell (gI G) (n1, .inl (va_cpy (M.1 k0 i0) f1 sp.toNatClampNeg dp.toNatClampNeg n.toNatClampNeg)))).heap = H.setIfInBounds d (vp_cell (gI G) (n1, .inl (va_cpy (M.1 k0 i0) f1 sp.toNatClampNeg dp.toNatClampNeg n.toNatClampNeg))) := by rw [← hT]; rfl
  have oq : ∀ q : Nat, q ≠ d → (H.setIfInBounds d (vp_cell (gI G) (n1, .inl (va_cpy (M.1 k0 i0) f1 sp.toNatClampNeg dp.toNatClampNeg n.toNatClampNeg))))[q]? = H[q]? := fun q hq => by simp [Array.getElem?_setIfInBounds, Ne.symm hq]
  obtain ⟨t, a1, b1⟩ := kk _ _ (by show (H.setIfInBounds d _)[d]? = some _; simp [Array.getElem?_setIfInBounds, hl]) (by simp) oq ⟨by simp; exact hS.1, fun q g1 g2 => by
      rw [oq q (fun e => g2 (by rw [e]; exact hd))]
      exact hS.2.1 q g1 g2, fun q hq => by
      rcases List.mem_append.mp hq with h | h
      · exact hS.2.2 q h
      · obtain ⟨z, -, hz⟩ := List.mem_map.mp h
        rw [← hz]
        exact hd⟩ _ hheap X'
  exact ⟨t, step t a1, b1⟩
end NC
