/-! methods that throw, and methods that catch -/
abbrev xN : String := "java/util/NoSuchElementException"
abbrev xI : String := "java/lang/IllegalArgumentException"
abbrev xNm : List String := ["java/lang/RuntimeException", "java/lang/Exception"]
def xwL : List Cond := [.declares (Bundle.initS "java/lang/RuntimeException"), .declares (Bundle.initS "java/lang/Exception"), .declares (Bundle.initS "java/lang/Throwable"), .castable xN xN, .castable xI xI]
/-- the words of a throw that are no good words, and which class is none of which -/
def px_w (U : State) : Prop := (∀ w ∈ xwL, va_Nw w U) ∧ va_Nc xI xN U
theorem xw_on : ∀ w ∈ xwL, w.onTables = true := by
  intro w hw
  simp only [xwL, List.mem_cons, List.not_mem_nil, or_false] at hw
  rcases hw with rfl | rfl | rfl | rfl | rfl <;> rfl
theorem px_w.warm {s U : State} (hW : s.WarmedH U.vm) (h : px_w s) : px_w U := by
  refine ⟨fun w hw => ?_, h.2.moved hW.alike⟩
  have hw2 := h.1 w hw
  simp only [xwL, List.mem_cons, List.not_mem_nil, or_false] at hw
  rcases hw with rfl | rfl | rfl | rfl | rfl
  · exact va_Nw.warmD hW hw2
  · exact va_Nw.warmD hW hw2
  · exact va_Nw.warmD hW hw2
  · exact va_Nw.warmC hW hw2
  · exact va_Nw.warmC hW hw2
theorem px_w.same {u U : State} (hv : u.vm = U.vm) (h : px_w u) : px_w U := ⟨fun w hw => va_Nw.same (xw_on w hw) hv (h.1 w hw), h.2.moved (by rw [hv]; exact Vm.Alike.refl _)⟩
def px_z (A : Nat → Prop) (U : State) (H : Heap) : Prop := vx_Zq Bundle.tN "UNASSIGNED_STACK" Bundle.steD A U H ∧ vx_Zq Bundle.tN "SUPPRESSED_SENTINEL" Bundle.listD A U H
theorem px_z.kept {A : Nat → Prop} {U : State} {H H1 : Heap} (h : px_z A U H) (hq : ∀ a : Nat, a < H.size → ¬ A a → H1[a]? = H[a]?) : px_z A U H1 := ⟨h.1.kept hq, h.2.kept hq⟩
theorem px_z.moved {A : Nat → Prop} {u U : State} {H : Heap} (hvm : u.vm.Alike U.vm) (h : px_z A u H) : px_z A U H := ⟨h.1.moved hvm, h.2.moved hvm⟩
theorem px_z.narrow {A B : Nat → Prop} {U : State} {H : Heap} (h : px_z A U H) (hAB : ∀ q, B q → A q) : px_z B U H := ⟨h.1.narrow hAB, h.2.narrow hAB⟩
def px_P (G : px_D) (As : List Value) (h : pe_H) (sz : Nat) : Array Value → State → Prop := fun v U => pm_Pc G As h sz v U ∧ px_w U ∧ px_z (pm_A h sz) U U.heap
theorem px_blind {G : px_D} {As : List Value} {h : pe_H} {sz : Nat} : FrameBlind (px_P G As h sz) := fun a U g mk q => ⟨pm_blind a U g mk q.1, px_w.same (u := U) (U := U.calling g mk a) rfl q.2.1, px_z.moved (u := U) (U := U.calling g mk a) (Vm.Alike.refl U.vm) q.2.2⟩
def pm_XC (G : px_D) (h : pe_H) (sz : Nat) (px : String → pe_H → Nat → Prop) : String → State → State → Prop := fun E st t => (∃ h1 : pe_H, px E h1 t.heap.size ∧ pe_W G.1 h1 t.heap ∧ ∀ a, h1 a ≠ none → pm_A h sz a) ∧ va_F (pm_A h sz) st t
/-- the method y returns as post says, or throws as px says -/
def pmx (l : Launch) (G : px_D) (d : Nat) (y : MethodName) (cc : ByteArray) (maxL : Nat) (ret : Option FieldType) (As : List Value) (h : pe_H) (sz mc ms : Nat) (post : Option Value → pe_H → Nat → Prop) (px : String → pe_H → Nat → Prop) : Prop := vx_Met l y (.code y cc maxL ret :: lw_g) (pm_rm d mc ms) (px_P G As h sz) (pm_Qc G h sz post) (pm_XC G h sz px) mc ms (pm_A h sz)
/-- the method y, with a table, returns as post says -/
def pmw (l : Launch) (G : px_D) (d : Nat) (y : MethodName) (cc : ByteArray) (maxL : Nat) (ret : Option FieldType) (hh : List (Nat × Nat × Nat × Nat)) (As : List Value) (h : pe_H) (sz mc ms : Nat) (post : Option Value → pe_H → Nat → Prop) : Prop := Met l y (.codeWith y cc maxL ret hh :: lw_g) (pm_rm d mc ms) (px_P G As h sz) (pm_Qc G h sz post) mc ms (pm_A h sz)
def pmx_E (X : px_X) (G : px_D) (h : pe_H) (sz mc ms : Nat) (post : Option Value → pe_H → Nat → Prop) (px : String → pe_H → Nat → Prop) : State → Prop := vx_MQ X.2.2.2.2.2.2.2.1 (pm_Qc G h sz post) (pm_XC G h sz px) X.2.2.2.2.2.2.1 X.2.2.2.2.1 mc ms (pm_A h sz)
theorem pl_entry {As : List Value} {maxL : Nat} {c : Code} (hml : c.maxLocals = maxL) (hsl : (lg_sl As).length ≤ maxL) (L : List (Option Value)) (hL : pl_arg As ++ List.replicate (maxL - (pl_arg As).length) none = L) : pl_has (lg_sl As ++ List.replicate (maxL - (lg_sl As).length) Slot.unset).toArray c.maxLocals L := by
  have hl := lv_entry As (n := maxL) hsl
  refine ⟨hl.1.trans hml.symm, hl.2.1, fun i v hv => ?_⟩
  refine hl.2.2 (i, v) ?_
  rw [← hL] at hv
  have hi : i < (pl_arg As).length := by
    by_cases hi : i < (pl_arg As).length
    · exact hi
    · rw [List.getElem?_append_right (by omega)] at hv
      have := List.mem_of_getElem? hv
      have := List.eq_of_mem_replicate this
      cases this
  rw [List.getElem?_append_left hi] at hv
  have := pl_arg_mem As 0 i v hv
  simpa using this
theorem pmx_of {l : Launch} {G : px_D} {d : Nat} {y : MethodName} {cc : ByteArray} {maxL : Nat} {ret : Option FieldType} {As : List Value} {h : pe_H} {sz mc ms : Nat} {post : Option Value → pe_H → Nat → Prop} {px : String → pe_H → Nat → Prop} (hy : plainName y.cls = true) (hsl : (lg_sl As).length ≤ maxL) (L : List (Option Value)) (hL : pl_arg As ++ List.replicate (maxL - (pl_arg As).length) none = L)
    (body : ∀ X : px_X, px_M l X G h sz y cc maxL ret d mc ms → (∀ x ∈ X.2.2.2.2.2.2.2.2.2.exceptionTable.toList, False) → px_w X.2.2.2.2.1 → px_z (pm_A h sz) X.2.2.2.2.1 X.2.2.2.2.1.heap → pw X G (pm_A h sz) (pmx_E X G h sz mc ms post px) 0 L [] h sz 0 0) : pmx l G d y cc maxL ret As h sz mc ms post px := by
  refine vx_ofW (cc := cc) (maxL := maxL) (ret := ret) hy rfl ?_
  intro p e s m args below meth c s₁ B hml ht hv
  obtain ⟨⟨rfl, hsz, hP, hK, hR⟩, hw, hz⟩ := hv
  have hts := atoms_spec (ws := .code y cc maxL ret :: lw_g) B.pre
  have hC : px_C (p, l, e, (headSpec (.code y cc maxL ret :: lw_g) (pm_rm d mc ms)).room, s, m, As.toArray, below, meth, c) G (pm_A h sz) cc y.cls maxL :=
    ⟨B.exec, B.bytes, findClass_of_methodNamed B.named, fun w hw => hts w (List.mem_cons_of_mem _ hw), hK, fun q hq => Or.inr (by rw [← hsz]; exact hq), hR, B.notSynchronized, hml⟩
  have hb := body _ ⟨hC, rfl, rfl, B.returns, (name_of_methodNamed B.named B.method).1⟩ ht hw hz
  rw [lg_entry_eq]
  exact hb s.heap [] _ hsz hP (fun a ha => Or.inl ha) va_S.rf (pl_entry hml hsl L hL)
theorem pmw_of {l : Launch} {G : px_D} {d : Nat} {y : MethodName} {cc : ByteArray} {maxL : Nat} {ret : Option FieldType} {hh : List (Nat × Nat × Nat × Nat)} {As : List Value} {h : pe_H} {sz mc ms : Nat} {post : Option Value → pe_H → Nat → Prop} (hy : plainName y.cls = true) (hsl : (lg_sl As).length ≤ maxL) (L : List (Option Value)) (hL : pl_arg As ++ List.replicate (maxL - (pl_arg As).length) none = L)
    (body : ∀ X : px_X, px_M l X G h sz y cc maxL ret d mc ms → X.2.2.2.2.2.2.2.2.2.exceptionTable.toList = tableOf hh → px_w X.2.2.2.2.1 → px_z (pm_A h sz) X.2.2.2.2.1 X.2.2.2.2.1.heap → pw X G (pm_A h sz) (pm_E X G h sz mc ms post) 0 L [] h sz 0 0) : pmw l G d y cc maxL ret hh As h sz mc ms post := by
  refine va_MetW (cc := cc) (maxL := maxL) (ret := ret) (hh := hh) hy rfl ?_
  intro p e s m args below meth c s₁ B hml hv
  obtain ⟨⟨rfl, hsz, hP, hK, hR⟩, hw, hz⟩ := hv
  have hts := atoms_spec (ws := .codeWith y cc maxL ret hh :: lw_g) B.pre
  have ht := vx_table (x := y) B (hts _ List.mem_cons_self)
  have hC : px_C (p, l, e, (headSpec (.codeWith y cc maxL ret hh :: lw_g) (pm_rm d mc ms)).room, s, m, As.toArray, below, meth, c) G (pm_A h sz) cc y.cls maxL :=
    ⟨B.exec, B.bytes, findClass_of_methodNamed B.named, fun w hw => hts w (List.mem_cons_of_mem _ hw), hK, fun q hq => Or.inr (by rw [← hsz]; exact hq), hR, B.notSynchronized, hml⟩
  have hb := body _ ⟨hC, rfl, rfl, B.returns, (name_of_methodNamed B.named B.method).1⟩ ht hw hz
  rw [lg_entry_eq]
  exact hb s.heap [] _ hsz hP (fun a ha => Or.inl ha) va_S.rf (pl_entry hml hsl L hL)
section PXR
variable {X : px_X} {G : px_D} {A : Nat → Prop} {Q : State → Prop} {pc : Nat} {L : List (Option Value)} {st rest : List Value} {h h0 : pe_H} {sz sz0 nc ns mc ms d : Nat} {cc : ByteArray} {own : String} {nL : Nat} {l : Launch} {y : MethodName} {ret : Option FieldType} {post : Option Value → pe_H → Nat → Prop} {px : String → pe_H → Nat → Prop}
/-- an end that returns -/
theorem px_end (k : pw X G A (pm_E X G h0 sz0 mc ms post) pc L st h sz nc ns) : pw X G A (pmx_E X G h0 sz0 mc ms post px) pc L st h sz nc ns := fun H locs ls a1 a2 a3 a4 a5 => vx_ret (k H locs ls a1 a2 a3 a4 a5)
/-- an end that throws -/
theorem px_throw (hM : px_M l X G h0 sz0 y cc nL ret d mc ms) (ht : ∀ x ∈ X.2.2.2.2.2.2.2.2.2.exceptionTable.toList, False) (hw : px_w X.2.2.2.2.1) (hz : px_z (pm_A h0 sz0) X.2.2.2.2.1 X.2.2.2.2.1.heap) (hl : l.stackTraces = false) {text cls : String} {ik is ic sa : Nat}
    (hcls : Bundle.fit cls = true) (hk : Cond.classLink y.cls ik cls ∈ lw_g) (hini : Cond.initialized cls ∈ lw_g) (hR : (y.cls, is, text, sa) ∈ ro_R G.2.2)
    (hat1 : ∀ w ∈ (vx_atS y.cls ic cls xNm).filter goodWord, w ∈ lw_g) (hat2 : ∀ w ∈ (vx_atS y.cls ic cls xNm).filter (fun w => !goodWord w), w ∈ xwL) (hgood : ∀ w ∈ Cond.classLink y.cls ik cls :: Cond.initialized cls :: vx_atS y.cls ic cls xNm, vx_ot w = true)
    (d0 : decode cc pc = .ok (.new ik, 3)) (d3 : decode cc (pc + 3) = .ok (.dup, 1)) (d4 : decode cc (pc + 4) = .ok (.ldc_w is, 3)) (d7 : decode cc (pc + 7) = .ok (.invokespecial ic, 3)) (d10 : decode cc (pc + 10) = .ok (.athrow, 1))
    (hd : 6 ≤ d) (hmc : nc + 1 ≤ mc) (hms : ns + 6 ≤ ms) (hp : ∀ sz1, sz ≤ sz1 → px cls h sz1) : pw X G (pm_A h0 sz0) (pmx_E X G h0 sz0 mc ms post px) pc L [] h sz nc ns := by
  intro H locs ls a1 a2 a3 a4 a5
  obtain ⟨hC, hX, hRm, -, -⟩ := hM
  have hts := hC.2.2.2.1
  refine vx_throwSW (A := pm_A h0 sz0) (sa := sa) (text := text) (names := xNm) hC.1 hC.2.1 (by rw [hX]; exact hl) hC.2.2.1 hcls (by decide +kernel) (hts _ hk) (hts _ hini) (hC.2.2.2.2.2.2.1.2.2.2.2 _ hR) (vx_hat (B := xwL) (fun w hw => hts w (hat1 w hw)) hat2 (fun w hwl => va_Nw.use (xw_on w hwl) (hw.1 w hwl))) hgood hz.1 hz.2 a4 a5.1 d0 d3 d4 d7 d10 (fun x hx => absurd (ht x hx) id) ?_ ?_ ?_ ?_ hC.2.2.2.2.2.2.2.1 (fun t hal hle hpre => ?_) a4.2.2 hmc hms
  · rw [hRm]
    show 2 + 3 < d
    omega
  · rw [hRm]
    show 0 + (13 * (2 + 1) + 43) ≤ 40 * d
    omega
  · rw [hRm]
    exact hmc
  · rw [hRm]
    exact hms
  · refine ⟨⟨h, hp _ (by rw [← a1]; exact hle), fun a e ha => (a2 a e ha).kept (hpre a (a2 a e ha).lt), a3⟩, Nat.le_trans a4.1 hle, fun q hq hA => ?_⟩
    rw [hpre q (Nat.lt_of_lt_of_le hq a4.1)]
    exact a4.2.1 q hq hA
/-- the frame, with what was thrown over it -/
def pwx (X : px_X) (G : px_D) (A : Nat → Prop) (Q : State → Prop) (pc : Nat) (L : List (Option Value)) (rest : List Value) (h : pe_H) (sz nc ns : Nat) (E : String) : Prop :=
  ∀ (H : Heap) (locs : List Loc) (ls : Array Slot) (q : Addr) (ce : Cell), H.size = sz → pe_W G.1 h H → (∀ a, h a ≠ none → A a) → va_S A X.2.2.2.2.1.heap H locs → pl_has ls X.2.2.2.2.2.2.2.2.2.maxLocals L → H[q]? = some ce → ce.vm = .none → X.2.2.2.2.1.vm.findClass E = some ce.cls →
    vx_W X.1 X.2.1 X.2.2.1 X.2.2.2.1 X.2.2.2.2.1 X.2.2.2.2.2.1 X.2.2.2.2.2.2.1 X.2.2.2.2.2.2.2.1 X.2.2.2.2.2.2.2.2.1 X.2.2.2.2.2.2.2.2.2 H locs nc ns Q (F0 X.2.2.2.2.2.1 pc ls rest) q
theorem pwx_catch (hC : px_C X G A cc own nL) (hw : px_w X.2.2.2.2.1) {E name : String} (pre : List ExceptionTableEntry) (x : ExceptionTableEntry) (suf : List ExceptionTableEntry) (hsplit : X.2.2.2.2.2.2.2.2.2.exceptionTable.toList = pre ++ x :: suf)
    (hpass : ∀ z ∈ pre, covers z pc = false ∨ (z.catchType ≠ 0 ∧ ∃ nm : String, Cond.classLink own z.catchType nm ∈ lw_g ∧ va_Nc E nm X.2.2.2.2.1)) (hx : covers x pc = true) (h0 : x.catchType ≠ 0) (hlink : Cond.classLink own x.catchType name ∈ lw_g) (hcast : Cond.castable E name ∈ xwL)
    (kk : ∀ q : Addr, pw X G A Q x.handlerPc L [.ref q] h sz nc ns) : pwx X G A Q pc L rest h sz nc ns E := by
  intro H locs ls q ce a1 a2 a3 a4 a5 hce hv hcl
  have hts := hC.2.2.2.1
  exact vx_catch hC.2.2.1 pre x suf hsplit (fun z hz => (hpass z hz).elim Or.inl (fun r => Or.inr ⟨r.1, r.2.choose, hts _ r.2.choose_spec.1, r.2.choose_spec.2⟩)) hx h0 (hts _ hlink) (va_Nw.use (xw_on _ hcast) (hw.1 _ hcast)) hce hv hcl (kk q H locs ls a1 a2 a3 a4 a5)
theorem px_pre (hC : px_C X G A cc own nL) (hw : px_w X.2.2.2.2.1) (hz : px_z A X.2.2.2.2.1 X.2.2.2.2.1.heap) {H : Heap} {locs : List Loc} {As : List Value} (a1 : H.size = sz) (a2 : pe_W G.1 h H) (a3 : ∀ a, h a ≠ none → A a) (a4 : va_S A X.2.2.2.2.1.heap H locs) : ∀ U : State, U.heap = H → X.2.2.2.2.1.WarmedH U.vm → px_P G As h sz As.toArray U :=
  fun U hU hW => ⟨pm_pre hC a1 a2 a3 a4 U hU hW, hw.warm hW, by rw [hU]; exact ((hz.kept a4.2.1).narrow (pm_in hC a1 a3 a4)).moved hW.alike⟩
theorem pr_callVT (hC : px_C X G A cc own nL) (hw : px_w X.2.2.2.2.1) (hz : px_z A X.2.2.2.2.1 X.2.2.2.2.1.heap) {d0 mc0 ms0 : Nat} (hR : X.2.2.2.1 = pm_rm d0 mc0 ms0) {cc' : ByteArray} {maxL index n b ci N : Nat} {F : Nat → Value} {As : List Value}
    (hq : pc_V own index y cc' maxL ret n) (hd : decode cc pc = .ok (.invokevirtual index, 3)) (hM : pmx X.2.1 G d y cc' maxL ret (.ref b :: As) h sz mc ms post px) (hb : h b = some (po ci N F)) (hci : (vwCl[ci]?).map (fun q => q.1) = some y.cls)
    (hst : st = As.reverse ++ .ref b :: rest) (hn : As.length = n) (hW : (rest.map fun v => v.category).sum ≤ 8) (hd0 : d + 1 ≤ d0) (hmc : nc + mc ≤ mc0) (hms : ns + ms ≤ ms0)
    (kx : ∀ (E : String) (h1 : pe_H) (sz1 : Nat), px E h1 sz1 → pwx X G A Q pc L rest h1 sz1 (nc + mc) (ns + ms) E)
    (kk : ∀ (v : Option Value) (h1 : pe_H) (sz1 : Nat), post v h1 sz1 → pw X G A Q (pc + 3) L (v.toList ++ rest) h1 sz1 (nc + mc) (ns + ms)) : pw X G A Q pc L st h sz nc ns := by
  obtain ⟨⟨q1, q2, q3, q4, q5⟩, q6, q7⟩ := hq
  intro H locs ls a1 a2 a3 a4 a5 T hT Xs
  have hts := hC.2.2.2.1
  have hrecv : ∃ cellB : Cell, H[b]? = some cellB ∧ cellB.vm.isStatics = false ∧ X.2.2.2.2.1.vm.findClass y.cls = some cellB.cls := by
    obtain ⟨r, r1, cell, r2, r3, r4, -⟩ := a2 b _ hb
    have hk := (hC.2.2.2.2.1.1 ci r r1).2.1
    have hc : r.1 = y.cls := by
      rw [r1] at hci
      exact Option.some.inj hci
    exact ⟨cell, r2, by rw [r4]; rfl, by rw [r3, ← hc]; exact hk⟩
  have hr : vx_Run X.1 X.2.1 X.2.2.1 X.2.2.2.1 X.2.2.2.2.1 X.2.2.2.2.2.1 X.2.2.2.2.2.2.1 X.2.2.2.2.2.2.2.1 X.2.2.2.2.2.2.2.2.1 X.2.2.2.2.2.2.2.2.2 H locs nc ns mc ms (F0 X.2.2.2.2.2.1 pc ls st) rest (pm_Qc G h sz post (Value.ref b :: As).toArray) (pm_XC G h sz px) (pm_A h sz) :=
    vx_runV (As := As) (rest := rest) (own := own) (C := y.cls) (n := n) ⟨hC.1, hC.2.1, hC.2.2.2.2.2.2.2.2, hC.2.2.1, hts⟩ hM ⟨callB_of n hts (lw_goodIn rfl q3) rfl rfl rfl (hts _ q2) (hts _ q1) q4 (by rw [hR]; exact ⟨hd0, by show 8 + (maxL + 11) + 40 * d ≤ 40 * d0; omega⟩), hts _ q6, hts _ q7⟩ ⟨px_blind, hrecv, px_pre hC hw hz a1 a2 a3 a4⟩ rfl hn (by rw [← hC.2.2.2.2.2.2.2.2]; exact a5.1) hst (lv_room hW) hd (by rw [hR]; exact ⟨hmc, hms⟩)
  have hSub := pm_in hC a1 a3 a4
  have keep : ∀ {T' t : State} {Ls : List Loc}, T'.heap = t.heap → (∀ q ∈ Ls, pm_A h sz q.base) → H.size ≤ t.heap.size → (∀ q : Nat, q < H.size → ¬ pm_A h sz q → t.heap[q]? = H[q]?) → va_S A X.2.2.2.2.1.heap T'.heap (locs ++ Ls) := fun e1 hL' hz' hk =>
    ⟨Nat.le_trans a4.1 (by rw [e1]; exact hz'), fun q g1 g2 => by rw [e1, hk q (Nat.lt_of_lt_of_le g1 a4.1) (fun z => g2 (hSub q z))]; exact a4.2.1 q g1 g2, fun q hq => by
      rcases List.mem_append.mp hq with g | g
      · exact a4.2.2 q g
      · exact hSub _ (hL' q g)⟩
  rcases hr T hT Xs with ⟨v, st₀, t, T', Ls, h0', X', hL', e1, e2, ⟨⟨v', h1, hv, hp, hW1, hdom⟩, hz', hk⟩, stp⟩ | ⟨q, st₀, t, T', Ls, E, ce, h0', X', hL', e1, e2, ⟨⟨h1, hp, hW1, hdom⟩, hz', hk⟩, hce, hcv, hcl, stp⟩
  · cases hv
    rw [h0'] at hz' hk
    obtain ⟨t2, b1, b2⟩ := kk v h1 t.heap.size hp T'.heap (locs ++ Ls) ls (by rw [e1]) (by rw [e1]; exact hW1) (fun a ha => hSub a (hdom a ha)) (keep e1 hL' hz' hk) a5 T' rfl X'
    exact ⟨t2, stp t2 b1, b2⟩
  · rw [h0'] at hz' hk
    obtain ⟨t2, b1, b2⟩ := kx E h1 t.heap.size hp T'.heap (locs ++ Ls) ls q ce (by rw [e1]) (by rw [e1]; exact hW1) (fun a ha => hSub a (hdom a ha)) (keep e1 hL' hz' hk) a5 (by rw [e1]; exact hce) hcv hcl T' rfl X'
    exact ⟨t2, stp.trans b1, b2⟩
/-- a static method with a table -/
def pc_W (own : String) (index : Nat) (y : MethodName) (cc : ByteArray) (maxL : Nat) (ret : Option FieldType) (hh : List (Nat × Nat × Nat × Nat)) (n : Nat) : Prop :=
  (Cond.methodLink own index y ∈ lw_g ∧ Cond.initialized y.cls ∈ lw_g ∧ Cond.codeWith y cc maxL ret hh ∈ lw_g ∧ (y.cls ≠ "java/lang/invoke/MethodHandle" ∧ y.cls ≠ "java/lang/invoke/VarHandle" ∧ (parseMethodDescriptor y.desc).map (fun d => d.parameters.length) = some n) ∧ maxL ≤ 21) ∧ Cond.static y ∈ lw_g
theorem pr_callSW (hC : px_C X G A cc own nL) (hw : px_w X.2.2.2.2.1) (hz : px_z A X.2.2.2.2.1 X.2.2.2.2.1.heap) {d0 mc0 ms0 : Nat} (hR : X.2.2.2.1 = pm_rm d0 mc0 ms0) {cc' : ByteArray} {maxL index n : Nat} {hh : List (Nat × Nat × Nat × Nat)} {As : List Value}
    (hq : pc_W own index y cc' maxL ret hh n) (hd : decode cc pc = .ok (.invokestatic index, 3)) (hM : pmw X.2.1 G d y cc' maxL ret hh As h sz mc ms post)
    (hst : st = As.reverse ++ rest) (hn : As.length = n) (hW : (rest.map fun v => v.category).sum ≤ 8) (hd0 : d + 1 ≤ d0) (hmc : nc + mc ≤ mc0) (hms : ns + ms ≤ ms0)
    (kk : ∀ (v : Option Value) (h1 : pe_H) (sz1 : Nat), post v h1 sz1 → pw X G A Q (pc + 3) L (v.toList ++ rest) h1 sz1 (nc + mc) (ns + ms)) : pw X G A Q pc L st h sz nc ns := by
  obtain ⟨⟨q1, q2, q3, q4, q5⟩, q6⟩ := hq
  refine pr_run (aa := As.toArray) hC (fun H locs ls a1 a2 a3 a4 a5 => ?_) kk
  have hts := hC.2.2.2.1
  have hG : GoodIn lw_g (Cond.codeWith y cc' maxL ret hh :: lw_g) := lw_goodIn rfl q3
  exact vx_runSW (hh := hh) (As := As) (rest := rest) (own := own) (n := n) ⟨hC.1, hC.2.1, hC.2.2.2.2.2.2.2.2, hC.2.2.1, hts⟩ hM ⟨⟨rfl, rfl, by rw [hR]; exact hd0, by rw [hR]; show 8 + (maxL + 11) + 40 * d ≤ 40 * d0; omega, pay_in hts hG, List.mem_cons_self⟩, hts _ q3, hts _ q2, ⟨q4.1, q4.2.1⟩, fun sig hsig => by
    have z := q4.2.2
    rw [hsig] at z
    exact (Option.some.inj z).symm, hts _ q1, hts _ q6⟩ ⟨px_blind, px_pre hC hw hz a1 a2 a3 a4⟩ rfl hn (by rw [← hC.2.2.2.2.2.2.2.2]; exact a5.1) hst (lv_room hW) hd (by rw [hR]; exact ⟨hmc, hms⟩)
end PXR
