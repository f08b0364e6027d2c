/-! a throw of such an exception, with a text -/
def xq_at (own : String) (ic : Nat) (X Y : String) (ix : Nat) (rx : ByteArray) (r : List String) : List Cond := (xq_own own ic X Y ix rx r).filter vx_no
section XQE
variable {p : Program} {l : Launch} {e : Env} {R : Room} {s : State} {m : MethodId} {args : Array Value} {below : List Frame} {meth : Method} {c : Code} {H : Heap} {locs : List Loc} {cells slots : Nat} {free : Addr → Prop} {ls : Array Slot} {rest : List Value} {Qc : Array Value → State → Outcome → State → Prop} {XC : String → State → State → Prop}
set_option maxHeartbeats 4000000 in
theorem xq_throwSW {cc : ByteArray} {pc : Nat} (hexec : p.tables.exec = Jvm.exec) (hb : c.code = cc) (hl : l.stackTraces = false) {own cls Yq text : String} {r : List String} {ik is ic ix mc ms sa : Nat} {rx : ByteArray} (hr0 : decode rx 0 = .ok (.aload_n 0, 1)) (hr1 : decode rx 1 = .ok (.aload_n 1, 1)) (hr2 : decode rx 2 = .ok (.invokespecial ix, 3)) (hr5 : decode rx 5 = .ok (.return_, 1)) {A : Nat → Prop}
    (hown : s.vm.findClass own = some m.cls) (hcls : Bundle.fit cls = true) (hY : Bundle.fit Yq = true) (hnames : ∀ n ∈ r, Bundle.fit n = true)
    (hk : (Cond.classLink own ik cls).before args s = true) (hini : (Cond.initialized cls).before args s = true) (hstr : vk_R own is text sa s) (hat : ∀ w ∈ xq_at own ic cls Yq ix rx r, w.before args s = true)
    (hgood : ∀ w ∈ Cond.classLink own ik cls :: Cond.initialized cls :: xq_at own ic cls Yq ix rx r, vx_ot w = true)
    (hU : vx_Zq Bundle.tN "UNASSIGNED_STACK" Bundle.steD A s s.heap) (hN : vx_Zq Bundle.tN "SUPPRESSED_SENTINEL" Bundle.listD A s s.heap) (hS : va_S A s.heap H locs) (hsize : ls.size = c.maxLocals)
    (d0 : decode cc pc = .ok (.new ik, 3)) (d3 : decode cc (pc + 3) = .ok (.dup, 1)) (d4 : decode cc (pc + 4) = .ok (.ldc_w is, 3)) (d7 : decode cc (pc + 7) = .ok (.invokespecial ic, 3)) (d10 : decode cc (pc + 10) = .ok (.athrow, 1))
    (hout : ∀ x ∈ c.exceptionTable.toList, covers x (pc + 10) = false)
    (hRframes : r.length + 4 < R.frames) (hRlocals : (rest.map fun v => v.category).sum + (13 * (r.length + 2) + 43) ≤ R.locals) (hRcells : cells + 1 ≤ R.cells) (hRslots : slots + 6 ≤ R.slots) (hlocks : meth.locks = false)
    (hx : ∀ t : State, s.vm.Alike t.vm → H.size ≤ t.heap.size → (∀ q : Nat, q < H.size → t.heap[q]? = H[q]?) → XC cls s t)
    (hf : ∀ z ∈ locs, free z.base) (hc : cells + 1 ≤ mc) (hs : slots + 6 ≤ ms) :
    W p l e R s m args below meth c H locs cells slots (vx_MQ below Qc XC args s mc ms free) (F0 m pc ls rest) := by
  intro T hT X
  have htr : e.platform.stackTraces = false := (show e.platform.stackTraces = l.stackTraces by rw [X.admits.platform]).trans hl
  have Y := vx_rebase X (R' := { frames := R.frames, locals := R.locals, cells := 1, slots := 6 }) (Nat.le_refl _) (Nat.le_refl _) hRcells hRslots
  obtain ⟨s', hA⟩ : ∃ z, z = (T.setVm s.vm).setFrames (.invoking m args :: below) := ⟨_, rfl⟩
  rw [← hA] at Y
  have hvm : s'.vm = s.vm := by rw [hA]; rfl
  have hhp : s'.heap = H := by rw [hA]; exact hT
  have hW0 : s.WarmedH s'.vm := by rw [hvm]; exact State.WarmedH.refl s
  have hat' : ∀ w ∈ xq_at own ic cls Yq ix rx r, w.before args s' = true := fun w hw => vx_ot_at hW0 hvm.symm (hgood w (List.mem_cons_of_mem _ (List.mem_cons_of_mem _ hw))) (hat w hw)
  have hk' : (Cond.classLink own ik cls).before args s' = true := vx_ot_at hW0 hvm.symm (hgood _ List.mem_cons_self) hk
  have hini' : (Cond.initialized cls).before args s' = true := vx_ot_at hW0 hvm.symm (hgood _ (List.mem_cons_of_mem _ List.mem_cons_self)) hini
  have hU' : vx_Zq Bundle.tN "UNASSIGNED_STACK" Bundle.steD A s' s'.heap := by rw [hhp]; exact vx_Zq.moved hW0.alike (hU.kept hS.2.1)
  have hN' : vx_Zq Bundle.tN "SUPPRESSED_SENTINEL" Bundle.listD A s' s'.heap := by rw [hhp]; exact vx_Zq.moved hW0.alike (hN.kept hS.2.1)
  have h : ∀ w ∈ xq_own own ic cls Yq ix rx r, w.before args s' = true := vx_own hat' (vx_isRefq hU'.1) (vx_isRefq hN'.1) hU'.2.word hN'.2.word
  have hown' : s'.vm.findClass own = some m.cls := by rw [hvm]; exact hown
  have hins : (Cond.instantiable cls 6).before args s' = true := h _ (by simp [xq_own])
  obtain ⟨vm₁, cX, kX, hfX, hkX, -, -, X₁, st1⟩ := Y.newCold hexec (own := own) (C := cls) (index := ik) (n := 6) hown' hk' hins hini'
    (g := F0 m pc ls rest) rfl (by rw [hb]; exact d0) (Nat.le_refl _) (Nat.le_refl _)
  generalize hT1 : (T.setVm vm₁).pushCell { cls := cX, slots := kX.instanceTypes.map defaultValue, vm := .none } = T1 at X₁ st1
  have hcat : (Value.ref T.heap.size).category = 1 := rfl
  have hcellA : T1.heap[T.heap.size]? = some (freshCell cX kX) := by rw [← hT1]; exact State.heap_pushCell_size _ _
  have d3' : decode c.code (pc + 3) = .ok (.dup, 1) := by rw [hb]; exact d3
  have d4' : decode c.code (pc + 4) = .ok (.ldc_w is, 3) := by rw [hb]; exact d4
  have hstr' : vk_R own is text sa s' := vk_R.warm hW0 hstr
  obtain ⟨U, hsteps, hrun, hend, hW, hsame, ce, hce, hO, hO2⟩ := xq_ctor X₁ hexec htr (own := own) (cls := cls) (r := r) (ic := ic) hr0 hr1 hr2 hr5 hown' hcls hY hnames h (fun x hx => nomatch hx) hfX hkX hcellA (by rw [hhp, hT]; exact Nat.le_refl _) (msg := .ref sa) rfl
    (g := { method := m, pc := pc + 7, locals := ls, stack := .ref sa :: .ref T.heap.size :: .ref T.heap.size :: rest, locked := none }) rfl hsize rfl rfl (rest := rest) rfl
    (by rw [hb]; exact d7) (by rw [hb]; exact d10) hout hRframes (by simp only [List.map_cons, List.sum_cons, hcat]; omega) hlocks
  obtain ⟨f1, f2⟩ := vx_frame hsame
  rw [hhp] at f1 f2
  have hWs : s.WarmedH U.vm := State.WarmedH.trans hW0 hW
  have hcl : s.vm.findClass cls = some ce.cls := by
    have h9 := hO2
    rw [hvm] at h9
    exact h9
  have hall : s.sameButNew ({ U with vm := s.vm } : State) locs mc ms := by
    subst hA
    obtain ⟨e1, e2⟩ := hsame
    rw [State.setFrames_setFrames] at e1
    have h2 : (T.setVm s.vm).sameButNew ({ U with vm := s.vm } : State) [] (0 + 1) (0 + 6) := ⟨e1, e2⟩
    have h3 := X.same.trans h2
    rw [List.append_nil] at h3
    exact h3.mono hc hs
  refine ⟨U, ?_, .threw T.heap.size, hrun, hend, Or.inr ⟨T.heap.size, rfl, cls, ce, locs, hx U hWs.alike f1 (fun q hq => f2 q hq (fun z hz => nomatch hz)), hce, hO, hcl, hWs, hall, hf⟩⟩
  refine st1 _ ?_
  show Steps p.tables e below (T1.setTop { method := m, pc := pc + 3, locals := ls, stack := .ref T.heap.size :: rest, locked := none }) _
  jvm_step X₁.here [X₁.here.top, hexec, d3', Value.category]
  exact X₁.ldcStringW hexec (own := own) (text := text) (index := is) (a := sa) hown' hstr'.1 hstr'.2
    (g := { method := m, pc := pc + 4, locals := ls, stack := .ref T.heap.size :: .ref T.heap.size :: rest, locked := none }) rfl d4' _ hsteps
end XQE
section PXN
variable {X : px_X} {G : px_D} {A : Nat → Prop} {Q : State → Prop} {pc : Nat} {L : List (Option Value)} {h h0 : pe_H} {sz sz0 nc ns mc ms d : Nat} {cc : ByteArray} {nL : Nat} {l : Launch} {y : MethodName} {ret : Option FieldType} {post : Option Value → pe_H → Nat → Prop} {px : String → pe_H → Nat → Prop}
theorem px_throwN (hM : px_M l X G h0 sz0 y cc nL ret d mc ms) (ht : ∀ x ∈ X.2.2.2.2.2.2.2.2.2.exceptionTable.toList, False) (hw : px_w X.2.2.2.2.1) (hz : px_z (pm_A h0 sz0) X.2.2.2.2.1 X.2.2.2.2.1.heap) (hl : l.stackTraces = false) {text cls Y : String} {r : List String} {ik is ic ix sa : Nat} {rx : ByteArray} (hr0 : decode rx 0 = .ok (.aload_n 0, 1)) (hr1 : decode rx 1 = .ok (.aload_n 1, 1)) (hr2 : decode rx 2 = .ok (.invokespecial ix, 3)) (hr5 : decode rx 5 = .ok (.return_, 1))
    (hcls : Bundle.fit cls = true) (hY : Bundle.fit Y = true) (hr : ∀ n ∈ r, Bundle.fit n = true) (hk : Cond.classLink y.cls ik cls ∈ lw_g) (hini : Cond.initialized cls ∈ lw_g) (hR : (y.cls, is, text, sa) ∈ ro_R G.2.2)
    (hat1 : ∀ w ∈ (xq_at y.cls ic cls Y ix rx r).filter goodWord, w ∈ lw_g) (hat2 : ∀ w ∈ (xq_at y.cls ic cls Y ix rx r).filter (fun w => !goodWord w), w ∈ xwL) (hgood : ∀ w ∈ Cond.classLink y.cls ik cls :: Cond.initialized cls :: xq_at y.cls ic cls Y ix rx r, vx_ot w = true)
    (d0 : decode cc pc = .ok (.new ik, 3)) (d3 : decode cc (pc + 3) = .ok (.dup, 1)) (d4 : decode cc (pc + 4) = .ok (.ldc_w is, 3)) (d7 : decode cc (pc + 7) = .ok (.invokespecial ic, 3)) (d10 : decode cc (pc + 10) = .ok (.athrow, 1))
    (hd : r.length + 5 ≤ d) (hmc : nc + 1 ≤ mc) (hms : ns + 6 ≤ ms) (hp : ∀ sz1, sz ≤ sz1 → px cls h sz1) : pw X G (pm_A h0 sz0) (pmx_E X G h0 sz0 mc ms post px) pc L [] h sz nc ns := by
  intro H locs ls a1 a2 a3 a4 a5
  obtain ⟨hC, hX, hRm, -, -⟩ := hM
  have hts := hC.2.2.2.1
  refine xq_throwSW (A := pm_A h0 sz0) (sa := sa) (text := text) (r := r) hC.1 hC.2.1 (by rw [hX]; exact hl) hr0 hr1 hr2 hr5 hC.2.2.1 hcls hY hr (hts _ hk) (hts _ hini) (hC.2.2.2.2.2.2.1.2.2.2.2 _ hR) (vx_hat (B := xwL) (fun w hw => hts w (hat1 w hw)) hat2 (fun w hwl => va_Nw.use (xw_on w hwl) (hw.1 w hwl))) hgood hz.1 hz.2 a4 a5.1 d0 d3 d4 d7 d10 (fun x hx => absurd (ht x hx) id) ?_ ?_ ?_ ?_ hC.2.2.2.2.2.2.2.1 (fun t hal hle hpre => ?_) a4.2.2 hmc hms
  · rw [hRm]
    show r.length + 4 < d
    omega
  · rw [hRm]
    show 0 + (13 * (r.length + 2) + 43) ≤ 40 * d
    omega
  · rw [hRm]
    exact hmc
  · rw [hRm]
    exact hms
  · refine ⟨⟨h, hp _ (by rw [← a1]; exact hle), fun a e ha => (a2 a e ha).kept (hpre a (a2 a e ha).lt), a3⟩, Nat.le_trans a4.1 hle, fun q hq hA => ?_⟩
    rw [hpre q (Nat.lt_of_lt_of_le hq a4.1)]
    exact a4.2.1 q hq hA
end PXN
