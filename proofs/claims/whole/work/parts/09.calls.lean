/-! calls, by contract -/
def pc_B (own : String) (index : Nat) (y : MethodName) (cc : ByteArray) (maxL : Nat) (ret : Option FieldType) (n : Nat) : Prop :=
  Cond.methodLink own index y ∈ lw_g ∧ Cond.initialized y.cls ∈ lw_g ∧ Cond.code y cc maxL ret ∈ lw_g ∧ (y.cls ≠ "java/lang/invoke/MethodHandle" ∧ y.cls ≠ "java/lang/invoke/VarHandle" ∧ (parseMethodDescriptor y.desc).map (fun d => d.parameters.length) = some n) ∧ maxL ≤ 21
def pc_V (own : String) (index : Nat) (y : MethodName) (cc : ByteArray) (maxL : Nat) (ret : Option FieldType) (n : Nat) : Prop := pc_B own index y cc maxL ret n ∧ Cond.instanceMethod y ∈ lw_g ∧ Cond.selects y.cls y y ∈ lw_g
def pc_S (own : String) (index : Nat) (y : MethodName) (cc : ByteArray) (maxL : Nat) (ret : Option FieldType) (n : Nat) : Prop := pc_B own index y cc maxL ret n ∧ Cond.static y ∈ lw_g
def pc_I (own : String) (index : Nat) (y : MethodName) (cc : ByteArray) (maxL : Nat) (n : Nat) : Prop := pc_B own index y cc maxL none n ∧ y.name = "<init>" ∧ Cond.instanceMethod y ∈ lw_g
theorem pm_blind {G : px_D} {As : List Value} {h : pe_H} {sz : Nat} : FrameBlind (pm_Pc G As h sz) := fun a U g mk q => ⟨q.1, q.2.1, q.2.2.1, va_K.moved (u := U) (U := U.calling g mk a) (Vm.Alike.refl U.vm) q.2.2.2.1, pr_RO.same (u := U) (U := U.calling g mk a) rfl q.2.2.2.2⟩
section PC
variable {X : px_X} {G : px_D} {A : Nat → Prop} {Q : State → Prop} {pc : Nat} {L : List (Option Value)} {st rest : List Value} {h : pe_H} {sz nc ns : Nat} {cc : ByteArray} {own : String} {nL : Nat}
theorem pm_in (hC : px_C X G A cc own nL) {H : Heap} {locs : List Loc} (a1 : H.size = sz) (a3 : ∀ a, h a ≠ none → A a) (a4 : va_S A X.2.2.2.2.1.heap H locs) : ∀ q, pm_A h sz q → A q := by
  rintro q (q1 | q2)
  · exact a3 q q1
  · exact hC.2.2.2.2.2.1 q (Nat.le_trans a4.1 (by rw [a1]; exact q2))
theorem pm_pre (hC : px_C X G A cc own nL) {H : Heap} {locs : List Loc} {As : List Value} (a1 : H.size = sz) (a2 : pe_W G.1 h H) (a3 : ∀ a, h a ≠ none → A a) (a4 : va_S A X.2.2.2.2.1.heap H locs) : ∀ U : State, U.heap = H → X.2.2.2.2.1.WarmedH U.vm → pm_Pc G As h sz As.toArray U :=
  fun U hU hW => ⟨rfl, by rw [hU]; exact a1, by rw [hU]; exact a2, va_K.moved hW.alike hC.2.2.2.2.1, by rw [hU]; exact (((hC.2.2.2.2.2.2.1).kept a4.2.1).narrow (pm_in hC a1 a3 a4)).warm hW⟩
theorem pr_run (hC : px_C X G A cc own nL) {mc ms : Nat} {post : Option Value → pe_H → Nat → Prop} {aa : Array Value}
    (hr : ∀ (H : Heap) (locs : List Loc) (ls : Array Slot), H.size = sz → pe_W G.1 h H → (∀ a, h a ≠ none → A a) → va_S A X.2.2.2.2.1.heap H locs → pl_has ls X.2.2.2.2.2.2.2.2.2.maxLocals L → va_Run X.1 X.2.1 X.2.2.1 X.2.2.2.1 X.2.2.2.2.1 X.2.2.2.2.2.1 X.2.2.2.2.2.2.1 X.2.2.2.2.2.2.2.1 X.2.2.2.2.2.2.2.2.1 X.2.2.2.2.2.2.2.2.2 H locs nc ns mc ms (F0 X.2.2.2.2.2.1 pc ls st) rest (pm_Qc G h sz post aa) (pm_A h sz))
    (kk : ∀ (v : Option Value) (h1 : pe_H) (sz1 : Nat), post v h1 sz1 → pw X G A Q (pc + 3) L (v.toList ++ rest) h1 sz1 (nc + mc) (ns + ms)) : pw X G A Q pc L st h sz nc ns := by
  intro H locs ls a1 a2 a3 a4 a5 T hT Xs
  have hSub := pm_in hC a1 a3 a4
  obtain ⟨v, st₀, t, T', Ls, h0', X', hL', e1, e2, hQ, stp⟩ := hr H locs ls a1 a2 a3 a4 a5 T hT Xs
  obtain ⟨⟨v', h1, hv, hp, hW1, hdom⟩, hz, hk⟩ := hQ
  cases hv
  rw [h0'] at hz hk
  obtain ⟨t2, b1, b2⟩ := kk v h1 t.heap.size hp T'.heap (locs ++ Ls) ls (by rw [e1]) (by rw [e1]; exact hW1) (fun a ha => hSub a (hdom a ha))
    ⟨Nat.le_trans a4.1 (by rw [e1]; exact hz), fun q g1 g2 => by rw [e1, hk q (Nat.lt_of_lt_of_le g1 a4.1) (fun z => g2 (hSub q z))]; exact a4.2.1 q g1 g2, fun q hq => by
      rcases List.mem_append.mp hq with g | g
      · exact a4.2.2 q g
      · exact hSub _ (hL' q g)⟩ a5 T' rfl X'
  exact ⟨t2, stp t2 b1, b2⟩
theorem pr_callV (hC : px_C X G A cc own nL) {d0 mc0 ms0 : Nat} (hR : X.2.2.2.1 = pm_rm d0 mc0 ms0) {y : MethodName} {cc' : ByteArray} {maxL index n d mc ms b ci N : Nat} {ret : Option FieldType} {F : Nat → Value} {As : List Value} {post : Option Value → pe_H → Nat → Prop}
    (hq : pc_V own index y cc' maxL ret n) (hd : decode cc pc = .ok (.invokevirtual index, 3)) (hM : pm X.2.1 G d y cc' maxL ret (.ref b :: As) h sz mc ms post) (hb : h b = some (po ci N F)) (hci : (vwCl[ci]?).map (fun q => q.1) = some y.cls)
    (hst : st = As.reverse ++ .ref b :: rest) (hn : As.length = n) (hW : (rest.map fun v => v.category).sum ≤ 8) (hd0 : d + 1 ≤ d0) (hmc : nc + mc ≤ mc0) (hms : ns + ms ≤ ms0)
    (kk : ∀ (v : Option Value) (h1 : pe_H) (sz1 : Nat), post v h1 sz1 → pw X G A Q (pc + 3) L (v.toList ++ rest) h1 sz1 (nc + mc) (ns + ms)) : pw X G A Q pc L st h sz nc ns := by
  obtain ⟨⟨q1, q2, q3, q4, q5⟩, q6, q7⟩ := hq
  refine pr_run (aa := (Value.ref b :: As).toArray) hC (fun H locs ls a1 a2 a3 a4 a5 => ?_) kk
  have hts := hC.2.2.2.1
  have hrecv : ∃ cellB : Cell, H[b]? = some cellB ∧ cellB.vm.isStatics = false ∧ X.2.2.2.2.1.vm.findClass y.cls = some cellB.cls := by
    obtain ⟨r, r1, cell, r2, r3, r4, -⟩ := a2 b _ hb
    have hk := (hC.2.2.2.2.1.1 ci r r1).2.1
    have hc : r.1 = y.cls := by
      rw [r1] at hci
      exact Option.some.inj hci
    exact ⟨cell, r2, by rw [r4]; rfl, by rw [r3, ← hc]; exact hk⟩
  exact va_runV (As := As) (rest := rest) (own := own) (C := y.cls) (n := n) ⟨hC.1, hC.2.1, hC.2.2.2.2.2.2.2.2, hC.2.2.1, hts⟩ hM ⟨callB_of n hts (lw_goodIn rfl q3) rfl rfl rfl (hts _ q2) (hts _ q1) q4 (by rw [hR]; exact ⟨hd0, by show 8 + (maxL + 11) + 40 * d ≤ 40 * d0; omega⟩), hts _ q6, hts _ q7⟩ ⟨pm_blind, hrecv, pm_pre hC a1 a2 a3 a4⟩ rfl hn (by rw [← hC.2.2.2.2.2.2.2.2]; exact a5.1) hst (lv_room hW) hd (by rw [hR]; exact ⟨hmc, hms⟩)
theorem pr_callS (hC : px_C X G A cc own nL) {d0 mc0 ms0 : Nat} (hR : X.2.2.2.1 = pm_rm d0 mc0 ms0) {y : MethodName} {cc' : ByteArray} {maxL index n d mc ms : Nat} {ret : Option FieldType} {As : List Value} {post : Option Value → pe_H → Nat → Prop}
    (hq : pc_S own index y cc' maxL ret n) (hd : decode cc pc = .ok (.invokestatic index, 3)) (hM : pm X.2.1 G d y cc' maxL ret As h sz mc ms post)
    (hst : st = As.reverse ++ rest) (hn : As.length = n) (hW : (rest.map fun v => v.category).sum ≤ 8) (hd0 : d + 1 ≤ d0) (hmc : nc + mc ≤ mc0) (hms : ns + ms ≤ ms0)
    (kk : ∀ (v : Option Value) (h1 : pe_H) (sz1 : Nat), post v h1 sz1 → pw X G A Q (pc + 3) L (v.toList ++ rest) h1 sz1 (nc + mc) (ns + ms)) : pw X G A Q pc L st h sz nc ns := by
  obtain ⟨⟨q1, q2, q3, q4, q5⟩, q6⟩ := hq
  refine pr_run (aa := As.toArray) hC (fun H locs ls a1 a2 a3 a4 a5 => ?_) kk
  have hts := hC.2.2.2.1
  exact va_runS (As := As) (rest := rest) (own := own) (n := n) ⟨hC.1, hC.2.1, hC.2.2.2.2.2.2.2.2, hC.2.2.1, hts⟩ hM ⟨callB_of n hts (lw_goodIn rfl q3) rfl rfl rfl (hts _ q2) (hts _ q1) q4 (by rw [hR]; exact ⟨hd0, by show 8 + (maxL + 11) + 40 * d ≤ 40 * d0; omega⟩), hts _ q6⟩ ⟨pm_blind, pm_pre hC a1 a2 a3 a4⟩ rfl hn (by rw [← hC.2.2.2.2.2.2.2.2]; exact a5.1) hst (lv_room hW) hd (by rw [hR]; exact ⟨hmc, hms⟩)
theorem pr_callI (hC : px_C X G A cc own nL) {d0 mc0 ms0 : Nat} (hR : X.2.2.2.1 = pm_rm d0 mc0 ms0) {y : MethodName} {cc' : ByteArray} {maxL index n d mc ms b : Nat} {As : List Value} {post : Option Value → pe_H → Nat → Prop}
    (hq : pc_I own index y cc' maxL n) (hd : decode cc pc = .ok (.invokespecial index, 3)) (hM : pm X.2.1 G d y cc' maxL none (.ref b :: As) h sz mc ms post)
    (hst : st = As.reverse ++ .ref b :: rest) (hn : As.length = n) (hW : (rest.map fun v => v.category).sum ≤ 8) (hd0 : d + 1 ≤ d0) (hmc : nc + mc ≤ mc0) (hms : ns + ms ≤ ms0)
    (kk : ∀ (v : Option Value) (h1 : pe_H) (sz1 : Nat), post v h1 sz1 → pw X G A Q (pc + 3) L (v.toList ++ rest) h1 sz1 (nc + mc) (ns + ms)) : pw X G A Q pc L st h sz nc ns := by
  obtain ⟨⟨q1, q2, q3, q4, q5⟩, q6, q7⟩ := hq
  refine pr_run (aa := (Value.ref b :: As).toArray) hC (fun H locs ls a1 a2 a3 a4 a5 => ?_) kk
  have hts := hC.2.2.2.1
  exact va_runI (As := As) (rest := rest) (own := own) (n := n) ⟨hC.1, hC.2.1, hC.2.2.2.2.2.2.2.2, hC.2.2.1, hts⟩ hM ⟨callB_of n hts (lw_goodIn rfl q3) rfl rfl rfl (hts _ q2) (hts _ q1) q4 (by rw [hR]; exact ⟨hd0, by show 8 + (maxL + 11) + 40 * d ≤ 40 * d0; omega⟩), q6, hts _ q7⟩ ⟨pm_blind, pm_pre hC a1 a2 a3 a4⟩ rfl hn (by rw [← hC.2.2.2.2.2.2.2.2]; exact a5.1) hst (lv_room hW) hd (by rw [hR]; exact ⟨hmc, hms⟩)
theorem pr_objInit (hC : px_C X G A cc own nL) {d0 mc0 ms0 : Nat} (hR : X.2.2.2.1 = pm_rm d0 mc0 ms0) {index a : Nat} (hq : Cond.methodLink own index objectInit ∈ lw_g ∧ Cond.instanceMethod objectInit ∈ lw_g ∧ Cond.code objectInit ⟨#[0xb1]⟩ 1 none ∈ lw_g) (hd : decode cc pc = .ok (.invokespecial index, 3)) (hd0 : 1 ≤ d0) (hW : (st.map fun v => v.category).sum ≤ 8)
    (kk : pw X G A Q (pc + 3) L st h sz nc ns) : pw X G A Q pc L (.ref a :: st) h sz nc ns := fun H locs ls a1 a2 a3 a4 a5 =>
  W.objInit hC.1 hC.2.1 hC.2.2.1 (hC.2.2.2.1 _ hq.1) (hC.2.2.2.1 _ hq.2.1) (hC.2.2.2.1 _ hq.2.2) rfl a5.1 rfl hd (by rw [hR]; exact hd0) (by rw [hR]; show 2 * 0 + (st.map fun v => v.category).sum + 12 ≤ 40 * d0; omega) (kk H locs ls a1 a2 a3 a4 a5)
/-! new objects and rows: the next cell -/
theorem pe_W.new {D : va_G} {H H1 : Heap} {e : va_E} (hW : pe_W D h H) (he : va_at D vwCl (H.size, e) H1) (oq : ∀ q : Nat, q < H.size → H1[q]? = H[q]?) : pe_W D (pe_set h H.size e) H1 := by
  intro b e' hb
  by_cases hba : b = H.size
  · subst hba
    rw [pe_set_eq] at hb
    cases hb
    exact he
  · rw [pe_set_ne hba] at hb
    exact (hW b e' hb).kept (oq b (hW b e' hb).lt)
theorem pr_new (hC : px_C X G A cc own nL) {d0 mc0 ms0 : Nat} (hR : X.2.2.2.1 = pm_rm d0 mc0 ms0) {index ci N : Nat} {C : String} {T : u_T} {ty0 : Nat → FieldType} {F : Nat → Value} (hc : vwCl[ci]? = some (C, T, N)) (hin : ∀ w ∈ u_ws C T N, w ∈ lw_g) (hty : ∀ j, j < N → parseFieldDescriptor (T j).2.2.1 = some (ty0 j)) (hq : Cond.classLink own index C ∈ lw_g ∧ Cond.instantiable C N ∈ lw_g ∧ Cond.initialized C ∈ lw_g) (hF : ∀ j, j < N → defaultValue (ty0 j) = F j)
    (hd : decode cc pc = .ok (.new index, 3)) (hmc : nc + 1 ≤ mc0) (hms : ns + N ≤ ms0) (kk : pw X G A Q (pc + 3) L (.ref sz :: st) (pe_set h sz (po ci N F)) (sz + 1) (nc + 1) (ns + N)) : pw X G A Q pc L st h sz nc ns := by
  intro H locs ls a1 a2 a3 a4 a5
  have hts := hC.2.2.2.1
  have hKn := hC.2.2.2.2.1.1 ci _ hc
  have hAa : A sz := hC.2.2.2.2.2.1 sz (by rw [← a1]; exact a4.1)
  refine W.newcK hC.1 hC.2.1 hC.2.2.1 (hts _ hq.1) (hts _ hq.2.1) (hts _ hq.2.2) rfl hd (by rw [hR]; exact hmc) (by rw [hR]; exact hms) hKn.2.1 a1 fun H1 kC hkC e1 z1 o1 => ?_
  subst a1
  refine kk H1 locs ls z1 (a2.new ?_ o1) (pe_dom a3 hAa) ⟨Nat.le_trans a4.1 (by omega), fun x h1 h2 => (o1 x (Nat.lt_of_lt_of_le h1 a4.1)).trans (a4.2.1 x h1 h2), a4.2.2⟩ a5
  refine ⟨_, hc, (u_born ty0 hts hin hKn hkC e1 hty).to fun j hj => ?_⟩
  rw [hF j hj]
  simp [vp_V, hj]
/-- newarray: of which kind (place t0 of pt_tys), with what at first -/
theorem pr_newa (hC : px_C X G A cc own nL) {d0 mc0 ms0 : Nat} (hR : X.2.2.2.1 = pm_rm d0 mc0 ms0) {atype : ArrayType} {ty : FieldType} {n : Int32} {N' t0 : Nat} {a0 : vp_A} (hty : newarray.typeOf atype = ty) (hw : Cond.arrayClass ty ∈ lw_g) (ht : (pt_tys G.2.1)[t0]? = some (G.2.1 t0, ty)) (ha : ∀ cA : ClassId, vp_cell cA a0 = arrV cA N' (fun _ => defaultValue ty)) (hn : ¬ n < 0) (hN : n.toNatClampNeg = N') (hbytes : N' * componentBytes ty ≤ 536870912)
    (hra : ∀ (U : State) (cA : ClassId), va_RA U cA ty → U.vm.findClass ("[" ++ ty.toString) = some cA) (hd : decode cc pc = .ok (.newarray atype, 2)) (hmc : nc + 1 ≤ mc0) (hms : ns + N' ≤ ms0) (kk : pw X G A Q (pc + 2) L (.ref sz :: st) (pe_set h sz (.inl (G.2.1 t0, a0))) (sz + 1) (nc + 1) (ns + N')) : pw X G A Q pc L (.int n :: st) h sz nc ns := by
  subst hty
  intro H locs ls a1 a2 a3 a4 a5
  have hts := hC.2.2.2.1
  have hAa : A sz := hC.2.2.2.2.2.1 sz (by rw [← a1]; exact a4.1)
  refine va_newaK hC.1 hC.2.1 (hts _ hw) rfl hd rfl hn hN hbytes (by rw [hR]; exact hmc) (by rw [hR]; exact hms) a1 fun H1 cA e1 z1 o1 hAr hNm => ?_
  have hcA : cA = G.2.1 t0 := Option.some.inj (hNm.symm.trans (hra _ _ (hC.2.2.2.2.1.2 t0 _ ht).2))
  subst hcA
  subst a1
  refine kk H1 locs ls z1 (a2.new ?_ o1) (pe_dom a3 hAa) ⟨Nat.le_trans a4.1 (by omega), fun x h1 h2 => (o1 x (Nat.lt_of_lt_of_le h1 a4.1)).trans (a4.2.1 x h1 h2), a4.2.2⟩ a5
  show H1[H.size]? = some (vp_cell _ _)
  rw [ha]
  exact e1
end PC
