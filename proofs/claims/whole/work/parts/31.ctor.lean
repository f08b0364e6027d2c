/-! contracts of constructors: what they ask besides; the heap by distances -/
def pe_X (G : px_D) (U : State) : Prop := va_Nw (.methodLinkNest RX9 38 yX2_init "WhistleRoster") U ∧ va_AO "WhistleRoster$Game" U ∧ va_AO "WhistleRoster$Roster" U ∧ va_AO "WhistleRoster$Shelf" U ∧ ∃ kA, U.vm.classes[G.2.1 5]? = some kA ∧ kA.kind = .array (G.2.1 0) (.array .int)
theorem pe_X.warm {G : px_D} {s U : State} (hW : s.WarmedH U.vm) (h : pe_X G s) : pe_X G U := by
  obtain ⟨h1, h2, h3, h4, kA, h5, h6⟩ := h
  obtain ⟨k', q1, q2⟩ := hW.alike.2.2 _ _ h5
  exact ⟨h1.warmM hW, h2.moved hW.alike, h3.moved hW.alike, h4.moved hW.alike, k', q1, by rw [q2]; exact h6⟩
theorem pe_X.same {G : px_D} {u U : State} (hv : U.vm = u.vm) (h : pe_X G u) : pe_X G U := by
  obtain ⟨h1, h2, h3, h4, h5⟩ := h
  have hA : u.vm.Alike U.vm := by rw [hv]; exact Vm.Alike.refl _
  exact ⟨va_Nw.same rfl hv.symm h1, h2.moved hA, h3.moved hA, h4.moved hA, by rw [hv]; exact h5⟩
def pn (l : Launch) (G : px_D) (d : Nat) (y : MethodName) (cc : ByteArray) (maxL : Nat) (As : List Value) (h : pe_H) (sz mc ms : Nat) (post : Option Value → pe_H → Nat → Prop) : Prop := Met l y (.code y cc maxL none :: lw_g) (pm_rm d mc ms) (fun v U => pm_Pc G As h sz v U ∧ pe_X G U) (pm_Qc G h sz post) mc ms (pm_A h sz)
theorem pn_of {l : Launch} {G : px_D} {d : Nat} {y : MethodName} {cc : ByteArray} {maxL : Nat} {As : List Value} {h : pe_H} {sz mc ms : Nat} {post : Option Value → pe_H → Nat → Prop} (hy : plainName y.cls = true) (hsl : (lg_sl As).length ≤ maxL) (L : List (Option Value)) (hL : pl_arg As ++ List.replicate (maxL - (pl_arg As).length) none = L)
    (body : ∀ X : px_X, px_M l X G h sz y cc maxL none d mc ms → pe_X G X.2.2.2.2.1 → pw X G (pm_A h sz) (pm_E X G h sz mc ms post) 0 L [] h sz 0 0) : pn l G d y cc maxL As h sz mc ms post := by
  refine Met.ofW (cc := cc) (maxL := maxL) (ret := none) hy rfl ?_
  intro p e s m args below meth c s₁ B hml hv
  obtain ⟨⟨rfl, hsz, hP, hK, hR⟩, hEX⟩ := hv
  have hts := atoms_spec (ws := .code y cc maxL none :: lw_g) B.pre
  have hC : px_C (p, l, e, (headSpec (.code y cc maxL none :: lw_g) (pm_rm d mc ms)).room, s, m, As.toArray, below, meth, c) G (pm_A h sz) cc y.cls maxL :=
    ⟨B.exec, B.bytes, findClass_of_methodNamed B.named, fun w hw => hts w (List.mem_cons_of_mem _ hw), hK, fun q hq => Or.inr (by rw [← hsz]; exact hq), hR, B.notSynchronized, hml⟩
  have hb := body _ ⟨hC, rfl, rfl, B.returns, (name_of_methodNamed B.named B.method).1⟩ hEX
  rw [lg_entry_eq]
  have hl := lv_entry As (n := maxL) hsl
  refine hb s.heap [] _ hsz hP (fun a ha => Or.inl ha) va_S.rf ⟨hl.1.trans hml.symm, hl.2.1, fun i v hv => ?_⟩
  refine hl.2.2 (i, v) ?_
  rw [← hL] at hv
  have hi : i < (pl_arg As).length := by
    by_cases hi : i < (pl_arg As).length
    · exact hi
    · rw [List.getElem?_append_right (by omega)] at hv
      have := List.mem_of_getElem? hv
      have := List.eq_of_mem_replicate this
      cases this
  rw [List.getElem?_append_left hi] at hv
  have := pl_arg_mem As 0 i v hv
  simpa using this
theorem pn_blind {G : px_D} {As : List Value} {h : pe_H} {sz : Nat} : FrameBlind (fun v U => pm_Pc G As h sz v U ∧ pe_X G U) := fun a U g mk q => ⟨pm_blind a U g mk q.1, pe_X.same (u := U) (U := U.calling g mk a) rfl q.2⟩
section PNC
variable {X : px_X} {G : px_D} {A : Nat → Prop} {Q : State → Prop} {pc : Nat} {L : List (Option Value)} {st rest : List Value} {h : pe_H} {sz nc ns : Nat} {cc : ByteArray} {own : String} {nL : Nat}
theorem pn_pre (hC : px_C X G A cc own nL) (hE : pe_X G X.2.2.2.2.1) {H : Heap} {locs : List Loc} {As : List Value} (a1 : H.size = sz) (a2 : pe_W G.1 h H) (a3 : ∀ a, h a ≠ none → A a) (a4 : va_S A X.2.2.2.2.1.heap H locs) : ∀ U : State, U.heap = H → X.2.2.2.2.1.WarmedH U.vm → pm_Pc G As h sz As.toArray U ∧ pe_X G U :=
  fun U hU hW => ⟨pm_pre hC a1 a2 a3 a4 U hU hW, hE.warm hW⟩
theorem pr_callIX (hC : px_C X G A cc own nL) (hE : pe_X G X.2.2.2.2.1) {d0 mc0 ms0 : Nat} (hR : X.2.2.2.1 = pm_rm d0 mc0 ms0) {y : MethodName} {cc' : ByteArray} {maxL index n d mc ms b : Nat} {As : List Value} {post : Option Value → pe_H → Nat → Prop}
    (hq : pc_I own index y cc' maxL n) (hd : decode cc pc = .ok (.invokespecial index, 3)) (hM : pn X.2.1 G d y cc' maxL (.ref b :: As) h sz mc ms post)
    (hst : st = As.reverse ++ .ref b :: rest) (hn : As.length = n) (hW : (rest.map fun v => v.category).sum ≤ 8) (hd0 : d + 1 ≤ d0) (hmc : nc + mc ≤ mc0) (hms : ns + ms ≤ ms0)
    (kk : ∀ (v : Option Value) (h1 : pe_H) (sz1 : Nat), post v h1 sz1 → pw X G A Q (pc + 3) L (v.toList ++ rest) h1 sz1 (nc + mc) (ns + ms)) : pw X G A Q pc L st h sz nc ns := by
  obtain ⟨⟨q1, q2, q3, q4, q5⟩, q6, q7⟩ := hq
  refine pr_run (aa := (Value.ref b :: As).toArray) hC (fun H locs ls a1 a2 a3 a4 a5 => ?_) kk
  have hts := hC.2.2.2.1
  exact va_runI (As := As) (rest := rest) (own := own) (n := n) ⟨hC.1, hC.2.1, hC.2.2.2.2.2.2.2.2, hC.2.2.1, hts⟩ hM ⟨callB_of n hts (lw_goodIn rfl q3) rfl rfl rfl (hts _ q2) (hts _ q1) q4 (by rw [hR]; exact ⟨hd0, by show 8 + (maxL + 11) + 40 * d ≤ 40 * d0; omega⟩), q6, hts _ q7⟩ ⟨pn_blind, pn_pre hC hE a1 a2 a3 a4⟩ rfl hn (by rw [← hC.2.2.2.2.2.2.2.2]; exact a5.1) hst (lv_room hW) hd (by rw [hR]; exact ⟨hmc, hms⟩)
theorem pr_callVX (hC : px_C X G A cc own nL) (hE : pe_X G X.2.2.2.2.1) {d0 mc0 ms0 : Nat} (hR : X.2.2.2.1 = pm_rm d0 mc0 ms0) {y : MethodName} {cc' : ByteArray} {maxL index n d mc ms b ci N : Nat} {F : Nat → Value} {As : List Value} {post : Option Value → pe_H → Nat → Prop}
    (hq : pc_V own index y cc' maxL none n) (hd : decode cc pc = .ok (.invokevirtual index, 3)) (hM : pn X.2.1 G d y cc' maxL (.ref b :: As) h sz mc ms post) (hb : h b = some (po ci N F)) (hci : (vwCl[ci]?).map (fun q => q.1) = some y.cls)
    (hst : st = As.reverse ++ .ref b :: rest) (hn : As.length = n) (hW : (rest.map fun v => v.category).sum ≤ 8) (hd0 : d + 1 ≤ d0) (hmc : nc + mc ≤ mc0) (hms : ns + ms ≤ ms0)
    (kk : ∀ (v : Option Value) (h1 : pe_H) (sz1 : Nat), post v h1 sz1 → pw X G A Q (pc + 3) L (v.toList ++ rest) h1 sz1 (nc + mc) (ns + ms)) : pw X G A Q pc L st h sz nc ns := by
  obtain ⟨⟨q1, q2, q3, q4, q5⟩, q6, q7⟩ := hq
  refine pr_run (aa := (Value.ref b :: As).toArray) hC (fun H locs ls a1 a2 a3 a4 a5 => ?_) kk
  have hts := hC.2.2.2.1
  have hrecv : ∃ cellB : Cell, H[b]? = some cellB ∧ cellB.vm.isStatics = false ∧ X.2.2.2.2.1.vm.findClass y.cls = some cellB.cls := by
    obtain ⟨r, r1, cell, r2, r3, r4, -⟩ := a2 b _ hb
    have hk := (hC.2.2.2.2.1.1 ci r r1).2.1
    have hc : r.1 = y.cls := by
      rw [r1] at hci
      exact Option.some.inj hci
    exact ⟨cell, r2, by rw [r4]; rfl, by rw [r3, ← hc]; exact hk⟩
  exact va_runV (As := As) (rest := rest) (own := own) (C := y.cls) (n := n) ⟨hC.1, hC.2.1, hC.2.2.2.2.2.2.2.2, hC.2.2.1, hts⟩ hM ⟨callB_of n hts (lw_goodIn rfl q3) rfl rfl rfl (hts _ q2) (hts _ q1) q4 (by rw [hR]; exact ⟨hd0, by show 8 + (maxL + 11) + 40 * d ≤ 40 * d0; omega⟩), hts _ q6, hts _ q7⟩ ⟨pn_blind, hrecv, pn_pre hC hE a1 a2 a3 a4⟩ rfl hn (by rw [← hC.2.2.2.2.2.2.2.2]; exact a5.1) hst (lv_room hW) hd (by rw [hR]; exact ⟨hmc, hms⟩)
theorem pr_callIXN (hC : px_C X G A cc RX9 nL) (hE : pe_X G X.2.2.2.2.1) {d0 mc0 ms0 : Nat} (hR : X.2.2.2.1 = pm_rm d0 mc0 ms0) {d mc ms b : Nat} {post : Option Value → pe_H → Nat → Prop}
    (hq : Cond.code yX2_init cX2_init 1 none ∈ lw_g ∧ Cond.initialized RX2 ∈ lw_g ∧ Cond.instanceMethod yX2_init ∈ lw_g) (hd : decode cc pc = .ok (.invokespecial 38, 3)) (hM : pn X.2.1 G d yX2_init cX2_init 1 (.ref b :: []) h sz mc ms post)
    (hst : st = .ref b :: rest) (hW : (rest.map fun v => v.category).sum ≤ 8) (hd0 : d + 1 ≤ d0) (hmc : nc + mc ≤ mc0) (hms : ns + ms ≤ ms0)
    (kk : ∀ (v : Option Value) (h1 : pe_H) (sz1 : Nat), post v h1 sz1 → pw X G A Q (pc + 3) L (v.toList ++ rest) h1 sz1 (nc + mc) (ns + ms)) : pw X G A Q pc L st h sz nc ns := by
  refine pr_run (aa := (Value.ref b :: []).toArray) hC (fun H locs ls a1 a2 a3 a4 a5 => ?_) kk
  have hts := hC.2.2.2.1
  exact va_runIN (As := []) (rest := rest) (own := RX9) (host := "WhistleRoster") (index := 38) (n := 0) ⟨hC.1, hC.2.1, hC.2.2.2.2.2.2.2.2, hC.2.2.1, hts⟩ hM ⟨va_cnB 0 hts (lw_goodIn rfl hq.1) rfl rfl rfl hE.1 (hts _ hq.2.1) ⟨by decide +kernel, by decide +kernel, by decide +kernel⟩ (by rw [hR]; exact ⟨hd0, by show 8 + (1 + 11) + 40 * d ≤ 40 * d0; omega⟩), rfl, hts _ hq.2.2⟩ ⟨pn_blind, pn_pre hC hE a1 a2 a3 a4⟩ rfl rfl (by rw [← hC.2.2.2.2.2.2.2.2]; exact a5.1) hst (lv_room hW) hd (by rw [hR]; exact ⟨hmc, hms⟩)
/-! rows of references -/
theorem pr_anew (hC : px_C X G A cc own nL) {d0 mc0 ms0 : Nat} (hR : X.2.2.2.1 = pm_rm d0 mc0 ms0) {index t0 : Nat} {C : String} {n : Int32} {N' : Nat} (hl : Cond.classLink own index C ∈ lw_g) (hover : va_AO C X.2.2.2.2.1) (ht : (pt_tys G.2.1)[t0]? = some (G.2.1 t0, .object C)) (hn : ¬ n < 0) (hN : n.toNatClampNeg = N') (hbytes : N' * 4 ≤ 536870912)
    (hd : decode cc pc = .ok (.anewarray index, 3)) (hmc : nc + 1 ≤ mc0) (hms : ns + N' ≤ ms0) (kk : pw X G A Q (pc + 3) L (.ref sz :: st) (pe_set h sz (pa_r G t0 N' (fun _ => none))) (sz + 1) (nc + 1) (ns + N')) : pw X G A Q pc L (.int n :: st) h sz nc ns := by
  subst hN
  intro H locs ls a1 a2 a3 a4 a5
  have hts := hC.2.2.2.1
  have hAa : A sz := hC.2.2.2.2.2.1 sz (by rw [← a1]; exact a4.1)
  refine W.anew hC.1 hC.2.1 hC.2.2.1 (hts _ hl) (va_AO.use hover) rfl hd rfl hn hbytes (by rw [hR]; exact hmc) (by rw [hR]; exact hms) fun cA kA comp f1 f2 f3 f4 => ?_
  generalize hH1 : H.push ({ cls := cA, slots := Array.replicate n.toNatClampNeg .null, vm := .none } : Cell) = H1
  have z1 : H1.size = H.size + 1 := by rw [← hH1, Array.size_push]
  have e1 : H1[H.size]? = some (arrV cA n.toNatClampNeg (fun _ => .null)) := by rw [← hH1, Array.getElem?_push_size, ← arrV_new]
  have o1 : ∀ q : Nat, q < H.size → H1[q]? = H[q]? := fun q hq => by rw [← hH1, Array.getElem?_push, if_neg (Nat.ne_of_lt hq)]
  have hcA : cA = G.2.1 t0 := by
    obtain ⟨-, kA', comp', g1, g2, g3, g4⟩ := hC.2.2.2.2.1.2 t0 _ ht
    exact Option.some.inj (f1.symm.trans g4)
  subst hcA
  subst a1
  refine kk H1 locs ls z1 (a2.new ?_ o1) (pe_dom a3 hAa) ⟨Nat.le_trans a4.1 (by omega), fun x h1 h2 => (o1 x (Nat.lt_of_lt_of_le h1 a4.1)).trans (a4.2.1 x h1 h2), a4.2.2⟩ a5
  show H1[H.size]? = some (vp_cell _ _)
  rw [vp_cell_q]
  exact e1
theorem pr_aastore (hC : px_C X G A cc own nL) {a n t0 v ci N : Nat} {i : Int32} {f : Nat → Option Nat} {F : Nat → Value} {C : String} (hd : decode cc pc = .ok (.aastore, 1)) (ha : h a = some (pa_r G t0 n f)) (hv : h v = some (po ci N F)) (ht : (pt_tys G.2.1)[t0]? = some (G.2.1 t0, .object C)) (hc : (vwCl[ci]?).map (fun q => q.1) = some C) (hi : vp_in i n) (kk : pw X G A Q (pc + 1) L st (pe_set h a (pa_r G t0 n (va_up f i.toNatClampNeg (some v)))) sz nc ns) : pw X G A Q pc L (.ref v :: .int i :: .ref a :: st) h sz nc ns := by
  intro H locs ls a1 a2 a3 a4 a5
  have hAa : A a := a3 a (by rw [ha]; exact fun q => by cases q)
  have hlt : i.toNatClampNeg < n := Nat.not_le.mp fun q => hi (Or.inr q)
  have h0 : ¬ i < 0 := fun q => hi (Or.inl q)
  obtain ⟨r, r1, cellV, g1, g2, g3, -⟩ := a2 v _ hv
  have hrC : r.1 = C := by
    rw [r1] at hc
    exact Option.some.inj hc
  have hcls := (hC.2.2.2.2.1.1 ci r r1).2
  obtain ⟨kA, comp, k1, k2, k3, -⟩ := (hC.2.2.2.2.1.2 t0 _ ht).2
  have hcomp : comp = G.1.1 ci := Option.some.inj (k3.symm.trans (by rw [← hrC]; exact hcls.1))
  subst hcomp
  obtain ⟨kC, hkC, -⟩ := hcls.2
  refine W.aast hC.1 hC.2.1 (a2 a _ ha) (fun q h => by cases h) (fun h => by cases h) k1 k2 rfl hkC ⟨h0, by show _ < (arrV _ _ _).slots.size; rw [arrV_size]; exact hlt⟩ g1 (fun q h => by rw [g3] at h; cases h) (by rw [g2]; exact hkC) (by rw [g2]; exact va_assign hcls) rfl rfl hd fun H1 e z oq => ?_
  refine kk H1 _ ls (by rw [z]; exact a1) (a2.put ?_ oq) (pe_dom a3 hAa) (a4.put z oq hAa) a5
  show H1[a]? = some (vp_cell _ _)
  rw [e]
  rw [vp_cell_q, vp_cell_q, arrV_store]
  congr 2
  funext q
  by_cases hq : q = i.toNatClampNeg
  · subst hq
    simp [updV, va_up, va_rf]
  · simp [updV, va_up, hq]
theorem pr_multi (hC : px_C X G A cc own nL) (hE : pe_X G X.2.2.2.2.1) {d0 mc0 ms0 : Nat} (hR : X.2.2.2.1 = pm_rm d0 mc0 ms0) {index : Nat} {n k : Int32} {N K : Nat} (hl : Cond.classLink own index "[[I" ∈ lw_g) (hn : ¬ n < 0) (hk : ¬ k < 0) (hN : n.toNatClampNeg = N) (hK : k.toNatClampNeg = K) (hb1 : N ≤ 1000) (hb2 : K ≤ 1000)
    (hd : decode cc pc = .ok (.multianewarray index 2, 4)) (hmc : nc + 1 + N ≤ mc0) (hms : ns + N + N * K ≤ ms0)
    (kk : pw X G A Q (pc + 4) L (.ref sz :: st) (fun a => if a = sz then some (pa_r G 5 N (fun j => if j < N then some (sz + 1 + j) else none)) else if sz < a ∧ a < sz + 1 + N then some (pa_i G K (fun _ => 0)) else h a) (sz + 1 + N) (nc + 1 + N) (ns + N + N * K)) : pw X G A Q pc L (.int k :: .int n :: st) h sz nc ns := by
  subst hN; subst hK
  intro H locs ls a1 a2 a3 a4 a5 T hT XX
  have hts := hC.2.2.2.1
  obtain ⟨kA, hkA, hkindA⟩ := hE.2.2.2.2
  obtain ⟨-, kI, hkI, cm, hkkI⟩ := (hC.2.2.2.2.1.2 0 _ rfl).1 0 (fun j => .int 0)
  have hnmA : X.2.2.2.2.1.vm.findClass "[[I" = some (G.2.1 5) := (hC.2.2.2.2.1.2 5 _ rfl).2
  have hpl : X.2.2.1.platform.magicAccessors = ({} : Platform).magicAccessors := by rw [XX.admits.platform]
  obtain ⟨c0, hfc0, hcl⟩ := Cond.classLink_spec hC.2.2.1 (hts _ hl) X.2.2.1.platform hpl
  cases hnmA.symm.trans hfc0
  obtain ⟨hg₁, hwarm₁, hready₁⟩ := State.classEntry (e := X.2.2.1) XX.warmed hcl
  generalize T.vm.noted X.2.2.2.2.2.1.cls index (.cls (G.2.1 5)) = vm₁ at hg₁ hwarm₁ hready₁
  obtain ⟨kA₁, hkA₁, heA⟩ := hwarm₁.alike.2.2 _ _ hkA
  obtain ⟨kI₁, hkI₁, heI⟩ := hwarm₁.alike.2.2 _ _ hkI
  have X₁ := XX.noted hwarm₁
  have XF := mu_X X₁ (G.2.1 5) (G.2.1 0) n.toNatClampNeg k.toNatClampNeg n.toNatClampNeg
  obtain ⟨f1, f2, f3, f4, f5, f6⟩ := mu_F (T.setVm vm₁) (G.2.1 5) (G.2.1 0) n.toNatClampNeg k.toNatClampNeg n.toNatClampNeg
  have hsz : (T.setVm vm₁).heap.size = sz := by show T.heap.size = sz; rw [hT, a1]
  have hheap : (T.setVm vm₁).heap = H := hT
  obtain ⟨hr1, hr2⟩ := XX.roomAbove (a := 1 + n.toNatClampNeg) (b := n.toNatClampNeg + n.toNatClampNeg * k.toNatClampNeg) (by rw [hR]; show nc + (1 + n.toNatClampNeg) ≤ mc0; omega) (by rw [hR]; show ns + (n.toNatClampNeg + n.toNatClampNeg * k.toNatClampNeg) ≤ ms0; omega)
  refine Exists.elim (kk (mu_S (T.setVm vm₁) (G.2.1 5) (G.2.1 0) n.toNatClampNeg k.toNatClampNeg n.toNatClampNeg).heap (locs ++ (List.range n.toNatClampNeg).map fun j => ⟨(T.setVm vm₁).heap.size, j⟩) ls (by rw [f1, hsz]) ?_ ?_ ?_ a5 _ rfl XF) ?_
  · intro a e ha
    simp only at ha
    by_cases h1 : a = sz
    · subst h1
      rw [if_pos rfl] at ha
      cases ha
      show _ = some (vp_cell _ _)
      rw [vp_cell_q, ← hsz, f2]
      congr 2
      funext j
      by_cases hj : j < n.toNatClampNeg
      · rw [if_pos hj, if_pos hj]; rfl
      · rw [if_neg hj, if_neg hj]; rfl
    · rw [if_neg h1] at ha
      by_cases h2 : sz < a ∧ a < sz + 1 + n.toNatClampNeg
      · rw [if_pos h2] at ha
        cases ha
        show _ = some (vp_cell _ _)
        rw [vp_cell_i]
        have := f6 (a - (sz + 1)) (by omega)
        rw [hsz, show sz + 1 + (a - (sz + 1)) = a by omega] at this
        exact this
      · rw [if_neg h2] at ha
        have hlt := (a2 a e ha).lt
        refine (a2 a e ha).kept ?_
        show (mu_S (T.setVm vm₁) (G.2.1 5) (G.2.1 0) n.toNatClampNeg k.toNatClampNeg n.toNatClampNeg).heap[a]? = _
        rw [f5 a (by rw [hsz, ← a1]; exact hlt), hheap]
  · intro a ha
    by_cases h1 : a = sz
    · exact hC.2.2.2.2.2.1 a (by rw [h1, ← a1]; exact a4.1)
    · simp only [if_neg h1] at ha
      by_cases h2 : sz < a ∧ a < sz + 1 + n.toNatClampNeg
      · exact hC.2.2.2.2.2.1 a (Nat.le_trans a4.1 (by rw [a1]; omega))
      · rw [if_neg h2] at ha
        exact a3 a ha
  · refine ⟨Nat.le_trans a4.1 (by rw [f1, hsz, a1]; omega), fun x h1 h2 => ?_, fun q hq => ?_⟩
    · rw [f5 x (by rw [hsz, ← a1]; exact Nat.lt_of_lt_of_le h1 a4.1), hheap]
      exact a4.2.1 x h1 h2
    · rcases List.mem_append.mp hq with h | h
      · exact a4.2.2 q h
      · obtain ⟨z, -, hz⟩ := List.mem_map.mp h
        rw [← hz]
        exact hC.2.2.2.2.2.1 _ (by show _ ≤ (T.setVm vm₁).heap.size; rw [hsz, ← a1]; exact a4.1)
  · rintro t ⟨b0, b1⟩
    refine ⟨t, ?_, b1⟩
    have e1 : ¬ n.toNatClampNeg > X.2.2.1.platform.arrayLengthLimit := by rw [Launch.admits_arrayLengthLimit XX.admits]; omega
    have e2 : ¬ n.toNatClampNeg * 4 > X.2.2.1.platform.maxHeapBytes := by rw [Launch.admits_maxHeapBytes XX.admits]; omega
    have e3 : ¬ k.toNatClampNeg > X.2.2.1.platform.arrayLengthLimit := by rw [Launch.admits_arrayLengthLimit XX.admits]; omega
    have e4 : ¬ k.toNatClampNeg * 4 > X.2.2.1.platform.maxHeapBytes := by rw [Launch.admits_maxHeapBytes XX.admits]; omega
    have hdc : decode X.2.2.2.2.2.2.2.2.2.code pc = .ok (.multianewarray index 2, 4) := by rw [hC.2.1]; exact hd
    jvm_step XX.here [hC.1, hdc]
    simp only [Op.multianewarray.sem, wp_bind', W.resolveClassAt_links (State.method?_setTop (F0 X.2.2.2.2.2.1 pc ls (.int k :: .int n :: st)) XX.here.top) hg₁]
    rw [W.popN, if_neg (by decide)]
    refine ⟨F0 X.2.2.2.2.2.1 pc ls (.int k :: .int n :: st), State.topJava?_setTop' (s := T.setVm vm₁) _ XX.here.top, [.int n, .int k], st, rfl, rfl, ?_⟩
    simp only [List.mapM_cons, List.mapM_nil, wp_bind', wp_pure']
    refine mu_make (kA := kA₁) (kI := kI₁) (cA := G.2.1 5) (cI := G.2.1 0) (cc := cm) hkA₁ (by rw [heA]; exact hkindA) hkI₁ (by rw [heI]; exact hkkI) hn hk e1 e2 e3 e4 (by show T.heap.size + 1 + _ ≤ _; omega) (by show T.slotsUsed + _ + _ ≤ _; omega) (fun d' acts' => ?_)
    have eS : ((T.setTop (F0 X.2.2.2.2.2.1 pc ls (.int k :: .int n :: st))).setVm vm₁).setTop (F0 X.2.2.2.2.2.1 pc ls st) = (T.setVm vm₁).setTop (F0 X.2.2.2.2.2.1 pc ls st) := by
      show ((T.setVm vm₁).setTop (F0 X.2.2.2.2.2.1 pc ls (.int k :: .int n :: st))).setTop _ = _
      rw [State.setTop_setTop]
    rw [eS, mu_top]
    simp only [wp_bind', W.mark, W.pushRef, State.topJava?_setTop' _ XF.here.top, Option.some.injEq, exists_eq_left', State.setTop_setTop, State.heap_setTop]
    intro acts
    simp [jvm, XF.here.top]
    have b2 := b0
    rw [← hsz] at b2
    exact b2
end PNC
