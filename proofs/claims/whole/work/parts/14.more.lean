/-! odds and ends for the shadows -/
theorem pv_nz {x : Int32} (h : x = 0 ∨ x = 1) : narrow .boolean (.int x) = .int x := by rcases h with rfl | rfl <;> rfl
theorem vp_lt {i : Int32} {n : Nat} (h : vp_in i n) : i.toNatClampNeg < n := Nat.not_le.mp fun q => h (Or.inr q)
theorem oc_ne99 {t : Nat} (h : oc t = 8) : t ≠ 99 := fun e => by subst e; revert h; decide
theorem ro_z2 (K : Nat → Nat) : ("WhistleRoster$Week", "LIMITS", "[I", Value.ref (K 2)) ∈ ro_Z K := by simp [ro_Z]
theorem ro_t2 (K : Nat → Nat) : (FieldType.int, K 2, 3, fun j : Nat => Value.int (if j = 0 then 6 else if j = 1 then 8 else 10)) ∈ ro_T K := by simp [ro_T]
theorem pv_look01 {x : Int32} {a b d : Int} (h0 : ¬ x = 0) (h1 : ¬ x = 1) : Op.lookupswitch.offset [(0, a), (1, b)] d x.toInt = d := by
  rw [lv_osw (k := 0) (a := 0) h0 rfl, lv_osw (k := 1) (a := 1) h1 rfl]
  rfl
section PL
variable {X : px_X} {A : Nat → Prop} {Q : State → Prop} {pc : Nat} {L : List (Option Value)} {st rest : List Value} {h h0 : pe_H} {sz nc ns : Nat} {cc : ByteArray} {own : String} {nL : Nat} {Y : px_Y} {U : Um} {o c k N index : Nat}
theorem pu_len1 (hC : px_C X Y.1 A cc own nL) (hd : decode cc pc = .ok (.arraylength, 1)) (hU : rF Y h0 U h) (ho : oc o = c) (hk : kf c k = 1) {v : Int32} (hv : Int32.ofNat (ln c k) = v) (kk : pw X Y.1 A Q (pc + 1) L (.int v :: st) h sz nc ns) : pw X Y.1 A Q pc L (.ref (Y.2.2 o k) :: st) h sz nc ns := by
  subst ho
  exact pr_alen hC (t0 := 0) hd (hU.2.1.2.1 o k hk) rfl hv kk
theorem pu_len3 (hC : px_C X Y.1 A cc own nL) (hd : decode cc pc = .ok (.arraylength, 1)) (hU : rF Y h0 U h) (ho : oc o = c) (hk : kf c k = 3) {v : Int32} (hv : Int32.ofNat (ln c k) = v) (kk : pw X Y.1 A Q (pc + 1) L (.int v :: st) h sz nc ns) : pw X Y.1 A Q pc L (.ref (Y.2.2 o k) :: st) h sz nc ns := by
  subst ho
  exact pr_alen hC (t0 := 2) hd (hU.2.1.2.2.2.1 o k hk) rfl hv kk
theorem pt_ty8 {T : Nat → ClassId} {c k : Nat} : ∃ ty, (pt_tys T)[rt c k]? = some (T (rt c k), ty) := by
  unfold rt
  split <;> exact ⟨_, rfl⟩
theorem pu_len8 (hC : px_C X Y.1 A cc own nL) (hd : decode cc pc = .ok (.arraylength, 1)) (hU : rF Y h0 U h) (ho : oc o = c) (hk : kf c k = 8) {v : Int32} (hv : Int32.ofNat (ln c k) = v) (kk : pw X Y.1 A Q (pc + 1) L (.int v :: st) h sz nc ns) : pw X Y.1 A Q pc L (.ref (Y.2.2 o k) :: st) h sz nc ns := by
  subst ho
  obtain ⟨ty, hty⟩ := pt_ty8 (T := Y.1.2.1) (c := oc o) (k := k)
  exact pr_alen hC (t0 := rt (oc o) k) hd (hU.2.1.2.2.2.2.2.2.2.2 o k hk) hty hv kk
end PL
/-! the entry of a method of a class that has natives beside it -/
theorem pm_WF {l : Launch} {y : MethodName} {ws ws' : List Cond} {rm : Room} {Pc : Array Value → State → Prop} {Qc : Array Value → State → Outcome → State → Prop} {mc ms : Nat} {free : Addr → Prop} {cc : ByteArray} {maxL : Nat} {ret : Option FieldType}
    (hy : plainFor y = true) (hw : ws = Cond.code y cc maxL ret :: ws')
    (body : ∀ p e s m args below meth c s₁, BodyLoose p l y (headSpec ws rm) cc maxL ret e s m args below meth c s₁ → c.maxLocals = maxL → Pc args s →
      W p l e (headSpec ws rm).room s m args below meth c s.heap [] 0 0 (MQ below Qc args s mc ms free) (entryFrame m args maxL)) : Met l y ws rm Pc Qc mc ms free := by
  refine MetFree.of_bodySF (code := cc) (maxLocals := maxL) (ret := ret) hy ?_ ?_
  · intro args s m h hn
    obtain ⟨meth, c, h1, h2, h3, h4, h5, h6, -, -⟩ := Cond.code_spec hn (atoms_spec (ws := ws) h _ (by rw [hw]; exact List.mem_cons_self))
    exact ⟨meth, c, h1, h2, h3, h4, h5, h6⟩
  · intro p e s m args below meth c s₁ B hml hP _
    have hh0 : s₁.heap = s.heap := by rw [B.state]; rfl
    obtain ⟨t, a1, o, b1, b2, b3⟩ := body p e s m args below meth c s₁ B hml hP s₁ hh0 (Stand.of_body B)
    exact ⟨t, o, a1, b1, b2, ⟨b3.1, b3.2⟩⟩
theorem pm_ofF {l : Launch} {G : px_D} {d : Nat} {y : MethodName} {cc : ByteArray} {maxL : Nat} {ret : Option FieldType} {As : List Value} {h : pe_H} {sz mc ms : Nat} {post : Option Value → pe_H → Nat → Prop} (hy : plainFor y = true) (hsl : (lg_sl As).length ≤ maxL) (L : List (Option Value)) (hL : pl_arg As ++ List.replicate (maxL - (pl_arg As).length) none = L)
    (body : ∀ X : px_X, px_M l X G h sz y cc maxL ret d mc ms → pw X G (pm_A h sz) (pm_E X G h sz mc ms post) 0 L [] h sz 0 0) : pm l G d y cc maxL ret As h sz mc ms post := by
  refine pm_WF (cc := cc) (maxL := maxL) (ret := ret) hy rfl ?_
  intro p e s m args below meth c s₁ B hml hv
  obtain ⟨rfl, hsz, hP, hK, hR⟩ := hv
  have hts := atoms_spec (ws := .code y cc maxL ret :: lw_g) B.pre
  have hC : px_C (p, l, e, (headSpec (.code y cc maxL ret :: lw_g) (pm_rm d mc ms)).room, s, m, As.toArray, below, meth, c) G (pm_A h sz) cc y.cls maxL :=
    ⟨B.exec, B.bytes, findClass_of_methodNamed B.named, fun w hw => hts w (List.mem_cons_of_mem _ hw), hK, fun q hq => Or.inr (by rw [← hsz]; exact hq), hR, B.notSynchronized, hml⟩
  have hb := body _ ⟨hC, rfl, rfl, B.returns, (name_of_methodNamed B.named B.method).1⟩
  rw [lg_entry_eq]
  have hl := lv_entry As (n := maxL) hsl
  refine hb s.heap [] _ hsz hP (fun a ha => Or.inl ha) va_S.rf ⟨hl.1.trans hml.symm, hl.2.1, fun i v hv => ?_⟩
  refine hl.2.2 (i, v) ?_
  rw [← hL] at hv
  have hi : i < (pl_arg As).length := by
    by_cases hi : i < (pl_arg As).length
    · exact hi
    · rw [List.getElem?_append_right (by omega)] at hv
      have := List.mem_of_getElem? hv
      have := List.eq_of_mem_replicate this
      cases this
  rw [List.getElem?_append_left hi] at hv
  have := pl_arg_mem As 0 i v hv
  simpa using this
theorem um_ofF {l : Launch} {Y : px_Y} {U : Um} {d : Nat} {y : MethodName} {cc : ByteArray} {maxL : Nat} {ret : Option FieldType} {As : List Value} {p : Option Value → Um → Prop} (hy : plainFor y = true) (hsl : (lg_sl As).length ≤ maxL) (L : List (Option Value)) (hL : pl_arg As ++ List.replicate (maxL - (pl_arg As).length) none = L)
    (body : ∀ (X : px_X) (h0 h : pe_H) (sz : Nat), px_M l X Y.1 h sz y cc maxL ret d 0 0 → rF Y h0 U h → pw X Y.1 (pm_A h sz) (pm_E X Y.1 h sz 0 0 (pm_P Y h0 sz p)) 0 L [] h sz 0 0) : um l Y d y cc maxL ret As U p :=
  fun h0 h sz hU => pm_ofF hy hsl L hL (fun X hM => body X h0 h sz hM hU)
