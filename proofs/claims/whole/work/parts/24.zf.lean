/-! ldc_w of a float -/
theorem vz_ldcwF {p : Program} {l : Launch} {e : Env} {R : Room} {s T : State} {m : MethodId} {args : Array Value} {below : List Frame} {meth : Method} {c : Code} {locs : List Loc} {cells slots : Nat} (X : Stand p l e R s m args below meth c T locs cells slots) (hexec : p.tables.exec = Jvm.exec) {own : String} {index : Nat} {v : UInt32} (hown : s.vm.findClass own = some m.cls)
    (hconst : (Cond.constantFloat own index v).before args s = true) {g : JFrame} (hg : g.method = m) (hdg : decode c.code g.pc = .ok (.ldc_w index, 3)) :
    ∀ target, Steps p.tables e below (T.setTop { g with pc := g.pc + 3, stack := .float v :: g.stack }) target → Steps p.tables e below (T.setTop g) target := by
  obtain ⟨k, cf, hk, hcf, hcp⟩ := Cond.constantFloat_spec hown hconst
  obtain ⟨k', hk', he⟩ := X.warmed.alike.2.2 _ _ hk
  intro target hrest
  subst hg
  jvm_step X.here [hexec, hdg, Op.ldc_w.wp_float (s := T) (f := g) X.here.top hk' (by rw [he]; exact hcf) hcp]
  exact hrest
theorem pr_ldcwf {X : px_X} {G : px_D} {A : Nat → Prop} {Q : State → Prop} {pc : Nat} {L : List (Option Value)} {st : List Value} {h : pe_H} {sz nc ns : Nat} {cc : ByteArray} {own : String} {nL : Nat} (hC : px_C X G A cc own nL) {index : Nat} (v : UInt32) (hd : decode cc pc = .ok (.ldc_w index, 3)) (hw : Cond.constantFloat own index v ∈ lw_g) (k : pw X G A Q (pc + 3) L (.float v :: st) h sz nc ns) : pw X G A Q pc L st h sz nc ns := by
  intro H locs ls a1 a2 a3 a4 a5 T hT XX
  obtain ⟨t, b0, b1⟩ := k H locs ls a1 a2 a3 a4 a5 T hT XX
  exact ⟨t, vz_ldcwF XX hC.1 hC.2.2.1 (hC.2.2.2.1 _ hw) (g := F0 X.2.2.2.2.2.1 pc ls st) rfl (by rw [hC.2.1]; exact hd) t b0, b1⟩
