/-! the same rows as the shadows' proofs want them: what is new gets a name -/
def pl_sub : List (Option Value) → List (Option Value) → Prop
  | [], _ => True
  | none :: t, _ :: u => pl_sub t u
  | some v :: t, w :: u => w = some v ∧ pl_sub t u
  | none :: t, [] => pl_sub t []
  | some _ :: _, [] => False
theorem pl_sub_spec : ∀ (L' L : List (Option Value)), pl_sub L' L → ∀ (i : Nat) (v : Value), L'[i]? = some (some v) → L[i]? = some (some v)
  | [], _, _, i, v, h => by simp at h
  | none :: t, w :: u, hs, 0, v, h => by cases h
  | none :: t, w :: u, hs, i + 1, v, h => pl_sub_spec t u hs i v h
  | some x :: t, w :: u, hs, 0, v, h => by cases h; exact congrArg some hs.1
  | some x :: t, w :: u, hs, i + 1, v, h => pl_sub_spec t u hs.2 i v h
  | none :: t, [], hs, 0, v, h => by cases h
  | none :: t, [], hs, i + 1, v, h => by have := pl_sub_spec t [] hs i v h; simp at this
section PV
variable {X : px_X} {G : px_D} {A : Nat → Prop} {Q : State → Prop} {pc : Nat} {L : List (Option Value)} {st rest : List Value} {h h0 : pe_H} {sz nc ns : Nat} {cc : ByteArray} {own : String} {nL : Nat} {Y : px_Y} {U : Um} {o c k N index : Nat}
theorem pv_sub (L' : List (Option Value)) (hs : pl_sub L' L) (kk : pw X G A Q pc L' st h sz nc ns) : pw X G A Q pc L st h sz nc ns := pr_sub (pl_sub_spec L' L hs) kk
theorem pv_topi {v : Int32} (kk : ∀ x : Int32, x = v → pw X G A Q pc L (.int x :: st) h sz nc ns) : pw X G A Q pc L (.int v :: st) h sz nc ns := kk v rfl
theorem pv_topl {v : Int64} (kk : ∀ x : Int64, x = v → pw X G A Q pc L (.long x :: st) h sz nc ns) : pw X G A Q pc L (.long v :: st) h sz nc ns := kk v rfl
theorem pv_topf {v : UInt32} (kk : ∀ x : UInt32, x = v → pw X G A Q pc L (.float x :: st) h sz nc ns) : pw X G A Q pc L (.float v :: st) h sz nc ns := kk v rfl
theorem pv_topo {v : Nat} (kk : ∀ x : Nat, x = v → pw X Y.1 A Q pc L (.ref (Y.2.1 x) :: st) h sz nc ns) : pw X Y.1 A Q pc L (.ref (Y.2.1 v) :: st) h sz nc ns := kk v rfl
theorem pv_iinc (hC : px_C X G A cc own nL) {i : Nat} {n : Int} {x v : Int32} (hd : decode cc pc = .ok (.iinc i n, 3)) (hl : L[i]? = some (some (.int x))) (hn : i < nL) (ho : pl_ok L i = true) (hv : x + Int32.ofInt n = v) (k : ∀ y : Int32, y = v → pw X G A Q (pc + 3) (L.set i (some (.int y))) st h sz nc ns) : pw X G A Q pc L st h sz nc ns := pr_iinc hC hd hl hn ho (k _ hv)
theorem pv_p0 (hC : px_C X Y.1 A cc own nL) {ty : FieldType} {x : Int32} (hf : pp_ok own index c N k ty false) (hd : decode cc pc = .ok (.putfield index, 3)) (hU : rF Y h0 U h) (ho : oc o = c) (hc : c < 11) (hN : on c = N) (hk : kf c k = 0) (hn : narrow ty (.int x) = .int x) (hfit : fits ty (.int x) = true) (kk : ∀ (U' : Um) (h' : pe_H), U' = sI U o k x → rF Y h0 U' h' → pw X Y.1 A Q (pc + 3) L st h' sz nc ns) : pw X Y.1 A Q pc L (.int x :: .ref (Y.2.1 o) :: st) h sz nc ns := pu_p0 hC hf hd hU ho hc hN hk hn hfit (fun h' q => kk _ h' rfl q)
theorem pv_p20 (hC : px_C X Y.1 A cc own nL) {ty : FieldType} {x : Int64} (hf : pp_ok own index c N k ty false) (hd : decode cc pc = .ok (.putfield index, 3)) (hU : rF Y h0 U h) (ho : oc o = c) (hc : c < 11) (hN : on c = N) (hk : kf c k = 20) (hn : narrow ty (.long x) = .long x) (hfit : fits ty (.long x) = true) (kk : ∀ (U' : Um) (h' : pe_H), U' = sL U o k x → rF Y h0 U' h' → pw X Y.1 A Q (pc + 3) L st h' sz nc ns) : pw X Y.1 A Q pc L (.long x :: .ref (Y.2.1 o) :: st) h sz nc ns := pu_p20 hC hf hd hU ho hc hN hk hn hfit (fun h' q => kk _ h' rfl q)
theorem pv_p21 (hC : px_C X Y.1 A cc own nL) {ty : FieldType} {t : Nat} (hf : pp_ok own index c N k ty false) (hd : decode cc pc = .ok (.putfield index, 3)) (hU : rF Y h0 U h) (ho : oc o = c) (hc : c < 11) (hN : on c = N) (hk : kf c k = 21 ∨ kf c k = 22 ∧ t ≠ 99) (hn : ∀ a, narrow ty (.ref a) = .ref a) (hfit : ∀ a, fits ty (.ref a) = true) (kk : ∀ (U' : Um) (h' : pe_H), U' = sR U o k t → rF Y h0 U' h' → pw X Y.1 A Q (pc + 3) L st h' sz nc ns) : pw X Y.1 A Q pc L (.ref (Y.2.1 t) :: .ref (Y.2.1 o) :: st) h sz nc ns := pu_p21 hC hf hd hU ho hc hN hk hn hfit (fun h' q => kk _ h' rfl q)
theorem pv_iast (hC : px_C X Y.1 A cc own nL) {i x : Int32} (hd : decode cc pc = .ok (.iastore, 1)) (hU : rF Y h0 U h) (ho : oc o = c) (hk : kf c k = 1) (hi : vp_in i (ln c k)) (kk : ∀ (U' : Um) (h' : pe_H), U' = sA U o k (va_up (uA U o k) i.toNatClampNeg x) → rF Y h0 U' h' → pw X Y.1 A Q (pc + 1) L st h' sz nc ns) : pw X Y.1 A Q pc L (.int x :: .int i :: .ref (Y.2.2 o k) :: st) h sz nc ns := pu_iast hC hd hU ho hk hi (fun h' q => kk _ h' rfl q)
theorem pv_bast (hC : px_C X Y.1 A cc own nL) {i x : Int32} (hd : decode cc pc = .ok (.bastore, 1)) (hU : rF Y h0 U h) (ho : oc o = c) (hk : kf c k = 4) (hi : vp_in i (ln c k)) (kk : ∀ (U' : Um) (h' : pe_H), U' = sA U o k (va_up (uA U o k) i.toNatClampNeg x.toInt8.toInt32) → rF Y h0 U' h' → pw X Y.1 A Q (pc + 1) L st h' sz nc ns) : pw X Y.1 A Q pc L (.int x :: .int i :: .ref (Y.2.2 o k) :: st) h sz nc ns := pu_bast hC hd hU ho hk hi (fun h' q => kk _ h' rfl q)
theorem pv_zast (hC : px_C X Y.1 A cc own nL) {i x : Int32} (hx : narrow .boolean (.int x) = .int x) (hd : decode cc pc = .ok (.bastore, 1)) (hU : rF Y h0 U h) (ho : oc o = c) (hk : kf c k = 5) (hi : vp_in i (ln c k)) (kk : ∀ (U' : Um) (h' : pe_H), U' = sA U o k (va_up (uA U o k) i.toNatClampNeg x) → rF Y h0 U' h' → pw X Y.1 A Q (pc + 1) L st h' sz nc ns) : pw X Y.1 A Q pc L (.int x :: .int i :: .ref (Y.2.2 o k) :: st) h sz nc ns := pu_zast hC hx hd hU ho hk hi (fun h' q => kk _ h' rfl q)
theorem pv_iast7 (hC : px_C X Y.1 A cc own nL) {i x : Int32} {i2 : Nat} (hd : decode cc pc = .ok (.iastore, 1)) (hU : rF Y h0 U h) (ho : oc o = c) (hk : kf c k = 6) (hi2 : i2 < ln c k) (hi : vp_in i (ln2 c k)) (kk : ∀ (U' : Um) (h' : pe_H), U' = sA U o (ki k i2) (va_up (uA U o (ki k i2)) i.toNatClampNeg x) → rF Y h0 U' h' → pw X Y.1 A Q (pc + 1) L st h' sz nc ns) : pw X Y.1 A Q pc L (.int x :: .int i :: .ref (Y.2.2 o (ki k i2)) :: st) h sz nc ns := pu_iast7 hC hd hU ho hk hi2 hi (fun h' q => kk _ h' rfl q)
theorem pv_last (hC : px_C X Y.1 A cc own nL) {i : Int32} {x : Int64} (hd : decode cc pc = .ok (.lastore, 1)) (hU : rF Y h0 U h) (ho : oc o = c) (hk : kf c k = 2) (hi : vp_in i (ln c k)) (kk : ∀ (U' : Um) (h' : pe_H), U' = sJ U o k (va_up (uJ U o k) i.toNatClampNeg x) → rF Y h0 U' h' → pw X Y.1 A Q (pc + 1) L st h' sz nc ns) : pw X Y.1 A Q pc L (.long x :: .int i :: .ref (Y.2.2 o k) :: st) h sz nc ns := pu_last hC hd hU ho hk hi (fun h' q => kk _ h' rfl q)
theorem pv_fast (hC : px_C X Y.1 A cc own nL) {i : Int32} {x : UInt32} (hd : decode cc pc = .ok (.fastore, 1)) (hU : rF Y h0 U h) (ho : oc o = c) (hk : kf c k = 3) (hi : vp_in i (ln c k)) (kk : ∀ (U' : Um) (h' : pe_H), U' = sF U o k (va_up (uF U o k) i.toNatClampNeg x) → rF Y h0 U' h' → pw X Y.1 A Q (pc + 1) L st h' sz nc ns) : pw X Y.1 A Q pc L (.float x :: .int i :: .ref (Y.2.2 o k) :: st) h sz nc ns := pu_fast hC hd hU ho hk hi (fun h' q => kk _ h' rfl q)
/-! posts by the type of the answer -/
def pq_i (post : Int32 → Um → Prop) : Option Value → Um → Prop := fun v U => ∃ r : Int32, v = some (.int r) ∧ post r U
def pq_l (post : Int64 → Um → Prop) : Option Value → Um → Prop := fun v U => ∃ r : Int64, v = some (.long r) ∧ post r U
def pq_v (post : Um → Prop) : Option Value → Um → Prop := fun v U => v = none ∧ post U
def pm_P (Y : px_Y) (h0 : pe_H) (sz : Nat) (p : Option Value → Um → Prop) : Option Value → pe_H → Nat → Prop := fun v h1 sz1 => ∃ U', p v U' ∧ rF Y h0 U' h1 ∧ sz1 = sz
theorem um_of {l : Launch} {d : Nat} {y : MethodName} {cc : ByteArray} {maxL : Nat} {ret : Option FieldType} {As : List Value} {p : Option Value → Um → Prop} (hy : plainName y.cls = true) (hsl : (lg_sl As).length ≤ maxL) (L : List (Option Value)) (hL : pl_arg As ++ List.replicate (maxL - (pl_arg As).length) none = L)
    (body : ∀ (X : px_X) (h0 h : pe_H) (sz : Nat), px_M l X Y.1 h sz y cc maxL ret d 0 0 → rF Y h0 U h → pw X Y.1 (pm_A h sz) (pm_E X Y.1 h sz 0 0 (pm_P Y h0 sz p)) 0 L [] h sz 0 0) : um l Y d y cc maxL ret As U p :=
  fun h0 h sz hU => pm_of hy hsl L hL (fun X hM => body X h0 h sz hM hU)
section PVR
variable {hh : pe_H} {d : Nat} {l : Launch} {y : MethodName}
theorem pv_iret {v : Int32} {post : Int32 → Um → Prop} (hM : px_M l X Y.1 hh sz y cc nL (some .int) d 0 0) (hd : decode cc pc = .ok (.ireturn, 1)) (hU : rF Y h0 U h) (hp : post v U) : pw X Y.1 (pm_A hh sz) (pm_E X Y.1 hh sz 0 0 (pm_P Y h0 sz (pq_i post))) pc L [.int v] h sz 0 0 := pr_iret hM hd ⟨U, ⟨v, rfl, hp⟩, hU, rfl⟩
theorem pv_zret {v : Int32} {post : Int32 → Um → Prop} (hM : px_M l X Y.1 hh sz y cc nL (some .boolean) d 0 0) (hd : decode cc pc = .ok (.ireturn, 1)) (hn : v = 0 ∨ v = 1) (hU : rF Y h0 U h) (hp : post v U) : pw X Y.1 (pm_A hh sz) (pm_E X Y.1 hh sz 0 0 (pm_P Y h0 sz (pq_i post))) pc L [.int v] h sz 0 0 := pr_zret hM hd (by rcases hn with rfl | rfl <;> rfl) ⟨U, ⟨v, rfl, hp⟩, hU, rfl⟩
theorem pv_lret {v : Int64} {post : Int64 → Um → Prop} (hM : px_M l X Y.1 hh sz y cc nL (some .long) d 0 0) (hd : decode cc pc = .ok (.lreturn, 1)) (hU : rF Y h0 U h) (hp : post v U) : pw X Y.1 (pm_A hh sz) (pm_E X Y.1 hh sz 0 0 (pm_P Y h0 sz (pq_l post))) pc L [.long v] h sz 0 0 := pr_lret hM hd ⟨U, ⟨v, rfl, hp⟩, hU, rfl⟩
theorem pv_vret {post : Um → Prop} (hM : px_M l X Y.1 hh sz y cc nL none d 0 0) (hd : decode cc pc = .ok (.return_, 1)) (hU : rF Y h0 U h) (hp : post U) : pw X Y.1 (pm_A hh sz) (pm_E X Y.1 hh sz 0 0 (pm_P Y h0 sz (pq_v post))) pc L [] h sz 0 0 := pr_vret hM hd ⟨U, ⟨rfl, hp⟩, hU, rfl⟩
end PVR
section PVC
variable {d0 mc0 ms0 : Nat} {y : MethodName} {cc' : ByteArray} {maxL n d : Nat} {ret : Option FieldType} {As : List Value}
theorem vc_Vi (hC : px_C X Y.1 A cc own nL) (hR : X.2.2.2.1 = pm_rm d0 mc0 ms0) (As : List Value) {post : Int32 → Um → Prop}
    (hq : pc_V own index y cc' maxL ret n) (hd : decode cc pc = .ok (.invokevirtual index, 3)) (hU : rF Y h0 U h) (hM : um X.2.1 Y d y cc' maxL ret (.ref (Y.2.1 o) :: As) U (pq_i post)) (ho : oc o = c) (hc : c < 11) (hci : (vwCl[c]?).map (fun q => q.1) = some y.cls)
    (hst : st = As.reverse ++ .ref (Y.2.1 o) :: rest) (hn : As.length = n) (hW : (rest.map fun v => v.category).sum ≤ 8) (hd0 : d + 1 ≤ d0) (hmc : nc ≤ mc0) (hms : ns ≤ ms0)
    (kk : ∀ (r : Int32) (U' : Um) (h' : pe_H), post r U' → rF Y h0 U' h' → pw X Y.1 A Q (pc + 3) L (.int r :: rest) h' sz nc ns) : pw X Y.1 A Q pc L st h sz nc ns :=
  uc_V hC hR hq hd hU hM ho hc hci hst hn hW hd0 hmc hms (fun v U' h' ⟨r, e, hp⟩ hU' => by subst e; exact kk r U' h' hp hU')
theorem vc_Vl (hC : px_C X Y.1 A cc own nL) (hR : X.2.2.2.1 = pm_rm d0 mc0 ms0) (As : List Value) {post : Int64 → Um → Prop}
    (hq : pc_V own index y cc' maxL ret n) (hd : decode cc pc = .ok (.invokevirtual index, 3)) (hU : rF Y h0 U h) (hM : um X.2.1 Y d y cc' maxL ret (.ref (Y.2.1 o) :: As) U (pq_l post)) (ho : oc o = c) (hc : c < 11) (hci : (vwCl[c]?).map (fun q => q.1) = some y.cls)
    (hst : st = As.reverse ++ .ref (Y.2.1 o) :: rest) (hn : As.length = n) (hW : (rest.map fun v => v.category).sum ≤ 8) (hd0 : d + 1 ≤ d0) (hmc : nc ≤ mc0) (hms : ns ≤ ms0)
    (kk : ∀ (r : Int64) (U' : Um) (h' : pe_H), post r U' → rF Y h0 U' h' → pw X Y.1 A Q (pc + 3) L (.long r :: rest) h' sz nc ns) : pw X Y.1 A Q pc L st h sz nc ns :=
  uc_V hC hR hq hd hU hM ho hc hci hst hn hW hd0 hmc hms (fun v U' h' ⟨r, e, hp⟩ hU' => by subst e; exact kk r U' h' hp hU')
theorem vc_Vv (hC : px_C X Y.1 A cc own nL) (hR : X.2.2.2.1 = pm_rm d0 mc0 ms0) (As : List Value) {post : Um → Prop}
    (hq : pc_V own index y cc' maxL ret n) (hd : decode cc pc = .ok (.invokevirtual index, 3)) (hU : rF Y h0 U h) (hM : um X.2.1 Y d y cc' maxL ret (.ref (Y.2.1 o) :: As) U (pq_v post)) (ho : oc o = c) (hc : c < 11) (hci : (vwCl[c]?).map (fun q => q.1) = some y.cls)
    (hst : st = As.reverse ++ .ref (Y.2.1 o) :: rest) (hn : As.length = n) (hW : (rest.map fun v => v.category).sum ≤ 8) (hd0 : d + 1 ≤ d0) (hmc : nc ≤ mc0) (hms : ns ≤ ms0)
    (kk : ∀ (U' : Um) (h' : pe_H), post U' → rF Y h0 U' h' → pw X Y.1 A Q (pc + 3) L rest h' sz nc ns) : pw X Y.1 A Q pc L st h sz nc ns :=
  uc_V hC hR hq hd hU hM ho hc hci hst hn hW hd0 hmc hms (fun v U' h' ⟨e, hp⟩ hU' => by subst e; exact kk U' h' hp hU')
theorem vc_Si (hC : px_C X Y.1 A cc own nL) (hR : X.2.2.2.1 = pm_rm d0 mc0 ms0) (As : List Value) {post : Int32 → Um → Prop}
    (hq : pc_S own index y cc' maxL ret n) (hd : decode cc pc = .ok (.invokestatic index, 3)) (hU : rF Y h0 U h) (hM : um X.2.1 Y d y cc' maxL ret As U (pq_i post))
    (hst : st = As.reverse ++ rest) (hn : As.length = n) (hW : (rest.map fun v => v.category).sum ≤ 8) (hd0 : d + 1 ≤ d0) (hmc : nc ≤ mc0) (hms : ns ≤ ms0)
    (kk : ∀ (r : Int32) (U' : Um) (h' : pe_H), post r U' → rF Y h0 U' h' → pw X Y.1 A Q (pc + 3) L (.int r :: rest) h' sz nc ns) : pw X Y.1 A Q pc L st h sz nc ns :=
  uc_S hC hR hq hd hU hM hst hn hW hd0 hmc hms (fun v U' h' ⟨r, e, hp⟩ hU' => by subst e; exact kk r U' h' hp hU')
theorem vc_Sl (hC : px_C X Y.1 A cc own nL) (hR : X.2.2.2.1 = pm_rm d0 mc0 ms0) (As : List Value) {post : Int64 → Um → Prop}
    (hq : pc_S own index y cc' maxL ret n) (hd : decode cc pc = .ok (.invokestatic index, 3)) (hU : rF Y h0 U h) (hM : um X.2.1 Y d y cc' maxL ret As U (pq_l post))
    (hst : st = As.reverse ++ rest) (hn : As.length = n) (hW : (rest.map fun v => v.category).sum ≤ 8) (hd0 : d + 1 ≤ d0) (hmc : nc ≤ mc0) (hms : ns ≤ ms0)
    (kk : ∀ (r : Int64) (U' : Um) (h' : pe_H), post r U' → rF Y h0 U' h' → pw X Y.1 A Q (pc + 3) L (.long r :: rest) h' sz nc ns) : pw X Y.1 A Q pc L st h sz nc ns :=
  uc_S hC hR hq hd hU hM hst hn hW hd0 hmc hms (fun v U' h' ⟨r, e, hp⟩ hU' => by subst e; exact kk r U' h' hp hU')
end PVC
/-! a table of jumps -/
theorem pv_table (hC : px_C X G A cc own nL) {dflt lo hi : Int} {offs : Array Int} {len : Nat} {x : Int32} (hd : decode cc pc = .ok (.tableswitch dflt lo hi offs, len)) (td : Nat) (htd : (pc : Int) + dflt = (td : Int)) (kd : (x.toInt < lo ∨ hi < x.toInt) → pw X G A Q td L st h sz nc ns)
    (kk : ¬ (x.toInt < lo ∨ hi < x.toInt) → ∃ (off : Int) (tgt : Nat), offs[(x.toInt - lo).toNat]? = some off ∧ (pc : Int) + off = (tgt : Int) ∧ pw X G A Q tgt L st h sz nc ns) : pw X G A Q pc L (.int x :: st) h sz nc ns := by
  by_cases q : x.toInt < lo ∨ hi < x.toInt
  · exact pr_tableOut hC td hd htd q (kd q)
  · obtain ⟨off, tgt, h1, h2, h3⟩ := kk q
    exact pr_tableIn hC tgt hd (fun z => q (Or.inl z)) (fun z => q (Or.inr z)) h1 h2 h3
end PV
