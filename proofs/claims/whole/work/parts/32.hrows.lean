/-! the heap by distances from its first new cell; the rows of constructors over it -/
def tu (t : Nat → Option va_E) (c : Nat) (e : va_E) : Nat → Option va_E := fun a => if a = c then some e else t a
theorem tu_eq {t : Nat → Option va_E} {c : Nat} {e : va_E} : tu t c e c = some e := if_pos rfl
theorem tu_ne {t : Nat → Option va_E} {a c : Nat} {e : va_E} (h : a ≠ c) : tu t c e a = t a := if_neg h
def hT (h0 : pe_H) (b : Nat) (t : Nat → Option va_E) : pe_H := fun a => if a < b then h0 a else t (a - b)
theorem hT_at {h0 : pe_H} {b c : Nat} {t : Nat → Option va_E} : hT h0 b t (b + c) = t c := by
  unfold hT
  rw [if_neg (by omega), Nat.add_sub_cancel_left]
theorem hT_set {h0 : pe_H} {b c : Nat} {t : Nat → Option va_E} {e : va_E} : pe_set (hT h0 b t) (b + c) e = hT h0 b (tu t c e) := by
  funext a
  unfold pe_set hT tu
  by_cases h1 : a = b + c
  · rw [if_pos h1, if_neg (by omega), if_pos (by omega)]
  · rw [if_neg h1]
    by_cases h2 : a < b
    · rw [if_pos h2, if_pos h2]
    · rw [if_neg h2, if_neg h2, if_neg (by omega)]
/-- n rows of k ints from place c on -/
def tmu (G : px_D) (b : Nat) (t : Nat → Option va_E) (c N K : Nat) : Nat → Option va_E := fun a => if a = c then some (pa_r G 5 N (fun j => if j < N then some (b + (c + 1 + j)) else none)) else if c < a ∧ a < c + 1 + N then some (pa_i G K (fun _ => 0)) else t a
theorem tmu_ne {G : px_D} {b a c N K : Nat} {t : Nat → Option va_E} (h : a < c ∨ c + N < a) : tmu G b t c N K a = t a := by
  unfold tmu
  rw [if_neg (by omega), if_neg (by omega)]
theorem tmu_eq {G : px_D} {b c N K : Nat} {t : Nat → Option va_E} : tmu G b t c N K c = some (pa_r G 5 N (fun j => if j < N then some (b + (c + 1 + j)) else none)) := if_pos rfl
theorem hT_multi {G : px_D} {h0 : pe_H} {b c N K : Nat} {t : Nat → Option va_E} : (fun a => if a = b + c then some (pa_r G 5 N (fun j => if j < N then some (b + c + 1 + j) else none)) else if b + c < a ∧ a < b + c + 1 + N then some (pa_i G K (fun _ => 0)) else hT h0 b t a) = hT h0 b (tmu G b t c N K) := by
  funext a
  unfold hT tmu
  by_cases h2 : a < b
  · rw [if_neg (by omega), if_neg (by omega), if_pos h2, if_pos h2]
  · rw [if_neg h2, if_neg h2]
    by_cases h1 : a = b + c
    · rw [if_pos h1, if_pos (by omega)]
      congr 2
      funext j
      rw [show b + c + 1 + j = b + (c + 1 + j) by omega]
    · rw [if_neg h1, if_neg (show ¬ a - b = c by omega)]
      by_cases h3 : b + c < a ∧ a < b + c + 1 + N
      · rw [if_pos h3, if_pos (show c < a - b ∧ a - b < c + 1 + N by omega)]
      · rw [if_neg h3, if_neg (show ¬ (c < a - b ∧ a - b < c + 1 + N) by omega)]
def dF (c : Nat) : Nat → Value := fun j => if kf c j = 0 then .int 0 else if kf c j = 20 then .long 0 else .null
def pz_ok (own : String) (index ci N : Nat) : Prop := ∃ (C : String) (T : u_T) (ty0 : Nat → FieldType), vwCl[ci]? = some (C, T, N) ∧ (∀ w ∈ u_ws C T N, w ∈ lw_g) ∧ (∀ j, j < N → parseFieldDescriptor (T j).2.2.1 = some (ty0 j)) ∧ (Cond.classLink own index C ∈ lw_g ∧ Cond.instantiable C N ∈ lw_g ∧ Cond.initialized C ∈ lw_g) ∧ ∀ j, j < N → defaultValue (ty0 j) = dF ci j
/-- where a constructor ends -/
def pq_c (h0 : pe_H) (b : Nat) (t : Nat → Option va_E) (n : Nat) : Option Value → pe_H → Nat → Prop := fun v h1 sz1 => v = none ∧ h1 = hT h0 b t ∧ sz1 = b + n
def cn (l : Launch) (G : px_D) (d : Nat) (y : MethodName) (cc : ByteArray) (maxL : Nat) (As : List Value) (h0 : pe_H) (b : Nat) (t : Nat → Option va_E) (n mc ms : Nat) (t' : Nat → Option va_E) (n' : Nat) : Prop := pn l G d y cc maxL As (hT h0 b t) (b + n) mc ms (pq_c h0 b t' n')
section PG
variable {X : px_X} {G : px_D} {A : Nat → Prop} {Q : State → Prop} {pc : Nat} {L : List (Option Value)} {st rest : List Value} {h0 : pe_H} {b n c nc ns : Nat} {t : Nat → Option va_E} {cc : ByteArray} {own : String} {nL index d0 mc0 ms0 : Nat}
theorem pg_iinc (hC : px_C X G A cc own nL) {i : Nat} {m : Int} {x : Int32} (v : Int32) {h : pe_H} {sz : Nat} (hd : decode cc pc = .ok (.iinc i m, 3)) (hl : L[i]? = some (some (.int x))) (hn : i < nL) (ho : pl_ok L i = true) (hv : x + Int32.ofInt m = v) (k : pw X G A Q (pc + 3) (L.set i (some (.int v))) st h sz nc ns) : pw X G A Q pc L st h sz nc ns := pr_iinc hC hd hl hn ho (by rw [hv]; exact k)
theorem pg_new (hC : px_C X G A cc own nL) (hR : X.2.2.2.1 = pm_rm d0 mc0 ms0) {ci N : Nat} (n' nc' ns' : Nat) (hn : n + 1 = n') (hc : nc + 1 = nc') (hs : ns + N = ns') (hf : pz_ok own index ci N) (hd : decode cc pc = .ok (.new index, 3)) (hmc : nc' ≤ mc0) (hms : ns' ≤ ms0) (kk : pw X G A Q (pc + 3) L (.ref (b + n) :: st) (hT h0 b (tu t n (po ci N (dF ci)))) (b + n') nc' ns') : pw X G A Q pc L st (hT h0 b t) (b + n) nc ns := by
  subst hn; subst hc; subst hs
  obtain ⟨C, T, ty0, q1, q2, q3, q4, q5⟩ := hf
  exact pr_new hC hR q1 q2 q3 q4 q5 hd hmc hms (by rw [hT_set]; exact kk)
theorem pg_newi (hC : px_C X G A cc own nL) (hR : X.2.2.2.1 = pm_rm d0 mc0 ms0) {m : Int32} (N n' nc' ns' : Nat) (hn : n + 1 = n') (hc : nc + 1 = nc') (hs : ns + N = ns') (hw : Cond.arrayClass .int ∈ lw_g) (hd : decode cc pc = .ok (.newarray .int, 2)) (h1 : ¬ m < 0) (h2 : m.toNatClampNeg = N) (h3 : N ≤ 5000) (hmc : nc' ≤ mc0) (hms : ns' ≤ ms0) (kk : pw X G A Q (pc + 2) L (.ref (b + n) :: st) (hT h0 b (tu t n (pa_i G N (fun _ => 0)))) (b + n') nc' ns') : pw X G A Q pc L (.int m :: st) (hT h0 b t) (b + n) nc ns := by
  subst hn; subst hc; subst hs
  exact pr_newa hC hR (atype := .int) (ty := .int) (t0 := 0) (a0 := (N, .inl (fun _ => 0))) rfl hw rfl (fun _ => rfl) h1 h2 (by show N * 4 ≤ _; omega) (fun _ _ h => h) hd hmc hms (by rw [hT_set]; exact kk)
theorem pg_newl (hC : px_C X G A cc own nL) (hR : X.2.2.2.1 = pm_rm d0 mc0 ms0) {m : Int32} (N n' nc' ns' : Nat) (hn : n + 1 = n') (hc : nc + 1 = nc') (hs : ns + N = ns') (hw : Cond.arrayClass .long ∈ lw_g) (hd : decode cc pc = .ok (.newarray .long, 2)) (h1 : ¬ m < 0) (h2 : m.toNatClampNeg = N) (h3 : N ≤ 5000) (hmc : nc' ≤ mc0) (hms : ns' ≤ ms0) (kk : pw X G A Q (pc + 2) L (.ref (b + n) :: st) (hT h0 b (tu t n (pa_l G N (fun _ => 0)))) (b + n') nc' ns') : pw X G A Q pc L (.int m :: st) (hT h0 b t) (b + n) nc ns := by
  subst hn; subst hc; subst hs
  exact pr_newa hC hR (atype := .long) (ty := .long) (t0 := 1) (a0 := (N, .inr (.inl (fun _ => 0)))) rfl hw rfl (fun _ => rfl) h1 h2 (by show N * 8 ≤ _; omega) (fun _ _ h => h) hd hmc hms (by rw [hT_set]; exact kk)
theorem pg_newf (hC : px_C X G A cc own nL) (hR : X.2.2.2.1 = pm_rm d0 mc0 ms0) {m : Int32} (N n' nc' ns' : Nat) (hn : n + 1 = n') (hc : nc + 1 = nc') (hs : ns + N = ns') (hw : Cond.arrayClass .float ∈ lw_g) (hd : decode cc pc = .ok (.newarray .float, 2)) (h1 : ¬ m < 0) (h2 : m.toNatClampNeg = N) (h3 : N ≤ 5000) (hmc : nc' ≤ mc0) (hms : ns' ≤ ms0) (kk : pw X G A Q (pc + 2) L (.ref (b + n) :: st) (hT h0 b (tu t n (pa_f G N (fun _ => 0)))) (b + n') nc' ns') : pw X G A Q pc L (.int m :: st) (hT h0 b t) (b + n) nc ns := by
  subst hn; subst hc; subst hs
  exact pr_newa hC hR (atype := .float) (ty := .float) (t0 := 2) (a0 := (N, .inr (.inr (.inl (fun _ => 0))))) rfl hw rfl (fun _ => rfl) h1 h2 (by show N * 4 ≤ _; omega) (fun _ _ h => h) hd hmc hms (by rw [hT_set]; exact kk)
theorem pg_newb (hC : px_C X G A cc own nL) (hR : X.2.2.2.1 = pm_rm d0 mc0 ms0) {m : Int32} (N n' nc' ns' : Nat) (hn : n + 1 = n') (hc : nc + 1 = nc') (hs : ns + N = ns') (hw : Cond.arrayClass .byte ∈ lw_g) (hd : decode cc pc = .ok (.newarray .byte, 2)) (h1 : ¬ m < 0) (h2 : m.toNatClampNeg = N) (h3 : N ≤ 5000) (hmc : nc' ≤ mc0) (hms : ns' ≤ ms0) (kk : pw X G A Q (pc + 2) L (.ref (b + n) :: st) (hT h0 b (tu t n (pa_b G N (fun _ => 0)))) (b + n') nc' ns') : pw X G A Q pc L (.int m :: st) (hT h0 b t) (b + n) nc ns := by
  subst hn; subst hc; subst hs
  exact pr_newa hC hR (atype := .byte) (ty := .byte) (t0 := 3) (a0 := (N, .inl (fun _ => 0))) rfl hw rfl (fun _ => rfl) h1 h2 (by show N * 1 ≤ _; omega) (fun _ _ h => h) hd hmc hms (by rw [hT_set]; exact kk)
theorem pg_newz (hC : px_C X G A cc own nL) (hR : X.2.2.2.1 = pm_rm d0 mc0 ms0) {m : Int32} (N n' nc' ns' : Nat) (hn : n + 1 = n') (hc : nc + 1 = nc') (hs : ns + N = ns') (hw : Cond.arrayClass .boolean ∈ lw_g) (hd : decode cc pc = .ok (.newarray .boolean, 2)) (h1 : ¬ m < 0) (h2 : m.toNatClampNeg = N) (h3 : N ≤ 5000) (hmc : nc' ≤ mc0) (hms : ns' ≤ ms0) (kk : pw X G A Q (pc + 2) L (.ref (b + n) :: st) (hT h0 b (tu t n (pa_z G N (fun _ => 0)))) (b + n') nc' ns') : pw X G A Q pc L (.int m :: st) (hT h0 b t) (b + n) nc ns := by
  subst hn; subst hc; subst hs
  exact pr_newa hC hR (atype := .boolean) (ty := .boolean) (t0 := 4) (a0 := (N, .inl (fun _ => 0))) rfl hw rfl (fun _ => rfl) h1 h2 (by show N * 1 ≤ _; omega) (fun _ _ h => h) hd hmc hms (by rw [hT_set]; exact kk)
theorem pg_anew (hC : px_C X G A cc own nL) (hR : X.2.2.2.1 = pm_rm d0 mc0 ms0) {m : Int32} (t0 N n' nc' ns' : Nat) {C : String} (hn : n + 1 = n') (hc : nc + 1 = nc') (hs : ns + N = ns') (hl : Cond.classLink own index C ∈ lw_g) (hover : va_AO C X.2.2.2.2.1) (ht : (pt_tys G.2.1)[t0]? = some (G.2.1 t0, .object C)) (hd : decode cc pc = .ok (.anewarray index, 3)) (h1 : ¬ m < 0) (h2 : m.toNatClampNeg = N) (h3 : N ≤ 5000) (hmc : nc' ≤ mc0) (hms : ns' ≤ ms0) (kk : pw X G A Q (pc + 3) L (.ref (b + n) :: st) (hT h0 b (tu t n (pa_r G t0 N (fun _ => none)))) (b + n') nc' ns') : pw X G A Q pc L (.int m :: st) (hT h0 b t) (b + n) nc ns := by
  subst hn; subst hc; subst hs
  exact pr_anew hC hR hl hover ht h1 h2 (by omega) hd hmc hms (by rw [hT_set]; exact kk)
theorem pg_multi (hC : px_C X G A cc own nL) (hE : pe_X G X.2.2.2.2.1) (hR : X.2.2.2.1 = pm_rm d0 mc0 ms0) {m k : Int32} (N K n' nc' ns' : Nat) (hn : n + 1 + N = n') (hc : nc + 1 + N = nc') (hs : ns + N + N * K = ns') (hl : Cond.classLink own index "[[I" ∈ lw_g) (hd : decode cc pc = .ok (.multianewarray index 2, 4)) (h1 : ¬ m < 0) (h2 : m.toNatClampNeg = N) (h3 : ¬ k < 0) (h4 : k.toNatClampNeg = K) (h5 : N ≤ 1000) (h6 : K ≤ 1000) (hmc : nc' ≤ mc0) (hms : ns' ≤ ms0) (kk : pw X G A Q (pc + 4) L (.ref (b + n) :: st) (hT h0 b (tmu G b t n N K)) (b + n') nc' ns') : pw X G A Q pc L (.int k :: .int m :: st) (hT h0 b t) (b + n) nc ns := by
  subst hn; subst hc; subst hs
  refine pr_multi hC hE hR hl h1 h3 h2 h4 h5 h6 hd hmc hms ?_
  rw [hT_multi, show b + n + 1 + N = b + (n + 1 + N) by omega]
  exact kk
theorem pg_get (hC : px_C X G A cc own nL) {sz ci N k : Nat} {F : Nat → Value} {v : Value} (hf : pf_ok own index ci N k) (hd : decode cc pc = .ok (.getfield index, 3)) (ha : t c = some (po ci N F)) (hv : F k = v) (kk : pw X G A Q (pc + 3) L (v :: st) (hT h0 b t) sz nc ns) : pw X G A Q pc L (.ref (b + c) :: st) (hT h0 b t) sz nc ns := pr_get hC hf hd (hT_at.trans ha) hv kk
theorem pg_put (hC : px_C X G A cc own nL) {sz ci N k : Nat} {F : Nat → Value} {v : Value} {ty : FieldType} (hf : pp_ok own index ci N k ty false) (hd : decode cc pc = .ok (.putfield index, 3)) (ha : t c = some (po ci N F)) (hn : narrow ty v = v) (hfit : fits ty v = true) (kk : pw X G A Q (pc + 3) L st (hT h0 b (tu t c (po ci N (va_up F k v)))) sz nc ns) : pw X G A Q pc L (v :: .ref (b + c) :: st) (hT h0 b t) sz nc ns := pr_put hC hf hd (hT_at.trans ha) hn hfit (by rw [hT_set]; exact kk)
theorem pg_putF (hC : px_C X G A cc own nL) {sz ci N k : Nat} {F : Nat → Value} {v : Value} {ty : FieldType} (hf : pp_ok own index ci N k ty true) (hd : decode cc pc = .ok (.putfield index, 3)) (hinit : X.2.2.2.2.2.2.2.2.1.name = "<init>") (ha : t c = some (po ci N F)) (hn : narrow ty v = v) (hfit : fits ty v = true) (kk : pw X G A Q (pc + 3) L st (hT h0 b (tu t c (po ci N (va_up F k v)))) sz nc ns) : pw X G A Q pc L (v :: .ref (b + c) :: st) (hT h0 b t) sz nc ns := pr_putF hC hf hd hinit (hT_at.trans ha) hn hfit (by rw [hT_set]; exact kk)
theorem pg_iald (hC : px_C X G A cc own nL) {sz N : Nat} {i v : Int32} {f : Nat → Int32} (hd : decode cc pc = .ok (.iaload, 1)) (ha : t c = some (pa_i G N f)) (hi : vp_in i N) (hv : f i.toNatClampNeg = v) (kk : pw X G A Q (pc + 1) L (.int v :: st) (hT h0 b t) sz nc ns) : pw X G A Q pc L (.int i :: .ref (b + c) :: st) (hT h0 b t) sz nc ns := pr_iaload hC hd (hT_at.trans ha) hi (by rw [hv]; exact kk)
theorem pg_iast (hC : px_C X G A cc own nL) {sz N : Nat} {i x : Int32} {f : Nat → Int32} (hd : decode cc pc = .ok (.iastore, 1)) (ha : t c = some (pa_i G N f)) (hi : vp_in i N) (kk : pw X G A Q (pc + 1) L st (hT h0 b (tu t c (pa_i G N (va_up f i.toNatClampNeg x)))) sz nc ns) : pw X G A Q pc L (.int x :: .int i :: .ref (b + c) :: st) (hT h0 b t) sz nc ns := pr_iastore hC hd (hT_at.trans ha) hi (by rw [hT_set]; exact kk)
theorem pg_fast (hC : px_C X G A cc own nL) {sz N : Nat} {i : Int32} {x : UInt32} {f : Nat → UInt32} (hd : decode cc pc = .ok (.fastore, 1)) (ha : t c = some (pa_f G N f)) (hi : vp_in i N) (kk : pw X G A Q (pc + 1) L st (hT h0 b (tu t c (pa_f G N (va_up f i.toNatClampNeg x)))) sz nc ns) : pw X G A Q pc L (.float x :: .int i :: .ref (b + c) :: st) (hT h0 b t) sz nc ns := pr_fastore hC hd (hT_at.trans ha) hi (by rw [hT_set]; exact kk)
theorem pg_aast (hC : px_C X G A cc own nL) {sz N t0 ci M v : Nat} {i : Int32} {f : Nat → Option Nat} {F : Nat → Value} {C : String} (hd : decode cc pc = .ok (.aastore, 1)) (ha : t c = some (pa_r G t0 N f)) (hv : t v = some (po ci M F)) (ht : (pt_tys G.2.1)[t0]? = some (G.2.1 t0, .object C)) (hc : (vwCl[ci]?).map (fun q => q.1) = some C) (hi : vp_in i N) (kk : pw X G A Q (pc + 1) L st (hT h0 b (tu t c (pa_r G t0 N (va_up f i.toNatClampNeg (some (b + v)))))) sz nc ns) : pw X G A Q pc L (.ref (b + v) :: .int i :: .ref (b + c) :: st) (hT h0 b t) sz nc ns := pr_aastore hC hd (hT_at.trans ha) (hT_at.trans hv) ht hc hi (by rw [hT_set]; exact kk)
theorem pg_leni (hC : px_C X G A cc own nL) {sz N : Nat} {f : Nat → Int32} {v : Int32} (hd : decode cc pc = .ok (.arraylength, 1)) (ha : t c = some (pa_i G N f)) (hv : Int32.ofNat N = v) (kk : pw X G A Q (pc + 1) L (.int v :: st) (hT h0 b t) sz nc ns) : pw X G A Q pc L (.ref (b + c) :: st) (hT h0 b t) sz nc ns := pr_alen hC (t0 := 0) hd (hT_at.trans ha) rfl hv kk
theorem pg_callI (hC : px_C X G A cc own nL) (hE : pe_X G X.2.2.2.2.1) (hR : X.2.2.2.1 = pm_rm d0 mc0 ms0) {y : MethodName} {cc' : ByteArray} {maxL m d mc ms : Nat} (As : List Value) {t' : Nat → Option va_E} {n' : Nat} (nc' ns' : Nat) (hc : nc + mc = nc') (hs : ns + ms = ns')
    (hq : pc_I own index y cc' maxL m) (hd : decode cc pc = .ok (.invokespecial index, 3)) (hM : cn X.2.1 G d y cc' maxL (.ref (b + c) :: As) h0 b t n mc ms t' n')
    (hst : st = As.reverse ++ .ref (b + c) :: rest) (hn : As.length = m) (hW : (rest.map fun v => v.category).sum ≤ 8) (hd0 : d + 1 ≤ d0) (hmc : nc' ≤ mc0) (hms : ns' ≤ ms0)
    (kk : pw X G A Q (pc + 3) L rest (hT h0 b t') (b + n') nc' ns') : pw X G A Q pc L st (hT h0 b t) (b + n) nc ns := by
  subst hc; subst hs
  exact pr_callIX hC hE hR hq hd hM hst hn hW hd0 hmc hms (fun v h1 sz1 ⟨e1, e2, e3⟩ => by subst e1; subst e2; subst e3; exact kk)
theorem pg_callV (hC : px_C X G A cc own nL) (hE : pe_X G X.2.2.2.2.1) (hR : X.2.2.2.1 = pm_rm d0 mc0 ms0) {y : MethodName} {cc' : ByteArray} {maxL m d mc ms ci N : Nat} {F : Nat → Value} (As : List Value) {t' : Nat → Option va_E} {n' : Nat} (nc' ns' : Nat) (hc : nc + mc = nc') (hs : ns + ms = ns')
    (hq : pc_V own index y cc' maxL none m) (hd : decode cc pc = .ok (.invokevirtual index, 3)) (hM : cn X.2.1 G d y cc' maxL (.ref (b + c) :: As) h0 b t n mc ms t' n') (hb : t c = some (po ci N F)) (hci : (vwCl[ci]?).map (fun q => q.1) = some y.cls)
    (hst : st = As.reverse ++ .ref (b + c) :: rest) (hn : As.length = m) (hW : (rest.map fun v => v.category).sum ≤ 8) (hd0 : d + 1 ≤ d0) (hmc : nc' ≤ mc0) (hms : ns' ≤ ms0)
    (kk : pw X G A Q (pc + 3) L rest (hT h0 b t') (b + n') nc' ns') : pw X G A Q pc L st (hT h0 b t) (b + n) nc ns := by
  subst hc; subst hs
  exact pr_callVX hC hE hR hq hd hM (hT_at.trans hb) hci hst hn hW hd0 hmc hms (fun v h1 sz1 ⟨e1, e2, e3⟩ => by subst e1; subst e2; subst e3; exact kk)
theorem pg_callN (hC : px_C X G A cc RX9 nL) (hE : pe_X G X.2.2.2.2.1) (hR : X.2.2.2.1 = pm_rm d0 mc0 ms0) {d mc ms : Nat} {t' : Nat → Option va_E} {n' : Nat} (nc' ns' : Nat) (hc : nc + mc = nc') (hs : ns + ms = ns')
    (hq : Cond.code yX2_init cX2_init 1 none ∈ lw_g ∧ Cond.initialized RX2 ∈ lw_g ∧ Cond.instanceMethod yX2_init ∈ lw_g) (hd : decode cc pc = .ok (.invokespecial 38, 3)) (hM : cn X.2.1 G d yX2_init cX2_init 1 [.ref (b + c)] h0 b t n mc ms t' n')
    (hst : st = .ref (b + c) :: rest) (hW : (rest.map fun v => v.category).sum ≤ 8) (hd0 : d + 1 ≤ d0) (hmc : nc' ≤ mc0) (hms : ns' ≤ ms0)
    (kk : pw X G A Q (pc + 3) L rest (hT h0 b t') (b + n') nc' ns') : pw X G A Q pc L st (hT h0 b t) (b + n) nc ns := by
  subst hc; subst hs
  exact pr_callIXN hC hE hR hq hd hM hst hW hd0 hmc hms (fun v h1 sz1 ⟨e1, e2, e3⟩ => by subst e1; subst e2; subst e3; exact kk)
theorem pg_ret {l : Launch} {y : MethodName} {hh : pe_H} {sz0 d mc ms : Nat} (hM : px_M l X G hh sz0 y cc nL none d mc ms) (hd : decode cc pc = .ok (.return_, 1)) : pw X G (pm_A hh sz0) (pm_E X G hh sz0 mc ms (pq_c h0 b t n)) pc L [] (hT h0 b t) (b + n) mc ms := pr_vret hM hd ⟨rfl, rfl, rfl⟩
end PG
