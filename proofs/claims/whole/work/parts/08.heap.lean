/-! rows that read and write the heap; contracts and calls -/
/-- field k of class ci, named by entry 'index' of own's pool: to be read -/
def pf_ok (own : String) (index ci N k : Nat) : Prop := ∃ (C : String) (T : u_T), vwCl[ci]? = some (C, T, N) ∧ k < N ∧ Cond.fieldLink own index (T k).1 (T k).2.1 (T k).2.2.1 ∈ lw_g ∧ ∀ w ∈ u_ws C T N, w ∈ lw_g
/-- the same, to be written -/
def pp_ok (own : String) (index ci N k : Nat) (ty : FieldType) (fin : Bool) : Prop := ∃ (C : String) (T : u_T) (ty0 : Nat → FieldType), vwCl[ci]? = some (C, T, N) ∧ k < N ∧ Cond.fieldLink own index (T k).1 (T k).2.1 (T k).2.2.1 ∈ lw_g ∧ (∀ w ∈ u_ws C T N, w ∈ lw_g) ∧ (∀ j, j < N → parseFieldDescriptor (T j).2.2.1 = some (ty0 j)) ∧ (∀ a, a < N → ∀ b, b < N → a ≠ b → (T a).2.1 ≠ (T b).2.1) ∧ (T k).2.2.2 = fin ∧ ty0 k = ty ∧ (fin = true → (T k).1 = own)
section PH
variable {X : px_X} {G : px_D} {A : Nat → Prop} {Q : State → Prop} {pc : Nat} {L : List (Option Value)} {st : List Value} {h : pe_H} {sz nc ns : Nat} {cc : ByteArray} {own : String} {nL : Nat}
theorem pr_get (hC : px_C X G A cc own nL) {index ci N k a : Nat} {F : Nat → Value} {v : Value} (hf : pf_ok own index ci N k) (hd : decode cc pc = .ok (.getfield index, 3)) (ha : h a = some (po ci N F)) (hv : F k = v) (kk : pw X G A Q (pc + 3) L (v :: st) h sz nc ns) : pw X G A Q pc L (.ref a :: st) h sz nc ns := by
  obtain ⟨C, T, hc, hk, hl, hin⟩ := hf
  intro H locs ls a1 a2 a3 a4 a5
  exact va_get (C := C) (T := T) (N := N) hC.1 hC.2.1 hC.2.2.2.1 hin hC.2.2.1 hC.2.2.2.2.1 (pe_one a2 ha) 0 rfl hc k hk (hC.2.2.2.1 _ hl) (fun _ q => q) (by rw [pf_get hk, hv]) hd (kk H locs ls a1 a2 a3 a4 a5)
theorem pr_put (hC : px_C X G A cc own nL) {index ci N k a : Nat} {F : Nat → Value} {v : Value} {ty : FieldType} (hf : pp_ok own index ci N k ty false) (hd : decode cc pc = .ok (.putfield index, 3)) (ha : h a = some (po ci N F)) (hn : narrow ty v = v) (hfit : fits ty v = true) (kk : pw X G A Q (pc + 3) L st (pe_set h a (po ci N (va_up F k v))) sz nc ns) : pw X G A Q pc L (v :: .ref a :: st) h sz nc ns := by
  obtain ⟨C, T, ty0, hc, hk, hl, hin, hty, hnm, hfin, htk, -⟩ := hf
  intro H locs ls a1 a2 a3 a4 a5
  have hts := hC.2.2.2.1
  have hK := hC.2.2.2.2.1
  have hap := va_apart (own := own) hts hin ty0 hty hnm hK hc
  obtain ⟨r, h1, cell, q1, q2, q3, q4⟩ := a2 a _ ha
  have hr : r = (C, T, N) := Option.some.inj (h1.symm.trans hc)
  subst hr
  obtain ⟨hS, hfc, kC, hkC, hkind⟩ := hK.1 ci _ hc
  obtain ⟨cf, kf, fi, f, hi, hsl⟩ := hS k hk
  have hlay := hts _ (hin _ (u_in_lay hk))
  unfold u_lay at hlay
  rw [if_neg (by rw [hfin]; decide)] at hlay
  have hst := (u_facts hfc hkC (u_lays hts hin hk) hi).1
  have h6 := u_store hfc hkC hkind hlay hi (hty k hk) (by rw [htk]; exact hn) (by rw [htk]; exact hfit)
  have hAa : A a := a3 a (by rw [ha]; exact fun q => by cases q)
  refine W.putK hC.1 hC.2.1 (f := f) ⟨hC.2.2.1, hts _ hl, ⟨_, _, _, hi⟩, hst⟩ (by rw [q2]; exact h6) q1 q3 (by rw [hsl]; exact k2_hasslot (q4 k hk)) rfl rfl hd fun H' e1 e2 e3 => ?_
  rw [hsl] at e1 ⊢
  refine kk H' _ ls (by rw [e2]; exact a1) (a2.put ?_ e3) (pe_dom a3 hAa) (a4.put e2 e3 hAa) a5
  refine ⟨(C, T, N), hc, ?_⟩
  rw [← pf_set hk]
  exact t_OB.to (V := updV (vp_V ((List.range N).map F)) k v) ⟨_, e1, q2, q3, t_set q4 hap hk v⟩ (fun j _ => vp_updV_set (by simpa using hk) v j)
theorem pr_putF (hC : px_C X G A cc own nL) {index ci N k a : Nat} {F : Nat → Value} {v : Value} {ty : FieldType} (hf : pp_ok own index ci N k ty true) (hd : decode cc pc = .ok (.putfield index, 3)) (hinit : X.2.2.2.2.2.2.2.2.1.name = "<init>") (ha : h a = some (po ci N F)) (hn : narrow ty v = v) (hfit : fits ty v = true) (kk : pw X G A Q (pc + 3) L st (pe_set h a (po ci N (va_up F k v))) sz nc ns) : pw X G A Q pc L (v :: .ref a :: st) h sz nc ns := by
  obtain ⟨C, T, ty0, hc, hk, hl, hin, hty, hnm, hfin, htk, hdecl⟩ := hf
  intro H locs ls a1 a2 a3 a4 a5
  have hts := hC.2.2.2.1
  have hK := hC.2.2.2.2.1
  have hap := va_apart (own := own) hts hin ty0 hty hnm hK hc
  obtain ⟨r, h1, cell, q1, q2, q3, q4⟩ := a2 a _ ha
  have hr : r = (C, T, N) := Option.some.inj (h1.symm.trans hc)
  subst hr
  obtain ⟨hS, hfc, kC, hkC, hkind⟩ := hK.1 ci _ hc
  obtain ⟨cf, kf, fi, f, hi, hsl⟩ := hS k hk
  have hlay := hts _ (hin _ (u_in_lay hk))
  unfold u_lay at hlay
  rw [if_pos hfin] at hlay
  have hst := (u_facts hfc hkC (u_lays hts hin hk) hi).1
  have hcf : X.2.2.2.2.2.1.cls = cf := by
    obtain ⟨_, _, c', _, _, _, -, -, hf', -, -, -, hown2, -⟩ := Cond.laysFinal_spec hlay
    have e1 : c' = cf := by have := hi.symm.trans hf'; simp at this; exact this.1.symm
    rw [hdecl rfl] at hown2
    rw [← e1]; exact Option.some.inj (hC.2.2.1.symm.trans hown2)
  have h6 := u_fits hfc hkC hkind (Or.inr hlay) hi (hty k hk) (by rw [htk]; exact hn) (by rw [htk]; exact hfit)
  have hAa : A a := a3 a (by rw [ha]; exact fun q => by cases q)
  refine W.putFinK hC.1 hC.2.1 hC.2.2.1 (hts _ hl) hi hst hcf hinit (by rw [q2]; exact h6) q1 q3 (by rw [hsl]; exact k2_hasslot (q4 k hk)) rfl rfl hd fun H' e1 e2 e3 => ?_
  rw [hsl] at e1 ⊢
  refine kk H' _ ls (by rw [e2]; exact a1) (a2.put ?_ e3) (pe_dom a3 hAa) (a4.put e2 e3 hAa) a5
  refine ⟨(C, T, N), hc, ?_⟩
  rw [← pf_set hk]
  exact t_OB.to (V := updV (vp_V ((List.range N).map F)) k v) ⟨_, e1, q2, q3, t_set q4 hap hk v⟩ (fun j _ => vp_updV_set (by simpa using hk) v j)
/-! arrays -/
theorem pr_iaload (hC : px_C X G A cc own nL) {a n : Nat} {i : Int32} {f : Nat → Int32} (hd : decode cc pc = .ok (.iaload, 1)) (ha : h a = some (pa_i G n f)) (hi : vp_in i n) (kk : pw X G A Q (pc + 1) L (.int (f i.toNatClampNeg) :: st) h sz nc ns) : pw X G A Q pc L (.int i :: .ref a :: st) h sz nc ns := fun H locs ls a1 a2 a3 a4 a5 =>
  va_iald hC.1 hC.2.1 hC.2.2.2.2.1 (pe_one a2 ha) 0 0 rfl rfl hi hd (kk H locs ls a1 a2 a3 a4 a5)
theorem pr_laload (hC : px_C X G A cc own nL) {a n : Nat} {i : Int32} {f : Nat → Int64} (hd : decode cc pc = .ok (.laload, 1)) (ha : h a = some (pa_l G n f)) (hi : vp_in i n) (kk : pw X G A Q (pc + 1) L (.long (f i.toNatClampNeg) :: st) h sz nc ns) : pw X G A Q pc L (.int i :: .ref a :: st) h sz nc ns := fun H locs ls a1 a2 a3 a4 a5 =>
  va_lald hC.1 hC.2.1 hC.2.2.2.2.1 (pe_one a2 ha) 0 1 rfl rfl hi hd (kk H locs ls a1 a2 a3 a4 a5)
theorem pr_faload (hC : px_C X G A cc own nL) {a n : Nat} {i : Int32} {f : Nat → UInt32} (hd : decode cc pc = .ok (.faload, 1)) (ha : h a = some (pa_f G n f)) (hi : vp_in i n) (kk : pw X G A Q (pc + 1) L (.float (f i.toNatClampNeg) :: st) h sz nc ns) : pw X G A Q pc L (.int i :: .ref a :: st) h sz nc ns := fun H locs ls a1 a2 a3 a4 a5 =>
  va_fald hC.1 hC.2.1 hC.2.2.2.2.1 (pe_one a2 ha) 0 2 rfl rfl hi hd (kk H locs ls a1 a2 a3 a4 a5)
theorem pr_baload (hC : px_C X G A cc own nL) {a n : Nat} {i : Int32} {f : Nat → Int32} (hd : decode cc pc = .ok (.baload, 1)) (ha : h a = some (pa_b G n f)) (hi : vp_in i n) (kk : pw X G A Q (pc + 1) L (.int (f i.toNatClampNeg) :: st) h sz nc ns) : pw X G A Q pc L (.int i :: .ref a :: st) h sz nc ns := fun H locs ls a1 a2 a3 a4 a5 =>
  va_bald hC.1 hC.2.1 hC.2.2.2.2.1 (pe_one a2 ha) 0 3 rfl rfl hi hd (kk H locs ls a1 a2 a3 a4 a5)
theorem pr_zaload (hC : px_C X G A cc own nL) {a n : Nat} {i : Int32} {f : Nat → Int32} (hd : decode cc pc = .ok (.baload, 1)) (ha : h a = some (pa_z G n f)) (hi : vp_in i n) (kk : pw X G A Q (pc + 1) L (.int (f i.toNatClampNeg) :: st) h sz nc ns) : pw X G A Q pc L (.int i :: .ref a :: st) h sz nc ns := fun H locs ls a1 a2 a3 a4 a5 =>
  va_zald hC.1 hC.2.1 hC.2.2.2.2.1 (pe_one a2 ha) 0 4 rfl rfl hi hd (kk H locs ls a1 a2 a3 a4 a5)
/-- a row of references: of what type (places 5 to 8 of pt_tys) -/
def pt_ref (k : Nat) : Prop := ∃ (ty : FieldType), ty.isReference = true ∧ ∀ T : Nat → ClassId, (pt_tys T)[k]? = some (T k, ty)
theorem pt_ref5 : pt_ref 5 := ⟨.array .int, rfl, fun _ => rfl⟩
theorem pt_ref6 : pt_ref 6 := ⟨.object "WhistleRoster$Roster", rfl, fun _ => rfl⟩
theorem pt_ref7 : pt_ref 7 := ⟨.object "WhistleRoster$Shelf", rfl, fun _ => rfl⟩
theorem pt_ref8 : pt_ref 8 := ⟨.object "WhistleRoster$Game", rfl, fun _ => rfl⟩
theorem pr_aaload (hC : px_C X G A cc own nL) {a n k b : Nat} {i : Int32} {f : Nat → Option Nat} (hk : pt_ref k) (hd : decode cc pc = .ok (.aaload, 1)) (ha : h a = some (pa_r G k n f)) (hi : vp_in i n) (hv : f i.toNatClampNeg = some b) (kk : pw X G A Q (pc + 1) L (.ref b :: st) h sz nc ns) : pw X G A Q pc L (.int i :: .ref a :: st) h sz nc ns := by
  obtain ⟨ty, hty, ht⟩ := hk
  intro H locs ls a1 a2 a3 a4 a5
  have hlt : i.toNatClampNeg < n := Nat.not_le.mp fun q => hi (Or.inr q)
  refine W.aald (v := .ref b) (ty := ty) hC.1 hC.2.1 (a2 a _ ha) ((hC.2.2.2.2.1.2 k _ (ht _)).1 n (fun j => va_rf (f j))) hty (fun q => by cases q) (by show ¬ (i < 0 ∨ (arrV _ _ _).slots.size ≤ _); rw [arrV_size]; exact hi) ?_ rfl rfl hd (kk H locs ls a1 a2 a3 a4 a5)
  show (arrV _ _ _).slots[_]? = _
  rw [arrV_read _ _ hlt, hv]
  rfl
theorem pr_iastore (hC : px_C X G A cc own nL) {a n : Nat} {i x : Int32} {f : Nat → Int32} (hd : decode cc pc = .ok (.iastore, 1)) (ha : h a = some (pa_i G n f)) (hi : vp_in i n) (kk : pw X G A Q (pc + 1) L st (pe_set h a (pa_i G n (va_up f i.toNatClampNeg x))) sz nc ns) : pw X G A Q pc L (.int x :: .int i :: .ref a :: st) h sz nc ns := by
  intro H locs ls a1 a2 a3 a4 a5
  have hAa : A a := a3 a (by rw [ha]; exact fun q => by cases q)
  refine W.iast hC.1 hC.2.1 (a2 a _ ha) ((hC.2.2.2.2.1.2 0 _ rfl).1 n (fun j => .int (f j))) (fun q => by cases q) (by show ¬ (i < 0 ∨ (arrV _ _ _).slots.size ≤ _); rw [arrV_size]; exact hi) rfl rfl hd fun H1 e z oq => ?_
  refine kk H1 _ ls (by rw [z]; exact a1) (a2.put ?_ oq) (pe_dom a3 hAa) (a4.put z oq hAa) a5
  show H1[a]? = some (vp_cell _ _)
  rw [e]
  rw [vp_cell_i, vp_cell_i, arrV_store]
  congr 2
  funext q
  by_cases hq : q = i.toNatClampNeg
  · subst hq
    simp [updV, va_up]
  · simp [updV, va_up, hq]
theorem pr_lastore (hC : px_C X G A cc own nL) {a n : Nat} {i : Int32} {x : Int64} {f : Nat → Int64} (hd : decode cc pc = .ok (.lastore, 1)) (ha : h a = some (pa_l G n f)) (hi : vp_in i n) (kk : pw X G A Q (pc + 1) L st (pe_set h a (pa_l G n (va_up f i.toNatClampNeg x))) sz nc ns) : pw X G A Q pc L (.long x :: .int i :: .ref a :: st) h sz nc ns := by
  intro H locs ls a1 a2 a3 a4 a5
  have hAa : A a := a3 a (by rw [ha]; exact fun q => by cases q)
  refine W.last hC.1 hC.2.1 (a2 a _ ha) ((hC.2.2.2.2.1.2 1 _ rfl).1 n (fun j => .long (f j))) (fun q => by cases q) (by show ¬ (i < 0 ∨ (arrV _ _ _).slots.size ≤ _); rw [arrV_size]; exact hi) rfl rfl hd fun H1 e z oq => ?_
  refine kk H1 _ ls (by rw [z]; exact a1) (a2.put ?_ oq) (pe_dom a3 hAa) (a4.put z oq hAa) a5
  show H1[a]? = some (vp_cell _ _)
  rw [e]
  rw [vp_cell_l, vp_cell_l, arrV_store]
  congr 2
  funext q
  by_cases hq : q = i.toNatClampNeg
  · subst hq
    simp [updV, va_up]
  · simp [updV, va_up, hq]
theorem pr_fastore (hC : px_C X G A cc own nL) {a n : Nat} {i : Int32} {x : UInt32} {f : Nat → UInt32} (hd : decode cc pc = .ok (.fastore, 1)) (ha : h a = some (pa_f G n f)) (hi : vp_in i n) (kk : pw X G A Q (pc + 1) L st (pe_set h a (pa_f G n (va_up f i.toNatClampNeg x))) sz nc ns) : pw X G A Q pc L (.float x :: .int i :: .ref a :: st) h sz nc ns := by
  intro H locs ls a1 a2 a3 a4 a5
  have hAa : A a := a3 a (by rw [ha]; exact fun q => by cases q)
  refine W.fast hC.1 hC.2.1 (a2 a _ ha) ((hC.2.2.2.2.1.2 2 _ rfl).1 n (fun j => .float (f j))) (fun q => by cases q) (by show ¬ (i < 0 ∨ (arrV _ _ _).slots.size ≤ _); rw [arrV_size]; exact hi) rfl rfl hd fun H1 e z oq => ?_
  refine kk H1 _ ls (by rw [z]; exact a1) (a2.put ?_ oq) (pe_dom a3 hAa) (a4.put z oq hAa) a5
  show H1[a]? = some (vp_cell _ _)
  rw [e]
  rw [vp_cell_f, vp_cell_f, arrV_store]
  congr 2
  funext q
  by_cases hq : q = i.toNatClampNeg
  · subst hq
    simp [updV, va_up]
  · simp [updV, va_up, hq]
theorem pr_bastore (hC : px_C X G A cc own nL) {a n : Nat} {i x : Int32} {f : Nat → Int32} (hd : decode cc pc = .ok (.bastore, 1)) (ha : h a = some (pa_b G n f)) (hi : vp_in i n) (kk : pw X G A Q (pc + 1) L st (pe_set h a (pa_b G n (va_up f i.toNatClampNeg x.toInt8.toInt32))) sz nc ns) : pw X G A Q pc L (.int x :: .int i :: .ref a :: st) h sz nc ns := by
  intro H locs ls a1 a2 a3 a4 a5
  have hAa : A a := a3 a (by rw [ha]; exact fun q => by cases q)
  refine W.bast hC.1 hC.2.1 (a2 a _ ha) ((hC.2.2.2.2.1.2 3 _ rfl).1 n (fun j => .int (f j))) (fun q => by cases q) (by show ¬ (i < 0 ∨ (arrV _ _ _).slots.size ≤ _); rw [arrV_size]; exact hi) rfl rfl hd fun H1 e z oq => ?_
  refine kk H1 _ ls (by rw [z]; exact a1) (a2.put ?_ oq) (pe_dom a3 hAa) (a4.put z oq hAa) a5
  show H1[a]? = some (vp_cell _ _)
  rw [e]
  rw [vp_cell_i, vp_cell_i, arrV_store]
  congr 2
  funext q
  by_cases hq : q = i.toNatClampNeg
  · subst hq
    simp [updV, va_up, narrow]
  · simp [updV, va_up, hq]
theorem pr_zastore (hC : px_C X G A cc own nL) {a n : Nat} {i x : Int32} {f : Nat → Int32} (hx : narrow .boolean (.int x) = .int x) (hd : decode cc pc = .ok (.bastore, 1)) (ha : h a = some (pa_z G n f)) (hi : vp_in i n) (kk : pw X G A Q (pc + 1) L st (pe_set h a (pa_z G n (va_up f i.toNatClampNeg x))) sz nc ns) : pw X G A Q pc L (.int x :: .int i :: .ref a :: st) h sz nc ns := by
  intro H locs ls a1 a2 a3 a4 a5
  have hAa : A a := a3 a (by rw [ha]; exact fun q => by cases q)
  refine W.zast hC.1 hC.2.1 (a2 a _ ha) ((hC.2.2.2.2.1.2 4 _ rfl).1 n (fun j => .int (f j))) (fun q => by cases q) (by show ¬ (i < 0 ∨ (arrV _ _ _).slots.size ≤ _); rw [arrV_size]; exact hi) rfl rfl hd fun H1 e z oq => ?_
  refine kk H1 _ ls (by rw [z]; exact a1) (a2.put ?_ oq) (pe_dom a3 hAa) (a4.put z oq hAa) a5
  show H1[a]? = some (vp_cell _ _)
  rw [e, hx]
  rw [vp_cell_i, vp_cell_i, arrV_store]
  congr 2
  funext q
  by_cases hq : q = i.toNatClampNeg
  · subst hq
    simp [updV, va_up]
  · simp [updV, va_up, hq]
theorem pr_alen (hC : px_C X G A cc own nL) {a t0 : Nat} {x : vp_A} {v : Int32} {ty : FieldType} (hd : decode cc pc = .ok (.arraylength, 1)) (ha : h a = some (.inl (G.2.1 t0, x))) (ht : (pt_tys G.2.1)[t0]? = some (G.2.1 t0, ty)) (hv : Int32.ofNat x.1 = v) (kk : pw X G A Q (pc + 1) L (.int v :: st) h sz nc ns) : pw X G A Q pc L (.ref a :: st) h sz nc ns := fun H locs ls a1 a2 a3 a4 a5 =>
  va_alen hC.1 hC.2.1 hC.2.2.2.2.1 (pe_one a2 ha) 0 t0 rfl ht hv hd (kk H locs ls a1 a2 a3 a4 a5)
/-! statics, constant rows -/
theorem pr_gets (hC : px_C X G A cc own nL) {index : Nat} {C n d : String} {v : Value} (hl : Cond.fieldLink own index C n d ∈ lw_g) (hz : (C, n, d, v) ∈ ro_Z G.2.2) (hd : decode cc pc = .ok (.getstatic index, 3)) (kk : pw X G A Q (pc + 3) L (v :: st) h sz nc ns) : pw X G A Q pc L st h sz nc ns := fun H locs ls a1 a2 a3 a4 a5 =>
  va_gets hC.1 hC.2.1 (hC.2.2.2.2.2.2.1.1 _ hz) a4 hC.2.2.1 (hC.2.2.2.1 _ hl) (fun _ q => q) hd (kk H locs ls a1 a2 a3 a4 a5)
theorem pr_ialoadR (hC : px_C X G A cc own nL) {t n : Nat} {i x : Int32} {f : Nat → Value} (hz : (FieldType.int, t, n, f) ∈ ro_T G.2.2) (hd : decode cc pc = .ok (.iaload, 1)) (hi : vp_in i n) (hv : f i.toNatClampNeg = .int x) (kk : pw X G A Q (pc + 1) L (.int x :: st) h sz nc ns) : pw X G A Q pc L (.int i :: .ref t :: st) h sz nc ns := by
  intro H locs ls a1 a2 a3 a4 a5
  obtain ⟨cell, g1, g2, g3, g4, -, g6, -⟩ := (hC.2.2.2.2.2.2.1.2.1 _ hz).kept a4.2.1
  have hlt : i.toNatClampNeg < n := Nat.not_le.mp fun q => hi (Or.inr q)
  exact W.iald hC.1 hC.2.1 g1 g2 g3 (fun q => by rcases q with q | q; exact hi (Or.inl q); exact Nat.not_le.mpr hlt (Nat.le_trans g4 q)) (by rw [g6 _ hlt]; exact congrArg some hv) rfl rfl hd (kk H locs ls a1 a2 a3 a4 a5)
end PH
/-! contracts -/
def pm_rm (d mc ms : Nat) : Room := { frames := d, cells := mc, slots := ms, locals := 40 * d }
def pm_A (h : pe_H) (sz : Nat) : Nat → Prop := fun q => h q ≠ none ∨ sz ≤ q
def pm_Pc (G : px_D) (As : List Value) (h : pe_H) (sz : Nat) : Array Value → State → Prop := fun v U => v = As.toArray ∧ U.heap.size = sz ∧ pe_W G.1 h U.heap ∧ va_K G.1 vwCl (pt_tys G.2.1) U ∧ pr_RO G.2.2 (pm_A h sz) U U.heap
def pm_Qc (G : px_D) (h : pe_H) (sz : Nat) (post : Option Value → pe_H → Nat → Prop) : Array Value → State → Outcome → State → Prop := fun _ st o t => (∃ (v : Option Value) (h1 : pe_H), o = .returned v ∧ post v h1 t.heap.size ∧ pe_W G.1 h1 t.heap ∧ ∀ a, h1 a ≠ none → pm_A h sz a) ∧ va_F (pm_A h sz) st t
/-- from the heap h of sz cells, the method y returns, with what post says; at most mc cells of ms slots come; d: how deep calls go -/
def pm (l : Launch) (G : px_D) (d : Nat) (y : MethodName) (cc : ByteArray) (maxL : Nat) (ret : Option FieldType) (As : List Value) (h : pe_H) (sz mc ms : Nat) (post : Option Value → pe_H → Nat → Prop) : Prop := Met l y (.code y cc maxL ret :: lw_g) (pm_rm d mc ms) (pm_Pc G As h sz) (pm_Qc G h sz post) mc ms (pm_A h sz)
def pl_arg : List Value → List (Option Value)
  | [] => []
  | v :: t => if v.category = 2 then some v :: none :: pl_arg t else some v :: pl_arg t
theorem pl_arg_mem : ∀ (As : List Value) (k i : Nat) (v : Value), (pl_arg As)[i]? = some (some v) → (k + i, v) ∈ lv_args k As
  | [], k, i, v, h => by simp [pl_arg] at h
  | w :: t, k, i, v, h => by
    rw [pl_arg] at h
    rw [lv_args]
    by_cases hw : w.category = 2
    · rw [if_pos hw] at h ⊢
      match i, h with
      | 0, h => cases h; exact List.mem_cons_self
      | 1, h => cases h
      | i + 2, h =>
        have := pl_arg_mem t (k + 2) i v h
        rw [show k + (i + 2) = k + 2 + i by omega]
        exact List.mem_cons_of_mem _ this
    · rw [if_neg hw] at h ⊢
      match i, h with
      | 0, h => cases h; exact List.mem_cons_self
      | i + 1, h =>
        have := pl_arg_mem t (k + 1) i v h
        rw [show k + (i + 1) = k + 1 + i by omega]
        exact List.mem_cons_of_mem _ this
/-- where a method ends -/
def pm_E (X : px_X) (G : px_D) (h : pe_H) (sz mc ms : Nat) (post : Option Value → pe_H → Nat → Prop) : State → Prop := MQ X.2.2.2.2.2.2.2.1 (pm_Qc G h sz post) X.2.2.2.2.2.2.1 X.2.2.2.2.1 mc ms (pm_A h sz)
/-- what a method's walk may use -/
def px_M (l : Launch) (X : px_X) (G : px_D) (h : pe_H) (sz : Nat) (y : MethodName) (cc : ByteArray) (maxL : Nat) (ret : Option FieldType) (d mc ms : Nat) : Prop :=
  px_C X G (pm_A h sz) cc y.cls maxL ∧ X.2.1 = l ∧ X.2.2.2.1 = pm_rm d mc ms ∧ X.2.2.2.2.2.2.2.2.1.sig.returnType = ret ∧ X.2.2.2.2.2.2.2.2.1.name = y.name
theorem pm_of {l : Launch} {G : px_D} {d : Nat} {y : MethodName} {cc : ByteArray} {maxL : Nat} {ret : Option FieldType} {As : List Value} {h : pe_H} {sz mc ms : Nat} {post : Option Value → pe_H → Nat → Prop} (hy : plainName y.cls = true) (hsl : (lg_sl As).length ≤ maxL) (L : List (Option Value)) (hL : pl_arg As ++ List.replicate (maxL - (pl_arg As).length) none = L)
    (body : ∀ X : px_X, px_M l X G h sz y cc maxL ret d mc ms → pw X G (pm_A h sz) (pm_E X G h sz mc ms post) 0 L [] h sz 0 0) : pm l G d y cc maxL ret As h sz mc ms post := by
  refine Met.ofW (cc := cc) (maxL := maxL) (ret := ret) hy rfl ?_
  intro p e s m args below meth c s₁ B hml hv
  obtain ⟨rfl, hsz, hP, hK, hR⟩ := hv
  have hts := atoms_spec (ws := .code y cc maxL ret :: lw_g) B.pre
  have hC : px_C (p, l, e, (headSpec (.code y cc maxL ret :: lw_g) (pm_rm d mc ms)).room, s, m, As.toArray, below, meth, c) G (pm_A h sz) cc y.cls maxL :=
    ⟨B.exec, B.bytes, findClass_of_methodNamed B.named, fun w hw => hts w (List.mem_cons_of_mem _ hw), hK, fun q hq => Or.inr (by rw [← hsz]; exact hq), hR, B.notSynchronized, hml⟩
  have hb := body _ ⟨hC, rfl, rfl, B.returns, (name_of_methodNamed B.named B.method).1⟩
  rw [lg_entry_eq]
  have hl := lv_entry As (n := maxL) hsl
  refine hb s.heap [] _ hsz hP (fun a ha => Or.inl ha) va_S.rf ⟨hl.1.trans hml.symm, hl.2.1, fun i v hv => ?_⟩
  refine hl.2.2 (i, v) ?_
  rw [← hL] at hv
  have hi : i < (pl_arg As).length := by
    by_cases hi : i < (pl_arg As).length
    · exact hi
    · rw [List.getElem?_append_right (by omega)] at hv
      have := List.mem_of_getElem? hv
      have := List.eq_of_mem_replicate this
      cases this
  rw [List.getElem?_append_left hi] at hv
  have := pl_arg_mem As 0 i v hv
  simpa using this
section PE
variable {X : px_X} {G : px_D} {pc : Nat} {L : List (Option Value)} {h h0 : pe_H} {sz sz0 nc ns d mc ms : Nat} {cc : ByteArray} {nL : Nat} {l : Launch} {y : MethodName} {post : Option Value → pe_H → Nat → Prop}
theorem pr_iret {v : Int32} (hM : px_M l X G h0 sz0 y cc nL (some .int) d mc ms) (hd : decode cc pc = .ok (.ireturn, 1)) (hp : post (some (.int v)) h sz) : pw X G (pm_A h0 sz0) (pm_E X G h0 sz0 mc ms post) pc L [.int v] h sz mc ms := fun H locs ls a1 a2 a3 a4 a5 =>
  W.iret (v := v) hM.1.1 hM.1.2.1 hM.2.2.2.1 (fun t ht hW => ⟨⟨_, h, rfl, by rw [ht, a1]; exact hp, by rw [ht]; exact a2, a3⟩, a4.F ht⟩) a4.2.2 hd hM.1.2.2.2.2.2.2.2.1
theorem pr_zret {v : Int32} (hM : px_M l X G h0 sz0 y cc nL (some .boolean) d mc ms) (hd : decode cc pc = .ok (.ireturn, 1)) (hn : narrow .boolean (.int v) = .int v) (hp : post (some (.int v)) h sz) : pw X G (pm_A h0 sz0) (pm_E X G h0 sz0 mc ms post) pc L [.int v] h sz mc ms := fun H locs ls a1 a2 a3 a4 a5 =>
  W.zret (v := v) hM.1.1 hM.1.2.1 hM.2.2.2.1 hn (fun t ht hW => ⟨⟨_, h, rfl, by rw [ht, a1]; exact hp, by rw [ht]; exact a2, a3⟩, a4.F ht⟩) a4.2.2 hd hM.1.2.2.2.2.2.2.2.1
theorem pr_cret {v : Int32} (hM : px_M l X G h0 sz0 y cc nL (some .char) d mc ms) (hd : decode cc pc = .ok (.ireturn, 1)) (hn : narrow .char (.int v) = .int v) (hp : post (some (.int v)) h sz) : pw X G (pm_A h0 sz0) (pm_E X G h0 sz0 mc ms post) pc L [.int v] h sz mc ms := fun H locs ls a1 a2 a3 a4 a5 =>
  W.zret (v := v) hM.1.1 hM.1.2.1 hM.2.2.2.1 hn (fun t ht hW => ⟨⟨_, h, rfl, by rw [ht, a1]; exact hp, by rw [ht]; exact a2, a3⟩, a4.F ht⟩) a4.2.2 hd hM.1.2.2.2.2.2.2.2.1
theorem pr_lret {v : Int64} (hM : px_M l X G h0 sz0 y cc nL (some .long) d mc ms) (hd : decode cc pc = .ok (.lreturn, 1)) (hp : post (some (.long v)) h sz) : pw X G (pm_A h0 sz0) (pm_E X G h0 sz0 mc ms post) pc L [.long v] h sz mc ms := fun H locs ls a1 a2 a3 a4 a5 =>
  W.lret (v := v) hM.1.1 hM.1.2.1 hM.2.2.2.1 (fun t ht hW => ⟨⟨_, h, rfl, by rw [ht, a1]; exact hp, by rw [ht]; exact a2, a3⟩, a4.F ht⟩) a4.2.2 hd hM.1.2.2.2.2.2.2.2.1
theorem pr_vret (hM : px_M l X G h0 sz0 y cc nL none d mc ms) (hd : decode cc pc = .ok (.return_, 1)) (hp : post none h sz) : pw X G (pm_A h0 sz0) (pm_E X G h0 sz0 mc ms post) pc L [] h sz mc ms := fun H locs ls a1 a2 a3 a4 a5 =>
  W.vret hM.1.1 hM.1.2.1 hM.2.2.2.1 (fun t ht hW => ⟨⟨_, h, rfl, by rw [ht, a1]; exact hp, by rw [ht]; exact a2, a3⟩, a4.F ht⟩) a4.2.2 hd hM.1.2.2.2.2.2.2.2.1
theorem pr_aret {a : Nat} {C : String} (hM : px_M l X G h0 sz0 y cc nL (some (.object C)) d mc ms) (hd : decode cc pc = .ok (.areturn, 1)) (hp : post (some (.ref a)) h sz) : pw X G (pm_A h0 sz0) (pm_E X G h0 sz0 mc ms post) pc L [.ref a] h sz mc ms := fun H locs ls a1 a2 a3 a4 a5 =>
  W.aret (v := .ref a) hM.1.1 hM.1.2.1 hM.2.2.2.1 (Or.inl ⟨_, rfl⟩) (Or.inr ⟨_, rfl⟩) (fun t ht hW => ⟨⟨_, h, rfl, by rw [ht, a1]; exact hp, by rw [ht]; exact a2, a3⟩, a4.F ht⟩) a4.2.2 hd hM.1.2.2.2.2.2.2.2.1
theorem pr_aretN {C : String} (hM : px_M l X G h0 sz0 y cc nL (some (.object C)) d mc ms) (hd : decode cc pc = .ok (.areturn, 1)) (hp : post (some .null) h sz) : pw X G (pm_A h0 sz0) (pm_E X G h0 sz0 mc ms post) pc L [.null] h sz mc ms := fun H locs ls a1 a2 a3 a4 a5 =>
  W.aret (v := .null) hM.1.1 hM.1.2.1 hM.2.2.2.1 (Or.inl ⟨_, rfl⟩) (Or.inl rfl) (fun t ht hW => ⟨⟨_, h, rfl, by rw [ht, a1]; exact hp, by rw [ht]; exact a2, a3⟩, a4.F ht⟩) a4.2.2 hd hM.1.2.2.2.2.2.2.2.1
end PE
