/-! odds and ends for the shadows -/
theorem pv_nz {x : Int32} (h : x = 0 ∨ x = 1) : narrow .boolean (.int x) = .int x := by rcases h with rfl | rfl <;> rfl
theorem vp_lt {i : Int32} {n : Nat} (h : vp_in i n) : i.toNatClampNeg < n := Nat.not_le.mp fun q => h (Or.inr q)
theorem oc_ne99 {t : Nat} (h : oc t = 8) : t ≠ 99 := fun e => by subst e; revert h; decide
theorem ro_z2 (K : Nat → Nat) : ("WhistleRoster$Week", "LIMITS", "[I", Value.ref (K 2)) ∈ ro_Z K := by simp [ro_Z]
theorem ro_t2 (K : Nat → Nat) : (FieldType.int, K 2, 3, fun j : Nat => Value.int (if j = 0 then 6 else if j = 1 then 8 else 10)) ∈ ro_T K := by simp [ro_T]
theorem pv_look01 {x : Int32} {a b d : Int} (h0 : ¬ x = 0) (h1 : ¬ x = 1) : Op.lookupswitch.offset [(0, a), (1, b)] d x.toInt = d := by
  rw [lv_osw (k := 0) (a := 0) h0 rfl, lv_osw (k := 1) (a := 1) h1 rfl]
  rfl
section PL
variable {X : px_X} {A : Nat → Prop} {Q : State → Prop} {pc : Nat} {L : List (Option Value)} {st rest : List Value} {h h0 : pe_H} {sz nc ns : Nat} {cc : ByteArray} {own : String} {nL : Nat} {Y : px_Y} {U : Um} {o c k N index : Nat}
theorem pu_len1 (hC : px_C X Y.1 A cc own nL) (hd : decode cc pc = .ok (.arraylength, 1)) (hU : rF Y h0 U h) (ho : oc o = c) (hk : kf c k = 1) {v : Int32} (hv : Int32.ofNat (ln c k) = v) (kk : pw X Y.1 A Q (pc + 1) L (.int v :: st) h sz nc ns) : pw X Y.1 A Q pc L (.ref (Y.2.2 o k) :: st) h sz nc ns := by
  subst ho
  exact pr_alen hC (t0 := 0) hd (hU.2.1.2.1 o k hk) rfl hv kk
theorem pu_len3 (hC : px_C X Y.1 A cc own nL) (hd : decode cc pc = .ok (.arraylength, 1)) (hU : rF Y h0 U h) (ho : oc o = c) (hk : kf c k = 3) {v : Int32} (hv : Int32.ofNat (ln c k) = v) (kk : pw X Y.1 A Q (pc + 1) L (.int v :: st) h sz nc ns) : pw X Y.1 A Q pc L (.ref (Y.2.2 o k) :: st) h sz nc ns := by
  subst ho
  exact pr_alen hC (t0 := 2) hd (hU.2.1.2.2.2.1 o k hk) rfl hv kk
theorem pt_ty8 {T : Nat → ClassId} {c k : Nat} : ∃ ty, (pt_tys T)[rt c k]? = some (T (rt c k), ty) := by
  unfold rt
  split <;> exact ⟨_, rfl⟩
theorem pu_len8 (hC : px_C X Y.1 A cc own nL) (hd : decode cc pc = .ok (.arraylength, 1)) (hU : rF Y h0 U h) (ho : oc o = c) (hk : kf c k = 8) {v : Int32} (hv : Int32.ofNat (ln c k) = v) (kk : pw X Y.1 A Q (pc + 1) L (.int v :: st) h sz nc ns) : pw X Y.1 A Q pc L (.ref (Y.2.2 o k) :: st) h sz nc ns := by
  subst ho
  obtain ⟨ty, hty⟩ := pt_ty8 (T := Y.1.2.1) (c := oc o) (k := k)
  exact pr_alen hC (t0 := rt (oc o) k) hd (hU.2.1.2.2.2.2.2.2.2.2 o k hk) hty hv kk
end PL
/-! System.arraycopy -/
def vp_cp (sp dp n : Int32) (n0 n1 : Nat) : Prop := ¬ sp < 0 ∧ ¬ dp < 0 ∧ ¬ n < 0 ∧ sp.toNatClampNeg + n.toNatClampNeg ≤ n0 ∧ dp.toNatClampNeg + n.toNatClampNeg ≤ n1
section CP
variable {X : px_X} {G : px_D} {A : Nat → Prop} {Q : State → Prop} {pc : Nat} {L : List (Option Value)} {st rest : List Value} {h h0 : pe_H} {sz nc ns : Nat} {cc : ByteArray} {own : String} {nL : Nat} {Y : px_Y} {U : Um} {o c k index : Nat}
theorem pr_copyi (hC : px_C X G A cc own nL) {d mc ms : Nat} (hR : X.2.2.2.1 = pm_rm d mc ms) (hd1 : 2 ≤ d) {a a0 n0 n1 : Nat} {f g : Nat → Int32} {sp dp n : Int32} (hlink : Cond.methodLink own index arraycopyName ∈ lw_g) (hnat : Cond.native arraycopyName ∈ lw_g) (hstat : Cond.static arraycopyName ∈ lw_g) (hini : Cond.initialized "java/lang/System" ∈ lw_g) (hd : decode cc pc = .ok (.invokestatic index, 3)) (ha0 : h a0 = some (pa_i G n0 f)) (ha1 : h a = some (pa_i G n1 g)) (hp : vp_cp sp dp n n0 n1)
    (kk : pw X G A Q (pc + 3) L [] (pe_set h a (pa_i G n1 (va_cpy f g sp.toNatClampNeg dp.toNatClampNeg n.toNatClampNeg))) sz nc ns) : pw X G A Q pc L (.int n :: .int dp :: .ref a :: .int sp :: .ref a0 :: []) h sz nc ns := by
  have nn : ∀ z : Int32, ¬ z < 0 → z.toInt = (z.toNatClampNeg : Int) := by
    intro z hz
    have hz0 : (0 : Int) ≤ z.toInt := by
      have := Int32.not_lt.mp hz
      simpa using Int32.le_iff_toInt_le.mp this
    show z.toInt = ((z.toInt.toNat : Nat) : Int)
    omega
  obtain ⟨h1, h2, h3, h4, h5⟩ := hp
  intro H locs ls a1 a2 a3 a4 a5 T hT XX
  have hts := hC.2.2.2.1
  have hK := hC.2.2.2.2.1
  have hAa : A a := a3 a (by rw [ha1]; exact fun q => by cases q)
  have hc0 : H[a0]? = some (vp_cell (G.2.1 0) (n0, .inl f)) := a2 a0 _ ha0
  have hc1 : H[a]? = some (vp_cell (G.2.1 0) (n1, .inl g)) := a2 a _ ha1
  obtain ⟨-, k0, hk0, cm0, hkk0⟩ := (hK.2 0 _ rfl).1 n0 (fun j => .int (f j))
  obtain ⟨-, k1, hk1, cm1, hkk1⟩ := (hK.2 0 _ rfl).1 n1 (fun j => .int (g j))
  obtain ⟨vm', X', step⟩ := XX.arraycopy hC.1 hC.2.2.1 (hts _ hlink) (hts _ hnat) (hts _ hstat) (hts _ hini) (src := a0) (dst := a) (cs := vp_cell (G.2.1 0) (n0, .inl f)) (cd := vp_cell (G.2.1 0) (n1, .inl g)) (srcPos := sp) (destPos := dp) (n := n) (by rw [hT]; exact hc0) (by rw [hT]; exact hc1)
    (fun _ h => by cases h) (fun _ h => by cases h) (fun h => by cases h) (fun h => by cases h) hk0 hk1 hkk0 hkk1 (by simp [refKind]) h1 h2 h3
    (by rw [nn sp h1, nn n h3]; show ¬ _ > ((arrV (G.2.1 0) n0 (fun j => .int (f j))).slots.size : Int); rw [arrV_size]; omega)
    (by rw [nn dp h2, nn n h3]; show ¬ _ > ((arrV (G.2.1 0) n1 (fun j => .int (g j))).slots.size : Int); rw [arrV_size]; omega)
    (fun vm₁ _ i hi => by
      have e : (vp_cell (G.2.1 0) (n0, .inl f)).slots.getD (sp.toNatClampNeg + i) .null = .int (f (sp.toNatClampNeg + i)) := by
        show (arrV (G.2.1 0) n0 (fun j => .int (f j))).slots.getD _ _ = _
        rw [Array.getD_eq_getD_getElem?, arrV_read _ _ (by omega)]
        rfl
      refine ⟨?_, ?_⟩
      · rw [e]
        rfl
      · rw [e]
        exact trivial)
    (g := F0 X.2.2.2.2.2.1 pc ls (.int n :: .int dp :: .ref a :: .int sp :: .ref a0 :: [])) rfl (by rw [a5.1]) (rest := []) rfl (by rw [hC.2.1]; exact hd) (by rw [hR]; show 1 ≤ d; omega) (by rw [hR]; show 2 * 0 + _ + _ ≤ 40 * d; exact Nat.le_trans (Nat.le_of_ble_eq_true rfl : _ ≤ 40 * 2) (Nat.mul_le_mul_left 40 hd1))
  have e1 : copied (vp_cell (G.2.1 0) (n0, .inl f)) (vp_cell (G.2.1 0) (n1, .inl g)) sp dp n = vp_cell (G.2.1 0) (n1, .inl (va_cpy f g sp.toNatClampNeg dp.toNatClampNeg n.toNatClampNeg)) := va_copied (fun z => .int z) (G.2.1 0) (G.2.1 0) f g h4
  rw [e1] at X' step
  have hl : a < H.size := (Array.getElem?_eq_some_iff.mp hc1).1
  have hheap : ((T.setVm vm').setCell a (vp_cell (G.2.1 0) (n1, .inl (va_cpy f g sp.toNatClampNeg dp.toNatClampNeg n.toNatClampNeg)))).heap = H.setIfInBounds a (vp_cell (G.2.1 0) (n1, .inl (va_cpy f g sp.toNatClampNeg dp.toNatClampNeg n.toNatClampNeg))) := by rw [← hT]; rfl
  have oq : ∀ q : Nat, q ≠ a → (H.setIfInBounds a (vp_cell (G.2.1 0) (n1, .inl (va_cpy f g sp.toNatClampNeg dp.toNatClampNeg n.toNatClampNeg))))[q]? = H[q]? := fun q hq => by simp [Array.getElem?_setIfInBounds, Ne.symm hq]
  obtain ⟨t, b0, b1⟩ := kk _ _ ls (by simpa using a1) (a2.put (show (H.setIfInBounds a _)[a]? = some _ by simp [Array.getElem?_setIfInBounds, hl]) oq) (pe_dom a3 hAa) ⟨by simp; exact a4.1, fun q g1 g2 => by
      rw [oq q (fun e => g2 (by rw [e]; exact hAa))]
      exact a4.2.1 q g1 g2, fun q hq => by
      rcases List.mem_append.mp hq with h | h
      · exact a4.2.2 q h
      · obtain ⟨z, -, hz⟩ := List.mem_map.mp h
        rw [← hz]
        exact hAa⟩ a5 _ hheap X'
  exact ⟨t, step t b0, b1⟩
theorem pr_copyf (hC : px_C X G A cc own nL) {d mc ms : Nat} (hR : X.2.2.2.1 = pm_rm d mc ms) (hd1 : 2 ≤ d) {a a0 n0 n1 : Nat} {f g : Nat → UInt32} {sp dp n : Int32} (hlink : Cond.methodLink own index arraycopyName ∈ lw_g) (hnat : Cond.native arraycopyName ∈ lw_g) (hstat : Cond.static arraycopyName ∈ lw_g) (hini : Cond.initialized "java/lang/System" ∈ lw_g) (hd : decode cc pc = .ok (.invokestatic index, 3)) (ha0 : h a0 = some (pa_f G n0 f)) (ha1 : h a = some (pa_f G n1 g)) (hp : vp_cp sp dp n n0 n1)
    (kk : pw X G A Q (pc + 3) L [] (pe_set h a (pa_f G n1 (va_cpy f g sp.toNatClampNeg dp.toNatClampNeg n.toNatClampNeg))) sz nc ns) : pw X G A Q pc L (.int n :: .int dp :: .ref a :: .int sp :: .ref a0 :: []) h sz nc ns := by
  have nn : ∀ z : Int32, ¬ z < 0 → z.toInt = (z.toNatClampNeg : Int) := by
    intro z hz
    have hz0 : (0 : Int) ≤ z.toInt := by
      have := Int32.not_lt.mp hz
      simpa using Int32.le_iff_toInt_le.mp this
    show z.toInt = ((z.toInt.toNat : Nat) : Int)
    omega
  obtain ⟨h1, h2, h3, h4, h5⟩ := hp
  intro H locs ls a1 a2 a3 a4 a5 T hT XX
  have hts := hC.2.2.2.1
  have hK := hC.2.2.2.2.1
  have hAa : A a := a3 a (by rw [ha1]; exact fun q => by cases q)
  have hc0 : H[a0]? = some (vp_cell (G.2.1 2) (n0, .inr (.inr (.inl f)))) := a2 a0 _ ha0
  have hc1 : H[a]? = some (vp_cell (G.2.1 2) (n1, .inr (.inr (.inl g)))) := a2 a _ ha1
  obtain ⟨-, k0, hk0, cm0, hkk0⟩ := (hK.2 2 _ rfl).1 n0 (fun j => .float (f j))
  obtain ⟨-, k1, hk1, cm1, hkk1⟩ := (hK.2 2 _ rfl).1 n1 (fun j => .float (g j))
  obtain ⟨vm', X', step⟩ := XX.arraycopy hC.1 hC.2.2.1 (hts _ hlink) (hts _ hnat) (hts _ hstat) (hts _ hini) (src := a0) (dst := a) (cs := vp_cell (G.2.1 2) (n0, .inr (.inr (.inl f)))) (cd := vp_cell (G.2.1 2) (n1, .inr (.inr (.inl g)))) (srcPos := sp) (destPos := dp) (n := n) (by rw [hT]; exact hc0) (by rw [hT]; exact hc1)
    (fun _ h => by cases h) (fun _ h => by cases h) (fun h => by cases h) (fun h => by cases h) hk0 hk1 hkk0 hkk1 (by simp [refKind]) h1 h2 h3
    (by rw [nn sp h1, nn n h3]; show ¬ _ > ((arrV (G.2.1 2) n0 (fun j => .float (f j))).slots.size : Int); rw [arrV_size]; omega)
    (by rw [nn dp h2, nn n h3]; show ¬ _ > ((arrV (G.2.1 2) n1 (fun j => .float (g j))).slots.size : Int); rw [arrV_size]; omega)
    (fun vm₁ _ i hi => by
      have e : (vp_cell (G.2.1 2) (n0, .inr (.inr (.inl f)))).slots.getD (sp.toNatClampNeg + i) .null = .float (f (sp.toNatClampNeg + i)) := by
        show (arrV (G.2.1 2) n0 (fun j => .float (f j))).slots.getD _ _ = _
        rw [Array.getD_eq_getD_getElem?, arrV_read _ _ (by omega)]
        rfl
      refine ⟨?_, ?_⟩
      · rw [e]
        rfl
      · rw [e]
        exact trivial)
    (g := F0 X.2.2.2.2.2.1 pc ls (.int n :: .int dp :: .ref a :: .int sp :: .ref a0 :: [])) rfl (by rw [a5.1]) (rest := []) rfl (by rw [hC.2.1]; exact hd) (by rw [hR]; show 1 ≤ d; omega) (by rw [hR]; show 2 * 0 + _ + _ ≤ 40 * d; exact Nat.le_trans (Nat.le_of_ble_eq_true rfl : _ ≤ 40 * 2) (Nat.mul_le_mul_left 40 hd1))
  have e1 : copied (vp_cell (G.2.1 2) (n0, .inr (.inr (.inl f)))) (vp_cell (G.2.1 2) (n1, .inr (.inr (.inl g)))) sp dp n = vp_cell (G.2.1 2) (n1, .inr (.inr (.inl (va_cpy f g sp.toNatClampNeg dp.toNatClampNeg n.toNatClampNeg)))) := va_copied (fun z => .float z) (G.2.1 2) (G.2.1 2) f g h4
  rw [e1] at X' step
  have hl : a < H.size := (Array.getElem?_eq_some_iff.mp hc1).1
  have hheap : ((T.setVm vm').setCell a (vp_cell (G.2.1 2) (n1, .inr (.inr (.inl (va_cpy f g sp.toNatClampNeg dp.toNatClampNeg n.toNatClampNeg)))))).heap = H.setIfInBounds a (vp_cell (G.2.1 2) (n1, .inr (.inr (.inl (va_cpy f g sp.toNatClampNeg dp.toNatClampNeg n.toNatClampNeg))))) := by rw [← hT]; rfl
  have oq : ∀ q : Nat, q ≠ a → (H.setIfInBounds a (vp_cell (G.2.1 2) (n1, .inr (.inr (.inl (va_cpy f g sp.toNatClampNeg dp.toNatClampNeg n.toNatClampNeg))))))[q]? = H[q]? := fun q hq => by simp [Array.getElem?_setIfInBounds, Ne.symm hq]
  obtain ⟨t, b0, b1⟩ := kk _ _ ls (by simpa using a1) (a2.put (show (H.setIfInBounds a _)[a]? = some _ by simp [Array.getElem?_setIfInBounds, hl]) oq) (pe_dom a3 hAa) ⟨by simp; exact a4.1, fun q g1 g2 => by
      rw [oq q (fun e => g2 (by rw [e]; exact hAa))]
      exact a4.2.1 q g1 g2, fun q hq => by
      rcases List.mem_append.mp hq with h | h
      · exact a4.2.2 q h
      · obtain ⟨z, -, hz⟩ := List.mem_map.mp h
        rw [← hz]
        exact hAa⟩ a5 _ hheap X'
  exact ⟨t, step t b0, b1⟩
end CP
def pa_ok (own : String) (index : Nat) : Prop := Cond.methodLink own index arraycopyName ∈ lw_g ∧ Cond.native arraycopyName ∈ lw_g ∧ Cond.static arraycopyName ∈ lw_g ∧ Cond.initialized "java/lang/System" ∈ lw_g
section CQ
variable {X : px_X} {A : Nat → Prop} {Q : State → Prop} {pc : Nat} {L : List (Option Value)} {h h0 : pe_H} {sz nc ns : Nat} {cc : ByteArray} {own : String} {nL : Nat} {Y : px_Y} {U : Um} {o c k o2 c2 k2 index d : Nat}
theorem pv_copyi (hC : px_C X Y.1 A cc own nL) (hR : X.2.2.2.1 = pm_rm d 0 0) (hd1 : 2 ≤ d) {sp dp n : Int32} (hf : pa_ok own index) (hd : decode cc pc = .ok (.invokestatic index, 3)) (hU : rF Y h0 U h) (ho2 : oc o2 = c2) (ho : oc o = c) (hk2 : kf c2 k2 = 1) (hk : kf c k = 1) (hp : vp_cp sp dp n (ln c2 k2) (ln c k)) (kk : ∀ (U' : Um) (h' : pe_H), U' = sA U o k (va_cpy (uA U o2 k2) (uA U o k) sp.toNatClampNeg dp.toNatClampNeg n.toNatClampNeg) → rF Y h0 U' h' → pw X Y.1 A Q (pc + 3) L [] h' sz nc ns) : pw X Y.1 A Q pc L (.int n :: .int dp :: .ref (Y.2.2 o k) :: .int sp :: .ref (Y.2.2 o2 k2) :: []) h sz nc ns := by
  subst ho; subst ho2
  exact pr_copyi hC hR hd1 hf.1 hf.2.1 hf.2.2.1 hf.2.2.2 hd (hU.2.1.2.1 o2 k2 hk2) (hU.2.1.2.1 o k hk) hp (kk _ _ rfl (hU.putA (fun _ => rfl) (by rw [hk]; decide) (by rw [hk]; decide) (fun q => by rw [hk] at q; cases q) (fun q => by rw [hk] at q; cases q) (by rw [hk]; decide) (fun k2 i2 _ _ q => absurd q (ne_ki (c := oc o) (by rw [hk]; decide))) (by rw [hk]; decide)))
theorem pv_copyf (hC : px_C X Y.1 A cc own nL) (hR : X.2.2.2.1 = pm_rm d 0 0) (hd1 : 2 ≤ d) {sp dp n : Int32} (hf : pa_ok own index) (hd : decode cc pc = .ok (.invokestatic index, 3)) (hU : rF Y h0 U h) (ho2 : oc o2 = c2) (ho : oc o = c) (hk2 : kf c2 k2 = 3) (hk : kf c k = 3) (hp : vp_cp sp dp n (ln c2 k2) (ln c k)) (kk : ∀ (U' : Um) (h' : pe_H), U' = sF U o k (va_cpy (uF U o2 k2) (uF U o k) sp.toNatClampNeg dp.toNatClampNeg n.toNatClampNeg) → rF Y h0 U' h' → pw X Y.1 A Q (pc + 3) L [] h' sz nc ns) : pw X Y.1 A Q pc L (.int n :: .int dp :: .ref (Y.2.2 o k) :: .int sp :: .ref (Y.2.2 o2 k2) :: []) h sz nc ns := by
  subst ho; subst ho2
  exact pr_copyf hC hR hd1 hf.1 hf.2.1 hf.2.2.1 hf.2.2.2 hd (hU.2.1.2.2.2.1 o2 k2 hk2) (hU.2.1.2.2.2.1 o k hk) hp (kk _ _ rfl (hU.putF hk))
end CQ
theorem fa_X6_53 : pa_ok RX6 53 := ⟨lw_in 906 (by decide +kernel) rfl, lw_in 908 (by decide +kernel) rfl, lw_in 907 (by decide +kernel) rfl, lw_in 136 (by decide +kernel) rfl⟩
theorem fa_X1_90 : pa_ok RX1 90 := ⟨lw_in 1031 (by decide +kernel) rfl, lw_in 908 (by decide +kernel) rfl, lw_in 907 (by decide +kernel) rfl, lw_in 136 (by decide +kernel) rfl⟩
/-! the entry of a method of a class that has natives beside it -/
theorem pm_WF {l : Launch} {y : MethodName} {ws ws' : List Cond} {rm : Room} {Pc : Array Value → State → Prop} {Qc : Array Value → State → Outcome → State → Prop} {mc ms : Nat} {free : Addr → Prop} {cc : ByteArray} {maxL : Nat} {ret : Option FieldType}
    (hy : plainFor y = true) (hw : ws = Cond.code y cc maxL ret :: ws')
    (body : ∀ p e s m args below meth c s₁, BodyLoose p l y (headSpec ws rm) cc maxL ret e s m args below meth c s₁ → c.maxLocals = maxL → Pc args s →
      W p l e (headSpec ws rm).room s m args below meth c s.heap [] 0 0 (MQ below Qc args s mc ms free) (entryFrame m args maxL)) : Met l y ws rm Pc Qc mc ms free := by
  refine MetFree.of_bodySF (code := cc) (maxLocals := maxL) (ret := ret) hy ?_ ?_
  · intro args s m h hn
    obtain ⟨meth, c, h1, h2, h3, h4, h5, h6, -, -⟩ := Cond.code_spec hn (atoms_spec (ws := ws) h _ (by rw [hw]; exact List.mem_cons_self))
    exact ⟨meth, c, h1, h2, h3, h4, h5, h6⟩
  · intro p e s m args below meth c s₁ B hml hP _
    have hh0 : s₁.heap = s.heap := by rw [B.state]; rfl
    obtain ⟨t, a1, o, b1, b2, b3⟩ := body p e s m args below meth c s₁ B hml hP s₁ hh0 (Stand.of_body B)
    exact ⟨t, o, a1, b1, b2, ⟨b3.1, b3.2⟩⟩
theorem pm_ofF {l : Launch} {G : px_D} {d : Nat} {y : MethodName} {cc : ByteArray} {maxL : Nat} {ret : Option FieldType} {As : List Value} {h : pe_H} {sz mc ms : Nat} {post : Option Value → pe_H → Nat → Prop} (hy : plainFor y = true) (hsl : (lg_sl As).length ≤ maxL) (L : List (Option Value)) (hL : pl_arg As ++ List.replicate (maxL - (pl_arg As).length) none = L)
    (body : ∀ X : px_X, px_M l X G h sz y cc maxL ret d mc ms → pw X G (pm_A h sz) (pm_E X G h sz mc ms post) 0 L [] h sz 0 0) : pm l G d y cc maxL ret As h sz mc ms post := by
  refine pm_WF (cc := cc) (maxL := maxL) (ret := ret) hy rfl ?_
  intro p e s m args below meth c s₁ B hml hv
  obtain ⟨rfl, hsz, hP, hK, hR⟩ := hv
  have hts := atoms_spec (ws := .code y cc maxL ret :: lw_g) B.pre
  have hC : px_C (p, l, e, (headSpec (.code y cc maxL ret :: lw_g) (pm_rm d mc ms)).room, s, m, As.toArray, below, meth, c) G (pm_A h sz) cc y.cls maxL :=
    ⟨B.exec, B.bytes, findClass_of_methodNamed B.named, fun w hw => hts w (List.mem_cons_of_mem _ hw), hK, fun q hq => Or.inr (by rw [← hsz]; exact hq), hR, B.notSynchronized, hml⟩
  have hb := body _ ⟨hC, rfl, rfl, B.returns, (name_of_methodNamed B.named B.method).1⟩
  rw [lg_entry_eq]
  have hl := lv_entry As (n := maxL) hsl
  refine hb s.heap [] _ hsz hP (fun a ha => Or.inl ha) va_S.rf ⟨hl.1.trans hml.symm, hl.2.1, fun i v hv => ?_⟩
  refine hl.2.2 (i, v) ?_
  rw [← hL] at hv
  have hi : i < (pl_arg As).length := by
    by_cases hi : i < (pl_arg As).length
    · exact hi
    · rw [List.getElem?_append_right (by omega)] at hv
      have := List.mem_of_getElem? hv
      have := List.eq_of_mem_replicate this
      cases this
  rw [List.getElem?_append_left hi] at hv
  have := pl_arg_mem As 0 i v hv
  simpa using this
theorem um_ofF {l : Launch} {Y : px_Y} {U : Um} {d : Nat} {y : MethodName} {cc : ByteArray} {maxL : Nat} {ret : Option FieldType} {As : List Value} {p : Option Value → Um → Prop} (hy : plainFor y = true) (hsl : (lg_sl As).length ≤ maxL) (L : List (Option Value)) (hL : pl_arg As ++ List.replicate (maxL - (pl_arg As).length) none = L)
    (body : ∀ (X : px_X) (h0 h : pe_H) (sz : Nat), px_M l X Y.1 h sz y cc maxL ret d 0 0 → rF Y h0 U h → pw X Y.1 (pm_A h sz) (pm_E X Y.1 h sz 0 0 (pm_P Y h0 sz p)) 0 L [] h sz 0 0) : um l Y d y cc maxL ret As U p :=
  fun h0 h sz hU => pm_ofF hy hsl L hL (fun X hM => body X h0 h sz hM hU)
