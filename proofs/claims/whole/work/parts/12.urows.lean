/-! rows over the memory -/
section PU
variable {X : px_X} {A : Nat → Prop} {Q : State → Prop} {pc : Nat} {L : List (Option Value)} {st rest : List Value} {h h0 : pe_H} {sz nc ns : Nat} {cc : ByteArray} {own : String} {nL : Nat} {Y : px_Y} {U : Um} {o c k N index : Nat}
theorem pu_g0 (hC : px_C X Y.1 A cc own nL) (hf : pf_ok own index c N k) (hd : decode cc pc = .ok (.getfield index, 3)) (hU : rF Y h0 U h) (ho : oc o = c) (hc : c < 11) (hN : on c = N) (hk : kf c k = 0) (kk : pw X Y.1 A Q (pc + 3) L (.int (uI U o k) :: st) h sz nc ns) : pw X Y.1 A Q pc L (.ref (Y.2.1 o) :: st) h sz nc ns := by
  subst ho; subst hN
  exact pr_get hC hf hd (hU.2.1.1 o hc) (by simp [oF, hk]) kk
theorem pu_g1 (hC : px_C X Y.1 A cc own nL) (hf : pf_ok own index c N k) (hd : decode cc pc = .ok (.getfield index, 3)) (hU : rF Y h0 U h) (ho : oc o = c) (hc : c < 11) (hN : on c = N) (hk : 1 ≤ kf c k ∧ kf c k ≤ 8) (kk : pw X Y.1 A Q (pc + 3) L (.ref (Y.2.2 o k) :: st) h sz nc ns) : pw X Y.1 A Q pc L (.ref (Y.2.1 o) :: st) h sz nc ns := by
  subst ho; subst hN
  refine pr_get hC hf hd (hU.2.1.1 o hc) ?_ kk
  unfold oF
  rw [if_neg (by omega), if_neg (by omega), if_neg (by omega), if_neg (by omega)]
theorem pu_g20 (hC : px_C X Y.1 A cc own nL) (hf : pf_ok own index c N k) (hd : decode cc pc = .ok (.getfield index, 3)) (hU : rF Y h0 U h) (ho : oc o = c) (hc : c < 11) (hN : on c = N) (hk : kf c k = 20) (kk : pw X Y.1 A Q (pc + 3) L (.long (uL U o k) :: st) h sz nc ns) : pw X Y.1 A Q pc L (.ref (Y.2.1 o) :: st) h sz nc ns := by
  subst ho; subst hN
  exact pr_get hC hf hd (hU.2.1.1 o hc) (by simp [oF, hk]) kk
theorem pu_g21 (hC : px_C X Y.1 A cc own nL) (hf : pf_ok own index c N k) (hd : decode cc pc = .ok (.getfield index, 3)) (hU : rF Y h0 U h) (ho : oc o = c) (hc : c < 11) (hN : on c = N) (hk : kf c k = 21) (kk : pw X Y.1 A Q (pc + 3) L (.ref (Y.2.1 (uR U o k)) :: st) h sz nc ns) : pw X Y.1 A Q pc L (.ref (Y.2.1 o) :: st) h sz nc ns := by
  subst ho; subst hN
  exact pr_get hC hf hd (hU.2.1.1 o hc) (by simp [oF, hk]) kk
theorem pu_g22 (hC : px_C X Y.1 A cc own nL) (hf : pf_ok own index c N k) (hd : decode cc pc = .ok (.getfield index, 3)) (hU : rF Y h0 U h) (ho : oc o = c) (hc : c < 11) (hN : on c = N) (hk : kf c k = 22) (hz : uR U o k ≠ 99) (kk : pw X Y.1 A Q (pc + 3) L (.ref (Y.2.1 (uR U o k)) :: st) h sz nc ns) : pw X Y.1 A Q pc L (.ref (Y.2.1 o) :: st) h sz nc ns := by
  subst ho; subst hN
  exact pr_get hC hf hd (hU.2.1.1 o hc) (by simp [oF, hk, hz]) kk
theorem pu_p0 (hC : px_C X Y.1 A cc own nL) {ty : FieldType} {x : Int32} (hf : pp_ok own index c N k ty false) (hd : decode cc pc = .ok (.putfield index, 3)) (hU : rF Y h0 U h) (ho : oc o = c) (hc : c < 11) (hN : on c = N) (hk : kf c k = 0) (hn : narrow ty (.int x) = .int x) (hfit : fits ty (.int x) = true) (kk : ∀ h', rF Y h0 (sI U o k x) h' → pw X Y.1 A Q (pc + 3) L st h' sz nc ns) : pw X Y.1 A Q pc L (.int x :: .ref (Y.2.1 o) :: st) h sz nc ns := by
  subst ho; subst hN
  have e : va_up (oF Y U o) k (.int x) = oF Y (sI U o k x) o := by
    funext k2
    by_cases hk2 : k2 = k
    · subst hk2
      simp [va_up, oF, hk, uI_sI]
    · simp [va_up, hk2, oF, uI_sI, uL_sI, uR_sI]
      try rfl
  refine pr_put hC hf hd (hU.2.1.1 o hc) hn hfit ?_
  rw [e]
  refine kk _ (hU.putO (fun o2 ho2 => ?_) (fun _ _ => rfl) (fun _ _ => rfl) (fun _ _ => rfl) (fun _ _ => rfl))
  funext k2
  simp [oF, uI_sI, uL_sI, uR_sI, ho2]
  try rfl
theorem pu_p20 (hC : px_C X Y.1 A cc own nL) {ty : FieldType} {x : Int64} (hf : pp_ok own index c N k ty false) (hd : decode cc pc = .ok (.putfield index, 3)) (hU : rF Y h0 U h) (ho : oc o = c) (hc : c < 11) (hN : on c = N) (hk : kf c k = 20) (hn : narrow ty (.long x) = .long x) (hfit : fits ty (.long x) = true) (kk : ∀ h', rF Y h0 (sL U o k x) h' → pw X Y.1 A Q (pc + 3) L st h' sz nc ns) : pw X Y.1 A Q pc L (.long x :: .ref (Y.2.1 o) :: st) h sz nc ns := by
  subst ho; subst hN
  have e : va_up (oF Y U o) k (.long x) = oF Y (sL U o k x) o := by
    funext k2
    by_cases hk2 : k2 = k
    · subst hk2
      simp [va_up, oF, hk, uL_sL]
    · simp [va_up, hk2, oF, uI_sL, uL_sL, uR_sL]
      try rfl
  refine pr_put hC hf hd (hU.2.1.1 o hc) hn hfit ?_
  rw [e]
  refine kk _ (hU.putO (fun o2 ho2 => ?_) (fun _ _ => rfl) (fun _ _ => rfl) (fun _ _ => rfl) (fun _ _ => rfl))
  funext k2
  simp [oF, uI_sL, uL_sL, uR_sL, ho2]
  try rfl
theorem pu_p21 (hC : px_C X Y.1 A cc own nL) {ty : FieldType} {t : Nat} (hf : pp_ok own index c N k ty false) (hd : decode cc pc = .ok (.putfield index, 3)) (hU : rF Y h0 U h) (ho : oc o = c) (hc : c < 11) (hN : on c = N) (hk : kf c k = 21 ∨ kf c k = 22 ∧ t ≠ 99) (hn : ∀ a, narrow ty (.ref a) = .ref a) (hfit : ∀ a, fits ty (.ref a) = true) (kk : ∀ h', rF Y h0 (sR U o k t) h' → pw X Y.1 A Q (pc + 3) L st h' sz nc ns) : pw X Y.1 A Q pc L (.ref (Y.2.1 t) :: .ref (Y.2.1 o) :: st) h sz nc ns := by
  subst ho; subst hN
  have e : va_up (oF Y U o) k (.ref (Y.2.1 t)) = oF Y (sR U o k t) o := by
    funext k2
    by_cases hk2 : k2 = k
    · subst hk2
      rcases hk with hk | ⟨hk, ht⟩
      · simp [va_up, oF, hk, uR_sR]
      · simp [va_up, oF, hk, uR_sR, ht]
    · simp [va_up, hk2, oF, uI_sR, uL_sR, uR_sR]
  refine pr_put hC hf hd (hU.2.1.1 o hc) (hn _) (hfit _) ?_
  rw [e]
  refine kk _ (hU.putO (fun o2 ho2 => ?_) (fun _ _ => rfl) (fun _ _ => rfl) (fun _ _ => rfl) (fun _ _ => rfl))
  funext k2
  simp [oF, uI_sR, uL_sR, uR_sR, ho2]
theorem pu_iald (hC : px_C X Y.1 A cc own nL) {i : Int32} (hd : decode cc pc = .ok (.iaload, 1)) (hU : rF Y h0 U h) (ho : oc o = c) (hk : kf c k = 1) (hi : vp_in i (ln c k)) (kk : pw X Y.1 A Q (pc + 1) L (.int (uA U o k i.toNatClampNeg) :: st) h sz nc ns) : pw X Y.1 A Q pc L (.int i :: .ref (Y.2.2 o k) :: st) h sz nc ns := by
  subst ho
  exact pr_iaload hC hd (hU.2.1.2.1 o k hk) hi kk
theorem pu_lald (hC : px_C X Y.1 A cc own nL) {i : Int32} (hd : decode cc pc = .ok (.laload, 1)) (hU : rF Y h0 U h) (ho : oc o = c) (hk : kf c k = 2) (hi : vp_in i (ln c k)) (kk : pw X Y.1 A Q (pc + 1) L (.long (uJ U o k i.toNatClampNeg) :: st) h sz nc ns) : pw X Y.1 A Q pc L (.int i :: .ref (Y.2.2 o k) :: st) h sz nc ns := by
  subst ho
  exact pr_laload hC hd (hU.2.1.2.2.1 o k hk) hi kk
theorem pu_fald (hC : px_C X Y.1 A cc own nL) {i : Int32} (hd : decode cc pc = .ok (.faload, 1)) (hU : rF Y h0 U h) (ho : oc o = c) (hk : kf c k = 3) (hi : vp_in i (ln c k)) (kk : pw X Y.1 A Q (pc + 1) L (.float (uF U o k i.toNatClampNeg) :: st) h sz nc ns) : pw X Y.1 A Q pc L (.int i :: .ref (Y.2.2 o k) :: st) h sz nc ns := by
  subst ho
  exact pr_faload hC hd (hU.2.1.2.2.2.1 o k hk) hi kk
theorem pu_bald (hC : px_C X Y.1 A cc own nL) {i : Int32} (hd : decode cc pc = .ok (.baload, 1)) (hU : rF Y h0 U h) (ho : oc o = c) (hk : kf c k = 4) (hi : vp_in i (ln c k)) (kk : pw X Y.1 A Q (pc + 1) L (.int (uA U o k i.toNatClampNeg) :: st) h sz nc ns) : pw X Y.1 A Q pc L (.int i :: .ref (Y.2.2 o k) :: st) h sz nc ns := by
  subst ho
  exact pr_baload hC hd (hU.2.1.2.2.2.2.1 o k hk) hi kk
theorem pu_zald (hC : px_C X Y.1 A cc own nL) {i : Int32} (hd : decode cc pc = .ok (.baload, 1)) (hU : rF Y h0 U h) (ho : oc o = c) (hk : kf c k = 5) (hi : vp_in i (ln c k)) (kk : pw X Y.1 A Q (pc + 1) L (.int (uA U o k i.toNatClampNeg) :: st) h sz nc ns) : pw X Y.1 A Q pc L (.int i :: .ref (Y.2.2 o k) :: st) h sz nc ns := by
  subst ho
  exact pr_zaload hC hd (hU.2.1.2.2.2.2.2.1 o k hk) hi kk
theorem pu_aald6 (hC : px_C X Y.1 A cc own nL) {i : Int32} (hd : decode cc pc = .ok (.aaload, 1)) (hU : rF Y h0 U h) (ho : oc o = c) (hk : kf c k = 6) (hi : vp_in i (ln c k)) (kk : pw X Y.1 A Q (pc + 1) L (.ref (Y.2.2 o (ki k i.toNatClampNeg)) :: st) h sz nc ns) : pw X Y.1 A Q pc L (.int i :: .ref (Y.2.2 o k) :: st) h sz nc ns := by
  subst ho
  exact pr_aaload hC pt_ref5 hd (hU.2.1.2.2.2.2.2.2.1 o k hk) hi rfl kk
theorem pu_aald8 (hC : px_C X Y.1 A cc own nL) {i : Int32} (hd : decode cc pc = .ok (.aaload, 1)) (hU : rF Y h0 U h) (ho : oc o = c) (hk : kf c k = 8) (hi : vp_in i (ln c k)) (kk : pw X Y.1 A Q (pc + 1) L (.ref (Y.2.1 (uAR U o k i.toNatClampNeg)) :: st) h sz nc ns) : pw X Y.1 A Q pc L (.int i :: .ref (Y.2.2 o k) :: st) h sz nc ns := by
  subst ho
  exact pr_aaload hC (rt_ref _ _) hd (hU.2.1.2.2.2.2.2.2.2.2 o k hk) hi rfl kk
theorem pu_iald7 (hC : px_C X Y.1 A cc own nL) {i : Int32} {i2 : Nat} (hd : decode cc pc = .ok (.iaload, 1)) (hU : rF Y h0 U h) (ho : oc o = c) (hk : kf c k = 6) (hi2 : i2 < ln c k) (hi : vp_in i (ln2 c k)) (kk : pw X Y.1 A Q (pc + 1) L (.int (uA U o (ki k i2) i.toNatClampNeg) :: st) h sz nc ns) : pw X Y.1 A Q pc L (.int i :: .ref (Y.2.2 o (ki k i2)) :: st) h sz nc ns := by
  subst ho
  exact pr_iaload hC hd (hU.2.1.2.2.2.2.2.2.2.1 o k i2 hk hi2) hi kk
theorem ne_ki {c k k' i : Nat} (hk : kf c k ≠ 0) : ¬ k = ki k' i := fun q => ki_ne (kf_lt hk) q
theorem kf_ki {c k i : Nat} : kf c (ki k i) = 0 := by
  by_cases h : kf c (ki k i) = 0
  · exact h
  · exact absurd rfl (ki_ne (kf_lt h))

theorem pu_iast (hC : px_C X Y.1 A cc own nL) {i x : Int32} (hd : decode cc pc = .ok (.iastore, 1)) (hU : rF Y h0 U h) (ho : oc o = c) (hk : kf c k = 1) (hi : vp_in i (ln c k)) (kk : ∀ h', rF Y h0 (sA U o k (va_up (uA U o k) i.toNatClampNeg (x))) h' → pw X Y.1 A Q (pc + 1) L st h' sz nc ns) : pw X Y.1 A Q pc L (.int x :: .int i :: .ref (Y.2.2 o k) :: st) h sz nc ns := by
  subst ho
  exact pr_iastore hC hd (hU.2.1.2.1 o k hk) hi (kk _ (hU.putA (fun _ => rfl) (by rw [hk]; decide) (by rw [hk]; decide) (fun q => by rw [hk] at q; cases q) (fun q => by rw [hk] at q; cases q) (by rw [hk]; decide) (fun k2 i2 _ _ q => absurd q (ne_ki (c := oc o) (by rw [hk]; decide))) (by rw [hk]; decide)))
theorem pu_bast (hC : px_C X Y.1 A cc own nL) {i x : Int32} (hd : decode cc pc = .ok (.bastore, 1)) (hU : rF Y h0 U h) (ho : oc o = c) (hk : kf c k = 4) (hi : vp_in i (ln c k)) (kk : ∀ h', rF Y h0 (sA U o k (va_up (uA U o k) i.toNatClampNeg (x.toInt8.toInt32))) h' → pw X Y.1 A Q (pc + 1) L st h' sz nc ns) : pw X Y.1 A Q pc L (.int x :: .int i :: .ref (Y.2.2 o k) :: st) h sz nc ns := by
  subst ho
  exact pr_bastore hC hd (hU.2.1.2.2.2.2.1 o k hk) hi (kk _ (hU.putA (fun q => by rw [hk] at q; cases q) (by rw [hk]; decide) (by rw [hk]; decide) (fun _ => rfl) (fun q => by rw [hk] at q; cases q) (by rw [hk]; decide) (fun k2 i2 _ _ q => absurd q (ne_ki (c := oc o) (by rw [hk]; decide))) (by rw [hk]; decide)))
theorem pu_zast (hC : px_C X Y.1 A cc own nL) {i x : Int32} (hx : narrow .boolean (.int x) = .int x) (hd : decode cc pc = .ok (.bastore, 1)) (hU : rF Y h0 U h) (ho : oc o = c) (hk : kf c k = 5) (hi : vp_in i (ln c k)) (kk : ∀ h', rF Y h0 (sA U o k (va_up (uA U o k) i.toNatClampNeg (x))) h' → pw X Y.1 A Q (pc + 1) L st h' sz nc ns) : pw X Y.1 A Q pc L (.int x :: .int i :: .ref (Y.2.2 o k) :: st) h sz nc ns := by
  subst ho
  exact pr_zastore hC hx hd (hU.2.1.2.2.2.2.2.1 o k hk) hi (kk _ (hU.putA (fun q => by rw [hk] at q; cases q) (by rw [hk]; decide) (by rw [hk]; decide) (fun q => by rw [hk] at q; cases q) (fun _ => rfl) (by rw [hk]; decide) (fun k2 i2 _ _ q => absurd q (ne_ki (c := oc o) (by rw [hk]; decide))) (by rw [hk]; decide)))
theorem pu_iast7 (hC : px_C X Y.1 A cc own nL) {i x : Int32} {i2 : Nat} (hd : decode cc pc = .ok (.iastore, 1)) (hU : rF Y h0 U h) (ho : oc o = c) (hk : kf c k = 6) (hi2 : i2 < ln c k) (hi : vp_in i (ln2 c k)) (kk : ∀ h', rF Y h0 (sA U o (ki k i2) (va_up (uA U o (ki k i2)) i.toNatClampNeg x)) h' → pw X Y.1 A Q (pc + 1) L st h' sz nc ns) : pw X Y.1 A Q pc L (.int x :: .int i :: .ref (Y.2.2 o (ki k i2)) :: st) h sz nc ns := by
  subst ho
  refine pr_iastore hC hd (hU.2.1.2.2.2.2.2.2.2.1 o k i2 hk hi2) hi (kk _ (hU.putA (fun q => ?_) ?_ ?_ (fun q => ?_) (fun q => ?_) ?_ (fun k2 i3 hk2 _ q => ?_) ?_))
  · rw [kf_ki] at q; cases q
  · rw [kf_ki]; decide
  · rw [kf_ki]; decide
  · rw [kf_ki] at q; cases q
  · rw [kf_ki] at q; cases q
  · rw [kf_ki]; decide
  · have := (ki_inj (kf_lt (c := oc o) (by rw [hk]; decide)) (kf_lt (c := oc o) (by rw [hk2]; decide)) q).1
    rw [this]
  · rw [kf_ki]; decide
theorem pu_last (hC : px_C X Y.1 A cc own nL) {i : Int32} {x : Int64} (hd : decode cc pc = .ok (.lastore, 1)) (hU : rF Y h0 U h) (ho : oc o = c) (hk : kf c k = 2) (hi : vp_in i (ln c k)) (kk : ∀ h', rF Y h0 (sJ U o k (va_up (uJ U o k) i.toNatClampNeg x)) h' → pw X Y.1 A Q (pc + 1) L st h' sz nc ns) : pw X Y.1 A Q pc L (.long x :: .int i :: .ref (Y.2.2 o k) :: st) h sz nc ns := by
  subst ho
  exact pr_lastore hC hd (hU.2.1.2.2.1 o k hk) hi (kk _ (hU.putJ hk))
theorem pu_fast (hC : px_C X Y.1 A cc own nL) {i : Int32} {x : UInt32} (hd : decode cc pc = .ok (.fastore, 1)) (hU : rF Y h0 U h) (ho : oc o = c) (hk : kf c k = 3) (hi : vp_in i (ln c k)) (kk : ∀ h', rF Y h0 (sF U o k (va_up (uF U o k) i.toNatClampNeg x)) h' → pw X Y.1 A Q (pc + 1) L st h' sz nc ns) : pw X Y.1 A Q pc L (.float x :: .int i :: .ref (Y.2.2 o k) :: st) h sz nc ns := by
  subst ho
  exact pr_fastore hC hd (hU.2.1.2.2.2.1 o k hk) hi (kk _ (hU.putF hk))
/-! contracts over the memory -/
def um (l : Launch) (Y : px_Y) (d : Nat) (y : MethodName) (cc : ByteArray) (maxL : Nat) (ret : Option FieldType) (As : List Value) (U : Um) (post : Option Value → Um → Prop) : Prop := ∀ (h0 h : pe_H) (sz : Nat), rF Y h0 U h → pm l Y.1 d y cc maxL ret As h sz 0 0 (fun v h1 sz1 => ∃ U', post v U' ∧ rF Y h0 U' h1 ∧ sz1 = sz)
theorem uc_V (hC : px_C X Y.1 A cc own nL) {d0 mc0 ms0 : Nat} (hR : X.2.2.2.1 = pm_rm d0 mc0 ms0) {y : MethodName} {cc' : ByteArray} {maxL n d : Nat} {ret : Option FieldType} {As : List Value} {post : Option Value → Um → Prop}
    (hq : pc_V own index y cc' maxL ret n) (hd : decode cc pc = .ok (.invokevirtual index, 3)) (hU : rF Y h0 U h) (hM : um X.2.1 Y d y cc' maxL ret (.ref (Y.2.1 o) :: As) U post) (ho : oc o = c) (hc : c < 11) (hci : (vwCl[c]?).map (fun q => q.1) = some y.cls)
    (hst : st = As.reverse ++ .ref (Y.2.1 o) :: rest) (hn : As.length = n) (hW : (rest.map fun v => v.category).sum ≤ 8) (hd0 : d + 1 ≤ d0) (hmc : nc ≤ mc0) (hms : ns ≤ ms0)
    (kk : ∀ (v : Option Value) (U' : Um) (h' : pe_H), post v U' → rF Y h0 U' h' → pw X Y.1 A Q (pc + 3) L (v.toList ++ rest) h' sz nc ns) : pw X Y.1 A Q pc L st h sz nc ns := by
  subst ho
  exact pr_callV hC hR hq hd (hM h0 h sz hU) (hU.2.1.1 o hc) hci hst hn hW hd0 hmc hms (fun v h1 sz1 ⟨U', hp, hU', hz⟩ => by subst hz; exact kk v U' h1 hp hU')
theorem uc_S (hC : px_C X Y.1 A cc own nL) {d0 mc0 ms0 : Nat} (hR : X.2.2.2.1 = pm_rm d0 mc0 ms0) {y : MethodName} {cc' : ByteArray} {maxL n d : Nat} {ret : Option FieldType} {As : List Value} {post : Option Value → Um → Prop}
    (hq : pc_S own index y cc' maxL ret n) (hd : decode cc pc = .ok (.invokestatic index, 3)) (hU : rF Y h0 U h) (hM : um X.2.1 Y d y cc' maxL ret As U post)
    (hst : st = As.reverse ++ rest) (hn : As.length = n) (hW : (rest.map fun v => v.category).sum ≤ 8) (hd0 : d + 1 ≤ d0) (hmc : nc ≤ mc0) (hms : ns ≤ ms0)
    (kk : ∀ (v : Option Value) (U' : Um) (h' : pe_H), post v U' → rF Y h0 U' h' → pw X Y.1 A Q (pc + 3) L (v.toList ++ rest) h' sz nc ns) : pw X Y.1 A Q pc L st h sz nc ns := 
  pr_callS hC hR hq hd (hM h0 h sz hU) hst hn hW hd0 hmc hms (fun v h1 sz1 ⟨U', hp, hU', hz⟩ => by subst hz; exact kk v U' h1 hp hU')
/-- a contract that reads alone: the answer -/
theorem um.mono {l : Launch} {d : Nat} {y : MethodName} {cc : ByteArray} {maxL : Nat} {ret : Option FieldType} {As : List Value} {p q : Option Value → Um → Prop} (h : um l Y d y cc maxL ret As U p) (hpq : ∀ v U', p v U' → q v U') : um l Y d y cc maxL ret As U q := by
  intro h0 h1 sz hU p0 e0 ha hc hk s m args below hf hfit hheap happ
  obtain ⟨t, o0, g1, g2, g3, ⟨⟨v, h2, q1, ⟨U', q2, q3⟩, q4⟩, q5⟩, q6⟩ := h h0 h1 sz hU p0 e0 ha hc hk s m args below hf hfit hheap happ
  exact ⟨t, o0, g1, g2, g3, ⟨⟨v, h2, q1, ⟨U', hpq _ _ q2, q3⟩, q4⟩, q5⟩, q6⟩
end PU
