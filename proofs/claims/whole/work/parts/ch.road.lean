/-! the class: roads, days off -/
theorem CD_rd {P : Nat → Nat → Prop} {U V : Um} {D : Tm} {x : Nat} {R : Int → Int} (hx : x = 4 ∨ x = 5) (hN : IN D) (hf : fX P U V) (hP : ∀ o k, P o k → o = x + 2) (hr : ∀ a b : Int, 0 ≤ a → a < 6 → 0 ≤ b → b < 6 → uA V (x + 2) (ki 1 a.toNat) b.toNat = jI (R (36 + 6 * a + b))) {D2 : Tm} (e2 : D2 2 = R) (eo : ∀ k, k ≠ 2 → D2 k = D k) (h : CD U D x) : CD V D2 x := by
  obtain ⟨⟨a1, a2, a3, a4⟩, b, c, d, _, ⟨l1, l2⟩⟩ := h
  have n := hN.1
  have f := fun o (q : o ≠ x + 2) k => hf.2.2 o k (fun z => q (hP o k z))
  have e11 := eo 11 (by decide)
  refine ⟨⟨fun k k0 k1 => ?_, ?_, ?_, ?_⟩, CDa_c (fun s => (f x (by omega) _).2.2.1) (fun s i => by unfold nmD; rw [eo 1 (by decide), eo 4 (by decide), eo 5 (by decide)]) (fun s _ _ => by rw [e11]) b, CDo_c (fun j _ _ => (f x (by omega) j).2.2.1) (eo 9 (by decide)) (eo 6 (by decide)) (eo 7 (by decide)) (eo 8 (by decide)) (by rw [e11]) c, fun g g0 g1 k hk => ?_, fun p q p0 p1 q0 q1 => by rw [e2]; exact hr p q p0 p1 q0 q1, ?_, fun k k0 k1 => ?_⟩
  · rw [(f x (by omega) 1).2.2.1, e11]; exact a1 k k0 k1
  · rw [(f x (by omega) 7).1, e11]; exact a2
  · rw [(f x (by omega) 8).1, e11]; exact a3
  · rw [(f x (by omega) 9).1, e11]; exact a4
  · rw [e11] at g1
    rw [(f (gO x g) (by have := gO_c hx g0 (by omega); omega) k).1]
    unfold gD
    rw [eo 10 (by decide)]
    exact d g g0 g1 k hk
  · rw [(f (x + 4) (by omega) 1).1, eo 15 (by decide)]; exact l1
  · rw [eo 15 (by decide)] at k1
    rw [(f (x + 4) (by omega) 0).2.2.1]
    unfold encD
    rw [eo 12 (by decide), eo 13 (by decide)]
    exact l2 k k0 k1
theorem ki1_x {s s2 : Nat} (h : ki 1 s = ki 1 s2) : s = s2 := (ki_inj (by decide) (by decide) h).2
theorem x_build {U : Um} {T D : Tm} {x : Nat} {f : Int} (hQ : CQ U T D x f) (hb : BD D) {ob : Nat} (eo : ob = x + 2) {a b v : Int} (ha : 0 ≤ a ∧ a < 6) (hbb : 0 ≤ b ∧ b < 6) (hab : a ≠ b) {post : Um → Prop} (h : ∀ V : Um, CQ V T (up (up D 2 (36 + 6 * a + b) v) 2 (36 + 6 * b + a) v) x f → fX (fun o _ => o = x + 2) U V → post V) : w_X5_build ob (jI a) (jI b) (jI v) U post := by
  rw [eo]
  have ta : Int32.toNatClampNeg (jI a) = a.toNat := jI_nat ha.1 (by omega)
  have tb : Int32.toNatClampNeg (jI b) = b.toNat := jI_nat hbb.1 (by omega)
  have va : vp_in (jI a) 6 := jvp a rfl ha.1 ha.2 (by decide)
  have vb : vp_in (jI b) 6 := jvp b rfl hbb.1 hbb.2 (by decide)
  refine ⟨va, vb, fun U2 e2 => ⟨vb, va, fun V eV => ?_⟩⟩
  rw [ta, tb] at e2 eV
  have fV : fX (fun o _ => o = x + 2) U V := by rw [eV, e2]; exact fX_trans (fX_sA rfl) (fX_sA rfl)
  have d := hQ.2.1
  refine h V (CQ_up hQ fV (fun o k q => by have := hQ.1.1; omega) (CD_rd (R := up (up D 2 (36 + 6 * a + b) v) 2 (36 + 6 * b + a) v 2) hQ.1.1 hb.1 fV (fun o k q => q) (fun p q p0 p1 q0 q1 => ?_) rfl (fun k hk => by rw [up_f hk, up_f hk]) d)) fV
  have r := d.2.2.2.2.1 p q p0 p1 q0 q1
  rw [eV, uA_sA, e2, uA_sA, uA_sA]
  rw [if_neg (c := x + 2 = x + 2 ∧ ki 1 b.toNat = ki 1 a.toNat) (fun z => by have := ki1_x z.2; omega)]
  by_cases c1 : p = b
  · subst c1
    rw [if_pos ⟨rfl, rfl⟩]
    unfold va_up
    by_cases c2 : q = a
    · rw [if_pos (by rw [c2]), c2, up_eq]
    · rw [if_neg (by omega), up_ne (by omega), up_ne (by omega)]
      exact r
  · rw [if_neg (fun z => by have := ki1_x z.2; omega), up_ne (by omega)]
    by_cases c3 : p = a
    · subst c3
      rw [if_pos ⟨rfl, rfl⟩]
      unfold va_up
      by_cases c2 : q = b
      · rw [if_pos (by rw [c2]), c2, up_eq]
      · rw [if_neg (by omega), up_ne (by omega)]
        exact r
    · rw [if_neg (fun z => by have := ki1_x z.2; omega), up_ne (by omega)]
      exact r
theorem CQ_r {U : Um} {T D : Tm} {x : Nat} {f : Int} (h : CQ U T D x f) {y : Nat} (hy : y = x) : uR U y 10 = x + 2 ∧ uR U y 11 = x + 4 := by rw [hy]; exact ⟨h.1.2.2.2.1.1, h.1.2.2.2.1.2.1⟩
theorem comE_0 {T D : Tm} {s f : Int} (hs : 0 ≤ s ∧ s ≤ 2) (h : comE T D s f = 0) : 0 ≤ plK T D s f ∧ plK T D s f < D 11 (7 + s) := com_e hs h
theorem x_road {U : Um} {T D : Tm} {x : Nat} {f : Int} (hQ : CQ U T D x (nx T f)) (hb : BD D) (hR : ∀ i, 36 ≤ i → i < 72 → 0 ≤ D 2 i ∧ D 2 i ≤ 240) {post : Um → Prop} (h : ResC U T x (roadR T D f) post) : w_X4_readRoad 2 U post := by
  unfold roadR at h
  have n := hb.1.1
  refine x_told hQ hb (s := 0) rfl (by decide) (fun e0 V qV fV v4 => ?_) (fun e V fV pV => f_told fV (s := 0) rfl (by decide) (fun r K hK => fl_F fV (hK V (f_num fV (fun r => fl_F fV ?_)))))
  case refine_2 =>
    rw [ck_1 e] at h
    exact ResC_e h fV (tX pV)
  rw [ck_0 e0] at h
  have a := comE_0 (by decide) e0
  have a1 : plK T D 0 (nx T f) < D 11 7 := a.2
  generalize plK T D 0 (nx T f) = p at h a a1
  refine x_told qV hb (s := 0) rfl (by decide) (fun e1 W qW fW w4 => ?_) (fun e W fW pW K hK => fl_F fW (hK W (f_num fW (fun r => fl_F fW ?_))))
  case refine_2 =>
    rw [ck_1 e] at h
    exact ResC_e h fW (tX (fX_trans fV pW))
  rw [ck_0 e1] at h
  have b := comE_0 (by decide) e1
  have b1 : plK T D 0 (nx T (nx T f)) < D 11 7 := b.2
  generalize plK T D 0 (nx T (nx T f)) = q at h b b1
  have fUW := fX_trans fV fW
  have fb := CQ_f qW
  have fb2 := CQ_f qV
  intro K hK
  have cW := qW.1
  have bad : (p = q ∨ 0 < D 2 (36 + 6 * p + q)) → oc (uR W 2 0) = 7 ∧ w_X4_fail 2 3 (uI W (uR W 2 0) 4) W (fun U_16 => K U_16) := fun z => ⟨b_0 cW, by
    rw [if_pos z] at h
    refine x_fail qW hb (k := 3) (p := nx T (nx T f)) rfl (by rw [cW.2.1]; exact w4) (by decide) fb2 (fun Z fZ pZ => hK Z (f_num fZ (fun r => fl_F fZ (ResC_e h fZ (tX (fX_trans fUW pZ))))))⟩
  refine fl_Q qW (fun K2 hK2 => br_eq p q rfl rfl ⟨by omega, by omega⟩ ⟨by omega, by omega⟩ (fun z => hK2 W (bad (Or.inl z))) (fun z => ⟨b_n cW, b_1 cW, ?_⟩))
  have r10 := (CQ_r qW cW.2.2.1).1
  refine ⟨oc_of r10 (oc_r cW.1), ?_⟩
  rw [r10]
  have rr := hR (36 + 6 * p + q) (by omega) (by omega)
  refine ⟨jvp p rfl a.1 (by omega) (by decide), jvp q rfl b.1 (by omega) (by decide), br_eq (D 2 (36 + 6 * p + q)) 0 ?_ rfl ⟨by omega, by omega⟩ ⟨by decide, by decide⟩ (fun z2 => br_0 ?_) (fun z2 => br_1 (hK2 W (bad (Or.inr (by omega)))))⟩
  · rw [jI_nat a.1 (by omega), jI_nat b.1 (by omega)]
    exact qW.2.1.2.2.2.2.1 p q a.1 (by omega) b.1 (by omega)
  rw [if_neg (fun y => y.elim z (fun y => by omega))] at h
  refine hK W (x_num qW hb (lo := 1) (hi := 240) rfl rfl ⟨by decide, by decide⟩ ⟨by decide, by decide⟩ (fun e Z qZ fZ z4 => ?_) (fun e Z fZ pZ => fl_F fZ ?_))
  · rw [ck_0 e] at h
    have cZ := qZ.1
    have s10 := (CQ_r qZ cZ.2.2.1).1
    exact fl_Q qZ ⟨b_n cZ, b_1 cZ, oc_of s10 (oc_r cZ.1), x_build qZ hb s10 ⟨a.1, by omega⟩ ⟨b.1, by omega⟩ z (fun Y qY fY => ResC_k h qY (fX_trans (tX (fX_trans fUW fZ)) (fX_o fY (fun o k q => Or.inr q))))⟩
  · rw [ck_1 e] at h
    exact ResC_e h fZ (tX (fX_trans fUW pZ))
