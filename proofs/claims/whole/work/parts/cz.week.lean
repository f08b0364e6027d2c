/-! the class: X11.week -/
/-- the reference's object is the same -/
def k55 (U V : Um) : Prop := ∀ k, uI V 55 k = uI U 55 k ∧ uA V 55 k = uA U 55 k ∧ uJ V 55 k = uJ U 55 k ∧ uF V 55 k = uF U 55 k
theorem k55_f {P : Nat → Nat → Prop} {U V : Um} (hf : fX P U V) (hP : ∀ k, ¬ P 55 k) : k55 U V := fun k => ⟨(hf.2.2 55 k (hP k)).1, (hf.2.2 55 k (hP k)).2.2.1, (hf.2.2 55 k (hP k)).2.2.2.1, (hf.2.2 55 k (hP k)).2.2.2.2⟩
theorem k55_t {U V Z : Um} (h : k55 U V) (h2 : k55 V Z) : k55 U Z := fun k => ⟨(h2 k).1.trans (h k).1, (h2 k).2.1.trans (h k).2.1, (h2 k).2.2.1.trans (h k).2.2.1, (h2 k).2.2.2.trans (h k).2.2.2⟩
theorem k55_r {U : Um} {o k x : Nat} : k55 U (sR U o k x) := fun _ => ⟨rfl, rfl, rfl, rfl⟩
theorem M_55 {U V : Um} {T : Tm} (h : k55 U V) (hM : M U T) : M V T :=
  ⟨fun q hq i i0 i1 => by rw [(h q.1).2.1]; exact hM.1 q hq i i0 i1,
   fun q hq i i0 i1 => by rw [(h q.1).2.2.1]; exact hM.2.1 q hq i i0 i1,
   fun q hq i i0 i1 => by rw [(h q.1).2.2.2]; exact hM.2.2.1 q hq i i0 i1,
   fun s hs => by rw [(h s).1]; exact hM.2.2.2 s hs⟩
theorem CW_g {P : Nat → Nat → Prop} {U V : Um} {T : Tm} {w : Nat} (hI : I1 T) (hf : fX P U V) (h1 : ∀ k, ¬ P w k) (h2 : ∀ k, ¬ P (w + 2) k) (h4 : ∀ k, k < 2 → ¬ P (w + 4) k) (hg : ∀ g : Int, 0 ≤ g → g < 16 → ∀ k, ¬ P (gO w g) k) (h : CW U T w) : CW V T w := by
  have hn := I_n hI
  obtain ⟨⟨a1, a2, a3, a4⟩, b, c, d, ⟨e1, e2⟩, ⟨l1, l2⟩, d1, d2, d3⟩ := h
  have fw := fun k => hf.2.2 w k (h1 k)
  have fr := fun k => hf.2.2 (w + 2) k (h2 k)
  have fl := fun k hk => hf.2.2 (w + 4) k (h4 k hk)
  refine ⟨⟨fun k k0 k1 => ?_, ?_, ?_, ?_⟩, fun s i s0 s1 i0 i1 => ?_, fun o ho => ?_, fun g hg' => ?_, ⟨?_, fun x y hx hy => ?_⟩, ⟨?_, fun k k0 k1 => ?_⟩, fun i i0 i1 => ?_, fun x x0 x1 h h0 h1 => ?_, fun x x0 x1 h h0 h1 => ?_⟩
  · rw [(fw 1).2.2.1]; exact a1 k k0 k1
  · rw [(fw 7).1]; exact a2
  · rw [(fw 8).1]; exact a3
  · rw [(fw 9).1]; exact a4
  · rw [(fw _).2.2.1]; exact b s i s0 s1 i0 i1
  · rw [(fw 3).2.2.1, (fw 4).2.2.1, (fw 5).2.2.1]; exact c o ho
  · have fg : ∀ k, uI V (gO w g) k = uI U (gO w g) k := fun k => (hf.2.2 (gO w g) k (hg g hg'.1 (by have := hg'.2; omega) k)).1
    simp only [fg]
    exact d g hg'
  · rw [(fr 0).1]; exact e1
  · rw [(fr _).2.2.1, (fr _).2.2.1]; exact e2 x y hx hy
  · rw [(fl 1 (by decide)).1]; exact l1
  · rw [(fl 0 (by decide)).2.2.1]; exact l2 k k0 k1
  · rw [(fw 12).2.2.1]; exact d1 i i0 i1
  · rw [(fw 13).2.2.1]; exact d2 x x0 x1 h h0 h1
  · rw [(fw 14).2.2.1]; exact d3 x x0 x1 h h0 h1
theorem PW_r {U V : Um} {x : Nat} (hr : ∀ k, (k = 10 ∨ k = 11) → uR V x k = uR U x k) (ha : ∀ o k, uAR V o k = uAR U o k) (h : PW U x) : PW V x := by
  obtain ⟨a, b, c⟩ := h
  exact ⟨(hr 10 (Or.inl rfl)).trans a, (hr 11 (Or.inr rfl)).trans b, fun i hi => by rw [ha]; exact c i hi⟩
theorem PT_r {U V : Um} {w : Nat} (hr : ∀ o k, ¬ (o = 2 ∧ k = 1) → uR V o k = uR U o k) (ha : ∀ o k, uAR V o k = uAR U o k) (h : PT U w) : PT V w := by
  obtain ⟨a, ⟨b0, b1, b2, b3, b4, b5, b6⟩, c, d, e, f, g, i, j⟩ := h
  exact ⟨a, ⟨(hr 0 0 (by decide)).trans b0, (hr 0 1 (by decide)).trans b1, (hr 0 2 (by decide)).trans b2, (hr 0 3 (by decide)).trans b3, (hr 0 4 (by decide)).trans b4, (hr 0 5 (by decide)).trans b5, (hr 0 6 (by decide)).trans b6⟩, fun i hi => by rw [ha]; exact c i hi, fun i hi => by rw [ha]; exact d i hi, (hr 2 0 (by decide)).trans e, (hr 3 0 (by decide)).trans f, (hr 42 0 (by decide)).trans g, PW_r (fun k _ => hr 4 k (by omega)) ha i, PW_r (fun k _ => hr 5 k (by omega)) ha j⟩
theorem PT_s {U V : Um} {w x : Nat} (hxw : x + w = 9) (h2 : uR V 0 2 = x) (h3 : uR V 0 3 = w) (h42 : uR V 42 0 = x) (hr : ∀ o k, ¬ (o = 2 ∧ k = 1) → ¬ (o = 0 ∧ (k = 2 ∨ k = 3)) → ¬ (o = 42 ∧ k = 0) → uR V o k = uR U o k) (ha : ∀ o k, uAR V o k = uAR U o k) (h : PT U w) : PT V x := by
  obtain ⟨a, ⟨b0, b1, b2, b3, b4, b5, b6⟩, c, d, e, f, g, i, j⟩ := h
  exact ⟨by omega, ⟨(hr 0 0 (by decide) (by decide) (by decide)).trans b0, (hr 0 1 (by decide) (by decide) (by decide)).trans b1, h2, h3.trans (by omega), (hr 0 4 (by decide) (by decide) (by decide)).trans b4, (hr 0 5 (by decide) (by decide) (by decide)).trans b5, (hr 0 6 (by decide) (by decide) (by decide)).trans b6⟩, fun i hi => by rw [ha]; exact c i hi, fun i hi => by rw [ha]; exact d i hi, (hr 2 0 (by decide) (by decide) (by decide)).trans e, (hr 3 0 (by decide) (by decide) (by decide)).trans f, h42, PW_r (fun k _ => hr 4 k (by omega) (by omega) (by omega)) ha i, PW_r (fun k _ => hr 5 k (by omega) (by omega) (by omega)) ha j⟩
theorem r_03 {U : Um} {T : Tm} {w : Nat} (h : CC U T w) : uR U 0 3 = 9 - w := h.1.2.1.2.2.2.1
/-- behind a week that was told, the shelves as of before -/
def CAw (U : Um) (T D : Tm) (w : Nat) : Prop := CC U (weekK D) w ∧ (∀ o : Int, 0 ≤ o → o < 10 → uA U 42 9 o.toNat = jI 0) ∧ (∃ old : Int, (0 ≤ old ∧ old < 8) ∧ uI U 0 8 = jI old ∧ uI U 0 9 = jI 0) ∧ (uI U 1 1 = jI 0 ∧ uI U 2 2 = jI 0 ∧ uI U 2 3 = jI (-1)) ∧ CSa U T
theorem wE_17 {T : Tm} {k p : Int} : weekE T k p 17 0 = 0 := by
  unfold weekE
  rw [up_nf (f := 17) (k := 19) (by decide), up_nf (f := 17) (k := 18) (by decide), up_eq]
theorem wE_18 {T : Tm} {k p : Int} : weekE T k p 18 0 = k := by
  unfold weekE
  rw [up_nf (f := 18) (k := 19) (by decide), up_eq]
theorem wE_19 {T : Tm} {k p : Int} : weekE T k p 19 0 = p := by
  unfold weekE
  rw [up_eq]
theorem wK_o {D : Tm} {f : Nat} {i : Int} (h : (15 ≤ f ∧ f ≤ 29) ∨ f = 36 ∨ f = 37 ∨ 39 ≤ f) : weekK D f i = weekE D 0 (-1) f i := newT_o h
theorem CAw_A {U : Um} {T D : Tm} {w : Nat} (ho : Off T D) (h : CAw U T D w) : CA U (weekK D) w := by
  obtain ⟨c, z, ⟨old, ho1, h8, h9⟩, ⟨t1, t2, t3⟩, s⟩ := h
  have e38 : weekK D 38 0 = 0 := newT_38
  have e17 : weekK D 17 0 = 0 := (wK_o (by omega)).trans wE_17
  have e18 : weekK D 18 0 = 0 := (wK_o (by omega)).trans wE_18
  have e19 : weekK D 19 0 = -1 := (wK_o (by omega)).trans wE_19
  have e : ∀ (k : Nat) (i : Int), 50 ≤ k → k ≤ 53 → weekK D k i = T k i := fun k i a b => by
    rw [wK_o (by omega), weekE_o (by omega)]
    exact ho k i (by unfold dft; omega)
  refine ⟨c, z, ⟨old, ho1, h8, by rw [e38]; exact h9, by rw [e38]; decide, fun i i0 i1 => ?_⟩, ⟨⟨by rw [e17]; exact t1, fun i i0 i1 => ?_⟩, by rw [e18]; exact t2, by rw [e19]; exact t3⟩, fun q q0 q1 => ?_⟩
  · rw [e38] at i1
    omega
  · rw [e17] at i1
    omega
  · have r := s q q0 q1
    rw [e 50 q (by decide) (by decide), e 51 q (by decide) (by decide)]
    refine ⟨r.1, r.2.1, fun p p0 p1 => ?_⟩
    rw [e 53 _ (by decide) (by decide), e 52 _ (by decide) (by decide)]
    exact r.2.2 p p0 p1
theorem x_X11_week {U : Um} {T D0 : Tm} {w : Nat} (hA : CA U T w) (hI : I1 T) (ht : It T) (hD : emptyD D0) {post : Int32 → Um → Prop} (hE : ∀ (k p : Int) (V : Um), weekR T D0 = .error (k, p) → CA V (weekE T k p) w → k55 U V → post (-1) V) (hK : ∀ (D : Tm) (f : Int) (V : Um), weekR T D0 = .ok (D, f) → ID D f → IR D → D 15 0 ≤ 1200 → CAw V T D (9 - w) → k55 U V → post (jI (D 11 10)) V) : w_X11_week 0 U post := by
  obtain ⟨hC, h9, hP, hTa, hS⟩ := hA
  have hw := hC.1.1
  obtain ⟨x, ex⟩ : ∃ x, x = 9 - w := ⟨_, rfl⟩
  rw [← ex] at hK
  have hx : x = 4 ∨ x = 5 := by omega
  have hxw : x + w = 9 := by omega
  have r03 : uR U 0 3 = x := by rw [ex]; exact r_03 hC
  have pw : PW U x := by
    rcases hx with q | q
    · rw [q]; exact hC.1.2.2.2.2.2.2.2.1
    · rw [q]; exact hC.1.2.2.2.2.2.2.2.2
  unfold w_X11_week
  refine ⟨o_1 hC, oc_of r03 (oc_w hx), ?_⟩
  rw [r_01 hC, r03]
  have ur : ∀ {U1 V : Um}, U1 = sR U 2 1 x → fX (PXL x) U1 V → ∀ o k, ¬ (o = 2 ∧ k = 1) → uR V o k = uR U o k := fun e1 fV o k q => by rw [fV.1, e1, uR_sR, if_neg q]
  have nP : ∀ k, ¬ PXL x 55 k := fun k z => by omega
  refine x_readWeek hx hC.1.2.2.2.2.1 pw hTa.1 ht hD (fun k p U1 V e1 e cF fV => ?_) (fun D f U1 V e1 e iD iR hl cB cW cD z2 z3 fV => ?_)
  · have v00 : uR V 0 0 = 1 := (ur e1 fV 0 0 (by decide)).trans (r_00 hC)
    refine ⟨oc_of v00 rfl, ?_⟩
    rw [v00]
    intro U6 e6
    refine ⟨fun _ => ?_, fun q => absurd rfl q⟩
    have f6 : fX (fun o k => PXL x o k ∨ (o = 1 ∧ k = 1)) U1 U6 := by rw [e6]; exact fX_trans (fX_w (fun o k q => Or.inl q) fV) (fX_sI (Or.inr ⟨rfl, rfl⟩))
    have i6 : ∀ o k, ¬ (o = 1 ∧ k = 1) → uI U6 o k = uI V o k := fun o k q => by rw [e6, uI_sI, if_neg q]
    have cw1 : CW U1 T w := by rw [e1]; exact hC.2.1
    have cr1 : CR U1 T := by rw [e1]; exact hC.2.2
    have cp1 : CPa U1 T := by rw [e1]; exact hP
    have cs1 : CSa U1 T := by rw [e1]; exact hS
    have u9 : uA U1 42 9 = uA U 42 9 := by rw [e1]; rfl
    have n42 : ∀ k, ¬ (PXL x 42 k ∨ (42 = 1 ∧ k = 1)) := fun k z => by omega
    have cc6 : CC U6 T w := by
      refine ⟨PT_r (fun o k q => by rw [f6.1, e1, uR_sR, if_neg q]) (fun o k => by rw [f6.2.1, e1]; rfl) hC.1, CW_g hI f6 (fun k z => by omega) (fun k z => by omega) (fun k hk z => by omega) (fun g g0 g1 k z => ?_) cw1, ?_⟩
      · unfold gO at z
        omega
      · exact CRo_x (f6.2.2 42 1 (n42 1)).1 (fun k _ _ => (f6.2.2 42 k (n42 k)).2.2.1) (f6.2.2 42 5 (n42 5)).2.2.2.2 cr1
    refine hE k p U6 e ⟨CC_T (fun j hj => wk_e (by omega)) cc6, fun o o0 o1 => ?_, CPa_x f6 (fun o k z => by omega) (fun j hj => wk_e (by omega)) (wk_e (by decide)) (wk_e (by decide)) (wk_e (by decide)) cp1, ⟨⟨?_, fun i i0 i1 => ?_⟩, ?_, ?_⟩, CSa_x f6 (fun o k z => by omega) (wk_e (by decide)) (wk_e (by decide)) (wk_e (by decide)) (wk_e (by decide)) cs1⟩ ?_
    · rw [(f6.2.2 42 9 (n42 9)).2.2.1, u9]
      exact h9 o o0 o1
    · rw [wE_17, e6, uI_sI, if_pos ⟨rfl, rfl⟩]
      rfl
    · rw [wE_17] at i1
      omega
    · rw [wE_18, i6 2 2 (by decide)]
      exact cF.2.2.2.1
    · rw [wE_19, i6 2 3 (by decide)]
      exact cF.2.2.2.2.1
    · have q : k55 U U1 := by rw [e1]; exact k55_r
      exact k55_t q (k55_f f6 (fun k z => by omega))
  · have v := ur e1 fV
    have v00 : uR V 0 0 = 1 := (v 0 0 (by decide)).trans (r_00 hC)
    refine ⟨oc_of v00 rfl, ?_⟩
    rw [v00]
    intro U6 e6
    refine ⟨fun q => absurd q (by decide), fun _ => ?_⟩
    have u6 : ∀ o k, uR U6 o k = uR V o k := fun o k => by rw [e6]; rfl
    have u602 : uR U6 0 2 = w := by rw [u6, v 0 2 (by decide)]; exact r_02 hC
    have u603 : uR U6 0 3 = x := by rw [u6, v 0 3 (by decide)]; exact r03
    refine ⟨oc_of u602 (oc_w hw), oc_of u603 (oc_w hx), ?_⟩
    rw [u602, u603]
    intro U9 e9 U10 e10
    have ua2 : uR U10 0 2 = x := by rw [e10, uR_sR, if_neg (by decide), e9, uR_sR, if_pos ⟨rfl, rfl⟩]
    have ua4 : uR U10 0 4 = 42 := by rw [e10, uR_sR, if_neg (by decide), e9, uR_sR, if_neg (by decide), u6, v 0 4 (by decide)]; exact r_04 hC
    refine ⟨oc_of ua4 rfl, oc_of ua2 (oc_w hx), ?_⟩
    refine x_open hx (G := uA V x 2) (fun j hj => by rw [e10, e9, e6]; rfl) ua4 ua2 (fun W Z eW fZ z1 z23 z4 => ?_)
    intro Uf ef
    have i2 : ID (weekE D 0 (-1)) f := ID_e iD
    have e11 : weekE D 0 (-1) 11 = D 11 := wk_e (by decide)
    have e15 : weekE D 0 (-1) 15 = D 15 := wk_e (by decide)
    have e9' : weekE D 0 (-1) 9 = D 9 := wk_e (by decide)
    have hI2 : I1 (weekK D) := I1_new i2 (by rw [e15]; exact hl)
    have g6 : fX (fun o k => o = 1 ∧ k = 1) V U6 := by rw [e6]; exact fX_sI ⟨rfl, rfl⟩
    have fF : fX (fun o k => P42 o k ∨ (o = 0 ∧ k = 9)) W Uf := by rw [ef]; exact fX_trans (fX_w (fun o k q => Or.inl q) fZ) (fX_sI (Or.inr ⟨rfl, rfl⟩))
    have c6 : CW U6 (weekK D) x := CW_g hI2 g6 (fun k z => by omega) (fun k z => by omega) (fun k hk z => by omega) (fun g g0 g1 k z => by unfold gO at z; omega) cW
    have cWW : CW W (weekK D) x := by rw [eW, e10, e9]; exact c6
    have cWf : CW Uf (weekK D) x := CW_g hI2 fF (fun k z => by omega) (fun k z => by omega) (fun k hk z => by omega) (fun g g0 g1 k z => by unfold gO at z; omega) cWW
    have iW : ∀ o k, uI W o k = uI U6 o k := fun o k => by rw [eW, e10, e9]; rfl
    have aW : ∀ o k, uA W o k = uA V o k := fun o k => by rw [eW, e10, e9, e6]; rfl
    have fr : ∀ o k, uR Uf o k = uR W o k := fun o k => fF.1 o k
    have f02 : uR Uf 0 2 = x := by rw [fr, eW, uR_sR, if_neg (by decide)]; exact ua2
    have pf : PT Uf x := by
      refine PT_s hxw f02 ?_ ?_ (fun o k a b c => ?_) (fun o k => ?_) hC.1
      · rw [fr, eW, uR_sR, if_neg (by decide), e10, uR_sR, if_pos ⟨rfl, rfl⟩]
      · rw [fr, eW, uR_sR, if_pos ⟨rfl, rfl⟩]
      · rw [fr, eW, uR_sR, if_neg c, e10, uR_sR, if_neg (fun z => b ⟨z.1, Or.inr z.2⟩), e9, uR_sR, if_neg (fun z => b ⟨z.1, Or.inl z.2⟩), u6, v o k a]
      · rw [fF.2.1, eW, e10, e9, e6]
        show uAR V o k = uAR U o k
        rw [fV.2.1, e1]
        rfl
    have iz : ∀ o k, ¬ (o = 0 ∧ k = 9) → uI Uf o k = uI Z o k := fun o k q => by rw [ef, uI_sI, if_neg q]
    have az : ∀ o k, uA Uf o k = uA Z o k := fun o k => by rw [ef]; rfl
    have fz : ∀ o k, uF Uf o k = uF Z o k := fun o k => by rw [ef]; rfl
    have cRf : CR Uf (weekK D) := by
      refine CR_new hI2 i2.1 (by rw [iz 42 1 (by decide)]; exact z1) (fun j hj => by rw [az, az]; exact z23 j hj) (fun j hj hj2 => ?_) (fun j hj => ?_)
      · rw [e11] at hj2
        rw [az, (z4 j hj).1, e9']
        have r := (cD.2.2.1 (j : Int) (by omega) hj2).1
        exact r
      · rw [az, az, fz]
        exact (z4 j hj).2
    have u9 : uA U1 42 9 = uA U 42 9 := by rw [e1]; rfl
    have n42 : ∀ k, ¬ PXL x 42 k := fun k z => by omega
    obtain ⟨old, ho, h8, h9', hk, hr⟩ := hP
    have cs1 : CSa U1 T := by rw [e1]; exact hS
    have csV : CSa V T := CSa_x fV (fun o k z => by omega) rfl rfl rfl rfl cs1
    have cs6 : CSa U6 T := CSa_x g6 (fun o k z => by omega) rfl rfl rfl rfl csV
    have csW : CSa W T := by rw [eW, e10, e9]; exact cs6
    have csf : CSa Uf T := CSa_x fF (fun o k z => by omega) rfl rfl rfl rfl csW
    have iU : ∀ k, uI U1 0 k = uI U 0 k := fun k => by rw [e1]; rfl
    have cA : CAw Uf T D x := by
      refine ⟨⟨pf, cWf, cRf⟩, fun o o0 o1 => ?_, ⟨old, ho, ?_, ?_⟩, ⟨?_, ?_, ?_⟩, csf⟩
      · rw [(fF.2.2 42 9 (fun z => by omega)).2.2.1, aW, (fV.2.2 42 9 (n42 9)).2.2.1, u9]
        exact h9 o o0 o1
      · rw [(fF.2.2 0 8 (fun z => by omega)).1, iW, (g6.2.2 0 8 (by decide)).1, (fV.2.2 0 8 (fun z => by omega)).1, iU]
        exact h8
      · rw [ef, uI_sI, if_pos ⟨rfl, rfl⟩]
        rfl
      · rw [(fF.2.2 1 1 (fun z => by omega)).1, iW, e6, uI_sI, if_pos ⟨rfl, rfl⟩]
        rfl
      · rw [(fF.2.2 2 2 (fun z => by omega)).1, iW, (g6.2.2 2 2 (by decide)).1]
        exact z2
      · rw [(fF.2.2 2 3 (fun z => by omega)).1, iW, (g6.2.2 2 3 (by decide)).1]
        exact z3
    have k1 : k55 U U1 := by rw [e1]; exact k55_r
    have k2 : k55 V U6 := k55_f g6 (fun k z => by omega)
    have k3 : k55 U6 W := by rw [eW, e10, e9]; exact fun _ => ⟨rfl, rfl, rfl, rfl⟩
    have kf : k55 U Uf := k55_t k1 (k55_t (k55_f fV nP) (k55_t k2 (k55_t k3 (k55_f fF (fun k z => by omega)))))
    refine ⟨oc_of f02 (oc_w hx), ?_⟩
    rw [f02]
    have e3 : weekK D 11 3 = D 11 10 := (newT_11 (D := weekE D 0 (-1)) (i := 3) (by decide) (by decide)).trans (weekE_o (by decide))
    have r7 : uI Uf x 7 = jI (D 11 10) := by rw [← e3]; exact cWf.1.2.1
    rw [r7]
    exact hK D f Uf e iD iR hl cA kf
