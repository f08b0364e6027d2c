/-! the class: fields, clubs, rest, most, roads -/
theorem x_giv {U : Um} {T D : Tm} {x : Nat} {f g : Int} (hQ : CQ U T D x g) (hb : BD D) (h4 : uI U 2 4 = jI f) (hf : 0 ≤ f ∧ f ≤ 1200) {s m : Int} (hs : (s = 0 ∧ m = 6) ∨ (s = 1 ∧ m = 8) ∨ (s = 2 ∧ m = 10)) {post : Int32 → Um → Prop} (hE : m ≤ D 11 (7 + s) → ∀ V : Um, CF V T x 4 f → fX PXt U V → post (-1) V) (hE2 : D 11 (7 + s) < m → newE T D g ≠ 0 → ∀ V : Um, CF V T x (newE T D g) g → fX PXt U V → post (-1) V) (hK : D 11 (7 + s) < m → newE T D g = 0 → ∀ V : Um, CQ V T D x (nx T g) → fX PXt U V → w_X9_addName x (jI s) (jI (cdS T g)) V post) : w_X4_readGiven 2 (jI s) U post := by
  have c := hQ.1
  refine ⟨b_n c, b_1 c, x_full hQ hb c.2.2.1 rfl hs (fun q K hK2 => br_1 ?_) (fun q K hK2 => br_0 ?_)⟩
  · exact x_fail hQ hb (k := 4) rfl h4 (by decide) hf (fun V fV pV => hK2 V (f_newName fV (fun r => fl_F fV (hE q V fV pV))))
  · refine hK2 U (x_newName hQ hb (fun e V qV fV v4 => ?_) (fun e V fV pV => fl_F fV (hE2 q e V fV pV)))
    have cV := qV.1
    refine fl_Q qV ⟨b_n cV, b_1 cV, ?_⟩
    rw [cV.2.2.1]
    exact hK q e V qV fV
theorem f_giv {U : Um} {T : Tm} {x : Nat} {k p : Int} (h : CF U T x k p) {s : Int} (hs : 0 ≤ s ∧ s ≤ 2) {post : Int32 → Um → Prop} (hp : ∀ r, post r U) : w_X4_readGiven 2 (jI s) U post := by
  refine ⟨b_n h.1, b_1 h.1, ?_⟩
  rw [h.1.2.2.1]
  obtain ⟨c, cb, hc⟩ := h.2.1 s hs.1 (by omega)
  have ts : Int32.toNatClampNeg (jI s) = s.toNat := jI_nat hs.1 (by omega)
  have vs : vp_in (jI s) 3 := jvp s rfl hs.1 (by omega) (by decide)
  have go : w_X4_newName 2 U (fun r_7 U_6 => (uI U_6 2 2 = 0 → uR U_6 2 1 ≠ 99 ∧ oc (uR U_6 2 1) = 8 ∧ w_X9_addName (uR U_6 2 1) (jI s) r_7 U_6 (fun r_10 U_9 => post r_10 U_9)) ∧ (¬ uI U_6 2 2 = 0 → post (-1) U_6)) := f_newName h (fun r => fl_F h (hp _))
  refine ⟨vs, vs, fun _ K hK => br_0 (hK U go), fun _ K hK => br_1 (x_failF h (hK U go))⟩
theorem fX_o {P : Nat → Nat → Prop} {U V : Um} {x : Nat} (hf : fX P U V) (hP : ∀ o k, P o k → o = x ∨ o = x + 2) : fX (PX x) U V := fX_w (fun o k q => by have := hP o k q; omega) hf
theorem x_field {U : Um} {T D : Tm} {x : Nat} {f : Int} (hQ : CQ U T D x (nx T f)) (hb : BD D) (h4 : uI U 2 4 = jI f) (hf : 0 ≤ f ∧ f ≤ 1200) {post : Um → Prop} (h : ResC U T x (fieldR T D f) post) : w_X4_readGiven 2 0 U (fun _ V => post V) := by
  unfold fieldR at h
  have n := hb.1.1
  refine x_giv hQ hb h4 hf (s := 0) (m := 6) (by omega) (fun q V fV pV => ?_) (fun q e V fV pV => ?_) (fun q e V qV fV => ?_)
  · rw [fu_4 q, ck_1 (by decide)] at h
    exact ResC_e h fV (tX pV)
  · rw [fu_0 q, ck_0 rfl, ck_1 e] at h
    exact ResC_e h fV (tX pV)
  · rw [fu_0 q, ck_0 rfl, ck_0 e] at h
    have q : D 11 7 < 6 := q
    refine x_add qV hb rfl rfl rfl (by decide) ⟨n.1.1, by show D 11 7 < 10; omega⟩ (by rw [show (7 : Int) + 0 = 7 from rfl, up_eq]) (fun i hi => by rw [up_ne (by omega), up_nf (by decide)]) ?_ (fun t i t0 t2 hti => ?_) (fun o o0 o1 => ?_) (fun z => by omega) ?_ ?_ ?_ ?_ ?_ (fun Z qZ fZ => ResC_k h qZ (fX_trans (tX fV) (fX_o fZ (fun o k q => Or.inl q))))
    · show (up (up D 1 (6 + D 11 7) (cdS T (nx T f))) 11 7 (D 11 7 + 1)) 1 (6 + D 11 7) = _
      rw [up_nf (by decide), up_eq]
    · unfold nmD
      by_cases c : t = 0
      · rw [if_pos c, if_pos c, up_nf (by decide), up_ne (by have : i ≠ D 11 7 := hti c; omega)]
      · rw [if_neg c, if_neg c, up_nf (by decide), up_nf (f := 4) (by decide), up_nf (f := 5) (by decide), up_nf (f := 5) (by decide)]
    · rw [up_nf (f := 9) (by decide), up_nf (f := 9) (by decide), up_nf (f := 6) (by decide), up_nf (f := 6) (by decide), up_nf (f := 7) (by decide), up_nf (f := 7) (by decide), up_nf (f := 8) (by decide), up_nf (f := 8) (by decide)]
      exact ⟨rfl, rfl, rfl, rfl⟩
    · rw [up_f (by decide), up_f (by decide)]
    · rw [up_f (by decide), up_f (by decide)]
    · rw [up_f (by decide), up_f (by decide)]
    · rw [up_f (by decide), up_f (by decide)]
    · rw [up_f (by decide), up_f (by decide)]
theorem x_club {U : Um} {T D : Tm} {x : Nat} {f : Int} (hQ : CQ U T D x (nx T f)) (hb : BD D) (h4 : uI U 2 4 = jI f) (hf : 0 ≤ f ∧ f ≤ 1200) {post : Um → Prop} (h : ResC U T x (clubR T D f) post) : w_X4_readGiven 2 1 U (fun _ V => post V) := by
  unfold clubR at h
  have n := hb.1.1
  refine x_giv hQ hb h4 hf (s := 1) (m := 8) (by omega) (fun q V fV pV => ?_) (fun q e V fV pV => ?_) (fun q e V qV fV => ?_)
  · rw [fu_4 q, ck_1 (by decide)] at h
    exact ResC_e h fV (tX pV)
  · rw [fu_0 q, ck_0 rfl, ck_1 e] at h
    exact ResC_e h fV (tX pV)
  · rw [fu_0 q, ck_0 rfl, ck_0 e] at h
    have q : D 11 8 < 8 := q
    refine x_add qV hb rfl rfl rfl (by decide) ⟨n.2.1.1, by show D 11 8 < 10; omega⟩ (by rw [show (7 : Int) + 1 = 8 from rfl, up_eq]) (fun i hi => by rw [up_ne (by omega), up_nf (by decide)]) ?_ (fun t i t0 t2 hti => ?_) (fun o o0 o1 => ?_) (fun z => by omega) ?_ ?_ ?_ ?_ ?_ (fun Z qZ fZ => ResC_k h qZ (fX_trans (tX fV) (fX_o fZ (fun o k q => Or.inl q))))
    · show (up (up D 4 (8 + D 11 8) (cdS T (nx T f))) 11 8 (D 11 8 + 1)) 4 (8 + D 11 8) = _
      rw [up_nf (by decide), up_eq]
    · unfold nmD
      by_cases c0 : t = 0
      · rw [if_pos c0, if_pos c0, up_nf (by decide), up_nf (by decide)]
      · rw [if_neg c0, if_neg c0]
        by_cases c : t = 1
        · rw [if_pos c, if_pos c, up_nf (by decide), up_ne (by have : i ≠ D 11 8 := hti c; omega)]
        · rw [if_neg c, if_neg c, up_nf (by decide), up_nf (by decide)]
    · rw [up_nf (f := 9) (by decide), up_nf (f := 9) (by decide), up_nf (f := 6) (by decide), up_nf (f := 6) (by decide), up_nf (f := 7) (by decide), up_nf (f := 7) (by decide), up_nf (f := 8) (by decide), up_nf (f := 8) (by decide)]
      exact ⟨rfl, rfl, rfl, rfl⟩
    · rw [up_f (by decide), up_f (by decide)]
    · rw [up_f (by decide), up_f (by decide)]
    · rw [up_f (by decide), up_f (by decide)]
    · rw [up_f (by decide), up_f (by decide)]
    · rw [up_f (by decide), up_f (by decide)]
theorem CDa_c {U V : Um} {D D2 : Tm} {x : Nat} (e : ∀ s, uA V x (ki 0 s) = uA U x (ki 0 s)) (n : ∀ s i, nmD D2 s i = nmD D s i) (k : ∀ s, 0 ≤ s → s < 3 → D2 11 (7 + s) = D 11 (7 + s)) (h : CDa U D x) : CDa V D2 x := fun s i s0 s1 i0 i1 => by
  rw [k s s0 s1] at i1
  rw [e, n]
  exact h s i s0 s1 i0 i1
theorem CDo_c {U V : Um} {D D2 : Tm} {x : Nat} (e : ∀ j, 2 ≤ j → j ≤ 5 → uA V x j = uA U x j) (d9 : D2 9 = D 9) (d6 : D2 6 = D 6) (d7 : D2 7 = D 7) (d8 : D2 8 = D 8) (k : D2 11 9 = D 11 9) (h : CDo U D x) : CDo V D2 x := fun o o0 o1 => by
  rw [k] at o1
  rw [e 2 (by decide) (by decide), e 3 (by decide) (by decide), e 4 (by decide) (by decide), e 5 (by decide) (by decide), d9, d6, d7, d8]
  exact h o o0 o1
theorem x_keptL {U V : Um} {T D : Tm} {x : Nat} {g v : Int} {kk : Nat} {z : Int} (hz : (kk = 8 ∧ z = 11) ∨ (kk = 9 ∧ z = 12)) (hQ : CQ U T D x g) (hb : BD D) (hV : V = sI U x kk (jI v)) : CQ V T (up D 11 z v) x g ∧ fX (fun o _ => o = x) U V := by
  have fV : fX (fun o _ => o = x) U V := by rw [hV]; exact fX_sI rfl
  have d := hQ.2.1
  have ra : ∀ k, uA V x k = uA U x k := fun k => by rw [hV]; rfl
  refine ⟨CQ_up hQ fV (fun o k q => by have := hQ.1.1; omega) (CD_up hQ.1.1 hb.1 fV (fun o k q => q) ⟨fun k k0 k1 => ?_, ?_, ?_, ?_⟩ (CDa_c (fun s => ra _) (fun s i => by unfold nmD; rw [up_nf (f := 1) (by decide), up_nf (f := 4) (by decide), up_nf (f := 5) (by decide)]) (fun s s0 s1 => up_ne (by omega)) d.2.1) (CDo_c (fun j _ _ => ra j) (up_f (by decide)) (up_f (by decide)) (up_f (by decide)) (up_f (by decide)) (up_ne (by omega)) d.2.2.1) (up_f (by decide)) (up_f (by decide)) (up_f (by decide)) (up_f (by decide)) (up_f (by decide)) (up_ne (by omega)) d), fV⟩
  · rw [ra, up_ne (by omega)]; exact d.1.1 k k0 k1
  · rw [hV, uI_sI, if_neg (by omega), up_ne (by omega)]; exact d.1.2.1
  · rw [hV, uI_sI]
    rcases hz with ⟨rfl, rfl⟩ | ⟨rfl, rfl⟩
    · rw [if_pos ⟨rfl, rfl⟩, up_eq]
    · rw [if_neg (by omega), up_ne (by omega)]; exact d.1.2.2.1
  · rw [hV, uI_sI]
    rcases hz with ⟨rfl, rfl⟩ | ⟨rfl, rfl⟩
    · rw [if_neg (by omega), up_ne (by omega)]; exact d.1.2.2.2
    · rw [if_pos ⟨rfl, rfl⟩, up_eq]
theorem x_rest {U : Um} {T D : Tm} {x : Nat} {f : Int} (hQ : CQ U T D x (nx T f)) (hb : BD D) {post : Um → Prop} (h : ResC U T x (keptR T D 4 0 120 f) post) : w_X4_readRest 2 U post := by
  unfold keptR at h
  refine x_num hQ hb (lo := 0) (hi := 120) rfl rfl ⟨by decide, by decide⟩ ⟨by decide, by decide⟩ (fun e V qV fV v4 => ?_) (fun e V fV pV => fl_F fV ?_)
  · rw [ck_0 e] at h
    refine fl_Q qV ⟨b_n qV.1, b_1 qV.1, fun Z eZ => ?_⟩
    rw [qV.1.2.2.1] at eZ
    have k := x_keptL (z := 11) (Or.inl ⟨rfl, rfl⟩) qV hb eZ
    exact ResC_k h k.1 (fX_trans (tX fV) (fX_o k.2 (fun o k q => Or.inl q)))
  · rw [ck_1 e] at h
    exact ResC_e h fV (tX pV)
theorem x_most {U : Um} {T D : Tm} {x : Nat} {f : Int} (hQ : CQ U T D x (nx T f)) (hb : BD D) {post : Um → Prop} (h : ResC U T x (keptR T D 5 1 4 f) post) : w_X4_readMost 2 U post := by
  unfold keptR at h
  refine x_num hQ hb (lo := 1) (hi := 4) rfl rfl ⟨by decide, by decide⟩ ⟨by decide, by decide⟩ (fun e V qV fV v4 => ?_) (fun e V fV pV => fl_F fV ?_)
  · rw [ck_0 e] at h
    refine fl_Q qV ⟨b_n qV.1, b_1 qV.1, fun Z eZ => ?_⟩
    rw [qV.1.2.2.1] at eZ
    have k := x_keptL (z := 12) (Or.inr ⟨rfl, rfl⟩) qV hb eZ
    exact ResC_k h k.1 (fX_trans (tX fV) (fX_o k.2 (fun o k q => Or.inl q)))
  · rw [ck_1 e] at h
    exact ResC_e h fV (tX pV)
