/-! the class: lines -/
abbrev PXL (x o k : Nat) : Prop := PX x o k ∨ (o = 2 ∧ k = 4)
def ResL (U0 : Um) (T : Tm) (x : Nat) (r : PR) (post : Um → Prop) : Prop := match r with
  | .error e => ∀ V : Um, CF V T x e.1 e.2 → fX (PXL x) U0 V → post V
  | .ok p => ∀ V : Um, CQ V T p.1 x p.2 → fX (PXL x) U0 V → post V
theorem ID_B {D : Tm} {f : Int} (h : ID D f) (hf : f ≤ 1200) : BD D := ⟨h.1, h.2.2.2.2.2.1.1, by have := h.2.2.2.2.2.2.1; omega⟩
theorem f_sum {U : Um} {T : Tm} {x : Nat} {k p : Int} (h : CF U T x k p) {n : Nat} {a : Int32} {post : Um → Prop} (hp : post U) : w_X4_readSum (n + 1) 2 a U post := f_atom h ⟨1, f_lterm h ⟨1, f_lsum h hp⟩⟩
theorem CD_13 {U : Um} {D : Tm} {x : Nat} {v : Int} (h : CD U D x) : CD U (up D 11 13 v) x := by
  obtain ⟨⟨a1, a2, a3, a4⟩, b, c, d, e, l⟩ := h
  have k11 : ∀ i, i ≠ 13 → up D 11 13 v 11 i = D 11 i := fun i hi => up_ne (by omega)
  have ko : ∀ k, k ≠ 11 → up D 11 13 v k = D k := fun k hk => up_f hk
  refine ⟨⟨fun k k0 k1 => by rw [k11 _ (by omega)]; exact a1 k k0 k1, by rw [k11 _ (by decide)]; exact a2, by rw [k11 _ (by decide)]; exact a3, by rw [k11 _ (by decide)]; exact a4⟩, CDa_c (fun _ => rfl) (fun s i => by unfold nmD; rw [ko 1 (by decide), ko 4 (by decide), ko 5 (by decide)]) (fun s _ _ => k11 _ (by omega)) b, CDo_c (fun _ _ _ => rfl) (ko 9 (by decide)) (ko 6 (by decide)) (ko 7 (by decide)) (ko 8 (by decide)) (k11 9 (by decide)) c, fun g g0 g1 k hk => ?_, fun p q p0 p1 q0 q1 => by rw [ko 2 (by decide)]; exact e p q p0 p1 q0 q1, by rw [ko 15 (by decide)]; exact l.1, fun k k0 k1 => ?_⟩
  · rw [k11 _ (by decide)] at g1
    unfold gD
    rw [ko 10 (by decide)]
    exact d g g0 g1 k hk
  · rw [ko 15 (by decide)] at k1
    unfold encD
    rw [ko 12 (by decide), ko 13 (by decide)]
    exact l.2 k k0 k1
theorem x_fee {U : Um} {T D : Tm} {x : Nat} {f : Int} (hQ : CQ U T D x (nx T f)) (hD : ID D f) (h4 : uI U 2 4 = jI f) (hf : 0 ≤ f ∧ f ≤ 1200) {post : Um → Prop} (h : ResC U T x (feeR T D f) post) : w_X4_expectNoLaw 2 U (fun V => w_X4_readSum 5 2 0 V post) := by
  unfold feeR at h
  have c := hQ.1
  have ht := CQ_it hQ
  have fb := CQ_f hQ
  have hb := ID_B hD hf.2
  have lw := (CQ_r hQ c.2.2.1).2
  obtain ⟨hL, hn, w1, w2⟩ := hD.2.2.2.2.2
  have r1 : uI U (uR U (uR U 2 1) 11) 1 = jI (D 15 0) := by rw [lw]; exact hQ.2.1.2.2.2.2.2.1
  have nge := (nx_b ht (f := f) hf.1 (by omega)).1
  refine ⟨b_n c, b_1 c, oc_of lw (oc_l c.1), br_le (D 15 0) 0 r1 rfl ⟨by have := hb.2; omega, by have := hb.2; omega⟩ ⟨by decide, by decide⟩ (fun q => ?_) (fun q => ?_)⟩
  · have n1 : D 11 13 ≠ 1 := fun z => by
      have := w2 z
      rw [show (D 15 0).toNat = 0 by omega] at this
      have this : (0 : Int) = 1 := this
      omega
    have z0 : D 15 0 = 0 := w1 n1
    rw [if_neg n1, ck_0 rfl] at h
    have hQ2 : CQ U T (up D 11 13 1) x (nx T f) := ⟨hQ.1, CD_13 hQ.2.1, hQ.2.2⟩
    have e15 : up D 11 13 1 15 0 = 0 := by rw [up_nf (by decide)]; exact z0
    have hN2 : IN (up D 11 13 1) := by
      have hN := hb.1
      unfold IN at hN ⊢
      rw [up_ne (f := 11) (j := 7) (by decide), up_ne (f := 11) (j := 8) (by decide), up_ne (f := 11) (j := 9) (by decide), up_ne (f := 11) (j := 10) (by decide)]
      exact hN
    have hL2 : LI (up D 11 13 1) := ⟨by rw [e15]; exact Int.le_refl 0, fun k hk => by rw [e15] at hk; omega⟩
    exact p_readSumC ht 4 (by decide) U _ (nx T f) post hQ2 hN2 hL2 (by rw [e15]; exact fb.1) (by rw [e15]; show (0 : Int) ≤ 2 * (4 - ((4 : Nat) : Int)); decide) h
  · have n1 : D 11 13 = 1 := Classical.byContradiction (fun z => by have := w1 z; omega)
    rw [if_pos n1, ck_1 (by decide)] at h
    exact x_fail hQ hb (k := 4) rfl h4 (by decide) hf (fun V fV pV => f_sum fV (ResC_e h fV (tX pV)))
theorem disp_0 {T D : Tm} {f : Int} (e : cdS T f = ownL.getD 0 0) : dispR T D f = fieldR T D f := by
  unfold dispR
  rw [if_pos e]
theorem disp_1 {T D : Tm} {f : Int} (e : cdS T f = ownL.getD 1 0) : dispR T D f = roadR T D f := by
  unfold dispR
  rw [if_neg (by rw [e]; decide), if_pos e]
theorem disp_2 {T D : Tm} {f : Int} (e : cdS T f = ownL.getD 2 0) : dispR T D f = clubR T D f := by
  unfold dispR
  rw [if_neg (by rw [e]; decide), if_neg (by rw [e]; decide), if_pos e]
theorem disp_3 {T D : Tm} {f : Int} (e : cdS T f = ownL.getD 3 0) : dispR T D f = oneR T D f := by
  unfold dispR
  rw [if_neg (by rw [e]; decide), if_neg (by rw [e]; decide), if_neg (by rw [e]; decide), if_pos e]
theorem disp_6 {T D : Tm} {f : Int} (e : cdS T f = ownL.getD 6 0) : dispR T D f = offR T D f := by
  unfold dispR
  rw [if_neg (by rw [e]; decide), if_neg (by rw [e]; decide), if_neg (by rw [e]; decide), if_neg (by rw [e]; decide), if_pos e]
theorem disp_8 {T D : Tm} {f : Int} (e : cdS T f = ownL.getD 8 0) : dispR T D f = gameR T D f := by
  unfold dispR
  rw [if_neg (by rw [e]; decide), if_neg (by rw [e]; decide), if_neg (by rw [e]; decide), if_neg (by rw [e]; decide), if_neg (by rw [e]; decide), if_pos e]
theorem disp_13 {T D : Tm} {f : Int} (e : cdS T f = ownL.getD 13 0) : dispR T D f = keptR T D 4 0 120 f := by
  unfold dispR
  rw [if_neg (by rw [e]; decide), if_neg (by rw [e]; decide), if_neg (by rw [e]; decide), if_neg (by rw [e]; decide), if_neg (by rw [e]; decide), if_neg (by rw [e]; decide), if_pos e]
theorem disp_14 {T D : Tm} {f : Int} (e : cdS T f = ownL.getD 14 0) : dispR T D f = keptR T D 5 1 4 f := by
  unfold dispR
  rw [if_neg (by rw [e]; decide), if_neg (by rw [e]; decide), if_neg (by rw [e]; decide), if_neg (by rw [e]; decide), if_neg (by rw [e]; decide), if_neg (by rw [e]; decide), if_neg (by rw [e]; decide), if_pos e]
theorem disp_15 {T D : Tm} {f : Int} (e : cdS T f = ownL.getD 15 0) : dispR T D f = feeR T D f := by
  unfold dispR
  rw [if_neg (by rw [e]; decide), if_neg (by rw [e]; decide), if_neg (by rw [e]; decide), if_neg (by rw [e]; decide), if_neg (by rw [e]; decide), if_neg (by rw [e]; decide), if_neg (by rw [e]; decide), if_neg (by rw [e]; decide), if_pos e]
theorem disp_q : ∀ j, j < 23 → (j = 4 ∨ j = 5 ∨ j = 7 ∨ j = 9 ∨ j = 10 ∨ j = 11 ∨ 15 ≤ j) → ∀ o ∈ [0, 1, 2, 3, 6, 8, 13, 14, 15], ownL.getD (wpm j) 0 ≠ ownL.getD o 0 := by decide
theorem disp_n {T D : Tm} {f : Int} {j : Nat} (hj : j < 23) (hq : j = 4 ∨ j = 5 ∨ j = 7 ∨ j = 9 ∨ j = 10 ∨ j = 11 ∨ 15 ≤ j) (e : cdS T f = ownL.getD (wpm j) 0) : dispR T D f = .error (1, f) := by
  have k := disp_q j hj hq
  rw [← e] at k
  unfold dispR
  rw [if_neg (k 0 (by decide)), if_neg (k 1 (by decide)), if_neg (k 2 (by decide)), if_neg (k 3 (by decide)), if_neg (k 6 (by decide)), if_neg (k 8 (by decide)), if_neg (k 13 (by decide)), if_neg (k 14 (by decide)), if_neg (k 15 (by decide))]
theorem disp_o {T D : Tm} {f : Int} (e : cdS T f ∉ ownL) : dispR T D f = .error (1, f) := by
  have k : ∀ j, j < 23 → cdS T f ≠ ownL.getD j 0 := fun j hj z => e (by rw [z]; exact own_at j hj)
  unfold dispR
  rw [if_neg (k 0 (by decide)), if_neg (k 1 (by decide)), if_neg (k 2 (by decide)), if_neg (k 3 (by decide)), if_neg (k 6 (by decide)), if_neg (k 8 (by decide)), if_neg (k 13 (by decide)), if_neg (k 14 (by decide)), if_neg (k 15 (by decide))]
theorem tL {x : Nat} {U V : Um} (h : fX (PX x) U V) : fX (PXL x) U V := fX_w (fun o k q => Or.inl q) h
theorem x_line {U : Um} {T D : Tm} {x : Nat} {f : Int} (hQ : CQ U T D x f) (hD : ID D f) {post : Um → Prop} (h : ResL U T x (lineR T D f) post) : w_X4_readLine 2 U post := by
  have c := hQ.1
  have ht := CQ_it hQ
  have t := ht.1
  have fb := CQ_f hQ
  have hb := ID_B hD fb.2
  refine ⟨b_0 c, fun U2 e2 => ?_⟩
  rw [CQ_at hQ] at e2
  have f2 : fX (fun o k => o = 2 ∧ k = 4) U U2 := by rw [e2]; exact fX_sI ⟨rfl, rfl⟩
  have q2 : CQ U2 T D x f := by
    obtain ⟨c, d, p, f0, a2, a3⟩ := hQ
    have g := fun o k (q : ¬ (o = 2 ∧ k = 4)) => f2.2.2 o k q
    refine ⟨CB0_x f2 (fun o k q => by omega) c, ?_, ?_, f0, by rw [(g 2 2 (by omega)).1]; exact a2, by rw [(g 2 3 (by omega)).1]; exact a3⟩
    · have e0 : ∀ o, o ≠ 2 → ∀ k, uI U2 o k = uI U o k := fun o ho k => (g o k (fun q => ho q.1)).1
      have e1 : ∀ o k, uA U2 o k = uA U o k := fun o k => by rw [e2]; rfl
      have hx := c.1
      obtain ⟨⟨a1, a2, a3, a4⟩, b, cc, dd, ee, ⟨l1, l2⟩⟩ := d
      refine ⟨⟨fun k k0 k1 => by rw [e1]; exact a1 k k0 k1, by rw [e0 x (by omega)]; exact a2, by rw [e0 x (by omega)]; exact a3, by rw [e0 x (by omega)]; exact a4⟩, fun s i s0 s1 i0 i1 => by rw [e1]; exact b s i s0 s1 i0 i1, fun o o0 o1 => by rw [e1, e1, e1, e1]; exact cc o o0 o1, fun g g0 g1 k hk => by rw [e0 _ (by unfold gO; omega)]; exact dd g g0 g1 k hk, fun p q p0 p1 q0 q1 => by rw [e1]; exact ee p q p0 p1 q0 q1, by rw [e0 _ (by omega)]; exact l1, fun k k0 k1 => by rw [e1]; exact l2 k k0 k1⟩
    · unfold PC at p ⊢
      rw [(g 1 2 (by omega)).1, (g 1 3 (by omega)).1, (g 1 5 (by omega)).1, (g 1 6 (by omega)).1, (g 1 7 (by omega)).1]
      exact p
  have h4 : uI U2 2 4 = jI f := by rw [e2, uI_sI, if_pos ⟨rfl, rfl⟩]
  have f2 : fX (PXL x) U U2 := fX_w (fun o k q => Or.inr q) f2
  refine ⟨b_0 q2.1, x_of ht q2.2.2.2.1 (CQ_cd q2) (fun nin => ⟨fun _ => ?_, fun y => absurd y (by decide)⟩) (fun j hj ej => ⟨fun y => by omega, fun _ => ⟨b_0 q2.1, ?_⟩⟩)⟩
  · have e : lineR T D f = .error (1, f) := by unfold lineR; rw [disp_o nin]
    rw [e] at h
    exact x_fail q2 hb (k := 1) rfl h4 (by decide) fb (fun V fV pV => h V fV (fX_trans f2 (tL (tX pV))))
  refine x_next q2 hb q2.1.2.1 (fun V qV fV _ => ?_)
  have h4V : uI V 2 4 = jI f := by rw [(fV.2.2 2 4 (by omega)).1]; exact h4
  have fV : fX (PXL x) U V := fX_trans f2 (tL (tX (fX_w (fun o k q => PV_t q) fV)))
  have hd : ResC V T x (dispR T D f) (fun Z => w_X4_expectSign 2 59 Z (fun Y => post Y)) := ResC_w (fun k p W e fW oW => f_expS fW (by
    have el : lineR T D f = .error (k, p) := by unfold lineR; rw [e]
    rw [el] at h
    exact h W fW (fX_trans fV (tL oW)))) (fun E g W e qW oW => by
    have di := (disp_i ht ⟨fb.1, by omega⟩ hD e).1
    have fW := CQ_f qW
    have hbE : BD E := ID_B di fW.2
    have el : lineR T D f = ck (sgE T g 59) g (.ok (E, nx T g)) := by unfold lineR; rw [e]
    rw [el] at h
    refine x_expS qW hbE (s := 59) rfl ⟨by decide, by decide⟩ (fun e0 Z qZ fZ => ?_) (fun e0 Z fZ pZ => ?_)
    · rw [ck_0 e0] at h
      exact h Z qZ (fX_trans fV (fX_trans (tL oW) (tL (tX fZ))))
    · rw [ck_1 e0] at h
      exact h Z fZ (fX_trans fV (fX_trans (tL oW) (tL (tX pZ)))))
  have hR := hD.2.2.1
  have no : dispR T D f = .error (1, f) → w_X4_fail 2 1 (uI V 2 4) V (fun U_13 => w_X4_expectSign 2 59 U_13 (fun U_15 => post U_15)) := fun e => by
    rw [e] at hd
    exact x_fail qV hb (k := 1) rfl h4V (by decide) fb (fun Z fZ pZ => hd Z fZ (tX pZ))
  have vj : vp_in (Int32.ofNat j) 23 := jvp (j : Int) (by rfl) (by omega) (by omega) (by decide)
  refine ⟨vj, ?_⟩
  rcases (show j = 0 ∨ j = 1 ∨ j = 2 ∨ j = 3 ∨ j = 4 ∨ j = 5 ∨ j = 6 ∨ j = 7 ∨ j = 8 ∨ j = 9 ∨ j = 10 ∨ j = 11 ∨ j = 12 ∨ j = 13 ∨ j = 14 ∨ j = 15 ∨ j = 16 ∨ j = 17 ∨ j = 18 ∨ j = 19 ∨ j = 20 ∨ j = 21 ∨ j = 22 by omega) with rfl | rfl | rfl | rfl | rfl | rfl | rfl | rfl | rfl | rfl | rfl | rfl | rfl | rfl | rfl | rfl | rfl | rfl | rfl | rfl | rfl | rfl | rfl
  · rw [show wjumps.getD (Int32.toNatClampNeg (Int32.ofNat 0)) 0 = 1 from by decide]
    refine ⟨fun a1 a2 a3 a4 a5 a6 a7 a8 a9 => absurd rfl a1, fun _ => ?_, fun y => absurd y (by decide), fun y => absurd y (by decide), fun y => absurd y (by decide), fun y => absurd y (by decide), fun y => absurd y (by decide), fun y => absurd y (by decide), fun y => absurd y (by decide), fun y => absurd y (by decide)⟩
    rw [disp_0 ej] at hd
    exact x_field qV hb h4V fb hd
  · rw [show wjumps.getD (Int32.toNatClampNeg (Int32.ofNat 1)) 0 = 4 from by decide]
    refine ⟨fun a1 a2 a3 a4 a5 a6 a7 a8 a9 => absurd rfl a4, fun y => absurd y (by decide), fun y => absurd y (by decide), fun y => absurd y (by decide), fun _ => ?_, fun y => absurd y (by decide), fun y => absurd y (by decide), fun y => absurd y (by decide), fun y => absurd y (by decide), fun y => absurd y (by decide)⟩
    rw [disp_1 ej] at hd
    exact x_road qV hb hR hd
  · rw [show wjumps.getD (Int32.toNatClampNeg (Int32.ofNat 2)) 0 = 2 from by decide]
    refine ⟨fun a1 a2 a3 a4 a5 a6 a7 a8 a9 => absurd rfl a2, fun y => absurd y (by decide), fun _ => ?_, fun y => absurd y (by decide), fun y => absurd y (by decide), fun y => absurd y (by decide), fun y => absurd y (by decide), fun y => absurd y (by decide), fun y => absurd y (by decide), fun y => absurd y (by decide)⟩
    rw [disp_2 ej] at hd
    exact x_club qV hb h4V fb hd
  · rw [show wjumps.getD (Int32.toNatClampNeg (Int32.ofNat 3)) 0 = 3 from by decide]
    refine ⟨fun a1 a2 a3 a4 a5 a6 a7 a8 a9 => absurd rfl a3, fun y => absurd y (by decide), fun y => absurd y (by decide), fun _ => ?_, fun y => absurd y (by decide), fun y => absurd y (by decide), fun y => absurd y (by decide), fun y => absurd y (by decide), fun y => absurd y (by decide), fun y => absurd y (by decide)⟩
    rw [disp_3 ej] at hd
    exact x_one qV hb h4V fb hd
  · rw [show wjumps.getD (Int32.toNatClampNeg (Int32.ofNat 4)) 0 = 0 from by decide]
    exact ⟨fun _ _ _ _ _ _ _ _ _ => no (disp_n (by decide) (by decide) ej), fun y => absurd y (by decide), fun y => absurd y (by decide), fun y => absurd y (by decide), fun y => absurd y (by decide), fun y => absurd y (by decide), fun y => absurd y (by decide), fun y => absurd y (by decide), fun y => absurd y (by decide), fun y => absurd y (by decide)⟩
  · rw [show wjumps.getD (Int32.toNatClampNeg (Int32.ofNat 5)) 0 = 0 from by decide]
    exact ⟨fun _ _ _ _ _ _ _ _ _ => no (disp_n (by decide) (by decide) ej), fun y => absurd y (by decide), fun y => absurd y (by decide), fun y => absurd y (by decide), fun y => absurd y (by decide), fun y => absurd y (by decide), fun y => absurd y (by decide), fun y => absurd y (by decide), fun y => absurd y (by decide), fun y => absurd y (by decide)⟩
  · rw [show wjumps.getD (Int32.toNatClampNeg (Int32.ofNat 6)) 0 = 5 from by decide]
    refine ⟨fun a1 a2 a3 a4 a5 a6 a7 a8 a9 => absurd rfl a5, fun y => absurd y (by decide), fun y => absurd y (by decide), fun y => absurd y (by decide), fun y => absurd y (by decide), fun _ => ?_, fun y => absurd y (by decide), fun y => absurd y (by decide), fun y => absurd y (by decide), fun y => absurd y (by decide)⟩
    rw [disp_6 ej] at hd
    exact x_off qV hb hd
  · rw [show wjumps.getD (Int32.toNatClampNeg (Int32.ofNat 7)) 0 = 0 from by decide]
    exact ⟨fun _ _ _ _ _ _ _ _ _ => no (disp_n (by decide) (by decide) ej), fun y => absurd y (by decide), fun y => absurd y (by decide), fun y => absurd y (by decide), fun y => absurd y (by decide), fun y => absurd y (by decide), fun y => absurd y (by decide), fun y => absurd y (by decide), fun y => absurd y (by decide), fun y => absurd y (by decide)⟩
  · rw [show wjumps.getD (Int32.toNatClampNeg (Int32.ofNat 8)) 0 = 6 from by decide]
    refine ⟨fun a1 a2 a3 a4 a5 a6 a7 a8 a9 => absurd rfl a6, fun y => absurd y (by decide), fun y => absurd y (by decide), fun y => absurd y (by decide), fun y => absurd y (by decide), fun y => absurd y (by decide), fun _ => ?_, fun y => absurd y (by decide), fun y => absurd y (by decide), fun y => absurd y (by decide)⟩
    rw [disp_8 ej] at hd
    exact x_game qV hb h4V fb hd
  · rw [show wjumps.getD (Int32.toNatClampNeg (Int32.ofNat 9)) 0 = 0 from by decide]
    exact ⟨fun _ _ _ _ _ _ _ _ _ => no (disp_n (by decide) (by decide) ej), fun y => absurd y (by decide), fun y => absurd y (by decide), fun y => absurd y (by decide), fun y => absurd y (by decide), fun y => absurd y (by decide), fun y => absurd y (by decide), fun y => absurd y (by decide), fun y => absurd y (by decide), fun y => absurd y (by decide)⟩
  · rw [show wjumps.getD (Int32.toNatClampNeg (Int32.ofNat 10)) 0 = 0 from by decide]
    exact ⟨fun _ _ _ _ _ _ _ _ _ => no (disp_n (by decide) (by decide) ej), fun y => absurd y (by decide), fun y => absurd y (by decide), fun y => absurd y (by decide), fun y => absurd y (by decide), fun y => absurd y (by decide), fun y => absurd y (by decide), fun y => absurd y (by decide), fun y => absurd y (by decide), fun y => absurd y (by decide)⟩
  · rw [show wjumps.getD (Int32.toNatClampNeg (Int32.ofNat 11)) 0 = 0 from by decide]
    exact ⟨fun _ _ _ _ _ _ _ _ _ => no (disp_n (by decide) (by decide) ej), fun y => absurd y (by decide), fun y => absurd y (by decide), fun y => absurd y (by decide), fun y => absurd y (by decide), fun y => absurd y (by decide), fun y => absurd y (by decide), fun y => absurd y (by decide), fun y => absurd y (by decide), fun y => absurd y (by decide)⟩
  · rw [show wjumps.getD (Int32.toNatClampNeg (Int32.ofNat 12)) 0 = 7 from by decide]
    refine ⟨fun a1 a2 a3 a4 a5 a6 a7 a8 a9 => absurd rfl a7, fun y => absurd y (by decide), fun y => absurd y (by decide), fun y => absurd y (by decide), fun y => absurd y (by decide), fun y => absurd y (by decide), fun y => absurd y (by decide), fun _ => ?_, fun y => absurd y (by decide), fun y => absurd y (by decide)⟩
    rw [disp_13 ej] at hd
    exact x_rest qV hb hd
  · rw [show wjumps.getD (Int32.toNatClampNeg (Int32.ofNat 13)) 0 = 8 from by decide]
    refine ⟨fun a1 a2 a3 a4 a5 a6 a7 a8 a9 => absurd rfl a8, fun y => absurd y (by decide), fun y => absurd y (by decide), fun y => absurd y (by decide), fun y => absurd y (by decide), fun y => absurd y (by decide), fun y => absurd y (by decide), fun y => absurd y (by decide), fun _ => ?_, fun y => absurd y (by decide)⟩
    rw [disp_14 ej] at hd
    exact x_most qV hb hd
  · rw [show wjumps.getD (Int32.toNatClampNeg (Int32.ofNat 14)) 0 = 9 from by decide]
    refine ⟨fun a1 a2 a3 a4 a5 a6 a7 a8 a9 => absurd rfl a9, fun y => absurd y (by decide), fun y => absurd y (by decide), fun y => absurd y (by decide), fun y => absurd y (by decide), fun y => absurd y (by decide), fun y => absurd y (by decide), fun y => absurd y (by decide), fun y => absurd y (by decide), fun _ => ?_⟩
    rw [disp_15 ej] at hd
    exact x_fee qV hD h4V fb hd
  · rw [show wjumps.getD (Int32.toNatClampNeg (Int32.ofNat 15)) 0 = 0 from by decide]
    exact ⟨fun _ _ _ _ _ _ _ _ _ => no (disp_n (by decide) (by decide) ej), fun y => absurd y (by decide), fun y => absurd y (by decide), fun y => absurd y (by decide), fun y => absurd y (by decide), fun y => absurd y (by decide), fun y => absurd y (by decide), fun y => absurd y (by decide), fun y => absurd y (by decide), fun y => absurd y (by decide)⟩
  · rw [show wjumps.getD (Int32.toNatClampNeg (Int32.ofNat 16)) 0 = 0 from by decide]
    exact ⟨fun _ _ _ _ _ _ _ _ _ => no (disp_n (by decide) (by decide) ej), fun y => absurd y (by decide), fun y => absurd y (by decide), fun y => absurd y (by decide), fun y => absurd y (by decide), fun y => absurd y (by decide), fun y => absurd y (by decide), fun y => absurd y (by decide), fun y => absurd y (by decide), fun y => absurd y (by decide)⟩
  · rw [show wjumps.getD (Int32.toNatClampNeg (Int32.ofNat 17)) 0 = 0 from by decide]
    exact ⟨fun _ _ _ _ _ _ _ _ _ => no (disp_n (by decide) (by decide) ej), fun y => absurd y (by decide), fun y => absurd y (by decide), fun y => absurd y (by decide), fun y => absurd y (by decide), fun y => absurd y (by decide), fun y => absurd y (by decide), fun y => absurd y (by decide), fun y => absurd y (by decide), fun y => absurd y (by decide)⟩
  · rw [show wjumps.getD (Int32.toNatClampNeg (Int32.ofNat 18)) 0 = 0 from by decide]
    exact ⟨fun _ _ _ _ _ _ _ _ _ => no (disp_n (by decide) (by decide) ej), fun y => absurd y (by decide), fun y => absurd y (by decide), fun y => absurd y (by decide), fun y => absurd y (by decide), fun y => absurd y (by decide), fun y => absurd y (by decide), fun y => absurd y (by decide), fun y => absurd y (by decide), fun y => absurd y (by decide)⟩
  · rw [show wjumps.getD (Int32.toNatClampNeg (Int32.ofNat 19)) 0 = 0 from by decide]
    exact ⟨fun _ _ _ _ _ _ _ _ _ => no (disp_n (by decide) (by decide) ej), fun y => absurd y (by decide), fun y => absurd y (by decide), fun y => absurd y (by decide), fun y => absurd y (by decide), fun y => absurd y (by decide), fun y => absurd y (by decide), fun y => absurd y (by decide), fun y => absurd y (by decide), fun y => absurd y (by decide)⟩
  · rw [show wjumps.getD (Int32.toNatClampNeg (Int32.ofNat 20)) 0 = 0 from by decide]
    exact ⟨fun _ _ _ _ _ _ _ _ _ => no (disp_n (by decide) (by decide) ej), fun y => absurd y (by decide), fun y => absurd y (by decide), fun y => absurd y (by decide), fun y => absurd y (by decide), fun y => absurd y (by decide), fun y => absurd y (by decide), fun y => absurd y (by decide), fun y => absurd y (by decide), fun y => absurd y (by decide)⟩
  · rw [show wjumps.getD (Int32.toNatClampNeg (Int32.ofNat 21)) 0 = 0 from by decide]
    exact ⟨fun _ _ _ _ _ _ _ _ _ => no (disp_n (by decide) (by decide) ej), fun y => absurd y (by decide), fun y => absurd y (by decide), fun y => absurd y (by decide), fun y => absurd y (by decide), fun y => absurd y (by decide), fun y => absurd y (by decide), fun y => absurd y (by decide), fun y => absurd y (by decide), fun y => absurd y (by decide)⟩
  · rw [show wjumps.getD (Int32.toNatClampNeg (Int32.ofNat 22)) 0 = 0 from by decide]
    exact ⟨fun _ _ _ _ _ _ _ _ _ => no (disp_n (by decide) (by decide) ej), fun y => absurd y (by decide), fun y => absurd y (by decide), fun y => absurd y (by decide), fun y => absurd y (by decide), fun y => absurd y (by decide), fun y => absurd y (by decide), fun y => absurd y (by decide), fun y => absurd y (by decide), fun y => absurd y (by decide)⟩
