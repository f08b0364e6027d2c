/-! the class: a game, read -/
theorem gameR_e {T D : Tm} {f : Int} : gameR T D f = ck (fuE D 3 16) f (ck (comE T D 1 (nx T f)) (nx T f) (ck (comE T D 1 (nx T (nx T f))) (nx T (nx T f)) (ck (if plK T D 1 (nx T (nx T f)) = plK T D 1 (nx T f) then 3 else 0) (nx T (nx T f)) (ck (woE T (nx T (nx T (nx T f))) 4) (nx T (nx T (nx T f))) (ck (comE T D 0 (nx T (nx T (nx T (nx T f))))) (nx T (nx T (nx T (nx T f)))) (timeR T D (plK T D 1 (nx T f)) (plK T D 1 (nx T (nx T f))) (plK T D 0 (nx T (nx T (nx T (nx T f))))) (nx T (nx T (nx T (nx T (nx T f))))))))))) := rfl
theorem CD_gz {U V : Um} {D E : Tm} {x : Nat} (hx : x = 4 ∨ x = 5) (hN : IN D) (hl : D 11 10 < 16) (eo : ∀ k, k ≠ 10 → E k = D k) (e10 : ∀ i, (i < 8 * (16 + D 11 10) ∨ 8 * (16 + D 11 10) + 7 < i) → E 10 i = D 10 i) (hg : GV U (gO x (D 11 10)) 8 (fun j => E 10 (8 * (16 + D 11 10) + j))) (hV : V = sI U x 7 (jI (D 11 10 + 1))) (h : CD U D x) : CD V (up E 11 10 (D 11 10 + 1)) x := by
  obtain ⟨⟨a1, a2, a3, a4⟩, b, c, d, e, ⟨l1, l2⟩⟩ := h
  have n := hN.1
  have e11 := eo 11 (by decide)
  have ra : ∀ o k, uA V o k = uA U o k := fun o k => by rw [hV]; rfl
  have ri : ∀ o k, ¬ (o = x ∧ k = 7) → uI V o k = uI U o k := fun o k q => by rw [hV, uI_sI, if_neg q]
  have k11 : ∀ i, i ≠ 10 → up E 11 10 (D 11 10 + 1) 11 i = D 11 i := fun i hi => by rw [up_ne (by omega), e11]
  refine ⟨⟨fun k k0 k1 => ?_, ?_, ?_, ?_⟩, CDa_c (fun s => ra _ _) (fun s i => by unfold nmD; rw [up_f (f := 1) (by decide), up_f (f := 4) (by decide), up_f (f := 5) (by decide), eo 1 (by decide), eo 4 (by decide), eo 5 (by decide)]) (fun s s0 s1 => k11 _ (by omega)) b, CDo_c (fun j _ _ => ra _ _) (by rw [up_f (by decide), eo 9 (by decide)]) (by rw [up_f (by decide), eo 6 (by decide)]) (by rw [up_f (by decide), eo 7 (by decide)]) (by rw [up_f (by decide), eo 8 (by decide)]) (k11 9 (by decide)) c, fun g g0 g1 k hk => ?_, fun p q p0 p1 q0 q1 => ?_, ?_, fun k k0 k1 => ?_⟩
  · rw [ra, k11 _ (by omega)]; exact a1 k k0 k1
  · rw [hV, uI_sI, if_pos ⟨rfl, rfl⟩, up_eq]
  · rw [ri _ _ (by omega), k11 _ (by decide)]; exact a3
  · rw [ri _ _ (by omega), k11 _ (by decide)]; exact a4
  · rw [up_eq] at g1
    have hgo := gO_c hx g0 (by omega)
    rw [ri _ _ (by omega)]
    unfold gD
    rw [up_nf (by decide)]
    by_cases z : g = D 11 10
    · rw [z]
      exact hg k hk
    · rw [e10 _ (by omega)]
      exact d g g0 (by omega) k hk
  · rw [ra, up_nf (by decide), eo 2 (by decide)]; exact e p q p0 p1 q0 q1
  · rw [ri _ _ (by omega), up_nf (by decide), eo 15 (by decide)]; exact l1
  · rw [up_nf (by decide), eo 15 (by decide)] at k1
    rw [ra]
    unfold encD
    rw [up_f (f := 13) (by decide), up_f (f := 12) (by decide), eo 12 (by decide), eo 13 (by decide)]
    exact l2 k k0 k1
set_option maxHeartbeats 1000000 in
theorem x_game {U : Um} {T D : Tm} {x : Nat} {f : Int} (hQ : CQ U T D x (nx T f)) (hb : BD D) (h4 : uI U 2 4 = jI f) (hf : 0 ≤ f ∧ f ≤ 1200) {post : Um → Prop} (h : ResC U T x (gameR T D f) post) : w_X4_readGame 2 U post := by
  rw [gameR_e] at h
  have n := hb.1.1
  have c := hQ.1
  have gc : uI U (uR U 2 1) 7 = jI (D 11 10) := by rw [c.2.2.1]; exact hQ.2.1.1.2.1
  refine ⟨b_n c, b_1 c, fun K2 hK2 => ?_⟩
  refine br_lt (D 11 10) 16 gc rfl ⟨by omega, by omega⟩ ⟨by decide, by decide⟩ (fun hl => hK2 U ?_) (fun hl => ?_)
  case refine_2 =>
    rw [fu_4 (show (16 : Int) ≤ D 11 (7 + 3) from hl), ck_1 (by decide)] at h
    exact x_fail hQ hb (k := 4) rfl h4 (by decide) hf (fun V fV pV => hK2 V (f_told fV (s := 1) rfl (by decide) (fun r => f_told fV (s := 1) rfl (by decide) (fun r2 K8 hK8 => fl_F fV (hK8 V (f_expW fV (f_told fV (s := 0) rfl (by decide) (fun r3 K14 hK14 => fl_F fV (hK14 V (fl_F fV (ResC_e h fV (tX pV)))))))))))) 
  rw [fu_0 (show D 11 (7 + 3) < 16 from hl), ck_0 rfl] at h
  refine x_told hQ hb (s := 1) rfl (by decide) (fun e0 V qV fV v4 => ?_) (fun e0 V fV pV => f_told fV (s := 1) rfl (by decide) (fun r2 K8 hK8 => fl_F fV (hK8 V (f_expW fV (f_told fV (s := 0) rfl (by decide) (fun r3 K14 hK14 => fl_F fV (hK14 V (fl_F fV ?_))))))))
  case refine_2 =>
    rw [ck_1 e0] at h
    exact ResC_e h fV (tX pV)
  rw [ck_0 e0] at h
  have a := comE_0 (by decide) e0
  have a1 : plK T D 1 (nx T f) < D 11 8 := a.2
  refine x_told qV hb (s := 1) rfl (by decide) (fun e1 W qW fW w4 K8 hK8 => ?_) (fun e1 W fW pW K8 hK8 => fl_F fW (hK8 W (f_expW fW (f_told fW (s := 0) rfl (by decide) (fun r3 K14 hK14 => fl_F fW (hK14 W (fl_F fW ?_)))))))
  case refine_2 =>
    rw [ck_1 e1] at h
    exact ResC_e h fW (tX (fX_trans fV pW))
  rw [ck_0 e1] at h
  have b := comE_0 (by decide) e1
  have b1 : plK T D 1 (nx T (nx T f)) < D 11 8 := b.2
  have fUW := fX_trans fV fW
  have fbV := CQ_f qV
  refine fl_Q qW (br_eq (plK T D 1 (nx T f)) (plK T D 1 (nx T (nx T f))) rfl rfl ⟨by omega, by omega⟩ ⟨by omega, by omega⟩ (fun q => ⟨b_0 qW.1, ?_⟩) (fun q => hK8 W ?_))
  · rw [if_pos q.symm, ck_1 (by decide)] at h
    exact x_fail qW hb (k := 3) (p := nx T (nx T f)) rfl (by rw [qW.1.2.1]; exact w4) (by decide) fbV (fun Z fZ pZ => hK8 Z (f_expW fZ (f_told fZ (s := 0) rfl (by decide) (fun r3 K14 hK14 => fl_F fZ (hK14 Z (fl_F fZ (ResC_e h fZ (tX (fX_trans fUW pZ)))))))))
  rw [if_neg (fun z => q z.symm), ck_0 rfl] at h
  refine x_expW qW hb (j := 4) (by decide) (fun e2 A2 q2 f2 => ?_) (fun e2 A2 f2 p2 => f_told f2 (s := 0) rfl (by decide) (fun r3 K14 hK14 => fl_F f2 (hK14 A2 (fl_F f2 ?_))))
  case refine_2 =>
    rw [show wpm 4 = 4 from rfl] at e2 f2
    rw [ck_1 e2] at h
    exact ResC_e h f2 (tX (fX_trans fUW p2))
  rw [show wpm 4 = 4 from rfl] at e2
  rw [ck_0 e2] at h
  have g2 := fX_trans fUW f2
  refine x_told q2 hb (s := 0) rfl (by decide) (fun e3 A3 q3 f3 _ K14 hK14 => ?_) (fun e3 A3 f3 p3 K14 hK14 => fl_F f3 (hK14 A3 (fl_F f3 ?_)))
  case refine_2 =>
    rw [ck_1 e3] at h
    exact ResC_e h f3 (tX (fX_trans g2 p3))
  rw [ck_0 e3] at h
  have g3 := fX_trans g2 f3
  have c3 := q3.1
  have u3 : uR A3 2 1 = x := c3.2.2.1
  have gc3 : uI A3 x 7 = jI (D 11 10) := q3.2.1.1.2.1
  have tn : Int32.toNatClampNeg (jI (D 11 10)) = (D 11 10).toNat := jI_nat n.2.2.2.1 (by omega)
  have ar : uAR A3 x 6 (Int32.toNatClampNeg (uI A3 x 7)) = gO x (D 11 10) := by
    rw [gc3, tn, c3.2.2.2.1.2.2 _ (by omega)]
    rfl
  have hgo := gO_c c3.1 n.2.2.2.1 hl
  have ogo : oc (gO x (D 11 10)) = 1 := oc_g c3.1 hl
  refine fl_Q q3 ⟨b_n c3, b_1 c3, b_n c3, b_1 c3, ?_⟩
  rw [u3, ar]
  refine ⟨jvp (D 11 10) gc3 n.2.2.2.1 hl (by decide), ogo, fun B0 b0 B1 b1' B2 b2 => ?_⟩
  have w0 := gq q3 hb hl b0
  have w1 := gq w0 hb hl b1'
  have w2 := gq w1 hb hl b2
  have r2 := gfr hgo (gfr hgo (gfr hgo (tX g3) b0) b1') b2
  have gv : GV B2 (gO x (D 11 10)) 3 (gFd T D (plK T D 1 (nx T f)) (plK T D 1 (nx T (nx T f))) (plK T D 0 (nx T (nx T (nx T (nx T f))))) (nx T (nx T (nx T (nx T (nx T f)))))) := GV_s (m := 2) b2 (by rw [gFd_2]) (fun _ _ => rfl) (GV_s (m := 1) b1' (by rw [gFd_1]) (fun _ _ => rfl) (GV_s (m := 0) (F := fun _ => 0) b0 (by rw [gFd_0]) (fun j hj => absurd hj (Nat.not_lt_zero _)) (fun j hj => absurd hj (Nat.not_lt_zero _))))
  refine x_time w2 hb hl gv r2 rfl (fun V k q e fV rV => hK14 V (fl_F fV ?_)) (fun V E g e qV rV eo e10 gV => hK14 V (fl_Q qV ⟨b_n qV.1, b_1 qV.1, fun Z eZ => ?_⟩))
  · rw [e] at h
    exact ResC_e h fV rV
  · have uV : uR V 2 1 = x := qV.1.2.2.1
    rw [uV, qV.2.1.1.2.1, show jI (D 11 10) + 1 = jI (D 11 10 + 1) from jadd rfl rfl] at eZ
    have fZ : fX (fun o _ => o = x) V Z := by rw [eZ]; exact fX_sI rfl
    rw [e] at h
    have h : ResC U T x (.ok (up E 11 10 (E 11 10 + 1), g)) post := h
    rw [eo 11 (by decide)] at h
    exact ResC_k h (CQ_up qV fZ (fun o k z => by have := c3.1; omega) (CD_gz c3.1 hb.1 hl eo e10 gV eZ qV.2.1)) (fX_trans rV (fX_o fZ (fun o k z => Or.inl z)))
