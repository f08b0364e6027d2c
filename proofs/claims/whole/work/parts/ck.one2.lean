/-! the class: an official, read -/
theorem f_one {U : Um} {T : Tm} {x : Nat} {k p : Int} (h : CF U T x k p) {r : Int32} {post : Um → Prop} (hp : post U) : w_X4_numberWithin 2 1 5 U (fun r_4 U_3 => w_X4_expectWord 2 4 U_3 (fun U_5 => w_X4_toldName 2 0 U_5 (fun r_8 U_7 => (∃ n_35, w_X4_readOfficial_L32 2 r r_4 r_8 post (fun x4_25 U_26 => (uI U_26 2 2 = 0 → uR U_26 2 1 ≠ 99 ∧ oc (uR U_26 2 1) = 8 ∧ vp_in r 10 ∧ ∀ U_28 : Um, U_28 = sA U_26 (uR U_26 2 1) 2 (va_up (uA U_26 (uR U_26 2 1) 2) (Int32.toNatClampNeg r) r_4) → uR U_28 2 1 ≠ 99 ∧ oc (uR U_28 2 1) = 8 ∧ vp_in r 10 ∧ ∀ U_30 : Um, U_30 = sA U_28 (uR U_28 2 1) 3 (va_up (uA U_28 (uR U_28 2 1) 3) (Int32.toNatClampNeg r) r_8) → uR U_30 2 1 ≠ 99 ∧ oc (uR U_30 2 1) = 8 ∧ vp_in r 10 ∧ ∀ U_32 : Um, U_32 = sA U_30 (uR U_30 2 1) 4 (va_up (uA U_30 (uR U_30 2 1) 4) (Int32.toNatClampNeg r) x4_25) → uR U_32 2 1 ≠ 99 ∧ oc (uR U_32 2 1) = 8 ∧ vp_in r 10 ∧ ∀ U_34 : Um, U_34 = sA U_32 (uR U_32 2 1) 5 (va_up (uA U_32 (uR U_32 2 1) 5) (Int32.toNatClampNeg r) 0) → post U_34) ∧ (¬ uI U_26 2 2 = 0 → post U_26)) n_35 0 0 U_7)))) :=
  f_num h (fun r4 => f_expW h (f_told h (s := 0) rfl (by decide) (fun r8 => ⟨1, f_no h (fun r => fl_F h hp)⟩)))
set_option maxHeartbeats 1000000 in
theorem x_one {U : Um} {T D : Tm} {x : Nat} {f : Int} (hQ : CQ U T D x (nx T f)) (hb : BD D) (h4 : uI U 2 4 = jI f) (hf : 0 ≤ f ∧ f ≤ 1200) {post : Um → Prop} (h : ResC U T x (oneR T D f) post) : w_X4_readOfficial 2 U post := by
  unfold w_X4_readOfficial
  unfold oneR at h
  have n := hb.1.1
  have n9 : 0 ≤ D 11 9 ∧ D 11 9 ≤ 10 := n.2.2.1
  have ht := CQ_it hQ
  have fb1 := CQ_f hQ
  refine x_giv hQ hb h4 hf (s := 2) (m := 10) (by omega) (fun q V fV pV => f_one fV ?_) (fun q e V fV pV => f_one fV ?_) (fun q e V qV fV => ?_)
  · rw [fu_4 q, ck_1 (by decide)] at h
    exact ResC_e h fV (tX pV)
  · rw [fu_0 q, ck_0 rfl, ck_1 e] at h
    exact ResC_e h fV (tX pV)
  rw [fu_0 q, ck_0 rfl, ck_0 e] at h
  have q : D 11 9 < 10 := q
  have nmp := nm_pos ht (f := nx T f) ⟨fb1.1, by omega⟩ (new_e e)
  have hBB := oneD_B (nm := cdS T (nx T f)) (v2 := (uA V x 2 (D 11 9).toNat).toInt) (v3 := (uA V x 3 (D 11 9).toNat).toInt) (v4 := (uA V x 4 (D 11 9).toNat).toInt) (v5 := (uA V x 5 (D 11 9).toNat).toInt) hb q nmp
  refine x_add (D2 := oneD D (cdS T (nx T f)) (uA V x 2 (D 11 9).toNat).toInt (uA V x 3 (D 11 9).toNat).toInt (uA V x 4 (D 11 9).toNat).toInt (uA V x 5 (D 11 9).toNat).toInt) qV hb rfl rfl rfl (by decide) ⟨n9.1, q⟩ (by rw [oneD_11, if_pos (by decide)]; rfl) (fun i hi => by rw [oneD_11, if_neg (by omega)]) (by unfold nmD; rw [if_neg (by decide), if_neg (by decide), show (7 : Int) + 2 = 9 from rfl, oneD_5, if_pos rfl]) (fun t i t0 t2 hti => ?_) (fun o o0 o1 => ?_) (fun _ => ?_) (oneD_f (by decide)) (oneD_f (by decide)) (oneD_f (by decide)) (oneD_f (by decide)) (oneD_f (by decide)) (fun Z qZ fZ => ?_)
  · unfold nmD
    rw [oneD_f (k := 1) (by decide), oneD_f (k := 4) (by decide)]
    by_cases c0 : t = 0
    · rw [if_pos c0, if_pos c0]
    · rw [if_neg c0, if_neg c0]
      by_cases c1 : t = 1
      · rw [if_pos c1, if_pos c1]
      · rw [if_neg c1, if_neg c1, oneD_5, if_neg (by have : i ≠ D 11 9 := hti (by omega); omega)]
  · rw [oneD_9, oneD_6, oneD_7, oneD_8, if_neg (by omega), if_neg (by omega), if_neg (by omega), if_neg (by omega)]
    exact ⟨rfl, rfl, rfl, rfl⟩
  · rw [oneD_9, oneD_6, oneD_7, oneD_8, if_pos rfl, if_pos rfl, if_pos rfl, if_pos rfl, jI_of, jI_of, jI_of, jI_of]
    exact ⟨rfl, rfl, rfl, rfl⟩
  have fZ : fX (PX x) U Z := fX_trans (tX fV) (fX_o fZ (fun o k q => Or.inl q))
  have on : jI (D 11 (7 + 2)) = jI (D 11 9) := rfl
  rw [on]
  generalize (uA V x 2 (D 11 9).toNat).toInt = v2 at qZ hBB
  generalize (uA V x 3 (D 11 9).toNat).toInt = v3 at qZ hBB
  generalize (uA V x 4 (D 11 9).toNat).toInt = v4 at qZ hBB
  generalize (uA V x 5 (D 11 9).toNat).toInt = v5 at qZ hBB
  have d11 : ∀ i, oneD D (cdS T (nx T f)) v2 v3 v4 v5 11 i = if i = 9 then D 11 9 + 1 else D 11 i := fun i => oneD_11
  refine x_num qZ hBB (lo := 1) (hi := 5) rfl rfl ⟨by decide, by decide⟩ ⟨by decide, by decide⟩ (fun e1 A1 q1 f1 _ => ?_) (fun e1 A1 f1 p1 => f_expW f1 (f_told f1 (s := 0) rfl (by decide) (fun r8 => ⟨1, f_no f1 (fun r => fl_F f1 ?_)⟩)))
  case refine_2 =>
    rw [ck_1 e1] at h
    exact ResC_e h f1 (fX_trans fZ (tX p1))
  rw [ck_0 e1] at h
  have g1 := fX_trans fZ (tX f1)
  refine x_expW q1 hBB (j := 4) (by decide) (fun e2 A2 q2 f2 => ?_) (fun e2 A2 f2 p2 => f_told f2 (s := 0) rfl (by decide) (fun r8 => ⟨1, f_no f2 (fun r => fl_F f2 ?_)⟩))
  case refine_2 =>
    rw [show wpm 4 = 4 from rfl] at e2 f2
    rw [ck_1 e2] at h
    exact ResC_e h f2 (fX_trans g1 (tX p2))
  rw [show wpm 4 = 4 from rfl] at e2
  rw [ck_0 e2] at h
  have g2 := fX_trans g1 (tX f2)
  have cm := com_k0 (T := T) (D := D) (D2 := oneD D (cdS T (nx T f)) v2 v3 v4 v5) (oneD_f (by decide)) (by rw [d11, if_neg (by decide)]) (nx T (nx T (nx T (nx T f))))
  refine x_told q2 hBB (s := 0) rfl (by decide) (fun e3 A3 q3 f3 _ => ?_) (fun e3 A3 f3 p3 => ⟨1, f_no f3 (fun r => fl_F f3 ?_)⟩)
  case refine_2 =>
    rw [cm.2] at e3 f3
    rw [ck_1 e3] at h
    exact ResC_e h f3 (fX_trans g2 (tX p3))
  rw [cm.2] at e3
  rw [ck_0 e3] at h
  rw [cm.1]
  have g3 := fX_trans g2 (tX f3)
  have fb3 := CQ_f q3
  generalize hE0 : up (up (up (up (up D 5 (10 + D 11 9) (cdS T (nx T f))) 9 (10 + D 11 9) (nuS T (nx T (nx T f)))) 6 (10 + D 11 9) (plK T D 0 (nx T (nx T (nx T (nx T f)))))) 7 (10 + D 11 9) 0) 8 (10 + D 11 9) 0 = E0 at h
  generalize hr0 : noN T (10 + D 11 9) 1300 E0 (nx T (nx T (nx T (nx T (nx T f))))) = r0 at h
  have e7 : E0 7 (10 + D 11 9) = 0 := by rw [← hE0, up_nf (by decide), up_eq]
  have st := xl_no (T := T) (x := x) hBB (o := 10 + D 11 9) (a := jI (D 11 9)) (b := jI (nuS T (nx T (nx T f)))) (c := jI (plK T D 0 (nx T (nx T (nx T (nx T f)))))) (U0 := A3) (post := post) (K := fun x4_25 U_26 => (uI U_26 2 2 = 0 → uR U_26 2 1 ≠ 99 ∧ oc (uR U_26 2 1) = 8 ∧ vp_in (jI (D 11 9)) 10 ∧ ∀ U_28 : Um, U_28 = sA U_26 (uR U_26 2 1) 2 (va_up (uA U_26 (uR U_26 2 1) 2) (Int32.toNatClampNeg (jI (D 11 9))) (jI (nuS T (nx T (nx T f))))) → uR U_28 2 1 ≠ 99 ∧ oc (uR U_28 2 1) = 8 ∧ vp_in (jI (D 11 9)) 10 ∧ ∀ U_30 : Um, U_30 = sA U_28 (uR U_28 2 1) 3 (va_up (uA U_28 (uR U_28 2 1) 3) (Int32.toNatClampNeg (jI (D 11 9))) (jI (plK T D 0 (nx T (nx T (nx T (nx T f))))))) → uR U_30 2 1 ≠ 99 ∧ oc (uR U_30 2 1) = 8 ∧ vp_in (jI (D 11 9)) 10 ∧ ∀ U_32 : Um, U_32 = sA U_30 (uR U_30 2 1) 4 (va_up (uA U_30 (uR U_30 2 1) 4) (Int32.toNatClampNeg (jI (D 11 9))) x4_25) → uR U_32 2 1 ≠ 99 ∧ oc (uR U_32 2 1) = 8 ∧ vp_in (jI (D 11 9)) 10 ∧ ∀ U_34 : Um, U_34 = sA U_32 (uR U_32 2 1) 5 (va_up (uA U_32 (uR U_32 2 1) 5) (Int32.toNatClampNeg (jI (D 11 9))) 0) → post U_34) ∧ (¬ uI U_26 2 2 = 0 → post U_26)) r0 (fun V2 E g hre qV2 fV2 => ?_) (fun V2 k p hre fV2 pV2 r => fl_F fV2 ?_) ((1200 - 0 : Int).toNat + 3) 0 E0 (nx T (nx T (nx T (nx T (nx T f))))) A3 q3 (by rw [← hE0, oneD_f (by decide), up_f (by decide), up_f (by decide), up_f (by decide), up_f (by decide), up_f (by decide)]) (by rw [d11, if_neg (by decide), ← hE0, up_nf (by decide), up_nf (by decide), up_nf (by decide), up_nf (by decide), up_nf (by decide)]) fX_rfl (by decide) (by decide) fb3.1 hr0.symm (by decide)
  · rw [e7] at st
    exact ⟨_, st⟩
  · have e11 : ∀ i, E0 11 i = D 11 i := fun i => by rw [← hE0, up_nf (by decide), up_nf (by decide), up_nf (by decide), up_nf (by decide), up_nf (by decide)]
    rw [hre] at hr0
    obtain ⟨n1, n2, n3, _⟩ := noN_i ht _ _ _ _ ⟨fb3.1, by omega⟩ hr0
    rw [hre] at h
    have n1 : ∀ k, k ≠ 7 → E k = E0 k := n1
    have n3 : ∀ i, i ≠ 10 + D 11 9 → E 7 i = E0 7 i := n3
    have h : ResC U T x (.ok (up E 11 9 (E 11 9 + 1), g)) post := h
    have c2 := qV2.1
    have tn : Int32.toNatClampNeg (jI (D 11 9)) = (D 11 9).toNat := jI_nat n9.1 (by omega)
    have vn : vp_in (jI (D 11 9)) 10 := jvp (D 11 9) rfl n9.1 q (by decide)
    have up1 : uR V2 2 1 = x := c2.2.2.1
    refine fl_Q qV2 ⟨b_n c2, b_1 c2, vn, fun W1 e1' => ?_⟩
    rw [up1, tn] at e1'
    have s1 : fX (fun o k => o = x ∧ 2 ≤ k ∧ k ≤ 5) V2 W1 := by rw [e1']; exact fX_sA ⟨rfl, by decide, by decide⟩
    have u1 : uR W1 2 1 = x := by rw [s1.1]; exact up1
    have b1' : oc (uR W1 2 1) = 8 := oc_of u1 (oc_w c2.1)
    have nn : ∀ {W : Um}, uR W 2 1 = x → uR W 2 1 ≠ 99 := fun {W} z => by rw [z]; have := c2.1; omega
    refine ⟨nn u1, b1', vn, fun W2 e2' => ?_⟩
    rw [u1, tn] at e2'
    have s2 : fX (fun o k => o = x ∧ 2 ≤ k ∧ k ≤ 5) V2 W2 := fX_trans s1 (by rw [e2']; exact fX_sA ⟨rfl, by decide, by decide⟩)
    have u2 : uR W2 2 1 = x := by rw [s2.1]; exact up1
    refine ⟨nn u2, oc_of u2 (oc_w c2.1), vn, fun W3 e3' => ?_⟩
    rw [u2, tn] at e3'
    have s3 : fX (fun o k => o = x ∧ 2 ≤ k ∧ k ≤ 5) V2 W3 := fX_trans s2 (by rw [e3']; exact fX_sA ⟨rfl, by decide, by decide⟩)
    have u3 : uR W3 2 1 = x := by rw [s3.1]; exact up1
    refine ⟨nn u3, oc_of u3 (oc_w c2.1), vn, fun W4 e4' => ?_⟩
    rw [u3, tn] at e4'
    have s4 : fX (fun o k => o = x ∧ 2 ≤ k ∧ k ≤ 5) V2 W4 := fX_trans s3 (by rw [e4']; exact fX_sA ⟨rfl, by decide, by decide⟩)
    refine ResC_k h (CQ_up qV2 s4 (fun o k z => by have := c2.1; omega) (CD_o c2.1 hBB.1 s4 (fun o k z => z) (fun p p0 p1 => ?_) (fun k k6 k7 k8 k9 => ?_) qV2.2.1)) (fX_trans (fX_trans g3 (tX fV2)) (fX_o s4 (fun o k z => Or.inl z.1)))
    · have r2 : uA W4 x 2 = va_up (uA V2 x 2) (D 11 9).toNat (jI (nuS T (nx T (nx T f)))) := by
        rw [e4', uA_sA, if_neg (by omega), e3', uA_sA, if_neg (by omega), e2', uA_sA, if_neg (by omega), e1', uA_sA, if_pos ⟨rfl, rfl⟩]
      have r3 : uA W4 x 3 = va_up (uA V2 x 3) (D 11 9).toNat (jI (plK T D 0 (nx T (nx T (nx T (nx T f)))))) := by
        rw [e4', uA_sA, if_neg (by omega), e3', uA_sA, if_neg (by omega), e2', uA_sA, if_pos ⟨rfl, rfl⟩, e1', uA_sA, if_neg (by omega)]
      have r4 : uA W4 x 4 = va_up (uA V2 x 4) (D 11 9).toNat (jI (E 7 (10 + D 11 9))) := by
        rw [e4', uA_sA, if_neg (by omega), e3', uA_sA, if_pos ⟨rfl, rfl⟩, e2', uA_sA, if_neg (by omega), e1', uA_sA, if_neg (by omega)]
      have r5 : uA W4 x 5 = va_up (uA V2 x 5) (D 11 9).toNat 0 := by
        rw [e4', uA_sA, if_pos ⟨rfl, rfl⟩, e3', uA_sA, if_neg (by omega), e2', uA_sA, if_neg (by omega), e1', uA_sA, if_neg (by omega)]
      have ex : E 11 9 = D 11 9 := by rw [n1 11 (by decide), e11]
      rw [up_eq, ex] at p1
      rw [r2, r3, r4, r5, up_nf (f := 9) (by decide), up_nf (f := 6) (by decide), up_nf (f := 7) (by decide), up_nf (f := 8) (by decide), n1 9 (by decide), n1 6 (by decide), n1 8 (by decide)]
      unfold va_up
      by_cases z : p = D 11 9
      · rw [if_pos (by rw [z]), if_pos (by rw [z]), if_pos (by rw [z]), if_pos (by rw [z]), z, ← hE0]
        refine ⟨?_, ?_, rfl, ?_⟩
        · rw [up_nf (by decide), up_nf (by decide), up_nf (by decide), up_eq]
        · rw [up_nf (by decide), up_nf (by decide), up_eq]
        · rw [up_eq]
          rfl
      · have o9 := qV2.2.1.2.2.1 p p0 (by rw [d11, if_pos rfl]; omega)
        rw [oneD_9, oneD_6, oneD_7, oneD_8, if_neg (by omega), if_neg (by omega), if_neg (by omega), if_neg (by omega)] at o9
        rw [if_neg (by omega), if_neg (by omega), if_neg (by omega), if_neg (by omega), n3 (10 + p) (by omega), ← hE0]
        refine ⟨?_, ?_, ?_, ?_⟩
        · rw [up_nf (by decide), up_nf (by decide), up_nf (by decide), up_ne (by omega), up_nf (by decide)]; exact o9.1
        · rw [up_nf (by decide), up_nf (by decide), up_ne (by omega), up_nf (by decide), up_nf (by decide)]; exact o9.2.1
        · rw [up_nf (by decide), up_ne (by omega), up_nf (by decide), up_nf (by decide), up_nf (by decide)]; exact o9.2.2.1
        · rw [up_ne (by omega), up_nf (by decide), up_nf (by decide), up_nf (by decide), up_nf (by decide)]; exact o9.2.2.2
    · funext i
      have ex : E 11 9 = D 11 9 := by rw [n1 11 (by decide), e11]
      by_cases z : k = 11
      · subst z
        rw [d11, up_at, ex]
        by_cases y : i = 9
        · rw [if_pos y, if_pos y]
        · rw [if_neg y, if_neg y, n1 11 (by decide), e11]
      · rw [up_nf z, n1 k k7, ← hE0, up_nf k8, up_nf k7, up_nf k6, up_nf k9]
        by_cases y : k = 5
        · subst y
          rw [oneD_5, up_at]
        · rw [up_nf y, oneD_f ⟨y, k6, k7, k8, k9, z⟩]
  · rw [hre] at h
    exact ResC_e h fV2 (fX_trans g3 (tX pV2))
