/-! days off, officials -/
def orB (B c : Int) : Int := ((jI B) ||| ((1 : Int32) <<< (jI c &&& 31))).toInt
def offN (o : Int) : Nat → Int → Tm → Tm
  | 0, _, D => D
  | m + 1, d, D => offN o m (d + 1) (up D 8 o (orB (D 8 o) d))
def offD (T D : Tm) (x f2 : Int) (b f : Int) : PR := .ok (offN (10 + x) (b + 1 - nuS T f2).toNat (nuS T f2) D, f)
def offR (T D : Tm) (f : Int) : PR :=
  ck (comE T D 2 (nx T f)) (nx T f) (ck (nmE T (nx T (nx T f)) 0 6) (nx T (nx T f))
    (if cdS T (nx T (nx T (nx T f))) = ownL.getD 7 0 then
      ck (nmE T (nx T (nx T (nx T (nx T f)))) (nuS T (nx T (nx T f))) 6) (nx T (nx T (nx T (nx T f))))
        (offD T D (plK T D 2 (nx T f)) (nx T (nx T f)) (nuS T (nx T (nx T (nx T (nx T f))))) (nx T (nx T (nx T (nx T (nx T f))))))
    else offD T D (plK T D 2 (nx T f)) (nx T (nx T f)) (nuS T (nx T (nx T f))) (nx T (nx T (nx T f)))))
theorem l_readOff {U0 : Um} {T : Tm} {f o b : Int} (ho : 10 ≤ o ∧ o < 20) (hb : 0 ≤ b ∧ b ≤ 6) {post : Int32 → Um → Prop} {K : Um → Prop} {x1 x3 : Int32} (e1 : x1 = jI o) (e3 : x3 = jI b) (DZ : Tm) (hK : ∀ V : Um, Q V T DZ f → fM U0 V → K V) : ∀ (fu : Nat) (d : Int) (D : Tm) (U : Um), Q U T D f → fM U0 U → 0 ≤ d → d ≤ 7 → DZ = offN o (b + 1 - d).toNat d D → (b + 1 - d).toNat < fu → w_X12_readOff_L75 55 x1 x3 post K fu (jI d) U := by
  intro fu
  induction fu with
  | zero => intro d D U _ _ _ _ _ h; exact absurd h (Nat.not_lt_zero _)
  | succ fu ih =>
    intro d D U hQ hF d0 d1 hz hf
    show b_X12_readOff_L75 55 x1 x3 post K (w_X12_readOff_L75 55 x1 x3 post K fu) (jI d) U
    unfold b_X12_readOff_L75
    by_cases c : b < d
    · have ez : DZ = D := by rw [hz, show (b + 1 - d).toNat = 0 by omega]; rfl
      rw [ez] at hK
      exact br_lt b d e3 rfl ⟨by omega, by omega⟩ ⟨by omega, by omega⟩ (fun _ => hK U hQ hF) (fun z => absurd c (by omega))
    · refine br_lt b d e3 rfl ⟨by omega, by omega⟩ ⟨by omega, by omega⟩ (fun z => absurd z c) (fun _ => ?_)
      refine ⟨jvp o e1 (by omega) (by omega) (by decide), jvp o e1 (by omega) (by omega) (by decide), ?_⟩
      intro V hV y hy
      rw [hy, show jI d + 1 = jI (d + 1) from jadd rfl rfl]
      refine ih (d + 1) (up D 8 o (orB (D 8 o) d)) V ?_ (fM_trans hF (by rw [hV]; exact fM_sA)) (by omega) (by omega) ?_ (by omega)
      · rw [hV]
        refine Q_sA hQ o _ e1 ?_ (by omega) (by omega) (by unfold dft; omega)
        rw [rdA (MD_A hQ.2.1 8 20) o e1 (by omega) (by omega)]
        exact (jI_of _).symm
      · rw [hz, show (b + 1 - d).toNat = (b + 1 - (d + 1)).toNat + 1 by omega]
        rfl
theorem s_X12_readOff {U : Um} {T D : Tm} {f : Int} (hQ : Q U T D f) (hN : IN D) {post : Int32 → Um → Prop} (h : Res U T (offR T D f) post) : w_X12_readOff 55 U post := by
  unfold w_X12_readOff
  unfold offR at h
  have hn := hN.1
  refine p_next hQ (fun V hV o _ => ?_)
  have h := Res_m o.1 h
  refine p_readOne hV hN 2 rfl (by omega) (fun c pb W w o2 w28 => br_1 ?_) (fun c W w o2 => br_0 ?_)
  rotate_left
  · rw [ck_1 c] at h
    exact h W w o2.1
  rw [ck_0 c] at h
  have h := Res_m o2.1 h
  generalize nx T f = f1 at *
  generalize plK T D 2 f1 = x at *
  simp only [show (7 : Int) + 2 = 9 from rfl] at pb
  intro X hX
  rw [w28] at hX
  have eX : X = jI (10 + x) := by rw [hX]; exact jadd rfl rfl
  refine p_readNumber w (lo := 0) (hi := 6) rfl rfl (by omega) (by omega) (fun c2 V2 q2 o3 v28 l1 l2 => br_1 ?_) (fun c2 V2 q2 o3 => br_0 ?_)
  rotate_left
  · rw [ck_1 c2] at h
    exact h V2 q2 o3.1
  rw [ck_0 c2] at h
  have h := Res_m o3.1 h
  generalize hf2 : nx T f1 = f2 at *
  intro Y hY Z hZ
  rw [v28] at hY hZ
  subst hY; subst hZ
  have fin : ∀ (V3 : Um) (b g : Int) (B : Int32), B = jI b → b ≤ 6 → nuS T f2 ≤ b → Q V3 T D g → Res V3 T (offD T D x f2 b g) post → ∃ n_18, w_X12_readOff_L75 55 X B post (fun U_17 => post 1 U_17) n_18 (jI (nuS T f2)) V3 := by
    intro V3 b g B eB hb hb2 q3 h3
    refine ⟨_, l_readOff (U0 := V3) (o := 10 + x) (b := b) (by omega) (by omega) eX eB _ (fun V4 q4 o4 => h3 V4 q4 o4) _ (nuS T f2) D V3 q3 fM_rfl l1 (by omega) rfl (Nat.lt_succ_self _)⟩
  refine p_isWord q2 (a := 7) (by decide) (fun c3 => ?_) (fun c3 => ?_)
  · rw [if_pos c3] at h
    intro K hK
    refine br_1 (p_readAfter q2 (a := 7) (by decide) (lo := nuS T f2) (hi := 6) rfl rfl (by omega) (by omega) (fun _ c4 V3 q3 o4 v3 l3 l4 => br_1 ?_) (fun c4 V3 q3 o4 => absurd c3 c4) (fun _ c4 V3 q3 o4 => br_0 ?_))
    · rw [ck_0 c4] at h
      intro Y2 hY2
      rw [v3] at hY2
      exact hK Y2 V3 (fin V3 _ _ Y2 hY2 l4 l3 q3 (Res_m o4.1 h))
    · rw [ck_1 c4] at h
      exact h V3 q3 o4.1
  · rw [if_neg c3] at h
    intro K hK
    exact br_0 (hK _ V2 (fin V2 _ _ _ rfl l2 (Int.le_refl _) q2 h))
/-- the clubs barred to an official -/
def noN (T : Tm) (o : Int) : Nat → Tm → Int → PR
  | 0, D, f => .ok (D, f)
  | m + 1, D, f => if cdS T f = ownL.getD 5 0 then
      ck (comE T D 1 (nx T f)) (nx T f) (if (jI (D 7 o)).toBitVec.getLsbD (plK T D 1 (nx T f)).toNat = true then .error (3, nx T f)
        else noN T o m (up D 7 o (orB (D 7 o) (plK T D 1 (nx T f)))) (nx T (nx T f)))
    else .ok (D, f)
theorem skN_b {T : Tm} : ∀ m p, p ≤ skN T m p ∧ skN T m p ≤ p + m := by
  intro m
  induction m with
  | zero => intro p; show p ≤ p ∧ p ≤ p + 0; omega
  | succ m ih =>
    intro p
    unfold skN
    split
    · have := ih (p + 1); omega
    · omega
theorem nx_b {T : Tm} (ht : It T) {f : Int} (f0 : 0 ≤ f) (f1 : f ≤ 1201) : f ≤ nx T f ∧ nx T f ≤ 1201 ∧ (tkS T f ≠ 0 → f < nx T f ∧ f < T 17 0 ∧ nx T f ≤ T 17 0) := by
  obtain ⟨a, b, c, d⟩ := te_b ht f0 f1
  have e := skN_b (T := T) (T 17 0 - teS T f).toNat (teS T f)
  have hb := ht.1
  unfold nx skS
  refine ⟨by omega, ?_, fun q => ?_⟩
  · by_cases z : tkS T f = 0
    · have := c z
      by_cases y : T 17 0 ≤ f
      · omega
      · omega
    · have := d z
      omega
  · have := d q
    omega
theorem cd_t {T : Tm} {f c : Int} (h : cdS T f = c) (hc : 0 < c) : tkS T f = 1 := by
  unfold cdS at h
  by_cases q : tkS T f = 1 ∧ teS T f - f ≤ 6
  · exact q.1
  · rw [if_neg q] at h; omega
theorem IN_up {D : Tm} (h : IN D) {k : Nat} {i v : Int} (h1 : k ≠ 1) (h4 : k ≠ 4) (h5 : k ≠ 5) (h11 : k ≠ 11) : IN (up D k i v) := by
  unfold IN
  rw [up_nf (by omega), up_nf (by omega), up_nf (by omega), up_nf (by omega)]
  refine ⟨h.1, fun i a b => ?_, fun i a b => ?_, fun i a b => ?_⟩
  · rw [up_nf (by omega)]; exact h.2.1 i a b
  · rw [up_nf (by omega)]; exact h.2.2.1 i a b
  · rw [up_nf (by omega)]; exact h.2.2.2 i a b
theorem IN_5 {D : Tm} (h : IN D) {i v : Int} (hi : 10 + D 11 9 ≤ i) : IN (up D 5 i v) := by
  unfold IN
  rw [up_nf (by omega), up_nf (by omega), up_nf (by omega), up_nf (by omega)]
  refine ⟨h.1, fun j a b => ?_, fun j a b => ?_, fun j a b => ?_⟩
  · rw [up_nf (by omega)]; exact h.2.1 j a b
  · rw [up_nf (by omega)]; exact h.2.2.1 j a b
  · rw [up_ne (by omega)]; exact h.2.2.2 j a b
theorem l_readNo {U0 : Um} {T : Tm} {o : Int} (ho : 10 ≤ o ∧ o < 20) {post : Int32 → Um → Prop} {K1 K2 : Um → Prop} {x1 : Int32} (e1 : x1 = jI o) (r : PR) (hK1 : ∀ (V : Um) (D : Tm) (g : Int), r = .error (3, g) → Q V T D g → fM U0 V → K1 V) (hE : ∀ (V : Um) (k g : Int), r = .error (k, g) → Qb V T k g → fM U0 V → post 0 V) (hK : ∀ (V : Um) (D : Tm) (g : Int), r = .ok (D, g) → Q V T D g → fM U0 V → IN D → K2 V) : ∀ (fu m : Nat) (D : Tm) (f : Int) (U : Um), Q U T D f → IN D → fM U0 U → r = noN T o m D f → (1201 - f).toNat < m → (1201 - f).toNat < fu → w_X12_readOfficial_L114 55 x1 post K1 K2 fu U := by
  intro fu
  induction fu with
  | zero => intro m D f U _ _ _ _ _ h; exact absurd h (Nat.not_lt_zero _)
  | succ fu ih =>
    intro m D f U hQ hN hF hr hm hf
    obtain ⟨mm, rfl⟩ : ∃ k, m = k + 1 := ⟨m - 1, by omega⟩
    have hc := Q_c hQ
    have ht := hQ.2.2.2.1
    show b_X12_readOfficial_L114 55 x1 post K1 K2 (w_X12_readOfficial_L114 55 x1 post K1 K2 fu) U
    unfold b_X12_readOfficial_L114
    unfold noN at hr
    refine p_isWord hQ (a := 5) (by decide) (fun c => br_1 ?_) (fun c => br_0 ?_)
    · rw [if_pos c] at hr
      have t1 := cd_t c (by decide)
      have nb := nx_b ht hc.1 hc.2.1
      have nb2 := nb.2.2 (by omega)
      refine p_next hQ (fun V hV o1 _ => ?_)
      have oV := fM_trans hF o1.1
      have hcV := Q_c hV
      have nc := nx_b ht hcV.1 hcV.2.1
      refine p_comesTo hV hN 1 rfl (by omega) (fun c2 pb W w o2 w28 => br_1 ?_) (fun c2 W w o2 => br_0 ?_)
      · rw [ck_0 c2] at hr
        have hn := hN.1
        have pb' : plK T D 1 (nx T f) < 8 := by simp at pb; omega
        have oW := fM_trans oV o2.1
        have ra : uA W 55 7 (Int32.toNatClampNeg x1) = jI (D 7 o) := rdA (MD_A w.2.1 7 20) o e1 (by omega) (by omega)
        refine ⟨jvp o e1 (by omega) (by omega) (by decide), ?_⟩
        refine br_bt1 (plK T D 1 (nx T f)) ra w28 (by omega) (by omega) (fun c3 => ?_) (fun c3 => ?_)
        · unfold bt at c3
          rw [if_pos c3] at hr
          exact hK1 W D (nx T f) hr w oW
        · unfold bt at c3
          rw [if_neg c3] at hr
          refine ⟨jvp o e1 (by omega) (by omega) (by decide), jvp o e1 (by omega) (by omega) (by decide), ?_⟩
          intro V2 h2
          have q2 : Q V2 T (up D 7 o (orB (D 7 o) (plK T D 1 (nx T f)))) (nx T f) := by
            rw [h2]
            refine Q_sA w o _ e1 ?_ (by omega) (by omega) (by unfold dft; omega)
            rw [ra, w28]
            exact (jI_of _).symm
          have o3 : fM W V2 := by rw [h2]; exact fM_sA
          refine p_next q2 (fun V3 q3 o4 _ => ih mm _ _ V3 q3 (IN_up hN (by decide) (by decide) (by decide) (by decide)) (fM_trans (fM_trans oW o3) o4.1) hr (by omega) (by omega))
      · rw [ck_1 c2] at hr
        exact hE W _ _ hr w (fM_trans oV o2.1)
    · rw [if_neg c] at hr
      exact hK U D f hr hQ hF hN
def oneR (T D : Tm) (f : Int) : PR :=
  ck (fuE D 2 10) f (ck (newE T D (nx T f)) (nx T f) (ck (nmE T (nx T (nx T f)) 1 5) (nx T (nx T f))
    (ck (woE T (nx T (nx T (nx T f))) 4) (nx T (nx T (nx T f))) (ck (comE T D 0 (nx T (nx T (nx T (nx T f))))) (nx T (nx T (nx T (nx T f))))
      (match noN T (10 + D 11 9) 1300 (up (up (up (up (up D 5 (10 + D 11 9) (cdS T (nx T f))) 9 (10 + D 11 9) (nuS T (nx T (nx T f)))) 6 (10 + D 11 9) (plK T D 0 (nx T (nx T (nx T (nx T f)))))) 7 (10 + D 11 9) 0) 8 (10 + D 11 9) 0) (nx T (nx T (nx T (nx T (nx T f))))) with
        | .error e => .error e
        | .ok p => .ok (up p.1 11 9 (p.1 11 9 + 1), p.2))))))
theorem plN_c {D D2 : Tm} {k : Nat} (h : D2 k = D k) (a w : Int) : ∀ m i, plN D2 k a w m i = plN D k a w m i := by
  intro m
  induction m with
  | zero => intro i; rfl
  | succ m ih =>
    intro i
    simp only [plN, h, ih]
theorem com_c {T D D2 : Tm} (h1 : D2 1 = D 1) (h11 : D2 11 = D 11) (f : Int) : plK T D2 0 f = plK T D 0 f ∧ comE T D2 0 f = comE T D 0 f := by
  have e : plK T D2 0 f = plK T D 0 f := by
    unfold plK plS
    rw [if_pos rfl, if_pos rfl, h11, plN_c h1]
  refine ⟨e, ?_⟩
  unfold comE
  rw [e]
theorem up_f {D : Tm} {k f : Nat} {i v : Int} (h : f ≠ k) : up D k i v f = D f := funext fun _ => up_nf h
set_option maxHeartbeats 4000000 in
theorem s_X12_readOfficial {U : Um} {T D : Tm} {f : Int} (hQ : Q U T D f) (hN : IN D) {post : Int32 → Um → Prop} (h : Res U T (oneR T D f) post) : w_X12_readOfficial 55 U post := by
  unfold w_X12_readOfficial
  unfold oneR at h
  have hn := hN.1
  refine p_isFull hQ hN 2 10 rfl rfl (by omega) (by omega) (fun c V v o => br_1 ?_) (fun c => br_0 ?_)
  · rw [fu_4 c, ck_1 (by omega)] at h
    exact h V v o.1
  rw [fu_0 c, ck_0 rfl] at h
  have c' : D 11 9 < 10 := c
  have rn := rdA (MD_A hQ.2.1 11 14) (E := 9) 9 rfl (by omega) (by omega)
  refine ⟨jvp 9 rfl (by omega) (by omega) (by decide), ?_⟩
  intro X hX
  have eX : X = jI (10 + D 11 9) := by rw [hX]; exact jadd rfl rn
  clear hX
  have hx : 10 ≤ 10 + D 11 9 ∧ 10 + D 11 9 < 20 := by omega
  have hx9 : 10 + D 11 9 ≤ 10 + D 11 9 := Int.le_refl _
  have vx : vp_in X 20 := jvp (10 + D 11 9) eX (by omega) (by omega) (by decide)
  refine p_next hQ (fun V hV o _ => ?_)
  have h := Res_m o.1 h
  refine p_isNew hV hN (fun c2 ok => br_1 ⟨vx, ?_⟩) (fun c2 W w o2 => br_0 ?_)
  rotate_left
  · rw [ck_1 c2] at h
    exact h W w o2.1
  rw [ck_0 c2] at h
  have wd : uL V 55 25 = jL (cdS T (nx T f)) := by rw [hV.2.2.2.2.2.2.1.2.2.2.1, tw_cd ok]
  generalize nx T f = f1 at *
  intro V1 h1
  have q1 : Q V1 T (up D 5 (10 + D 11 9) (cdS T f1)) f1 := by rw [h1]; exact Q_sJ hV _ _ eX wd (by omega) (by omega) (by unfold dft; omega)
  have n1 : IN (up D 5 (10 + D 11 9) (cdS T f1)) := IN_5 hN hx9
  have o1 : fM V V1 := by rw [h1]; exact fM_sJ
  have h := Res_m o1 h
  have e1 : up D 5 (10 + D 11 9) (cdS T f1) 1 = D 1 := up_f (by decide)
  have e11 : up D 5 (10 + D 11 9) (cdS T f1) 11 = D 11 := up_f (by decide)
  generalize up D 5 (10 + D 11 9) (cdS T f1) = D1 at *
  refine p_next q1 (fun V2 q2 o2 _ => ?_)
  have h := Res_m o2.1 h
  generalize nx T f1 = f2 at *
  refine p_readNumber q2 (lo := 1) (hi := 5) rfl rfl (by omega) (by omega) (fun c3 V3 q3 o3 v3 l1 l2 => br_1 ⟨vx, ?_⟩) (fun c3 V3 q3 o3 => br_0 ?_)
  rotate_left
  · rw [ck_1 c3] at h
    exact h V3 q3 o3.1
  rw [ck_0 c3] at h
  have h := Res_m o3.1 h
  intro V4 h4
  have q4 : Q V4 T (up D1 9 (10 + D 11 9) (nuS T f2)) (nx T f2) := by rw [h4]; exact Q_sA q3 _ _ eX v3 (by omega) (by omega) (by unfold dft; omega)
  have n4 : IN (up D1 9 (10 + D 11 9) (nuS T f2)) := IN_up n1 (by decide) (by decide) (by decide) (by decide)
  have o4 : fM V3 V4 := by rw [h4]; exact fM_sA
  have h := Res_m o4 h
  have e1 : up D1 9 (10 + D 11 9) (nuS T f2) 1 = D 1 := (up_f (by decide)).trans e1
  have e11 : up D1 9 (10 + D 11 9) (nuS T f2) 11 = D 11 := (up_f (by decide)).trans e11
  generalize up D1 9 (10 + D 11 9) (nuS T f2) = D2 at *
  generalize nx T f2 = f3 at *
  refine p_takes q4 (a := 4) (by decide) (fun c4 V5 q5 o5 _ => br_1 ?_) (fun c4 V5 q5 o5 => br_0 ?_)
  rotate_left
  · rw [wo_1 c4, ck_1 (by omega)] at h
    exact h V5 q5 o5.1
  rw [wo_0 c4, ck_0 rfl] at h
  have h := Res_m o5.1 h
  generalize nx T f3 = f4 at *
  obtain ⟨ep, ec⟩ := com_c (T := T) e1 e11 f4
  rw [← ep, ← ec] at h
  refine p_readOne q5 n4 0 rfl (by omega) (fun c5 pb V6 q6 o6 v6 => br_1 ⟨vx, ?_⟩) (fun c5 V6 q6 o6 => br_0 ?_)
  rotate_left
  · rw [ck_1 c5] at h
    exact h V6 q6 o6.1
  rw [ck_0 c5] at h
  have h := Res_m o6.1 h
  generalize plK T D2 0 f4 = y at *
  generalize nx T f4 = f5 at *
  intro V7 h7
  have q7 : Q V7 T (up D2 6 (10 + D 11 9) y) f5 := by rw [h7]; exact Q_sA q6 _ _ eX v6 (by omega) (by omega) (by unfold dft; omega)
  have n7 : IN (up D2 6 (10 + D 11 9) y) := IN_up n4 (by decide) (by decide) (by decide) (by decide)
  have o7 : fM V6 V7 := by rw [h7]; exact fM_sA
  refine ⟨vx, ?_⟩
  intro V8 h8
  have q8 : Q V8 T (up (up D2 6 (10 + D 11 9) y) 7 (10 + D 11 9) 0) f5 := by rw [h8]; exact Q_sA q7 _ _ eX rfl (by omega) (by omega) (by unfold dft; omega)
  have n8 : IN (up (up D2 6 (10 + D 11 9) y) 7 (10 + D 11 9) 0) := IN_up n7 (by decide) (by decide) (by decide) (by decide)
  have o8 : fM V7 V8 := by rw [h8]; exact fM_sA
  refine ⟨vx, ?_⟩
  intro V9 h9
  have q9 : Q V9 T (up (up (up D2 6 (10 + D 11 9) y) 7 (10 + D 11 9) 0) 8 (10 + D 11 9) 0) f5 := by rw [h9]; exact Q_sA q8 _ _ eX rfl (by omega) (by omega) (by unfold dft; omega)
  have n9 : IN (up (up (up D2 6 (10 + D 11 9) y) 7 (10 + D 11 9) 0) 8 (10 + D 11 9) 0) := IN_up n8 (by decide) (by decide) (by decide) (by decide)
  have o9 : fM V8 V9 := by rw [h9]; exact fM_sA
  have h := Res_m (fM_trans (fM_trans o7 o8) o9) h
  have hc9 := Q_c q9
  refine ⟨_, l_readNo (U0 := V9) hx eX _ (fun W D g e w o => ?_) (fun W k g e w o => ?_) (fun W D g e w o n => ?_) 1300 1300 _ _ V9 q9 n9 fM_rfl rfl (by omega) (by omega)⟩
  · rw [e] at h
    exact s_X12_fails w 3 rfl ⟨by omega, by omega⟩ (fun W2 w2 o2 => ⟨Or.inl rfl, h W2 w2 (fM_trans o o2.1)⟩)
  · rw [e] at h
    exact h W w o
  · rw [e] at h
    have r9 := rdA (MD_A w.2.1 11 14) (E := 9) 9 rfl (by omega) (by omega)
    refine ⟨jvp 9 rfl (by omega) (by omega) (by decide), jvp 9 rfl (by omega) (by omega) (by decide), ?_⟩
    intro W2 h2
    exact h W2 (by rw [h2]; exact Q_sA w 9 _ rfl (jadd r9 rfl) (by omega) (by omega) (by unfold dft; omega)) (fM_trans o (by rw [h2]; exact fM_sA))
