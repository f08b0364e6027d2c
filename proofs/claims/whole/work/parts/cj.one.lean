/-! the class: officials -/
theorem com_k0 {T D D2 : Tm} (h1 : D2 1 = D 1) (h : D2 11 7 = D 11 7) (f : Int) : plK T D2 0 f = plK T D 0 f ∧ comE T D2 0 f = comE T D 0 f := by
  have e : plK T D2 0 f = plK T D 0 f := by
    unfold plK plS
    rw [if_pos rfl, if_pos rfl, h, plN_c h1]
  refine ⟨e, ?_⟩
  unfold comE
  rw [e]
theorem com_k1 {T D D2 : Tm} (h4 : D2 4 = D 4) (h : D2 11 8 = D 11 8) (f : Int) : plK T D2 1 f = plK T D 1 f ∧ comE T D2 1 f = comE T D 1 f := by
  have e : plK T D2 1 f = plK T D 1 f := by
    unfold plK plS
    rw [if_neg (by decide), if_pos rfl, if_neg (by decide), if_pos rfl, h, plN_c h4]
  refine ⟨e, ?_⟩
  unfold comE
  rw [e]
theorem f_no {U : Um} {T : Tm} {x : Nat} {k p : Int} (h : CF U T x k p) {a b c : Int32} {post : Um → Prop} {K : Int32 → Um → Prop} (hK : ∀ r, K r U) {fu : Nat} {r s : Int32} : w_X4_readOfficial_L32 2 a b c post K (fu + 1) r s U := by
  show b_X4_readOfficial_L32 2 a b c post K (w_X4_readOfficial_L32 2 a b c post K fu) r s U
  exact ⟨fun _ => hK _, fun _ => fl_F h (hK _)⟩
theorem cd_end {T : Tm} {g : Int} (h : T 17 0 ≤ g) : tkS T g = 0 ∧ cdS T g = -1 := by
  have k : tkS T g = 0 := by unfold tkS; rw [if_pos (see_end h)]
  exact ⟨k, by unfold cdS; rw [if_neg (by omega)]⟩
theorem xl_no {T D1 : Tm} {x : Nat} (hB : BD D1) {o : Int} {a b c : Int32} {U0 : Um} {post : Um → Prop} {K : Int32 → Um → Prop} (r0 : PR) (hOk : ∀ (V : Um) (E : Tm) (g : Int), r0 = .ok (E, g) → CQ V T D1 x g → fX PXt U0 V → K (jI (E 7 o)) V) (hErr : ∀ (V : Um) (k p : Int), r0 = .error (k, p) → CF V T x k p → fX PXt U0 V → ∀ r, K r V) : ∀ (fu : Nat) (i : Int) (E : Tm) (g : Int) (U : Um), CQ U T D1 x g → E 4 = D1 4 → E 11 8 = D1 11 8 → fX PXt U0 U → 0 ≤ i → i ≤ 1200 → i ≤ g → r0 = noN T o (1300 - i).toNat E g → (1200 - i).toNat + 1 < fu → w_X4_readOfficial_L32 2 a b c post K fu (jI (E 7 o)) (jI i) U := by
  intro fu
  have n := hB.1.1
  induction fu with
  | zero => intro i E g U _ _ _ _ _ _ _ _ h; exact absurd h (Nat.not_lt_zero _)
  | succ fu ih =>
    intro i E g U hQ e4 e8 hF i0 i1 ig hr hf
    obtain ⟨fu, rfl⟩ : ∃ k, fu = k + 1 := ⟨fu - 1, by omega⟩
    show b_X4_readOfficial_L32 2 a b c post K (w_X4_readOfficial_L32 2 a b c post K (fu + 1)) (jI (E 7 o)) (jI i) U
    unfold b_X4_readOfficial_L32
    have fb := CQ_f hQ
    have ht := CQ_it hQ
    have er : noN T o (1300 - i).toNat E g = if cdS T g = ownL.getD 5 0 then ck (comE T E 1 (nx T g)) (nx T g) (if (jI (E 7 o)).toBitVec.getLsbD (plK T E 1 (nx T g)).toNat = true then .error (3, nx T g) else noN T o (1300 - (i + 1)).toNat (up E 7 o (orB (E 7 o) (plK T E 1 (nx T g)))) (nx T (nx T g))) else .ok (E, g) := by
      rw [show (1300 - i).toNat = (1300 - (i + 1)).toNat + 1 by omega]
      rfl
    rw [er] at hr
    have out : cdS T g ≠ ownL.getD 5 0 → K (jI (E 7 o)) U := fun q => by
      rw [if_neg q] at hr
      exact hOk U E g hr hQ hF
    refine br_le 1200 i rfl rfl ⟨by decide, by decide⟩ ⟨by omega, by omega⟩ (fun q => out ?_) (fun q => ?_)
    · have t := hQ.1.2.2.2.2.2.1
      rw [(cd_end (T := T) (g := g) (by omega)).2]
      decide
    refine fl_Q hQ (x_word hQ (j := 5) (by decide) (fun e => br_1 ⟨b_0 hQ.1, ?_⟩) (fun e => br_0 (out e)))
    rw [show wpm 5 = 5 from rfl] at e
    rw [if_pos e] at hr
    have cm := com_k1 (T := T) e4 e8 (nx T g)
    rw [cm.1, cm.2] at hr
    have adv : g < nx T g := (nx_b ht fb.1 (by omega)).2.2 (by rw [cd_t e (by decide)]; decide) |>.1
    refine x_next hQ hB hQ.1.2.1 (fun V qV fV _ => ?_)
    have fV := fX_trans hF (fX_w (fun o k q => PV_t q) fV)
    have fbV := CQ_f qV
    have adv2 := (nx_b ht fbV.1 (by omega)).1
    refine x_told qV hB (s := 1) rfl (by decide) (fun e0 W qW fW w4 K16 hK => ?_) (fun e0 W fW pW K16 hK => fl_F fW (hK W (fl_F fW (fun y hy z hz => f_no fW (fun r => hErr W _ _ ?_ fW (fX_trans fV pW) r)))))
    case refine_2 =>
      rw [ck_1 e0] at hr
      exact hr
    rw [ck_0 e0] at hr
    have pb := comE_0 (T := T) (D := D1) (by decide) e0
    have pb1 : plK T D1 1 (nx T g) < D1 11 8 := pb.2
    have fW := fX_trans fV fW
    refine fl_Q qW (br_bt0 (B2 := jI (E 7 o)) (plK T D1 1 (nx T g)) rfl rfl pb.1 (by omega) (fun nb => hK W (fl_Q qW (fun y hy z hz => ?_))) (fun yb => ⟨b_0 qW.1, ?_⟩))
    · unfold bt at nb
      rw [if_neg nb] at hr
      have ey : y = jI (up E 7 o (orB (E 7 o) (plK T D1 1 (nx T g))) 7 o) := by
        rw [hy, up_eq]
        unfold orB
        rw [jI_of]
      rw [ey, hz, show jI i + 1 = jI (i + 1) from jadd rfl rfl]
      exact ih (i + 1) _ (nx T (nx T g)) W qW (by rw [up_f (by decide)]; exact e4) (by rw [up_nf (by decide)]; exact e8) fW (by omega) (by omega) (by omega) hr (by omega)
    · unfold bt at yb
      rw [if_pos yb] at hr
      exact x_fail qW hB (k := 3) (p := nx T g) rfl (by rw [qW.1.2.1]; exact w4) (by decide) fbV (fun Z fZ pZ => hK Z (fl_F fZ (fun y hy z hz => f_no fZ (fun r => hErr Z 3 (nx T g) hr fZ (fX_trans fW pZ) r))))
/-- the draft while an official is read -/
def oneD (D : Tm) (nm v2 v3 v4 v5 : Int) : Tm := up (up (up (up (up (up D 5 (10 + D 11 9) nm) 11 9 (D 11 9 + 1)) 9 (10 + D 11 9) v2) 6 (10 + D 11 9) v3) 7 (10 + D 11 9) v4) 8 (10 + D 11 9) v5
theorem oneD_f {D : Tm} {nm v2 v3 v4 v5 : Int} {k : Nat} (h : k ≠ 5 ∧ k ≠ 6 ∧ k ≠ 7 ∧ k ≠ 8 ∧ k ≠ 9 ∧ k ≠ 11) : oneD D nm v2 v3 v4 v5 k = D k := by
  unfold oneD
  rw [up_f (by omega), up_f (by omega), up_f (by omega), up_f (by omega), up_f (by omega), up_f (by omega)]
theorem oneD_11 {D : Tm} {nm v2 v3 v4 v5 i : Int} : oneD D nm v2 v3 v4 v5 11 i = if i = 9 then D 11 9 + 1 else D 11 i := by
  unfold oneD
  rw [up_nf (by decide), up_nf (by decide), up_nf (by decide), up_nf (by decide), up_at]
  by_cases c : i = 9
  · rw [if_pos c, if_pos c]
  · rw [if_neg c, if_neg c, up_nf (by decide)]
theorem oneD_5 {D : Tm} {nm v2 v3 v4 v5 i : Int} : oneD D nm v2 v3 v4 v5 5 i = if i = 10 + D 11 9 then nm else D 5 i := by
  unfold oneD
  rw [up_nf (by decide), up_nf (by decide), up_nf (by decide), up_nf (by decide), up_nf (by decide), up_at]
theorem oneD_9 {D : Tm} {nm v2 v3 v4 v5 i : Int} : oneD D nm v2 v3 v4 v5 9 i = if i = 10 + D 11 9 then v2 else D 9 i := by
  unfold oneD
  rw [up_nf (by decide), up_nf (by decide), up_nf (by decide), up_at]
  by_cases c : i = 10 + D 11 9
  · rw [if_pos c, if_pos c]
  · rw [if_neg c, if_neg c, up_nf (by decide), up_nf (by decide)]
theorem oneD_6 {D : Tm} {nm v2 v3 v4 v5 i : Int} : oneD D nm v2 v3 v4 v5 6 i = if i = 10 + D 11 9 then v3 else D 6 i := by
  unfold oneD
  rw [up_nf (by decide), up_nf (by decide), up_at]
  by_cases c : i = 10 + D 11 9
  · rw [if_pos c, if_pos c]
  · rw [if_neg c, if_neg c, up_nf (by decide), up_nf (by decide), up_nf (by decide)]
theorem oneD_7 {D : Tm} {nm v2 v3 v4 v5 i : Int} : oneD D nm v2 v3 v4 v5 7 i = if i = 10 + D 11 9 then v4 else D 7 i := by
  unfold oneD
  rw [up_nf (by decide), up_at]
  by_cases c : i = 10 + D 11 9
  · rw [if_pos c, if_pos c]
  · rw [if_neg c, if_neg c, up_nf (by decide), up_nf (by decide), up_nf (by decide), up_nf (by decide)]
theorem oneD_8 {D : Tm} {nm v2 v3 v4 v5 i : Int} : oneD D nm v2 v3 v4 v5 8 i = if i = 10 + D 11 9 then v5 else D 8 i := by
  unfold oneD
  rw [up_at]
  by_cases c : i = 10 + D 11 9
  · rw [if_pos c, if_pos c]
  · rw [if_neg c, if_neg c, up_nf (by decide), up_nf (by decide), up_nf (by decide), up_nf (by decide), up_nf (by decide)]
theorem oneD_B {D : Tm} {nm v2 v3 v4 v5 : Int} (h : BD D) (hn : D 11 9 < 10) (hm : 0 < nm ∧ nm < 387420489) : BD (oneD D nm v2 v3 v4 v5) := by
  obtain ⟨⟨⟨a, b, c, d⟩, e, f, g⟩, l⟩ := h
  refine ⟨⟨?_, fun i i0 i1 => ?_, fun i i0 i1 => ?_, fun i i0 i1 => ?_⟩, by rw [oneD_f (by decide)]; exact l⟩
  · rw [oneD_11, oneD_11, oneD_11, oneD_11, if_neg (by decide), if_neg (by decide), if_pos rfl, if_neg (by decide)]
    exact ⟨a, b, ⟨by omega, by omega⟩, d⟩
  · rw [oneD_11, if_neg (by decide)] at i1
    rw [oneD_f (by decide)]
    exact e i i0 i1
  · rw [oneD_11, if_neg (by decide)] at i1
    rw [oneD_f (by decide)]
    exact f i i0 i1
  · rw [oneD_11, if_pos rfl] at i1
    rw [oneD_5]
    by_cases z : i = D 11 9
    · rw [if_pos (by omega)]; exact hm
    · rw [if_neg (by omega)]; exact g i i0 (by omega)
