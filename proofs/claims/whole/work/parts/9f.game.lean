/-! a game -/
def gameB (T D : Tm) (g x1 x2 x3 f6 f7 f9 f11 : Int) : Tm := up (up (up (up (up (up (up (up D 10 (g + 0) x1) 10 (g + 1) x2) 10 (g + 2) x3) 10 (g + 3) (nuS T f6)) 10 (g + 4) (nuS T f7)) 10 (g + 5) (nuS T f9)) 10 (g + 6) (nuS T f11)) 10 (g + 7) 1
def gameZ (D : Tm) (f : Int) : PR := .ok (up D 11 10 (D 11 10 + 1), f)
def gameR (T D : Tm) (f : Int) : PR :=
  ck (fuE D 3 16) f (ck (comE T D 1 (nx T f)) (nx T f) (ck (comE T D 1 (nx T (nx T f))) (nx T (nx T f)) (ck (if plK T D 1 (nx T (nx T f)) = plK T D 1 (nx T f) then 3 else 0) (nx T (nx T f))
   (ck (woE T (nx T (nx T (nx T f))) 4) (nx T (nx T (nx T f))) (ck (comE T D 0 (nx T (nx T (nx T (nx T f))))) (nx T (nx T (nx T (nx T f)))) (ck (woE T (nx T (nx T (nx T (nx T (nx T f))))) 9) (nx T (nx T (nx T (nx T (nx T f))))) (ck (nmE T (nx T (nx T (nx T (nx T (nx T (nx T f)))))) 0 6) (nx T (nx T (nx T (nx T (nx T (nx T f)))))) (ck (nmE T (nx T (nx T (nx T (nx T (nx T (nx T (nx T f))))))) 0 1299) (nx T (nx T (nx T (nx T (nx T (nx T (nx T f)))))))
   (ck (woE T (nx T (nx T (nx T (nx T (nx T (nx T (nx T (nx T f)))))))) 10) (nx T (nx T (nx T (nx T (nx T (nx T (nx T (nx T f)))))))) (ck (nmE T (nx T (nx T (nx T (nx T (nx T (nx T (nx T (nx T (nx T f))))))))) 10 140) (nx T (nx T (nx T (nx T (nx T (nx T (nx T (nx T (nx T f))))))))) (ck (woE T (nx T (nx T (nx T (nx T (nx T (nx T (nx T (nx T (nx T (nx T f)))))))))) 11) (nx T (nx T (nx T (nx T (nx T (nx T (nx T (nx T (nx T (nx T f)))))))))) (ck (nmE T (nx T (nx T (nx T (nx T (nx T (nx T (nx T (nx T (nx T (nx T (nx T f))))))))))) 1 5) (nx T (nx T (nx T (nx T (nx T (nx T (nx T (nx T (nx T (nx T (nx T f)))))))))))
   (if cdS T (nx T (nx T (nx T (nx T (nx T (nx T (nx T (nx T (nx T (nx T (nx T (nx T f)))))))))))) = ownL.getD 12 0 then ck (nmE T (nx T (nx T (nx T (nx T (nx T (nx T (nx T (nx T (nx T (nx T (nx T (nx T (nx T f))))))))))))) 1 3) (nx T (nx T (nx T (nx T (nx T (nx T (nx T (nx T (nx T (nx T (nx T (nx T (nx T f))))))))))))) (gameZ (up (gameB T D (8 * (16 + D 11 10)) (plK T D 1 (nx T f)) (plK T D 1 (nx T (nx T f))) (plK T D 0 (nx T (nx T (nx T (nx T f))))) (nx T (nx T (nx T (nx T (nx T (nx T f)))))) (nx T (nx T (nx T (nx T (nx T (nx T (nx T f))))))) (nx T (nx T (nx T (nx T (nx T (nx T (nx T (nx T (nx T f))))))))) (nx T (nx T (nx T (nx T (nx T (nx T (nx T (nx T (nx T (nx T (nx T f)))))))))))) 10 (8 * (16 + D 11 10) + 7) (nuS T (nx T (nx T (nx T (nx T (nx T (nx T (nx T (nx T (nx T (nx T (nx T (nx T (nx T f))))))))))))))) (nx T (nx T (nx T (nx T (nx T (nx T (nx T (nx T (nx T (nx T (nx T (nx T (nx T (nx T f)))))))))))))))
    else gameZ (gameB T D (8 * (16 + D 11 10)) (plK T D 1 (nx T f)) (plK T D 1 (nx T (nx T f))) (plK T D 0 (nx T (nx T (nx T (nx T f))))) (nx T (nx T (nx T (nx T (nx T (nx T f)))))) (nx T (nx T (nx T (nx T (nx T (nx T (nx T f))))))) (nx T (nx T (nx T (nx T (nx T (nx T (nx T (nx T (nx T f))))))))) (nx T (nx T (nx T (nx T (nx T (nx T (nx T (nx T (nx T (nx T (nx T f)))))))))))) (nx T (nx T (nx T (nx T (nx T (nx T (nx T (nx T (nx T (nx T (nx T (nx T f)))))))))))))))))))))))))
theorem com_c1 {T D D2 : Tm} (h4 : D2 4 = D 4) (h11 : D2 11 = D 11) (f : Int) : plK T D2 1 f = plK T D 1 f ∧ comE T D2 1 f = comE T D 1 f := by
  have e : plK T D2 1 f = plK T D 1 f := by
    unfold plK plS
    rw [if_neg (by decide), if_pos rfl, if_neg (by decide), if_pos rfl, h11, plN_c h4]
  refine ⟨e, ?_⟩
  unfold comE
  rw [e]
set_option maxHeartbeats 4000000 in
theorem s_X12_readGame {U : Um} {T D : Tm} {f : Int} (hQ : Q U T D f) (hN : IN D) {post : Int32 → Um → Prop} (h : Res U T (gameR T D f) post) : w_X12_readGame 55 U post := by
  unfold w_X12_readGame
  unfold gameR gameB at h
  have hn := hN.1
  refine p_isFull hQ hN 3 16 rfl rfl (by omega) (by omega) (fun c V v o => br_1 ?_) (fun c => br_0 ?_)
  · rw [fu_4 c, ck_1 (by omega)] at h
    exact h V v o.1
  rw [fu_0 c, ck_0 rfl] at h
  have c' : D 11 10 < 16 := c
  have rn := rdA (MD_A hQ.2.1 11 14) (E := 10) 10 rfl (by omega) (by omega)
  refine ⟨jvp 10 rfl (by omega) (by omega) (by decide), ?_⟩
  intro X hX
  have eX : X = jI (8 * (16 + D 11 10)) := by rw [hX]; exact jmul rfl (jadd rfl rn)
  clear hX
  have hg : 128 ≤ 8 * (16 + D 11 10) ∧ 8 * (16 + D 11 10) ≤ 248 := by omega
  generalize 8 * (16 + D 11 10) = g at *
  have ek : ∀ k : Int, X + jI k = jI (g + k) := fun k => jadd eX rfl
  have vk : ∀ k : Int, 0 ≤ k → k < 8 → vp_in (X + jI k) 256 := fun k a b => jvp (g + k) (ek k) (by omega) (by omega) (by decide)
  refine p_next hQ (fun V1 q1 o1 _ => ?_)
  have h := Res_m o1.1 h
  generalize nx T f = f1 at *
  refine p_readOne q1 hN 1 rfl (by omega) (fun c2 pb2 V2 q2 o2 r2 => br_1 ?_) (fun c2 V2 q2 o2 => br_0 ?_)
  rotate_left
  · rw [ck_1 c2] at h
    exact h V2 q2 o2.1
  rw [ck_0 c2] at h
  have h := Res_m o2.1 h
  generalize plK T D 1 f1 = x1 at *
  clear c2
  generalize nx T f1 = f2 at *
  refine ⟨vk 0 (by omega) (by omega), ?_⟩
  intro V3 h3
  have q3 : Q V3 T (up D 10 (g + 0) x1) f2 := by rw [h3]; exact Q_sA q2 _ _ (ek 0) r2 (by omega) (by omega) (by unfold dft; omega)
  have n3 : IN (up D 10 (g + 0) x1) := IN_up hN (by decide) (by decide) (by decide) (by decide)
  have o3 : fM V2 V3 := by rw [h3]; exact fM_sA
  have h := Res_m o3 h
  have w1 : up D 10 (g + 0) x1 1 = D 1 := (up_f (by decide)).trans rfl
  have w4 : up D 10 (g + 0) x1 4 = D 4 := (up_f (by decide)).trans rfl
  have w11 : up D 10 (g + 0) x1 11 = D 11 := (up_f (by decide)).trans rfl
  have u3 : up D 10 (g + 0) x1 10 (g + 0) = x1 := up_eq
  generalize up D 10 (g + 0) x1 = D3 at *
  obtain ⟨ep4, ec4⟩ := com_c1 (T := T) w4 w11 f2
  rw [← ep4, ← ec4] at h
  refine p_comesTo q3 n3 1 rfl (by omega) (fun c4 pb4 V4 q4 o4 r4 => br_1 ?_) (fun c4 V4 q4 o4 => br_0 ?_)
  rotate_left
  · rw [ck_1 c4] at h
    exact h V4 q4 o4.1
  rw [ck_0 c4] at h
  have h := Res_m o4.1 h
  generalize plK T D3 1 f2 = x2 at *
  clear c4
  clear ep4 ec4
  refine ⟨vk 0 (by omega) (by omega), ?_⟩
  have ra := rdA (MD_A q4.2.1 10 256) (g + 0) (ek 0) (by omega) (by omega)
  rw [u3] at ra
  simp only [show (7 : Int) + 1 = 8 from rfl] at pb2 pb4
  rw [w11] at pb4
  have b1 : r32 x1 := ⟨by omega, by omega⟩
  have b2 : r32 x2 := ⟨by omega, by omega⟩
  refine br_eq x2 x1 r4 ra b2 b1 (fun cc => ?_) (fun cc => ?_)
  · rw [if_pos cc, ck_1 (by omega)] at h
    exact s_X12_fails q4 3 rfl ⟨by omega, by omega⟩ (fun V v w => ⟨Or.inl rfl, h V v w.1⟩)
  rw [if_neg cc, ck_0 rfl] at h
  refine ⟨vk 1 (by omega) (by omega), ?_⟩
  intro V5 h5
  have q5 : Q V5 T (up D3 10 (g + 1) x2) f2 := by rw [h5]; exact Q_sA q4 _ _ (ek 1) r4 (by omega) (by omega) (by unfold dft; omega)
  have n5 : IN (up D3 10 (g + 1) x2) := IN_up n3 (by decide) (by decide) (by decide) (by decide)
  have o5 : fM V4 V5 := by rw [h5]; exact fM_sA
  have h := Res_m o5 h
  have w1 : up D3 10 (g + 1) x2 1 = D 1 := (up_f (by decide)).trans w1
  have w4 : up D3 10 (g + 1) x2 4 = D 4 := (up_f (by decide)).trans w4
  have w11 : up D3 10 (g + 1) x2 11 = D 11 := (up_f (by decide)).trans w11
  generalize up D3 10 (g + 1) x2 = D5 at *
  refine p_next q5 (fun V6 q6 o6 _ => ?_)
  have h := Res_m o6.1 h
  generalize nx T f2 = f3 at *
  refine p_takes q6 (a := 4) (by decide) (fun c7 V7 q7 o7 _ => br_1 ?_) (fun c7 V7 q7 o7 => br_0 ?_)
  rotate_left
  · rw [wo_1 c7, ck_1 (by omega)] at h
    exact h V7 q7 o7.1
  rw [wo_0 c7, ck_0 rfl] at h
  have h := Res_m o7.1 h
  generalize nx T f3 = f4 at *
  obtain ⟨ep8, ec8⟩ := com_c (T := T) w1 w11 f4
  rw [← ep8, ← ec8] at h
  refine p_readOne q7 n5 0 rfl (by omega) (fun c8 pb8 V8 q8 o8 r8 => br_1 ?_) (fun c8 V8 q8 o8 => br_0 ?_)
  rotate_left
  · rw [ck_1 c8] at h
    exact h V8 q8 o8.1
  rw [ck_0 c8] at h
  have h := Res_m o8.1 h
  generalize plK T D5 0 f4 = x3 at *
  clear c8
  clear ep8 ec8
  generalize nx T f4 = f5 at *
  refine ⟨vk 2 (by omega) (by omega), ?_⟩
  intro V9 h9
  have q9 : Q V9 T (up D5 10 (g + 2) x3) f5 := by rw [h9]; exact Q_sA q8 _ _ (ek 2) r8 (by omega) (by omega) (by unfold dft; omega)
  have n9 : IN (up D5 10 (g + 2) x3) := IN_up n5 (by decide) (by decide) (by decide) (by decide)
  have o9 : fM V8 V9 := by rw [h9]; exact fM_sA
  have h := Res_m o9 h
  have w1 : up D5 10 (g + 2) x3 1 = D 1 := (up_f (by decide)).trans w1
  have w4 : up D5 10 (g + 2) x3 4 = D 4 := (up_f (by decide)).trans w4
  have w11 : up D5 10 (g + 2) x3 11 = D 11 := (up_f (by decide)).trans w11
  generalize up D5 10 (g + 2) x3 = D9 at *
  refine p_readAfter q9 (a := 9) (by decide) (lo := 0) (hi := 6) rfl rfl (by omega) (by omega) (fun c10 d10 V10 q10 o10 r10 _ _ => br_1 ?_) (fun c10 V10 q10 o10 => br_0 ?_) (fun c10 d10 V10 q10 o10 => br_0 ?_)
  rotate_left
  · rw [wo_1 c10, ck_1 (by omega)] at h
    exact h V10 q10 o10.1
  · rw [wo_0 c10, ck_0 rfl, ck_1 d10] at h
    exact h V10 q10 o10.1
  rw [wo_0 c10, ck_0 rfl, ck_0 d10] at h
  have h := Res_m o10.1 h
  generalize nx T f5 = f6 at *
  generalize nx T f6 = f7 at *
  refine ⟨vk 3 (by omega) (by omega), ?_⟩
  intro V11 h11
  have q11 : Q V11 T (up D9 10 (g + 3) (nuS T f6)) f7 := by rw [h11]; exact Q_sA q10 _ _ (ek 3) r10 (by omega) (by omega) (by unfold dft; omega)
  have n11 : IN (up D9 10 (g + 3) (nuS T f6)) := IN_up n9 (by decide) (by decide) (by decide) (by decide)
  have o11 : fM V10 V11 := by rw [h11]; exact fM_sA
  have h := Res_m o11 h
  have w1 : up D9 10 (g + 3) (nuS T f6) 1 = D 1 := (up_f (by decide)).trans w1
  have w4 : up D9 10 (g + 3) (nuS T f6) 4 = D 4 := (up_f (by decide)).trans w4
  have w11 : up D9 10 (g + 3) (nuS T f6) 11 = D 11 := (up_f (by decide)).trans w11
  generalize up D9 10 (g + 3) (nuS T f6) = D11 at *
  refine p_readNumber q11 (lo := 0) (hi := 1299) rfl rfl (by omega) (by omega) (fun c12 V12 q12 o12 r12 _ _ => br_1 ?_) (fun c12 V12 q12 o12 => br_0 ?_)
  rotate_left
  · rw [ck_1 c12] at h
    exact h V12 q12 o12.1
  rw [ck_0 c12] at h
  have h := Res_m o12.1 h
  generalize nx T f7 = f8 at *
  refine ⟨vk 4 (by omega) (by omega), ?_⟩
  intro V13 h13
  have q13 : Q V13 T (up D11 10 (g + 4) (nuS T f7)) f8 := by rw [h13]; exact Q_sA q12 _ _ (ek 4) r12 (by omega) (by omega) (by unfold dft; omega)
  have n13 : IN (up D11 10 (g + 4) (nuS T f7)) := IN_up n11 (by decide) (by decide) (by decide) (by decide)
  have o13 : fM V12 V13 := by rw [h13]; exact fM_sA
  have h := Res_m o13 h
  have w1 : up D11 10 (g + 4) (nuS T f7) 1 = D 1 := (up_f (by decide)).trans w1
  have w4 : up D11 10 (g + 4) (nuS T f7) 4 = D 4 := (up_f (by decide)).trans w4
  have w11 : up D11 10 (g + 4) (nuS T f7) 11 = D 11 := (up_f (by decide)).trans w11
  generalize up D11 10 (g + 4) (nuS T f7) = D13 at *
  refine p_readAfter q13 (a := 10) (by decide) (lo := 10) (hi := 140) rfl rfl (by omega) (by omega) (fun c14 d14 V14 q14 o14 r14 _ _ => br_1 ?_) (fun c14 V14 q14 o14 => br_0 ?_) (fun c14 d14 V14 q14 o14 => br_0 ?_)
  rotate_left
  · rw [wo_1 c14, ck_1 (by omega)] at h
    exact h V14 q14 o14.1
  · rw [wo_0 c14, ck_0 rfl, ck_1 d14] at h
    exact h V14 q14 o14.1
  rw [wo_0 c14, ck_0 rfl, ck_0 d14] at h
  have h := Res_m o14.1 h
  generalize nx T f8 = f9 at *
  generalize nx T f9 = f10 at *
  refine ⟨vk 5 (by omega) (by omega), ?_⟩
  intro V15 h15
  have q15 : Q V15 T (up D13 10 (g + 5) (nuS T f9)) f10 := by rw [h15]; exact Q_sA q14 _ _ (ek 5) r14 (by omega) (by omega) (by unfold dft; omega)
  have n15 : IN (up D13 10 (g + 5) (nuS T f9)) := IN_up n13 (by decide) (by decide) (by decide) (by decide)
  have o15 : fM V14 V15 := by rw [h15]; exact fM_sA
  have h := Res_m o15 h
  have w1 : up D13 10 (g + 5) (nuS T f9) 1 = D 1 := (up_f (by decide)).trans w1
  have w4 : up D13 10 (g + 5) (nuS T f9) 4 = D 4 := (up_f (by decide)).trans w4
  have w11 : up D13 10 (g + 5) (nuS T f9) 11 = D 11 := (up_f (by decide)).trans w11
  generalize up D13 10 (g + 5) (nuS T f9) = D15 at *
  refine p_readAfter q15 (a := 11) (by decide) (lo := 1) (hi := 5) rfl rfl (by omega) (by omega) (fun c16 d16 V16 q16 o16 r16 _ _ => br_1 ?_) (fun c16 V16 q16 o16 => br_0 ?_) (fun c16 d16 V16 q16 o16 => br_0 ?_)
  rotate_left
  · rw [wo_1 c16, ck_1 (by omega)] at h
    exact h V16 q16 o16.1
  · rw [wo_0 c16, ck_0 rfl, ck_1 d16] at h
    exact h V16 q16 o16.1
  rw [wo_0 c16, ck_0 rfl, ck_0 d16] at h
  have h := Res_m o16.1 h
  generalize nx T f10 = f11 at *
  generalize nx T f11 = f12 at *
  refine ⟨vk 6 (by omega) (by omega), ?_⟩
  intro V17 h17
  have q17 : Q V17 T (up D15 10 (g + 6) (nuS T f11)) f12 := by rw [h17]; exact Q_sA q16 _ _ (ek 6) r16 (by omega) (by omega) (by unfold dft; omega)
  have n17 : IN (up D15 10 (g + 6) (nuS T f11)) := IN_up n15 (by decide) (by decide) (by decide) (by decide)
  have o17 : fM V16 V17 := by rw [h17]; exact fM_sA
  have h := Res_m o17 h
  have w1 : up D15 10 (g + 6) (nuS T f11) 1 = D 1 := (up_f (by decide)).trans w1
  have w4 : up D15 10 (g + 6) (nuS T f11) 4 = D 4 := (up_f (by decide)).trans w4
  have w11 : up D15 10 (g + 6) (nuS T f11) 11 = D 11 := (up_f (by decide)).trans w11
  generalize up D15 10 (g + 6) (nuS T f11) = D17 at *
  refine ⟨vk 7 (by omega) (by omega), ?_⟩
  intro V18 h18
  have q18 : Q V18 T (up D17 10 (g + 7) 1) f12 := by rw [h18]; exact Q_sA q17 _ _ (ek 7) rfl (by omega) (by omega) (by unfold dft; omega)
  have n18 : IN (up D17 10 (g + 7) 1) := IN_up n17 (by decide) (by decide) (by decide) (by decide)
  have o18 : fM V17 V18 := by rw [h18]; exact fM_sA
  have h := Res_m o18 h
  have w1 : up D17 10 (g + 7) 1 1 = D 1 := (up_f (by decide)).trans w1
  have w4 : up D17 10 (g + 7) 1 4 = D 4 := (up_f (by decide)).trans w4
  have w11 : up D17 10 (g + 7) 1 11 = D 11 := (up_f (by decide)).trans w11
  generalize up D17 10 (g + 7) 1 = D18 at *
  have fin : ∀ (W : Um) (D9 : Tm) (f9 : Int), Q W T D9 f9 → Res W T (gameZ D9 f9) post → vp_in 10 14 ∧ vp_in 10 14 ∧ ∀ (U_38 : Um), U_38 = sA W 55 11 (va_up (uA W 55 11) (Int32.toNatClampNeg 10) ((uA W 55 11 (Int32.toNatClampNeg 10)) + 1)) → post 1 U_38 := by
    intro W D9 f9 w h9
    have r9 := rdA (MD_A w.2.1 11 14) (E := 10) 10 rfl (by omega) (by omega)
    refine ⟨jvp 10 rfl (by omega) (by omega) (by decide), jvp 10 rfl (by omega) (by omega) (by decide), ?_⟩
    intro W2 h2
    exact h9 W2 (by rw [h2]; exact Q_sA w 10 _ rfl (jadd r9 rfl) (by omega) (by omega) (by unfold dft; omega)) (by rw [h2]; exact fM_sA)
  refine p_isWord q18 (a := 12) (by decide) (fun cw => ?_) (fun cw => ?_)
  · rw [if_pos cw] at h
    intro K hK
    refine br_1 (p_readAfter q18 (a := 12) (by decide) (lo := 1) (hi := 3) rfl rfl (by omega) (by omega) (fun _ d V q o r _ _ => br_1 ?_) (fun c V q o => absurd cw c) (fun _ d V q o => br_0 ?_))
    · rw [ck_0 d] at h
      refine ⟨vk 7 (by omega) (by omega), ?_⟩
      intro W hW
      exact hK W (fin W _ _ (by rw [hW]; exact Q_sA q _ _ (ek 7) r (by omega) (by omega) (by unfold dft; omega)) (Res_m (fM_trans o.1 (by rw [hW]; exact fM_sA)) h))
    · rw [ck_1 d] at h
      exact h V q o.1
  · rw [if_neg cw] at h
    intro K hK
    exact br_0 (hK _ (fin _ _ _ q18 h))
