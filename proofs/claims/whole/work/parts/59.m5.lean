/-! the reference, fees -/
set_option maxHeartbeats 8000000 in
theorem s_X12_wordTells {U : Um} {T : Tm} (hM : M U T) (hI : I1 T) (h2 : I2 T) {a1 : Int32} {c : Int} {a2 : Int32} {g : Int} {a3 : Int32} {s : Int} {a4 : Int32} {o : Int} (e_a1 : a1 = jI c) (e_a2 : a2 = jI g) (e_a3 : a3 = jI s) (e_a4 : a4 = jI o) (p0 : r32 c) (p1 : 0 ≤ g) (p2 : g < T 11 3) (p3 : 0 ≤ s) (p4 : s < 3) (p5 : 0 ≤ o) (p6 : o < T 11 2) {post : Int32 → Um → Prop} (h : post (jI (wordS T g s o c)) U) : w_X12_wordTells 55 a1 a2 a3 a4 U post := by
  unfold w_X12_wordTells
  subst e_a1
  subst e_a2
  subst e_a3
  subst e_a4
  have hn := I_n hI
  have f1 := I_g hI (g) (by omega) (by omega)
  unfold gOk at f1
  refine ⟨fun d2 d3 d4 d5 d6 d7 d8 => ?_, fun d9 => ?_, fun d10 => ?_, fun d11 => ?_, fun d12 => ?_, fun d13 => ?_, fun d14 => ?_, fun d15 => ?_⟩
  · skip
    have d2 := jne (0) d2 rfl
    have d3 := jne (1) d3 rfl
    have d4 := jne (2) d4 rfl
    have d5 := jne (3) d5 rfl
    have d6 := jne (4) d6 rfl
    have d7 := jne (5) d7 rfl
    have d8 := jne (6) d8 rfl
    refine ⟨jvp (o) rfl (by omega) (by omega) (by decide), ?_⟩
    have q : (wordS T g s o c : Int) = (FP.f2i (jF (T 34 (o)))).toInt := by (unfold wordS; simp only [*]; first | rfl | simp)
    rw [q] at h
    exact pst ((congrArg FP.f2i (rdF (M_F hM 34 10) (o) rfl (by omega) (by omega))).trans (jI_of _).symm) h
  · skip
    have d9 := jeq (0) d9 rfl ⟨by omega, by omega⟩ ⟨by omega, by omega⟩
    refine ⟨jvp (o) rfl (by omega) (by omega) (by decide), ?_⟩
    have f16 := I_r h2 (o) (by omega) (by omega)
    unfold r32 at f16
    have q : (wordS T g s o c : Int) = (T 32 (o)) := by (unfold wordS; simp only [*]; first | rfl | simp)
    rw [q] at h
    exact pst (rdA (M_A hM 32 10) (o) rfl (by omega) (by omega)) h
  · skip
    have d10 := jeq (1) d10 rfl ⟨by omega, by omega⟩ ⟨by omega, by omega⟩
    refine s_X12_needOf hM hI h2 (g := g) (s := s) (by exact rfl) (by exact rfl) (by omega) (by omega) (by omega) ?_
    have f17 := I_need hI (g) (s) (by omega) (by omega)
    have q : (wordS T g s o c : Int) = needS T g s := by (unfold wordS; simp only [*]; first | rfl | simp)
    rw [q] at h
    exact pst rfl h
  · skip
    have d11 := jeq (2) d11 rfl ⟨by omega, by omega⟩ ⟨by omega, by omega⟩
    have q : (wordS T g s o c : Int) = s := by (unfold wordS; simp only [*]; first | rfl | simp)
    rw [q] at h
    exact pst rfl h
  · skip
    have d12 := jeq (3) d12 rfl ⟨by omega, by omega⟩ ⟨by omega, by omega⟩
    refine s_X12_of hM hI h2 (g := g) (k := 5) (by exact rfl) (by exact rfl) (by omega) (by omega) (by omega) (by omega) ?_
    have q : (wordS T g s o c : Int) = gm T g 5 := by (unfold wordS; simp only [*]; first | rfl | simp)
    rw [q] at h
    exact pst rfl h
  · skip
    have d13 := jeq (4) d13 rfl ⟨by omega, by omega⟩ ⟨by omega, by omega⟩
    refine s_X12_of hM hI h2 (g := g) (k := 3) (by exact rfl) (by exact rfl) (by omega) (by omega) (by omega) (by omega) ?_
    have q : (wordS T g s o c : Int) = gm T g 3 := by (unfold wordS; simp only [*]; first | rfl | simp)
    rw [q] at h
    exact pst rfl h
  · skip
    have d14 := jeq (5) d14 rfl ⟨by omega, by omega⟩ ⟨by omega, by omega⟩
    refine s_X12_of hM hI h2 (g := g) (k := 4) (by exact rfl) (by exact rfl) (by omega) (by omega) (by omega) (by omega) ?_
    have q : (wordS T g s o c : Int) = gm T g 4 := by (unfold wordS; simp only [*]; first | rfl | simp)
    rw [q] at h
    exact pst rfl h
  · skip
    have d15 := jeq (6) d15 rfl ⟨by omega, by omega⟩ ⟨by omega, by omega⟩
    refine ⟨jvp (o) rfl (by omega) (by omega) (by decide), ?_⟩
    refine s_X12_of hM hI h2 (g := g) (k := 2) (by exact rfl) (by exact rfl) (by omega) (by omega) (by omega) (by omega) ?_
    have f18 := I_o hI (o) (by omega) (by omega)
    unfold r32 at f18
    refine s_X12_wayOf hM hI h2 (a := (T 6 (o))) (b := gm T g 2) (by exact (rdA (M_A hM 6 10) (o) rfl (by omega) (by omega))) (by exact rfl) (by omega) (by omega) (by omega) (by omega) ?_
    have f19 := I_wS hI (((T 6 (o)))) ((gm T g 2)) (by omega) (by omega) (by omega) (by omega)
    have q : (wordS T g s o c : Int) = wayS T ((T 6 (o))) (gm T g 2) := by (unfold wordS; simp only [*]; first | rfl | simp)
    rw [q] at h
    exact pst rfl h
theorem wordS_b {T : Tm} (hI : I1 T) (h2 : I2 T) (c g s o : Int) (g0 : 0 ≤ g) (g1 : g < T 11 3) (s0 : 0 ≤ s) (s1 : s < 3) (o0 : 0 ≤ o) (o1 : o < T 11 2) : r32 (wordS T g s o c) := by
  have hn := I_n hI
  have a := I_g hI g g0 g1
  have b := I_o hI o o0 o1
  have d := I_r h2 o o0 o1
  have e := I_need hI g s g0 g1
  unfold gOk at a
  have f := I_wS hI (T 6 o) (gm T g 2) (by omega) (by omega) (by omega) (by omega)
  have r := r32_of (FP.f2i (jF (T 34 o)))
  unfold wordS
  repeat' split
  all_goals omega
theorem small_push {l : List Int} {v : Int} (h : small l) (hv : -2147483648 ≤ v ∧ v ≤ 2147483647) : small (v :: l) := by
  intro x hx
  rcases List.mem_cons.mp hx with q | q
  · rw [q]
    exact hv
  · exact h x q
theorem opS_e {c a b : Int} {x : Int} (h : (c = 43 ∧ x = a + b) ∨ (c = 45 ∧ x = a - b) ∨ (c = 42 ∧ x = a * b) ∨ (c = 47 ∧ x = flS a b)) : opS c a b = x := by
  unfold opS
  rcases h with ⟨h, e⟩ | ⟨h, e⟩ | ⟨h, e⟩ | ⟨h, e⟩ <;> subst h <;> simp [e]
theorem mul_b {a b : Int} (ha : -2147483648 ≤ a ∧ a ≤ 2147483647) (hb : -2147483648 ≤ b ∧ b ≤ 2147483647) : -4611686018427387904 ≤ a * b ∧ a * b ≤ 4611686018427387904 := by
  have h1 : (a * b).natAbs = a.natAbs * b.natAbs := Int.natAbs_mul a b
  have h2 : a.natAbs * b.natAbs ≤ 2147483648 * 2147483648 := Nat.mul_le_mul (by omega) (by omega)
  omega
theorem l_feeOf {T : Tm} (hI : I1 T) (h2 : I2 T) {g s o : Int} (g0 : 0 ≤ g) (g1 : g < T 11 3) (s0 : 0 ≤ s) (s1 : s < 3) (o0 : 0 ≤ o) (o1 : o < T 11 2) {post : Int64 → Um → Prop} {k_256 : Um → Prop} {U0 : Um} (hk : ∀ U : Um, M U T → fM U0 U → ∀ l, evS T g s o (T 14 0) = some l → (l.length : Int) = dep T (T 14 0) → pileIs (uJ U 55 40) l → small l → k_256 U) (hr : ∀ U : Um, M U T → fM U0 U → evS T g s o (T 14 0) = none → post (jL (-9223372036854775808)) U) : ∀ (fu : Nat) (k : Int) (l : List Int) (U : Um), M U T → fM U0 U → 0 ≤ k → k ≤ T 14 0 → evS T g s o k = some l → (l.length : Int) = dep T k → pileIs (uJ U 55 40) l → small l → (T 14 0 - k).toNat < fu → w_X12_feeOf_L18 55 (jI g) (jI s) (jI o) post k_256 fu (jI (l.length : Int)) (jI k) U := by
  intro fu
  have hn := I_n hI
  have hL := hI.2.2.2.2.2
  induction fu with
  | zero => intro k l U hM hF h3 h4 h5 h6 h7 h8 h9; exact absurd h9 (Nat.not_lt_zero _)
  | succ fu ih =>
    intro k l U hM hF h3 h4 h5 h6 h7 h8 h9
    show b_X12_feeOf_L18 55 (jI g) (jI s) (jI o) post k_256 (w_X12_feeOf_L18 55 (jI g) (jI s) (jI o) post k_256 fu) (jI (l.length : Int)) (jI k) U
    unfold b_X12_feeOf_L18
    refine br_le (T 14 0) k (M_S hM 14) rfl ⟨by omega, by omega⟩ ⟨by omega, by omega⟩ (fun c => ?_) (fun c => ?_)
    · have e : T 14 0 = k := by omega
      rw [e] at hk
      exact hk U hM hF l h5 h6 h7 h8
    have hs := hL.2.1 k h3 c
    have hd := dep_s (T := T) h3
    have he := evS_s (T := T) (g := g) (s := s) (o := o) h3
    rw [h5] at he
    have r13 : uA U 55 13 (Int32.toNatClampNeg (jI k)) = jI (T 13 k) := rdA (M_A hM 13 1300) k rfl h3 (by omega)
    have r12 : uA U 55 12 (Int32.toNatClampNeg (jI k)) = jI (T 12 k) := rdA (M_A hM 12 1300) k rfl h3 (by omega)
    refine ⟨jvp k rfl h3 (by omega) (by decide), ?_⟩
    refine al_i (T 13 k) r13 ?_
    have push : ∀ (v : Int) (V : Um), (-2147483648 ≤ v ∧ v ≤ 2147483647) → T 13 k ≤ 1 → dep T k ≤ 15 → evS T g s o (k + 1) = some (v :: l) → M V T → fM U0 V → uJ V 55 40 = uJ U 55 40 → ∀ W : Um, W = sJ V 55 40 (va_up (uJ V 55 40) (Int32.toNatClampNeg (jI (l.length : Int))) (jL v)) → ∀ x4 : Int32, x4 = jI (l.length : Int) + 1 → ∀ x5 : Int32, x5 = jI k + 1 → w_X12_feeOf_L18 55 (jI g) (jI s) (jI o) post k_256 fu x4 x5 W := by
      intro v V hv h13 hdp hev hV hFV hJ W hW
      refine al_i ((l.length : Int) + 1) (jadd rfl rfl) ?_
      refine al_i (k + 1) (jadd rfl rfl) ?_
      have hW2 : uJ W 55 40 = va_up (uJ U 55 40) l.length (jL v) := by
        rw [hW, uJ_sJ, if_pos ⟨rfl, rfl⟩, rd_nat (by omega), hJ]
      have := ih (k + 1) (v :: l) W (by rw [hW]; exact M_xJ hV) (by rw [hW]; exact fM_trans hFV fM_sJ) (by omega) (by omega) hev (by rw [hd, if_pos h13]; simp; omega) (by rw [hW2]; exact pile_push h7 rfl) (small_push h8 hv) (by omega)
      exact this
    intro K hK
    have both : (T 13 k = 0 ∧ (0 ≤ T 12 k ∧ T 12 k ≤ 9999) ∧ dep T k ≤ 15) ∨ (T 13 k = 1 ∧ (0 ≤ T 12 k ∧ T 12 k ≤ 7) ∧ dep T k ≤ 15) → K := by
      intro hb
      refine hK ?_
      intro K3 hK3
      have tail : ∀ V : Um, M V T → fM U0 V → uJ V 55 40 = uJ U 55 40 → (T 13 k = 1 → ¬ (T 12 k = 6 ∧ wordS T g s o 6 = -1)) → K3 V := by
        intro V hV hFV hJ hnw
        refine hK3 V ?_
        have q12 : uA V 55 12 (Int32.toNatClampNeg (jI k)) = jI (T 12 k) := rdA (M_A hV 12 1300) k rfl h3 (by omega)
        refine br_eq (T 13 k) 0 rfl rfl ⟨by omega, by omega⟩ ⟨by omega, by omega⟩ (fun c2 => ?_) (fun c2 => ?_)
        · refine ⟨jvp k rfl h3 (by omega) (by decide), jvp (l.length : Int) rfl (by omega) (by omega) (by decide), ?_⟩
          rw [q12, jlong rfl ⟨by omega, by omega⟩]
          exact push (T 12 k) V (by omega) (by omega) (by omega) (by rw [he]; unfold stpS; simp only []; rw [if_pos c2]) hV hFV hJ
        · have c3 : T 13 k = 1 := by omega
          refine ⟨jvp k rfl h3 (by omega) (by decide), ?_⟩
          have wb := wordS_b hI h2 (T 12 k) g s o g0 g1 s0 s1 o0 o1
          refine s_X12_wordTells hV hI h2 (c := T 12 k) (g := g) (s := s) (o := o) q12 rfl rfl rfl ⟨by omega, by omega⟩ g0 g1 s0 s1 o0 o1 ?_
          refine ⟨jvp (l.length : Int) rfl (by omega) (by omega) (by decide), ?_⟩
          rw [jlong rfl wb]
          exact push (wordS T g s o (T 12 k)) V (by omega) (by omega) (by omega) (by rw [he]; unfold stpS; simp only []; rw [if_neg (by omega), if_pos c3, if_neg (hnw c3)]) hV hFV hJ
      refine br_eq (T 13 k) 1 rfl rfl ⟨by omega, by omega⟩ ⟨by omega, by omega⟩ (fun c2 => ?_) (fun c2 => ?_)
      · refine ⟨jvp k rfl h3 (by omega) (by decide), ?_⟩
        refine br_eq (T 12 k) 6 r12 rfl ⟨by omega, by omega⟩ ⟨by omega, by omega⟩ (fun c3 => ?_) (fun c3 => ?_)
        · have wb := wordS_b hI h2 6 g s o g0 g1 s0 s1 o0 o1
          refine s_X12_wordTells hM hI h2 (c := 6) (g := g) (s := s) (o := o) rfl rfl rfl rfl ⟨by omega, by omega⟩ g0 g1 s0 s1 o0 o1 ?_
          refine br_eq (wordS T g s o 6) (-1) rfl rfl wb ⟨by omega, by omega⟩ (fun c4 => ?_) (fun c4 => ?_)
          · refine hr U hM hF (evS_n (k := k + 1) (by omega) (by omega) ?_)
            rw [he]
            unfold stpS
            simp only []
            rw [if_neg (by omega), if_pos c2, if_pos ⟨c3, c4⟩]
          · exact tail U hM hF rfl (fun _ q => c4 q.2)
        · exact tail U hM hF rfl (fun _ q => c3 q.1)
      · exact tail U hM hF rfl (fun q => absurd q c2)
    refine br_eq (T 13 k) 0 rfl rfl ⟨by omega, by omega⟩ ⟨by omega, by omega⟩ (fun c2 => both (by omega)) (fun c2 => ?_)
    refine br_eq (T 13 k) 1 rfl rfl ⟨by omega, by omega⟩ ⟨by omega, by omega⟩ (fun c3 => both (by omega)) (fun c3 => ?_)
    have hd2 : 2 ≤ dep T k := by omega
    have hc : T 13 k = 43 ∨ T 13 k = 45 ∨ T 13 k = 42 ∨ T 13 k = 47 := by omega
    match l, h5, h6, h7, h8, he with
    | [], h5, h6, h7, h8, he => exact absurd h6 (by simp; omega)
    | [x], h5, h6, h7, h8, he => exact absurd h6 (by simp; omega)
    | b :: a :: r, h5, h6, h7, h8, he =>
      have ha := h8 a (by simp)
      have hb := h8 b (by simp)
      have hlen : ((b :: a :: r).length : Int) = (r.length : Int) + 2 := by simp; omega
      have hle : (r.length : Int) + 2 ≤ 1200 := by
        have hdn : ∀ d : Nat, depN T d ≤ d := by
          intro d
          induction d with
          | zero => exact Int.le_refl 0
          | succ d ihd =>
            show (if T 13 d ≤ 1 then depN T d + 1 else depN T d - 1) ≤ _
            split <;> omega
        have := hdn k.toNat
        have : dep T k ≤ k.toNat := this
        omega
      refine al_i ((r.length : Int) + 1) (by rw [hlen, show (-1 : Int32) = jI (-1) from rfl, jI_add]; exact congrArg jI (by omega)) ?_
      refine ⟨jvp (r.length : Int) ((jsub (y := 1) rfl rfl).trans (congrArg jI (by omega))) (by omega) (by omega) (by decide), ?_⟩
      have ri : Int32.toNatClampNeg (jI ((r.length : Int) + 1) - 1) = r.length := by
        rw [show jI ((r.length : Int) + 1) - 1 = jI (r.length : Int) from (jsub (y := 1) rfl rfl).trans (congrArg jI (by omega))]
        rw [jI_nat (by omega) (by omega)]
        exact Int.toNat_natCast _
      have ri2 : Int32.toNatClampNeg (jI ((r.length : Int) + 1)) = r.length + 1 := by
        rw [jI_nat (by omega) (by omega)]
        exact (by omega : ((r.length : Int) + 1).toNat = r.length + 1)
      have pa : uJ U 55 40 r.length = jL a := by
        have := h7 1 (by simp)
        simpa using this
      have pb : uJ U 55 40 (r.length + 1) = jL b := by
        have := h7 0 (by simp)
        simpa using this
      refine al_l a (by rw [ri]; exact pa) ?_
      refine ⟨jvp ((r.length : Int) + 1) rfl (by omega) (by omega) (by decide), ?_⟩
      refine al_l b (by rw [ri2]; exact pb) ?_
      intro K18 hK18
      have opb : -9223372036854775808 ≤ opS (T 13 k) a b ∧ opS (T 13 k) a b ≤ 9223372036854775807 := by
        have q1 := mul_b ha hb
        have q2 := flS_b (a := a) (b := b) (by omega)
        unfold opS
        repeat' split
        all_goals omega
      have fin : ¬ (T 13 k = 47 ∧ b = 0) → K18 := by
        intro hz
        refine hK18 ?_
        intro K19 hK19
        have done : K19 (jL (opS (T 13 k) a b)) U := by
          refine hK19 _ U ?_
          refine s_X12_isIn (a := opS (T 13 k) a b) (lo := -2147483648) (hi := 2147483647) (by exact rfl) (by exact rfl) (by exact rfl) opb ⟨by omega, by omega⟩ ⟨by omega, by omega⟩ (fun c4 => ?_) (fun c4 => ?_)
          · refine br_1 ?_
            refine ⟨jvp (r.length : Int) ((jsub (y := 1) rfl rfl).trans (congrArg jI (by omega))) (by omega) (by omega) (by decide), ?_⟩
            intro W hW
            refine al_i (k + 1) (jadd rfl rfl) ?_
            have hev : evS T g s o (k + 1) = some (opS (T 13 k) a b :: r) := by
              rw [he]
              unfold stpS
              simp only []
              rw [if_neg c2, if_neg c3, if_neg (fun q => q.elim hz (fun z => z c4))]
            have := ih (k + 1) (opS (T 13 k) a b :: r) W (by rw [hW]; exact M_xJ hM) (by rw [hW]; exact fM_trans hF fM_sJ) (by omega) (by omega) hev (by rw [hd, if_neg (by omega), ← h6]; simp) (by rw [hW, uJ_sJ, if_pos ⟨rfl, rfl⟩, ri]; exact pile_join h7 rfl) (small_push (fun x hx => h8 x (by simp [hx])) c4) (by omega)
            rw [show ((opS (T 13 k) a b :: r).length : Int) = (r.length : Int) + 1 by simp] at this
            exact this
          · refine br_0 ?_
            refine hr U hM hF (evS_n (k := k + 1) (by omega) (by omega) ?_)
            rw [he]
            unfold stpS
            simp only []
            rw [if_neg c2, if_neg c3, if_pos (Or.inr c4)]
        refine br_eq (T 13 k) 43 rfl rfl ⟨by omega, by omega⟩ ⟨by omega, by omega⟩ (fun q => ?_) (fun q1 => ?_)
        · rw [opS_e (Or.inl ⟨q, rfl⟩)] at done
          rw [jL_add]
          exact done
        refine br_eq (T 13 k) 45 rfl rfl ⟨by omega, by omega⟩ ⟨by omega, by omega⟩ (fun q => ?_) (fun q2 => ?_)
        · rw [opS_e (Or.inr (Or.inl ⟨q, rfl⟩))] at done
          rw [jL_sub]
          exact done
        refine br_eq (T 13 k) 42 rfl rfl ⟨by omega, by omega⟩ ⟨by omega, by omega⟩ (fun q => ?_) (fun q3 => ?_)
        · rw [opS_e (Or.inr (Or.inr (Or.inl ⟨q, rfl⟩)))] at done
          rw [jL_mul]
          exact done
        · rw [opS_e (Or.inr (Or.inr (Or.inr ⟨by omega, rfl⟩)))] at done
          exact s_X12_floor rfl rfl (by omega) (by omega) (fun z => hz ⟨by omega, z⟩) done
      refine br_eq (T 13 k) 47 rfl rfl ⟨by omega, by omega⟩ ⟨by omega, by omega⟩ (fun q => ?_) (fun q => fin (fun z => q z.1))
      refine br_l0 b 0 rfl rfl ⟨by omega, by omega⟩ ⟨by omega, by omega⟩ (fun z => ?_) (fun z => fin (fun y => z y.2))
      refine hr U hM hF (evS_n (k := k + 1) (by omega) (by omega) ?_)
      rw [he]
      unfold stpS
      simp only []
      rw [if_neg c2, if_neg c3, if_pos (Or.inl ⟨q, z⟩)]
theorem s_X12_feeOf {U : Um} {T : Tm} (hM : M U T) (hI : I1 T) (h2 : I2 T) {a1 a2 a3 : Int32} {g s o : Int} (e1 : a1 = jI g) (e2 : a2 = jI s) (e3 : a3 = jI o) (p0 : 0 ≤ g) (p1 : g < T 11 3) (p2 : 0 ≤ s) (p3 : s < 3) (p4 : 0 ≤ o) (p5 : o < T 11 2) {post : Int64 → Um → Prop} (h : ∀ U2 : Um, M U2 T → fM U U2 → post (jL (feeS T g s o)) U2) : w_X12_feeOf 55 a1 a2 a3 U post := by
  unfold w_X12_feeOf
  subst e1; subst e2; subst e3
  have hn := I_n hI
  have hL := hI.2.2.2.2.2
  refine ⟨jvp (6) rfl (by omega) (by omega) (by decide), ?_⟩
  refine br_eq (T 11 6) 0 (rdA (M_A hM 11 7) (6) rfl (by omega) (by omega)) rfl ⟨by omega, by omega⟩ ⟨by omega, by omega⟩ (fun c => ?_) (fun c => ?_)
  · have := h U hM fM_rfl
    unfold feeS at this
    rw [if_pos c] at this
    exact this
  refine ⟨(T 14 0 - 0 : Int).toNat + 1, ?_⟩
  refine l_feeOf hI h2 p0 p1 p2 p3 p4 p5 (U0 := U) (fun V hV hF l e1 e2 e3 e4 => ?_) (fun V hV hF e => ?_) _ 0 [] U hM fM_rfl (Int.le_refl 0) (by omega) rfl rfl (fun j hj => absurd hj (Nat.not_lt_zero _)) (fun x hx => absurd hx (by simp)) (by omega)
  · refine ⟨jvp (0) rfl (by omega) (by omega) (by decide), ?_⟩
    have hd := hL.2.2.2 (by omega)
    have := h V hV hF
    unfold feeS at this
    rw [if_neg c, e1] at this
    match l, e2, e3, this with
    | [], e2, e3, this => exact absurd e2 (by simp; omega)
    | [v], e2, e3, this =>
      have q := e3 0 (by simp)
      simp at q
      show post (uJ V 55 40 0) V
      rw [q]
      exact this
    | v :: w :: r, e2, e3, this => exact absurd e2 (by simp; omega)
  · have := h V hV hF
    unfold feeS at this
    rw [if_neg c, e] at this
    exact this
