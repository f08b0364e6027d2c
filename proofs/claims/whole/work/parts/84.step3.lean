def stIs (U : Um) (f : Int → Int) : Prop := ∀ w : Int, 0 ≤ w → w < 5 → uA U 55 48 w.toNat = jI (f w)
theorem l_fs3 {T1 : Tm} {x1 x2 x3 : Int32} {post : Int32 → Um → Prop} {k_23 : Um → Prop} {U0 : Um} (hk : ∀ V : Um, M V T1 → fM U0 V → (∀ w : Int, 1 ≤ w → w < 5 → uA V 55 48 w.toNat = jI (-1)) → k_23 V) : ∀ (fu : Nat) (k : Int) (U : Um), M U T1 → fM U0 U → 1 ≤ k → k ≤ 5 → (∀ w : Int, 1 ≤ w → w < k → uA U 55 48 w.toNat = jI (-1)) → (5 - k).toNat < fu → w_X12_findsStep_L3 55 x1 x2 x3 post k_23 fu (jI k) U := by
  intro fu
  induction fu with
  | zero => intro k U hM hF h3 h4 h5 h6; exact absurd h6 (Nat.not_lt_zero _)
  | succ fu ih =>
    intro k U hM hF h3 h4 h5 h6
    show b_X12_findsStep_L3 55 x1 x2 x3 post k_23 (w_X12_findsStep_L3 55 x1 x2 x3 post k_23 fu) (jI k) U
    unfold b_X12_findsStep_L3
    refine br_le 5 k rfl rfl ⟨by omega, by omega⟩ ⟨by omega, by omega⟩ (fun c => hk U hM hF (fun w a b => h5 w a (by omega))) (fun c => ?_)
    refine ⟨jvp k rfl (by omega) (by omega) (by decide), ?_⟩
    intro V hV
    refine al_i (k + 1) (jadd rfl rfl) ?_
    refine ih (k + 1) V (by rw [hV]; exact M_xA hM) (by rw [hV]; exact fM_trans hF fM_sA) (by omega) (by omega) (fun w a b => ?_) (by omega)
    rw [hV, uA_sA, if_pos ⟨rfl, rfl⟩, jI_nat (by omega) (by omega)]
    unfold va_up
    by_cases z : w = k
    · rw [if_pos (by rw [z])]
      rfl
    · rw [if_neg (by omega)]
      exact h5 w a (by omega)
theorem l_fs26 {T : Tm} (hI : I1 T) (h2 : I2 T) {g s : Int} (hs : isSeat T g s) (hown : T 30 (3 * g + s) ≠ -1) {U : Um} (hM : M U (up T 30 (3 * g + s) (-1))) {post : Int32 → Um → Prop} {k_57 : Int32 → Um → Prop} {k_80 : Um → Prop} (h1 : ∀ p, 0 ≤ p → p < T 11 2 → st1 T g s (T 30 (3 * g + s)) = p → k_57 (jI p) U) (h0 : st1 T g s (T 30 (3 * g + s)) = -1 → k_80 U) : ∀ (fu : Nat) (p : Int), 0 ≤ p → p ≤ T 11 2 → (∀ j, 0 ≤ j → j < p → ¬ (j ≠ T 30 (3 * g + s) ∧ hind T (inGame T j) g s j = 0)) → (T 11 2 - p).toNat < fu → w_X12_findsStep_L26 55 (jI g) (jI s) (jI (T 30 (3 * g + s))) post k_57 k_80 fu (jI p) U := by
  have q1 := seat3 hI hs
  have hn := I_n hI
  have ho := I_k h2 (3 * g + s) (by omega) (by omega)
  intro fu
  induction fu with
  | zero => intro p a b c d; exact absurd d (Nat.not_lt_zero _)
  | succ fu ih =>
    intro p p0 p1 hp hm
    show b_X12_findsStep_L26 55 (jI g) (jI s) (jI (T 30 (3 * g + s))) post k_57 k_80 (w_X12_findsStep_L26 55 (jI g) (jI s) (jI (T 30 (3 * g + s))) post k_57 k_80 fu) (jI p) U
    unfold b_X12_findsStep_L26
    refine ⟨jvp (2) rfl (by omega) (by omega) (by decide), ?_⟩
    refine br_le (T 11 2) p (rdA (M_A hM 11 7) (2) rfl (by omega) (by omega)) rfl ⟨by omega, by omega⟩ ⟨by omega, by omega⟩ (fun c => ?_) (fun c => ?_)
    · exact h0 (fst_no (by omega) (fun j a b => hp j a (by omega)))
    have nx : ¬ (p ≠ T 30 (3 * g + s) ∧ hind T (inGame T p) g s p = 0) → ∀ x4 : Int32, x4 = jI p + 1 → w_X12_findsStep_L26 55 (jI g) (jI s) (jI (T 30 (3 * g + s))) post k_57 k_80 fu x4 U := by
      intro q
      refine al_i (p + 1) (jadd rfl rfl) ?_
      refine ih (p + 1) (by omega) (by omega) (fun j a b => ?_) (by omega)
      by_cases z : j = p
      · rw [z]
        exact q
      · exact hp j a (by omega)
    refine br_eq p (T 30 (3 * g + s)) rfl rfl ⟨by omega, by omega⟩ ⟨by omega, by omega⟩ (fun c1 => nx (fun q => q.1 c1)) (fun c1 => ?_)
    have hw := why_t1 hI h2 (p := p) hs (fun q => c1 q.symm) p0
    have hwb := whyS_bb (up T 30 (3 * g + s) (-1)) g s p
    refine s_X12_whyNot hM (I1_30 hI) (I2_del h2 _) (g := g) (s := s) (o := p) rfl rfl rfl hs.1.1 hs.1.2 hs.2.1 hs.2.2 p0 c ?_
    refine br_eq (whyS (up T 30 (3 * g + s) (-1)) g s p) 0 rfl rfl ⟨by omega, by omega⟩ ⟨by omega, by omega⟩ (fun c2 => ?_) (fun c2 => ?_)
    · exact h1 p p0 c (fst_is p0 c ⟨c1, by rw [← hw]; exact c2⟩ hp)
    · exact nx (fun q => c2 (by rw [hw]; exact q.2))
theorem l_fs97 {T : Tm} (hI : I1 T) (h2 : I2 T) {g s p : Int} (hs : isSeat T g s) (hown : T 30 (3 * g + s) ≠ -1) (p0 : 0 ≤ p) (p1 : p < T 11 2) {post : Int32 → Um → Prop} {k_158 : Int32 → Um → Prop} {k_201 : Um → Prop} {U0 : Um} (h1 : p ≠ T 30 (3 * g + s) → ∀ (k : Int) (V : Um), M V (up T 30 (3 * g + s) (-1)) → fM U0 V → 0 ≤ k → k < 48 → okS T g s (T 30 (3 * g + s)) p k → stK T g s (T 30 (3 * g + s)) p = k → uA V 55 48 4 = jI (folS T (T 30 (3 * g + s)) p k) → k_158 (jI k) V) (h0 : ∀ V : Um, M V (up T 30 (3 * g + s) (-1)) → fM U0 V → ¬ stQ T g s (T 30 (3 * g + s)) p → k_201 V) : ∀ (fu : Nat) (k : Int) (U : Um), M U (up T 30 (3 * g + s) (-1)) → fM U0 U → 0 ≤ k → k ≤ 48 → (∀ j, 0 ≤ j → j < k → ¬ okS T g s (T 30 (3 * g + s)) p j) → (48 - k).toNat < fu → w_X12_findsStep_L97 55 (jI g) (jI s) (jI (T 30 (3 * g + s))) (jI p) post k_158 k_201 fu (jI k) U := by
  have q1 := seat3 hI hs
  have hn := I_n hI
  have ho := I_k h2 (3 * g + s) (by omega) (by omega)
  intro fu
  induction fu with
  | zero => intro k U hM hF a b c d; exact absurd d (Nat.not_lt_zero _)
  | succ fu ih =>
    intro k U hM hF k0 k1 hp hm
    show b_X12_findsStep_L97 55 (jI g) (jI s) (jI (T 30 (3 * g + s))) (jI p) post k_158 k_201 (w_X12_findsStep_L97 55 (jI g) (jI s) (jI (T 30 (3 * g + s))) (jI p) post k_158 k_201 fu) (jI k) U
    unfold b_X12_findsStep_L97
    refine br_le 48 k rfl rfl ⟨by omega, by omega⟩ ⟨by omega, by omega⟩ (fun c => ?_) (fun c => ?_)
    · refine h0 U hM hF (fun q => ?_)
      obtain ⟨j, j0, j1, j2⟩ := q.2
      exact hp j j0 (by omega) j2
    refine br_eq p (T 30 (3 * g + s)) rfl rfl ⟨by omega, by omega⟩ ⟨by omega, by omega⟩ (fun c1 => h0 U hM hF (fun q => q.1 c1)) (fun c1 => ?_)
    have nx : ∀ V : Um, M V (up T 30 (3 * g + s) (-1)) → fM U0 V → ¬ okS T g s (T 30 (3 * g + s)) p k → ∀ x5 : Int32, x5 = jI k + 1 → w_X12_findsStep_L97 55 (jI g) (jI s) (jI (T 30 (3 * g + s))) (jI p) post k_158 k_201 fu x5 V := by
      intro V hV hFV q
      refine al_i (k + 1) (jadd rfl rfl) ?_
      refine ih (k + 1) V hV hFV (by omega) (by omega) (fun j a b => ?_) (by omega)
      by_cases z : j = k
      · rw [z]
        exact q
      · exact hp j a (by omega)
    have hk := I_k h2 k k0 c
    refine ⟨jvp k rfl k0 (by omega) (by decide), ?_⟩
    have h2d := I_k (I2_del h2 (3 * g + s)) k k0 c
    have rk : uA U 55 30 (Int32.toNatClampNeg (jI k)) = jI (up T 30 (3 * g + s) (-1) 30 k) := rdA (M_A hM 30 48) k rfl k0 (by omega)
    have h2d2 : -1 ≤ up T 30 (3 * g + s) (-1) 30 k ∧ up T 30 (3 * g + s) (-1) 30 k < 10 := by
      have e : up T 30 (3 * g + s) (-1) 11 2 = T 11 2 := rfl
      omega
    have upk : up T 30 (3 * g + s) (-1) 30 k = if k = 3 * g + s then -1 else T 30 k := up_at
    refine br_eq (up T 30 (3 * g + s) (-1) 30 k) p rk rfl ⟨by omega, by omega⟩ ⟨by omega, by omega⟩ (fun c2 => ?_) (fun c2 => ?_)
    · have kk : k ≠ 3 * g + s := by
        intro z
        rw [upk, if_pos z] at c2
        omega
      have c3 : T 30 k = p := by rw [upk, if_neg kk] at c2; exact c2
      have sk := seat_k h2 k0 c (by omega)
      have dv : jI k / 3 = jI (k / 3) := jdiv rfl rfl ⟨by omega, by omega⟩ ⟨by omega, by omega⟩ (by omega) (by omega)
      refine br_eq (k / 3) g dv rfl ⟨by omega, by omega⟩ ⟨by omega, by omega⟩ (fun c4 => nx U hM hF (fun q => q.2.1 c4)) (fun c4 => ?_)
      refine s_X12_isPlayed hM (I1_30 hI) (I2_del h2 _) (g := k / 3) dv sk.1.1.1 sk.1.1.2 (fun c5 => ?_) (fun c5 => ?_)
      · refine br_1 ?_
        exact nx U hM hF (fun q => q.2.2.1 c5)
      · refine br_0 ?_
        rw [← c3]
        refine s_fol hI h2 hs k0 c (by omega) c4 (fun q => c1 (by rw [← c3, q])) hM (fun V mV fV w1 w2 w3 => ?_) (fun V mV fV w => ?_)
        · refine br_1 ?_
          rw [c3] at w1 w2 w3
          have ok : okS T g s (T 30 (3 * g + s)) p k := ⟨c3, c4, c5, w1, w2⟩
          exact h1 c1 k V mV (fM_trans hF fV) k0 c ok (fst_is k0 c ok hp) w3
        · refine br_0 ?_
          rw [c3] at w ⊢
          exact nx V mV (fM_trans hF fV) (fun q => w ⟨q.2.2.2.1, q.2.2.2.2⟩)
    · refine nx U hM hF (fun q => c2 ?_)
      have kk : k ≠ 3 * g + s := by
        intro z
        have := q.1
        rw [z] at this
        exact c1 this.symm
      rw [upk, if_neg kk]
      exact q.1
theorem fs83_s {o : Nat} {a b c : Int32} {post : Int32 → Um → Prop} {k : Int32 → Int32 → Um → Prop} {n : Nat} : w_X12_findsStep_L83 o a b c post k (n + 1) = b_X12_findsStep_L83 o a b c post k (w_X12_findsStep_L83 o a b c post k n) := rfl
theorem s_X12_findsStep {T : Tm} (hI : I1 T) (h2 : I2 T) {g s : Int} (hs : isSeat T g s) (hown : T 30 (3 * g + s) ≠ -1) {U : Um} (hM : M U (up T 30 (3 * g + s) (-1))) {post : Int32 → Um → Prop} (h1 : ∀ V : Um, M V (up T 30 (3 * g + s) (-1)) → fM U V → stIs V (stpV T g s (T 30 (3 * g + s))) → post 1 V) (h0 : ∀ V : Um, M V (up T 30 (3 * g + s) (-1)) → fM U V → (∀ w, stpV T g s (T 30 (3 * g + s)) w = -1) → post 0 V) : w_X12_findsStep 55 (jI g) (jI s) (jI (T 30 (3 * g + s))) U post := by
  have q1 := seat3 hI hs
  have hn := I_n hI
  unfold w_X12_findsStep
  refine ⟨(5 - 1 : Int).toNat + 1, l_fs3 (T1 := up T 30 (3 * g + s) (-1)) (U0 := U) (fun V1 m1 f1 t1 => ?_) _ 1 U hM fM_rfl (by omega) (by omega) (fun w a b => by omega) (by omega)⟩
  refine ⟨(T 11 2 - 0 : Int).toNat + 1, l_fs26 hI h2 hs hown m1 (fun p p0 p1 e => ?_) (fun e => ?_) _ 0 (by omega) (by omega) (fun j a b => by omega) (by omega)⟩
  · refine ⟨jvp (0) rfl (by omega) (by omega) (by decide), ?_⟩
    intro V2 hV2
    refine ⟨jvp (1) rfl (by omega) (by omega) (by decide), ?_⟩
    intro V3 hV3
    refine h1 V3 (by rw [hV3, hV2]; exact M_xA (M_xA m1)) (by rw [hV3, hV2]; exact fM_trans (fM_trans f1 fM_sA) fM_sA) (fun w w0 w1 => ?_)
    have hne : st1 T g s (T 30 (3 * g + s)) ≠ -1 := by omega
    unfold stpV
    rw [if_pos hne, hV3, uA_sA, if_pos ⟨rfl, rfl⟩, show Int32.toNatClampNeg 1 = 1 from rfl]
    unfold va_up
    by_cases z1 : w = 1
    · rw [if_pos (by omega), if_neg (by omega), if_pos z1, e]
    · rw [if_neg (by omega), hV2, uA_sA, if_pos ⟨rfl, rfl⟩, show Int32.toNatClampNeg 0 = 0 from rfl]
      unfold va_up
      by_cases z0 : w = 0
      · rw [if_pos (by omega), if_pos z0]
        rfl
      · rw [if_neg (by omega), if_neg z0, if_neg z1]
        exact t1 w (by omega) w1
  · have hne : ¬ st1 T g s (T 30 (3 * g + s)) ≠ -1 := fun q => q e
    have lp : ∀ (fu : Nat) (p : Int) (V : Um), M V (up T 30 (3 * g + s) (-1)) → fM U V → 0 ≤ p → p ≤ T 11 2 → (∀ j, 0 ≤ j → j < p → ¬ stQ T g s (T 30 (3 * g + s)) j) → (T 11 2 - p).toNat < fu → w_X12_findsStep_L83 55 (jI g) (jI s) (jI (T 30 (3 * g + s))) post (fun x4_26 x5_27 U_28 => vp_in 0 5 ∧ ∀ (U_29 : Um), U_29 = sA U_28 55 48 (va_up (uA U_28 55 48) (Int32.toNatClampNeg 0) 2) → vp_in 1 5 ∧ ∀ (U_30 : Um), U_30 = sA U_29 55 48 (va_up (uA U_29 55 48) (Int32.toNatClampNeg 1) x4_26) → vp_in 2 5 ∧ ∀ (U_31 : Um), U_31 = sA U_30 55 48 (va_up (uA U_30 55 48) (Int32.toNatClampNeg 2) (x5_27 / 3)) → vp_in 3 5 ∧ ∀ (U_32 : Um), U_32 = sA U_31 55 48 (va_up (uA U_31 55 48) (Int32.toNatClampNeg 3) (x5_27 - x5_27 / 3 * 3)) → post 1 U_32) fu (jI p) V := by
      intro fu
      induction fu with
      | zero => intro p V hV hF a b c d; exact absurd d (Nat.not_lt_zero _)
      | succ fu ih =>
        intro p V hV hF p0 p1 hp hm
        rw [fs83_s]
        unfold b_X12_findsStep_L83
        refine ⟨jvp (2) rfl (by omega) (by omega) (by decide), ?_⟩
        refine br_le (T 11 2) p (rdA (M_A hV 11 7) (2) rfl (by omega) (by omega)) rfl ⟨by omega, by omega⟩ ⟨by omega, by omega⟩ (fun c => ?_) (fun c => ?_)
        · refine h0 V hV hF (fun w => ?_)
          unfold stpV
          rw [if_neg hne, if_pos (show st2 T g s (T 30 (3 * g + s)) = -1 from fst_no (by omega) (fun j a b => hp j a (by omega)))]
        refine ⟨(48 - 0 : Int).toNat + 1, l_fs97 hI h2 hs hown p0 c (U0 := U) (fun cp k V2 m2 f2 k0 k1 ok eK w4 => ?_) (fun V2 m2 f2 nq => ?_) _ 0 V hV hF (by omega) (by omega) (fun j a b => by omega) (by omega)⟩
        · have e2 : st2 T g s (T 30 (3 * g + s)) = p := fst_is p0 c ⟨cp, k, k0, k1, ok⟩ hp
          refine ⟨jvp (0) rfl (by omega) (by omega) (by decide), ?_⟩
          intro W0 hW0
          refine ⟨jvp (1) rfl (by omega) (by omega) (by decide), ?_⟩
          intro W1 hW1
          refine ⟨jvp (2) rfl (by omega) (by omega) (by decide), ?_⟩
          intro W2 hW2
          refine ⟨jvp (3) rfl (by omega) (by omega) (by decide), ?_⟩
          intro W3 hW3
          refine h1 W3 (by rw [hW3, hW2, hW1, hW0]; exact M_xA (M_xA (M_xA (M_xA m2)))) (by rw [hW3, hW2, hW1, hW0]; exact fM_trans (fM_trans (fM_trans (fM_trans f2 fM_sA) fM_sA) fM_sA) fM_sA) (fun w w0 w1 => ?_)
          have dv : jI k / 3 = jI (k / 3) := jdiv rfl rfl ⟨by omega, by omega⟩ ⟨by omega, by omega⟩ (by omega) (by omega)
          have rm : jI k - jI k / 3 * 3 = jI (k % 3) := jrem rfl rfl ⟨by omega, by omega⟩ ⟨by omega, by omega⟩ (by omega) (by omega)
          unfold stpV
          rw [if_neg hne, if_neg (by rw [e2]; omega), e2, eK]
          have c0 : uA W0 55 48 0 = jI 2 ∧ uA W0 55 48 4 = jI (folS T (T 30 (3 * g + s)) p k) := by
            rw [hW0, uA_sA, if_pos ⟨rfl, rfl⟩]
            exact ⟨if_pos rfl, (if_neg (by decide)).trans w4⟩
          have c1 : uA W1 55 48 0 = jI 2 ∧ uA W1 55 48 4 = jI (folS T (T 30 (3 * g + s)) p k) ∧ uA W1 55 48 1 = jI p := by
            rw [hW1, uA_sA, if_pos ⟨rfl, rfl⟩]
            exact ⟨(if_neg (by decide)).trans c0.1, (if_neg (by decide)).trans c0.2, if_pos rfl⟩
          have c2 : uA W2 55 48 0 = jI 2 ∧ uA W2 55 48 4 = jI (folS T (T 30 (3 * g + s)) p k) ∧ uA W2 55 48 1 = jI p ∧ uA W2 55 48 2 = jI (k / 3) := by
            rw [hW2, uA_sA, if_pos ⟨rfl, rfl⟩]
            exact ⟨(if_neg (by decide)).trans c1.1, (if_neg (by decide)).trans c1.2.1, (if_neg (by decide)).trans c1.2.2, (if_pos rfl).trans dv⟩
          have c3 : uA W3 55 48 0 = jI 2 ∧ uA W3 55 48 4 = jI (folS T (T 30 (3 * g + s)) p k) ∧ uA W3 55 48 1 = jI p ∧ uA W3 55 48 2 = jI (k / 3) ∧ uA W3 55 48 3 = jI (k % 3) := by
            rw [hW3, uA_sA, if_pos ⟨rfl, rfl⟩]
            exact ⟨(if_neg (by decide)).trans c2.1, (if_neg (by decide)).trans c2.2.1, (if_neg (by decide)).trans c2.2.2.1, (if_neg (by decide)).trans c2.2.2.2, (if_pos rfl).trans rm⟩
          have hw : w = 0 ∨ w = 1 ∨ w = 2 ∨ w = 3 ∨ w = 4 := by omega
          rcases hw with z | z | z | z | z <;> subst z
          · exact c3.1
          · exact c3.2.2.1
          · exact c3.2.2.2.1
          · exact c3.2.2.2.2
          · exact c3.2.1
        · refine al_i (p + 1) (jadd rfl rfl) ?_
          refine ih (p + 1) V2 m2 f2 (by omega) (by omega) (fun j a b => ?_) (by omega)
          by_cases z : j = p
          · rw [z]
            exact nq
          · exact hp j a (by omega)
    exact ⟨(T 11 2 - 0 : Int).toNat + 1, lp _ 0 V1 m1 f1 (by omega) (by omega) (fun j a b => by omega) (by omega)⟩
theorem s_X12_steps {U : Um} {T : Tm} (hM : M U T) (hI : I1 T) (h2 : I2 T) {a1 a2 a3 : Int32} {g s w : Int} (e1 : a1 = jI g) (e2 : a2 = jI s) (e3 : a3 = jI w) (p0 : r32 g) (p1 : r32 s) (p2 : r32 w) {post : Int32 → Um → Prop} (h : ∀ U2 : Um, M U2 T → fM U U2 → post (jI (stepsS T g s w)) U2) : w_X12_steps 55 a1 a2 a3 U post := by
  unfold w_X12_steps
  subst e1; subst e2; subst e3
  have hn := I_n hI
  intro V hV
  have hMV : M V T := by rw [hV]; exact M_xI hM
  have hFV : fM U V := by rw [hV]; exact fM_sI
  have no : ¬ (isSeat T g s ∧ (0 ≤ w ∧ w ≤ 4) ∧ ¬ gm T g 3 < T 35 0 ∧ T 30 (3 * g + s) ≠ -1) → post (-1) V := by
    intro q
    have := h V hMV hFV
    unfold stepsS at this
    rw [cif_f q] at this
    exact this
  refine s_X12_isSeat hMV hI h2 (g := g) (s := s) rfl rfl p0 p1 (fun c1 => ?_) (fun c1 => br_0 (no (fun q => c1 q.1)))
  refine br_1 ?_
  have q1 := seat3 hI c1
  refine s_X12_isIn (a := w) (lo := 0) (hi := 4) (by exact jlong rfl p2) (by exact rfl) (by exact rfl) ⟨by omega, by omega⟩ ⟨by omega, by omega⟩ ⟨by omega, by omega⟩ (fun c2 => ?_) (fun c2 => br_0 (no (fun q => c2 q.2.1)))
  refine br_1 ?_
  refine s_X12_isPlayed hMV hI h2 (g := g) rfl c1.1.1 c1.1.2 (fun c3 => br_1 (no (fun q => q.2.2.1 c3))) (fun c3 => ?_)
  refine br_0 ?_
  refine s_X12_at (g := g) (s := s) rfl rfl ?_
  have hk := I_k h2 (3 * g + s) (by omega) (by omega)
  have rk : uA V 55 30 (Int32.toNatClampNeg (jI (3 * g + s))) = jI (T 30 (3 * g + s)) := rdA (M_A hMV 30 48) (3 * g + s) rfl (by omega) (by omega)
  refine ⟨jvp (3 * g + s) rfl (by omega) (by omega) (by decide), ?_⟩
  refine br_eq (T 30 (3 * g + s)) (-1) rk rfl ⟨by omega, by omega⟩ ⟨by omega, by omega⟩ (fun c4 => no (fun q => q.2.2.2 c4)) (fun c4 => ?_)
  refine s_X12_at (g := g) (s := s) rfl rfl ?_
  refine ⟨jvp (3 * g + s) rfl (by omega) (by omega) (by decide), ?_⟩
  refine al_i (T 30 (3 * g + s)) rk ?_
  refine s_X12_at (g := g) (s := s) rfl rfl ?_
  refine ⟨jvp (3 * g + s) rfl (by omega) (by omega) (by decide), ?_⟩
  intro V1 hV1
  have m1 := M_sA hMV (E := jI (3 * g + s)) (V := -1) (k := 30) (3 * g + s) (-1) rfl rfl (by omega) (by omega)
  rw [← hV1] at m1
  have c : isSeat T g s ∧ (0 ≤ w ∧ w ≤ 4) ∧ ¬ gm T g 3 < T 35 0 ∧ T 30 (3 * g + s) ≠ -1 := ⟨c1, c2, c3, c4⟩
  have fin : ∀ (V2 W : Um), M V2 (up T 30 (3 * g + s) (-1)) → fM V1 V2 → W = sA V2 55 30 (va_up (uA V2 55 30) (Int32.toNatClampNeg (jI (3 * g + s))) (jI (T 30 (3 * g + s)))) → M W T ∧ fM U W := by
    intro V2 W m2 f2 hW
    have m3 := M_sA m2 (E := jI (3 * g + s)) (V := jI (T 30 (3 * g + s))) (k := 30) (3 * g + s) (T 30 (3 * g + s)) rfl rfl (by omega) (by omega)
    rw [← hW, up_back1] at m3
    refine ⟨m3, ?_⟩
    rw [hW]
    exact fM_trans (fM_trans (fM_trans hFV (by rw [hV1]; exact fM_sA)) f2) fM_sA
  refine s_X12_findsStep hI h2 c1 c4 m1 (fun V2 m2 f2 t2 => ?_) (fun V2 m2 f2 t2 => ?_)
  · refine s_X12_at (g := g) (s := s) rfl rfl ?_
    refine ⟨jvp (3 * g + s) rfl (by omega) (by omega) (by decide), ?_⟩
    intro W hW
    obtain ⟨mW, fW⟩ := fin V2 W m2 f2 hW
    refine br_1 ?_
    refine ⟨jvp w rfl (by omega) (by omega) (by decide), ?_⟩
    have := h W mW fW
    unfold stepsS at this
    rw [cif_t c] at this
    refine pst ?_ this
    rw [hW, uA_sA, if_neg (by omega), jI_nat (by omega) (by omega)]
    exact t2 w (by omega) (by omega)
  · refine s_X12_at (g := g) (s := s) rfl rfl ?_
    refine ⟨jvp (3 * g + s) rfl (by omega) (by omega) (by decide), ?_⟩
    intro W hW
    obtain ⟨mW, fW⟩ := fin V2 W m2 f2 hW
    refine br_0 ?_
    have := h W mW fW
    unfold stepsS at this
    rw [cif_t c, t2 w] at this
    exact this
