/-! the reference, fees and who is nearest -/
set_option maxHeartbeats 8000000 in
theorem l_X12_fees_L41 {U : Um} {T : Tm} (hM : M U T) (hI : I1 T) (h2 : I2 T) {x1 : Int32} {o : Int} {x4 : Int32} {g : Int} (e_x1 : x1 = jI o) (e_x4 : x4 = jI g) {A : Int} (p0 : r32 o) (p1 : 0 ≤ g) (p2 : g < T 11 3) {post : Int64 → Um → Prop} {k_124 : Int64 → Um → Prop} (hk : ∀ (sum : Int) (U2 : Um) , M U2 T → fM U U2 → (sum = A + paysS T o g (gm T g 7)) → k_124 (jL sum) U2) : ∀ (fu : Nat) (sum : Int) (s : Int) (U2 : Um), M U2 T → fM U U2 → (0 ≤ s) → (s ≤ gm T g 7) → (sum = A + paysS T o g s) → (gm T g 7 - s : Int).toNat < fu → w_X12_fees_L41 55 x1 x4 post k_124 fu (jL sum) (jI s) U2 := by
  have hn := I_n hI
  subst e_x4
  subst e_x1
  intro fu
  induction fu with
  | zero => intro sum s V hM2 hF2 i0 i1 i2 hm; exact absurd hm (Nat.not_lt_zero _)
  | succ fu ih =>
    intro sum s V hM2 hF2 i0 i1 i2 hm
    show b_X12_fees_L41 55 (jI o) (jI g) post k_124 (w_X12_fees_L41 55 (jI o) (jI g) post k_124 fu) (jL sum) (jI s) V
    unfold b_X12_fees_L41
    have hg := I_g hI g (by omega) (by omega)
    unfold gOk at hg
    have f1 := I_g hI (g) (by omega) (by omega)
    unfold gOk at f1
    refine s_X12_of hM2 hI h2 (g := g) (k := 7) (by exact rfl) (by exact rfl) (by omega) (by omega) (by omega) (by omega) ?_
    refine br_le (gm T g 7) (s) rfl rfl ⟨by omega, by omega⟩ ⟨by omega, by omega⟩ (fun c2 => ?_) (fun c2 => ?_)
    · skip
      exact hk (sum) _ hM2 hF2 (by (rw [i2, show gm T g 7 = s by omega]))
    · skip
      refine s_X12_at (g := g) (s := s) (by exact rfl) (by exact rfl)  ?_
      refine ⟨jvp ((3 * g + s)) rfl (by omega) (by omega) (by decide), ?_⟩
      have f3 := I_k h2 ((3 * g + s)) (by omega) (by omega)
      refine al_i ((T 30 ((3 * g + s)))) (rdA (M_A hM2 30 48) ((3 * g + s)) rfl (by omega) (by omega)) ?_
      refine br_eq ((T 30 ((3 * g + s)))) ((-1)) rfl rfl ⟨by omega, by omega⟩ ⟨by omega, by omega⟩ (fun c4 => ?_) (fun c4 => ?_)
      · skip
        refine al_i ((s + 1)) (jadd rfl rfl) ?_
        refine ih (sum) ((s + 1)) _ hM2 hF2 (by omega) (by omega) (by (rw [pays_s i0, i2]; unfold payS; (repeat (first | rw [cif_t (by first | assumption | omega)] | rw [cif_f (by first | assumption | omega)])); omega)) (by omega)
      · skip
        intro K_10 hK_10
        refine br_eq (o) ((-1)) rfl rfl ⟨by omega, by omega⟩ ⟨by omega, by omega⟩ (fun c5 => ?_) (fun c5 => ?_)
        · skip
          refine hK_10  ?_
          refine s_X12_feeOf hM2 hI h2 (g := g) (s := s) (o := (T 30 ((3 * g + s)))) (by exact rfl) (by exact rfl) (by exact rfl) (by omega) (by omega) (by omega) (by omega) (by omega) (by omega) (fun V6 m7 g8  => ?_)
          have fr9 := fM_trans hF2 g8
          have f10 := feeS_b hI h2 (g) (s) (((T 30 ((3 * g + s))))) (by omega) (by omega) (by omega) (by omega) (by omega) (by omega)
          have f11 := mx_b hI h2 (g) (s) (((T 30 ((3 * g + s))))) (by omega) (by omega) (by omega) (by omega) (by omega) (by omega)
          have f12 := mx_e T (g) (s) (((T 30 ((3 * g + s)))))
          refine br_l0 (feeS T g s ((T 30 ((3 * g + s))))) ((-9223372036854775808)) rfl rfl ⟨by omega, by omega⟩ ⟨by omega, by omega⟩ (fun c13 => ?_) (fun c13 => ?_)
          · skip
            refine al_l ((sum + 0)) (jLadd rfl rfl) ?_
            refine al_i ((s + 1)) (jadd rfl rfl) ?_
            refine ih ((sum + 0)) ((s + 1)) _ m7 fr9 (by omega) (by omega) (by (rw [pays_s i0, i2]; unfold payS; (repeat (first | rw [cif_t (by first | assumption | omega)] | rw [cif_f (by first | assumption | omega)])); omega)) (by omega)
          · skip
            refine al_l ((sum + feeS T g s ((T 30 ((3 * g + s)))))) (jLadd rfl rfl) ?_
            refine al_i ((s + 1)) (jadd rfl rfl) ?_
            refine ih ((sum + feeS T g s ((T 30 ((3 * g + s)))))) ((s + 1)) _ m7 fr9 (by omega) (by omega) (by (rw [pays_s i0, i2]; unfold payS; (repeat (first | rw [cif_t (by first | assumption | omega)] | rw [cif_f (by first | assumption | omega)])); omega)) (by omega)
        · skip
          refine br_eq ((T 30 ((3 * g + s)))) (o) rfl rfl ⟨by omega, by omega⟩ ⟨by omega, by omega⟩ (fun c14 => ?_) (fun c14 => ?_)
          · skip
            refine hK_10  ?_
            refine s_X12_feeOf hM2 hI h2 (g := g) (s := s) (o := (T 30 ((3 * g + s)))) (by exact rfl) (by exact rfl) (by exact rfl) (by omega) (by omega) (by omega) (by omega) (by omega) (by omega) (fun V15 m16 g17  => ?_)
            have fr18 := fM_trans hF2 g17
            have f19 := feeS_b hI h2 (g) (s) (((T 30 ((3 * g + s))))) (by omega) (by omega) (by omega) (by omega) (by omega) (by omega)
            have f20 := mx_b hI h2 (g) (s) (((T 30 ((3 * g + s))))) (by omega) (by omega) (by omega) (by omega) (by omega) (by omega)
            have f21 := mx_e T (g) (s) (((T 30 ((3 * g + s)))))
            refine br_l0 (feeS T g s ((T 30 ((3 * g + s))))) ((-9223372036854775808)) rfl rfl ⟨by omega, by omega⟩ ⟨by omega, by omega⟩ (fun c22 => ?_) (fun c22 => ?_)
            · skip
              refine al_l ((sum + 0)) (jLadd rfl rfl) ?_
              refine al_i ((s + 1)) (jadd rfl rfl) ?_
              refine ih ((sum + 0)) ((s + 1)) _ m16 fr18 (by omega) (by omega) (by (rw [pays_s i0, i2]; unfold payS; (repeat (first | rw [cif_t (by first | assumption | omega)] | rw [cif_f (by first | assumption | omega)])); omega)) (by omega)
            · skip
              refine al_l ((sum + feeS T g s ((T 30 ((3 * g + s)))))) (jLadd rfl rfl) ?_
              refine al_i ((s + 1)) (jadd rfl rfl) ?_
              refine ih ((sum + feeS T g s ((T 30 ((3 * g + s)))))) ((s + 1)) _ m16 fr18 (by omega) (by omega) (by (rw [pays_s i0, i2]; unfold payS; (repeat (first | rw [cif_t (by first | assumption | omega)] | rw [cif_f (by first | assumption | omega)])); omega)) (by omega)
          · skip
            refine al_i ((s + 1)) (jadd rfl rfl) ?_
            refine ih (sum) ((s + 1)) _ hM2 hF2 (by omega) (by omega) (by (rw [pays_s i0, i2]; unfold payS; (repeat (first | rw [cif_t (by first | assumption | omega)] | rw [cif_f (by first | assumption | omega)])); omega)) (by omega)
set_option maxHeartbeats 8000000 in
theorem l_X12_fees_L27 {U : Um} {T : Tm} (hM : M U T) (hI : I1 T) (h2 : I2 T) {x1 : Int32} {o : Int} (e_x1 : x1 = jI o) (p0 : r32 o) {post : Int64 → Um → Prop} {k_130 : Int64 → Um → Prop} (hk : ∀ (sum : Int) (U2 : Um) , M U2 T → fM U U2 → (sum = paysA T o (T 11 3)) → k_130 (jL sum) U2) : ∀ (fu : Nat) (sum : Int) (g : Int) (U2 : Um), M U2 T → fM U U2 → (0 ≤ g) → (g ≤ T 11 3) → (sum = paysA T o g) → (T 11 3 - g : Int).toNat < fu → w_X12_fees_L27 55 x1 post k_130 fu (jL sum) (jI g) U2 := by
  have hn := I_n hI
  subst e_x1
  intro fu
  induction fu with
  | zero => intro sum g V hM2 hF2 i0 i1 i2 hm; exact absurd hm (Nat.not_lt_zero _)
  | succ fu ih =>
    intro sum g V hM2 hF2 i0 i1 i2 hm
    show b_X12_fees_L27 55 (jI o) post k_130 (w_X12_fees_L27 55 (jI o) post k_130 fu) (jL sum) (jI g) V
    unfold b_X12_fees_L27
    refine ⟨jvp (3) rfl (by omega) (by omega) (by decide), ?_⟩
    refine br_le ((T 11 (3))) (g) (rdA (M_A hM2 11 7) (3) rfl (by omega) (by omega)) rfl ⟨by omega, by omega⟩ ⟨by omega, by omega⟩ (fun c1 => ?_) (fun c1 => ?_)
    · skip
      exact hk (sum) _ hM2 hF2 (by (rw [i2, show T 11 3 = g by omega]))
    · skip
      have f2 := I_g hI (g) (by omega) (by omega)
      unfold gOk at f2
      refine ⟨(gm T g 7 - 0 : Int).toNat + 1, l_X12_fees_L41 hM2 hI h2 (o := o) (g := g) (A := sum) (by exact rfl) (by exact rfl) (by omega) (by omega) (by omega) (fun y3 V5 m6 g7 c4 => ?_)  _ (sum) (0) _ hM2 fM_rfl (by omega) (by omega) (by exact (Int.add_zero _).symm) (by omega)⟩
      · skip
        have fr8 := fM_trans hF2 g7
        refine al_i ((g + 1)) (jadd rfl rfl) ?_
        refine ih (y3) ((g + 1)) _ m6 fr8 (by omega) (by omega) (by (rw [paysA_s i0, ← i2]; assumption)) (by omega)
set_option maxHeartbeats 8000000 in
theorem s_X12_fees {U : Um} {T : Tm} (hM : M U T) (hI : I1 T) (h2 : I2 T) {a1 : Int32} {o : Int} (e_a1 : a1 = jI o) (p0 : r32 o) {post : Int64 → Um → Prop} (h : ∀ U2 : Um, M U2 T → fM U U2 → post (jL (feesS T o)) U2) : w_X12_fees 55 a1 U post := by
  unfold w_X12_fees
  subst e_a1
  have hn := I_n hI
  intro U_1 hU_1
  have m1 : M U_1 T := by rw [hU_1]; exact M_xI hM
  have fr2 : fM U U_1 := by rw [hU_1]; exact fM_trans fM_rfl fM_sI
  intro K_2 hK_2
  refine br_eq (o) ((-1)) rfl rfl ⟨by omega, by omega⟩ ⟨by omega, by omega⟩ (fun c3 => ?_) (fun c3 => ?_)
  · skip
    refine hK_2 _ ?_
    refine ⟨(T 11 3 - 0 : Int).toNat + 1, l_X12_fees_L27 m1 hI h2 (o := o) (by exact rfl) (by omega) (fun y4 V6 m7 g8 c5 => ?_)  _ (0) (0) _ m1 fM_rfl (by omega) (by omega) (by rfl) (by omega)⟩
    · skip
      have fr9 := fM_trans fr2 g8
      have q : (feesS T o : Int) = y4 := by (unfold feesS; (repeat (first | rw [cif_t (by first | assumption | omega)] | rw [cif_f (by first | assumption | omega)])); try omega)
      have h := h _ m7 fr9
      rw [q] at h
      exact psl rfl h
  · skip
    refine s_X12_isOne m1 hI h2 (o := o) (by exact rfl) (by omega) (fun c10 => ?_) (fun c10 => ?_)
    · skip
      refine br_1 ?_
      refine hK_2 _ ?_
      refine ⟨(T 11 3 - 0 : Int).toNat + 1, l_X12_fees_L27 m1 hI h2 (o := o) (by exact rfl) (by omega) (fun y11 V13 m14 g15 c12 => ?_)  _ (0) (0) _ m1 fM_rfl (by omega) (by omega) (by rfl) (by omega)⟩
      · skip
        have fr16 := fM_trans fr2 g15
        have q : (feesS T o : Int) = y11 := by (unfold feesS; (repeat (first | rw [cif_t (by first | assumption | omega)] | rw [cif_f (by first | assumption | omega)])); try omega)
        have h := h _ m14 fr16
        rw [q] at h
        exact psl rfl h
    · skip
      refine br_0 ?_
      have q : (feesS T o : Int) = (-9223372036854775808) := by (unfold feesS; (repeat (first | rw [cif_t (by first | assumption | omega)] | rw [cif_f (by first | assumption | omega)])); try omega)
      have h := h _ m1 fr2
      rw [q] at h
      exact psl rfl h
set_option maxHeartbeats 8000000 in
theorem s_X12_fee {U : Um} {T : Tm} (hM : M U T) (hI : I1 T) (h2 : I2 T) {a1 : Int32} {g : Int} {a2 : Int32} {s : Int} {a3 : Int32} {o : Int} (e_a1 : a1 = jI g) (e_a2 : a2 = jI s) (e_a3 : a3 = jI o) (p0 : r32 g) (p1 : r32 s) (p2 : r32 o) {post : Int64 → Um → Prop} (h : ∀ U2 : Um, M U2 T → fM U U2 → post (jL (cif (isSeat T g s ∧ isOne T o) (feeS T g s o) (-9223372036854775808))) U2) : w_X12_fee 55 a1 a2 a3 U post := by
  unfold w_X12_fee
  subst e_a1
  subst e_a2
  subst e_a3
  have hn := I_n hI
  intro U_1 hU_1
  have m1 : M U_1 T := by rw [hU_1]; exact M_xI hM
  have fr2 : fM U U_1 := by rw [hU_1]; exact fM_trans fM_rfl fM_sI
  refine s_X12_isSeat m1 hI h2 (g := g) (s := s) (by exact rfl) (by exact rfl) (by omega) (by omega) (fun c3 => ?_) (fun c3 => ?_)
  · skip
    have f4 := I_g hI (g) (by omega) (by omega)
    unfold gOk at f4
    refine br_1 ?_
    refine s_X12_isOne m1 hI h2 (o := o) (by exact rfl) (by omega) (fun c5 => ?_) (fun c5 => ?_)
    · skip
      refine br_1 ?_
      refine s_X12_feeOf m1 hI h2 (g := g) (s := s) (o := o) (by exact rfl) (by exact rfl) (by exact rfl) (by omega) (by omega) (by omega) (by omega) (by omega) (by omega) (fun V6 m7 g8  => ?_)
      have fr9 := fM_trans fr2 g8
      have f10 := feeS_b hI h2 (g) (s) (o) (by omega) (by omega) (by omega) (by omega) (by omega) (by omega)
      have f11 := mx_b hI h2 (g) (s) (o) (by omega) (by omega) (by omega) (by omega) (by omega) (by omega)
      have f12 := mx_e T (g) (s) (o)
      have q : (cif (isSeat T g s ∧ isOne T o) (feeS T g s o) (-9223372036854775808) : Int) = feeS T g s o := by (repeat (first | rw [cif_t (by first | assumption | omega)] | rw [cif_f (by first | assumption | omega)]))
      have h := h _ m7 fr9
      rw [q] at h
      exact psl rfl h
    · skip
      refine br_0 ?_
      have q : (cif (isSeat T g s ∧ isOne T o) (feeS T g s o) (-9223372036854775808) : Int) = (-9223372036854775808) := by (repeat (first | rw [cif_t (by first | assumption | omega)] | rw [cif_f (by first | assumption | omega)]))
      have h := h _ m1 fr2
      rw [q] at h
      exact psl rfl h
  · skip
    refine br_0 ?_
    have q : (cif (isSeat T g s ∧ isOne T o) (feeS T g s o) (-9223372036854775808) : Int) = (-9223372036854775808) := by (repeat (first | rw [cif_t (by first | assumption | omega)] | rw [cif_f (by first | assumption | omega)]))
    have h := h _ m1 fr2
    rw [q] at h
    exact psl rfl h
set_option maxHeartbeats 8000000 in
theorem l_X12_able_L21 {U : Um} {T : Tm} (hM : M U T) (hI : I1 T) (h2 : I2 T) {x1 : Int32} {g : Int} {x2 : Int32} {s : Int} (e_x1 : x1 = jI g) (e_x2 : x2 = jI s) (p0 : isSeat T g s) {post : Int32 → Um → Prop} {k_63 : Int32 → Um → Prop} (hk : ∀ (b : Int32) , (∀ f, 0 ≤ f → f < 32 → (bt b f ↔ f < T 11 2 ∧ whyF T g s f = 0)) → k_63 b U) : ∀ (fu : Nat) (b : Int32) (k : Int), (0 ≤ k) → (k ≤ T 11 2) → (∀ f, 0 ≤ f → f < 32 → (bt b f ↔ f < k ∧ whyF T g s f = 0)) → (T 11 2 - k : Int).toNat < fu → w_X12_able_L21 55 x1 x2 post k_63 fu b (jI k) U := by
  have hn := I_n hI
  subst e_x2
  subst e_x1
  intro fu
  induction fu with
  | zero => intro b k i0 i1 i2 hm; exact absurd hm (Nat.not_lt_zero _)
  | succ fu ih =>
    intro b k i0 i1 i2 hm
    show b_X12_able_L21 55 (jI g) (jI s) post k_63 (w_X12_able_L21 55 (jI g) (jI s) post k_63 fu) b (jI k) U
    unfold b_X12_able_L21
    have hg := I_g hI g (by omega) (by omega)
    unfold gOk at hg
    refine ⟨jvp (2) rfl (by omega) (by omega) (by decide), ?_⟩
    refine br_le ((T 11 (2))) (k) (rdA (M_A hM 11 7) (2) rfl (by omega) (by omega)) rfl ⟨by omega, by omega⟩ ⟨by omega, by omega⟩ (fun c1 => ?_) (fun c1 => ?_)
    · skip
      exact hk (b) (by (rw [show T 11 2 = k by omega]; exact i2))
    · skip
      refine s_X12_whyOf hM hI h2 (g := g) (s := s) (o := k) (by exact rfl) (by exact rfl) (by exact rfl) (by omega) (by omega) (by omega) ?_
      have f2 := whyF_b T (g) (s) (k)
      refine al_if (whyF T g s k) (0) rfl rfl ⟨by omega, by omega⟩ ⟨by omega, by omega⟩ (fun c3 => ?_) (fun c3 => ?_)
      · skip
        refine s_one1 ?_
        intro x3_9 hx3_9
        refine al_i ((k + 1)) (jadd rfl rfl) ?_
        refine ih (x3_9) ((k + 1)) (by omega) (by omega) (by (intro f f0 f1; rw [hx3_9]; first | (rw [bt_or rfl (by omega) (by omega) f0 f1, i2 f f0 f1]; grind) | (rw [sh0, i2 f f0 f1]; grind))) (by omega)
      · skip
        refine s_one0 ?_
        intro x3_9 hx3_9
        refine al_i ((k + 1)) (jadd rfl rfl) ?_
        refine ih (x3_9) ((k + 1)) (by omega) (by omega) (by (intro f f0 f1; rw [hx3_9]; first | (rw [bt_or rfl (by omega) (by omega) f0 f1, i2 f f0 f1]; grind) | (rw [sh0, i2 f f0 f1]; grind))) (by omega)
set_option maxHeartbeats 8000000 in
theorem s_X12_able {U : Um} {T : Tm} (hM : M U T) (hI : I1 T) (h2 : I2 T) {a1 : Int32} {g : Int} {a2 : Int32} {s : Int} (e_a1 : a1 = jI g) (e_a2 : a2 = jI s) (p0 : r32 g) (p1 : r32 s) {post : Int32 → Um → Prop} (h : ∀ U2 : Um, M U2 T → fM U U2 → post (jI (cif (isSeat T g s) (ableM T g s).toInt (-1))) U2) : w_X12_able 55 a1 a2 U post := by
  unfold w_X12_able
  subst e_a1
  subst e_a2
  have hn := I_n hI
  intro U_1 hU_1
  have m1 : M U_1 T := by rw [hU_1]; exact M_xI hM
  have fr2 : fM U U_1 := by rw [hU_1]; exact fM_trans fM_rfl fM_sI
  refine s_X12_isSeat m1 hI h2 (g := g) (s := s) (by exact rfl) (by exact rfl) (by omega) (by omega) (fun c3 => ?_) (fun c3 => ?_)
  · skip
    have f4 := I_g hI (g) (by omega) (by omega)
    unfold gOk at f4
    refine br_1 ?_
    refine ⟨(T 11 2 - 0 : Int).toNat + 1, l_X12_able_L21 m1 hI h2 (g := g) (s := s) (by exact rfl) (by exact rfl) (by omega) (fun y5 c6 => ?_)  _ (0) (0) (by omega) (by omega) (by (intro f f0 f1; exact ⟨fun q => absurd q bt_0, fun q => by omega⟩)) (by omega)⟩
    · skip
      have q : (cif (isSeat T g s) (ableM T g s).toInt (-1) : Int) = (y5.toInt) := by ((repeat (first | rw [cif_t (by first | assumption | omega)] | rw [cif_f (by first | assumption | omega)])); try exact ableM_is hI (by assumption))
      have h := h _ m1 fr2
      rw [q] at h
      exact pst (jI_of y5).symm h
  · skip
    refine br_0 ?_
    have q : (cif (isSeat T g s) (ableM T g s).toInt (-1) : Int) = (-1) := by ((repeat (first | rw [cif_t (by first | assumption | omega)] | rw [cif_f (by first | assumption | omega)])); try exact ableM_is hI (by assumption))
    have h := h _ m1 fr2
    rw [q] at h
    exact pst rfl h
set_option maxHeartbeats 8000000 in
theorem l_X12_best_L27 {U : Um} {T : Tm} (hM : M U T) (hI : I1 T) (h2 : I2 T) {x1 : Int32} {g : Int} {x2 : Int32} {s : Int} (e_x1 : x1 = jI g) (e_x2 : x2 = jI s) (p0 : isSeat T g s) {post : Int32 → Um → Prop} {k_133 : Int32 → Um → Prop} (hk : ∀ (best : Int) (U2 : Um) , M U2 T → fM U U2 → (bestP T g s (T 11 2) best) → k_133 (jI best) U2) : ∀ (fu : Nat) (best : Int) (least : Int) (cheap : Int) (k : Int) (U2 : Um), M U2 T → fM U U2 → (0 ≤ k) → (k ≤ T 11 2) → (bestP T g s k best) → (best < k ∧ -1 ≤ best) → (((best = -1 ∧ least = 0 ∧ cheap = 0) ∨ (0 ≤ best ∧ least = extS T g s best ∧ cheap = mxS T g s best))) → (T 11 2 - k : Int).toNat < fu → w_X12_best_L27 55 x1 x2 post k_133 fu (jI best) (jI least) (jL cheap) (jI k) U2 := by
  have hn := I_n hI
  subst e_x2
  subst e_x1
  intro fu
  induction fu with
  | zero => intro best least cheap k V hM2 hF2 i0 i1 i2 i3 i4 hm; exact absurd hm (Nat.not_lt_zero _)
  | succ fu ih =>
    intro best least cheap k V hM2 hF2 i0 i1 i2 i3 i4 hm
    show b_X12_best_L27 55 (jI g) (jI s) post k_133 (w_X12_best_L27 55 (jI g) (jI s) post k_133 fu) (jI best) (jI least) (jL cheap) (jI k) V
    unfold b_X12_best_L27
    have hg := I_g hI g (by omega) (by omega)
    unfold gOk at hg
    have hi := best_i hI h2 p0 i4 (by omega)
    refine ⟨jvp (2) rfl (by omega) (by omega) (by decide), ?_⟩
    refine br_le ((T 11 (2))) (k) (rdA (M_A hM2 11 7) (2) rfl (by omega) (by omega)) rfl ⟨by omega, by omega⟩ ⟨by omega, by omega⟩ (fun c1 => ?_) (fun c1 => ?_)
    · skip
      exact hk (best) _ hM2 hF2 (by (rw [show T 11 2 = k by omega]; exact i2))
    · skip
      refine s_X12_whyOf hM2 hI h2 (g := g) (s := s) (o := k) (by exact rfl) (by exact rfl) (by exact rfl) (by omega) (by omega) (by omega) ?_
      have f2 := whyF_b T (g) (s) (k)
      refine br_eq (whyF T g s k) (0) rfl rfl ⟨by omega, by omega⟩ ⟨by omega, by omega⟩ (fun c3 => ?_) (fun c3 => ?_)
      · skip
        refine s_X12_extraOf hM2 hI h2 (g := g) (s := s) (o := k) (by exact rfl) (by exact rfl) (by exact rfl) (by omega) (by omega) (by omega) (by omega) (by omega) (by omega) (fun V4 m5 g6  => ?_)
        have fr7 := fM_trans hF2 g6
        have f8 := extS_b hI (g) (s) (k) (by omega) (by omega)
        have f9 := I_g hI (g) (by omega) (by omega)
        unfold gOk at f9
        refine s_X12_feeOf m5 hI h2 (g := g) (s := s) (o := k) (by exact rfl) (by exact rfl) (by exact rfl) (by omega) (by omega) (by omega) (by omega) (by omega) (by omega) (fun V10 m11 g12  => ?_)
        have fr13 := fM_trans fr7 g12
        have f14 := feeS_b hI h2 (g) (s) (k) (by omega) (by omega) (by omega) (by omega) (by omega) (by omega)
        have f15 := mx_b hI h2 (g) (s) (k) (by omega) (by omega) (by omega) (by omega) (by omega) (by omega)
        have f16 := mx_e T (g) (s) (k)
        refine al_lgi (feeS T g s k) ((-9223372036854775808)) rfl rfl ⟨by omega, by omega⟩ ⟨by omega, by omega⟩ (9223372036854775807) (feeS T g s k) rfl rfl ?_
        intro K_11 hK_11
        refine br_eq (best) ((-1)) rfl rfl ⟨by omega, by omega⟩ ⟨by omega, by omega⟩ (fun c17 => ?_) (fun c17 => ?_)
        · skip
          refine hK_11  ?_
          refine al_i (k) rfl ?_
          refine al_i ((k + 1)) (jadd rfl rfl) ?_
          refine ih (k) (extS T g s k) ((if (feeS T g s k) = ((-9223372036854775808)) then (9223372036854775807) else (feeS T g s k) : Int)) ((k + 1)) _ m11 fr13 (by omega) (by omega) (by first | exact best_no i0 i2 (by assumption) | exact best_new i0 i2 (by assumption) (Or.inl (by assumption)) | exact best_new i0 i2 (by assumption) (Or.inr ((best_iff hI h2 p0 i4 (by omega) (by assumption) (by omega) (by omega)).mpr (by omega))) | exact best_old i0 i2 (by assumption) (fun q => by have q2 := (best_iff hI h2 p0 i4 (by omega) (by assumption) (by omega) (by omega)).mp q; omega)) (by omega) (by first | exact i4 | exact Or.inr ⟨i0, rfl, rfl⟩) (by omega)
        · skip
          refine br_lt (least) (extS T g s k) rfl rfl ⟨by omega, by omega⟩ ⟨by omega, by omega⟩ (fun c18 => ?_) (fun c18 => ?_)
          · skip
            refine al_i ((k + 1)) (jadd rfl rfl) ?_
            refine ih (best) (least) (cheap) ((k + 1)) _ m11 fr13 (by omega) (by omega) (by first | exact best_no i0 i2 (by assumption) | exact best_new i0 i2 (by assumption) (Or.inl (by assumption)) | exact best_new i0 i2 (by assumption) (Or.inr ((best_iff hI h2 p0 i4 (by omega) (by assumption) (by omega) (by omega)).mpr (by omega))) | exact best_old i0 i2 (by assumption) (fun q => by have q2 := (best_iff hI h2 p0 i4 (by omega) (by assumption) (by omega) (by omega)).mp q; omega)) (by omega) (by first | exact i4 | exact Or.inr ⟨i0, rfl, rfl⟩) (by omega)
          · skip
            refine br_eq (extS T g s k) (least) rfl rfl ⟨by omega, by omega⟩ ⟨by omega, by omega⟩ (fun c19 => ?_) (fun c19 => ?_)
            · skip
              refine br_lg ((if (feeS T g s k) = ((-9223372036854775808)) then (9223372036854775807) else (feeS T g s k) : Int)) (cheap) rfl rfl ⟨by omega, by omega⟩ ⟨by omega, by omega⟩ (fun c20 => ?_) (fun c20 => ?_)
              · skip
                refine hK_11  ?_
                refine al_i (k) rfl ?_
                refine al_i ((k + 1)) (jadd rfl rfl) ?_
                refine ih (k) (extS T g s k) ((if (feeS T g s k) = ((-9223372036854775808)) then (9223372036854775807) else (feeS T g s k) : Int)) ((k + 1)) _ m11 fr13 (by omega) (by omega) (by first | exact best_no i0 i2 (by assumption) | exact best_new i0 i2 (by assumption) (Or.inl (by assumption)) | exact best_new i0 i2 (by assumption) (Or.inr ((best_iff hI h2 p0 i4 (by omega) (by assumption) (by omega) (by omega)).mpr (by omega))) | exact best_old i0 i2 (by assumption) (fun q => by have q2 := (best_iff hI h2 p0 i4 (by omega) (by assumption) (by omega) (by omega)).mp q; omega)) (by omega) (by first | exact i4 | exact Or.inr ⟨i0, rfl, rfl⟩) (by omega)
              · skip
                refine al_i ((k + 1)) (jadd rfl rfl) ?_
                refine ih (best) (least) (cheap) ((k + 1)) _ m11 fr13 (by omega) (by omega) (by first | exact best_no i0 i2 (by assumption) | exact best_new i0 i2 (by assumption) (Or.inl (by assumption)) | exact best_new i0 i2 (by assumption) (Or.inr ((best_iff hI h2 p0 i4 (by omega) (by assumption) (by omega) (by omega)).mpr (by omega))) | exact best_old i0 i2 (by assumption) (fun q => by have q2 := (best_iff hI h2 p0 i4 (by omega) (by assumption) (by omega) (by omega)).mp q; omega)) (by omega) (by first | exact i4 | exact Or.inr ⟨i0, rfl, rfl⟩) (by omega)
            · skip
              refine hK_11  ?_
              refine al_i (k) rfl ?_
              refine al_i ((k + 1)) (jadd rfl rfl) ?_
              refine ih (k) (extS T g s k) ((if (feeS T g s k) = ((-9223372036854775808)) then (9223372036854775807) else (feeS T g s k) : Int)) ((k + 1)) _ m11 fr13 (by omega) (by omega) (by first | exact best_no i0 i2 (by assumption) | exact best_new i0 i2 (by assumption) (Or.inl (by assumption)) | exact best_new i0 i2 (by assumption) (Or.inr ((best_iff hI h2 p0 i4 (by omega) (by assumption) (by omega) (by omega)).mpr (by omega))) | exact best_old i0 i2 (by assumption) (fun q => by have q2 := (best_iff hI h2 p0 i4 (by omega) (by assumption) (by omega) (by omega)).mp q; omega)) (by omega) (by first | exact i4 | exact Or.inr ⟨i0, rfl, rfl⟩) (by omega)
      · skip
        refine al_i ((k + 1)) (jadd rfl rfl) ?_
        refine ih (best) (least) (cheap) ((k + 1)) _ hM2 hF2 (by omega) (by omega) (by first | exact best_no i0 i2 (by assumption) | exact best_new i0 i2 (by assumption) (Or.inl (by assumption)) | exact best_new i0 i2 (by assumption) (Or.inr ((best_iff hI h2 p0 i4 (by omega) (by assumption) (by omega) (by omega)).mpr (by omega))) | exact best_old i0 i2 (by assumption) (fun q => by have q2 := (best_iff hI h2 p0 i4 (by omega) (by assumption) (by omega) (by omega)).mp q; omega)) (by omega) (by first | exact i4 | exact Or.inr ⟨i0, rfl, rfl⟩) (by omega)
set_option maxHeartbeats 8000000 in
theorem s_X12_best {U : Um} {T : Tm} (hM : M U T) (hI : I1 T) (h2 : I2 T) {a1 : Int32} {g : Int} {a2 : Int32} {s : Int} (e_a1 : a1 = jI g) (e_a2 : a2 = jI s) (p0 : r32 g) (p1 : r32 s) {post : Int32 → Um → Prop} (h : ∀ U2 : Um, M U2 T → fM U U2 → post (jI (cif (isSeat T g s) (bestS T g s) (-1))) U2) : w_X12_best 55 a1 a2 U post := by
  unfold w_X12_best
  subst e_a1
  subst e_a2
  have hn := I_n hI
  intro U_1 hU_1
  have m1 : M U_1 T := by rw [hU_1]; exact M_xI hM
  have fr2 : fM U U_1 := by rw [hU_1]; exact fM_trans fM_rfl fM_sI
  refine s_X12_isSeat m1 hI h2 (g := g) (s := s) (by exact rfl) (by exact rfl) (by omega) (by omega) (fun c3 => ?_) (fun c3 => ?_)
  · skip
    have f4 := I_g hI (g) (by omega) (by omega)
    unfold gOk at f4
    refine br_1 ?_
    refine ⟨(T 11 2 - 0 : Int).toNat + 1, l_X12_best_L27 m1 hI h2 (g := g) (s := s) (by exact rfl) (by exact rfl) (by omega) (fun y5 V7 m8 g9 c6 => ?_)  _ ((-1)) (0) (0) (0) _ m1 fM_rfl (by omega) (by omega) (by exact best_0) (by omega) (by exact Or.inl ⟨rfl, rfl, rfl⟩) (by omega)⟩
    · skip
      have fr10 := fM_trans fr2 g9
      have q : (cif (isSeat T g s) (bestS T g s) (-1) : Int) = y5 := by ((repeat (first | rw [cif_t (by first | assumption | omega)] | rw [cif_f (by first | assumption | omega)])); try exact bestS_is (by assumption))
      have h := h _ m8 fr10
      rw [q] at h
      exact pst rfl h
  · skip
    refine br_0 ?_
    have q : (cif (isSeat T g s) (bestS T g s) (-1) : Int) = (-1) := by ((repeat (first | rw [cif_t (by first | assumption | omega)] | rw [cif_f (by first | assumption | omega)])); try exact bestS_is (by assumption))
    have h := h _ m1 fr2
    rw [q] at h
    exact pst rfl h
