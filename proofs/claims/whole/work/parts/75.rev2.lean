theorem l_review276 {T : Tm} (hI : I1 T) {u d : Int} {x3 : Int32} {post : Int32 → Um → Prop} {k_315 : Um → Prop} {U0 : Um} (hb : ∀ o, 0 ≤ o → o < T 11 2 → r32 (grdS T u d o)) (hk : ∀ V : Um, M V (revT T u d) → fM U0 V → k_315 V) : ∀ (fu : Nat) (o : Int) (U : Um), M U (blk (blk T 32 0 o (grdS T u d)) 33 0 o (fun _ => 0)) → fM U0 U → 0 ≤ o → o ≤ T 11 2 → grIs U T u d (T 11 2) → (T 11 2 - o).toNat < fu → w_X12_review_L276 55 x3 post k_315 fu (jI o) U := by
  intro fu
  have hn := I_n hI
  induction fu with
  | zero => intro o U hM hF h3 h4 h5 h6; exact absurd h6 (Nat.not_lt_zero _)
  | succ fu ih =>
    intro o U hM hF h3 h4 h5 h6
    show b_X12_review_L276 55 x3 post k_315 (w_X12_review_L276 55 x3 post k_315 fu) (jI o) U
    unfold b_X12_review_L276
    refine ⟨jvp (2) rfl (by omega) (by omega) (by decide), ?_⟩
    refine br_le (T 11 2) o (rdA (M_A hM 11 7) (2) rfl (by omega) (by omega)) rfl ⟨by omega, by omega⟩ ⟨by omega, by omega⟩ (fun c => ?_) (fun c => ?_)
    · have e : T 11 2 = o := by omega
      refine hk U ?_ hF
      unfold revT
      rw [e]
      exact hM
    refine ⟨jvp o rfl h3 (by omega) (by decide), jvp o rfl h3 (by omega) (by decide), ?_⟩
    intro V hV
    have tn : Int32.toNatClampNeg (jI o) = o.toNat := jI_nat h3 (by omega)
    have m1 : M V (up (blk (blk T 32 0 o (grdS T u d)) 33 0 o (fun _ => 0)) 32 o (grdS T u d o)) := by
      rw [hV]
      exact M_sA hM o (grdS T u d o) rfl (by rw [tn]; exact h5 o h3 c) h3 (by omega)
    refine ⟨jvp o rfl h3 (by omega) (by decide), ?_⟩
    intro Wm hW
    have m2 : M Wm (up (up (blk (blk T 32 0 o (grdS T u d)) 33 0 o (fun _ => 0)) 32 o (grdS T u d o)) 33 o 0) := by
      rw [hW]
      exact M_sA m1 o 0 rfl rfl h3 (by omega)
    refine al_i (o + 1) (jadd rfl rfl) ?_
    have z := blk_2 (T := T) (k := 32) (k2 := 33) (lo := 0) (lo2 := 0) (n := o) (F := grdS T u d) (G := fun _ => 0) h3 (by omega)
    rw [Int.zero_add] at z
    rw [z] at m2
    refine ih (o + 1) Wm m2 (by rw [hW, hV]; exact fM_trans (fM_trans hF fM_sA) fM_sA) (by omega) (by omega) (fun j j0 j1 => ?_) (by omega)
    rw [hW, uA_sA, if_neg (by omega), hV, uA_sA, if_neg (by omega)]
    exact h5 j j0 j1
theorem s_X12_review {U : Um} {T : Tm} (hM : M U T) (hI : I1 T) (h2 : I2 T) {a1 a2 : Int32} {u d : Int} (e1 : a1 = jI u) (e2 : a2 = jI d) (p0 : r32 u) (p1 : r32 d) (p2 : 0 ≤ T 38 0) (p3 : T 38 0 ≤ 8) {post : Int32 → Um → Prop} (h : ∀ U2 : Um, M U2 (cif ((0 ≤ u ∧ u ≤ 9) ∧ 0 ≤ d ∧ d ≤ 9) (revT (keepT T) u d) T) → fM U U2 → post (jI (cif ((0 ≤ u ∧ u ≤ 9) ∧ 0 ≤ d ∧ d ≤ 9) (revN (keepT T) u d (T 11 2)) (-1))) U2) : w_X12_review 55 a1 a2 U post := by
  unfold w_X12_review
  subst e1; subst e2
  have hn := I_n hI
  intro V hV
  have hMV : M V T := by rw [hV]; exact M_xI hM
  have hFV : fM U V := by rw [hV]; exact fM_sI
  have no : ¬ ((0 ≤ u ∧ u ≤ 9) ∧ 0 ≤ d ∧ d ≤ 9) → post (-1) V := by
    intro q
    have := h V (by rw [cif_f q]; exact hMV) hFV
    rw [cif_f q] at this
    exact this
  refine s_X12_isIn (a := u) (lo := 0) (hi := 9) (by exact jlong rfl p0) (by exact rfl) (by exact rfl) ⟨by omega, by omega⟩ ⟨by omega, by omega⟩ ⟨by omega, by omega⟩ (fun c1 => ?_) (fun c1 => br_0 (no (fun q => c1 q.1)))
  refine br_1 ?_
  refine s_X12_isIn (a := d) (lo := 0) (hi := 9) (by exact jlong rfl p1) (by exact rfl) (by exact rfl) ⟨by omega, by omega⟩ ⟨by omega, by omega⟩ ⟨by omega, by omega⟩ (fun c2 => ?_) (fun c2 => br_0 (no (fun q => c2 q.2)))
  refine br_1 ?_
  have hKI : I1 (keepT T) := I1_keep hI
  have hKJ : I2 (keepT T) := I2_keep h2
  refine s_X12_keeps hMV p2 p3 (fun V1 m1 f1 => ?_)
  refine ⟨(T 11 2 - 0 : Int).toNat + 1, ?_⟩
  refine l_review40 hKI hKJ (u := u) (d := d) p0 p1 (U0 := U) (fun V2 m2 f2 g2 => ?_) _ 0 V1 m1 (fM_trans hFV f1) (by omega) (show (0 : Int) ≤ T 11 2 by omega) (fun j a b => by omega) (show (T 11 2 - 0).toNat < _ by omega)
  refine ⟨(T 11 2 - 0 : Int).toNat + 1, ?_⟩
  refine l_review276 hKI (u := u) (d := d) (U0 := U) (fun o o0 o1 => ?_) (fun V3 m3 f3 => ?_) _ 0 V2 (by rw [blk_0, blk_0]; exact m2) f2 (by omega) (show (0 : Int) ≤ T 11 2 by omega) g2 (show (T 11 2 - 0).toNat < _ by omega)
  · have := I_r hKJ o o0 o1
    unfold grdS cif
    repeat' split
    all_goals omega
  · have c : (0 ≤ u ∧ u ≤ 9) ∧ 0 ≤ d ∧ d ≤ 9 := ⟨c1, c2⟩
    have := h V3 (by rw [cif_t c]; exact m3) f3
    rw [cif_t c] at this
    exact this
