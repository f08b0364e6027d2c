/-! the reference's review -/
def grIs (U : Um) (T : Tm) (u d n : Int) : Prop := ∀ j : Int, 0 ≤ j → j < n → uA U 55 49 j.toNat = jI (grdS T u d j)
theorem l_review40 {T : Tm} (hI : I1 T) (h2 : I2 T) {u d : Int} (hu : r32 u) (hd : r32 d) {post : Int32 → Um → Prop} {k_273 : Int32 → Um → Prop} {U0 : Um} (hk : ∀ V : Um, M V T → fM U0 V → grIs V T u d (T 11 2) → k_273 (jI (revN T u d (T 11 2))) V) : ∀ (fu : Nat) (o : Int) (U : Um), M U T → fM U0 U → 0 ≤ o → o ≤ T 11 2 → grIs U T u d o → (T 11 2 - o).toNat < fu → w_X12_review_L40 55 (jI u) (jI d) post k_273 fu (jI (revN T u d o)) (jI o) U := by
  intro fu
  have hn := I_n hI
  induction fu with
  | zero => intro o U hM hF h3 h4 h5 h6; exact absurd h6 (Nat.not_lt_zero _)
  | succ fu ih =>
    intro o U hM hF h3 h4 h5 h6
    show b_X12_review_L40 55 (jI u) (jI d) post k_273 (w_X12_review_L40 55 (jI u) (jI d) post k_273 fu) (jI (revN T u d o)) (jI o) U
    unfold b_X12_review_L40
    refine ⟨jvp (2) rfl (by omega) (by omega) (by decide), ?_⟩
    refine br_le (T 11 2) o (rdA (M_A hM 11 7) (2) rfl (by omega) (by omega)) rfl ⟨by omega, by omega⟩ ⟨by omega, by omega⟩ (fun c => ?_) (fun c => ?_)
    · have e : T 11 2 = o := by omega
      rw [e] at hk
      exact hk U hM hF h5
    have ho := I_r h2 o h3 c
    have hcb := cnt_b (p := fun o => grdS T u d o ≠ T 32 o) h3
    refine ⟨(T 11 2 - 0 : Int).toNat + 1, l_X12_review_L60 hM hI h2 (u := u) (d := d) (n := revN T u d o) (o := o) rfl rfl rfl rfl h3 c (fun x y e1 e2 => ?_) _ 0 0 0 (by omega) (by omega) (by rw [cnt_0 (by decide)]) (by rw [cnt_0 (by decide)]) (by omega)⟩
    have hx := cnt_b (p := upP T o) (n := T 11 2) (by omega)
    have hy := cnt_b (p := dnP T o) (n := T 11 2) (by omega)
    refine ⟨jvp o rfl h3 (by omega) (by decide), jvp o rfl h3 (by omega) (by decide), ?_⟩
    intro V hV
    have hMV : M V T := by rw [hV]; exact M_xA hM
    have hFV : fM U0 V := by rw [hV]; exact fM_trans hF fM_sA
    have tn : Int32.toNatClampNeg (jI o) = o.toNat := jI_nat h3 (by omega)
    have r32o : uA U 55 32 (Int32.toNatClampNeg (jI o)) = jI (T 32 o) := rdA (M_A hM 32 10) o rfl h3 (by omega)
    have cV : uA V 55 49 o.toNat = jI (T 32 o) := by
      rw [hV, uA_sA, if_pos ⟨rfl, rfl⟩, r32o, tn]
      exact if_pos rfl
    have oV : ∀ j : Int, 0 ≤ j → j < o → uA V 55 49 j.toNat = jI (grdS T u d j) := by
      intro j j0 j1
      rw [hV, uA_sA, if_pos ⟨rfl, rfl⟩, tn]
      unfold va_up
      rw [if_neg (by omega)]
      exact h5 j j0 j1
    have rest : ∀ K : Um → Prop, (∀ (U_38 : Um), (vp_in (jI o) 10 ∧ vp_in (jI o) 10 ∧ ∀ (xs_39 : Int32), xs_39 = (if (uA U_38 55 49 (Int32.toNatClampNeg (jI o))) = (uA U_38 55 32 (Int32.toNatClampNeg (jI o))) then 0 else 1) → w_X12_one xs_39 U_38 (fun r_41 U_40 => ∀ (x3_42 : Int32), x3_42 = jI (revN T u d o) + r_41 → ∀ (x4_43 : Int32), x4_43 = jI o + 1 → w_X12_review_L40 55 (jI u) (jI d) post k_273 fu x3_42 x4_43 U_40)) → K U_38) → ∀ Wm : Um, M Wm T → fM U0 Wm → uA Wm 55 49 o.toNat = jI (grdS T u d o) → (∀ j : Int, 0 ≤ j → j < o → uA Wm 55 49 j.toNat = jI (grdS T u d j)) → K Wm := by
      intro K hK Wm hMW hFW hc hO
      refine hK Wm ?_
      have hg : grIs Wm T u d (o + 1) := by
        intro j j0 j1
        by_cases z : j = o
        · rw [z]
          exact hc
        · exact hO j j0 (by omega)
      have gb : 0 ≤ grdS T u d o ∧ grdS T u d o ≤ 6 := by
        unfold grdS cif
        repeat' split
        all_goals omega
      refine ⟨jvp o rfl h3 (by omega) (by decide), jvp o rfl h3 (by omega) (by decide), ?_⟩
      refine al_ifr (grdS T u d o) (T 32 o) (by rw [tn]; exact hc) (rdA (M_A hMW 32 10) o rfl h3 (by omega)) ⟨by omega, by omega⟩ ⟨by omega, by omega⟩ (fun z => ?_) (fun z => ?_)
      · refine s_one0 ?_
        refine al_i (revN T u d o) ((jadd (y := 0) rfl rfl).trans (congrArg jI (by omega))) ?_
        refine al_i (o + 1) (jadd rfl rfl) ?_
        have := ih (o + 1) Wm hMW hFW (by omega) (by omega) hg (by omega)
        unfold revN at this ⊢
        rw [cnt_f h3 (fun q => q z)] at this
        exact this
      · refine s_one1 ?_
        refine al_i (revN T u d o + 1) (jadd rfl rfl) ?_
        refine al_i (o + 1) (jadd rfl rfl) ?_
        have := ih (o + 1) Wm hMW hFW (by omega) (by omega) hg (by omega)
        unfold revN at this ⊢
        rw [cnt_t h3 z] at this
        exact this
    have wr : ∀ (v : Int) (E : Int32), E = jI v → ∀ Wm : Um, Wm = sA V 55 49 (va_up (uA V 55 49) (Int32.toNatClampNeg (jI o)) E) → M Wm T ∧ fM U0 Wm ∧ uA Wm 55 49 o.toNat = jI v ∧ ∀ j : Int, 0 ≤ j → j < o → uA Wm 55 49 j.toNat = jI (grdS T u d j) := by
      intro v E hE Wm hW
      refine ⟨by rw [hW]; exact M_xA hMV, by rw [hW]; exact fM_trans hFV fM_sA, ?_, fun j j0 j1 => ?_⟩
      · rw [hW, uA_sA, if_pos ⟨rfl, rfl⟩, tn, hE]
        exact if_pos rfl
      · rw [hW, uA_sA, if_pos ⟨rfl, rfl⟩, tn]
        unfold va_up
        rw [if_neg (by omega)]
        exact oV j j0 j1
    have cV2 : uA V 55 49 (Int32.toNatClampNeg (jI o)) = jI (T 32 o) := by rw [tn]; exact cV
    have down : ∀ K : Um → Prop, (∀ Wm : Um, M Wm T → fM U0 Wm → uA Wm 55 49 o.toNat = jI (grdS T u d o) → (∀ j : Int, 0 ≤ j → j < o → uA Wm 55 49 j.toNat = jI (grdS T u d j)) → K Wm) → ¬ (upS T o ∧ cnt (upP T o) (T 11 2) < u) → w_X12_goesDown 55 (jI o) V (fun r_46 U_45 => (r_46 = 0 → K U_45) ∧ (¬ r_46 = 0 → (jI d ≤ jI y → K U_45) ∧ (¬ jI d ≤ jI y → vp_in (jI o) 10 ∧ vp_in (jI o) 10 ∧ ∀ (U_47 : Um), U_47 = sA U_45 55 49 (va_up (uA U_45 55 49) (Int32.toNatClampNeg (jI o)) ((uA U_45 55 49 (Int32.toNatClampNeg (jI o))) - 1)) → K U_47))) := by
      intro K hK hup
      refine s_X12_goesDown hMV hI h2 (o := o) rfl h3 c (fun c4 => ?_) (fun c4 => ?_)
      · refine br_1 ?_
        refine br_le d y rfl rfl hd ⟨by omega, by omega⟩ (fun c5 => ?_) (fun c5 => ?_)
        · refine hK V hMV hFV ?_ oV
          rw [cV]
          unfold grdS
          rw [cif_f hup, cif_f (fun q => by omega)]
        · refine ⟨jvp o rfl h3 (by omega) (by decide), jvp o rfl h3 (by omega) (by decide), ?_⟩
          intro Wm hW
          obtain ⟨w1, w2, w3, w4⟩ := wr (T 32 o - 1) _ (by rw [cV2]; exact jsub rfl rfl) Wm hW
          refine hK Wm w1 w2 ?_ w4
          rw [w3]
          unfold grdS
          rw [cif_f hup, cif_t ⟨c4, by omega⟩]
      · refine br_0 ?_
        refine hK V hMV hFV ?_ oV
        rw [cV]
        unfold grdS
        rw [cif_f hup, cif_f (fun q => c4 q.1)]
    refine s_X12_goesUp hMV hI h2 (o := o) rfl h3 c (fun c4 => ?_) (fun c4 => ?_)
    · intro K hK
      refine br_1 ?_
      refine br_le u x rfl rfl hu ⟨by omega, by omega⟩ (fun c5 => ?_) (fun c5 => ?_)
      · exact down K (rest K hK) (fun q => by omega)
      · refine ⟨jvp o rfl h3 (by omega) (by decide), jvp o rfl h3 (by omega) (by decide), ?_⟩
        intro Wm hW
        obtain ⟨w1, w2, w3, w4⟩ := wr (T 32 o + 1) _ (by rw [cV2]; exact jadd rfl rfl) Wm hW
        refine rest K hK Wm w1 w2 ?_ w4
        rw [w3]
        unfold grdS
        rw [cif_t ⟨c4, by omega⟩]
    · intro K hK
      refine br_0 ?_
      exact down K (rest K hK) (fun q => c4 q.1)
