/-! the reference, exchanges -/
set_option maxHeartbeats 8000000 in
theorem s_X12_swaps {U : Um} {T : Tm} (hM : M U T) (hI : I1 T) (h2 : I2 T) {a1 : Int32} {g : Int} {a2 : Int32} {s : Int} {a3 : Int32} {u : Int} {a4 : Int32} {t : Int} (e_a1 : a1 = jI g) (e_a2 : a2 = jI s) (e_a3 : a3 = jI u) (e_a4 : a4 = jI t) (p0 : r32 g) (p1 : r32 s) (p2 : r32 u) (p3 : r32 t) {post : Int32 → Um → Prop} (h : ∀ U2 : Um, M U2 T → fM U U2 → post (jI (swapS T g s u t)) U2) : w_X12_swaps 55 a1 a2 a3 a4 U post := by
  unfold w_X12_swaps
  subst e_a1
  subst e_a2
  subst e_a3
  subst e_a4
  have hn := I_n hI
  refine s_X12_isSeat hM hI h2 (g := g) (s := s) (by exact rfl) (by exact rfl) (by omega) (by omega) (fun c1 => ?_) (fun c1 => ?_)
  · skip
    have f2 := I_g hI (g) (by omega) (by omega)
    unfold gOk at f2
    refine br_1 ?_
    refine s_X12_isSeat hM hI h2 (g := u) (s := t) (by exact rfl) (by exact rfl) (by omega) (by omega) (fun c3 => ?_) (fun c3 => ?_)
    · skip
      have f4 := I_g hI (u) (by omega) (by omega)
      unfold gOk at f4
      refine br_1 ?_
      refine s_X12_isPlayed hM hI h2 (g := g) (by exact rfl) (by omega) (by omega) (fun c5 => ?_) (fun c5 => ?_)
      · skip
        refine br_1 ?_
        have q : (swapS T g s u t : Int) = (-2) := by (unfold swapS; (repeat (first | rw [cif_t (by first | assumption | omega)] | rw [cif_f (by first | assumption | omega)])); try first | omega | (have w1 := why_two hI h2 (g := g) (s := s) (h := u) (t := t) (by assumption) (by assumption) (by omega) (by omega) (by omega); have w2 := why_two2 hI h2 (g := g) (s := s) (h := u) (t := t) (by assumption) (by assumption) (by omega) (by omega) (by omega); first | rw [cif_t ⟨by omega, by omega⟩] | rw [cif_f (by omega)]))
        have h := h _ hM fM_rfl
        rw [q] at h
        exact pst rfl h
      · skip
        refine br_0 ?_
        refine s_X12_isPlayed hM hI h2 (g := u) (by exact rfl) (by omega) (by omega) (fun c6 => ?_) (fun c6 => ?_)
        · skip
          refine br_1 ?_
          have q : (swapS T g s u t : Int) = (-2) := by (unfold swapS; (repeat (first | rw [cif_t (by first | assumption | omega)] | rw [cif_f (by first | assumption | omega)])); try first | omega | (have w1 := why_two hI h2 (g := g) (s := s) (h := u) (t := t) (by assumption) (by assumption) (by omega) (by omega) (by omega); have w2 := why_two2 hI h2 (g := g) (s := s) (h := u) (t := t) (by assumption) (by assumption) (by omega) (by omega) (by omega); first | rw [cif_t ⟨by omega, by omega⟩] | rw [cif_f (by omega)]))
          have h := h _ hM fM_rfl
          rw [q] at h
          exact pst rfl h
        · skip
          refine br_0 ?_
          refine s_X12_at (g := g) (s := s) (by exact rfl) (by exact rfl)  ?_
          refine ⟨jvp ((3 * g + s)) rfl (by omega) (by omega) (by decide), ?_⟩
          have f7 := I_k h2 ((3 * g + s)) (by omega) (by omega)
          refine al_i ((T 30 ((3 * g + s)))) (rdA (M_A hM 30 48) ((3 * g + s)) rfl (by omega) (by omega)) ?_
          refine s_X12_at (g := u) (s := t) (by exact rfl) (by exact rfl)  ?_
          refine ⟨jvp ((3 * u + t)) rfl (by omega) (by omega) (by decide), ?_⟩
          have f8 := I_k h2 ((3 * u + t)) (by omega) (by omega)
          refine al_i ((T 30 ((3 * u + t)))) (rdA (M_A hM 30 48) ((3 * u + t)) rfl (by omega) (by omega)) ?_
          refine br_eq ((T 30 ((3 * g + s)))) ((-1)) rfl rfl ⟨by omega, by omega⟩ ⟨by omega, by omega⟩ (fun c9 => ?_) (fun c9 => ?_)
          · skip
            have q : (swapS T g s u t : Int) = (-3) := by (unfold swapS; (repeat (first | rw [cif_t (by first | assumption | omega)] | rw [cif_f (by first | assumption | omega)])); try first | omega | (have w1 := why_two hI h2 (g := g) (s := s) (h := u) (t := t) (by assumption) (by assumption) (by omega) (by omega) (by omega); have w2 := why_two2 hI h2 (g := g) (s := s) (h := u) (t := t) (by assumption) (by assumption) (by omega) (by omega) (by omega); first | rw [cif_t ⟨by omega, by omega⟩] | rw [cif_f (by omega)]))
            have h := h _ hM fM_rfl
            rw [q] at h
            exact pst rfl h
          · skip
            refine br_eq ((T 30 ((3 * u + t)))) ((-1)) rfl rfl ⟨by omega, by omega⟩ ⟨by omega, by omega⟩ (fun c10 => ?_) (fun c10 => ?_)
            · skip
              have q : (swapS T g s u t : Int) = (-3) := by (unfold swapS; (repeat (first | rw [cif_t (by first | assumption | omega)] | rw [cif_f (by first | assumption | omega)])); try first | omega | (have w1 := why_two hI h2 (g := g) (s := s) (h := u) (t := t) (by assumption) (by assumption) (by omega) (by omega) (by omega); have w2 := why_two2 hI h2 (g := g) (s := s) (h := u) (t := t) (by assumption) (by assumption) (by omega) (by omega) (by omega); first | rw [cif_t ⟨by omega, by omega⟩] | rw [cif_f (by omega)]))
              have h := h _ hM fM_rfl
              rw [q] at h
              exact pst rfl h
            · skip
              refine br_eq (g) (u) rfl rfl ⟨by omega, by omega⟩ ⟨by omega, by omega⟩ (fun c11 => ?_) (fun c11 => ?_)
              · skip
                have q : (swapS T g s u t : Int) = (-4) := by (unfold swapS; (repeat (first | rw [cif_t (by first | assumption | omega)] | rw [cif_f (by first | assumption | omega)])); try first | omega | (have w1 := why_two hI h2 (g := g) (s := s) (h := u) (t := t) (by assumption) (by assumption) (by omega) (by omega) (by omega); have w2 := why_two2 hI h2 (g := g) (s := s) (h := u) (t := t) (by assumption) (by assumption) (by omega) (by omega) (by omega); first | rw [cif_t ⟨by omega, by omega⟩] | rw [cif_f (by omega)]))
                have h := h _ hM fM_rfl
                rw [q] at h
                exact pst rfl h
              · skip
                refine br_eq ((T 30 ((3 * g + s)))) ((T 30 ((3 * u + t)))) rfl rfl ⟨by omega, by omega⟩ ⟨by omega, by omega⟩ (fun c12 => ?_) (fun c12 => ?_)
                · skip
                  have q : (swapS T g s u t : Int) = (-4) := by (unfold swapS; (repeat (first | rw [cif_t (by first | assumption | omega)] | rw [cif_f (by first | assumption | omega)])); try first | omega | (have w1 := why_two hI h2 (g := g) (s := s) (h := u) (t := t) (by assumption) (by assumption) (by omega) (by omega) (by omega); have w2 := why_two2 hI h2 (g := g) (s := s) (h := u) (t := t) (by assumption) (by assumption) (by omega) (by omega) (by omega); first | rw [cif_t ⟨by omega, by omega⟩] | rw [cif_f (by omega)]))
                  have h := h _ hM fM_rfl
                  rw [q] at h
                  exact pst rfl h
                · skip
                  refine ⟨jvp ((T 30 ((3 * g + s)))) rfl (by omega) (by omega) (by decide), ?_⟩
                  refine ⟨jvp ((T 30 ((3 * u + t)))) rfl (by omega) (by omega) (by decide), ?_⟩
                  have f13 := I_r h2 ((T 30 ((3 * g + s)))) (by omega) (by omega)
                  unfold r32 at f13
                  have f14 := I_r h2 ((T 30 ((3 * u + t)))) (by omega) (by omega)
                  unfold r32 at f14
                  refine br_eq ((T 32 ((T 30 ((3 * g + s)))))) ((T 32 ((T 30 ((3 * u + t)))))) (rdA (M_A hM 32 10) ((T 30 ((3 * g + s)))) rfl (by omega) (by omega)) (rdA (M_A hM 32 10) ((T 30 ((3 * u + t)))) rfl (by omega) (by omega)) ⟨by omega, by omega⟩ ⟨by omega, by omega⟩ (fun c15 => ?_) (fun c15 => ?_)
                  · skip
                    refine s_X12_at (g := g) (s := s) (by exact rfl) (by exact rfl)  ?_
                    refine ⟨jvp ((3 * g + s)) rfl (by omega) (by omega) (by decide), ?_⟩
                    intro U_17 hU_17
                    have m16 : M U_17 (up T 30 ((3 * g + s)) ((-1))) := by rw [hU_17]; exact M_sA hM ((3 * g + s)) ((-1)) rfl rfl (by omega) (by omega)
                    have hI18 : I1 (up T 30 ((3 * g + s)) ((-1))) := I1_up (by omega) hI
                    have hJ19 : I2 (up T 30 ((3 * g + s)) ((-1))) := I2_del h2 _
                    have fr17 : fM U U_17 := by rw [hU_17]; exact fM_trans fM_rfl fM_sA
                    refine s_X12_at (g := u) (s := t) (by exact rfl) (by exact rfl)  ?_
                    refine ⟨jvp ((3 * u + t)) rfl (by omega) (by omega) (by decide), ?_⟩
                    intro U_20 hU_20
                    have m20 : M U_20 (up (up T 30 ((3 * g + s)) ((-1))) 30 ((3 * u + t)) ((-1))) := by rw [hU_20]; exact M_sA m16 ((3 * u + t)) ((-1)) rfl rfl (by omega) (by omega)
                    have hI22 : I1 (up (up T 30 ((3 * g + s)) ((-1))) 30 ((3 * u + t)) ((-1))) := I1_up (by omega) hI18
                    have hJ23 : I2 (up (up T 30 ((3 * g + s)) ((-1))) 30 ((3 * u + t)) ((-1))) := I2_del hJ19 _
                    have fr21 : fM U U_20 := by rw [hU_20]; exact fM_trans fr17 fM_sA
                    refine s_X12_whyNot m20 hI22 hJ23 (g := g) (s := s) (o := (T 30 ((3 * u + t)))) (by exact rfl) (by exact rfl) (by exact rfl) (by exact (show 0 ≤ g from by omega)) (by exact (show g < T 11 3 from by omega)) (by exact (show 0 ≤ s from by omega)) (by exact (show s < gm T g 7 from by omega)) (by exact (show 0 ≤ ((T 30 ((3 * u + t)))) from by omega)) (by exact (show ((T 30 ((3 * u + t)))) < T 11 2 from by omega)) ?_
                    have f24 := whyS_bb (up (up T 30 ((3 * g + s)) ((-1))) 30 ((3 * u + t)) ((-1))) (g) (s) (((T 30 ((3 * u + t)))))
                    intro K_23 hK_23
                    refine br_eq (whyS (up (up T 30 ((3 * g + s)) ((-1))) 30 ((3 * u + t)) ((-1))) g s ((T 30 ((3 * u + t))))) (0) rfl rfl ⟨by omega, by omega⟩ ⟨by omega, by omega⟩ (fun c25 => ?_) (fun c25 => ?_)
                    · skip
                      refine s_X12_whyNot m20 hI22 hJ23 (g := u) (s := t) (o := (T 30 ((3 * g + s)))) (by exact rfl) (by exact rfl) (by exact rfl) (by exact (show 0 ≤ u from by omega)) (by exact (show u < T 11 3 from by omega)) (by exact (show 0 ≤ t from by omega)) (by exact (show t < gm T u 7 from by omega)) (by exact (show 0 ≤ ((T 30 ((3 * g + s)))) from by omega)) (by exact (show ((T 30 ((3 * g + s)))) < T 11 2 from by omega)) ?_
                      have f26 := whyS_bb (up (up T 30 ((3 * g + s)) ((-1))) 30 ((3 * u + t)) ((-1))) (u) (t) (((T 30 ((3 * g + s)))))
                      refine br_eq (whyS (up (up T 30 ((3 * g + s)) ((-1))) 30 ((3 * u + t)) ((-1))) u t ((T 30 ((3 * g + s))))) (0) rfl rfl ⟨by omega, by omega⟩ ⟨by omega, by omega⟩ (fun c27 => ?_) (fun c27 => ?_)
                      · skip
                        refine hK_23 _ _ ?_
                        refine s_X12_at (g := g) (s := s) (by exact rfl) (by exact rfl)  ?_
                        refine ⟨jvp ((3 * g + s)) rfl (by omega) (by omega) (by decide), ?_⟩
                        intro U_28 hU_28
                        have m28 : M U_28 (up (up (up T 30 ((3 * g + s)) ((-1))) 30 ((3 * u + t)) ((-1))) 30 ((3 * g + s)) ((T 30 ((3 * g + s))))) := by rw [hU_28]; exact M_sA m20 ((3 * g + s)) ((T 30 ((3 * g + s)))) rfl rfl (by omega) (by omega)
                        have fr29 : fM U U_28 := by rw [hU_28]; exact fM_trans fr21 fM_sA
                        refine s_X12_at (g := u) (s := t) (by exact rfl) (by exact rfl)  ?_
                        refine ⟨jvp ((3 * u + t)) rfl (by omega) (by omega) (by decide), ?_⟩
                        intro U_31 hU_31
                        have m30 : M U_31 (up (up (up (up T 30 ((3 * g + s)) ((-1))) 30 ((3 * u + t)) ((-1))) 30 ((3 * g + s)) ((T 30 ((3 * g + s))))) 30 ((3 * u + t)) ((T 30 ((3 * u + t))))) := by rw [hU_31]; exact M_sA m28 ((3 * u + t)) ((T 30 ((3 * u + t)))) rfl rfl (by omega) (by omega)
                        have fr31 : fM U U_31 := by rw [hU_31]; exact fM_trans fr29 fM_sA
                        refine br_1 ?_
                        have q : (swapS T g s u t : Int) = 0 := by (unfold swapS; (repeat (first | rw [cif_t (by first | assumption | omega)] | rw [cif_f (by first | assumption | omega)])); try first | omega | (have w1 := why_two hI h2 (g := g) (s := s) (h := u) (t := t) (by assumption) (by assumption) (by omega) (by omega) (by omega); have w2 := why_two2 hI h2 (g := g) (s := s) (h := u) (t := t) (by assumption) (by assumption) (by omega) (by omega) (by omega); first | rw [cif_t ⟨by omega, by omega⟩] | rw [cif_f (by omega)]))
                        have q32 : (up (up (up (up T 30 ((3 * g + s)) ((-1))) 30 ((3 * u + t)) ((-1))) 30 ((3 * g + s)) ((T 30 ((3 * g + s))))) 30 ((3 * u + t)) ((T 30 ((3 * u + t))))) = T := by first | exact up_back (by omega) | exact up_back1
                        have m33 : M U_31 T := by rw [q32] at m30; exact m30
                        have h := h _ m33 fr31
                        rw [q] at h
                        exact pst rfl h
                      · skip
                        refine hK_23 _ _ ?_
                        refine s_X12_at (g := g) (s := s) (by exact rfl) (by exact rfl)  ?_
                        refine ⟨jvp ((3 * g + s)) rfl (by omega) (by omega) (by decide), ?_⟩
                        intro U_28 hU_28
                        have m34 : M U_28 (up (up (up T 30 ((3 * g + s)) ((-1))) 30 ((3 * u + t)) ((-1))) 30 ((3 * g + s)) ((T 30 ((3 * g + s))))) := by rw [hU_28]; exact M_sA m20 ((3 * g + s)) ((T 30 ((3 * g + s)))) rfl rfl (by omega) (by omega)
                        have fr35 : fM U U_28 := by rw [hU_28]; exact fM_trans fr21 fM_sA
                        refine s_X12_at (g := u) (s := t) (by exact rfl) (by exact rfl)  ?_
                        refine ⟨jvp ((3 * u + t)) rfl (by omega) (by omega) (by decide), ?_⟩
                        intro U_31 hU_31
                        have m36 : M U_31 (up (up (up (up T 30 ((3 * g + s)) ((-1))) 30 ((3 * u + t)) ((-1))) 30 ((3 * g + s)) ((T 30 ((3 * g + s))))) 30 ((3 * u + t)) ((T 30 ((3 * u + t))))) := by rw [hU_31]; exact M_sA m34 ((3 * u + t)) ((T 30 ((3 * u + t)))) rfl rfl (by omega) (by omega)
                        have fr37 : fM U U_31 := by rw [hU_31]; exact fM_trans fr35 fM_sA
                        refine br_0 ?_
                        have q : (swapS T g s u t : Int) = (-6) := by (unfold swapS; (repeat (first | rw [cif_t (by first | assumption | omega)] | rw [cif_f (by first | assumption | omega)])); try first | omega | (have w1 := why_two hI h2 (g := g) (s := s) (h := u) (t := t) (by assumption) (by assumption) (by omega) (by omega) (by omega); have w2 := why_two2 hI h2 (g := g) (s := s) (h := u) (t := t) (by assumption) (by assumption) (by omega) (by omega) (by omega); first | rw [cif_t ⟨by omega, by omega⟩] | rw [cif_f (by omega)]))
                        have q38 : (up (up (up (up T 30 ((3 * g + s)) ((-1))) 30 ((3 * u + t)) ((-1))) 30 ((3 * g + s)) ((T 30 ((3 * g + s))))) 30 ((3 * u + t)) ((T 30 ((3 * u + t))))) = T := by first | exact up_back (by omega) | exact up_back1
                        have m39 : M U_31 T := by rw [q38] at m36; exact m36
                        have h := h _ m39 fr37
                        rw [q] at h
                        exact pst rfl h
                    · skip
                      refine hK_23 _ _ ?_
                      refine s_X12_at (g := g) (s := s) (by exact rfl) (by exact rfl)  ?_
                      refine ⟨jvp ((3 * g + s)) rfl (by omega) (by omega) (by decide), ?_⟩
                      intro U_28 hU_28
                      have m40 : M U_28 (up (up (up T 30 ((3 * g + s)) ((-1))) 30 ((3 * u + t)) ((-1))) 30 ((3 * g + s)) ((T 30 ((3 * g + s))))) := by rw [hU_28]; exact M_sA m20 ((3 * g + s)) ((T 30 ((3 * g + s)))) rfl rfl (by omega) (by omega)
                      have fr41 : fM U U_28 := by rw [hU_28]; exact fM_trans fr21 fM_sA
                      refine s_X12_at (g := u) (s := t) (by exact rfl) (by exact rfl)  ?_
                      refine ⟨jvp ((3 * u + t)) rfl (by omega) (by omega) (by decide), ?_⟩
                      intro U_31 hU_31
                      have m42 : M U_31 (up (up (up (up T 30 ((3 * g + s)) ((-1))) 30 ((3 * u + t)) ((-1))) 30 ((3 * g + s)) ((T 30 ((3 * g + s))))) 30 ((3 * u + t)) ((T 30 ((3 * u + t))))) := by rw [hU_31]; exact M_sA m40 ((3 * u + t)) ((T 30 ((3 * u + t)))) rfl rfl (by omega) (by omega)
                      have fr43 : fM U U_31 := by rw [hU_31]; exact fM_trans fr41 fM_sA
                      refine br_0 ?_
                      have q : (swapS T g s u t : Int) = (-6) := by (unfold swapS; (repeat (first | rw [cif_t (by first | assumption | omega)] | rw [cif_f (by first | assumption | omega)])); try first | omega | (have w1 := why_two hI h2 (g := g) (s := s) (h := u) (t := t) (by assumption) (by assumption) (by omega) (by omega) (by omega); have w2 := why_two2 hI h2 (g := g) (s := s) (h := u) (t := t) (by assumption) (by assumption) (by omega) (by omega) (by omega); first | rw [cif_t ⟨by omega, by omega⟩] | rw [cif_f (by omega)]))
                      have q44 : (up (up (up (up T 30 ((3 * g + s)) ((-1))) 30 ((3 * u + t)) ((-1))) 30 ((3 * g + s)) ((T 30 ((3 * g + s))))) 30 ((3 * u + t)) ((T 30 ((3 * u + t))))) = T := by first | exact up_back (by omega) | exact up_back1
                      have m45 : M U_31 T := by rw [q44] at m42; exact m42
                      have h := h _ m45 fr43
                      rw [q] at h
                      exact pst rfl h
                  · skip
                    have q : (swapS T g s u t : Int) = (-5) := by (unfold swapS; (repeat (first | rw [cif_t (by first | assumption | omega)] | rw [cif_f (by first | assumption | omega)])); try first | omega | (have w1 := why_two hI h2 (g := g) (s := s) (h := u) (t := t) (by assumption) (by assumption) (by omega) (by omega) (by omega); have w2 := why_two2 hI h2 (g := g) (s := s) (h := u) (t := t) (by assumption) (by assumption) (by omega) (by omega) (by omega); first | rw [cif_t ⟨by omega, by omega⟩] | rw [cif_f (by omega)]))
                    have h := h _ hM fM_rfl
                    rw [q] at h
                    exact pst rfl h
    · skip
      refine br_0 ?_
      have q : (swapS T g s u t : Int) = (-1) := by (unfold swapS; (repeat (first | rw [cif_t (by first | assumption | omega)] | rw [cif_f (by first | assumption | omega)])); try first | omega | (have w1 := why_two hI h2 (g := g) (s := s) (h := u) (t := t) (by assumption) (by assumption) (by omega) (by omega) (by omega); have w2 := why_two2 hI h2 (g := g) (s := s) (h := u) (t := t) (by assumption) (by assumption) (by omega) (by omega) (by omega); first | rw [cif_t ⟨by omega, by omega⟩] | rw [cif_f (by omega)]))
      have h := h _ hM fM_rfl
      rw [q] at h
      exact pst rfl h
  · skip
    refine br_0 ?_
    have q : (swapS T g s u t : Int) = (-1) := by (unfold swapS; (repeat (first | rw [cif_t (by first | assumption | omega)] | rw [cif_f (by first | assumption | omega)])); try first | omega | (have w1 := why_two hI h2 (g := g) (s := s) (h := u) (t := t) (by assumption) (by assumption) (by omega) (by omega) (by omega); have w2 := why_two2 hI h2 (g := g) (s := s) (h := u) (t := t) (by assumption) (by assumption) (by omega) (by omega) (by omega); first | rw [cif_t ⟨by omega, by omega⟩] | rw [cif_f (by omega)]))
    have h := h _ hM fM_rfl
    rw [q] at h
    exact pst rfl h
set_option maxHeartbeats 8000000 in
theorem s_X12_could {U : Um} {T : Tm} (hM : M U T) (hI : I1 T) (h2 : I2 T) {a1 : Int32} {g : Int} {a2 : Int32} {s : Int} {a3 : Int32} {u : Int} {a4 : Int32} {t : Int} (e_a1 : a1 = jI g) (e_a2 : a2 = jI s) (e_a3 : a3 = jI u) (e_a4 : a4 = jI t) (p0 : r32 g) (p1 : r32 s) (p2 : r32 u) (p3 : r32 t) {post : Int32 → Um → Prop} (h : ∀ U2 : Um, M U2 T → fM U U2 → post (jI (swapS T g s u t)) U2) : w_X12_could 55 a1 a2 a3 a4 U post := by
  unfold w_X12_could
  subst e_a1
  subst e_a2
  subst e_a3
  subst e_a4
  have hn := I_n hI
  intro U_1 hU_1
  have m1 : M U_1 T := by rw [hU_1]; exact M_xI hM
  have fr2 : fM U U_1 := by rw [hU_1]; exact fM_trans fM_rfl fM_sI
  refine s_X12_swaps m1 hI h2 (g := g) (s := s) (u := u) (t := t) (by exact rfl) (by exact rfl) (by exact rfl) (by exact rfl) (by omega) (by omega) (by omega) (by omega) (fun V3 m4 g5  => ?_)
  have fr6 := fM_trans fr2 g5
  have q : (swapS T g s u t : Int) = swapS T g s u t := by rfl
  have h := h _ m4 fr6
  rw [q] at h
  exact pst rfl h
set_option maxHeartbeats 8000000 in
theorem s_X12_isSound {U : Um} {T : Tm} (hM : M U T) (hI : I1 T) (h2 : I2 T) {a1 : Int32} {k : Int} (e_a1 : a1 = jI k) (p0 : 0 ≤ k) (p1 : k < 48) (p2 : T 30 k ≠ -1) {post : Int32 → Um → Prop} (h1 : ∀ U2 : Um, M U2 T → fM U U2 → soundS T k → post 1 U2) (h0 : ∀ U2 : Um, M U2 T → fM U U2 → ¬ soundS T k → post 0 U2) : w_X12_isSound 55 a1 U post := by
  unfold w_X12_isSound
  subst e_a1
  have hn := I_n hI
  have hk := seat_k h2 p0 p1 p2
  have hg := I_g hI (k / 3) (by omega) (by omega)
  unfold gOk at hg
  have hw := why_k hI h2 p0 p1 p2
  refine ⟨jvp (k) rfl (by omega) (by omega) (by decide), ?_⟩
  have f1 := I_k h2 (k) (by omega) (by omega)
  refine al_i ((T 30 (k))) (rdA (M_A hM 30 48) (k) rfl (by omega) (by omega)) ?_
  refine ⟨jvp (k) rfl (by omega) (by omega) (by decide), ?_⟩
  intro U_2 hU_2
  have m2 : M U_2 (up T 30 (k) ((-1))) := by rw [hU_2]; exact M_sA hM (k) ((-1)) rfl rfl (by omega) (by omega)
  have hI4 : I1 (up T 30 (k) ((-1))) := I1_up (by omega) hI
  have hJ5 : I2 (up T 30 (k) ((-1))) := I2_del h2 _
  have fr3 : fM U U_2 := by rw [hU_2]; exact fM_trans fM_rfl fM_sA
  refine s_X12_whyNot m2 hI4 hJ5 (g := (k / 3)) (s := (k % 3)) (o := (T 30 (k))) (by exact (jdiv rfl rfl ⟨by omega, by omega⟩ ⟨by omega, by omega⟩ (by omega) (by omega))) (by exact (jrem rfl rfl ⟨by omega, by omega⟩ ⟨by omega, by omega⟩ (by omega) (by omega))) (by exact rfl) (by exact (show 0 ≤ ((k / 3)) from by omega)) (by exact (show ((k / 3)) < T 11 3 from by omega)) (by exact (show 0 ≤ ((k % 3)) from by omega)) (by exact (show ((k % 3)) < gm T ((k / 3)) 7 from by omega)) (by exact (show 0 ≤ ((T 30 (k))) from by omega)) (by exact (show ((T 30 (k))) < T 11 2 from by omega)) ?_
  have f6 := whyS_bb (up T 30 (k) ((-1))) (((k / 3))) (((k % 3))) (((T 30 (k))))
  refine br_eq (whyS (up T 30 (k) ((-1))) ((k / 3)) ((k % 3)) ((T 30 (k)))) (0) rfl rfl ⟨by omega, by omega⟩ ⟨by omega, by omega⟩ (fun c7 => ?_) (fun c7 => ?_)
  · skip
    refine ⟨jvp (k) rfl (by omega) (by omega) (by decide), ?_⟩
    intro U_5 hU_5
    have m8 : M U_5 (up (up T 30 (k) ((-1))) 30 (k) ((T 30 (k)))) := by rw [hU_5]; exact M_sA m2 (k) ((T 30 (k))) rfl rfl (by omega) (by omega)
    have fr9 : fM U U_5 := by rw [hU_5]; exact fM_trans fr3 fM_sA
    have q10 : (up (up T 30 (k) ((-1))) 30 (k) ((T 30 (k)))) = T := by first | exact up_back (by omega) | exact up_back1
    have m11 : M U_5 T := by rw [q10] at m8; exact m8
    exact h1 _ m11 fr9 (by omega)
  · skip
    refine ⟨jvp (k) rfl (by omega) (by omega) (by decide), ?_⟩
    intro U_6 hU_6
    have m12 : M U_6 (up (up T 30 (k) ((-1))) 30 (k) ((T 30 (k)))) := by rw [hU_6]; exact M_sA m2 (k) ((T 30 (k))) rfl rfl (by omega) (by omega)
    have fr13 : fM U U_6 := by rw [hU_6]; exact fM_trans fr3 fM_sA
    have q14 : (up (up T 30 (k) ((-1))) 30 (k) ((T 30 (k)))) = T := by first | exact up_back (by omega) | exact up_back1
    have m15 : M U_6 T := by rw [q14] at m12; exact m12
    exact h0 _ m15 fr13 (by omega)
set_option maxHeartbeats 8000000 in
theorem l_X12_unsound_L9 {U : Um} {T : Tm} (hM : M U T) (hI : I1 T) (h2 : I2 T) {x1 : Int32} {i : Int} (e_x1 : x1 = jI i) (p0 : r32 i) {post : Int32 → Um → Prop} {k_52 : Int32 → Um → Prop} (hk : ∀ (n : Int) (U2 : Um) , M U2 (T) → fM U U2 → (n = cnt (unsP T) 48) → (fst_ (fun k => unsP T k ∧ cnt (unsP T) k = i) 48 = -1) → k_52 (jI n) U2) (r0 : ∀ z : Int, ∀ U2 : Um, M U2 (T) → fM U U2 → (0 ≤ i ∧ fst_ (fun k => unsP T k ∧ cnt (unsP T) k = i) 48 = z) → post (jI (z)) U2) : ∀ (fu : Nat) (n : Int) (k : Int) (U2 : Um), M U2 (T) → fM U U2 → (0 ≤ k) → (k ≤ 48) → (n = cnt (unsP T) k) → (∀ j, 0 ≤ j → j < k → ¬ (unsP T j ∧ cnt (unsP T) j = i)) → (48 - k : Int).toNat < fu → w_X12_unsound_L9 55 x1 post k_52 fu (jI n) (jI k) U2 := by
  have hn := I_n hI
  subst e_x1
  intro fu
  induction fu with
  | zero => intro n k V hM2 hF2 i0 i1 i2 i3 hm; exact absurd hm (Nat.not_lt_zero _)
  | succ fu ih =>
    intro n k V hM2 hF2 i0 i1 i2 i3 hm
    show b_X12_unsound_L9 55 (jI i) post k_52 (w_X12_unsound_L9 55 (jI i) post k_52 fu) (jI n) (jI k) V
    unfold b_X12_unsound_L9
    have hcb := cnt_b (p := unsP T) i0
    refine br_le (48) (k) rfl rfl ⟨by omega, by omega⟩ ⟨by omega, by omega⟩ (fun c1 => ?_) (fun c1 => ?_)
    · skip
      exact hk (n) _ hM2 hF2 (by (rw [i2, show k = 48 by omega])) (by exact fst_no (by omega) (fun j a b => i3 j a (by omega)))
    · skip
      refine ⟨jvp (k) rfl (by omega) (by omega) (by decide), ?_⟩
      have f2 := I_k h2 (k) (by omega) (by omega)
      refine br_eq ((T 30 (k))) ((-1)) (rdA (M_A hM2 30 48) (k) rfl (by omega) (by omega)) rfl ⟨by omega, by omega⟩ ⟨by omega, by omega⟩ (fun c3 => ?_) (fun c3 => ?_)
      · skip
        refine al_i ((k + 1)) (jadd rfl rfl) ?_
        refine ih (n) ((k + 1)) _ hM2 hF2 (by omega) (by omega) (by first | (rw [cnt_t i0 ⟨by assumption, by assumption⟩]; omega) | (rw [cnt_f i0 (fun q => by first | exact q.1 (by assumption) | exact q.2 (by assumption))]; omega)) (by (intro j j0 j1; by_cases c : j = k; (rw [c]; intro q; first | exact q.1.1 (by assumption) | exact q.1.2 (by assumption) | omega); exact i3 j j0 (by omega))) (by omega)
      · skip
        refine s_X12_isSound hM2 hI h2 (k := k) (by exact rfl) (by omega) (by omega) (by omega) (fun V5 m6 g7 c4 => ?_) (fun V5 m6 g7 c4 => ?_)
        · skip
          have fr8 := fM_trans hF2 g7
          refine br_1 ?_
          refine al_i ((k + 1)) (jadd rfl rfl) ?_
          refine ih (n) ((k + 1)) _ m6 fr8 (by omega) (by omega) (by first | (rw [cnt_t i0 ⟨by assumption, by assumption⟩]; omega) | (rw [cnt_f i0 (fun q => by first | exact q.1 (by assumption) | exact q.2 (by assumption))]; omega)) (by (intro j j0 j1; by_cases c : j = k; (rw [c]; intro q; first | exact q.1.1 (by assumption) | exact q.1.2 (by assumption) | omega); exact i3 j j0 (by omega))) (by omega)
        · skip
          have fr8 := fM_trans hF2 g7
          refine br_0 ?_
          refine br_eq (n) (i) rfl rfl ⟨by omega, by omega⟩ ⟨by omega, by omega⟩ (fun c9 => ?_) (fun c9 => ?_)
          · skip
            exact pst rfl (r0 (k) _ m6 fr8 (by exact ⟨by omega, fst_is i0 (by omega) ⟨⟨by assumption, by assumption⟩, by omega⟩ i3⟩))
          · skip
            refine al_i ((n + 1)) (jadd rfl rfl) ?_
            refine al_i ((k + 1)) (jadd rfl rfl) ?_
            refine ih ((n + 1)) ((k + 1)) _ m6 fr8 (by omega) (by omega) (by first | (rw [cnt_t i0 ⟨by assumption, by assumption⟩]; omega) | (rw [cnt_f i0 (fun q => by first | exact q.1 (by assumption) | exact q.2 (by assumption))]; omega)) (by (intro j j0 j1; by_cases c : j = k; (rw [c]; intro q; first | exact q.1.1 (by assumption) | exact q.1.2 (by assumption) | omega); exact i3 j j0 (by omega))) (by omega)
set_option maxHeartbeats 8000000 in
theorem s_X12_unsound {U : Um} {T : Tm} (hM : M U T) (hI : I1 T) (h2 : I2 T) {a1 : Int32} {i : Int} (e_a1 : a1 = jI i) (p0 : r32 i) {post : Int32 → Um → Prop} (h : ∀ U2 : Um, M U2 T → fM U U2 → post (jI (unsS T i)) U2) : w_X12_unsound 55 a1 U post := by
  unfold w_X12_unsound
  subst e_a1
  have hn := I_n hI
  intro U_1 hU_1
  have m1 : M U_1 T := by rw [hU_1]; exact M_xI hM
  have fr2 : fM U U_1 := by rw [hU_1]; exact fM_trans fM_rfl fM_sI
  refine ⟨(48 - 0 : Int).toNat + 1, l_X12_unsound_L9 m1 hI h2 (i := i) (by exact rfl) (by omega) (fun y3 V6 m7 g8 c4 c5 => ?_) (fun z_c9 V_c9 m_c9 g_c9 c9 => ?_) _ (0) (0) _ m1 fM_rfl (by omega) (by omega) (by rw [cnt_0 (by decide)]) (by intro j j0 j1; omega) (by omega)⟩
  · skip
    have fr10 := fM_trans fr2 g8
    refine br_eq (i) ((-1)) rfl rfl ⟨by omega, by omega⟩ ⟨by omega, by omega⟩ (fun c11 => ?_) (fun c11 => ?_)
    · skip
      have q : (unsS T i : Int) = y3 := by (unfold unsS; (repeat (first | rw [cif_t (by first | assumption | omega)] | rw [cif_f (by first | assumption | omega)])); try omega)
      have h := h _ m7 fr10
      rw [q] at h
      exact pst rfl h
    · skip
      have q : (unsS T i : Int) = (-1) := by (unfold unsS; (repeat (first | rw [cif_t (by first | assumption | omega)] | rw [cif_f (by first | assumption | omega)])); try omega)
      have h := h _ m7 fr10
      rw [q] at h
      exact pst rfl h
  · skip
    have fr12 := fM_trans fr2 g_c9
    have q : (unsS T i : Int) = z_c9 := by (unfold unsS; (repeat (first | rw [cif_t (by first | assumption | omega)] | rw [cif_f (by first | assumption | omega)])); try omega)
    have h := h _ m_c9 fr12
    rw [q] at h
    exact pst rfl h
set_option maxHeartbeats 8000000 in
theorem l_X12_roundsOf_L4 {U : Um} {T : Tm} (hM : M U T) (hI : I1 T) (h2 : I2 T) {x1 : Int32} {o : Int} (e_x1 : x1 = jI o) (p0 : 0 ≤ o) (p1 : o < T 11 2) {post : Int32 → Um → Prop} {k_27 : Int32 → Um → Prop} (hk : ∀ (x : Int) (U2 : Um) , M U2 (T) → fM U U2 → (x = rndsS T o) → k_27 (jI x) U2) : ∀ (fu : Nat) (x : Int) (d : Int) (U2 : Um), M U2 (T) → fM U U2 → (0 ≤ d) → (d ≤ 7) → (x = rndsN T o d) → (7 - d : Int).toNat < fu → w_X12_roundsOf_L4 55 x1 post k_27 fu (jI x) (jI d) U2 := by
  have hn := I_n hI
  subst e_x1
  intro fu
  induction fu with
  | zero => intro x d V hM2 hF2 i0 i1 i2 hm; exact absurd hm (Nat.not_lt_zero _)
  | succ fu ih =>
    intro x d V hM2 hF2 i0 i1 i2 hm
    show b_X12_roundsOf_L4 55 (jI o) post k_27 (w_X12_roundsOf_L4 55 (jI o) post k_27 fu) (jI x) (jI d) V
    unfold b_X12_roundsOf_L4
    have hb := rnds_b hI o d p0 p1 i0 i1
    refine br_le (7) (d) rfl rfl ⟨by omega, by omega⟩ ⟨by omega, by omega⟩ (fun c1 => ?_) (fun c1 => ?_)
    · skip
      exact hk (x) _ hM2 hF2 (by (rw [i2, show d = 7 by omega]; rfl))
    · skip
      refine s_X12_roundOf hM2 hI h2 (o := o) (day := d) (less := (-1)) (more := (-1)) (by exact rfl) (by exact rfl) (by exact rfl) (by exact rfl) (by omega) (by omega) (by omega) (by omega) (by omega) (fun V2 m3 g4  => ?_)
      have fr5 := fM_trans hF2 g4
      have f6 := rndS_b hI (o) (d) (((-1))) (((-1))) (by omega) (by omega)
      refine al_i ((x + rndS T o d ((-1)) ((-1)))) (jadd rfl rfl) ?_
      refine al_i ((d + 1)) (jadd rfl rfl) ?_
      refine ih ((x + rndS T o d ((-1)) ((-1)))) ((d + 1)) _ m3 fr5 (by omega) (by omega) (by (rw [rnds_s i0]; omega)) (by omega)
set_option maxHeartbeats 8000000 in
theorem s_X12_roundsOf {U : Um} {T : Tm} (hM : M U T) (hI : I1 T) (h2 : I2 T) {a1 : Int32} {o : Int} (e_a1 : a1 = jI o) (p0 : 0 ≤ o) (p1 : o < T 11 2) {post : Int32 → Um → Prop} (h : ∀ U2 : Um, M U2 T → fM U U2 → post (jI (rndsS T o)) U2) : w_X12_roundsOf 55 a1 U post := by
  unfold w_X12_roundsOf
  subst e_a1
  have hn := I_n hI
  refine ⟨(7 - 0 : Int).toNat + 1, l_X12_roundsOf_L4 hM hI h2 (o := o) (by exact rfl) (by omega) (by omega) (fun y1 V3 m4 g5 c2 => ?_)  _ (0) (0) _ hM fM_rfl (by omega) (by omega) (by rfl) (by omega)⟩
  · skip
    have fr6 := fM_trans fM_rfl g5
    have q : (rndsS T o : Int) = y1 := by omega
    have h := h _ m4 fr6
    rw [q] at h
    exact pst rfl h
set_option maxHeartbeats 8000000 in
theorem s_X12_exchanges {U : Um} {T : Tm} (hM : M U T) (hI : I1 T) (h2 : I2 T) {a1 : Int32} {k : Int} {a2 : Int32} {j : Int} (e_a1 : a1 = jI k) (e_a2 : a2 = jI j) (p0 : 0 ≤ k) (p1 : k < 48) (p2 : 0 ≤ j) (p3 : j < 48) {post : Um → Prop} (h : ∀ U2 : Um, M U2 (exT T k j) → fM U U2 → post U2) : w_X12_exchanges 55 a1 a2 U post := by
  unfold w_X12_exchanges
  subst e_a1
  subst e_a2
  have hn := I_n hI
  refine ⟨jvp (k) rfl (by omega) (by omega) (by decide), ?_⟩
  have f1 := I_k h2 (k) (by omega) (by omega)
  refine al_i ((T 30 (k))) (rdA (M_A hM 30 48) (k) rfl (by omega) (by omega)) ?_
  refine ⟨jvp (j) rfl (by omega) (by omega) (by decide), ?_⟩
  refine ⟨jvp (k) rfl (by omega) (by omega) (by decide), ?_⟩
  intro U_2 hU_2
  have f4 := I_k h2 (j) (by omega) (by omega)
  have m2 : M U_2 (up T 30 (k) ((T 30 (j)))) := by rw [hU_2]; exact M_sA hM (k) ((T 30 (j))) rfl (rdA (M_A hM 30 48) (j) rfl (by omega) (by omega)) (by omega) (by omega)
  have fr3 : fM U U_2 := by rw [hU_2]; exact fM_trans fM_rfl fM_sA
  refine ⟨jvp (j) rfl (by omega) (by omega) (by decide), ?_⟩
  intro U_3 hU_3
  have m5 : M U_3 (up (up T 30 (k) ((T 30 (j)))) 30 (j) ((T 30 (k)))) := by rw [hU_3]; exact M_sA m2 (j) ((T 30 (k))) rfl rfl (by omega) (by omega)
  have fr6 : fM U U_3 := by rw [hU_3]; exact fM_trans fr3 fM_sA
  have q7 : exT T k j = (up (up T 30 (k) ((T 30 (j)))) 30 (j) ((T 30 (k)))) := by rfl
  have m8 : M U_3 (exT T k j) := by rw [q7]; exact m5
  exact h _ m8 fr6
set_option maxHeartbeats 8000000 in
theorem l_X12_exchange_L43 {U : Um} {T : Tm} (hM : M U T) (hI : I1 T) (h2 : I2 T) {x1 : Int32} {w : Int} {x5 : Int32} {k : Int} (e_x1 : x1 = jI w) (e_x5 : x5 = jI k) (p0 : 0 ≤ k) (p1 : k < 48) {post : Int32 → Um → Prop} {k_190 : Int32 → Int32 → Int32 → Um → Prop} (hk : ∀ (best : Int) (one : Int) (other : Int) (U2 : Um) , M U2 (T) → fM U U2 → (exI T (48 * (k + 1)) best one other) → k_190 (jI best) (jI one) (jI other) U2) : ∀ (fu : Nat) (best : Int) (one : Int) (other : Int) (j : Int) (U2 : Um), M U2 (T) → fM U U2 → (k < j) → (j ≤ 48) → (exI T (48 * k + j) best one other) → (48 - j : Int).toNat < fu → w_X12_exchange_L43 55 x1 x5 post k_190 fu (jI best) (jI one) (jI other) (jI j) U2 := by
  have hn := I_n hI
  subst e_x5
  subst e_x1
  intro fu
  induction fu with
  | zero => intro best one other j V hM2 hF2 i0 i1 i2 hm; exact absurd hm (Nat.not_lt_zero _)
  | succ fu ih =>
    intro best one other j V hM2 hF2 i0 i1 i2 hm
    show b_X12_exchange_L43 55 (jI w) (jI k) post k_190 (w_X12_exchange_L43 55 (jI w) (jI k) post k_190 fu) (jI best) (jI one) (jI other) (jI j) V
    unfold b_X12_exchange_L43
    have hb := exI_bb hI h2 i2 (by omega)
    refine br_le (48) (j) rfl rfl ⟨by omega, by omega⟩ ⟨by omega, by omega⟩ (fun c1 => ?_) (fun c1 => ?_)
    · skip
      exact hk (best) (one) (other) _ hM2 hF2 (by (rw [show 48 * (k + 1) = 48 * k + j by omega]; exact i2))
    · skip
      refine ⟨jvp (k) rfl (by omega) (by omega) (by decide), ?_⟩
      have f2 := I_k h2 (k) (by omega) (by omega)
      refine br_eq ((T 30 (k))) ((-1)) (rdA (M_A hM2 30 48) (k) rfl (by omega) (by omega)) rfl ⟨by omega, by omega⟩ ⟨by omega, by omega⟩ (fun c3 => ?_) (fun c3 => ?_)
      · skip
        refine al_i ((j + 1)) (jadd rfl rfl) ?_
        refine ih (best) (one) (other) ((j + 1)) _ hM2 hF2 (by omega) (by omega) (by first | exact exI_no (by omega) (by omega) i2 (Or.inl (by assumption)) | exact exI_no (by omega) (by omega) i2 (Or.inr (Or.inl (by assumption))) | exact exI_no (by omega) (by omega) i2 (Or.inr (Or.inr (Or.inl (by assumption)))) | exact exI_no (by omega) (by omega) i2 (Or.inr (Or.inr (Or.inr (by assumption)))) | exact exI_new (by omega) (by omega) (by omega) i2 (by assumption) (by assumption) (by assumption) (by assumption)) (by omega)
      · skip
        refine ⟨jvp (j) rfl (by omega) (by omega) (by decide), ?_⟩
        have f4 := I_k h2 (j) (by omega) (by omega)
        refine br_eq ((T 30 (j))) ((-1)) (rdA (M_A hM2 30 48) (j) rfl (by omega) (by omega)) rfl ⟨by omega, by omega⟩ ⟨by omega, by omega⟩ (fun c5 => ?_) (fun c5 => ?_)
        · skip
          refine al_i ((j + 1)) (jadd rfl rfl) ?_
          refine ih (best) (one) (other) ((j + 1)) _ hM2 hF2 (by omega) (by omega) (by first | exact exI_no (by omega) (by omega) i2 (Or.inl (by assumption)) | exact exI_no (by omega) (by omega) i2 (Or.inr (Or.inl (by assumption))) | exact exI_no (by omega) (by omega) i2 (Or.inr (Or.inr (Or.inl (by assumption)))) | exact exI_no (by omega) (by omega) i2 (Or.inr (Or.inr (Or.inr (by assumption)))) | exact exI_new (by omega) (by omega) (by omega) i2 (by assumption) (by assumption) (by assumption) (by assumption)) (by omega)
        · skip
          refine s_X12_swaps hM2 hI h2 (g := (k / 3)) (s := (k % 3)) (u := (j / 3)) (t := (j % 3)) (by exact (jdiv rfl rfl ⟨by omega, by omega⟩ ⟨by omega, by omega⟩ (by omega) (by omega))) (by exact (jrem rfl rfl ⟨by omega, by omega⟩ ⟨by omega, by omega⟩ (by omega) (by omega))) (by exact (jdiv rfl rfl ⟨by omega, by omega⟩ ⟨by omega, by omega⟩ (by omega) (by omega))) (by exact (jrem rfl rfl ⟨by omega, by omega⟩ ⟨by omega, by omega⟩ (by omega) (by omega))) (by omega) (by omega) (by omega) (by omega) (fun V6 m7 g8  => ?_)
          have fr9 := fM_trans hF2 g8
          have f10 := swapS_b T (((k / 3))) (((k % 3))) (((j / 3))) (((j % 3)))
          refine br_eq (swapS T ((k / 3)) ((k % 3)) ((j / 3)) ((j % 3))) (0) rfl rfl ⟨by omega, by omega⟩ ⟨by omega, by omega⟩ (fun c11 => ?_) (fun c11 => ?_)
          · skip
            refine ⟨jvp (k) rfl (by omega) (by omega) (by decide), ?_⟩
            refine al_i ((T 30 (k))) (rdA (M_A m7 30 48) (k) rfl (by omega) (by omega)) ?_
            refine ⟨jvp (j) rfl (by omega) (by omega) (by decide), ?_⟩
            refine al_i ((T 30 (j))) (rdA (M_A m7 30 48) (j) rfl (by omega) (by omega)) ?_
            refine s_X12_roundsOf m7 hI h2 (o := (T 30 (k))) (by exact rfl) (by omega) (by omega) (fun V12 m13 g14  => ?_)
            have fr15 := fM_trans fr9 g14
            have f16 := rnds_bS hI (((T 30 (k)))) (by omega) (show (((T 30 (k)))) < T 11 2 by omega)
            refine s_X12_roundsOf m13 hI h2 (o := (T 30 (j))) (by exact rfl) (by omega) (by omega) (fun V17 m18 g19  => ?_)
            have fr20 := fM_trans fr15 g19
            have f21 := rnds_bS hI (((T 30 (j)))) (by omega) (show (((T 30 (j)))) < T 11 2 by omega)
            refine al_i ((rndsS T ((T 30 (k))) + rndsS T ((T 30 (j))))) (jadd rfl rfl) ?_
            refine s_X12_exchanges m18 hI h2 (k := k) (j := j) (by exact rfl) (by exact rfl) (by omega) (by omega) (by omega) (by omega) (fun V22 m23 g24  => ?_)
            have fr25 := fM_trans fr20 g24
            have hI26 : I1 (exT T k j) := I1_30 (I1_30 hI)
            have hJ27 : I2 (exT T k j) := I2_ex hI h2 (by omega) (by omega) (by omega) (by omega) (by assumption) (by assumption) (by assumption)
            refine s_X12_roundsOf m23 hI26 hJ27 (o := (T 30 (k))) (by exact rfl) (by exact (show 0 ≤ ((T 30 (k))) from by omega)) (by exact (show ((T 30 (k))) < T 11 2 from by omega)) (fun V28 m29 g30  => ?_)
            have fr31 := fM_trans fr25 g30
            have f32 := rnds_bS hI26 (((T 30 (k)))) (by omega) (show (((T 30 (k)))) < T 11 2 by omega)
            refine s_X12_roundsOf m29 hI26 hJ27 (o := (T 30 (j))) (by exact rfl) (by exact (show 0 ≤ ((T 30 (j))) from by omega)) (by exact (show ((T 30 (j))) < T 11 2 from by omega)) (fun V33 m34 g35  => ?_)
            have fr36 := fM_trans fr31 g35
            have f37 := rnds_bS hI26 (((T 30 (j)))) (by omega) (show (((T 30 (j)))) < T 11 2 by omega)
            refine al_i (((rndsS T ((T 30 (k))) + rndsS T ((T 30 (j)))) - (rndsS (exT T k j) ((T 30 (k))) + rndsS (exT T k j) ((T 30 (j)))))) (jsub rfl (jadd rfl rfl)) ?_
            refine s_X12_exchanges m34 hI26 hJ27 (k := k) (j := j) (by exact rfl) (by exact rfl) (by exact (show 0 ≤ k from by omega)) (by exact (show k < 48 from by omega)) (by exact (show 0 ≤ j from by omega)) (by exact (show j < 48 from by omega)) (fun V38 m39 g40  => ?_)
            have fr41 := fM_trans fr36 g40
            refine br_lt (best) (((rndsS T ((T 30 (k))) + rndsS T ((T 30 (j)))) - (rndsS (exT T k j) ((T 30 (k))) + rndsS (exT T k j) ((T 30 (j)))))) rfl rfl ⟨by omega, by omega⟩ ⟨by omega, by omega⟩ (fun c44 => ?_) (fun c44 => ?_)
            · skip
              refine al_i (k) rfl ?_
              refine al_i (j) rfl ?_
              refine al_i ((j + 1)) (jadd rfl rfl) ?_
              have q45 : (exT (exT T k j) k j) = T := by exact exT_ex (by omega)
              have m46 : M V38 T := by rw [q45] at m39; exact m39
              refine ih (((rndsS T ((T 30 (k))) + rndsS T ((T 30 (j)))) - (rndsS (exT T k j) ((T 30 (k))) + rndsS (exT T k j) ((T 30 (j)))))) (k) (j) ((j + 1)) _ m46 fr41 (by omega) (by omega) (by first | exact exI_no (by omega) (by omega) i2 (Or.inl (by assumption)) | exact exI_no (by omega) (by omega) i2 (Or.inr (Or.inl (by assumption))) | exact exI_no (by omega) (by omega) i2 (Or.inr (Or.inr (Or.inl (by assumption)))) | exact exI_no (by omega) (by omega) i2 (Or.inr (Or.inr (Or.inr (by assumption)))) | exact exI_new (by omega) (by omega) (by omega) i2 (by assumption) (by assumption) (by assumption) (by assumption)) (by omega)
            · skip
              refine al_i ((j + 1)) (jadd rfl rfl) ?_
              have q47 : (exT (exT T k j) k j) = T := by exact exT_ex (by omega)
              have m48 : M V38 T := by rw [q47] at m39; exact m39
              refine ih (best) (one) (other) ((j + 1)) _ m48 fr41 (by omega) (by omega) (by first | exact exI_no (by omega) (by omega) i2 (Or.inl (by assumption)) | exact exI_no (by omega) (by omega) i2 (Or.inr (Or.inl (by assumption))) | exact exI_no (by omega) (by omega) i2 (Or.inr (Or.inr (Or.inl (by assumption)))) | exact exI_no (by omega) (by omega) i2 (Or.inr (Or.inr (Or.inr (by assumption)))) | exact exI_new (by omega) (by omega) (by omega) i2 (by assumption) (by assumption) (by assumption) (by assumption)) (by omega)
          · skip
            refine al_i ((j + 1)) (jadd rfl rfl) ?_
            refine ih (best) (one) (other) ((j + 1)) _ m7 fr9 (by omega) (by omega) (by first | exact exI_no (by omega) (by omega) i2 (Or.inl (by assumption)) | exact exI_no (by omega) (by omega) i2 (Or.inr (Or.inl (by assumption))) | exact exI_no (by omega) (by omega) i2 (Or.inr (Or.inr (Or.inl (by assumption)))) | exact exI_no (by omega) (by omega) i2 (Or.inr (Or.inr (Or.inr (by assumption)))) | exact exI_new (by omega) (by omega) (by omega) i2 (by assumption) (by assumption) (by assumption) (by assumption)) (by omega)
set_option maxHeartbeats 8000000 in
theorem l_X12_exchange_L30 {U : Um} {T : Tm} (hM : M U T) (hI : I1 T) (h2 : I2 T) {x1 : Int32} {w : Int} (e_x1 : x1 = jI w) {post : Int32 → Um → Prop} {k_196 : Int32 → Int32 → Int32 → Um → Prop} (hk : ∀ (best : Int) (one : Int) (other : Int) (U2 : Um) , M U2 (T) → fM U U2 → (exI T 2304 best one other) → k_196 (jI best) (jI one) (jI other) U2) : ∀ (fu : Nat) (best : Int) (one : Int) (other : Int) (k : Int) (U2 : Um), M U2 (T) → fM U U2 → (0 ≤ k) → (k ≤ 48) → (exI T (48 * k) best one other) → (48 - k : Int).toNat < fu → w_X12_exchange_L30 55 x1 post k_196 fu (jI best) (jI one) (jI other) (jI k) U2 := by
  have hn := I_n hI
  subst e_x1
  intro fu
  induction fu with
  | zero => intro best one other k V hM2 hF2 i0 i1 i2 hm; exact absurd hm (Nat.not_lt_zero _)
  | succ fu ih =>
    intro best one other k V hM2 hF2 i0 i1 i2 hm
    show b_X12_exchange_L30 55 (jI w) post k_196 (w_X12_exchange_L30 55 (jI w) post k_196 fu) (jI best) (jI one) (jI other) (jI k) V
    unfold b_X12_exchange_L30
    have hb := exI_bb hI h2 i2 (by omega)
    refine br_le (48) (k) rfl rfl ⟨by omega, by omega⟩ ⟨by omega, by omega⟩ (fun c1 => ?_) (fun c1 => ?_)
    · skip
      exact hk (best) (one) (other) _ hM2 hF2 (by (rw [show (2304 : Int) = 48 * k by omega]; exact i2))
    · skip
      refine al_i ((k + 1)) (jadd rfl rfl) ?_
      refine ⟨(48 - ((k + 1)) : Int).toNat + 1, l_X12_exchange_L43 hM2 hI h2 (w := w) (k := k) (by exact rfl) (by exact rfl) (by omega) (by omega) (fun y2 y3 y4 V6 m7 g8 c5 => ?_)  _ (best) (one) (other) ((k + 1)) _ hM2 fM_rfl (by omega) (by omega) (by exact exI_row (by omega) (by omega) (by assumption)) (by omega)⟩
      · skip
        have fr9 := fM_trans hF2 g8
        refine al_i ((k + 1)) (jadd rfl rfl) ?_
        refine ih (y2) (y3) (y4) ((k + 1)) _ m7 fr9 (by omega) (by omega) (by assumption) (by omega)
set_option maxHeartbeats 8000000 in
theorem s_X12_exchange {U : Um} {T : Tm} (hM : M U T) (hI : I1 T) (h2 : I2 T) {a1 : Int32} {w : Int} (e_a1 : a1 = jI w) (p0 : r32 w) {post : Int32 → Um → Prop} (h : ∀ U2 : Um, M U2 T → fM U U2 → post (jI (exS T w)) U2) : w_X12_exchange 55 a1 U post := by
  unfold w_X12_exchange
  subst e_a1
  have hn := I_n hI
  intro U_1 hU_1
  have m1 : M U_1 T := by rw [hU_1]; exact M_xI hM
  have fr2 : fM U U_1 := by rw [hU_1]; exact fM_trans fM_rfl fM_sI
  refine s_X12_isIn (a := w) (lo := 0) (hi := 4) (by exact (jlong rfl ⟨by omega, by omega⟩)) (by exact rfl) (by exact rfl) (by omega) (by omega) (by omega) (fun c3 => ?_) (fun c3 => ?_)
  · skip
    refine br_1 ?_
    refine ⟨(48 - 0 : Int).toNat + 1, l_X12_exchange_L30 m1 hI h2 (w := w) (by exact rfl)  (fun y4 y5 y6 V8 m9 g10 c7 => ?_)  _ (0) ((-1)) ((-1)) (0) _ m1 fM_rfl (by omega) (by omega) (by exact ⟨-1, mx_0, Or.inl ⟨rfl, rfl, rfl⟩⟩) (by omega)⟩
    · skip
      have fr11 := fM_trans fr2 g10
      have he := ex_end c7
      have hb := exI_bb hI h2 c7 (by omega)
      refine br_eq (w) (0) rfl rfl ⟨by omega, by omega⟩ ⟨by omega, by omega⟩ (fun c12 => ?_) (fun c12 => ?_)
      · skip
        refine br_eq (w) (0) rfl rfl ⟨by omega, by omega⟩ ⟨by omega, by omega⟩ (fun c13 => ?_) (fun c13 => ?_)
        · skip
          have q : (exS T w : Int) = y4 := by (unfold exS; (repeat (first | rw [cif_t (by first | assumption | omega)] | rw [cif_f (by first | assumption | omega)])); try omega)
          have h := h _ m9 fr11
          rw [q] at h
          exact pst rfl h
        · skip
          have q : (exS T w : Int) = (-1) := by (unfold exS; (repeat (first | rw [cif_t (by first | assumption | omega)] | rw [cif_f (by first | assumption | omega)])); try omega)
          have h := h _ m9 fr11
          rw [q] at h
          exact pst rfl h
      · skip
        refine br_eq (y5) ((-1)) rfl rfl ⟨by omega, by omega⟩ ⟨by omega, by omega⟩ (fun c14 => ?_) (fun c14 => ?_)
        · skip
          refine br_eq (w) (0) rfl rfl ⟨by omega, by omega⟩ ⟨by omega, by omega⟩ (fun c15 => ?_) (fun c15 => ?_)
          · skip
            have q : (exS T w : Int) = y4 := by (unfold exS; (repeat (first | rw [cif_t (by first | assumption | omega)] | rw [cif_f (by first | assumption | omega)])); try omega)
            have h := h _ m9 fr11
            rw [q] at h
            exact pst rfl h
          · skip
            have q : (exS T w : Int) = (-1) := by (unfold exS; (repeat (first | rw [cif_t (by first | assumption | omega)] | rw [cif_f (by first | assumption | omega)])); try omega)
            have h := h _ m9 fr11
            rw [q] at h
            exact pst rfl h
        · skip
          refine br_eq (w) (1) rfl rfl ⟨by omega, by omega⟩ ⟨by omega, by omega⟩ (fun c16 => ?_) (fun c16 => ?_)
          · skip
            have q : (exS T w : Int) = (y5 / 3) := by (unfold exS; (repeat (first | rw [cif_t (by first | assumption | omega)] | rw [cif_f (by first | assumption | omega)])); try omega)
            have h := h _ m9 fr11
            rw [q] at h
            exact pst (jdiv rfl rfl ⟨by omega, by omega⟩ ⟨by omega, by omega⟩ (by omega) (by omega)) h
          · skip
            refine br_eq (w) (2) rfl rfl ⟨by omega, by omega⟩ ⟨by omega, by omega⟩ (fun c17 => ?_) (fun c17 => ?_)
            · skip
              have q : (exS T w : Int) = (y5 % 3) := by (unfold exS; (repeat (first | rw [cif_t (by first | assumption | omega)] | rw [cif_f (by first | assumption | omega)])); try omega)
              have h := h _ m9 fr11
              rw [q] at h
              exact pst (jrem rfl rfl ⟨by omega, by omega⟩ ⟨by omega, by omega⟩ (by omega) (by omega)) h
            · skip
              refine br_eq (w) (3) rfl rfl ⟨by omega, by omega⟩ ⟨by omega, by omega⟩ (fun c18 => ?_) (fun c18 => ?_)
              · skip
                have q : (exS T w : Int) = (y6 / 3) := by (unfold exS; (repeat (first | rw [cif_t (by first | assumption | omega)] | rw [cif_f (by first | assumption | omega)])); try omega)
                have h := h _ m9 fr11
                rw [q] at h
                exact pst (jdiv rfl rfl ⟨by omega, by omega⟩ ⟨by omega, by omega⟩ (by omega) (by omega)) h
              · skip
                have q : (exS T w : Int) = (y6 % 3) := by (unfold exS; (repeat (first | rw [cif_t (by first | assumption | omega)] | rw [cif_f (by first | assumption | omega)])); try omega)
                have h := h _ m9 fr11
                rw [q] at h
                exact pst (jrem rfl rfl ⟨by omega, by omega⟩ ⟨by omega, by omega⟩ (by omega) (by omega)) h
  · skip
    refine br_0 ?_
    have q : (exS T w : Int) = (-2) := by (unfold exS; (repeat (first | rw [cif_t (by first | assumption | omega)] | rw [cif_f (by first | assumption | omega)])); try omega)
    have h := h _ m1 fr2
    rw [q] at h
    exact pst rfl h
set_option maxHeartbeats 8000000 in
theorem l_X12_spread_L35 {U : Um} {T : Tm} (hM : M U T) (hI : I1 T) (h2 : I2 T) {x1 : Int32} {w : Int} (e_x1 : x1 = jI w) {post : Int32 → Um → Prop} {k_86 : Int32 → Int32 → Um → Prop} (hk : ∀ (m : Int) (f : Int) , (mostS T = m ∧ 0 ≤ m ∧ m < T 11 2) → (fewS T = f ∧ 0 ≤ f ∧ f < T 11 2) → k_86 (jI m) (jI f) U) : ∀ (fu : Nat) (m : Int) (f : Int) (k : Int), (1 ≤ k) → (k ≤ T 11 2) → (topI (seatsS T) k m) → (topI (fun o => - seatsS T o) k f) → (T 11 2 - k : Int).toNat < fu → w_X12_spread_L35 55 x1 post k_86 fu (jI m) (jI f) (jI k) U := by
  have hn := I_n hI
  subst e_x1
  intro fu
  induction fu with
  | zero => intro m f k i0 i1 i2 i3 hm; exact absurd hm (Nat.not_lt_zero _)
  | succ fu ih =>
    intro m f k i0 i1 i2 i3 hm
    show b_X12_spread_L35 55 (jI w) post k_86 (w_X12_spread_L35 55 (jI w) post k_86 fu) (jI m) (jI f) (jI k) U
    unfold b_X12_spread_L35
    have hm1 := i2.1
    have hm2 := i2.2.1
    have hf1 := i3.1
    have hf2 := i3.2.1
    refine ⟨jvp (2) rfl (by omega) (by omega) (by decide), ?_⟩
    refine br_le ((T 11 (2))) (k) (rdA (M_A hM 11 7) (2) rfl (by omega) (by omega)) rfl ⟨by omega, by omega⟩ ⟨by omega, by omega⟩ (fun c1 => ?_) (fun c1 => ?_)
    · skip
      exact hk (m) (f) (by (have e : T 11 2 = k := by omega); unfold mostS; rw [e]; exact ⟨topS_is i2, by omega, by omega⟩) (by (have e : T 11 2 = k := by omega); unfold fewS; rw [e]; exact ⟨topS_is i3, by omega, by omega⟩)
    · skip
      refine s_X12_seatsOf hM hI h2 (o := k) (by exact rfl) (by omega) ?_
      have f2 := seatsS_b (T := T) (k)
      refine s_X12_seatsOf hM hI h2 (o := m) (by exact rfl) (by omega) ?_
      have f3 := seatsS_b (T := T) (m)
      refine al_ifle (seatsS T k) (seatsS T m) rfl rfl ⟨by omega, by omega⟩ ⟨by omega, by omega⟩ (m) (k) rfl rfl (fun c4 => ?_) (fun c4 => ?_)
      · skip
        refine s_X12_seatsOf hM hI h2 (o := k) (by exact rfl) (by omega) ?_
        have f5 := seatsS_b (T := T) (k)
        refine s_X12_seatsOf hM hI h2 (o := f) (by exact rfl) (by omega) ?_
        have f6 := seatsS_b (T := T) (f)
        refine br_le (seatsS T f) (seatsS T k) rfl rfl ⟨by omega, by omega⟩ ⟨by omega, by omega⟩ (fun c7 => ?_) (fun c7 => ?_)
        · skip
          refine al_i ((k + 1)) (jadd rfl rfl) ?_
          refine ih (m) (f) ((k + 1)) (by omega) (by omega) (by first | exact topI_t i2 (by omega) | exact topI_f i2 (by omega)) (by first | exact topI_t i3 (show - seatsS T f < - seatsS T k by omega) | exact topI_f i3 (show - seatsS T k ≤ - seatsS T f by omega)) (by omega)
        · skip
          refine al_i (k) rfl ?_
          refine al_i ((k + 1)) (jadd rfl rfl) ?_
          refine ih (m) (k) ((k + 1)) (by omega) (by omega) (by first | exact topI_t i2 (by omega) | exact topI_f i2 (by omega)) (by first | exact topI_t i3 (show - seatsS T f < - seatsS T k by omega) | exact topI_f i3 (show - seatsS T k ≤ - seatsS T f by omega)) (by omega)
      · skip
        refine s_X12_seatsOf hM hI h2 (o := k) (by exact rfl) (by omega) ?_
        have f8 := seatsS_b (T := T) (k)
        refine s_X12_seatsOf hM hI h2 (o := f) (by exact rfl) (by omega) ?_
        have f9 := seatsS_b (T := T) (f)
        refine br_le (seatsS T f) (seatsS T k) rfl rfl ⟨by omega, by omega⟩ ⟨by omega, by omega⟩ (fun c10 => ?_) (fun c10 => ?_)
        · skip
          refine al_i ((k + 1)) (jadd rfl rfl) ?_
          refine ih (k) (f) ((k + 1)) (by omega) (by omega) (by first | exact topI_t i2 (by omega) | exact topI_f i2 (by omega)) (by first | exact topI_t i3 (show - seatsS T f < - seatsS T k by omega) | exact topI_f i3 (show - seatsS T k ≤ - seatsS T f by omega)) (by omega)
        · skip
          refine al_i (k) rfl ?_
          refine al_i ((k + 1)) (jadd rfl rfl) ?_
          refine ih (k) (k) ((k + 1)) (by omega) (by omega) (by first | exact topI_t i2 (by omega) | exact topI_f i2 (by omega)) (by first | exact topI_t i3 (show - seatsS T f < - seatsS T k by omega) | exact topI_f i3 (show - seatsS T k ≤ - seatsS T f by omega)) (by omega)
set_option maxHeartbeats 8000000 in
theorem s_X12_spread {U : Um} {T : Tm} (hM : M U T) (hI : I1 T) (h2 : I2 T) {a1 : Int32} {w : Int} (e_a1 : a1 = jI w) (p0 : r32 w) {post : Int32 → Um → Prop} (h : ∀ U2 : Um, M U2 T → fM U U2 → post (jI (sprS T w)) U2) : w_X12_spread 55 a1 U post := by
  unfold w_X12_spread
  subst e_a1
  have hn := I_n hI
  intro U_1 hU_1
  have m1 : M U_1 T := by rw [hU_1]; exact M_xI hM
  have fr2 : fM U U_1 := by rw [hU_1]; exact fM_trans fM_rfl fM_sI
  refine ⟨jvp (2) rfl (by omega) (by omega) (by decide), ?_⟩
  refine br_eq ((T 11 (2))) (0) (rdA (M_A m1 11 7) (2) rfl (by omega) (by omega)) rfl ⟨by omega, by omega⟩ ⟨by omega, by omega⟩ (fun c3 => ?_) (fun c3 => ?_)
  · skip
    have q : (sprS T w : Int) = (-1) := by (unfold sprS; (repeat (first | rw [cif_t (by first | assumption | omega)] | rw [cif_f (by first | assumption | omega)])); try first | omega | (simp only [*]; try omega))
    have h := h _ m1 fr2
    rw [q] at h
    exact pst rfl h
  · skip
    refine s_X12_isIn (a := w) (lo := 0) (hi := 2) (by exact (jlong rfl ⟨by omega, by omega⟩)) (by exact rfl) (by exact rfl) (by omega) (by omega) (by omega) (fun c4 => ?_) (fun c4 => ?_)
    · skip
      refine br_1 ?_
      refine ⟨(T 11 2 - 1 : Int).toNat + 1, l_X12_spread_L35 m1 hI h2 (w := w) (by exact rfl)  (fun y5 y6 c7 c8 => ?_)  _ (0) (0) (1) (by omega) (by omega) (by exact topI_1) (by exact topI_1) (by omega)⟩
      · skip
        refine br_eq (w) (0) rfl rfl ⟨by omega, by omega⟩ ⟨by omega, by omega⟩ (fun c12 => ?_) (fun c12 => ?_)
        · skip
          refine s_X12_seatsOf m1 hI h2 (o := y5) (by exact rfl) (by omega) ?_
          have f13 := seatsS_b (T := T) (y5)
          refine s_X12_seatsOf m1 hI h2 (o := y6) (by exact rfl) (by omega) ?_
          have f14 := seatsS_b (T := T) (y6)
          have q : (sprS T w : Int) = (seatsS T y5 - seatsS T y6) := by (unfold sprS; (repeat (first | rw [cif_t (by first | assumption | omega)] | rw [cif_f (by first | assumption | omega)])); try first | omega | (simp only [*]; try omega))
          have h := h _ m1 fr2
          rw [q] at h
          exact pst (jsub rfl rfl) h
        · skip
          refine br_eq (w) (1) rfl rfl ⟨by omega, by omega⟩ ⟨by omega, by omega⟩ (fun c15 => ?_) (fun c15 => ?_)
          · skip
            have q : (sprS T w : Int) = y5 := by (unfold sprS; (repeat (first | rw [cif_t (by first | assumption | omega)] | rw [cif_f (by first | assumption | omega)])); try first | omega | (simp only [*]; try omega))
            have h := h _ m1 fr2
            rw [q] at h
            exact pst rfl h
          · skip
            have q : (sprS T w : Int) = y6 := by (unfold sprS; (repeat (first | rw [cif_t (by first | assumption | omega)] | rw [cif_f (by first | assumption | omega)])); try first | omega | (simp only [*]; try omega))
            have h := h _ m1 fr2
            rw [q] at h
            exact pst rfl h
    · skip
      refine br_0 ?_
      have q : (sprS T w : Int) = (-1) := by (unfold sprS; (repeat (first | rw [cif_t (by first | assumption | omega)] | rw [cif_f (by first | assumption | omega)])); try first | omega | (simp only [*]; try omega))
      have h := h _ m1 fr2
      rw [q] at h
      exact pst rfl h
