theorem s_X12_crew {U : Um} {T : Tm} (hM : M U T) (hI : I1 T) (h2 : I2 T) {a1 a2 : Int32} {g w : Int} (e1 : a1 = jI g) (e2 : a2 = jI w) (p0 : r32 g) (p1 : r32 w) {post : Int32 → Um → Prop} (h : ∀ U2 : Um, M U2 T → fM U U2 → post (jI (crewS T g w)) U2) : w_X12_crew 55 a1 a2 U post := by
  unfold w_X12_crew
  subst e1; subst e2
  have hn := I_n hI
  intro V hV
  have hMV : M V T := by rw [hV]; exact M_xI hM
  have hFV : fM U V := by rw [hV]; exact fM_sI
  have no : ¬ (isGame T g ∧ ¬ gm T g 3 < T 35 0 ∧ 0 ≤ w ∧ w ≤ gm T g 7) → post (-1) V := by
    intro q
    have := h V hMV hFV
    unfold crewS at this
    rw [cif_f q] at this
    exact this
  refine s_X12_isGame hMV hI h2 (g := g) rfl p0 (fun c1 => ?_) (fun c1 => br_0 (no (fun q => c1 q.1)))
  refine br_1 ?_
  have hgk := I_g hI g c1.1 c1.2
  unfold gOk at hgk
  refine s_X12_isPlayed hMV hI h2 (g := g) rfl c1.1 c1.2 (fun c2 => br_1 (no (fun q => q.2.1 c2))) (fun c2 => ?_)
  refine br_0 ?_
  refine s_X12_of hMV hI h2 (g := g) (k := 7) rfl rfl (by omega) (by omega) (by omega) (by omega) ?_
  refine s_X12_isIn (a := w) (lo := 0) (hi := gm T g 7) (by exact jlong rfl p1) (by exact rfl) (by exact jlong rfl ⟨by omega, by omega⟩) ⟨by omega, by omega⟩ ⟨by omega, by omega⟩ ⟨by omega, by omega⟩ (fun c3 => ?_) (fun c3 => br_0 (no (fun q => c3 q.2.2)))
  refine br_1 ?_
  intro W hW
  have c : isGame T g ∧ ¬ gm T g 3 < T 35 0 ∧ 0 ≤ w ∧ w ≤ gm T g 7 := ⟨c1, c2, c3⟩
  refine l_crews g (gm T g 7).toNat 4 (by omega) T 0 0 W (0, 0, fun _ => 0) _ (by rw [hW]; exact M_xI hMV) hI h2 c1 (by omega) (by omega) (by omega) ⟨Or.inl rfl, by rw [hW, uI_sI, if_pos ⟨rfl, rfl⟩]; rfl, fun q => absurd rfl q⟩ (fun j a b => by omega) (fun V2 m2 f2 w2 _ => ?_)
  have := h V2 m2 (fM_trans (fM_trans hFV (by rw [hW]; exact fM_sI)) f2)
  unfold crewS at this
  rw [cif_t c] at this
  refine br_eq (crw0 T g).1 0 w2.2.1 rfl (by have z := w2.1; unfold crw0; rcases z with z | z <;> rw [z] <;> exact ⟨by omega, by omega⟩) ⟨by omega, by omega⟩ (fun q => ?_) (fun q => ?_)
  · rw [if_pos q] at this
    exact this
  · rw [if_neg q] at this
    have w3 := w2.2.2 q
    refine br_eq w 0 rfl rfl p1 ⟨by omega, by omega⟩ (fun q2 => ?_) (fun q2 => ?_)
    · rw [if_pos q2] at this
      exact pst w3.1 this
    · rw [if_neg q2] at this
      refine ⟨jvp (w - 1) (jsub rfl rfl) (by omega) (by omega) (by decide), ?_⟩
      refine pst ?_ this
      rw [show jI w - 1 = jI (w - 1) from jsub rfl rfl, jI_nat (by omega) (by omega)]
      exact w3.2.2 (w - 1) (by omega) (by omega)
