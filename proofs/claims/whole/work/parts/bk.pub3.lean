/-! the class: one, game, has -/
theorem x_X11_one {U : Um} {T : Tm} {w : Nat} (hC : CC U T w) (hI : I1 T) (h2 : I2 T) {a1 a2 : Int32} {p v : Int} (e1 : a1 = jI p) (e2 : a2 = jI v) (rp : r32 p) (rv : r32 v) {post : Int32 → Um → Prop} (h : post (jI (oneS T p v)) U) : w_X11_one 0 a1 a2 U post := by
  have hn := I_n hI
  unfold oneS at h
  refine ⟨o_2 hC, x_X9_isNamed hC hI h2 (eo := r_02 hC) (k := 2) rfl e1 (by decide) rp (fun c => br_1 ?_) (fun c => br_0 ?_)⟩
  case refine_2 =>
    rw [cif_f c] at h
    exact h
  rw [cif_t c] at h
  have vp : vp_in a1 10 := jvp p e1 c.1 (by omega) (by decide)
  refine ⟨fun d0 d1 d2 d3 d4 d5 d6 => ?_, fun d => ?_, fun d => ?_, fun d => ?_, fun d => ?_, fun d => ?_, fun d => ?_, fun d => ?_⟩
  · have d0 := jne 0 (e2 ▸ d0) rfl
    have d1 := jne 1 (e2 ▸ d1) rfl
    have d2 := jne 2 (e2 ▸ d2) rfl
    have d3 := jne 3 (e2 ▸ d3) rfl
    have d4 := jne 4 (e2 ▸ d4) rfl
    have d5 := jne 5 (e2 ▸ d5) rfl
    have d6 := jne 6 (e2 ▸ d6) rfl
    rw [if_neg d0, if_neg d1, if_neg d2, if_neg d3, if_neg d4, if_neg d5, if_neg d6] at h
    exact h
  · have d := jeq 0 (e2 ▸ d) rfl rv ⟨by decide, by decide⟩
    rw [d] at h
    exact ⟨o_4 hC, vp, pst (c_gr hI hC (r_04 hC) p e1 c.1 c.2) h⟩
  · have d := jeq 1 (e2 ▸ d) rfl rv ⟨by decide, by decide⟩
    rw [d] at h
    exact ⟨o_2 hC, vp, pst (c_o3 hI hC (r_02 hC) p e1 c.1 c.2) h⟩
  · have d := jeq 2 (e2 ▸ d) rfl rv ⟨by decide, by decide⟩
    rw [d] at h
    exact ⟨o_2 hC, vp, pst (c_o4 hI hC (r_02 hC) p e1 c.1 c.2) h⟩
  · have d := jeq 3 (e2 ▸ d) rfl rv ⟨by decide, by decide⟩
    rw [d] at h
    exact ⟨o_2 hC, vp, pst (c_o5 hI hC (r_02 hC) p e1 c.1 c.2) h⟩
  · have d := jeq 4 (e2 ▸ d) rfl rv ⟨by decide, by decide⟩
    rw [d] at h
    exact ⟨o_4 hC, vp, pst (c_mk hI hC (r_04 hC) p e1 c.1 c.2) h⟩
  · have d := jeq 5 (e2 ▸ d) rfl rv ⟨by decide, by decide⟩
    rw [d] at h
    refine ⟨o_4 hC, vp, pst (x := (FP.f2i (jF (T 34 p))).toInt) ?_ h⟩
    rw [jI_of, c_fo hI hC (r_04 hC) p e1 c.1 c.2]
  · have d := jeq 6 (e2 ▸ d) rfl rv ⟨by decide, by decide⟩
    rw [d] at h
    exact ⟨o_4 hC, vp, x_held hC hI h2 (r_04 hC) p e1 c.1 c.2 h⟩
theorem x_X11_game {U : Um} {T : Tm} {w : Nat} (hC : CC U T w) (hI : I1 T) (h2 : I2 T) {a1 a2 : Int32} {g v : Int} (e1 : a1 = jI g) (e2 : a2 = jI v) (rg : r32 g) (rv : r32 v) {post : Int32 → Um → Prop} (h : post (jI (gameS T g v)) U) : w_X11_game 0 a1 a2 U post := by
  have hn := I_n hI
  unfold gameS at h
  refine ⟨o_2 hC, x_X9_isGame hC hI h2 (eo := r_02 hC) e1 rg (fun c => br_1 ?_) (fun c => br_0 ?_)⟩
  case refine_2 =>
    rw [cif_f (fun q => c q.1)] at h
    exact h
  have c1 := c.2
  have q := r_g hC (r_02 hC) g e1 c.1 (by omega)
  refine ⟨o_2 hC, jvp g e1 c.1 (by omega) (by decide), oc_of q (oc_g hC.1.1 (by omega)), ?_⟩
  have rd : ∀ (k : Nat), k < 8 → v = (k : Int) → post (uI U (uAR U (uR U 0 2) 6 (Int32.toNatClampNeg a1)) k) U := fun k hk e => by
    rw [cif_t ⟨c, by omega, by omega⟩, cif_t (by omega), e] at h
    exact pst (c_g hC q k c.1 c.2 hk) h
  refine ⟨fun d0 d1 d2 d3 d4 d5 d6 d7 d8 => ?_, fun d => rd 0 (by decide) (jeq 0 (e2 ▸ d) rfl rv ⟨by decide, by decide⟩), fun d => rd 1 (by decide) (jeq 1 (e2 ▸ d) rfl rv ⟨by decide, by decide⟩), fun d => rd 2 (by decide) (jeq 2 (e2 ▸ d) rfl rv ⟨by decide, by decide⟩), fun d => rd 3 (by decide) (jeq 3 (e2 ▸ d) rfl rv ⟨by decide, by decide⟩), fun d => rd 4 (by decide) (jeq 4 (e2 ▸ d) rfl rv ⟨by decide, by decide⟩), fun d => rd 5 (by decide) (jeq 5 (e2 ▸ d) rfl rv ⟨by decide, by decide⟩), fun d => rd 6 (by decide) (jeq 6 (e2 ▸ d) rfl rv ⟨by decide, by decide⟩), fun d => rd 7 (by decide) (jeq 7 (e2 ▸ d) rfl rv ⟨by decide, by decide⟩), fun d => ?_⟩
  · have d0 := jne 0 (e2 ▸ d0) rfl
    have d1 := jne 1 (e2 ▸ d1) rfl
    have d2 := jne 2 (e2 ▸ d2) rfl
    have d3 := jne 3 (e2 ▸ d3) rfl
    have d4 := jne 4 (e2 ▸ d4) rfl
    have d5 := jne 5 (e2 ▸ d5) rfl
    have d6 := jne 6 (e2 ▸ d6) rfl
    have d7 := jne 7 (e2 ▸ d7) rfl
    have d8 := jne 8 (e2 ▸ d8) rfl
    rw [cif_f (by omega)] at h
    exact h
  · have d := jeq 8 (e2 ▸ d) rfl rv ⟨by decide, by decide⟩
    rw [cif_t ⟨c, by omega, by omega⟩, cif_f (by omega)] at h
    refine ⟨o_4 hC, x_X6_isPlayed hC hI h2 (eo := r_04 hC) e1 c.1 c.2 (fun c4 => br_1 ?_) (fun c4 => br_0 ⟨o_4 hC, ?_⟩)⟩
    · rw [cif_t c4] at h
      exact h
    rw [cif_f c4] at h
    refine x_X6_isLate hC hI h2 (eo := r_04 hC) e1 c.1 c.2 (fun c5 => br_1 ?_) (fun c5 => br_0 ?_)
    · rw [cif_t c5] at h
      exact h
    · rw [cif_f c5] at h
      exact h
theorem x_X11_has {U : Um} {T : Tm} {w : Nat} (hA : CA U T w) (hI : I1 T) (h2 : I2 T) {a1 : Int32} {v : Int} (e1 : a1 = jI v) (rv : r32 v) {post : Int32 → Um → Prop} (h : post (jI (hasS T v)) U) : w_X11_has 0 a1 U post := by
  have hn := I_n hI
  have hC := hA.1
  unfold hasS at h
  refine ⟨fun d0 d1 d2 d3 d4 d5 d6 d7 d8 d9 da => ?_, fun d => ?_, fun d => ?_, fun d => ?_, fun d => ?_, fun d => ?_, fun d => ?_, fun d => ?_, fun d => ?_, fun d => ?_, fun d => ?_, fun d => ?_⟩
  · have d0 := jne 0 (e1 ▸ d0) rfl
    have d1 := jne 1 (e1 ▸ d1) rfl
    have d2 := jne 2 (e1 ▸ d2) rfl
    have d3 := jne 3 (e1 ▸ d3) rfl
    have d4 := jne 4 (e1 ▸ d4) rfl
    have d5 := jne 5 (e1 ▸ d5) rfl
    have d6 := jne 6 (e1 ▸ d6) rfl
    have d7 := jne 7 (e1 ▸ d7) rfl
    have d8 := jne 8 (e1 ▸ d8) rfl
    have d9 := jne 9 (e1 ▸ d9) rfl
    have da := jne 10 (e1 ▸ da) rfl
    rw [if_neg (by omega), if_neg d6, if_neg d7, if_neg d8, if_neg d9, if_neg da] at h
    exact h
  · have d := jeq 0 (e1 ▸ d) rfl rv ⟨by decide, by decide⟩
    rw [d] at h
    exact ⟨o_2 hC, jvp 0 rfl (by decide) (by decide) (by decide), pst (c_n hC (r_02 hC) 0 rfl (by decide) (by decide)) h⟩
  · have d := jeq 1 (e1 ▸ d) rfl rv ⟨by decide, by decide⟩
    rw [d] at h
    exact ⟨o_2 hC, jvp 1 rfl (by decide) (by decide) (by decide), pst (c_n hC (r_02 hC) 1 rfl (by decide) (by decide)) h⟩
  · have d := jeq 2 (e1 ▸ d) rfl rv ⟨by decide, by decide⟩
    rw [d] at h
    exact ⟨o_2 hC, jvp 2 rfl (by decide) (by decide) (by decide), pst (c_n hC (r_02 hC) 2 rfl (by decide) (by decide)) h⟩
  · have d := jeq 3 (e1 ▸ d) rfl rv ⟨by decide, by decide⟩
    rw [d] at h
    exact ⟨o_2 hC, pst (c_n7 hC (r_02 hC)) h⟩
  · have d := jeq 4 (e1 ▸ d) rfl rv ⟨by decide, by decide⟩
    rw [d] at h
    exact ⟨o_2 hC, pst (c_n8 hC (r_02 hC)) h⟩
  · have d := jeq 5 (e1 ▸ d) rfl rv ⟨by decide, by decide⟩
    rw [d] at h
    exact ⟨o_2 hC, pst (c_n9 hC (r_02 hC)) h⟩
  · have d := jeq 6 (e1 ▸ d) rfl rv ⟨by decide, by decide⟩
    rw [d] at h
    exact ⟨o_4 hC, pst (c_t hC (r_04 hC)) h⟩
  · have d := jeq 7 (e1 ▸ d) rfl rv ⟨by decide, by decide⟩
    rw [d] at h
    exact ⟨o_2 hC, x_seats hC hI (r_02 hC) h⟩
  · have d := jeq 8 (e1 ▸ d) rfl rv ⟨by decide, by decide⟩
    rw [d] at h
    exact ⟨o_4 hC, x_taken hC hI h2 (r_04 hC) h⟩
  · have d := jeq 9 (e1 ▸ d) rfl rv ⟨by decide, by decide⟩
    rw [d] at h
    obtain ⟨old, _, _, u9, _⟩ := hA.2.2.1
    exact pst u9 h
  · have d := jeq 10 (e1 ▸ d) rfl rv ⟨by decide, by decide⟩
    rw [d] at h
    rw [r_00 hC]
    exact ⟨rfl, pst hA.2.2.2.1.1.1 h⟩
