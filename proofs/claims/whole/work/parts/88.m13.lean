/-! the reference, faults -/
set_option maxHeartbeats 8000000 in
theorem s_X12_fault {U : Um} {T : Tm} (hM : M U T) {a1 : Int32} {w : Int} (e_a1 : a1 = jI w) (p0 : r32 w) {post : Int32 → Um → Prop} (h : ∀ U2 : Um, M U2 T → fM U U2 → post (jI (cif (w = 0) (T 18 0) (cif (w = 1) (T 19 0) (-1)))) U2) : w_X12_fault 55 a1 U post := by
  unfold w_X12_fault
  subst e_a1
  intro U_1 hU_1
  have m1 : M U_1 T := by rw [hU_1]; exact M_xI hM
  have th3 : uI U_1 55 0 = jI (0) := by rw [hU_1, uI_sI, if_pos ⟨rfl, rfl⟩]; exact rfl
  have fr2 : fM U U_1 := by rw [hU_1]; exact fM_trans fM_rfl fM_sI
  refine br_eq (w) (0) rfl rfl ⟨by omega, by omega⟩ ⟨by omega, by omega⟩ (fun c4 => ?_) (fun c4 => ?_)
  · skip
    have q : (cif (w = 0) (T 18 0) (cif (w = 1) (T 19 0) (-1)) : Int) = (T 18 0) := by ((repeat (first | rw [cif_t (by first | assumption | omega)] | rw [cif_f (by first | assumption | omega)])))
    have h := h _ m1 fr2
    rw [q] at h
    exact pst (M_S m1 18) h
  · skip
    refine br_eq (w) (1) rfl rfl ⟨by omega, by omega⟩ ⟨by omega, by omega⟩ (fun c5 => ?_) (fun c5 => ?_)
    · skip
      have q : (cif (w = 0) (T 18 0) (cif (w = 1) (T 19 0) (-1)) : Int) = (T 19 0) := by ((repeat (first | rw [cif_t (by first | assumption | omega)] | rw [cif_f (by first | assumption | omega)])))
      have h := h _ m1 fr2
      rw [q] at h
      exact pst (M_S m1 19) h
    · skip
      have q : (cif (w = 0) (T 18 0) (cif (w = 1) (T 19 0) (-1)) : Int) = (-1) := by ((repeat (first | rw [cif_t (by first | assumption | omega)] | rw [cif_f (by first | assumption | omega)])))
      have h := h _ m1 fr2
      rw [q] at h
      exact pst rfl h
