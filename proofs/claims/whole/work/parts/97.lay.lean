abbrev layA (T : Tm) (s p o : Int) : Prop := isPl T s p ∧ isOne T o
noncomputable def layV (T : Tm) (o n : Int) : Int := cif (n = 0) ((jF (T 34 o)).toNat : Int) (T 5 o)
noncomputable def layT (T : Tm) (s p o n : Int) : Tm := cif (layA T s p o ∧ (T 51 s = 1 ↔ n ≠ 0)) (up (up T 52 (20 * s + p) (layV T o n)) 53 (20 * s + p) 1) T
noncomputable def layS (T : Tm) (s p o n : Int) : Int := cif (layA T s p o ∧ (T 51 s = 1 ↔ n ≠ 0)) 1 0
theorem FE_pos {x : UInt32} (h : fOk x) : x.toNat < 2139095040 := by
  obtain ⟨c, q, f, _⟩ := h
  rw [f.1]
  exact fenc_lt f.2
theorem s_X12_lay {U : Um} {T : Tm} (hM : M U T) (hI : I1 T) (h2 : I2 T) (hf : If T) (h5 : I5 T) {a1 a2 a3 a4 : Int32} {s p o n : Int} (e1 : a1 = jI s) (e2 : a2 = jI p) (e3 : a3 = jI o) (e4 : a4 = jI n) (r0 : r32 s) (r1 : r32 p) (r2 : r32 o) (r3 : n = 0 ∨ n = 1) {post : Int32 → Um → Prop} (h : ∀ U2 : Um, M U2 (layT T s p o n) → fM U U2 → uI U2 55 0 = jI (if layA T s p o then 0 else 1) → post (jI (layS T s p o n)) U2) : w_X12_lay 55 a1 a2 a3 a4 U post := by
  unfold w_X12_lay
  subst e1; subst e2; subst e3; subst e4
  have hn := I_n hI
  intro V hV
  have hMV : M V T := by rw [hV]; exact M_xI hM
  have hFV : fM U V := by rw [hV]; exact fM_sI
  have tV : uI V 55 0 = 0 := by rw [hV, uI_sI, if_pos ⟨rfl, rfl⟩]
  have bad : ¬ layA T s p o → ∀ Wm : Um, Wm = sI V 55 0 1 → post 0 Wm := by
    intro q Wm hW
    have q2 : ¬ (layA T s p o ∧ (T 51 s = 1 ↔ n ≠ 0)) := fun z => q z.1
    have := h Wm (by unfold layT; rw [cif_f q2, hW]; exact M_xI hMV) (by rw [hW]; exact fM_trans hFV fM_sI) (by rw [if_neg q, hW, uI_sI, if_pos ⟨rfl, rfl⟩]; rfl)
    unfold layS at this
    rw [cif_f q2] at this
    exact this
  refine s_X12_isPlace hMV hI h2 (s := s) (p := p) rfl rfl r0 r1 h5 (fun c1 => ?_) (fun c1 => br_0 (bad (fun q => c1 q.1)))
  refine br_1 ?_
  refine s_X12_isOne hMV hI h2 (o := o) rfl r2 (fun c2 => ?_) (fun c2 => br_0 (bad (fun q => c2 q.2)))
  refine br_1 ?_
  have ok : layA T s p o := ⟨c1, c2⟩
  have b5 := h5 s (by omega) (by omega)
  refine ⟨jvp s rfl (by omega) (by omega) (by decide), ?_⟩
  have r51 : uA V 55 51 (Int32.toNatClampNeg (jI s)) = jI (T 51 s) := rdA (M_A hMV 51 3) s rfl (by omega) (by omega)
  have no : ¬ (T 51 s = 1 ↔ n ≠ 0) → post 0 V := by
    intro q
    have q2 : ¬ (layA T s p o ∧ (T 51 s = 1 ↔ n ≠ 0)) := fun z => q z.2
    have := h V (by unfold layT; rw [cif_f q2]; exact hMV) hFV (by rw [if_pos ok]; exact tV)
    unfold layS at this
    rw [cif_f q2] at this
    exact this
  have store : ∀ (K : Int64 → Um → Prop), (∀ (xs_11 : Int64) (U_12 : Um), (vp_in ((20 * jI s) + jI p) 60 ∧ ∀ (U_13 : Um), U_13 = sJ U_12 55 52 (va_up (uJ U_12 55 52) (Int32.toNatClampNeg ((20 * jI s) + jI p)) xs_11) → vp_in ((20 * jI s) + jI p) 60 ∧ ∀ (U_14 : Um), U_14 = sA U_13 55 53 (va_up (uA U_13 55 53) (Int32.toNatClampNeg ((20 * jI s) + jI p)) 1) → post 1 U_14) → K xs_11 U_12) → (T 51 s = 1 ↔ n ≠ 0) → K (jL (layV T o n)) V := by
    intro K hK c
    refine hK _ V ?_
    refine ⟨jvp (20 * s + p) (jadd (jmul rfl rfl) rfl) (by omega) (by omega) (by decide), ?_⟩
    intro V1 hV1
    have m1 : M V1 (up T 52 (20 * s + p) (layV T o n)) := by rw [hV1]; exact M_sJ hMV (20 * s + p) (layV T o n) (jadd (jmul rfl rfl) rfl) rfl (by omega) (by omega)
    refine ⟨jvp (20 * s + p) (jadd (jmul rfl rfl) rfl) (by omega) (by omega) (by decide), ?_⟩
    intro V2 hV2
    have m2 : M V2 (up (up T 52 (20 * s + p) (layV T o n)) 53 (20 * s + p) 1) := by rw [hV2]; exact M_sA m1 (20 * s + p) 1 (jadd (jmul rfl rfl) rfl) rfl (by omega) (by omega)
    have := h V2 (by unfold layT; rw [cif_t ⟨ok, c⟩]; exact m2) (by rw [hV2, hV1]; exact fM_trans (fM_trans hFV fM_sJ) fM_sA) (by rw [if_pos ok, hV2, uI_sA, hV1, uI_sJ]; exact tV)
    unfold layS at this
    rw [cif_t ⟨ok, c⟩] at this
    exact this
  rcases r3 with z | z
  · subst z
    refine s_one0 ?_
    refine br_eq (T 51 s) 0 r51 rfl ⟨by omega, by omega⟩ ⟨by omega, by omega⟩ (fun c3 => ?_) (fun c3 => no (by omega))
    intro K hK
    refine br_0 ?_
    refine ⟨jvp o rfl (by omega) (by omega) (by decide), ?_⟩
    rw [rdF (M_F hMV 34 10) o rfl (by omega) (by omega)]
    obtain ⟨cc, q, f, _⟩ := hf o c2
    have hb := FE_pos (hf o c2)
    refine s_X12_bitsOf f ?_
    have := store K hK (by omega)
    unfold layV at this
    rw [cif_t rfl] at this
    rw [jlong rfl ⟨by omega, by omega⟩]
    exact this
  · subst z
    refine s_one1 ?_
    refine br_eq (T 51 s) 1 r51 rfl ⟨by omega, by omega⟩ ⟨by omega, by omega⟩ (fun c3 => ?_) (fun c3 => no (by omega))
    intro K hK
    refine br_1 ?_
    refine ⟨jvp o rfl (by omega) (by omega) (by decide), ?_⟩
    rw [rdJ (M_J hMV 5 10) o rfl (by omega) (by omega)]
    have := store K hK (by omega)
    unfold layV at this
    rw [cif_f (by omega)] at this
    exact this
