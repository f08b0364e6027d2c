theorem s_X12_shelf {U : Um} {T : Tm} (hM : M U T) {a1 a2 a3 : Int32} {s w n : Int} (e1 : a1 = jI s) (e2 : a2 = jI w) (e3 : a3 = jI n) (p0 : r32 s) (p1 : r32 w) (p2 : r32 n) {post : Int32 → Um → Prop} (h : ∀ U2 : Um, M U2 (shT T s w n) → fM U U2 → uI U2 55 0 = jI (shTh s w n) → post (jI (if shTh s w n = 0 then n else 0)) U2) : w_X12_shelf 55 a1 a2 a3 U post := by
  unfold w_X12_shelf
  subst e1; subst e2; subst e3
  intro V hV
  have hMV : M V T := by rw [hV]; exact M_xI hM
  have hFV : fM U V := by rw [hV]; exact fM_sI
  have tV : uI V 55 0 = 0 := by rw [hV, uI_sI, if_pos ⟨rfl, rfl⟩]
  have bad : ∀ (th : Int), shTh s w n = th → (th = 1 ∨ th = 2) → ∀ Wm : Um, Wm = sI V 55 0 (jI th) → ((uI Wm 55 0) = 0 → vp_in (jI s) 3 ∧ ∀ (U_6 : Um), U_6 = sA Wm 55 51 (va_up (uA Wm 55 51) (Int32.toNatClampNeg (jI s)) (jI w)) → vp_in (jI s) 3 ∧ ∀ (U_7 : Um), U_7 = sA U_6 55 50 (va_up (uA U_6 55 50) (Int32.toNatClampNeg (jI s)) (jI n)) → (∃ n_11, w_X12_shelf_L78 55 (jI s) (jI n) post (fun U_10 => post (jI n) U_10) n_11 0 U_7)) ∧ (¬ (uI Wm 55 0) = 0 → post 0 Wm) := by
    intro th e ht Wm hW
    have tW : uI Wm 55 0 = jI th := by rw [hW, uI_sI, if_pos ⟨rfl, rfl⟩]
    refine br_eq th 0 tW rfl ⟨by omega, by omega⟩ ⟨by omega, by omega⟩ (fun c => by omega) (fun c => ?_)
    have := h Wm (by unfold shT; rw [cif_f (by omega), hW]; exact M_xI hMV) (by rw [hW]; exact fM_trans hFV fM_sI) (by rw [tW, e])
    rw [if_neg (by omega)] at this
    exact this
  refine s_X12_isIn (a := s) (lo := 0) (hi := 2) (by exact jlong rfl p0) (by exact rfl) (by exact rfl) ⟨by omega, by omega⟩ ⟨by omega, by omega⟩ ⟨by omega, by omega⟩ (fun c1 => ?_) (fun c1 => ?_)
  · intro K hK
    refine br_1 ?_
    refine s_X12_isIn (a := w) (lo := 0) (hi := 1) (by exact jlong rfl p1) (by exact rfl) (by exact rfl) ⟨by omega, by omega⟩ ⟨by omega, by omega⟩ ⟨by omega, by omega⟩ (fun c2 => ?_) (fun c2 => ?_)
    · refine br_1 ?_
      refine s_X12_isIn (a := n) (lo := 0) (hi := 20) (by exact jlong rfl p2) (by exact rfl) (by exact rfl) ⟨by omega, by omega⟩ ⟨by omega, by omega⟩ ⟨by omega, by omega⟩ (fun c3 => ?_) (fun c3 => ?_)
      · refine br_1 ?_
        refine hK V ?_
        have ht : shTh s w n = 0 := by
          unfold shTh
          rw [if_pos c1, if_pos ⟨c2, c3⟩]
        refine br_eq 0 0 tV rfl ⟨by omega, by omega⟩ ⟨by omega, by omega⟩ (fun _ => ?_) (fun c => absurd rfl c)
        refine ⟨jvp s rfl (by omega) (by omega) (by decide), ?_⟩
        intro V1 hV1
        have m1 : M V1 (up T 51 s w) := by rw [hV1]; exact M_sA hMV s w rfl rfl (by omega) (by omega)
        refine ⟨jvp s rfl (by omega) (by omega) (by decide), ?_⟩
        intro V2 hV2
        have m2 : M V2 (up (up T 51 s w) 50 s n) := by rw [hV2]; exact M_sA m1 s n rfl rfl (by omega) (by omega)
        have t2 : uI V2 55 0 = 0 := by rw [hV2, uI_sA, hV1, uI_sA]; exact tV
        have f2 : fM U V2 := by rw [hV2, hV1]; exact fM_trans (fM_trans hFV fM_sA) fM_sA
        refine ⟨(20 - 0 : Int).toNat + 1, l_X12_shelf_L78 m2 (s := s) (n := n) rfl rfl (by omega) (by omega) (fun V3 m3 f3 t3 => ?_) _ 0 V2 (by rw [blk_0]; exact m2) fM_rfl (by omega) (by omega) t2 (by omega)⟩
        have := h V3 (by unfold shT; rw [cif_t ht]; exact m3) (fM_trans f2 f3) (by rw [t3, ht]; rfl)
        rw [if_pos ht] at this
        exact this
      · refine br_0 ?_
        intro Wm hW
        exact hK Wm (bad 2 (by unfold shTh; rw [if_pos c1, if_neg (fun q => c3 q.2)]) (Or.inr rfl) Wm hW)
    · refine br_0 ?_
      intro Wm hW
      exact hK Wm (bad 2 (by unfold shTh; rw [if_pos c1, if_neg (fun q => c2 q.1)]) (Or.inr rfl) Wm hW)
  · intro K hK
    refine br_0 ?_
    intro Wm hW
    exact hK Wm (bad 1 (by unfold shTh; rw [if_neg c1]) (Or.inl rfl) Wm hW)
theorem s_X12_look {U : Um} {T : Tm} (hM : M U T) (hI : I1 T) (h2 : I2 T) (h5 : I5 T) {a1 a2 : Int32} {s p : Int} (e1 : a1 = jI s) (e2 : a2 = jI p) (p0 : r32 s) (p1 : r32 p) (p2 : ∀ k, 0 ≤ k → k < 60 → 0 ≤ T 53 k ∧ T 53 k ≤ 1) {post : Int64 → Um → Prop} (h : ∀ U2 : Um, M U2 T → fM U U2 → uI U2 55 0 = jI (if isPl T s p then 0 else 1) → post (jL (lookS T s p)) U2) : w_X12_look 55 a1 a2 U post := by
  unfold w_X12_look
  subst e1; subst e2
  intro V hV
  have hMV : M V T := by rw [hV]; exact M_xI hM
  have hFV : fM U V := by rw [hV]; exact fM_sI
  have tV : uI V 55 0 = 0 := by rw [hV, uI_sI, if_pos ⟨rfl, rfl⟩]
  refine s_X12_isPlace hMV hI h2 (s := s) (p := p) rfl rfl p0 p1 h5 (fun c => ?_) (fun c => ?_)
  · refine br_1 ?_
    have b := h5 s (by omega) (by omega)
    have c53 := p2 (20 * s + p) (by omega) (by omega)
    refine ⟨jvp (20 * s + p) (jadd (jmul rfl rfl) rfl) (by omega) (by omega) (by decide), ?_⟩
    have := h V hMV hFV (by rw [if_pos c]; exact tV)
    unfold lookS at this
    rw [cif_t c] at this
    refine br_eq (T 53 (20 * s + p)) 0 (rdA (M_A hMV 53 60) (20 * s + p) (jadd (jmul rfl rfl) rfl) (by omega) (by omega)) rfl ⟨by omega, by omega⟩ ⟨by omega, by omega⟩ (fun q => ?_) (fun q => ?_)
    · rw [if_pos q] at this
      exact this
    · rw [if_neg q] at this
      refine ⟨jvp (20 * s + p) (jadd (jmul rfl rfl) rfl) (by omega) (by omega) (by decide), ?_⟩
      exact psl (rdJ (M_J hMV 52 60) (20 * s + p) (jadd (jmul rfl rfl) rfl) (by omega) (by omega)) this
  · refine br_0 ?_
    intro Wm hW
    have := h Wm (by rw [hW]; exact M_xI hMV) (by rw [hW]; exact fM_trans hFV fM_sI) (by rw [if_neg c, hW, uI_sI, if_pos ⟨rfl, rfl⟩]; rfl)
    unfold lookS at this
    rw [cif_f c] at this
    exact this
