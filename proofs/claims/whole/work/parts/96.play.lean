noncomputable def playT (T : Tm) (z : Int32) : Tm := cif (T 35 0 = 7) T (plyS (up (keepT T) 35 0 (T 35 0 + 1)) (T 35 0) z 48).2.2
noncomputable def playS (T : Tm) (z : Int32) : Int := cif (T 35 0 = 7) (-1) (plyS (up (keepT T) 35 0 (T 35 0 + 1)) (T 35 0) z 48).2.1
theorem l_play37 {T : Tm} (hI : I1 T) (h2 : I2 T) (hf : If T) {d : Int} (hd : d = T 35 0 - 1) (z : Int32) {post : Int32 → Um → Prop} {k_123 : Int32 → Um → Prop} {U0 : Um} (hk : ∀ V : Um, M V (plyS T d z 48).2.2 → fM U0 V → k_123 (jI (plyS T d z 48).2.1) V) : ∀ (fu : Nat) (k : Int) (U : Um), M U (plyS T d z k).2.2 → fM U0 U → 0 ≤ k → k ≤ 48 → (48 - k).toNat < fu → w_X12_play_L37 55 post k_123 fu (plyS T d z k).1 (jI (plyS T d z k).2.1) (jI k) U := by
  intro fu
  have hn := I_n hI
  have ht := I_t h2
  induction fu with
  | zero => intro k U hM hF h3 h4 h6; exact absurd h6 (Nat.not_lt_zero _)
  | succ fu ih =>
    intro k U hM hF h3 h4 h6
    show b_X12_play_L37 55 post k_123 (w_X12_play_L37 55 post k_123 fu) (plyS T d z k).1 (jI (plyS T d z k).2.1) (jI k) U
    unfold b_X12_play_L37
    refine br_le 48 k rfl rfl ⟨by omega, by omega⟩ ⟨by omega, by omega⟩ (fun c => ?_) (fun c => ?_)
    · rw [show k = 48 by omega] at hM ⊢
      exact hk U hM hF
    obtain ⟨i1, i2, i3, i4, i5⟩ := ply_i (d := d) (z := z) hI h2 hf h3 h4
    have dv : jI k / 3 = jI (k / 3) := jdiv rfl rfl ⟨by omega, by omega⟩ ⟨by omega, by omega⟩ (by omega) (by omega)
    have rm : jI k - jI k / 3 * 3 = jI (k % 3) := jrem rfl rfl ⟨by omega, by omega⟩ ⟨by omega, by omega⟩ (by omega) (by omega)
    have eg : ∀ g k2, gm (plyS T d z k).2.2 g k2 = gm T g k2 := fun g k2 => i5 10 _ (by omega)
    have e30 := i5 30 k (by omega)
    have e35 := i5 35 0 (by omega)
    have e11 := i5 11 3 (by omega)
    have nx : ¬ onD T d k → ∀ x4 : Int32, x4 = jI k + 1 → w_X12_play_L37 55 post k_123 fu (plyS T d z k).1 (jI (plyS T d z k).2.1) x4 U := by
      intro q
      refine al_i (k + 1) (jadd rfl rfl) ?_
      have := ih (k + 1) U (by rw [ply_s h3, cif_f q]; exact hM) hF (by omega) (by omega) (by omega)
      rw [ply_s h3, cif_f q] at this
      exact this
    have seatE : isSeat (plyS T d z k).2.2 (k / 3) (k % 3) ↔ isSeat T (k / 3) (k % 3) := by
      unfold isSeat isGame
      rw [e11, eg]
    refine s_X12_isSeat hM i1 i2 (g := k / 3) (s := k % 3) dv rm ⟨by omega, by omega⟩ ⟨by omega, by omega⟩ (fun c1 => ?_) (fun c1 => br_0 (nx (fun q => c1 (seatE.mpr q.1))))
    refine br_1 ?_
    have c1' := seatE.mp c1
    have hkk := I_k h2 k h3 c
    refine ⟨jvp k rfl h3 (by omega) (by decide), ?_⟩
    refine br_eq (T 30 k) (-1) (by rw [← e30]; exact rdA (M_A hM 30 48) k rfl h3 (by omega)) rfl ⟨by omega, by omega⟩ ⟨by omega, by omega⟩ (fun c2 => nx (fun q => q.2.1 c2)) (fun c2 => ?_)
    have gk := I_g hI (k / 3) c1'.1.1 c1'.1.2
    unfold gOk at gk
    refine s_X12_of hM i1 i2 (g := k / 3) (k := 3) dv rfl (by omega) (by omega) (by omega) (by omega) ?_
    rw [eg]
    refine br_eq (gm T (k / 3) 3) (T 35 0 - 1) rfl (jsub (by rw [← e35]; exact M_S hM 35) rfl) ⟨by omega, by omega⟩ ⟨by omega, by omega⟩ (fun c3 => ?_) (fun c3 => nx (fun q => c3 (by rw [q.2.2, hd])))
    have on1 : onD T d k := ⟨c1', c2, by rw [c3, hd]⟩
    intro x2 hx2
    have hx3 : x2 = nxtZ (plyS T d z k).1 := hx2
    have hl := lotS_b x2
    refine s_X12_marks hM i1 i2 i3 (k := k) (m := lotS x2) rfl (lot_e x2) h3 c (by rw [e30]; exact c2) hl.1 hl.2 (fun V mV fV => ?_)
    refine al_i ((plyS T d z k).2.1 + 1) (jadd rfl rfl) ?_
    refine al_i (k + 1) (jadd rfl rfl) ?_
    have := ih (k + 1) V (by rw [ply_s h3, cif_t on1, ← hx3]; exact mV) (fM_trans hF fV) (by omega) (by omega) (by omega)
    rw [ply_s h3, cif_t on1, ← hx3] at this
    exact this
theorem If_keep {T : Tm} (h : If T) : If (keepT T) := fun o ho => by
  rw [keep_nf (by decide)]
  exact h o ho
theorem I2_day {T : Tm} {v : Int} (h : I2 T) (hv : -1 ≤ v ∧ v ≤ 7) : I2 (up T 35 0 v) := by
  obtain ⟨a, b, c, d, t⟩ := h
  exact ⟨a, b, c, d, hv⟩
theorem s_X12_play {U : Um} {T : Tm} (hM : M U T) (hI : I1 T) (h2 : I2 T) (hf : If T) (p0 : 0 ≤ T 38 0) (p1 : T 38 0 ≤ 8) {z : Int32} {post : Int32 → Um → Prop} (h : ∀ U2 : Um, M U2 (playT T z) → fM U U2 → post (jI (playS T z)) U2) : w_X12_play 55 z U post := by
  unfold w_X12_play
  have ht := I_t h2
  intro V hV
  have hMV : M V T := by rw [hV]; exact M_xI hM
  have hFV : fM U V := by rw [hV]; exact fM_sI
  unfold playT playS at h
  refine br_eq (T 35 0) 7 (M_S hMV 35) rfl ⟨by omega, by omega⟩ ⟨by omega, by omega⟩ (fun c => ?_) (fun c => ?_)
  · rw [cif_t c, cif_t c] at h
    exact h V hMV hFV
  rw [cif_f c, cif_f c] at h
  refine s_X12_keeps hMV p0 p1 (fun V1 m1 f1 => ?_)
  intro V2 hV2
  have r35 : uI V1 55 35 = jI (T 35 0) := M_S m1 35
  have m2 : M V2 (up (keepT T) 35 0 (T 35 0 + 1)) := by
    rw [hV2]
    exact M_sI m1 (T 35 0 + 1) (jadd r35 rfl)
  intro x2 hx2
  subst hx2
  have hI2 : I1 (up (keepT T) 35 0 (T 35 0 + 1)) := I1_up (by omega) (I1_keep hI)
  have h22 : I2 (up (keepT T) 35 0 (T 35 0 + 1)) := I2_day (I2_keep h2) ⟨by omega, by omega⟩
  have hf2 : If (up (keepT T) 35 0 (T 35 0 + 1)) := If_keep hf
  refine ⟨(48 - 0 : Int).toNat + 1, l_play37 hI2 h22 hf2 (d := T 35 0) (by rw [up_eq]; omega) x2 (U0 := U) (fun V3 m3 f3 => h V3 m3 f3) _ 0 V2 m2 ?_ (by omega) (by omega) (by omega)⟩
  rw [hV2]
  exact fM_trans (fM_trans hFV f1) fM_sI
abbrev mkOk (T : Tm) (g s m : Int) : Prop := isSeat T g s ∧ T 30 (3 * g + s) ≠ -1 ∧ gm T g 3 < T 35 0 ∧ T 31 (3 * g + s) = -1 ∧ 0 ≤ m ∧ m ≤ 100
noncomputable def mrkT (T : Tm) (g s m : Int) : Tm := cif (mkOk T g s m) (markT (keepT T) (3 * g + s) m) T
noncomputable def mrkS (T : Tm) (g s m : Int) : Int := cif (mkOk T g s m) (FP.f2i (mkF (jF (T 34 (T 30 (3 * g + s)))) m)).toInt (-1)
theorem s_X12_mark {U : Um} {T : Tm} (hM : M U T) (hI : I1 T) (h2 : I2 T) (hf : If T) {a1 a2 a3 : Int32} {g s m : Int} (e1 : a1 = jI g) (e2 : a2 = jI s) (e3 : a3 = jI m) (r0 : r32 g) (r1 : r32 s) (r2 : r32 m) (p0 : 0 ≤ T 38 0) (p1 : T 38 0 ≤ 8) {post : Int32 → Um → Prop} (h : ∀ U2 : Um, M U2 (mrkT T g s m) → fM U U2 → post (jI (mrkS T g s m)) U2) : w_X12_mark 55 a1 a2 a3 U post := by
  unfold w_X12_mark
  subst e1; subst e2; subst e3
  have hn := I_n hI
  intro V hV
  have hMV : M V T := by rw [hV]; exact M_xI hM
  have hFV : fM U V := by rw [hV]; exact fM_sI
  have no : ¬ mkOk T g s m → post (-1) V := by
    intro q
    have := h V (by unfold mrkT; rw [cif_f q]; exact hMV) hFV
    unfold mrkS at this
    rw [cif_f q] at this
    exact this
  refine s_X12_isSeat hMV hI h2 (g := g) (s := s) rfl rfl r0 r1 (fun c1 => ?_) (fun c1 => br_0 (no (fun q => c1 q.1)))
  refine br_1 ?_
  have q1 := seat3 hI c1
  have hk := I_k h2 (3 * g + s) (by omega) (by omega)
  have hg := h2.2.2.1 (3 * g + s) (by omega) (by omega)
  refine s_X12_at (g := g) (s := s) rfl rfl ?_
  refine ⟨jvp (3 * g + s) rfl (by omega) (by omega) (by decide), ?_⟩
  refine br_eq (T 30 (3 * g + s)) (-1) (rdA (M_A hMV 30 48) (3 * g + s) rfl (by omega) (by omega)) rfl ⟨by omega, by omega⟩ ⟨by omega, by omega⟩ (fun c2 => no (fun q => q.2.1 c2)) (fun c2 => ?_)
  refine s_X12_isPlayed hMV hI h2 (g := g) rfl c1.1.1 c1.1.2 (fun c3 => ?_) (fun c3 => br_0 (no (fun q => c3 q.2.2.1)))
  refine br_1 ?_
  refine s_X12_at (g := g) (s := s) rfl rfl ?_
  refine ⟨jvp (3 * g + s) rfl (by omega) (by omega) (by decide), ?_⟩
  refine br_eq (T 31 (3 * g + s)) (-1) (rdA (M_A hMV 31 48) (3 * g + s) rfl (by omega) (by omega)) rfl ⟨by omega, by omega⟩ ⟨by omega, by omega⟩ (fun c4 => ?_) (fun c4 => no (fun q => c4 q.2.2.2.1))
  refine s_X12_isIn (a := m) (lo := 0) (hi := 100) (by exact jlong rfl r2) (by exact rfl) (by exact rfl) ⟨by omega, by omega⟩ ⟨by omega, by omega⟩ ⟨by omega, by omega⟩ (fun c5 => ?_) (fun c5 => br_0 (no (fun q => c5 q.2.2.2.2)))
  refine br_1 ?_
  have ok : mkOk T g s m := ⟨c1, c2, c3, c4, c5⟩
  refine s_X12_keeps hMV p0 p1 (fun V1 m1 f1 => ?_)
  refine s_X12_at (g := g) (s := s) rfl rfl ?_
  refine s_X12_marks m1 (I1_keep hI) (I2_keep h2) (If_keep hf) (k := 3 * g + s) (m := m) rfl rfl (by omega) (by omega) c2 c5.1 c5.2 (fun V2 m2 f2 => ?_)
  refine s_X12_at (g := g) (s := s) rfl rfl ?_
  have e30 : markT (keepT T) (3 * g + s) m 30 (3 * g + s) = T 30 (3 * g + s) := (mark_nf (by omega)).trans (keep_nf (by decide))
  have r30 : uA V2 55 30 (Int32.toNatClampNeg (jI (3 * g + s))) = jI (T 30 (3 * g + s)) := by
    rw [← e30]
    exact rdA (M_A m2 30 48) (3 * g + s) rfl (by omega) (by omega)
  refine ⟨jvp (3 * g + s) rfl (by omega) (by omega) (by decide), ?_⟩
  rw [r30]
  refine ⟨jvp (T 30 (3 * g + s)) rfl (by omega) (by omega) (by decide), ?_⟩
  have := h V2 (by unfold mrkT; rw [cif_t ok]; exact m2) (fM_trans (fM_trans hFV f1) f2)
  unfold mrkS at this
  rw [cif_t ok, jI_of] at this
  have r34 : uF V2 55 34 (Int32.toNatClampNeg (jI (T 30 (3 * g + s)))) = mkF (jF (T 34 (T 30 (3 * g + s)))) m := by
    rw [rdF (M_F m2 34 10) (T 30 (3 * g + s)) rfl (by omega) (by omega)]
    have e34 : markT (keepT T) (3 * g + s) m 34 (T 30 (3 * g + s)) = ((mkF (jF (T 34 (T 30 (3 * g + s)))) m).toNat : Int) := by
      unfold markT
      rw [up_nf (by decide)]
      exact up_eq
    rw [e34, jF_nat]
  rw [r34]
  exact this
noncomputable def fbS (T : Tm) (o : Int) : Int := cif (isOne T o) ((jF (T 34 o)).toNat : Int) (-1)
theorem s_X12_formBits {U : Um} {T : Tm} (hM : M U T) (hI : I1 T) (h2 : I2 T) (hf : If T) {a1 : Int32} {o : Int} (e1 : a1 = jI o) (r0 : r32 o) {post : Int32 → Um → Prop} (h : ∀ U2 : Um, M U2 T → fM U U2 → post (jI (fbS T o)) U2) : w_X12_formBits 55 a1 U post := by
  unfold w_X12_formBits
  subst e1
  have hn := I_n hI
  intro V hV
  have hMV : M V T := by rw [hV]; exact M_xI hM
  have hFV : fM U V := by rw [hV]; exact fM_sI
  have := h V hMV hFV
  unfold fbS at this
  refine s_X12_isOne hMV hI h2 (o := o) rfl r0 (fun c => ?_) (fun c => ?_)
  · refine br_1 ?_
    rw [cif_t c] at this
    refine ⟨jvp o rfl (by omega) (by omega) (by decide), ?_⟩
    rw [rdF (M_F hMV 34 10) o rfl (by omega) (by omega)]
    obtain ⟨cc, q, f, _⟩ := hf o c
    exact s_X12_bitsOf f this
  · refine br_0 ?_
    rw [cif_f c] at this
    exact this
