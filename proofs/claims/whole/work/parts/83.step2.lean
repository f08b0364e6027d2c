theorem s_fol {T : Tm} (hI : I1 T) (h2 : I2 T) {g s k : Int} (hs : isSeat T g s) (k0 : 0 ≤ k) (k1 : k < 48) (hk1 : T 30 k ≠ -1) (hgh : k / 3 ≠ g) (hown : T 30 (3 * g + s) ≠ T 30 k) {U : Um} (hM : M U (up T 30 (3 * g + s) (-1))) {post : Int32 → Um → Prop} (h1 : ∀ V : Um, M V (up T 30 (3 * g + s) (-1)) → fM U V → hind T (woG T (T 30 k) (k / 3)) g s (T 30 k) = 0 → folS T (T 30 (3 * g + s)) (T 30 k) k ≠ -1 → uA V 55 48 4 = jI (folS T (T 30 (3 * g + s)) (T 30 k) k) → post 1 V) (h0 : ∀ V : Um, M V (up T 30 (3 * g + s) (-1)) → fM U V → ¬ (hind T (woG T (T 30 k) (k / 3)) g s (T 30 k) = 0 ∧ folS T (T 30 (3 * g + s)) (T 30 k) k ≠ -1) → post 0 V) : w_X12_findsFollower 55 (jI g) (jI s) (jI (T 30 (3 * g + s))) (jI (T 30 k)) (jI k) U post := by
  have q1 := seat3 hI hs
  have hn := I_n hI
  have sk := seat_k h2 k0 k1 hk1
  have ek : 3 * (k / 3) + k % 3 = k := by omega
  have q2 := seat3 hI sk.1
  have hown2 : r32 (T 30 (3 * g + s)) := by
    have := I_k h2 (3 * g + s) (by omega) (by omega)
    omega
  unfold w_X12_findsFollower
  have hI1 : I1 (up T 30 (3 * g + s) (-1)) := I1_30 hI
  have h21 := I2_del h2 (3 * g + s)
  refine ⟨jvp k rfl k0 (by omega) (by decide), ?_⟩
  intro V1 hV1
  have m1 : M V1 (up (up T 30 (3 * g + s) (-1)) 30 k (-1)) := by rw [hV1]; exact M_sA hM k (-1) rfl rfl k0 (by omega)
  have f1 : fM U V1 := by rw [hV1]; exact fM_sA
  have hI2 : I1 (up (up T 30 (3 * g + s) (-1)) 30 k (-1)) := I1_30 hI1
  have h22 := I2_del h21 k
  have w2 : whyS (up (up T 30 (3 * g + s) (-1)) 30 k (-1)) g s (T 30 k) = hind T (woG T (T 30 k) (k / 3)) g s (T 30 k) := by
    have := why_t2 hI h2 hs sk.1 hgh (by rw [ek]; exact hown) (by rw [ek]; exact sk.2.1)
    rw [ek] at this
    exact this
  have hwb := whyS_bb (up (up T 30 (3 * g + s) (-1)) 30 k (-1)) g s (T 30 k)
  have gk := I_g hI g hs.1.1 hs.1.2
  unfold gOk at gk
  have back : up (up (up (up (up T 30 (3 * g + s) (-1)) 30 k (-1)) 30 (3 * g + s) (T 30 k)) 30 (3 * g + s) (-1)) 30 k (T 30 k) = up T 30 (3 * g + s) (-1) := by
    rw [up_up, up_comm (k := 30) (k2 := 30) (i := k) (i2 := 3 * g + s) (by omega), up_up, up_up, up_id (by rw [up_ne (by omega)])]
  have back2 : up (up (up T 30 (3 * g + s) (-1)) 30 k (-1)) 30 k (T 30 k) = up T 30 (3 * g + s) (-1) := by
    rw [up_up, up_id (by rw [up_ne (by omega)])]
  refine s_X12_whyNot m1 hI2 h22 (g := g) (s := s) (o := T 30 k) rfl rfl rfl hs.1.1 hs.1.2 hs.2.1 hs.2.2 sk.2.1 sk.2.2 ?_
  refine br_eq (whyS (up (up T 30 (3 * g + s) (-1)) 30 k (-1)) g s (T 30 k)) 0 rfl rfl ⟨by omega, by omega⟩ ⟨by omega, by omega⟩ (fun c => ?_) (fun c => ?_)
  · refine s_X12_at (g := g) (s := s) rfl rfl ?_
    refine ⟨jvp (3 * g + s) rfl (by omega) (by omega) (by decide), ?_⟩
    intro V2 hV2
    have m2 : M V2 (up (up (up T 30 (3 * g + s) (-1)) 30 k (-1)) 30 (3 * g + s) (T 30 k)) := by rw [hV2]; exact M_sA m1 (3 * g + s) (T 30 k) rfl rfl (by omega) (by omega)
    have f2 : fM U V2 := by rw [hV2]; exact fM_trans f1 fM_sA
    refine ⟨jvp (2) rfl (by omega) (by omega) (by decide), ?_⟩
    refine al_i (T 11 2 - 1) (jsub (rdA (M_A m2 11 7) (2) rfl (by omega) (by omega)) rfl) ?_
    have hI3 : I1 (up (up (up T 30 (3 * g + s) (-1)) 30 k (-1)) 30 (3 * g + s) (T 30 k)) := I1_30 hI2
    have h23 : I2 (up (up (up T 30 (3 * g + s) (-1)) 30 k (-1)) 30 (3 * g + s) (T 30 k)) := I2_put hI2 h22 (g := g) (s := s) hs ⟨sk.2.1, sk.2.2⟩ (whyS_0 c).2
    have L := l_fol44 hI h2 (g := g) (s := s) (h := k / 3) (t := k % 3) hs sk.1 hgh (T3 := up (up (up T 30 (3 * g + s) (-1)) 30 k (-1)) 30 (3 * g + s) (T 30 k)) (by rw [ek]) hI3 h23 m2 (x1 := jI g) (x2 := jI s) (post := post) (k_89 := fun x6_15 U_16 => w_X12_at (jI g) (jI s) U_16 (fun r_18 U_17 => vp_in r_18 48 ∧ ∀ (U_19 : Um), U_19 = sA U_17 55 30 (va_up (uA U_17 55 30) (Int32.toNatClampNeg r_18) (-1)) → vp_in (jI k) 48 ∧ ∀ (U_20 : Um), U_20 = sA U_19 55 30 (va_up (uA U_19 55 30) (Int32.toNatClampNeg (jI k)) (jI (T 30 k))) → vp_in 4 5 ∧ ∀ (U_21 : Um), U_21 = sA U_20 55 48 (va_up (uA U_20 55 48) (Int32.toNatClampNeg 4) x6_15) → (x6_15 = (-1) → post 0 U_21) ∧ (¬ x6_15 = (-1) → post 1 U_21)))
    rw [ek] at L
    refine ⟨(T 11 2 - 1 + 1 : Int).toNat + 1, L ?_ hown2 ⟨by omega, by omega⟩ _ (-1) (T 11 2 - 1) (by omega) (by omega) (Or.inl ⟨rfl, fun j a b => by omega⟩) (by omega)⟩
    refine s_X12_at (g := g) (s := s) rfl rfl ?_
    refine ⟨jvp (3 * g + s) rfl (by omega) (by omega) (by decide), ?_⟩
    intro V3 hV3
    have m3 := M_sA m2 (E := jI (3 * g + s)) (V := -1) (k := 30) (3 * g + s) (-1) rfl rfl (by omega) (by omega)
    rw [← hV3] at m3
    refine ⟨jvp k rfl k0 (by omega) (by decide), ?_⟩
    intro V4 hV4
    have m4 := M_sA m3 (E := jI k) (V := jI (T 30 k)) (k := 30) k (T 30 k) rfl rfl k0 (by omega)
    rw [← hV4, back] at m4
    refine ⟨jvp (4) rfl (by omega) (by omega) (by decide), ?_⟩
    intro V5 hV5
    have m5 : M V5 (up T 30 (3 * g + s) (-1)) := by rw [hV5]; exact M_xA m4
    have f5 : fM U V5 := by rw [hV5, hV4, hV3]; exact fM_trans (fM_trans (fM_trans f2 fM_sA) fM_sA) fM_sA
    have fb : r32 (folS T (T 30 (3 * g + s)) (T 30 k) k) := by
      unfold folS
      rcases fst_spec (p := folP T (T 30 (3 * g + s)) (T 30 k) k) (n := T 11 2) (by omega) with z | z
      · rw [z.1]
        exact ⟨by omega, by omega⟩
      · exact ⟨by omega, by omega⟩
    refine br_eq (folS T (T 30 (3 * g + s)) (T 30 k) k) (-1) rfl rfl fb ⟨by omega, by omega⟩ (fun c2 => ?_) (fun c2 => ?_)
    · exact h0 V5 m5 f5 (fun q => q.2 c2)
    · refine h1 V5 m5 f5 (by rw [← w2]; exact c) c2 ?_
      rw [hV5, uA_sA, if_pos ⟨rfl, rfl⟩]
      exact if_pos rfl
  · refine ⟨jvp k rfl k0 (by omega) (by decide), ?_⟩
    intro V2 hV2
    have m2 := M_sA m1 (E := jI k) (V := jI (T 30 k)) (k := 30) k (T 30 k) rfl rfl k0 (by omega)
    rw [← hV2, back2] at m2
    refine ⟨jvp (4) rfl (by omega) (by omega) (by decide), ?_⟩
    intro V3 hV3
    refine ⟨fun _ => h0 V3 (by rw [hV3]; exact M_xA m2) (by rw [hV3, hV2]; exact fM_trans (fM_trans f1 fM_sA) fM_sA) (fun q => c (by rw [w2]; exact q.1)), fun q => absurd rfl q⟩
