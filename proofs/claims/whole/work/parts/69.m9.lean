/-! the reference, acts -/
set_option maxHeartbeats 8000000 in
theorem s_X12_put {U : Um} {T : Tm} (hM : M U T) (hI : I1 T) (h2 : I2 T) {a1 : Int32} {g : Int} {a2 : Int32} {s : Int} {a3 : Int32} {o : Int} (e_a1 : a1 = jI g) (e_a2 : a2 = jI s) (e_a3 : a3 = jI o) (p0 : r32 g) (p1 : r32 s) (p2 : r32 o) (p3 : 0 ≤ T 38 0) (p4 : T 38 0 ≤ 8) {post : Int32 → Um → Prop} (h : ∀ U2 : Um, M U2 (putT T g s o) → fM U U2 → post (jI (putR T g s o)) U2) : w_X12_put 55 a1 a2 a3 U post := by
  unfold w_X12_put
  subst e_a1
  subst e_a2
  subst e_a3
  have hn := I_n hI
  intro U_1 hU_1
  have m1 : M U_1 T := by rw [hU_1]; exact M_xI hM
  have fr2 : fM U U_1 := by rw [hU_1]; exact fM_trans fM_rfl fM_sI
  refine s_X12_whyOf m1 hI h2 (g := g) (s := s) (o := o) (by exact rfl) (by exact rfl) (by exact rfl) (by omega) (by omega) (by omega) ?_
  have f3 := whyF_b T (g) (s) (o)
  refine br_eq (whyF T g s o) (1) rfl rfl ⟨by omega, by omega⟩ ⟨by omega, by omega⟩ (fun c4 => ?_) (fun c4 => ?_)
  · skip
    have q : (putR T g s o : Int) = (-whyF T g s o) := by (unfold putR; (repeat (first | rw [cif_t (by first | assumption | omega)] | rw [cif_f (by first | assumption | omega)])); try omega)
    have q5 : putT T g s o = T := by (unfold putT; first | rw [cif_t (by omega)] | rw [cif_f (by omega)])
    have m6 : M U_1 (putT T g s o) := by rw [q5]; exact m1
    have h := h _ m6 fr2
    rw [q] at h
    exact pst (jneg rfl) h
  · skip
    have hse := whyF_seat c4
    have f7 := I_g hI (g) (by omega) (by omega)
    unfold gOk at f7
    refine br_eq (whyF T g s o) (2) rfl rfl ⟨by omega, by omega⟩ ⟨by omega, by omega⟩ (fun c8 => ?_) (fun c8 => ?_)
    · skip
      have q : (putR T g s o : Int) = (-whyF T g s o) := by (unfold putR; (repeat (first | rw [cif_t (by first | assumption | omega)] | rw [cif_f (by first | assumption | omega)])); try omega)
      have q9 : putT T g s o = T := by (unfold putT; first | rw [cif_t (by omega)] | rw [cif_f (by omega)])
      have m10 : M U_1 (putT T g s o) := by rw [q9]; exact m1
      have h := h _ m10 fr2
      rw [q] at h
      exact pst (jneg rfl) h
    · skip
      refine s_X12_isLate m1 hI h2 (g := g) (by exact rfl) (by omega) (by omega) (fun c11 => ?_) (fun c11 => ?_)
      · skip
        refine br_1 ?_
        have q : (putR T g s o : Int) = (-12) := by (unfold putR; (repeat (first | rw [cif_t (by first | assumption | omega)] | rw [cif_f (by first | assumption | omega)])); try omega)
        have q12 : putT T g s o = T := by (unfold putT; first | rw [cif_t (by omega)] | rw [cif_f (by omega)])
        have m13 : M U_1 (putT T g s o) := by rw [q12]; exact m1
        have h := h _ m13 fr2
        rw [q] at h
        exact pst rfl h
      · skip
        refine br_0 ?_
        refine br_eq (whyF T g s o) (0) rfl rfl ⟨by omega, by omega⟩ ⟨by omega, by omega⟩ (fun c14 => ?_) (fun c14 => ?_)
        · skip
          refine s_X12_keeps m1    (by omega) (by omega) (fun V15 m16 g17  => ?_)
          have fr18 := fM_trans fr2 g17
          have hI19 : I1 (keepT T) := I1_keep hI
          have hJ20 : I2 (keepT T) := I2_keep h2
          refine s_X12_at (g := g) (s := s) (by exact rfl) (by exact rfl)  ?_
          refine ⟨jvp ((3 * g + s)) rfl (by omega) (by omega) (by decide), ?_⟩
          intro U_10 hU_10
          have m21 : M U_10 (up (keepT T) 30 ((3 * g + s)) (o)) := by rw [hU_10]; exact M_sA m16 ((3 * g + s)) (o) rfl rfl (by omega) (by omega)
          have fr22 : fM U U_10 := by rw [hU_10]; exact fM_trans fr18 fM_sA
          have q : (putR T g s o : Int) = 0 := by (unfold putR; (repeat (first | rw [cif_t (by first | assumption | omega)] | rw [cif_f (by first | assumption | omega)])); try omega)
          have q23 : putT T g s o = (up (keepT T) 30 ((3 * g + s)) (o)) := by (unfold putT; first | rw [cif_t (by omega)] | rw [cif_f (by omega)])
          have m24 : M U_10 (putT T g s o) := by rw [q23]; exact m21
          have h := h _ m24 fr22
          rw [q] at h
          exact pst rfl h
        · skip
          have q : (putR T g s o : Int) = (-whyF T g s o) := by (unfold putR; (repeat (first | rw [cif_t (by first | assumption | omega)] | rw [cif_f (by first | assumption | omega)])); try omega)
          have q25 : putT T g s o = T := by (unfold putT; first | rw [cif_t (by omega)] | rw [cif_f (by omega)])
          have m26 : M U_1 (putT T g s o) := by rw [q25]; exact m1
          have h := h _ m26 fr2
          rw [q] at h
          exact pst (jneg rfl) h
set_option maxHeartbeats 8000000 in
theorem s_X12_drop {U : Um} {T : Tm} (hM : M U T) (hI : I1 T) (h2 : I2 T) {a1 : Int32} {g : Int} {a2 : Int32} {s : Int} (e_a1 : a1 = jI g) (e_a2 : a2 = jI s) (p0 : r32 g) (p1 : r32 s) (p2 : 0 ≤ T 38 0) (p3 : T 38 0 ≤ 8) {post : Int32 → Um → Prop} (h : ∀ U2 : Um, M U2 (dropT T g s) → fM U U2 → post (jI (dropR T g s)) U2) : w_X12_drop 55 a1 a2 U post := by
  unfold w_X12_drop
  subst e_a1
  subst e_a2
  have hn := I_n hI
  intro U_1 hU_1
  have m1 : M U_1 T := by rw [hU_1]; exact M_xI hM
  have fr2 : fM U U_1 := by rw [hU_1]; exact fM_trans fM_rfl fM_sI
  refine s_X12_isSeat m1 hI h2 (g := g) (s := s) (by exact rfl) (by exact rfl) (by omega) (by omega) (fun c3 => ?_) (fun c3 => ?_)
  · skip
    have f4 := I_g hI (g) (by omega) (by omega)
    unfold gOk at f4
    refine br_1 ?_
    refine s_X12_at (g := g) (s := s) (by exact rfl) (by exact rfl)  ?_
    refine ⟨jvp ((3 * g + s)) rfl (by omega) (by omega) (by decide), ?_⟩
    have f5 := I_k h2 ((3 * g + s)) (by omega) (by omega)
    refine br_eq ((T 30 ((3 * g + s)))) ((-1)) (rdA (M_A m1 30 48) ((3 * g + s)) rfl (by omega) (by omega)) rfl ⟨by omega, by omega⟩ ⟨by omega, by omega⟩ (fun c6 => ?_) (fun c6 => ?_)
    · skip
      have q : (dropR T g s : Int) = (-2) := by (unfold dropR; (repeat (first | rw [cif_t (by first | assumption | omega)] | rw [cif_f (by first | assumption | omega)])); try omega)
      have q7 : dropT T g s = T := by (unfold dropT; (repeat (first | rw [cif_t (by first | assumption | omega)] | rw [cif_f (by first | assumption | omega)])))
      have m8 : M U_1 (dropT T g s) := by rw [q7]; exact m1
      have h := h _ m8 fr2
      rw [q] at h
      exact pst rfl h
    · skip
      refine s_X12_isPlayed m1 hI h2 (g := g) (by exact rfl) (by omega) (by omega) (fun c9 => ?_) (fun c9 => ?_)
      · skip
        refine br_1 ?_
        have q : (dropR T g s : Int) = (-2) := by (unfold dropR; (repeat (first | rw [cif_t (by first | assumption | omega)] | rw [cif_f (by first | assumption | omega)])); try omega)
        have q10 : dropT T g s = T := by (unfold dropT; (repeat (first | rw [cif_t (by first | assumption | omega)] | rw [cif_f (by first | assumption | omega)])))
        have m11 : M U_1 (dropT T g s) := by rw [q10]; exact m1
        have h := h _ m11 fr2
        rw [q] at h
        exact pst rfl h
      · skip
        refine br_0 ?_
        refine s_X12_isLate m1 hI h2 (g := g) (by exact rfl) (by omega) (by omega) (fun c12 => ?_) (fun c12 => ?_)
        · skip
          refine br_1 ?_
          have q : (dropR T g s : Int) = (-2) := by (unfold dropR; (repeat (first | rw [cif_t (by first | assumption | omega)] | rw [cif_f (by first | assumption | omega)])); try omega)
          have q13 : dropT T g s = T := by (unfold dropT; (repeat (first | rw [cif_t (by first | assumption | omega)] | rw [cif_f (by first | assumption | omega)])))
          have m14 : M U_1 (dropT T g s) := by rw [q13]; exact m1
          have h := h _ m14 fr2
          rw [q] at h
          exact pst rfl h
        · skip
          refine br_0 ?_
          refine s_X12_keeps m1    (by omega) (by omega) (fun V15 m16 g17  => ?_)
          have fr18 := fM_trans fr2 g17
          have hI19 : I1 (keepT T) := I1_keep hI
          have hJ20 : I2 (keepT T) := I2_keep h2
          refine s_X12_at (g := g) (s := s) (by exact rfl) (by exact rfl)  ?_
          refine ⟨jvp ((3 * g + s)) rfl (by omega) (by omega) (by decide), ?_⟩
          refine al_i ((T 30 ((3 * g + s)))) (rdA (M_A m16 30 48) ((3 * g + s)) rfl (by omega) (by omega)) ?_
          refine s_X12_at (g := g) (s := s) (by exact rfl) (by exact rfl)  ?_
          refine ⟨jvp ((3 * g + s)) rfl (by omega) (by omega) (by decide), ?_⟩
          intro U_17 hU_17
          have m21 : M U_17 (up (keepT T) 30 ((3 * g + s)) ((-1))) := by rw [hU_17]; exact M_sA m16 ((3 * g + s)) ((-1)) rfl rfl (by omega) (by omega)
          have hI23 : I1 (up (keepT T) 30 ((3 * g + s)) ((-1))) := I1_up (by omega) hI19
          have hJ24 : I2 (up (keepT T) 30 ((3 * g + s)) ((-1))) := I2_del hJ20 _
          have fr22 : fM U U_17 := by rw [hU_17]; exact fM_trans fr18 fM_sA
          have q : (dropR T g s : Int) = (T 30 ((3 * g + s))) := by (unfold dropR; (repeat (first | rw [cif_t (by first | assumption | omega)] | rw [cif_f (by first | assumption | omega)])); try omega)
          have q25 : dropT T g s = (up (keepT T) 30 ((3 * g + s)) ((-1))) := by (unfold dropT; (repeat (first | rw [cif_t (by first | assumption | omega)] | rw [cif_f (by first | assumption | omega)])))
          have m26 : M U_17 (dropT T g s) := by rw [q25]; exact m21
          have h := h _ m26 fr22
          rw [q] at h
          exact pst rfl h
  · skip
    refine br_0 ?_
    have q : (dropR T g s : Int) = (-2) := by (unfold dropR; (repeat (first | rw [cif_t (by first | assumption | omega)] | rw [cif_f (by first | assumption | omega)])); try omega)
    have q27 : dropT T g s = T := by (unfold dropT; (repeat (first | rw [cif_t (by first | assumption | omega)] | rw [cif_f (by first | assumption | omega)])))
    have m28 : M U_1 (dropT T g s) := by rw [q27]; exact m1
    have h := h _ m28 fr2
    rw [q] at h
    exact pst rfl h
set_option maxHeartbeats 8000000 in
theorem s_X12_day {U : Um} {T : Tm} (hM : M U T) (hI : I1 T) (h2 : I2 T) (p0 : 0 ≤ T 38 0) (p1 : T 38 0 ≤ 8) {post : Int32 → Um → Prop} (h : ∀ U2 : Um, M U2 (dayT T) → fM U U2 → post (jI (dayR T)) U2) : w_X12_day 55 U post := by
  unfold w_X12_day
  have hn := I_n hI
  have ht := I_t h2
  intro U_1 hU_1
  have m1 : M U_1 T := by rw [hU_1]; exact M_xI hM
  have fr2 : fM U U_1 := by rw [hU_1]; exact fM_trans fM_rfl fM_sI
  refine br_eq ((T 35 0)) (7) (M_S m1 35) rfl ⟨by omega, by omega⟩ ⟨by omega, by omega⟩ (fun c3 => ?_) (fun c3 => ?_)
  · skip
    have q : (dayR T : Int) = (-1) := by (unfold dayR; (repeat (first | rw [cif_t (by first | assumption | omega)] | rw [cif_f (by first | assumption | omega)])); try omega)
    have q4 : dayT T = T := by (unfold dayT; (repeat (first | rw [cif_t (by first | assumption | omega)] | rw [cif_f (by first | assumption | omega)])))
    have m5 : M U_1 (dayT T) := by rw [q4]; exact m1
    have h := h _ m5 fr2
    rw [q] at h
    exact pst rfl h
  · skip
    refine s_X12_keeps m1    (by omega) (by omega) (fun V6 m7 g8  => ?_)
    have fr9 := fM_trans fr2 g8
    intro U_4 hU_4
    have m12 : M U_4 (up (keepT T) 35 0 (((T 35 0) + 1))) := by rw [hU_4]; exact M_sI m7 (((T 35 0) + 1)) (jadd (M_S m7 35) rfl)
    have fr13 : fM U U_4 := by rw [hU_4]; exact fM_trans fr9 fM_sI
    have q : (dayR T : Int) = ((T 35 0) + 1) := by (unfold dayR; (repeat (first | rw [cif_t (by first | assumption | omega)] | rw [cif_f (by first | assumption | omega)])); try omega)
    have q14 : dayT T = (up (keepT T) 35 0 (((T 35 0) + 1))) := by (unfold dayT; (repeat (first | rw [cif_t (by first | assumption | omega)] | rw [cif_f (by first | assumption | omega)])))
    have m15 : M U_4 (dayT T) := by rw [q14]; exact m12
    have h := h _ m15 fr13
    rw [q] at h
    exact pst (M_S m12 35) h
set_option maxHeartbeats 8000000 in
theorem s_X12_swap {U : Um} {T : Tm} (hM : M U T) (hI : I1 T) (h2 : I2 T) {a1 : Int32} {g : Int} {a2 : Int32} {s : Int} {a3 : Int32} {u : Int} {a4 : Int32} {t : Int} (e_a1 : a1 = jI g) (e_a2 : a2 = jI s) (e_a3 : a3 = jI u) (e_a4 : a4 = jI t) (p0 : r32 g) (p1 : r32 s) (p2 : r32 u) (p3 : r32 t) (p4 : 0 ≤ T 38 0) (p5 : T 38 0 ≤ 8) {post : Int32 → Um → Prop} (h : ∀ U2 : Um, M U2 (swapT T g s u t) → fM U U2 → post (jI (swapS T g s u t)) U2) : w_X12_swap 55 a1 a2 a3 a4 U post := by
  unfold w_X12_swap
  subst e_a1
  subst e_a2
  subst e_a3
  subst e_a4
  have hn := I_n hI
  intro U_1 hU_1
  have m1 : M U_1 T := by rw [hU_1]; exact M_xI hM
  have fr2 : fM U U_1 := by rw [hU_1]; exact fM_trans fM_rfl fM_sI
  refine s_X12_swaps m1 hI h2 (g := g) (s := s) (u := u) (t := t) (by exact rfl) (by exact rfl) (by exact rfl) (by exact rfl) (by omega) (by omega) (by omega) (by omega) (fun V3 m4 g5  => ?_)
  have fr6 := fM_trans fr2 g5
  have f7 := swapS_b T (g) (s) (u) (t)
  refine br_eq (swapS T g s u t) (0) rfl rfl ⟨by omega, by omega⟩ ⟨by omega, by omega⟩ (fun c8 => ?_) (fun c8 => ?_)
  · skip
    have hse := swapS_seat c8
    have f9 := I_g hI (g) (by omega) (by omega)
    unfold gOk at f9
    have f10 := I_g hI (u) (by omega) (by omega)
    unfold gOk at f10
    refine s_X12_keeps m4    (by omega) (by omega) (fun V11 m12 g13  => ?_)
    have fr14 := fM_trans fr6 g13
    have hI15 : I1 (keepT T) := I1_keep hI
    have hJ16 : I2 (keepT T) := I2_keep h2
    refine s_X12_at (g := g) (s := s) (by exact rfl) (by exact rfl)  ?_
    refine s_X12_at (g := u) (s := t) (by exact rfl) (by exact rfl)  ?_
    refine s_X12_exchanges m12 hI15 hJ16 (k := (3 * g + s)) (j := (3 * u + t)) (by exact rfl) (by exact rfl) (by exact (show 0 ≤ ((3 * g + s)) from by omega)) (by exact (show ((3 * g + s)) < 48 from by omega)) (by exact (show 0 ≤ ((3 * u + t)) from by omega)) (by exact (show ((3 * u + t)) < 48 from by omega)) (fun V17 m18 g19  => ?_)
    have fr20 := fM_trans fr14 g19
    have q : (swapS T g s u t : Int) = 0 := by first | rfl | omega
    have q23 : swapT T g s u t = (exT (keepT T) ((3 * g + s)) ((3 * u + t))) := by (unfold swapT; (repeat (first | rw [cif_t (by first | assumption | omega)] | rw [cif_f (by first | assumption | omega)])))
    have m24 : M V17 (swapT T g s u t) := by rw [q23]; exact m18
    have h := h _ m24 fr20
    rw [q] at h
    exact pst rfl h
  · skip
    have q : (swapS T g s u t : Int) = swapS T g s u t := by first | rfl | omega
    have q25 : swapT T g s u t = T := by (unfold swapT; (repeat (first | rw [cif_t (by first | assumption | omega)] | rw [cif_f (by first | assumption | omega)])))
    have m26 : M V3 (swapT T g s u t) := by rw [q25]; exact m4
    have h := h _ m26 fr6
    rw [q] at h
    exact pst rfl h
set_option maxHeartbeats 8000000 in
theorem l_X12_undo_L34 {U : Um} {T : Tm} (hM : M U T) {x1 : Int32} {a : Int} (e_x1 : x1 = jI a) (p0 : 0 ≤ a) (p1 : a ≤ 819) {post : Int32 → Um → Prop} {k_77 : Um → Prop} (hk : ∀ (U2 : Um) , M U2 (blk (blk T 30 0 48 (fun i => T 36 (a + i))) 31 0 48 (fun i => T 36 (a + 48 + i))) → fM U U2 → k_77 U2) : ∀ (fu : Nat) (k : Int) (U2 : Um), M U2 (blk (blk T 30 0 k (fun i => T 36 (a + i))) 31 0 k (fun i => T 36 (a + 48 + i))) → fM U U2 → (0 ≤ k) → (k ≤ 48) → (48 - k : Int).toNat < fu → w_X12_undo_L34 55 x1 post k_77 fu (jI k) U2 := by
  subst e_x1
  intro fu
  induction fu with
  | zero => intro k V hM2 hF2 i0 i1 hm; exact absurd hm (Nat.not_lt_zero _)
  | succ fu ih =>
    intro k V hM2 hF2 i0 i1 hm
    show b_X12_undo_L34 55 (jI a) post k_77 (w_X12_undo_L34 55 (jI a) post k_77 fu) (jI k) V
    unfold b_X12_undo_L34
    refine br_le (48) (k) rfl rfl ⟨by omega, by omega⟩ ⟨by omega, by omega⟩ (fun c1 => ?_) (fun c1 => ?_)
    · skip
      have q2 : (blk (blk T 30 0 k (fun i => T 36 (a + i))) 31 0 k (fun i => T 36 (a + 48 + i))) = (blk (blk T 30 0 48 (fun i => T 36 (a + i))) 31 0 48 (fun i => T 36 (a + 48 + i))) := by rw [show k = 48 by omega]
      have m3 : M V (blk (blk T 30 0 48 (fun i => T 36 (a + i))) 31 0 48 (fun i => T 36 (a + 48 + i))) := by rw [q2] at hM2; exact hM2
      exact hk  _ m3 hF2
    · skip
      refine ⟨jvp ((a + k)) (jadd rfl rfl) (by omega) (by omega) (by decide), ?_⟩
      refine ⟨jvp (k) rfl (by omega) (by omega) (by decide), ?_⟩
      intro U_4 hU_4
      have m4 : M U_4 (up (blk (blk T 30 0 k (fun i => T 36 (a + i))) 31 0 k (fun i => T 36 (a + 48 + i))) 30 (k) ((T 36 ((a + k))))) := by rw [hU_4]; exact M_sA hM2 (k) ((T 36 ((a + k)))) rfl (rdA (M_A hM2 36 936) ((a + k)) (jadd rfl rfl) (by omega) (by omega)) (by omega) (by omega)
      have fr5 : fM U U_4 := by rw [hU_4]; exact fM_trans hF2 fM_sA
      refine ⟨jvp (((a + 48) + k)) (jadd (jadd rfl rfl) rfl) (by omega) (by omega) (by decide), ?_⟩
      refine ⟨jvp (k) rfl (by omega) (by omega) (by decide), ?_⟩
      intro U_5 hU_5
      have m6 : M U_5 (up (up (blk (blk T 30 0 k (fun i => T 36 (a + i))) 31 0 k (fun i => T 36 (a + 48 + i))) 30 (k) ((T 36 ((a + k))))) 31 (k) ((T 36 (((a + 48) + k))))) := by rw [hU_5]; exact M_sA m4 (k) ((T 36 (((a + 48) + k)))) rfl (rdA (M_A m4 36 936) (((a + 48) + k)) (jadd (jadd rfl rfl) rfl) (by omega) (by omega)) (by omega) (by omega)
      have fr7 : fM U U_5 := by rw [hU_5]; exact fM_trans fr5 fM_sA
      refine al_i ((k + 1)) (jadd rfl rfl) ?_
      have q8 : (up (up (blk (blk T 30 0 k (fun i => T 36 (a + i))) 31 0 k (fun i => T 36 (a + 48 + i))) 30 (k) ((T 36 ((a + k))))) 31 (k) ((T 36 (((a + 48) + k))))) = (blk (blk T 30 0 ((k + 1)) (fun i => T 36 (a + i))) 31 0 ((k + 1)) (fun i => T 36 (a + 48 + i))) := by (have z := blk_2 (T := T) (k := 30) (k2 := 31) (lo := 0) (lo2 := 0) (n := k) (F := fun i => T 36 (a + i)) (G := fun i => T 36 (a + 48 + i)) (by omega) (by omega); rw [Int.zero_add] at z; exact z)
      have m9 : M U_5 (blk (blk T 30 0 ((k + 1)) (fun i => T 36 (a + i))) 31 0 ((k + 1)) (fun i => T 36 (a + 48 + i))) := by rw [q8] at m6; exact m6
      refine ih ((k + 1)) _ m9 fr7 (by first | assumption | omega | grind) (by first | assumption | omega | grind) (by omega)
set_option maxHeartbeats 8000000 in
theorem l_X12_undo_L79 {U : Um} {T : Tm} (hM : M U T) {x1 : Int32} {a : Int} (e_x1 : x1 = jI a) (p0 : 0 ≤ a) (p1 : a ≤ 819) (p2 : 0 ≤ T 38 0 ∧ T 38 0 ≤ 7) {post : Int32 → Um → Prop} {k_145 : Um → Prop} (hk : ∀ (U2 : Um) , M U2 (blk (blk (blk T 32 0 10 (fun i => T 36 (a + 96 + i))) 33 0 10 (fun i => T 36 (a + 106 + i))) 34 0 10 (fun i => T 37 (10 * T 38 0 + i))) → fM U U2 → k_145 U2) : ∀ (fu : Nat) (k : Int) (U2 : Um), M U2 (blk (blk (blk T 32 0 k (fun i => T 36 (a + 96 + i))) 33 0 k (fun i => T 36 (a + 106 + i))) 34 0 k (fun i => T 37 (10 * T 38 0 + i))) → fM U U2 → (0 ≤ k) → (k ≤ 10) → (10 - k : Int).toNat < fu → w_X12_undo_L79 55 x1 post k_145 fu (jI k) U2 := by
  subst e_x1
  intro fu
  induction fu with
  | zero => intro k V hM2 hF2 i0 i1 hm; exact absurd hm (Nat.not_lt_zero _)
  | succ fu ih =>
    intro k V hM2 hF2 i0 i1 hm
    show b_X12_undo_L79 55 (jI a) post k_145 (w_X12_undo_L79 55 (jI a) post k_145 fu) (jI k) V
    unfold b_X12_undo_L79
    refine br_le (10) (k) rfl rfl ⟨by omega, by omega⟩ ⟨by omega, by omega⟩ (fun c1 => ?_) (fun c1 => ?_)
    · skip
      have q2 : (blk (blk (blk T 32 0 k (fun i => T 36 (a + 96 + i))) 33 0 k (fun i => T 36 (a + 106 + i))) 34 0 k (fun i => T 37 (10 * T 38 0 + i))) = (blk (blk (blk T 32 0 10 (fun i => T 36 (a + 96 + i))) 33 0 10 (fun i => T 36 (a + 106 + i))) 34 0 10 (fun i => T 37 (10 * T 38 0 + i))) := by rw [show k = 10 by omega]
      have m3 : M V (blk (blk (blk T 32 0 10 (fun i => T 36 (a + 96 + i))) 33 0 10 (fun i => T 36 (a + 106 + i))) 34 0 10 (fun i => T 37 (10 * T 38 0 + i))) := by rw [q2] at hM2; exact hM2
      exact hk  _ m3 hF2
    · skip
      refine ⟨jvp (((a + 96) + k)) (jadd (jadd rfl rfl) rfl) (by omega) (by omega) (by decide), ?_⟩
      refine ⟨jvp (k) rfl (by omega) (by omega) (by decide), ?_⟩
      intro U_8 hU_8
      have m4 : M U_8 (up (blk (blk (blk T 32 0 k (fun i => T 36 (a + 96 + i))) 33 0 k (fun i => T 36 (a + 106 + i))) 34 0 k (fun i => T 37 (10 * T 38 0 + i))) 32 (k) ((T 36 (((a + 96) + k))))) := by rw [hU_8]; exact M_sA hM2 (k) ((T 36 (((a + 96) + k)))) rfl (rdA (M_A hM2 36 936) (((a + 96) + k)) (jadd (jadd rfl rfl) rfl) (by omega) (by omega)) (by omega) (by omega)
      have fr5 : fM U U_8 := by rw [hU_8]; exact fM_trans hF2 fM_sA
      refine ⟨jvp (((a + 106) + k)) (jadd (jadd rfl rfl) rfl) (by omega) (by omega) (by decide), ?_⟩
      refine ⟨jvp (k) rfl (by omega) (by omega) (by decide), ?_⟩
      intro U_9 hU_9
      have m6 : M U_9 (up (up (blk (blk (blk T 32 0 k (fun i => T 36 (a + 96 + i))) 33 0 k (fun i => T 36 (a + 106 + i))) 34 0 k (fun i => T 37 (10 * T 38 0 + i))) 32 (k) ((T 36 (((a + 96) + k))))) 33 (k) ((T 36 (((a + 106) + k))))) := by rw [hU_9]; exact M_sA m4 (k) ((T 36 (((a + 106) + k)))) rfl (rdA (M_A m4 36 936) (((a + 106) + k)) (jadd (jadd rfl rfl) rfl) (by omega) (by omega)) (by omega) (by omega)
      have fr7 : fM U U_9 := by rw [hU_9]; exact fM_trans fr5 fM_sA
      refine ⟨jvp (((10 * (T 38 0)) + k)) (jadd (jmul rfl (M_S m6 38)) rfl) (by omega) (by omega) (by decide), ?_⟩
      refine ⟨jvp (k) rfl (by omega) (by omega) (by decide), ?_⟩
      intro U_10 hU_10
      have m8 : M U_10 (up (up (up (blk (blk (blk T 32 0 k (fun i => T 36 (a + 96 + i))) 33 0 k (fun i => T 36 (a + 106 + i))) 34 0 k (fun i => T 37 (10 * T 38 0 + i))) 32 (k) ((T 36 (((a + 96) + k))))) 33 (k) ((T 36 (((a + 106) + k))))) 34 (k) ((T 37 (((10 * (T 38 0)) + k))))) := by rw [hU_10]; exact M_sF m6 (k) ((T 37 (((10 * (T 38 0)) + k)))) rfl (rdF (M_F m6 37 80) (((10 * (T 38 0)) + k)) (jadd (jmul rfl (M_S m6 38)) rfl) (by omega) (by omega)) (by omega) (by omega)
      have fr9 : fM U U_10 := by rw [hU_10]; exact fM_trans fr7 fM_sF
      refine al_i ((k + 1)) (jadd rfl rfl) ?_
      have q10 : (up (up (up (blk (blk (blk T 32 0 k (fun i => T 36 (a + 96 + i))) 33 0 k (fun i => T 36 (a + 106 + i))) 34 0 k (fun i => T 37 (10 * T 38 0 + i))) 32 (k) ((T 36 (((a + 96) + k))))) 33 (k) ((T 36 (((a + 106) + k))))) 34 (k) ((T 37 (((10 * (T 38 0)) + k))))) = (blk (blk (blk T 32 0 ((k + 1)) (fun i => T 36 (a + 96 + i))) 33 0 ((k + 1)) (fun i => T 36 (a + 106 + i))) 34 0 ((k + 1)) (fun i => T 37 (10 * T 38 0 + i))) := by (have z := blk_3 (T := T) (k := 32) (k2 := 33) (k3 := 34) (lo := 0) (lo2 := 0) (lo3 := 0) (n := k) (F := fun i => T 36 (a + 96 + i)) (G := fun i => T 36 (a + 106 + i)) (H := fun i => T 37 (10 * T 38 0 + i)) (by omega) (by omega) (by decide) (by decide); rw [Int.zero_add] at z; exact z)
      have m11 : M U_10 (blk (blk (blk T 32 0 ((k + 1)) (fun i => T 36 (a + 96 + i))) 33 0 ((k + 1)) (fun i => T 36 (a + 106 + i))) 34 0 ((k + 1)) (fun i => T 37 (10 * T 38 0 + i))) := by rw [q10] at m8; exact m8
      refine ih ((k + 1)) _ m11 fr9 (by first | assumption | omega | grind) (by first | assumption | omega | grind) (by omega)
set_option maxHeartbeats 8000000 in
theorem s_X12_undo {U : Um} {T : Tm} (hM : M U T) (hI : I1 T) (h2 : I2 T) (p0 : 0 ≤ T 38 0) (p1 : T 38 0 ≤ 8) {post : Int32 → Um → Prop} (h : ∀ U2 : Um, M U2 (undoT T) → fM U U2 → post (jI ((if T 38 0 = 0 then -1 else T 38 0 - 1))) U2) : w_X12_undo 55 U post := by
  unfold w_X12_undo
  have hn := I_n hI
  intro U_1 hU_1
  have m1 : M U_1 T := by rw [hU_1]; exact M_xI hM
  have fr2 : fM U U_1 := by rw [hU_1]; exact fM_trans fM_rfl fM_sI
  refine br_eq ((T 38 0)) (0) (M_S m1 38) rfl ⟨by omega, by omega⟩ ⟨by omega, by omega⟩ (fun c3 => ?_) (fun c3 => ?_)
  · skip
    have q : ((if T 38 0 = 0 then -1 else T 38 0 - 1) : Int) = (-1) := by simp [*]
    have q4 : undoT T = T := by (unfold undoT backT; first | (rw [cif_t (by assumption)]; done) | (rw [cif_f (by assumption)]; rfl))
    have m5 : M U_1 (undoT T) := by rw [q4]; exact m1
    have h := h _ m5 fr2
    rw [q] at h
    exact pst rfl h
  · skip
    intro U_2 hU_2
    have m6 : M U_2 (up T 38 0 (((T 38 0) - 1))) := by rw [hU_2]; exact M_sI m1 (((T 38 0) - 1)) (jsub (M_S m1 38) rfl)
    have fr7 : fM U U_2 := by rw [hU_2]; exact fM_trans fr2 fM_sI
    refine al_i ((117 * ((T 38 0) - 1))) (jmul rfl (M_S m6 38)) ?_
    have q11 : (up T 38 0 (((T 38 0) - 1))) = (blk (blk (up T 38 0 (((T 38 0) - 1))) 30 0 0 (fun i => (up T 38 0 (((T 38 0) - 1))) 36 (((117 * ((T 38 0) - 1))) + i))) 31 0 0 (fun i => (up T 38 0 (((T 38 0) - 1))) 36 (((117 * ((T 38 0) - 1))) + 48 + i))) := by rw [blk_0, blk_0]
    have m12 : M U_2 (blk (blk (up T 38 0 (((T 38 0) - 1))) 30 0 0 (fun i => (up T 38 0 (((T 38 0) - 1))) 36 (((117 * ((T 38 0) - 1))) + i))) 31 0 0 (fun i => (up T 38 0 (((T 38 0) - 1))) 36 (((117 * ((T 38 0) - 1))) + 48 + i))) := by rw [q11] at m6; exact m6
    refine ⟨(48 - 0 : Int).toNat + 1, l_X12_undo_L34 m6  (a := (117 * ((T 38 0) - 1))) (by exact rfl) (by omega) (by omega) (fun V8 m9 g10  => ?_)  _ (0) _ m12 fM_rfl (by first | assumption | omega | grind) (by first | assumption | omega | grind) (by omega)⟩
    · skip
      have fr13 := fM_trans fr7 g10
      have q17 : (blk (blk (up T 38 0 (((T 38 0) - 1))) 30 0 48 (fun i => (up T 38 0 (((T 38 0) - 1))) 36 (((117 * ((T 38 0) - 1))) + i))) 31 0 48 (fun i => (up T 38 0 (((T 38 0) - 1))) 36 (((117 * ((T 38 0) - 1))) + 48 + i))) = (blk (blk (blk (blk (blk (up T 38 0 (((T 38 0) - 1))) 30 0 48 (fun i => (up T 38 0 (((T 38 0) - 1))) 36 (((117 * ((T 38 0) - 1))) + i))) 31 0 48 (fun i => (up T 38 0 (((T 38 0) - 1))) 36 (((117 * ((T 38 0) - 1))) + 48 + i))) 32 0 0 (fun i => (blk (blk (up T 38 0 (((T 38 0) - 1))) 30 0 48 (fun i => (up T 38 0 (((T 38 0) - 1))) 36 (((117 * ((T 38 0) - 1))) + i))) 31 0 48 (fun i => (up T 38 0 (((T 38 0) - 1))) 36 (((117 * ((T 38 0) - 1))) + 48 + i))) 36 (((117 * ((T 38 0) - 1))) + 96 + i))) 33 0 0 (fun i => (blk (blk (up T 38 0 (((T 38 0) - 1))) 30 0 48 (fun i => (up T 38 0 (((T 38 0) - 1))) 36 (((117 * ((T 38 0) - 1))) + i))) 31 0 48 (fun i => (up T 38 0 (((T 38 0) - 1))) 36 (((117 * ((T 38 0) - 1))) + 48 + i))) 36 (((117 * ((T 38 0) - 1))) + 106 + i))) 34 0 0 (fun i => (blk (blk (up T 38 0 (((T 38 0) - 1))) 30 0 48 (fun i => (up T 38 0 (((T 38 0) - 1))) 36 (((117 * ((T 38 0) - 1))) + i))) 31 0 48 (fun i => (up T 38 0 (((T 38 0) - 1))) 36 (((117 * ((T 38 0) - 1))) + 48 + i))) 37 (10 * (blk (blk (up T 38 0 (((T 38 0) - 1))) 30 0 48 (fun i => (up T 38 0 (((T 38 0) - 1))) 36 (((117 * ((T 38 0) - 1))) + i))) 31 0 48 (fun i => (up T 38 0 (((T 38 0) - 1))) 36 (((117 * ((T 38 0) - 1))) + 48 + i))) 38 0 + i))) := by rw [blk_0, blk_0, blk_0]
      have m18 : M V8 (blk (blk (blk (blk (blk (up T 38 0 (((T 38 0) - 1))) 30 0 48 (fun i => (up T 38 0 (((T 38 0) - 1))) 36 (((117 * ((T 38 0) - 1))) + i))) 31 0 48 (fun i => (up T 38 0 (((T 38 0) - 1))) 36 (((117 * ((T 38 0) - 1))) + 48 + i))) 32 0 0 (fun i => (blk (blk (up T 38 0 (((T 38 0) - 1))) 30 0 48 (fun i => (up T 38 0 (((T 38 0) - 1))) 36 (((117 * ((T 38 0) - 1))) + i))) 31 0 48 (fun i => (up T 38 0 (((T 38 0) - 1))) 36 (((117 * ((T 38 0) - 1))) + 48 + i))) 36 (((117 * ((T 38 0) - 1))) + 96 + i))) 33 0 0 (fun i => (blk (blk (up T 38 0 (((T 38 0) - 1))) 30 0 48 (fun i => (up T 38 0 (((T 38 0) - 1))) 36 (((117 * ((T 38 0) - 1))) + i))) 31 0 48 (fun i => (up T 38 0 (((T 38 0) - 1))) 36 (((117 * ((T 38 0) - 1))) + 48 + i))) 36 (((117 * ((T 38 0) - 1))) + 106 + i))) 34 0 0 (fun i => (blk (blk (up T 38 0 (((T 38 0) - 1))) 30 0 48 (fun i => (up T 38 0 (((T 38 0) - 1))) 36 (((117 * ((T 38 0) - 1))) + i))) 31 0 48 (fun i => (up T 38 0 (((T 38 0) - 1))) 36 (((117 * ((T 38 0) - 1))) + 48 + i))) 37 (10 * (blk (blk (up T 38 0 (((T 38 0) - 1))) 30 0 48 (fun i => (up T 38 0 (((T 38 0) - 1))) 36 (((117 * ((T 38 0) - 1))) + i))) 31 0 48 (fun i => (up T 38 0 (((T 38 0) - 1))) 36 (((117 * ((T 38 0) - 1))) + 48 + i))) 38 0 + i))) := by rw [q17] at m9; exact m9
      refine ⟨(10 - 0 : Int).toNat + 1, l_X12_undo_L79 m9  (a := (117 * ((T 38 0) - 1))) (by exact rfl) (by omega) (by omega) (by first | omega | exact (show 0 ≤ T 38 0 - 1 ∧ T 38 0 - 1 ≤ 7 from by omega)) (fun V14 m15 g16  => ?_)  _ (0) _ m18 fM_rfl (by first | assumption | omega | grind) (by first | assumption | omega | grind) (by omega)⟩
      · skip
        have fr19 := fM_trans fr13 g16
        refine ⟨jvp (((117 * ((T 38 0) - 1)) + 116)) (jadd rfl rfl) (by omega) (by omega) (by decide), ?_⟩
        intro U_13 hU_13
        have m20 : M U_13 (up (blk (blk (blk (blk (blk (up T 38 0 (((T 38 0) - 1))) 30 0 48 (fun i => (up T 38 0 (((T 38 0) - 1))) 36 (((117 * ((T 38 0) - 1))) + i))) 31 0 48 (fun i => (up T 38 0 (((T 38 0) - 1))) 36 (((117 * ((T 38 0) - 1))) + 48 + i))) 32 0 10 (fun i => (blk (blk (up T 38 0 (((T 38 0) - 1))) 30 0 48 (fun i => (up T 38 0 (((T 38 0) - 1))) 36 (((117 * ((T 38 0) - 1))) + i))) 31 0 48 (fun i => (up T 38 0 (((T 38 0) - 1))) 36 (((117 * ((T 38 0) - 1))) + 48 + i))) 36 (((117 * ((T 38 0) - 1))) + 96 + i))) 33 0 10 (fun i => (blk (blk (up T 38 0 (((T 38 0) - 1))) 30 0 48 (fun i => (up T 38 0 (((T 38 0) - 1))) 36 (((117 * ((T 38 0) - 1))) + i))) 31 0 48 (fun i => (up T 38 0 (((T 38 0) - 1))) 36 (((117 * ((T 38 0) - 1))) + 48 + i))) 36 (((117 * ((T 38 0) - 1))) + 106 + i))) 34 0 10 (fun i => (blk (blk (up T 38 0 (((T 38 0) - 1))) 30 0 48 (fun i => (up T 38 0 (((T 38 0) - 1))) 36 (((117 * ((T 38 0) - 1))) + i))) 31 0 48 (fun i => (up T 38 0 (((T 38 0) - 1))) 36 (((117 * ((T 38 0) - 1))) + 48 + i))) 37 (10 * (blk (blk (up T 38 0 (((T 38 0) - 1))) 30 0 48 (fun i => (up T 38 0 (((T 38 0) - 1))) 36 (((117 * ((T 38 0) - 1))) + i))) 31 0 48 (fun i => (up T 38 0 (((T 38 0) - 1))) 36 (((117 * ((T 38 0) - 1))) + 48 + i))) 38 0 + i))) 35 0 ((T 36 (((117 * ((T 38 0) - 1)) + 116))))) := by rw [hU_13]; exact M_sI m15 ((T 36 (((117 * ((T 38 0) - 1)) + 116)))) (rdA (M_A m15 36 936) (((117 * ((T 38 0) - 1)) + 116)) (jadd rfl rfl) (by omega) (by omega))
        have fr21 : fM U U_13 := by rw [hU_13]; exact fM_trans fr19 fM_sI
        have q : ((if T 38 0 = 0 then -1 else T 38 0 - 1) : Int) = ((T 38 0) - 1) := by simp [*]
        have q22 : undoT T = (up (blk (blk (blk (blk (blk (up T 38 0 (((T 38 0) - 1))) 30 0 48 (fun i => (up T 38 0 (((T 38 0) - 1))) 36 (((117 * ((T 38 0) - 1))) + i))) 31 0 48 (fun i => (up T 38 0 (((T 38 0) - 1))) 36 (((117 * ((T 38 0) - 1))) + 48 + i))) 32 0 10 (fun i => (blk (blk (up T 38 0 (((T 38 0) - 1))) 30 0 48 (fun i => (up T 38 0 (((T 38 0) - 1))) 36 (((117 * ((T 38 0) - 1))) + i))) 31 0 48 (fun i => (up T 38 0 (((T 38 0) - 1))) 36 (((117 * ((T 38 0) - 1))) + 48 + i))) 36 (((117 * ((T 38 0) - 1))) + 96 + i))) 33 0 10 (fun i => (blk (blk (up T 38 0 (((T 38 0) - 1))) 30 0 48 (fun i => (up T 38 0 (((T 38 0) - 1))) 36 (((117 * ((T 38 0) - 1))) + i))) 31 0 48 (fun i => (up T 38 0 (((T 38 0) - 1))) 36 (((117 * ((T 38 0) - 1))) + 48 + i))) 36 (((117 * ((T 38 0) - 1))) + 106 + i))) 34 0 10 (fun i => (blk (blk (up T 38 0 (((T 38 0) - 1))) 30 0 48 (fun i => (up T 38 0 (((T 38 0) - 1))) 36 (((117 * ((T 38 0) - 1))) + i))) 31 0 48 (fun i => (up T 38 0 (((T 38 0) - 1))) 36 (((117 * ((T 38 0) - 1))) + 48 + i))) 37 (10 * (blk (blk (up T 38 0 (((T 38 0) - 1))) 30 0 48 (fun i => (up T 38 0 (((T 38 0) - 1))) 36 (((117 * ((T 38 0) - 1))) + i))) 31 0 48 (fun i => (up T 38 0 (((T 38 0) - 1))) 36 (((117 * ((T 38 0) - 1))) + 48 + i))) 38 0 + i))) 35 0 ((T 36 (((117 * ((T 38 0) - 1)) + 116))))) := by (unfold undoT backT; first | (rw [cif_t (by assumption)]; done) | (rw [cif_f (by assumption)]; rfl))
        have m23 : M U_13 (undoT T) := by rw [q22]; exact m20
        have h := h _ m23 fr21
        rw [q] at h
        exact pst (M_S m20 38) h
