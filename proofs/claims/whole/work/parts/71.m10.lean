/-! the reference, tape and letters -/
set_option maxHeartbeats 8000000 in
theorem l_X12_four_L3 {U : Um} {T : Tm} (hM : M U T) {x1 : Int32} {v : Int} (e_x1 : x1 = jI v) (p0 : 0 ≤ T 17 0 ∧ T 17 0 + 4 ≤ 1200) {post : Um → Prop} {k_39 : Um → Prop} (hk : ∀ (U2 : Um) , M U2 (feedF T v 4) → fM U U2 → k_39 U2) : ∀ (fu : Nat) (k : Int) (U2 : Um), M U2 (feedF T v ((24 - k) / 8)) → fM U U2 → (-8 ≤ k ∧ k ≤ 24) → (k % 8 = 0) → (k + 8 : Int).toNat < fu → w_X12_four_L3 55 x1 post k_39 fu (jI k) U2 := by
  subst e_x1
  intro fu
  induction fu with
  | zero => intro k V hM2 hF2 i0 i1 hm; exact absurd hm (Nat.not_lt_zero _)
  | succ fu ih =>
    intro k V hM2 hF2 i0 i1 hm
    show b_X12_four_L3 55 (jI v) post k_39 (w_X12_four_L3 55 (jI v) post k_39 fu) (jI k) V
    unfold b_X12_four_L3
    refine br_lt (k) (0) rfl rfl ⟨by omega, by omega⟩ ⟨by omega, by omega⟩ (fun c1 => ?_) (fun c1 => ?_)
    · skip
      have q2 : (feedF T v ((24 - k) / 8)) = (feedF T v 4) := by rw [show (24 - k) / 8 = 4 by omega]
      have m3 : M V (feedF T v 4) := by rw [q2] at hM2; exact hM2
      exact hk  _ m3 hF2
    · skip
      refine ⟨jvp (T 17 0 + (24 - k) / 8) (M_S hM2 17) (by omega) (by omega) (by decide), ?_⟩
      intro U_1 hU_1
      have m4 : M U_1 (up (feedF T v ((24 - k) / 8)) 16 (T 17 0 + (24 - k) / 8) (((((jI (v)) >>> ((jI (k)) &&& (31 : Int32))) &&& (255 : Int32))).toInt)) := by rw [hU_1]; exact M_sA hM2 (T 17 0 + (24 - k) / 8) (((((jI (v)) >>> ((jI (k)) &&& (31 : Int32))) &&& (255 : Int32))).toInt) (M_S hM2 17) (((jb2 (fun x y => x &&& y) (jb2 (fun x y => x >>> y) rfl (jb2 (fun x y => x &&& y) rfl rfl)) rfl)).trans (jI_of _).symm) (by omega) (by omega)
      have fr5 : fM U U_1 := by rw [hU_1]; exact fM_trans hF2 fM_sA
      intro U_2 hU_2
      have m6 : M U_2 (up (up (feedF T v ((24 - k) / 8)) 16 (T 17 0 + (24 - k) / 8) (((((jI (v)) >>> ((jI (k)) &&& (31 : Int32))) &&& (255 : Int32))).toInt)) 17 0 ((T 17 0 + (24 - k) / 8 + 1))) := by rw [hU_2]; exact M_sI m4 ((T 17 0 + (24 - k) / 8 + 1)) (jadd (M_S m4 17) rfl)
      have fr7 : fM U U_2 := by rw [hU_2]; exact fM_trans fr5 fM_sI
      refine al_i ((k + (-8))) (jadd rfl rfl) ?_
      have q8 : (up (up (feedF T v ((24 - k) / 8)) 16 (T 17 0 + (24 - k) / 8) (((((jI (v)) >>> ((jI (k)) &&& (31 : Int32))) &&& (255 : Int32))).toInt)) 17 0 ((T 17 0 + (24 - k) / 8 + 1))) = (feedF T v ((24 - ((k + (-8)))) / 8)) := by (have z := feedF_s (T := T) (v := v) (m := (24 - k) / 8) (k := k) (by omega) (by omega); rw [show (24 - k) / 8 + 1 = (24 - (k + (-8))) / 8 by omega] at z; exact z)
      have m9 : M U_2 (feedF T v ((24 - ((k + (-8)))) / 8)) := by rw [q8] at m6; exact m6
      refine ih ((k + (-8))) _ m9 fr7 (by first | assumption | omega | grind) (by first | assumption | omega | grind) (by omega)
set_option maxHeartbeats 8000000 in
theorem s_X12_four {U : Um} {T : Tm} (hM : M U T) {a1 : Int32} {v : Int} (e_a1 : a1 = jI v) (p0 : 0 ≤ T 17 0 ∧ T 17 0 + 4 ≤ 1200) {post : Um → Prop} (h : ∀ U2 : Um, M U2 (feedF T v 4) → fM U U2 → post U2) : w_X12_four 55 a1 U post := by
  unfold w_X12_four
  subst e_a1
  have q4 : T = (feedF T v ((24 - 24) / 8)) := by exact feedF_0.symm
  have m5 : M U (feedF T v ((24 - 24) / 8)) := by rw [q4] at hM; exact hM
  refine ⟨(24 + 8 : Int).toNat + 1, l_X12_four_L3 hM  (v := v) (by exact rfl) (by omega) (fun V1 m2 g3  => ?_)  _ (24) _ m5 fM_rfl (by first | assumption | omega | grind) (by first | assumption | omega | grind) (by omega)⟩
  · skip
    have fr6 := fM_trans fM_rfl g3
    have q7 : feedF T v 4 = (feedF T v 4) := by rfl
    have m8 : M V1 (feedF T v 4) := by rw [q7]; exact m2
    exact h _ m8 fr6
set_option maxHeartbeats 8000000 in
theorem s_X12_feed {U : Um} {T : Tm} (hM : M U T) {a1 : Int32} {a : Int} {a2 : Int32} {b : Int} {a3 : Int32} {c : Int} {a4 : Int32} {d : Int} {a5 : Int32} {e : Int} (e_a1 : a1 = jI a) (e_a2 : a2 = jI b) (e_a3 : a3 = jI c) (e_a4 : a4 = jI d) (e_a5 : a5 = jI e) (p0 : 0 ≤ T 17 0) (p1 : T 17 0 ≤ 1200) {post : Int32 → Um → Prop} (h : ∀ U2 : Um, M U2 (cif (T 17 0 + 20 ≤ 1200) (feedT T a b c d e) T) → fM U U2 → post (jI (cif (T 17 0 + 20 ≤ 1200) (T 17 0 + 20) (-1))) U2) : w_X12_feed 55 a1 a2 a3 a4 a5 U post := by
  unfold w_X12_feed
  subst e_a1
  subst e_a2
  subst e_a3
  subst e_a4
  subst e_a5
  intro U_1 hU_1
  have m1 : M U_1 T := by rw [hU_1]; exact M_xI hM
  have fr2 : fM U U_1 := by rw [hU_1]; exact fM_trans fM_rfl fM_sI
  refine br_le (((T 17 0) + 20)) (1200) (jadd (M_S m1 17) rfl) rfl ⟨by omega, by omega⟩ ⟨by omega, by omega⟩ (fun c3 => ?_) (fun c3 => ?_)
  · skip
    refine s_X12_four m1  (v := a) (by exact rfl) (by omega) (fun V4 m5 g6  => ?_)
    have fr7 := fM_trans fr2 g6
    refine s_X12_four m5  (v := b) (by exact rfl) (by exact (show 0 ≤ ((T 17 0) + 4) ∧ ((T 17 0) + 4) + 4 ≤ 1200 from by omega)) (fun V8 m9 g10  => ?_)
    have fr11 := fM_trans fr7 g10
    refine s_X12_four m9  (v := c) (by exact rfl) (by exact (show 0 ≤ (((T 17 0) + 4) + 4) ∧ (((T 17 0) + 4) + 4) + 4 ≤ 1200 from by omega)) (fun V12 m13 g14  => ?_)
    have fr15 := fM_trans fr11 g14
    refine s_X12_four m13  (v := d) (by exact rfl) (by exact (show 0 ≤ ((((T 17 0) + 4) + 4) + 4) ∧ ((((T 17 0) + 4) + 4) + 4) + 4 ≤ 1200 from by omega)) (fun V16 m17 g18  => ?_)
    have fr19 := fM_trans fr15 g18
    refine s_X12_four m17  (v := e) (by exact rfl) (by exact (show 0 ≤ (((((T 17 0) + 4) + 4) + 4) + 4) ∧ (((((T 17 0) + 4) + 4) + 4) + 4) + 4 ≤ 1200 from by omega)) (fun V20 m21 g22  => ?_)
    have fr23 := fM_trans fr19 g22
    have q : (cif (T 17 0 + 20 ≤ 1200) (T 17 0 + 20) (-1) : Int) = (((((T 17 0) + 4) + 4) + 4) + 4) + 4 := by ((repeat (first | rw [cif_t (by first | assumption | omega)] | rw [cif_f (by first | assumption | omega)])); try omega)
    have q24 : cif (T 17 0 + 20 ≤ 1200) (feedT T a b c d e) T = (feedF (feedF (feedF (feedF (feedF T a 4) b 4) c 4) d 4) e 4) := by ((repeat (first | rw [cif_t (by first | assumption | omega)] | rw [cif_f (by first | assumption | omega)])); try rfl)
    have m25 : M V20 (cif (T 17 0 + 20 ≤ 1200) (feedT T a b c d e) T) := by rw [q24]; exact m21
    have h := h _ m25 fr23
    rw [q] at h
    exact pst (M_S m21 17) h
  · skip
    have q : (cif (T 17 0 + 20 ≤ 1200) (T 17 0 + 20) (-1) : Int) = (-1) := by ((repeat (first | rw [cif_t (by first | assumption | omega)] | rw [cif_f (by first | assumption | omega)])); try omega)
    have q26 : cif (T 17 0 + 20 ≤ 1200) (feedT T a b c d e) T = T := by ((repeat (first | rw [cif_t (by first | assumption | omega)] | rw [cif_f (by first | assumption | omega)])); try rfl)
    have m27 : M U_1 (cif (T 17 0 + 20 ≤ 1200) (feedT T a b c d e) T) := by rw [q26]; exact m1
    have h := h _ m27 fr2
    rw [q] at h
    exact pst rfl h
set_option maxHeartbeats 8000000 in
theorem s_X12_end {U : Um} {T : Tm} (hM : M U T) {a1 : Int32} {n : Int} (e_a1 : a1 = jI n) (p0 : 0 ≤ T 17 0) (p1 : T 17 0 ≤ 1200) (p2 : r32 n) {post : Int32 → Um → Prop} (h1 : ∀ U2 : Um, M U2 (cif (0 ≤ n ∧ n ≤ T 17 0) (up T 17 0 n) T) → fM U U2 → (0 ≤ n ∧ n ≤ T 17 0) → post 1 U2) (h0 : ∀ U2 : Um, M U2 (cif (0 ≤ n ∧ n ≤ T 17 0) (up T 17 0 n) T) → fM U U2 → ¬ (0 ≤ n ∧ n ≤ T 17 0) → post 0 U2) : w_X12_end 55 a1 U post := by
  unfold w_X12_end
  subst e_a1
  intro U_1 hU_1
  have m1 : M U_1 T := by rw [hU_1]; exact M_xI hM
  have fr2 : fM U U_1 := by rw [hU_1]; exact fM_trans fM_rfl fM_sI
  refine s_X12_isIn (a := n) (lo := 0) (hi := (T 17 0)) (by exact (jlong rfl ⟨by omega, by omega⟩)) (by exact rfl) (by exact (jlong (M_S m1 17) ⟨by omega, by omega⟩)) (by omega) (by omega) (by omega) (fun c3 => ?_) (fun c3 => ?_)
  · skip
    refine br_1 ?_
    intro U_4 hU_4
    have m4 : M U_4 (up T 17 0 (n)) := by rw [hU_4]; exact M_sI m1 (n) rfl
    have fr5 : fM U U_4 := by rw [hU_4]; exact fM_trans fr2 fM_sI
    have q6 : cif (0 ≤ n ∧ n ≤ T 17 0) (up T 17 0 n) T = (up T 17 0 (n)) := by ((repeat (first | rw [cif_t (by first | assumption | omega)] | rw [cif_f (by first | assumption | omega)])))
    have m7 : M U_4 (cif (0 ≤ n ∧ n ≤ T 17 0) (up T 17 0 n) T) := by rw [q6]; exact m4
    exact h1 _ m7 fr5 (by omega)
  · skip
    refine br_0 ?_
    have q8 : cif (0 ≤ n ∧ n ≤ T 17 0) (up T 17 0 n) T = T := by ((repeat (first | rw [cif_t (by first | assumption | omega)] | rw [cif_f (by first | assumption | omega)])))
    have m9 : M U_1 (cif (0 ≤ n ∧ n ≤ T 17 0) (up T 17 0 n) T) := by rw [q8]; exact m1
    exact h0 _ m9 fr2 (by omega)
set_option maxHeartbeats 8000000 in
theorem l_X12_letterOf_L5 {U : Um} {x0 : Int64} {w : Int} {x2 : Int32} {i : Int} (e_x0 : x0 = jL w) (e_x2 : x2 = jI i) {post : Int32 → Um → Prop} {k_26 : Int32 → Um → Prop} (hk : ∀ (n : Int) , (n = ndig w) → k_26 (jI n) U) : ∀ (fu : Nat) (n : Int) (v : Int), (0 ≤ v ∧ v < 387420489) → (n + ndig v = ndig w) → (v : Int).toNat < fu → w_X12_letterOf_L5 x0 x2 post k_26 fu (jI n) (jL v) U := by
  subst e_x2
  subst e_x0
  intro fu
  induction fu with
  | zero => intro n v i0 i1 hm; exact absurd hm (Nat.not_lt_zero _)
  | succ fu ih =>
    intro n v i0 i1 hm
    show b_X12_letterOf_L5 (jL w) (jI i) post k_26 (w_X12_letterOf_L5 (jL w) (jI i) post k_26 fu) (jI n) (jL v) U
    unfold b_X12_letterOf_L5
    have hd := ndig_b w
    have hv := ndig_b v
    refine br_ll (v) (0) rfl rfl ⟨by omega, by omega⟩ ⟨by omega, by omega⟩ (fun c1 => ?_) (fun c1 => ?_)
    · skip
      exact hk (n) (by (have z : v = 0 := by omega); subst z; have z2 : ndig 0 = 0 := rfl; omega)
    · skip
      refine al_i ((n + 1)) (jadd rfl rfl) ?_
      refine al_l ((v / 27)) (jLdivn rfl rfl ⟨by omega, by omega⟩ ⟨by omega, by omega⟩) ?_
      refine ih ((n + 1)) ((v / 27)) (by omega) (by (have z := ndig_s (w := v) (by omega) (by omega); omega)) (by omega)
set_option maxHeartbeats 8000000 in
theorem l_X12_letterOf_L49 {U : Um} {x2 : Int32} {i : Int} (e_x2 : x2 = jI i) {w : Int} (p0 : 0 ≤ i) (p1 : 0 ≤ w ∧ w < 387420489) {post : Int32 → Um → Prop} {k_69 : Int64 → Um → Prop} (hk : ∀ (v : Int) , (v = dvS w (ndig w - 1 - i)) → k_69 (jL v) U) : ∀ (fu : Nat) (v : Int) (k : Int), (i ≤ k ∧ k < ndig w) → (v = dvS w (ndig w - 1 - k)) → (k - i : Int).toNat < fu → w_X12_letterOf_L49 x2 post k_69 fu (jL v) (jI k) U := by
  subst e_x2
  intro fu
  induction fu with
  | zero => intro v k i0 i1 hm; exact absurd hm (Nat.not_lt_zero _)
  | succ fu ih =>
    intro v k i0 i1 hm
    show b_X12_letterOf_L49 (jI i) post k_69 (w_X12_letterOf_L49 (jI i) post k_69 fu) (jL v) (jI k) U
    unfold b_X12_letterOf_L49
    have hd := ndig_b w
    have hb := dvS_b p1.1 p1.2 (n := ndig w - 1 - k) (by omega)
    refine br_le (k) (i) rfl rfl ⟨by omega, by omega⟩ ⟨by omega, by omega⟩ (fun c1 => ?_) (fun c1 => ?_)
    · skip
      exact hk (v) (by (rw [i1, show k = i by omega]))
    · skip
      refine al_l ((v / 27)) (jLdivn rfl rfl ⟨by omega, by omega⟩ ⟨by omega, by omega⟩) ?_
      refine al_i ((k + (-1))) (jadd rfl rfl) ?_
      refine ih ((v / 27)) ((k + (-1))) (by omega) (by (rw [i1, show ndig w - 1 - (k + (-1)) = (ndig w - 1 - k) + 1 by omega, dvS_s (by omega)])) (by omega)
set_option maxHeartbeats 8000000 in
theorem s_X12_letterOf {U : Um} {a1 : Int64} {w : Int} {a2 : Int32} {i : Int} (e_a1 : a1 = jL w) (e_a2 : a2 = jI i) (p0 : 0 ≤ w ∧ w < 387420489) (p1 : r32 i) {post : Int32 → Um → Prop} (h : post (jI (letS w i)) U) : w_X12_letterOf  a1 a2 U post := by
  unfold w_X12_letterOf
  subst e_a1
  subst e_a2
  have hd := ndig_b w
  refine al_l (w) rfl ?_
  refine ⟨(w : Int).toNat + 1, l_X12_letterOf_L5 (w := w) (i := i) (by exact rfl) (by exact rfl)  (fun y1 c2 => ?_)  _ (0) (w) (by first | assumption | omega | grind) (by first | assumption | omega | grind) (by omega)⟩
  · skip
    refine s_X12_isIn (a := i) (lo := 0) (hi := (y1 - 1)) (by exact (jlong rfl ⟨by omega, by omega⟩)) (by exact rfl) (by exact (jlong (jsub rfl rfl) ⟨by omega, by omega⟩)) (by omega) (by omega) (by omega) (fun c6 => ?_) (fun c6 => ?_)
    · skip
      refine br_1 ?_
      refine al_l (w) rfl ?_
      refine al_i ((y1 - 1)) (jsub rfl rfl) ?_
      refine ⟨(((y1 - 1)) - i : Int).toNat + 1, l_X12_letterOf_L49 (i := i) (w := w) (by exact rfl) (by omega) (by omega) (fun y7 c8 => ?_)  _ (w) ((y1 - 1)) (by omega) (by (have z : ∀ m, m = 0 → w = dvS w m := fun m h => (by rw [h]; rfl)); exact z _ (by omega)) (by omega)⟩
      · skip
        have hb := dvS_b p0.1 p0.2 (n := ndig w - 1 - i) (by omega)
        have q : (letS w i : Int) = ((y7 % 27) - 1) := by (unfold letS; (repeat (first | rw [cif_t (by first | assumption | omega)] | rw [cif_f (by first | assumption | omega)])); try omega)
        rw [q] at h
        exact pst (jsub (jtoI (jLremn rfl rfl ⟨by omega, by omega⟩ ⟨by omega, by omega⟩) ⟨by omega, by omega⟩) rfl) h
    · skip
      refine br_0 ?_
      have q : (letS w i : Int) = (-1) := by (unfold letS; (repeat (first | rw [cif_t (by first | assumption | omega)] | rw [cif_f (by first | assumption | omega)])); try omega)
      rw [q] at h
      exact pst rfl h
set_option maxHeartbeats 8000000 in
theorem s_X12_letter {U : Um} {T : Tm} (hM : M U T) (hI : I1 T) (h2 : I2 T) {a1 : Int32} {sort : Int} {a2 : Int32} {which : Int} {a3 : Int32} {i : Int} (e_a1 : a1 = jI sort) (e_a2 : a2 = jI which) (e_a3 : a3 = jI i) (p0 : r32 sort) (p1 : r32 which) (p2 : r32 i) {post : Int32 → Um → Prop} (h : ∀ U2 : Um, M U2 T → fM U U2 → post (jI (letF T sort which i)) U2) : w_X12_letter 55 a1 a2 a3 U post := by
  unfold w_X12_letter
  subst e_a1
  subst e_a2
  subst e_a3
  have hn := I_n hI
  intro U_1 hU_1
  have m1 : M U_1 T := by rw [hU_1]; exact M_xI hM
  have fr2 : fM U U_1 := by rw [hU_1]; exact fM_trans fM_rfl fM_sI
  refine s_X12_isIn (a := sort) (lo := 0) (hi := 2) (by exact (jlong rfl ⟨by omega, by omega⟩)) (by exact rfl) (by exact rfl) (by omega) (by omega) (by omega) (fun c3 => ?_) (fun c3 => ?_)
  · skip
    refine br_1 ?_
    refine ⟨jvp (sort) rfl (by omega) (by omega) (by decide), ?_⟩
    have f4 := I_11 hI (sort) (by omega) (by omega)
    refine s_X12_isIn (a := which) (lo := 0) (hi := ((T 11 (sort)) - 1)) (by exact (jlong rfl ⟨by omega, by omega⟩)) (by exact rfl) (by exact (jlong (jsub (rdA (M_A m1 11 7) (sort) rfl (by omega) (by omega)) rfl) ⟨by omega, by omega⟩)) (by omega) (by omega) (by omega) (fun c5 => ?_) (fun c5 => ?_)
    · skip
      refine br_1 ?_
      refine br_eq (sort) (0) rfl rfl ⟨by omega, by omega⟩ ⟨by omega, by omega⟩ (fun c6 => ?_) (fun c6 => ?_)
      · skip
        have hz0 : T 11 sort = T 11 0 := by rw [c6]
        refine ⟨jvp (which) rfl (by omega) (by omega) (by decide), ?_⟩
        refine s_X12_letterOf (w := (T 1 (which))) (i := i) (by exact (rdJ (M_J m1 1 6) (which) rfl (by omega) (by omega))) (by exact rfl) (by first | omega | (have z := nm_b hI (k := sort) (which := which) (by omega) (by omega); omega)) (by omega) ?_
        have q : (letF T sort which i : Int) = letS ((T 1 (which))) i := by (unfold letF; (repeat (first | rw [cif_t (by first | assumption | omega)] | rw [cif_f (by first | assumption | omega)])); try simp only [*]; try rfl)
        have h := h _ m1 fr2
        rw [q] at h
        exact pst rfl h
      · skip
        refine br_eq (sort) (1) rfl rfl ⟨by omega, by omega⟩ ⟨by omega, by omega⟩ (fun c7 => ?_) (fun c7 => ?_)
        · skip
          have hz1 : T 11 sort = T 11 1 := by rw [c7]
          refine ⟨jvp (which) rfl (by omega) (by omega) (by decide), ?_⟩
          refine s_X12_letterOf (w := (T 4 (which))) (i := i) (by exact (rdJ (M_J m1 4 8) (which) rfl (by omega) (by omega))) (by exact rfl) (by first | omega | (have z := nm_b hI (k := sort) (which := which) (by omega) (by omega); omega)) (by omega) ?_
          have q : (letF T sort which i : Int) = letS ((T 4 (which))) i := by (unfold letF; (repeat (first | rw [cif_t (by first | assumption | omega)] | rw [cif_f (by first | assumption | omega)])); try simp only [*]; try rfl)
          have h := h _ m1 fr2
          rw [q] at h
          exact pst rfl h
        · skip
          have hs2 : sort = 2 := by omega
          have hz2 : T 11 sort = T 11 2 := by rw [hs2]
          refine ⟨jvp (which) rfl (by omega) (by omega) (by decide), ?_⟩
          refine s_X12_letterOf (w := (T 5 (which))) (i := i) (by exact (rdJ (M_J m1 5 10) (which) rfl (by omega) (by omega))) (by exact rfl) (by first | omega | (have z := nm_b hI (k := sort) (which := which) (by omega) (by omega); omega)) (by omega) ?_
          have q : (letF T sort which i : Int) = letS ((T 5 (which))) i := by (unfold letF; (repeat (first | rw [cif_t (by first | assumption | omega)] | rw [cif_f (by first | assumption | omega)])); try simp only [*]; try rfl)
          have h := h _ m1 fr2
          rw [q] at h
          exact pst rfl h
    · skip
      refine br_0 ?_
      have q : (letF T sort which i : Int) = (-1) := by (unfold letF; (repeat (first | rw [cif_t (by first | assumption | omega)] | rw [cif_f (by first | assumption | omega)])); try simp only [*]; try rfl)
      have h := h _ m1 fr2
      rw [q] at h
      exact pst rfl h
  · skip
    refine br_0 ?_
    have q : (letF T sort which i : Int) = (-1) := by (unfold letF; (repeat (first | rw [cif_t (by first | assumption | omega)] | rw [cif_f (by first | assumption | omega)])); try simp only [*]; try rfl)
    have h := h _ m1 fr2
    rw [q] at h
    exact pst rfl h
