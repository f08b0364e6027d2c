/-! the reference, what is asked -/
set_option maxHeartbeats 8000000 in
theorem s_X12_whyOf {U : Um} {T : Tm} (hM : M U T) (hI : I1 T) (h2 : I2 T) {a1 : Int32} {g : Int} {a2 : Int32} {s : Int} {a3 : Int32} {o : Int} (e_a1 : a1 = jI g) (e_a2 : a2 = jI s) (e_a3 : a3 = jI o) (p0 : r32 g) (p1 : r32 s) (p2 : r32 o) {post : Int32 → Um → Prop} (h : post (jI (whyF T g s o)) U) : w_X12_whyOf 55 a1 a2 a3 U post := by
  unfold w_X12_whyOf
  subst e_a1
  subst e_a2
  subst e_a3
  have hn := I_n hI
  refine s_X12_isSeat hM hI h2 (g := g) (s := s) (by exact rfl) (by exact rfl) (by omega) (by omega) (fun c1 => ?_) (fun c1 => ?_)
  · skip
    have f2 := I_g hI (g) (by omega) (by omega)
    unfold gOk at f2
    refine br_1 ?_
    refine s_X12_isOne hM hI h2 (o := o) (by exact rfl) (by omega) (fun c3 => ?_) (fun c3 => ?_)
    · skip
      refine br_1 ?_
      refine s_X12_isPlayed hM hI h2 (g := g) (by exact rfl) (by omega) (by omega) (fun c4 => ?_) (fun c4 => ?_)
      · skip
        refine br_1 ?_
        have q : (whyF T g s o : Int) = 2 := by unfold whyF; (repeat (first | rw [cif_t (by first | assumption | omega)] | rw [cif_f (by first | assumption | omega)] | rw [cif_t (by grind)] | rw [cif_f (by grind)]))
        rw [q] at h
        exact pst rfl h
      · skip
        refine br_0 ?_
        refine s_X12_whyNot hM hI h2 (g := g) (s := s) (o := o) (by exact rfl) (by exact rfl) (by exact rfl) (by omega) (by omega) (by omega) (by omega) (by omega) (by omega) ?_
        have q : (whyF T g s o : Int) = whyS T g s o := by unfold whyF; (repeat (first | rw [cif_t (by first | assumption | omega)] | rw [cif_f (by first | assumption | omega)] | rw [cif_t (by grind)] | rw [cif_f (by grind)]))
        rw [q] at h
        exact pst rfl h
    · skip
      refine br_0 ?_
      have q : (whyF T g s o : Int) = 1 := by unfold whyF; (repeat (first | rw [cif_t (by first | assumption | omega)] | rw [cif_f (by first | assumption | omega)] | rw [cif_t (by grind)] | rw [cif_f (by grind)]))
      rw [q] at h
      exact pst rfl h
  · skip
    refine br_0 ?_
    have q : (whyF T g s o : Int) = 1 := by unfold whyF; (repeat (first | rw [cif_t (by first | assumption | omega)] | rw [cif_f (by first | assumption | omega)] | rw [cif_t (by grind)] | rw [cif_f (by grind)]))
    rw [q] at h
    exact pst rfl h
set_option maxHeartbeats 8000000 in
theorem s_X12_why {U : Um} {T : Tm} (hM : M U T) (hI : I1 T) (h2 : I2 T) {a1 : Int32} {g : Int} {a2 : Int32} {s : Int} {a3 : Int32} {o : Int} (e_a1 : a1 = jI g) (e_a2 : a2 = jI s) (e_a3 : a3 = jI o) (p0 : r32 g) (p1 : r32 s) (p2 : r32 o) {post : Int32 → Um → Prop} (h : ∀ U2 : Um, M U2 T → fM U U2 → post (jI (whyF T g s o)) U2) : w_X12_why 55 a1 a2 a3 U post := by
  unfold w_X12_why
  subst e_a1
  subst e_a2
  subst e_a3
  have hn := I_n hI
  intro U_1 hU_1
  have m1 : M U_1 T := by rw [hU_1]; exact M_xI hM
  have fr2 : fM U U_1 := by rw [hU_1]; exact fM_trans fM_rfl fM_sI
  refine s_X12_whyOf m1 hI h2 (g := g) (s := s) (o := o) (by exact rfl) (by exact rfl) (by exact rfl) (by omega) (by omega) (by omega) ?_
  have f3 := whyF_b T (g) (s) (o)
  have q : (whyF T g s o : Int) = whyF T g s o := by rfl
  have h := h _ m1 fr2
  rw [q] at h
  exact pst rfl h
theorem s_one0 {U : Um} {post : Int32 → Um → Prop} (h : post 0 U) : w_X12_one 0 U post := br_0 h
theorem s_one1 {U : Um} {post : Int32 → Um → Prop} (h : post 1 U) : w_X12_one 1 U post := br_1 h
set_option maxHeartbeats 8000000 in
theorem l_X12_seatsOf_L4 {U : Um} {T : Tm} (hM : M U T) (hI : I1 T) (h2 : I2 T) {x1 : Int32} {o : Int} (e_x1 : x1 = jI o) (p0 : r32 o) {post : Int32 → Um → Prop} {k_37 : Int32 → Um → Prop} (hk : ∀ (x : Int) , (x = seatsS T o) → k_37 (jI x) U) : ∀ (fu : Nat) (x : Int) (k : Int), (0 ≤ k) → (k ≤ 48) → (x = cnt (fun k => T 30 k = o) k) → (48 - k : Int).toNat < fu → w_X12_seatsOf_L4 55 x1 post k_37 fu (jI x) (jI k) U := by
  have hn := I_n hI
  subst e_x1
  intro fu
  induction fu with
  | zero => intro x k i0 i1 i2 hm; exact absurd hm (Nat.not_lt_zero _)
  | succ fu ih =>
    intro x k i0 i1 i2 hm
    show b_X12_seatsOf_L4 55 (jI o) post k_37 (w_X12_seatsOf_L4 55 (jI o) post k_37 fu) (jI x) (jI k) U
    unfold b_X12_seatsOf_L4
    have hcb := cnt_b (p := fun k => T 30 k = o) i0
    refine br_le (48) (k) rfl rfl ⟨by omega, by omega⟩ ⟨by omega, by omega⟩ (fun c1 => ?_) (fun c1 => ?_)
    · skip
      exact hk (x) (by unfold seatsS; rw [i2, show k = 48 by omega])
    · skip
      refine ⟨jvp (k) rfl (by omega) (by omega) (by decide), ?_⟩
      have f2 := I_k h2 (k) (by omega) (by omega)
      refine al_if ((T 30 (k))) (o) (rdA (M_A hM 30 48) (k) rfl (by omega) (by omega)) rfl ⟨by omega, by omega⟩ ⟨by omega, by omega⟩ (fun c3 => ?_) (fun c3 => ?_)
      · skip
        refine s_one1 ?_
        refine al_i ((x + 1)) (jadd rfl rfl) ?_
        refine al_i ((k + 1)) (jadd rfl rfl) ?_
        refine ih ((x + 1)) ((k + 1)) (by omega) (by omega) (by first | (rw [cnt_t i0 (by assumption)]; omega) | (rw [cnt_f i0 (by assumption)]; omega)) (by omega)
      · skip
        refine s_one0 ?_
        refine al_i ((x + 0)) (jadd rfl rfl) ?_
        refine al_i ((k + 1)) (jadd rfl rfl) ?_
        refine ih ((x + 0)) ((k + 1)) (by omega) (by omega) (by first | (rw [cnt_t i0 (by assumption)]; omega) | (rw [cnt_f i0 (by assumption)]; omega)) (by omega)
set_option maxHeartbeats 8000000 in
theorem s_X12_seatsOf {U : Um} {T : Tm} (hM : M U T) (hI : I1 T) (h2 : I2 T) {a1 : Int32} {o : Int} (e_a1 : a1 = jI o) (p0 : r32 o) {post : Int32 → Um → Prop} (h : post (jI (seatsS T o)) U) : w_X12_seatsOf 55 a1 U post := by
  unfold w_X12_seatsOf
  subst e_a1
  have hn := I_n hI
  refine ⟨(48 - 0 : Int).toNat + 1, l_X12_seatsOf_L4 hM hI h2 (o := o) (by exact rfl) (by omega) (fun y1 c2 => ?_)  _ (0) (0) (by omega) (by omega) (by rw [cnt_0 (by decide)]) (by omega)⟩
  · skip
    have q : (seatsS T o : Int) = y1 := by omega
    rw [q] at h
    exact pst rfl h
set_option maxHeartbeats 8000000 in
theorem l_X12_has_L37 {U : Um} {T : Tm} (hM : M U T) (hI : I1 T) (h2 : I2 T) {x1 : Int32} {w : Int} {x2 : Int32} {x : Int} {x4 : Int32} {g : Int} (e_x1 : x1 = jI w) (e_x2 : x2 = jI x) (e_x4 : x4 = jI g) {y0 : Int} (p0 : 0 ≤ g) (p1 : g < T 11 3) (p2 : r32 y0) (p3 : r32 x) (p4 : 0 ≤ y0) (p5 : y0 ≤ 48) {post : Int32 → Um → Prop} {k_83 : Int32 → Um → Prop} (hk : ∀ (y : Int) , (y = y0 + takenG T g (gm T g 7)) → k_83 (jI y) U) : ∀ (fu : Nat) (y : Int) (s : Int), (0 ≤ s) → (s ≤ gm T g 7) → (y = y0 + takenG T g s) → (gm T g 7 - s : Int).toNat < fu → w_X12_has_L37 55 x1 x2 x4 post k_83 fu (jI y) (jI s) U := by
  have hn := I_n hI
  subst e_x4
  subst e_x2
  subst e_x1
  intro fu
  induction fu with
  | zero => intro y s i0 i1 i2 hm; exact absurd hm (Nat.not_lt_zero _)
  | succ fu ih =>
    intro y s i0 i1 i2 hm
    show b_X12_has_L37 55 (jI w) (jI x) (jI g) post k_83 (w_X12_has_L37 55 (jI w) (jI x) (jI g) post k_83 fu) (jI y) (jI s) U
    unfold b_X12_has_L37
    have hg := I_g hI g (by omega) (by omega)
    have f1 := I_g hI (g) (by omega) (by omega)
    unfold gOk at f1
    refine s_X12_of hM hI h2 (g := g) (k := 7) (by exact rfl) (by exact rfl) (by omega) (by omega) (by omega) (by omega) ?_
    refine br_le (gm T g 7) (s) rfl rfl ⟨by omega, by omega⟩ ⟨by omega, by omega⟩ (fun c2 => ?_) (fun c2 => ?_)
    · skip
      exact hk (y) (by rw [i2, show gm T g 7 = s by omega])
    · skip
      refine s_X12_at (g := g) (s := s) (by exact rfl) (by exact rfl)  ?_
      refine ⟨jvp ((3 * g + s)) rfl (by omega) (by omega) (by decide), ?_⟩
      have f3 := I_k h2 ((3 * g + s)) (by omega) (by omega)
      refine al_ifr ((T 30 ((3 * g + s)))) ((-1)) (rdA (M_A hM 30 48) ((3 * g + s)) rfl (by omega) (by omega)) rfl ⟨by omega, by omega⟩ ⟨by omega, by omega⟩ (fun c4 => ?_) (fun c4 => ?_)
      · skip
        refine s_one0 ?_
        refine al_i ((y + 0)) (jadd rfl rfl) ?_
        refine al_i ((s + 1)) (jadd rfl rfl) ?_
        refine ih ((y + 0)) ((s + 1)) (by omega) (by omega) (by first | (rw [takenG_t i0 (by assumption)]; omega) | (rw [takenG_f i0 (by assumption)]; omega)) (by omega)
      · skip
        refine s_one1 ?_
        refine al_i ((y + 1)) (jadd rfl rfl) ?_
        refine al_i ((s + 1)) (jadd rfl rfl) ?_
        refine ih ((y + 1)) ((s + 1)) (by omega) (by omega) (by first | (rw [takenG_t i0 (by assumption)]; omega) | (rw [takenG_f i0 (by assumption)]; omega)) (by omega)
set_option maxHeartbeats 8000000 in
theorem l_X12_has_L12 {U : Um} {T : Tm} (hM : M U T) (hI : I1 T) (h2 : I2 T) {x1 : Int32} {w : Int} (e_x1 : x1 = jI w) {post : Int32 → Um → Prop} {k_89 : Int32 → Int32 → Um → Prop} (hk : ∀ (x : Int) (y : Int) , (x = allSeats T (T 11 3)) → (y = taken T (T 11 3)) → k_89 (jI x) (jI y) U) : ∀ (fu : Nat) (x : Int) (y : Int) (g : Int), (0 ≤ g) → (g ≤ T 11 3) → (x = allSeats T g) → (y = taken T g) → (T 11 3 - g : Int).toNat < fu → w_X12_has_L12 55 x1 post k_89 fu (jI x) (jI y) (jI g) U := by
  have hn := I_n hI
  subst e_x1
  intro fu
  induction fu with
  | zero => intro x y g i0 i1 i2 i3 hm; exact absurd hm (Nat.not_lt_zero _)
  | succ fu ih =>
    intro x y g i0 i1 i2 i3 hm
    show b_X12_has_L12 55 (jI w) post k_89 (w_X12_has_L12 55 (jI w) post k_89 fu) (jI x) (jI y) (jI g) U
    unfold b_X12_has_L12
    have hb := taken_b hI i0 i1
    have hb2 := seats_b hI i0 i1
    refine ⟨jvp (3) rfl (by omega) (by omega) (by decide), ?_⟩
    refine br_le ((T 11 (3))) (g) (rdA (M_A hM 11 7) (3) rfl (by omega) (by omega)) rfl ⟨by omega, by omega⟩ ⟨by omega, by omega⟩ (fun c1 => ?_) (fun c1 => ?_)
    · skip
      exact hk (x) (y) (by rw [i2, show T 11 3 = g by omega]) (by rw [i3, show T 11 3 = g by omega])
    · skip
      have f2 := I_g hI (g) (by omega) (by omega)
      unfold gOk at f2
      refine s_X12_of hM hI h2 (g := g) (k := 7) (by exact rfl) (by exact rfl) (by omega) (by omega) (by omega) (by omega) ?_
      refine al_i ((x + gm T g 7)) (jadd rfl rfl) ?_
      refine ⟨(gm T g 7 - 0 : Int).toNat + 1, l_X12_has_L37 hM hI h2 (w := w) (x := (x + gm T g 7)) (g := g) (y0 := y) (by exact rfl) (by exact rfl) (by exact rfl) (by omega) (by omega) (by omega) (by omega) (by omega) (by omega) (fun y3 c4 => ?_)  _ (y) (0) (by omega) (by omega) (by (unfold takenG; rw [cnt_0 (by decide)]; omega)) (by omega)⟩
      · skip
        refine al_i ((g + 1)) (jadd rfl rfl) ?_
        refine ih ((x + gm T g 7)) (y3) ((g + 1)) (by omega) (by omega) (by rw [seats_s i0]; omega) (by rw [taken_s i0]; omega) (by omega)
set_option maxHeartbeats 8000000 in
theorem s_X12_has {U : Um} {T : Tm} (hM : M U T) (hI : I1 T) (h2 : I2 T) {a1 : Int32} {w : Int} (e_a1 : a1 = jI w) (p0 : r32 w) {post : Int32 → Um → Prop} (h : ∀ U2 : Um, M U2 T → fM U U2 → post (jI (hasS T w)) U2) : w_X12_has 55 a1 U post := by
  unfold w_X12_has
  subst e_a1
  have hn := I_n hI
  intro U_1 hU_1
  have m1 : M U_1 T := by rw [hU_1]; exact M_xI hM
  have fr2 : fM U U_1 := by rw [hU_1]; exact fM_trans fM_rfl fM_sI
  refine ⟨(T 11 3 - 0 : Int).toNat + 1, l_X12_has_L12 m1 hI h2 (w := w) (by exact rfl)  (fun y3 y4 c5 c6 => ?_)  _ (0) (0) (0) (by omega) (by omega) (by rfl) (by rfl) (by omega)⟩
  · skip
    refine ⟨fun d10 d11 d12 d13 d14 d15 d16 d17 d18 d19 d20 => ?_, fun d21 => ?_, fun d22 => ?_, fun d23 => ?_, fun d24 => ?_, fun d25 => ?_, fun d26 => ?_, fun d27 => ?_, fun d28 => ?_, fun d29 => ?_, fun d30 => ?_, fun d31 => ?_⟩
    · skip
      have d10 := jne (0) d10 rfl
      have d11 := jne (1) d11 rfl
      have d12 := jne (2) d12 rfl
      have d13 := jne (3) d13 rfl
      have d14 := jne (4) d14 rfl
      have d15 := jne (5) d15 rfl
      have d16 := jne (6) d16 rfl
      have d17 := jne (7) d17 rfl
      have d18 := jne (8) d18 rfl
      have d19 := jne (9) d19 rfl
      have d20 := jne (10) d20 rfl
      have q : (hasS T w : Int) = (-2) := by unfold hasS; simp [*] <;> omega
      have h := h _ m1 fr2
      rw [q] at h
      exact pst rfl h
    · skip
      have d21 := jeq (0) d21 rfl ⟨by omega, by omega⟩ ⟨by omega, by omega⟩
      refine ⟨jvp (w) rfl (by omega) (by omega) (by decide), ?_⟩
      have q : (hasS T w : Int) = (T 11 (w)) := by unfold hasS; simp [*] <;> omega
      have h := h _ m1 fr2
      rw [q] at h
      exact pst (rdA (M_A m1 11 7) (w) rfl (by omega) (by omega)) h
    · skip
      have d22 := jeq (1) d22 rfl ⟨by omega, by omega⟩ ⟨by omega, by omega⟩
      refine ⟨jvp (w) rfl (by omega) (by omega) (by decide), ?_⟩
      have q : (hasS T w : Int) = (T 11 (w)) := by unfold hasS; simp [*] <;> omega
      have h := h _ m1 fr2
      rw [q] at h
      exact pst (rdA (M_A m1 11 7) (w) rfl (by omega) (by omega)) h
    · skip
      have d23 := jeq (2) d23 rfl ⟨by omega, by omega⟩ ⟨by omega, by omega⟩
      refine ⟨jvp (w) rfl (by omega) (by omega) (by decide), ?_⟩
      have q : (hasS T w : Int) = (T 11 (w)) := by unfold hasS; simp [*] <;> omega
      have h := h _ m1 fr2
      rw [q] at h
      exact pst (rdA (M_A m1 11 7) (w) rfl (by omega) (by omega)) h
    · skip
      have d24 := jeq (3) d24 rfl ⟨by omega, by omega⟩ ⟨by omega, by omega⟩
      refine ⟨jvp (w) rfl (by omega) (by omega) (by decide), ?_⟩
      have q : (hasS T w : Int) = (T 11 (w)) := by unfold hasS; simp [*] <;> omega
      have h := h _ m1 fr2
      rw [q] at h
      exact pst (rdA (M_A m1 11 7) (w) rfl (by omega) (by omega)) h
    · skip
      have d25 := jeq (4) d25 rfl ⟨by omega, by omega⟩ ⟨by omega, by omega⟩
      refine ⟨jvp (w) rfl (by omega) (by omega) (by decide), ?_⟩
      have q : (hasS T w : Int) = (T 11 (w)) := by unfold hasS; simp [*] <;> omega
      have h := h _ m1 fr2
      rw [q] at h
      exact pst (rdA (M_A m1 11 7) (w) rfl (by omega) (by omega)) h
    · skip
      have d26 := jeq (5) d26 rfl ⟨by omega, by omega⟩ ⟨by omega, by omega⟩
      refine ⟨jvp (w) rfl (by omega) (by omega) (by decide), ?_⟩
      have q : (hasS T w : Int) = (T 11 (w)) := by unfold hasS; simp [*] <;> omega
      have h := h _ m1 fr2
      rw [q] at h
      exact pst (rdA (M_A m1 11 7) (w) rfl (by omega) (by omega)) h
    · skip
      have d27 := jeq (6) d27 rfl ⟨by omega, by omega⟩ ⟨by omega, by omega⟩
      have q : (hasS T w : Int) = (T 35 0) := by unfold hasS; simp [*] <;> omega
      have h := h _ m1 fr2
      rw [q] at h
      exact pst (M_S m1 35) h
    · skip
      have d28 := jeq (7) d28 rfl ⟨by omega, by omega⟩ ⟨by omega, by omega⟩
      have q : (hasS T w : Int) = y3 := by unfold hasS; simp [*] <;> omega
      have h := h _ m1 fr2
      rw [q] at h
      exact pst rfl h
    · skip
      have d29 := jeq (8) d29 rfl ⟨by omega, by omega⟩ ⟨by omega, by omega⟩
      have q : (hasS T w : Int) = y4 := by unfold hasS; simp [*] <;> omega
      have h := h _ m1 fr2
      rw [q] at h
      exact pst rfl h
    · skip
      have d30 := jeq (9) d30 rfl ⟨by omega, by omega⟩ ⟨by omega, by omega⟩
      have q : (hasS T w : Int) = (T 38 0) := by unfold hasS; simp [*] <;> omega
      have h := h _ m1 fr2
      rw [q] at h
      exact pst (M_S m1 38) h
    · skip
      have d31 := jeq (10) d31 rfl ⟨by omega, by omega⟩ ⟨by omega, by omega⟩
      have q : (hasS T w : Int) = (T 17 0) := by unfold hasS; simp [*] <;> omega
      have h := h _ m1 fr2
      rw [q] at h
      exact pst (M_S m1 17) h
set_option maxHeartbeats 8000000 in
theorem s_X12_game {U : Um} {T : Tm} (hM : M U T) (hI : I1 T) (h2 : I2 T) {a1 : Int32} {g : Int} {a2 : Int32} {w : Int} (e_a1 : a1 = jI g) (e_a2 : a2 = jI w) (p0 : r32 g) (p1 : r32 w) {post : Int32 → Um → Prop} (h : ∀ U2 : Um, M U2 T → fM U U2 → post (jI (gameS T g w)) U2) : w_X12_game 55 a1 a2 U post := by
  unfold w_X12_game
  subst e_a1
  subst e_a2
  have hn := I_n hI
  intro U_1 hU_1
  have m1 : M U_1 T := by rw [hU_1]; exact M_xI hM
  have fr2 : fM U U_1 := by rw [hU_1]; exact fM_trans fM_rfl fM_sI
  refine s_X12_isGame m1 hI h2 (g := g) (by exact rfl) (by omega) (fun c3 => ?_) (fun c3 => ?_)
  · skip
    have f4 := I_g hI (g) (by omega) (by omega)
    unfold gOk at f4
    refine br_1 ?_
    refine s_X12_isIn (a := w) (lo := 0) (hi := 8) (by exact (jlong rfl ⟨by omega, by omega⟩)) (by exact rfl) (by exact rfl) (by omega) (by omega) (by omega) (fun c5 => ?_) (fun c5 => ?_)
    · skip
      refine br_1 ?_
      refine br_le (8) (w) rfl rfl ⟨by omega, by omega⟩ ⟨by omega, by omega⟩ (fun c6 => ?_) (fun c6 => ?_)
      · skip
        refine s_X12_isPlayed m1 hI h2 (g := g) (by exact rfl) (by omega) (by omega) (fun c7 => ?_) (fun c7 => ?_)
        · skip
          refine br_1 ?_
          have q : (gameS T g w : Int) = 2 := by unfold gameS; (repeat (first | rw [cif_t (by first | assumption | omega)] | rw [cif_f (by first | assumption | omega)] | rw [cif_t (by grind)] | rw [cif_f (by grind)]))
          have h := h _ m1 fr2
          rw [q] at h
          exact pst rfl h
        · skip
          refine br_0 ?_
          refine s_X12_isLate m1 hI h2 (g := g) (by exact rfl) (by omega) (by omega) (fun c8 => ?_) (fun c8 => ?_)
          · skip
            refine s_one1 ?_
            have q : (gameS T g w : Int) = 1 := by unfold gameS; (repeat (first | rw [cif_t (by first | assumption | omega)] | rw [cif_f (by first | assumption | omega)] | rw [cif_t (by grind)] | rw [cif_f (by grind)]))
            have h := h _ m1 fr2
            rw [q] at h
            exact pst rfl h
          · skip
            refine s_one0 ?_
            have q : (gameS T g w : Int) = 0 := by unfold gameS; (repeat (first | rw [cif_t (by first | assumption | omega)] | rw [cif_f (by first | assumption | omega)] | rw [cif_t (by grind)] | rw [cif_f (by grind)]))
            have h := h _ m1 fr2
            rw [q] at h
            exact pst rfl h
      · skip
        refine s_X12_of m1 hI h2 (g := g) (k := w) (by exact rfl) (by exact rfl) (by omega) (by omega) (by omega) (by omega) ?_
        have q : (gameS T g w : Int) = gm T g w := by unfold gameS; (repeat (first | rw [cif_t (by first | assumption | omega)] | rw [cif_f (by first | assumption | omega)] | rw [cif_t (by grind)] | rw [cif_f (by grind)]))
        have h := h _ m1 fr2
        rw [q] at h
        exact pst rfl h
    · skip
      refine br_0 ?_
      have q : (gameS T g w : Int) = (-1) := by unfold gameS; (repeat (first | rw [cif_t (by first | assumption | omega)] | rw [cif_f (by first | assumption | omega)] | rw [cif_t (by grind)] | rw [cif_f (by grind)]))
      have h := h _ m1 fr2
      rw [q] at h
      exact pst rfl h
  · skip
    refine br_0 ?_
    have q : (gameS T g w : Int) = (-1) := by unfold gameS; (repeat (first | rw [cif_t (by first | assumption | omega)] | rw [cif_f (by first | assumption | omega)] | rw [cif_t (by grind)] | rw [cif_f (by grind)]))
    have h := h _ m1 fr2
    rw [q] at h
    exact pst rfl h
set_option maxHeartbeats 8000000 in
theorem s_X12_seat {U : Um} {T : Tm} (hM : M U T) (hI : I1 T) (h2 : I2 T) {a1 : Int32} {g : Int} {a2 : Int32} {s : Int} {a3 : Int32} {w : Int} (e_a1 : a1 = jI g) (e_a2 : a2 = jI s) (e_a3 : a3 = jI w) (p0 : r32 g) (p1 : r32 s) (p2 : r32 w) {post : Int32 → Um → Prop} (h : ∀ U2 : Um, M U2 T → fM U U2 → post (jI (seatS T g s w)) U2) : w_X12_seat 55 a1 a2 a3 U post := by
  unfold w_X12_seat
  subst e_a1
  subst e_a2
  subst e_a3
  have hn := I_n hI
  intro U_1 hU_1
  have m1 : M U_1 T := by rw [hU_1]; exact M_xI hM
  have fr2 : fM U U_1 := by rw [hU_1]; exact fM_trans fM_rfl fM_sI
  refine s_X12_isSeat m1 hI h2 (g := g) (s := s) (by exact rfl) (by exact rfl) (by omega) (by omega) (fun c3 => ?_) (fun c3 => ?_)
  · skip
    have f4 := I_g hI (g) (by omega) (by omega)
    unfold gOk at f4
    refine br_1 ?_
    refine s_X12_isIn (a := w) (lo := 0) (hi := 1) (by exact (jlong rfl ⟨by omega, by omega⟩)) (by exact rfl) (by exact rfl) (by omega) (by omega) (by omega) (fun c5 => ?_) (fun c5 => ?_)
    · skip
      refine br_1 ?_
      refine br_eq (w) (0) rfl rfl ⟨by omega, by omega⟩ ⟨by omega, by omega⟩ (fun c6 => ?_) (fun c6 => ?_)
      · skip
        refine s_X12_at (g := g) (s := s) (by exact rfl) (by exact rfl)  ?_
        refine ⟨jvp ((3 * g + s)) rfl (by omega) (by omega) (by decide), ?_⟩
        have f7 := I_k h2 ((3 * g + s)) (by omega) (by omega)
        have q : (seatS T g s w : Int) = (T 30 ((3 * g + s))) := by unfold seatS; (repeat (first | rw [cif_t (by first | assumption | omega)] | rw [cif_f (by first | assumption | omega)] | rw [cif_t (by grind)] | rw [cif_f (by grind)]))
        have h := h _ m1 fr2
        rw [q] at h
        exact pst (rdA (M_A m1 30 48) ((3 * g + s)) rfl (by omega) (by omega)) h
      · skip
        refine s_X12_at (g := g) (s := s) (by exact rfl) (by exact rfl)  ?_
        refine ⟨jvp ((3 * g + s)) rfl (by omega) (by omega) (by decide), ?_⟩
        have q : (seatS T g s w : Int) = (T 31 ((3 * g + s))) := by unfold seatS; (repeat (first | rw [cif_t (by first | assumption | omega)] | rw [cif_f (by first | assumption | omega)] | rw [cif_t (by grind)] | rw [cif_f (by grind)]))
        have h := h _ m1 fr2
        rw [q] at h
        exact pst (rdA (M_A m1 31 48) ((3 * g + s)) rfl (by omega) (by omega)) h
    · skip
      refine br_0 ?_
      have q : (seatS T g s w : Int) = (-2) := by unfold seatS; (repeat (first | rw [cif_t (by first | assumption | omega)] | rw [cif_f (by first | assumption | omega)] | rw [cif_t (by grind)] | rw [cif_f (by grind)]))
      have h := h _ m1 fr2
      rw [q] at h
      exact pst rfl h
  · skip
    refine br_0 ?_
    have q : (seatS T g s w : Int) = (-2) := by unfold seatS; (repeat (first | rw [cif_t (by first | assumption | omega)] | rw [cif_f (by first | assumption | omega)] | rw [cif_t (by grind)] | rw [cif_f (by grind)]))
    have h := h _ m1 fr2
    rw [q] at h
    exact pst rfl h
set_option maxHeartbeats 8000000 in
theorem s_X12_way {U : Um} {T : Tm} (hM : M U T) (hI : I1 T) (h2 : I2 T) {a1 : Int32} {a : Int} {a2 : Int32} {b : Int} (e_a1 : a1 = jI a) (e_a2 : a2 = jI b) (p0 : r32 a) (p1 : r32 b) {post : Int32 → Um → Prop} (h : ∀ U2 : Um, M U2 T → fM U U2 → post (jI (cif (isField T a ∧ isField T b) (wayS T a b) (-1))) U2) : w_X12_way 55 a1 a2 U post := by
  unfold w_X12_way
  subst e_a1
  subst e_a2
  have hn := I_n hI
  intro U_1 hU_1
  have m1 : M U_1 T := by rw [hU_1]; exact M_xI hM
  have fr2 : fM U U_1 := by rw [hU_1]; exact fM_trans fM_rfl fM_sI
  refine s_X12_isField m1 hI h2 (f := a) (by exact rfl) (by omega) (fun c3 => ?_) (fun c3 => ?_)
  · skip
    refine br_1 ?_
    refine s_X12_isField m1 hI h2 (f := b) (by exact rfl) (by omega) (fun c4 => ?_) (fun c4 => ?_)
    · skip
      refine br_1 ?_
      refine s_X12_wayOf m1 hI h2 (a := a) (b := b) (by exact rfl) (by exact rfl) (by omega) (by omega) (by omega) (by omega) ?_
      have f5 := I_wS hI (a) (b) (by omega) (by omega) (by omega) (by omega)
      have q : (cif (isField T a ∧ isField T b) (wayS T a b) (-1) : Int) = wayS T a b := by (repeat (first | rw [cif_t (by first | assumption | omega)] | rw [cif_f (by first | assumption | omega)] | rw [cif_t (by grind)] | rw [cif_f (by grind)]))
      have h := h _ m1 fr2
      rw [q] at h
      exact pst rfl h
    · skip
      refine br_0 ?_
      have q : (cif (isField T a ∧ isField T b) (wayS T a b) (-1) : Int) = (-1) := by (repeat (first | rw [cif_t (by first | assumption | omega)] | rw [cif_f (by first | assumption | omega)] | rw [cif_t (by grind)] | rw [cif_f (by grind)]))
      have h := h _ m1 fr2
      rw [q] at h
      exact pst rfl h
  · skip
    refine br_0 ?_
    have q : (cif (isField T a ∧ isField T b) (wayS T a b) (-1) : Int) = (-1) := by (repeat (first | rw [cif_t (by first | assumption | omega)] | rw [cif_f (by first | assumption | omega)] | rw [cif_t (by grind)] | rw [cif_f (by grind)]))
    have h := h _ m1 fr2
    rw [q] at h
    exact pst rfl h
set_option maxHeartbeats 8000000 in
theorem l_X12_toward_L40 {U : Um} {T : Tm} (hM : M U T) (hI : I1 T) (h2 : I2 T) {x1 : Int32} {a : Int} {x2 : Int32} {b : Int} (e_x1 : x1 = jI a) (e_x2 : x2 = jI b) (p0 : 0 ≤ a) (p1 : a < T 11 0) (p2 : 0 ≤ b) (p3 : b < T 11 0) {post : Int32 → Um → Prop} {k_109 : Um → Prop} (hk : (fst_ (onway T a b) (T 11 0) = -1) → k_109 U) (r0 : ∀ z : Int, (fst_ (onway T a b) (T 11 0) = z) → post (jI (z)) U) : ∀ (fu : Nat) (k : Int), (0 ≤ k) → (k ≤ T 11 0) → (∀ j, 0 ≤ j → j < k → ¬ onway T a b j) → (T 11 0 - k : Int).toNat < fu → w_X12_toward_L40 55 x1 x2 post k_109 fu (jI k) U := by
  have hn := I_n hI
  subst e_x2
  subst e_x1
  intro fu
  induction fu with
  | zero => intro k i0 i1 i2 hm; exact absurd hm (Nat.not_lt_zero _)
  | succ fu ih =>
    intro k i0 i1 i2 hm
    show b_X12_toward_L40 55 (jI a) (jI b) post k_109 (w_X12_toward_L40 55 (jI a) (jI b) post k_109 fu) (jI k) U
    unfold b_X12_toward_L40
    refine ⟨jvp (0) rfl (by omega) (by omega) (by decide), ?_⟩
    refine br_le ((T 11 (0))) (k) (rdA (M_A hM 11 7) (0) rfl (by omega) (by omega)) rfl ⟨by omega, by omega⟩ ⟨by omega, by omega⟩ (fun c1 => ?_) (fun c1 => ?_)
    · skip
      exact hk  (by exact fst_no (by omega) (fun j a b => i2 j a (by omega)))
    · skip
      refine ⟨jvp (((6 * a) + k)) (jadd (jmul rfl rfl) rfl) (by omega) (by omega) (by decide), ?_⟩
      have f2 := I_w hI (((6 * a) + k)) (by omega) (by omega)
      refine br_le ((T 2 (((6 * a) + k)))) (0) (rdA (M_A hM 2 36) (((6 * a) + k)) (jadd (jmul rfl rfl) rfl) (by omega) (by omega)) rfl ⟨by omega, by omega⟩ ⟨by omega, by omega⟩ (fun c3 => ?_) (fun c3 => ?_)
      · skip
        refine al_i ((k + 1)) (jadd rfl rfl) ?_
        refine ih ((k + 1)) (by omega) (by omega) (by (intro j j0 j1; by_cases c : j = k; (rw [c]; intro z; omega); exact i2 j j0 (by omega))) (by omega)
      · skip
        refine s_X12_wayOf hM hI h2 (a := k) (b := b) (by exact rfl) (by exact rfl) (by omega) (by omega) (by omega) (by omega) ?_
        have f4 := I_wS hI (k) (b) (by omega) (by omega) (by omega) (by omega)
        refine br_eq (wayS T k b) ((-1)) rfl rfl ⟨by omega, by omega⟩ ⟨by omega, by omega⟩ (fun c5 => ?_) (fun c5 => ?_)
        · skip
          refine al_i ((k + 1)) (jadd rfl rfl) ?_
          refine ih ((k + 1)) (by omega) (by omega) (by (intro j j0 j1; by_cases c : j = k; (rw [c]; intro z; omega); exact i2 j j0 (by omega))) (by omega)
        · skip
          refine ⟨jvp (((6 * a) + k)) (jadd (jmul rfl rfl) rfl) (by omega) (by omega) (by decide), ?_⟩
          refine s_X12_wayOf hM hI h2 (a := k) (b := b) (by exact rfl) (by exact rfl) (by omega) (by omega) (by omega) (by omega) ?_
          have f6 := I_wS hI (k) (b) (by omega) (by omega) (by omega) (by omega)
          refine s_X12_wayOf hM hI h2 (a := a) (b := b) (by exact rfl) (by exact rfl) (by omega) (by omega) (by omega) (by omega) ?_
          have f7 := I_wS hI (a) (b) (by omega) (by omega) (by omega) (by omega)
          refine br_eq (((T 2 (((6 * a) + k))) + wayS T k b)) (wayS T a b) (jadd (rdA (M_A hM 2 36) (((6 * a) + k)) (jadd (jmul rfl rfl) rfl) (by omega) (by omega)) rfl) rfl ⟨by omega, by omega⟩ ⟨by omega, by omega⟩ (fun c8 => ?_) (fun c8 => ?_)
          · skip
            exact pst rfl (r0 (k) (by exact fst_is i0 (by omega) (by omega) i2))
          · skip
            refine al_i ((k + 1)) (jadd rfl rfl) ?_
            refine ih ((k + 1)) (by omega) (by omega) (by (intro j j0 j1; by_cases c : j = k; (rw [c]; intro z; omega); exact i2 j j0 (by omega))) (by omega)
set_option maxHeartbeats 8000000 in
theorem s_X12_toward {U : Um} {T : Tm} (hM : M U T) (hI : I1 T) (h2 : I2 T) {a1 : Int32} {a : Int} {a2 : Int32} {b : Int} (e_a1 : a1 = jI a) (e_a2 : a2 = jI b) (p0 : r32 a) (p1 : r32 b) {post : Int32 → Um → Prop} (h : ∀ U2 : Um, M U2 T → fM U U2 → post (jI (towS T a b)) U2) : w_X12_toward 55 a1 a2 U post := by
  unfold w_X12_toward
  subst e_a1
  subst e_a2
  have hn := I_n hI
  intro U_1 hU_1
  have m1 : M U_1 T := by rw [hU_1]; exact M_xI hM
  have fr2 : fM U U_1 := by rw [hU_1]; exact fM_trans fM_rfl fM_sI
  refine s_X12_isField m1 hI h2 (f := a) (by exact rfl) (by omega) (fun c3 => ?_) (fun c3 => ?_)
  · skip
    refine br_1 ?_
    refine s_X12_isField m1 hI h2 (f := b) (by exact rfl) (by omega) (fun c4 => ?_) (fun c4 => ?_)
    · skip
      refine br_1 ?_
      refine br_eq (a) (b) rfl rfl ⟨by omega, by omega⟩ ⟨by omega, by omega⟩ (fun c5 => ?_) (fun c5 => ?_)
      · skip
        have q : (towS T a b : Int) = (-1) := by (unfold towS; (repeat (first | rw [cif_t (by first | assumption | omega)] | rw [cif_f (by first | assumption | omega)] | rw [cif_t (by grind)] | rw [cif_f (by grind)])); try assumption)
        have h := h _ m1 fr2
        rw [q] at h
        exact pst rfl h
      · skip
        refine s_X12_wayOf m1 hI h2 (a := a) (b := b) (by exact rfl) (by exact rfl) (by omega) (by omega) (by omega) (by omega) ?_
        have f6 := I_wS hI (a) (b) (by omega) (by omega) (by omega) (by omega)
        refine br_eq (wayS T a b) ((-1)) rfl rfl ⟨by omega, by omega⟩ ⟨by omega, by omega⟩ (fun c7 => ?_) (fun c7 => ?_)
        · skip
          have q : (towS T a b : Int) = (-1) := by (unfold towS; (repeat (first | rw [cif_t (by first | assumption | omega)] | rw [cif_f (by first | assumption | omega)] | rw [cif_t (by grind)] | rw [cif_f (by grind)])); try assumption)
          have h := h _ m1 fr2
          rw [q] at h
          exact pst rfl h
        · skip
          refine ⟨(T 11 0 - 0 : Int).toNat + 1, l_X12_toward_L40 m1 hI h2 (a := a) (b := b) (by exact rfl) (by exact rfl) (by omega) (by omega) (by omega) (by omega) (fun c8 => ?_) (fun z_c12 c12 => ?_) _ (0) (by omega) (by omega) (by intro j j0 j1; omega) (by omega)⟩
          · skip
            have q : (towS T a b : Int) = (-1) := by (unfold towS; (repeat (first | rw [cif_t (by first | assumption | omega)] | rw [cif_f (by first | assumption | omega)] | rw [cif_t (by grind)] | rw [cif_f (by grind)])); try assumption)
            have h := h _ m1 fr2
            rw [q] at h
            exact pst rfl h
          · skip
            have q : (towS T a b : Int) = z_c12 := by (unfold towS; (repeat (first | rw [cif_t (by first | assumption | omega)] | rw [cif_f (by first | assumption | omega)] | rw [cif_t (by grind)] | rw [cif_f (by grind)])); try assumption)
            have h := h _ m1 fr2
            rw [q] at h
            exact pst rfl h
    · skip
      refine br_0 ?_
      have q : (towS T a b : Int) = (-1) := by (unfold towS; (repeat (first | rw [cif_t (by first | assumption | omega)] | rw [cif_f (by first | assumption | omega)] | rw [cif_t (by grind)] | rw [cif_f (by grind)])); try assumption)
      have h := h _ m1 fr2
      rw [q] at h
      exact pst rfl h
  · skip
    refine br_0 ?_
    have q : (towS T a b : Int) = (-1) := by (unfold towS; (repeat (first | rw [cif_t (by first | assumption | omega)] | rw [cif_f (by first | assumption | omega)] | rw [cif_t (by grind)] | rw [cif_f (by grind)])); try assumption)
    have h := h _ m1 fr2
    rw [q] at h
    exact pst rfl h
set_option maxHeartbeats 8000000 in
theorem l_X12_hub_L27 {U : Um} {T : Tm} (hM : M U T) (hI : I1 T) (h2 : I2 T) {x1 : Int32} {best : Int} {x2 : Int32} {least : Int} {x3 : Int32} {f : Int} (e_x1 : x1 = jI best) (e_x2 : x2 = jI least) (e_x3 : x3 = jI f) (p0 : 0 ≤ f) (p1 : f < T 11 0) {post : Int32 → Um → Prop} {k_73 : Int32 → Um → Prop} (hk : ∀ (x : Int) , (x = hubN T f) → k_73 (jI x) U) : ∀ (fu : Nat) (x : Int) (k : Int), (0 ≤ k) → (k ≤ T 11 0) → (x = sm (fun k => if wayS T f k = -1 then 999 else wayS T f k) k) → (T 11 0 - k : Int).toNat < fu → w_X12_hub_L27 55 x1 x2 x3 post k_73 fu (jI x) (jI k) U := by
  have hn := I_n hI
  subst e_x3
  subst e_x2
  subst e_x1
  intro fu
  induction fu with
  | zero => intro x k i0 i1 i2 hm; exact absurd hm (Nat.not_lt_zero _)
  | succ fu ih =>
    intro x k i0 i1 i2 hm
    show b_X12_hub_L27 55 (jI best) (jI least) (jI f) post k_73 (w_X12_hub_L27 55 (jI best) (jI least) (jI f) post k_73 fu) (jI x) (jI k) U
    unfold b_X12_hub_L27
    have hb := hub_b hI p0 p1 i0 i1
    refine ⟨jvp (0) rfl (by omega) (by omega) (by decide), ?_⟩
    refine br_le ((T 11 (0))) (k) (rdA (M_A hM 11 7) (0) rfl (by omega) (by omega)) rfl ⟨by omega, by omega⟩ ⟨by omega, by omega⟩ (fun c1 => ?_) (fun c1 => ?_)
    · skip
      exact hk (x) (by unfold hubN; rw [i2, show T 11 0 = k by omega])
    · skip
      refine s_X12_wayOf hM hI h2 (a := f) (b := k) (by exact rfl) (by exact rfl) (by omega) (by omega) (by omega) (by omega) ?_
      have f2 := I_wS hI (f) (k) (by omega) (by omega) (by omega) (by omega)
      refine br_eq (wayS T f k) ((-1)) rfl rfl ⟨by omega, by omega⟩ ⟨by omega, by omega⟩ (fun c3 => ?_) (fun c3 => ?_)
      · skip
        refine al_i ((x + 999)) (jadd rfl rfl) ?_
        refine al_i ((k + 1)) (jadd rfl rfl) ?_
        refine ih ((x + 999)) ((k + 1)) (by omega) (by omega) (by rw [sm_s i0]; simp only [*, if_true, if_false]; try rfl) (by omega)
      · skip
        refine s_X12_wayOf hM hI h2 (a := f) (b := k) (by exact rfl) (by exact rfl) (by omega) (by omega) (by omega) (by omega) ?_
        have f4 := I_wS hI (f) (k) (by omega) (by omega) (by omega) (by omega)
        refine al_i ((x + wayS T f k)) (jadd rfl rfl) ?_
        refine al_i ((k + 1)) (jadd rfl rfl) ?_
        refine ih ((x + wayS T f k)) ((k + 1)) (by omega) (by omega) (by rw [sm_s i0]; simp only [*, if_true, if_false]; try rfl) (by omega)
set_option maxHeartbeats 8000000 in
theorem l_X12_hub_L11 {U : Um} {T : Tm} (hM : M U T) (hI : I1 T) (h2 : I2 T) {post : Int32 → Um → Prop} {k_98 : Int32 → Um → Prop} (hk : ∀ (best : Int) , (hubR T best) → k_98 (jI best) U) : ∀ (fu : Nat) (best : Int) (least : Int) (f : Int), (0 ≤ f) → (f ≤ T 11 0) → (hubI T f best least) → (T 11 0 - f : Int).toNat < fu → w_X12_hub_L11 55 post k_98 fu (jI best) (jI least) (jI f) U := by
  have hn := I_n hI
  intro fu
  induction fu with
  | zero => intro best least f i0 i1 i2 hm; exact absurd hm (Nat.not_lt_zero _)
  | succ fu ih =>
    intro best least f i0 i1 i2 hm
    show b_X12_hub_L11 55 post k_98 (w_X12_hub_L11 55 post k_98 fu) (jI best) (jI least) (jI f) U
    unfold b_X12_hub_L11
    have hh := hub_ib hI i0 i1 i2
    refine ⟨jvp (0) rfl (by omega) (by omega) (by decide), ?_⟩
    refine br_le ((T 11 (0))) (f) (rdA (M_A hM 11 7) (0) rfl (by omega) (by omega)) rfl ⟨by omega, by omega⟩ ⟨by omega, by omega⟩ (fun c1 => ?_) (fun c1 => ?_)
    · skip
      exact hk (best) (by exact hub_r i1 (by omega) i2)
    · skip
      refine ⟨(T 11 0 - 0 : Int).toNat + 1, l_X12_hub_L27 hM hI h2 (best := best) (least := least) (f := f) (by exact rfl) (by exact rfl) (by exact rfl) (by omega) (by omega) (fun y2 c3 => ?_)  _ (0) (0) (by omega) (by omega) (by rfl) (by omega)⟩
      · skip
        have hb := hub_nb hI (f := f) (by omega) (by omega)
        rw [← c3] at hb
        refine br_eq (best) ((-1)) rfl rfl ⟨by omega, by omega⟩ ⟨by omega, by omega⟩ (fun c7 => ?_) (fun c7 => ?_)
        · skip
          refine al_i (f) rfl ?_
          refine al_i ((f + 1)) (jadd rfl rfl) ?_
          refine ih (f) (y2) ((f + 1)) (by omega) (by omega) (by first | exact hub_t i0 i2 (by assumption) (by first | exact Or.inl (by assumption) | exact Or.inr (by assumption)) | exact hub_f i0 i2 (by assumption) (by assumption) (by assumption)) (by omega)
        · skip
          refine br_lt (y2) (least) rfl rfl ⟨by omega, by omega⟩ ⟨by omega, by omega⟩ (fun c8 => ?_) (fun c8 => ?_)
          · skip
            refine al_i (f) rfl ?_
            refine al_i ((f + 1)) (jadd rfl rfl) ?_
            refine ih (f) (y2) ((f + 1)) (by omega) (by omega) (by first | exact hub_t i0 i2 (by assumption) (by first | exact Or.inl (by assumption) | exact Or.inr (by assumption)) | exact hub_f i0 i2 (by assumption) (by assumption) (by assumption)) (by omega)
          · skip
            refine al_i ((f + 1)) (jadd rfl rfl) ?_
            refine ih (best) (least) ((f + 1)) (by omega) (by omega) (by first | exact hub_t i0 i2 (by assumption) (by first | exact Or.inl (by assumption) | exact Or.inr (by assumption)) | exact hub_f i0 i2 (by assumption) (by assumption) (by assumption)) (by omega)
set_option maxHeartbeats 8000000 in
theorem s_X12_hub {U : Um} {T : Tm} (hM : M U T) (hI : I1 T) (h2 : I2 T)  {post : Int32 → Um → Prop} (h : ∀ U2 : Um, M U2 T → fM U U2 → post (jI (hubS T)) U2) : w_X12_hub 55 U post := by
  unfold w_X12_hub
  have hn := I_n hI
  intro U_1 hU_1
  have m1 : M U_1 T := by rw [hU_1]; exact M_xI hM
  have fr2 : fM U U_1 := by rw [hU_1]; exact fM_trans fM_rfl fM_sI
  refine ⟨(T 11 0 - 0 : Int).toNat + 1, l_X12_hub_L11 m1 hI h2    (fun y3 c4 => ?_)  _ ((-1)) (0) (0) (by omega) (by omega) (by exact hub_0) (by omega)⟩
  · skip
    have q : (hubS T : Int) = y3 := by exact hub_u (by assumption)
    have h := h _ m1 fr2
    rw [q] at h
    exact pst rfl h
