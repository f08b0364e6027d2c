/-! the reference, rounds -/
set_option maxHeartbeats 8000000 in
theorem s_X12_step {U : Um} {T : Tm} (hM : M U T) (hI : I1 T) (h2 : I2 T) {a1 : Int32} {a : Int} {a2 : Int32} {b : Int} (e_a1 : a1 = jI a) (e_a2 : a2 = jI b) (p0 : 0 ≤ a) (p1 : a < 6) (p2 : 0 ≤ b) (p3 : b < 6) {post : Int32 → Um → Prop} (h : post (jI (stepS T a b)) U) : w_X12_step 55 a1 a2 U post := by
  unfold w_X12_step
  subst e_a1
  subst e_a2
  have hn := I_n hI
  refine s_X12_wayOf hM hI h2 (a := a) (b := b) (by exact rfl) (by exact rfl) (by omega) (by omega) (by omega) (by omega) ?_
  have f1 := I_wS hI (a) (b) (by omega) (by omega) (by omega) (by omega)
  refine br_eq (wayS T a b) ((-1)) rfl rfl ⟨by omega, by omega⟩ ⟨by omega, by omega⟩ (fun c2 => ?_) (fun c2 => ?_)
  · skip
    have q : (stepS T a b : Int) = 999 := by simp [stepS, *]
    rw [q] at h
    exact pst rfl h
  · skip
    refine s_X12_wayOf hM hI h2 (a := a) (b := b) (by exact rfl) (by exact rfl) (by omega) (by omega) (by omega) (by omega) ?_
    have f3 := I_wS hI (a) (b) (by omega) (by omega) (by omega) (by omega)
    have q : (stepS T a b : Int) = wayS T a b := by simp [stepS, *]
    rw [q] at h
    exact pst rfl h
set_option maxHeartbeats 8000000 in
theorem l_X12_roundOf_L25 {U : Um} {T : Tm} (hM : M U T) (hI : I1 T) (h2 : I2 T) {x1 : Int32} {o : Int} {x5 : Int32} {n : Int} (e_x1 : x1 = jI o) (e_x5 : x5 = jI n) {l : List Int} {h : Int} {R : Int} (p0 : rowIs (uA U 55 39) l) (p1 : (l.length : Int) = n) (p2 : n ≤ 16) (p3 : ∀ x ∈ l, 0 ≤ x ∧ x < T 11 3) {post : Int32 → Um → Prop} {k_75 : Int32 → Int32 → Um → Prop} (hk : ∀ (a : Int) (sum : Int) , (0 ≤ a ∧ a < 6) → (0 ≤ sum ∧ sum ≤ 320000) → (sum + stepS T a h = R) → k_75 (jI a) (jI sum) U) : ∀ (fu : Nat) (a : Int) (sum : Int) (k : Int), (0 ≤ k) → (k ≤ n) → (0 ≤ a ∧ a < 6) → (0 ≤ sum ∧ sum ≤ 20000 * k) → (sum + rndL T h a (l.drop k.toNat) = R) → (n - k : Int).toNat < fu → w_X12_roundOf_L25 55 x1 x5 post k_75 fu (jI a) (jI sum) (jI k) U := by
  have hn := I_n hI
  subst e_x5
  subst e_x1
  intro fu
  induction fu with
  | zero => intro a sum k i0 i1 i2 i3 i4 hm; exact absurd hm (Nat.not_lt_zero _)
  | succ fu ih =>
    intro a sum k i0 i1 i2 i3 i4 hm
    show b_X12_roundOf_L25 55 (jI o) (jI n) post k_75 (w_X12_roundOf_L25 55 (jI o) (jI n) post k_75 fu) (jI a) (jI sum) (jI k) U
    unfold b_X12_roundOf_L25
    have hx := fun c : k < n => p3 _ (nth_mem i0 (by omega))
    refine br_le (n) (k) rfl rfl ⟨by omega, by omega⟩ ⟨by omega, by omega⟩ (fun c1 => ?_) (fun c1 => ?_)
    · skip
      exact hk (a) (sum) (by omega) (by omega) (by (rw [← i4, rnd_e (by omega)]))
    · skip
      refine ⟨jvp (k) rfl (by omega) (by omega) (by decide), ?_⟩
      have f2 := I_g hI ((nth (l) (k))) (by omega) (by omega)
      unfold gOk at f2
      refine s_X12_of hM hI h2 (g := (nth (l) (k))) (k := 2) (by exact (rdO p0 (k) rfl (by omega) (by omega))) (by exact rfl) (by omega) (by omega) (by omega) (by omega) ?_
      refine s_X12_step hM hI h2 (a := a) (b := gm T ((nth (l) (k))) 2) (by exact rfl) (by exact rfl) (by omega) (by omega) (by omega) (by omega) ?_
      have f3 := stepS_b hI (a) ((gm T ((nth (l) (k))) 2)) (by omega) (by omega) (by omega) (by omega)
      refine al_i ((sum + stepS T a (gm T ((nth (l) (k))) 2))) (jadd rfl rfl) ?_
      refine ⟨jvp (k) rfl (by omega) (by omega) (by decide), ?_⟩
      refine s_X12_of hM hI h2 (g := (nth (l) (k))) (k := 2) (by exact (rdO p0 (k) rfl (by omega) (by omega))) (by exact rfl) (by omega) (by omega) (by omega) (by omega) ?_
      refine al_i ((k + 1)) (jadd rfl rfl) ?_
      refine ih (gm T ((nth (l) (k))) 2) ((sum + stepS T a (gm T ((nth (l) (k))) 2))) ((k + 1)) (by omega) (by omega) (by omega) (by omega) (by (rw [← i4, rnd_s i0 (by omega)]; omega)) (by omega)
set_option maxHeartbeats 8000000 in
theorem s_X12_roundOf {U : Um} {T : Tm} (hM : M U T) (hI : I1 T) (h2 : I2 T) {a1 : Int32} {o : Int} {a2 : Int32} {day : Int} {a3 : Int32} {less : Int} {a4 : Int32} {more : Int} (e_a1 : a1 = jI o) (e_a2 : a2 = jI day) (e_a3 : a3 = jI less) (e_a4 : a4 = jI more) (p0 : 0 ≤ o) (p1 : o < T 11 2) (p2 : r32 day) (p3 : r32 less) (p4 : r32 more) {post : Int32 → Um → Prop} (h : ∀ U2 : Um, M U2 T → fM U U2 → post (jI (rndS T o day less more)) U2) : w_X12_roundOf 55 a1 a2 a3 a4 U post := by
  unfold w_X12_roundOf
  subst e_a1
  subst e_a2
  subst e_a3
  subst e_a4
  have hn := I_n hI
  refine s_lays hM hI h2 (o := o) (day := day) (less := less) (more := more) (by exact rfl) (by exact rfl) (by exact rfl) (by exact rfl) (by omega) (by omega) (by omega) (by omega) (fun V1 m2 g3 x5 => ?_)
  have fr4 := fM_trans fM_rfl g3
  have f6 := dayC_b hI (o) (day) (less) (more)
  refine ⟨jvp (o) rfl (by omega) (by omega) (by decide), ?_⟩
  have f7 := I_o hI (o) (by omega) (by omega)
  unfold r32 at f7
  refine al_i ((T 6 (o))) (rdA (M_A m2 6 10) (o) rfl (by omega) (by omega)) ?_
  refine ⟨((dayC T o day less more) - 0 : Int).toNat + 1, l_X12_roundOf_L25 m2 hI h2 (o := o) (n := dayC T o day less more) (l := dayF T o day less more) (h := T 6 o) (R := rndS T o day less more) (by exact rfl) (by exact rfl) (by assumption) (by omega) (by omega) (by exact dayF_g hI) (fun y8 y9 c10 c11 c12 => ?_)  _ ((T 6 (o))) (0) (0) (by omega) (by omega) (by omega) (by omega) (by (rw [Int.zero_add]; rfl)) (by omega)⟩
  · skip
    refine ⟨jvp (o) rfl (by omega) (by omega) (by decide), ?_⟩
    refine s_X12_step m2 hI h2 (a := y8) (b := (T 6 (o))) (by exact rfl) (by exact (rdA (M_A m2 6 10) (o) rfl (by omega) (by omega))) (by omega) (by omega) (by omega) (by omega) ?_
    have f16 := stepS_b hI (y8) (((T 6 (o)))) (by omega) (by omega) (by omega) (by omega)
    have q : (rndS T o day less more : Int) = (y9 + stepS T y8 ((T 6 (o)))) := by omega
    have h := h _ m2 fr4
    rw [q] at h
    exact pst (jadd rfl rfl) h
set_option maxHeartbeats 8000000 in
theorem s_X12_extraOf {U : Um} {T : Tm} (hM : M U T) (hI : I1 T) (h2 : I2 T) {a1 : Int32} {g : Int} {a2 : Int32} {s : Int} {a3 : Int32} {o : Int} (e_a1 : a1 = jI g) (e_a2 : a2 = jI s) (e_a3 : a3 = jI o) (p0 : 0 ≤ g) (p1 : g < T 11 3) (p2 : 0 ≤ s) (p3 : s < gm T g 7) (p4 : 0 ≤ o) (p5 : o < T 11 2) {post : Int32 → Um → Prop} (h : ∀ U2 : Um, M U2 T → fM U U2 → post (jI (extS T g s o)) U2) : w_X12_extraOf 55 a1 a2 a3 U post := by
  unfold w_X12_extraOf
  subst e_a1
  subst e_a2
  subst e_a3
  have hn := I_n hI
  have f1 := I_g hI (g) (by omega) (by omega)
  unfold gOk at f1
  refine s_X12_of hM hI h2 (g := g) (k := 3) (by exact rfl) (by exact rfl) (by omega) (by omega) (by omega) (by omega) ?_
  refine s_X12_roundOf hM hI h2 (o := o) (day := gm T g 3) (less := (-1)) (more := (-1)) (by exact rfl) (by exact rfl) (by exact rfl) (by exact rfl) (by omega) (by omega) (by omega) (by omega) (by omega) (fun V2 m3 g4  => ?_)
  have fr5 := fM_trans fM_rfl g4
  have f6 := rndS_b hI (o) ((gm T g 3)) (((-1))) (((-1))) (by omega) (by omega)
  refine s_X12_at (g := g) (s := s) (by exact rfl) (by exact rfl)  ?_
  refine ⟨jvp ((3 * g + s)) rfl (by omega) (by omega) (by decide), ?_⟩
  have f7 := I_k h2 ((3 * g + s)) (by omega) (by omega)
  refine br_eq ((T 30 ((3 * g + s)))) (o) (rdA (M_A m3 30 48) ((3 * g + s)) rfl (by omega) (by omega)) rfl ⟨by omega, by omega⟩ ⟨by omega, by omega⟩ (fun c8 => ?_) (fun c8 => ?_)
  · skip
    refine s_X12_roundOf m3 hI h2 (o := o) (day := gm T g 3) (less := g) (more := (-1)) (by exact rfl) (by exact rfl) (by exact rfl) (by exact rfl) (by omega) (by omega) (by omega) (by omega) (by omega) (fun V9 m10 g11  => ?_)
    have fr12 := fM_trans fr5 g11
    have f13 := rndS_b hI (o) ((gm T g 3)) (g) (((-1))) (by omega) (by omega)
    have q : (extS T g s o : Int) = (rndS T o (gm T g 3) ((-1)) ((-1)) - rndS T o (gm T g 3) g ((-1))) := by (unfold extS; (repeat (first | rw [cif_t (by first | assumption | omega)] | rw [cif_f (by first | assumption | omega)] | rw [cif_t (by grind)] | rw [cif_f (by grind)])))
    have h := h _ m10 fr12
    rw [q] at h
    exact pst (jsub rfl rfl) h
  · skip
    refine s_X12_roundOf m3 hI h2 (o := o) (day := gm T g 3) (less := (-1)) (more := g) (by exact rfl) (by exact rfl) (by exact rfl) (by exact rfl) (by omega) (by omega) (by omega) (by omega) (by omega) (fun V14 m15 g16  => ?_)
    have fr17 := fM_trans fr5 g16
    have f18 := rndS_b hI (o) ((gm T g 3)) (((-1))) (g) (by omega) (by omega)
    have q : (extS T g s o : Int) = (rndS T o (gm T g 3) ((-1)) g - rndS T o (gm T g 3) ((-1)) ((-1))) := by (unfold extS; (repeat (first | rw [cif_t (by first | assumption | omega)] | rw [cif_f (by first | assumption | omega)] | rw [cif_t (by grind)] | rw [cif_f (by grind)])))
    have h := h _ m15 fr17
    rw [q] at h
    exact pst (jsub rfl rfl) h
set_option maxHeartbeats 8000000 in
theorem s_X12_extra {U : Um} {T : Tm} (hM : M U T) (hI : I1 T) (h2 : I2 T) {a1 : Int32} {g : Int} {a2 : Int32} {s : Int} {a3 : Int32} {o : Int} (e_a1 : a1 = jI g) (e_a2 : a2 = jI s) (e_a3 : a3 = jI o) (p0 : r32 g) (p1 : r32 s) (p2 : r32 o) {post : Int32 → Um → Prop} (h : ∀ U2 : Um, M U2 T → fM U U2 → post (jI (cif (isSeat T g s ∧ isOne T o) (extS T g s o) (-1))) U2) : w_X12_extra 55 a1 a2 a3 U post := by
  unfold w_X12_extra
  subst e_a1
  subst e_a2
  subst e_a3
  have hn := I_n hI
  intro U_1 hU_1
  have m1 : M U_1 T := by rw [hU_1]; exact M_xI hM
  have fr2 : fM U U_1 := by rw [hU_1]; exact fM_trans fM_rfl fM_sI
  refine s_X12_isSeat m1 hI h2 (g := g) (s := s) (by exact rfl) (by exact rfl) (by omega) (by omega) (fun c3 => ?_) (fun c3 => ?_)
  · skip
    have f4 := I_g hI (g) (by omega) (by omega)
    unfold gOk at f4
    refine br_1 ?_
    refine s_X12_isOne m1 hI h2 (o := o) (by exact rfl) (by omega) (fun c5 => ?_) (fun c5 => ?_)
    · skip
      refine br_1 ?_
      refine s_X12_extraOf m1 hI h2 (g := g) (s := s) (o := o) (by exact rfl) (by exact rfl) (by exact rfl) (by omega) (by omega) (by omega) (by omega) (by omega) (by omega) (fun V6 m7 g8  => ?_)
      have fr9 := fM_trans fr2 g8
      have f10 := extS_b hI (g) (s) (o) (by omega) (by omega)
      have q : (cif (isSeat T g s ∧ isOne T o) (extS T g s o) (-1) : Int) = extS T g s o := by (repeat (first | rw [cif_t (by first | assumption | omega)] | rw [cif_f (by first | assumption | omega)] | rw [cif_t (by grind)] | rw [cif_f (by grind)]))
      have h := h _ m7 fr9
      rw [q] at h
      exact pst rfl h
    · skip
      refine br_0 ?_
      have q : (cif (isSeat T g s ∧ isOne T o) (extS T g s o) (-1) : Int) = (-1) := by (repeat (first | rw [cif_t (by first | assumption | omega)] | rw [cif_f (by first | assumption | omega)] | rw [cif_t (by grind)] | rw [cif_f (by grind)]))
      have h := h _ m1 fr2
      rw [q] at h
      exact pst rfl h
  · skip
    refine br_0 ?_
    have q : (cif (isSeat T g s ∧ isOne T o) (extS T g s o) (-1) : Int) = (-1) := by (repeat (first | rw [cif_t (by first | assumption | omega)] | rw [cif_f (by first | assumption | omega)] | rw [cif_t (by grind)] | rw [cif_f (by grind)]))
    have h := h _ m1 fr2
    rw [q] at h
    exact pst rfl h
set_option maxHeartbeats 8000000 in
theorem s_X12_round {U : Um} {T : Tm} (hM : M U T) (hI : I1 T) (h2 : I2 T) {a1 : Int32} {o : Int} {a2 : Int32} {day : Int} (e_a1 : a1 = jI o) (e_a2 : a2 = jI day) (p0 : r32 o) (p1 : r32 day) {post : Int32 → Um → Prop} (h : ∀ U2 : Um, M U2 T → fM U U2 → post (jI (cif (isOne T o ∧ 0 ≤ day ∧ day ≤ 6) (rndS T o day (-1) (-1)) (-1))) U2) : w_X12_round 55 a1 a2 U post := by
  unfold w_X12_round
  subst e_a1
  subst e_a2
  have hn := I_n hI
  intro U_1 hU_1
  have m1 : M U_1 T := by rw [hU_1]; exact M_xI hM
  have fr2 : fM U U_1 := by rw [hU_1]; exact fM_trans fM_rfl fM_sI
  refine s_X12_isOne m1 hI h2 (o := o) (by exact rfl) (by omega) (fun c3 => ?_) (fun c3 => ?_)
  · skip
    refine br_1 ?_
    refine s_X12_isIn (a := day) (lo := 0) (hi := 6) (by exact (jlong rfl ⟨by omega, by omega⟩)) (by exact rfl) (by exact rfl) (by omega) (by omega) (by omega) (fun c4 => ?_) (fun c4 => ?_)
    · skip
      refine br_1 ?_
      refine s_X12_roundOf m1 hI h2 (o := o) (day := day) (less := (-1)) (more := (-1)) (by exact rfl) (by exact rfl) (by exact rfl) (by exact rfl) (by omega) (by omega) (by omega) (by omega) (by omega) (fun V5 m6 g7  => ?_)
      have fr8 := fM_trans fr2 g7
      have f9 := rndS_b hI (o) (day) (((-1))) (((-1))) (by omega) (by omega)
      have q : (cif (isOne T o ∧ 0 ≤ day ∧ day ≤ 6) (rndS T o day (-1) (-1)) (-1) : Int) = rndS T o day ((-1)) ((-1)) := by (repeat (first | rw [cif_t (by first | assumption | omega)] | rw [cif_f (by first | assumption | omega)] | rw [cif_t (by grind)] | rw [cif_f (by grind)]))
      have h := h _ m6 fr8
      rw [q] at h
      exact pst rfl h
    · skip
      refine br_0 ?_
      have q : (cif (isOne T o ∧ 0 ≤ day ∧ day ≤ 6) (rndS T o day (-1) (-1)) (-1) : Int) = (-1) := by (repeat (first | rw [cif_t (by first | assumption | omega)] | rw [cif_f (by first | assumption | omega)] | rw [cif_t (by grind)] | rw [cif_f (by grind)]))
      have h := h _ m1 fr2
      rw [q] at h
      exact pst rfl h
  · skip
    refine br_0 ?_
    have q : (cif (isOne T o ∧ 0 ≤ day ∧ day ≤ 6) (rndS T o day (-1) (-1)) (-1) : Int) = (-1) := by (repeat (first | rw [cif_t (by first | assumption | omega)] | rw [cif_f (by first | assumption | omega)] | rw [cif_t (by grind)] | rw [cif_f (by grind)]))
    have h := h _ m1 fr2
    rw [q] at h
    exact pst rfl h
set_option maxHeartbeats 8000000 in
theorem l_X12_trip_L57 {U : Um} {T : Tm} (hM : M U T) (hI : I1 T) (h2 : I2 T) {x1 : Int32} {o : Int} {x3 : Int32} {w : Int} {x4 : Int32} {n : Int} (e_x1 : x1 = jI o) (e_x3 : x3 = jI w) (e_x4 : x4 = jI n) {l : List Int} (p0 : rowIs (uA U 55 39) l) (p1 : (l.length : Int) = n) (p2 : n ≤ 16) (p3 : ∀ x ∈ l, 0 ≤ x ∧ x < T 11 3) {post : Int32 → Um → Prop} {k_89 : Int32 → Um → Prop} (hk : ∀ (b : Int32) , (∀ f, 0 ≤ f → f < 32 → (bt b f ↔ dayB T l n f)) → k_89 b U) : ∀ (fu : Nat) (b : Int32) (k : Int), (0 ≤ k) → (k ≤ n) → (∀ f, 0 ≤ f → f < 32 → (bt b f ↔ dayB T l k f)) → (n - k : Int).toNat < fu → w_X12_trip_L57 55 x1 x3 x4 post k_89 fu b (jI k) U := by
  have hn := I_n hI
  subst e_x4
  subst e_x3
  subst e_x1
  intro fu
  induction fu with
  | zero => intro b k i0 i1 i2 hm; exact absurd hm (Nat.not_lt_zero _)
  | succ fu ih =>
    intro b k i0 i1 i2 hm
    show b_X12_trip_L57 55 (jI o) (jI w) (jI n) post k_89 (w_X12_trip_L57 55 (jI o) (jI w) (jI n) post k_89 fu) b (jI k) U
    unfold b_X12_trip_L57
    have hx := fun c : k < n => p3 _ (nth_mem i0 (by omega))
    refine br_le (n) (k) rfl rfl ⟨by omega, by omega⟩ ⟨by omega, by omega⟩ (fun c1 => ?_) (fun c1 => ?_)
    · skip
      exact hk (b) (by (rw [show n = k by omega]; exact i2))
    · skip
      refine ⟨jvp (k) rfl (by omega) (by omega) (by decide), ?_⟩
      have f2 := I_g hI ((nth (l) (k))) (by omega) (by omega)
      unfold gOk at f2
      refine s_X12_of hM hI h2 (g := (nth (l) (k))) (k := 2) (by exact (rdO p0 (k) rfl (by omega) (by omega))) (by exact rfl) (by omega) (by omega) (by omega) (by omega) ?_
      intro x5_12 hx5_12
      refine al_i ((k + 1)) (jadd rfl rfl) ?_
      refine ih (x5_12) ((k + 1)) (by omega) (by omega) (by (intro f f0 f1; rw [hx5_12, bt_or rfl (by omega) (by omega) f0 f1, i2 f f0 f1, dayB_s i0])) (by omega)
set_option maxHeartbeats 8000000 in
theorem s_X12_trip {U : Um} {T : Tm} (hM : M U T) (hI : I1 T) (h2 : I2 T) {a1 : Int32} {o : Int} {a2 : Int32} {day : Int} {a3 : Int32} {w : Int} (e_a1 : a1 = jI o) (e_a2 : a2 = jI day) (e_a3 : a3 = jI w) (p0 : r32 o) (p1 : r32 day) (p2 : r32 w) {post : Int32 → Um → Prop} (h : ∀ U2 : Um, M U2 T → fM U U2 → post (jI (tripS T o day w)) U2) : w_X12_trip 55 a1 a2 a3 U post := by
  unfold w_X12_trip
  subst e_a1
  subst e_a2
  subst e_a3
  have hn := I_n hI
  intro U_1 hU_1
  have m1 : M U_1 T := by rw [hU_1]; exact M_xI hM
  have fr2 : fM U U_1 := by rw [hU_1]; exact fM_trans fM_rfl fM_sI
  refine s_X12_isOne m1 hI h2 (o := o) (by exact rfl) (by omega) (fun c3 => ?_) (fun c3 => ?_)
  · skip
    refine br_1 ?_
    refine s_X12_isIn (a := day) (lo := 0) (hi := 6) (by exact (jlong rfl ⟨by omega, by omega⟩)) (by exact rfl) (by exact rfl) (by omega) (by omega) (by omega) (fun c4 => ?_) (fun c4 => ?_)
    · skip
      refine br_1 ?_
      refine s_X12_isIn (a := w) (lo := 0) (hi := 3) (by exact (jlong rfl ⟨by omega, by omega⟩)) (by exact rfl) (by exact rfl) (by omega) (by omega) (by omega) (fun c5 => ?_) (fun c5 => ?_)
      · skip
        refine br_1 ?_
        refine s_lays m1 hI h2 (o := o) (day := day) (less := (-1)) (more := (-1)) (by exact rfl) (by exact rfl) (by exact rfl) (by exact rfl) (by omega) (by omega) (by omega) (by omega) (fun V6 m7 g8 x10 => ?_)
        have fr9 := fM_trans fr2 g8
        have f11 := dayC_b hI (o) (day) (((-1))) (((-1)))
        refine ⟨((dayC T o day ((-1)) ((-1))) - 0 : Int).toNat + 1, l_X12_trip_L57 m7 hI h2 (o := o) (w := w) (n := dayC T o day ((-1)) ((-1))) (l := dayF T o day (-1) (-1)) (by exact rfl) (by exact rfl) (by exact rfl) (by assumption) (by omega) (by omega) (by exact dayF_g hI) (fun y12 c13 => ?_)  _ (0) (0) (by omega) (by omega) (by (intro f f0 f1; exact ⟨fun q => absurd q bt_0, fun q => by obtain ⟨j, j0, j1, _⟩ := q; omega⟩)) (by omega)⟩
        · skip
          have hfm := fldM_is hI c13
          refine br_le (w) (1) rfl rfl ⟨by omega, by omega⟩ ⟨by omega, by omega⟩ (fun c17 => ?_) (fun c17 => ?_)
          · skip
            refine br_eq (dayC T o day ((-1)) ((-1))) (0) rfl rfl ⟨by omega, by omega⟩ ⟨by omega, by omega⟩ (fun c18 => ?_) (fun c18 => ?_)
            · skip
              have q : (tripS T o day w : Int) = (-10000) := by (unfold tripS tripG; (first | rw [show (cif (w = 0) (0 : Int) (dayC T o day (-1) (-1) - 1)) = 0 from cif_t (by omega)] | rw [show (cif (w = 0) (0 : Int) (dayC T o day (-1) (-1) - 1)) = dayC T o day (-1) (-1) - 1 from cif_f (by omega)] | skip); repeat (first | rw [cif_t (by first | assumption | omega)] | rw [cif_f (by first | assumption | omega)]); try first | assumption | omega)
              have h := h _ m7 fr9
              rw [q] at h
              exact pst rfl h
            · skip
              refine al_ifg (w) (0) rfl rfl ⟨by omega, by omega⟩ ⟨by omega, by omega⟩ (0) ((dayC T o day ((-1)) ((-1)) - 1)) rfl (jsub rfl rfl) (fun c19 => ?_) (fun c19 => ?_)
              · skip
                refine ⟨jvp (0) rfl (by omega) (by omega) (by decide), ?_⟩
                have f20 := dayF_g hI _ (nth_mem (l := dayF T o day ((-1)) ((-1))) (e := 0) (by omega) (by omega))
                refine al_i ((nth (dayF T o day ((-1)) ((-1))) (0))) (rdO x10 (0) rfl (by omega) (by omega)) ?_
                refine ⟨jvp (o) rfl (by omega) (by omega) (by decide), ?_⟩
                have f21 := I_g hI ((nth (dayF T o day ((-1)) ((-1))) (0))) (by omega) (by omega)
                unfold gOk at f21
                refine s_X12_of m7 hI h2 (g := (nth (dayF T o day ((-1)) ((-1))) (0))) (k := 2) (by exact rfl) (by exact rfl) (by omega) (by omega) (by omega) (by omega) ?_
                have f22 := I_o hI (o) (by omega) (by omega)
                unfold r32 at f22
                refine s_X12_wayOf m7 hI h2 (a := (T 6 (o))) (b := gm T ((nth (dayF T o day ((-1)) ((-1))) (0))) 2) (by exact (rdA (M_A m7 6 10) (o) rfl (by omega) (by omega))) (by exact rfl) (by omega) (by omega) (by omega) (by omega) ?_
                have f23 := I_wS hI (((T 6 (o)))) ((gm T ((nth (dayF T o day ((-1)) ((-1))) (0))) 2)) (by omega) (by omega) (by omega) (by omega)
                refine br_eq (wayS T ((T 6 (o))) (gm T ((nth (dayF T o day ((-1)) ((-1))) (0))) 2)) ((-1)) rfl rfl ⟨by omega, by omega⟩ ⟨by omega, by omega⟩ (fun c24 => ?_) (fun c24 => ?_)
                · skip
                  have q : (tripS T o day w : Int) = (-10000) := by (unfold tripS tripG; (first | rw [show (cif (w = 0) (0 : Int) (dayC T o day (-1) (-1) - 1)) = 0 from cif_t (by omega)] | rw [show (cif (w = 0) (0 : Int) (dayC T o day (-1) (-1) - 1)) = dayC T o day (-1) (-1) - 1 from cif_f (by omega)] | skip); repeat (first | rw [cif_t (by first | assumption | omega)] | rw [cif_f (by first | assumption | omega)]); try first | assumption | omega)
                  have h := h _ m7 fr9
                  rw [q] at h
                  exact pst rfl h
                · skip
                  refine br_eq (w) (0) rfl rfl ⟨by omega, by omega⟩ ⟨by omega, by omega⟩ (fun c25 => ?_) (fun c25 => ?_)
                  · skip
                    refine s_X12_of m7 hI h2 (g := (nth (dayF T o day ((-1)) ((-1))) (0))) (k := 4) (by exact rfl) (by exact rfl) (by omega) (by omega) (by omega) (by omega) ?_
                    refine ⟨jvp (4) rfl (by omega) (by omega) (by decide), ?_⟩
                    have q : (tripS T o day w : Int) = ((gm T ((nth (dayF T o day ((-1)) ((-1))) (0))) 4 - (T 11 (4))) - wayS T ((T 6 (o))) (gm T ((nth (dayF T o day ((-1)) ((-1))) (0))) 2)) := by (unfold tripS tripG; (first | rw [show (cif (w = 0) (0 : Int) (dayC T o day (-1) (-1) - 1)) = 0 from cif_t (by omega)] | rw [show (cif (w = 0) (0 : Int) (dayC T o day (-1) (-1) - 1)) = dayC T o day (-1) (-1) - 1 from cif_f (by omega)] | skip); repeat (first | rw [cif_t (by first | assumption | omega)] | rw [cif_f (by first | assumption | omega)]); try first | assumption | omega)
                    have h := h _ m7 fr9
                    rw [q] at h
                    exact pst (jsub (jsub rfl (rdA (M_A m7 11 7) (4) rfl (by omega) (by omega))) rfl) h
                  · skip
                    refine s_X12_endOf m7 hI h2 (g := (nth (dayF T o day ((-1)) ((-1))) (0))) (by exact rfl) (by omega) (by omega) ?_
                    have f26 := endS_e T (((nth (dayF T o day ((-1)) ((-1))) (0))))
                    have q : (tripS T o day w : Int) = (endS T ((nth (dayF T o day ((-1)) ((-1))) (0))) + wayS T ((T 6 (o))) (gm T ((nth (dayF T o day ((-1)) ((-1))) (0))) 2)) := by (unfold tripS tripG; (first | rw [show (cif (w = 0) (0 : Int) (dayC T o day (-1) (-1) - 1)) = 0 from cif_t (by omega)] | rw [show (cif (w = 0) (0 : Int) (dayC T o day (-1) (-1) - 1)) = dayC T o day (-1) (-1) - 1 from cif_f (by omega)] | skip); repeat (first | rw [cif_t (by first | assumption | omega)] | rw [cif_f (by first | assumption | omega)]); try first | assumption | omega)
                    have h := h _ m7 fr9
                    rw [q] at h
                    exact pst (jadd rfl rfl) h
              · skip
                refine ⟨jvp ((dayC T o day ((-1)) ((-1)) - 1)) rfl (by omega) (by omega) (by decide), ?_⟩
                have f27 := dayF_g hI _ (nth_mem (l := dayF T o day ((-1)) ((-1))) (e := (dayC T o day ((-1)) ((-1)) - 1)) (by omega) (by omega))
                refine al_i ((nth (dayF T o day ((-1)) ((-1))) ((dayC T o day ((-1)) ((-1)) - 1)))) (rdO x10 ((dayC T o day ((-1)) ((-1)) - 1)) rfl (by omega) (by omega)) ?_
                refine ⟨jvp (o) rfl (by omega) (by omega) (by decide), ?_⟩
                have f28 := I_g hI ((nth (dayF T o day ((-1)) ((-1))) ((dayC T o day ((-1)) ((-1)) - 1)))) (by omega) (by omega)
                unfold gOk at f28
                refine s_X12_of m7 hI h2 (g := (nth (dayF T o day ((-1)) ((-1))) ((dayC T o day ((-1)) ((-1)) - 1)))) (k := 2) (by exact rfl) (by exact rfl) (by omega) (by omega) (by omega) (by omega) ?_
                have f29 := I_o hI (o) (by omega) (by omega)
                unfold r32 at f29
                refine s_X12_wayOf m7 hI h2 (a := (T 6 (o))) (b := gm T ((nth (dayF T o day ((-1)) ((-1))) ((dayC T o day ((-1)) ((-1)) - 1)))) 2) (by exact (rdA (M_A m7 6 10) (o) rfl (by omega) (by omega))) (by exact rfl) (by omega) (by omega) (by omega) (by omega) ?_
                have f30 := I_wS hI (((T 6 (o)))) ((gm T ((nth (dayF T o day ((-1)) ((-1))) ((dayC T o day ((-1)) ((-1)) - 1)))) 2)) (by omega) (by omega) (by omega) (by omega)
                refine br_eq (wayS T ((T 6 (o))) (gm T ((nth (dayF T o day ((-1)) ((-1))) ((dayC T o day ((-1)) ((-1)) - 1)))) 2)) ((-1)) rfl rfl ⟨by omega, by omega⟩ ⟨by omega, by omega⟩ (fun c31 => ?_) (fun c31 => ?_)
                · skip
                  have q : (tripS T o day w : Int) = (-10000) := by (unfold tripS tripG; (first | rw [show (cif (w = 0) (0 : Int) (dayC T o day (-1) (-1) - 1)) = 0 from cif_t (by omega)] | rw [show (cif (w = 0) (0 : Int) (dayC T o day (-1) (-1) - 1)) = dayC T o day (-1) (-1) - 1 from cif_f (by omega)] | skip); repeat (first | rw [cif_t (by first | assumption | omega)] | rw [cif_f (by first | assumption | omega)]); try first | assumption | omega)
                  have h := h _ m7 fr9
                  rw [q] at h
                  exact pst rfl h
                · skip
                  refine br_eq (w) (0) rfl rfl ⟨by omega, by omega⟩ ⟨by omega, by omega⟩ (fun c32 => ?_) (fun c32 => ?_)
                  · skip
                    refine s_X12_of m7 hI h2 (g := (nth (dayF T o day ((-1)) ((-1))) ((dayC T o day ((-1)) ((-1)) - 1)))) (k := 4) (by exact rfl) (by exact rfl) (by omega) (by omega) (by omega) (by omega) ?_
                    refine ⟨jvp (4) rfl (by omega) (by omega) (by decide), ?_⟩
                    have q : (tripS T o day w : Int) = ((gm T ((nth (dayF T o day ((-1)) ((-1))) ((dayC T o day ((-1)) ((-1)) - 1)))) 4 - (T 11 (4))) - wayS T ((T 6 (o))) (gm T ((nth (dayF T o day ((-1)) ((-1))) ((dayC T o day ((-1)) ((-1)) - 1)))) 2)) := by (unfold tripS tripG; (first | rw [show (cif (w = 0) (0 : Int) (dayC T o day (-1) (-1) - 1)) = 0 from cif_t (by omega)] | rw [show (cif (w = 0) (0 : Int) (dayC T o day (-1) (-1) - 1)) = dayC T o day (-1) (-1) - 1 from cif_f (by omega)] | skip); repeat (first | rw [cif_t (by first | assumption | omega)] | rw [cif_f (by first | assumption | omega)]); try first | assumption | omega)
                    have h := h _ m7 fr9
                    rw [q] at h
                    exact pst (jsub (jsub rfl (rdA (M_A m7 11 7) (4) rfl (by omega) (by omega))) rfl) h
                  · skip
                    refine s_X12_endOf m7 hI h2 (g := (nth (dayF T o day ((-1)) ((-1))) ((dayC T o day ((-1)) ((-1)) - 1)))) (by exact rfl) (by omega) (by omega) ?_
                    have f33 := endS_e T (((nth (dayF T o day ((-1)) ((-1))) ((dayC T o day ((-1)) ((-1)) - 1)))))
                    have q : (tripS T o day w : Int) = (endS T ((nth (dayF T o day ((-1)) ((-1))) ((dayC T o day ((-1)) ((-1)) - 1)))) + wayS T ((T 6 (o))) (gm T ((nth (dayF T o day ((-1)) ((-1))) ((dayC T o day ((-1)) ((-1)) - 1)))) 2)) := by (unfold tripS tripG; (first | rw [show (cif (w = 0) (0 : Int) (dayC T o day (-1) (-1) - 1)) = 0 from cif_t (by omega)] | rw [show (cif (w = 0) (0 : Int) (dayC T o day (-1) (-1) - 1)) = dayC T o day (-1) (-1) - 1 from cif_f (by omega)] | skip); repeat (first | rw [cif_t (by first | assumption | omega)] | rw [cif_f (by first | assumption | omega)]); try first | assumption | omega)
                    have h := h _ m7 fr9
                    rw [q] at h
                    exact pst (jadd rfl rfl) h
          · skip
            refine br_eq (w) (2) rfl rfl ⟨by omega, by omega⟩ ⟨by omega, by omega⟩ (fun c34 => ?_) (fun c34 => ?_)
            · skip
              have q : (tripS T o day w : Int) = (y12.toInt) := by (unfold tripS tripG; (first | rw [show (cif (w = 0) (0 : Int) (dayC T o day (-1) (-1) - 1)) = 0 from cif_t (by omega)] | rw [show (cif (w = 0) (0 : Int) (dayC T o day (-1) (-1) - 1)) = dayC T o day (-1) (-1) - 1 from cif_f (by omega)] | skip); repeat (first | rw [cif_t (by first | assumption | omega)] | rw [cif_f (by first | assumption | omega)]); try first | assumption | omega)
              have h := h _ m7 fr9
              rw [q] at h
              exact pst (jI_of y12).symm h
            · skip
              have q : (tripS T o day w : Int) = dayC T o day ((-1)) ((-1)) := by (unfold tripS tripG; (first | rw [show (cif (w = 0) (0 : Int) (dayC T o day (-1) (-1) - 1)) = 0 from cif_t (by omega)] | rw [show (cif (w = 0) (0 : Int) (dayC T o day (-1) (-1) - 1)) = dayC T o day (-1) (-1) - 1 from cif_f (by omega)] | skip); repeat (first | rw [cif_t (by first | assumption | omega)] | rw [cif_f (by first | assumption | omega)]); try first | assumption | omega)
              have h := h _ m7 fr9
              rw [q] at h
              exact pst rfl h
      · skip
        refine br_0 ?_
        have q : (tripS T o day w : Int) = (-10000) := by (unfold tripS tripG; (first | rw [show (cif (w = 0) (0 : Int) (dayC T o day (-1) (-1) - 1)) = 0 from cif_t (by omega)] | rw [show (cif (w = 0) (0 : Int) (dayC T o day (-1) (-1) - 1)) = dayC T o day (-1) (-1) - 1 from cif_f (by omega)] | skip); repeat (first | rw [cif_t (by first | assumption | omega)] | rw [cif_f (by first | assumption | omega)]); try first | assumption | omega)
        have h := h _ m1 fr2
        rw [q] at h
        exact pst rfl h
    · skip
      refine br_0 ?_
      have q : (tripS T o day w : Int) = (-10000) := by (unfold tripS tripG; (first | rw [show (cif (w = 0) (0 : Int) (dayC T o day (-1) (-1) - 1)) = 0 from cif_t (by omega)] | rw [show (cif (w = 0) (0 : Int) (dayC T o day (-1) (-1) - 1)) = dayC T o day (-1) (-1) - 1 from cif_f (by omega)] | skip); repeat (first | rw [cif_t (by first | assumption | omega)] | rw [cif_f (by first | assumption | omega)]); try first | assumption | omega)
      have h := h _ m1 fr2
      rw [q] at h
      exact pst rfl h
  · skip
    refine br_0 ?_
    have q : (tripS T o day w : Int) = (-10000) := by (unfold tripS tripG; (first | rw [show (cif (w = 0) (0 : Int) (dayC T o day (-1) (-1) - 1)) = 0 from cif_t (by omega)] | rw [show (cif (w = 0) (0 : Int) (dayC T o day (-1) (-1) - 1)) = dayC T o day (-1) (-1) - 1 from cif_f (by omega)] | skip); repeat (first | rw [cif_t (by first | assumption | omega)] | rw [cif_f (by first | assumption | omega)]); try first | assumption | omega)
    have h := h _ m1 fr2
    rw [q] at h
    exact pst rfl h
