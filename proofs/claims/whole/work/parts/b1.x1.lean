/-! the class, small methods -/
set_option maxHeartbeats 8000000 in
theorem x_X9_placeOf {U : Um} {a1 : Int32} {g : Int} {a2 : Int32} {s : Int} (e_a1 : a1 = jI g) (e_a2 : a2 = jI s)  {post : Int32 → Um → Prop} (h : post (jI ((3 * g + s))) U) : w_X9_placeOf  a1 a2 U post := by
  unfold w_X9_placeOf
  subst e_a1
  subst e_a2
  have q : ((3 * g + s) : Int) = ((3 * g) + s) := by first | assumption | omega | grind
  rw [q] at h
  exact pst (jadd (jmul rfl rfl) rfl) h
set_option maxHeartbeats 8000000 in
theorem x_X6_officials {U : Um} {T : Tm} {w : Nat} (hC : CC U T w) (hI : I1 T) (h2 : I2 T) {ob : Nat} (eo : ob = 42)  {post : Int32 → Um → Prop} (h : post (jI (T 11 2)) U) : w_X6_officials ob U post := by
  rw [eo]
  unfold w_X6_officials
  have hw := hC.1.1
  have hn := I_n hI
  refine ⟨oc_of (r_42 hC rfl) (oc_w hw), ?_⟩
  refine ⟨jvp (2) rfl (by omega) (by omega) (by decide), ?_⟩
  have q : (T 11 2 : Int) = (T 11 2) := by rfl
  rw [q] at h
  exact pst (c_n hC (r_42 hC rfl) (2) rfl (by omega) (by omega)) h
set_option maxHeartbeats 8000000 in
theorem x_X9_isGame {U : Um} {T : Tm} {w : Nat} (hC : CC U T w) (hI : I1 T) (h2 : I2 T) {ob : Nat} {a1 : Int32} {g : Int} (eo : ob = w) (e_a1 : a1 = jI g) (p0 : r32 g) {post : Int32 → Um → Prop} (h1 : isGame T g → post 1 U) (h0 : ¬ isGame T g → post 0 U) : w_X9_isGame ob a1 U post := by
  rw [eo]
  unfold w_X9_isGame
  subst e_a1
  have hw := hC.1.1
  have hn := I_n hI
  refine br_lt (g) (0) rfl rfl ⟨by omega, by omega⟩ ⟨by omega, by omega⟩ (fun c1 => ?_) (fun c1 => ?_)
  · skip
    exact h0 (by omega)
  · skip
    refine br_le ((T 11 3)) (g) (c_n7 hC rfl) rfl ⟨by omega, by omega⟩ ⟨by omega, by omega⟩ (fun c2 => ?_) (fun c2 => ?_)
    · skip
      exact h0 (by omega)
    · skip
      exact h1 (by omega)
set_option maxHeartbeats 8000000 in
theorem x_X9_isSeat {U : Um} {T : Tm} {w : Nat} (hC : CC U T w) (hI : I1 T) (h2 : I2 T) {ob : Nat} {a1 : Int32} {g : Int} {a2 : Int32} {s : Int} (eo : ob = w) (e_a1 : a1 = jI g) (e_a2 : a2 = jI s) (p0 : r32 g) (p1 : r32 s) {post : Int32 → Um → Prop} (h1 : isSeat T g s → post 1 U) (h0 : ¬ isSeat T g s → post 0 U) : w_X9_isSeat ob a1 a2 U post := by
  rw [eo]
  unfold w_X9_isSeat
  subst e_a1
  subst e_a2
  have hw := hC.1.1
  have hn := I_n hI
  refine x_X9_isGame hC hI h2 (eo := rfl) (g := g) (by exact rfl) (by omega) (fun c1 => ?_) (fun c1 => ?_)
  · skip
    refine br_1 ?_
    refine br_lt (s) (0) rfl rfl ⟨by omega, by omega⟩ ⟨by omega, by omega⟩ (fun c2 => ?_) (fun c2 => ?_)
    · skip
      exact h0 (by omega)
    · skip
      refine ⟨jvp (g) rfl (by omega) (by omega) (by decide), ?_⟩
      have f3 := I_g hI (g) (by omega) (by omega)
      unfold gOk at f3
      refine ⟨oc_of (r_g hC rfl (g) rfl (by omega) (by omega)) (oc_g hw (by omega)), ?_⟩
      refine br_le ((gm T (g) 7)) (s) (c_g hC (r_g hC rfl (g) rfl (by omega) (by omega)) 7 (by omega) (by omega) (by decide)) rfl ⟨by omega, by omega⟩ ⟨by omega, by omega⟩ (fun c4 => ?_) (fun c4 => ?_)
      · skip
        exact h0 (by omega)
      · skip
        exact h1 (by omega)
  · skip
    refine br_0 ?_
    exact h0 (by omega)
set_option maxHeartbeats 8000000 in
theorem x_X9_isNamed {U : Um} {T : Tm} {w : Nat} (hC : CC U T w) (hI : I1 T) (h2 : I2 T) {ob : Nat} {a1 : Int32} {k : Int} {a2 : Int32} {o : Int} (eo : ob = w) (e_a1 : a1 = jI k) (e_a2 : a2 = jI o) (p0 : 0 ≤ k ∧ k < 3) (p1 : r32 o) {post : Int32 → Um → Prop} (h1 : (0 ≤ o ∧ o < T 11 k) → post 1 U) (h0 : ¬ (0 ≤ o ∧ o < T 11 k) → post 0 U) : w_X9_isNamed ob a1 a2 U post := by
  rw [eo]
  unfold w_X9_isNamed
  subst e_a1
  subst e_a2
  have hw := hC.1.1
  have hn := I_n hI
  have hk : r32 (T 11 k) := by rcases (show k = 0 ∨ k = 1 ∨ k = 2 by omega) with rfl | rfl | rfl <;> exact ⟨by omega, by omega⟩
  refine br_lt (o) (0) rfl rfl ⟨by omega, by omega⟩ ⟨by omega, by omega⟩ (fun c1 => ?_) (fun c1 => ?_)
  · skip
    exact h0 (by omega)
  · skip
    refine ⟨jvp (k) rfl (by omega) (by omega) (by decide), ?_⟩
    refine br_le ((T 11 (k))) (o) (c_n hC rfl (k) rfl (by omega) (by omega)) rfl ⟨by omega, by omega⟩ ⟨by omega, by omega⟩ (fun c2 => ?_) (fun c2 => ?_)
    · skip
      exact h0 (by omega)
    · skip
      exact h1 (by omega)
set_option maxHeartbeats 8000000 in
theorem x_X9_areFields {U : Um} {T : Tm} {w : Nat} (hC : CC U T w) (hI : I1 T) (h2 : I2 T) {ob : Nat} {a1 : Int32} {a : Int} {a2 : Int32} {b : Int} (eo : ob = w) (e_a1 : a1 = jI a) (e_a2 : a2 = jI b) (p0 : r32 a) (p1 : r32 b) {post : Int32 → Um → Prop} (h1 : (isField T a ∧ isField T b) → post 1 U) (h0 : ¬ (isField T a ∧ isField T b) → post 0 U) : w_X9_areFields ob a1 a2 U post := by
  rw [eo]
  unfold w_X9_areFields
  subst e_a1
  subst e_a2
  have hw := hC.1.1
  have hn := I_n hI
  refine x_X9_isNamed hC hI h2 (eo := rfl) (k := 0) (o := a) (by exact rfl) (by exact rfl) (by omega) (by omega) (fun c1 => ?_) (fun c1 => ?_)
  · skip
    refine br_1 ?_
    refine x_X9_isNamed hC hI h2 (eo := rfl) (k := 0) (o := b) (by exact rfl) (by exact rfl) (by omega) (by omega) (fun c2 => ?_) (fun c2 => ?_)
    · skip
      refine br_1 ?_
      exact h1 (by omega)
    · skip
      refine br_0 ?_
      exact h0 (by omega)
  · skip
    refine br_0 ?_
    exact h0 (by omega)
set_option maxHeartbeats 8000000 in
theorem x_X6_isPlayed {U : Um} {T : Tm} {w : Nat} (hC : CC U T w) (hI : I1 T) (h2 : I2 T) {ob : Nat} {a1 : Int32} {g : Int} (eo : ob = 42) (e_a1 : a1 = jI g) (p0 : 0 ≤ g) (p1 : g < T 11 3) {post : Int32 → Um → Prop} (h1 : (gm T g 3 < T 35 0) → post 1 U) (h0 : ¬ (gm T g 3 < T 35 0) → post 0 U) : w_X6_isPlayed ob a1 U post := by
  rw [eo]
  unfold w_X6_isPlayed
  subst e_a1
  have hw := hC.1.1
  have hn := I_n hI
  have ht := I_t h2
  refine ⟨oc_of (r_42 hC rfl) (oc_w hw), ?_⟩
  refine ⟨jvp (g) rfl (by omega) (by omega) (by decide), ?_⟩
  have f1 := I_g hI (g) (by omega) (by omega)
  unfold gOk at f1
  refine ⟨oc_of (r_g hC (r_42 hC rfl) (g) rfl (by omega) (by omega)) (oc_g hw (by omega)), ?_⟩
  refine br_le ((T 35 0)) ((gm T (g) 3)) (c_t hC rfl) (c_g hC (r_g hC (r_42 hC rfl) (g) rfl (by omega) (by omega)) 3 (by omega) (by omega) (by decide)) ⟨by omega, by omega⟩ ⟨by omega, by omega⟩ (fun c2 => ?_) (fun c2 => ?_)
  · skip
    exact h0 (by omega)
  · skip
    exact h1 (by omega)
set_option maxHeartbeats 8000000 in
theorem x_X6_isLate {U : Um} {T : Tm} {w : Nat} (hC : CC U T w) (hI : I1 T) (h2 : I2 T) {ob : Nat} {a1 : Int32} {g : Int} (eo : ob = 42) (e_a1 : a1 = jI g) (p0 : 0 ≤ g) (p1 : g < T 11 3) {post : Int32 → Um → Prop} (h1 : (gm T g 3 = T 35 0) → post 1 U) (h0 : ¬ (gm T g 3 = T 35 0) → post 0 U) : w_X6_isLate ob a1 U post := by
  rw [eo]
  unfold w_X6_isLate
  subst e_a1
  have hw := hC.1.1
  have hn := I_n hI
  have ht := I_t h2
  refine ⟨oc_of (r_42 hC rfl) (oc_w hw), ?_⟩
  refine ⟨jvp (g) rfl (by omega) (by omega) (by decide), ?_⟩
  have f1 := I_g hI (g) (by omega) (by omega)
  unfold gOk at f1
  refine ⟨oc_of (r_g hC (r_42 hC rfl) (g) rfl (by omega) (by omega)) (oc_g hw (by omega)), ?_⟩
  refine br_eq ((gm T (g) 3)) ((T 35 0)) (c_g hC (r_g hC (r_42 hC rfl) (g) rfl (by omega) (by omega)) 3 (by omega) (by omega) (by decide)) (c_t hC rfl) ⟨by omega, by omega⟩ ⟨by omega, by omega⟩ (fun c2 => ?_) (fun c2 => ?_)
  · skip
    exact h1 (by omega)
  · skip
    exact h0 (by omega)
set_option maxHeartbeats 8000000 in
theorem x_X2_needOf {U : Um} {T : Tm} {w : Nat} (hC : CC U T w) (hI : I1 T) (h2 : I2 T) {ob : Nat} {g : Int} {a1 : Int32} {s : Int} (eo : ob = (gO w g)) (e_a1 : a1 = jI s) (p0 : 0 ≤ g) (p1 : g < T 11 3) (p2 : r32 s) {post : Int32 → Um → Prop} (h : post (jI (needS T g s)) U) : w_X2_needOf ob a1 U post := by
  rw [eo]
  unfold w_X2_needOf
  subst e_a1
  have hw := hC.1.1
  have hn := I_n hI
  refine br_eq (s) (0) rfl rfl ⟨by omega, by omega⟩ ⟨by omega, by omega⟩ (fun c1 => ?_) (fun c1 => ?_)
  · skip
    have f2 := I_g hI (g) (by omega) (by omega)
    unfold gOk at f2
    have q : (needS T g s : Int) = (gm T (g) 6) := by (unfold needS; split <;> (try split) <;> omega)
    rw [q] at h
    exact pst (c_g hC rfl 6 (by omega) (by omega) (by decide)) h
  · skip
    have f3 := I_g hI (g) (by omega) (by omega)
    unfold gOk at f3
    refine br_eq ((gm T (g) 6)) (1) (c_g hC rfl 6 (by omega) (by omega) (by decide)) rfl ⟨by omega, by omega⟩ ⟨by omega, by omega⟩ (fun c4 => ?_) (fun c4 => ?_)
    · skip
      have q : (needS T g s : Int) = (gm T (g) 6) := by (unfold needS; split <;> (try split) <;> omega)
      rw [q] at h
      exact pst (c_g hC rfl 6 (by omega) (by omega) (by decide)) h
    · skip
      have q : (needS T g s : Int) = ((gm T (g) 6) - 1) := by (unfold needS; split <;> (try split) <;> omega)
      rw [q] at h
      exact pst (jsub (c_g hC rfl 6 (by omega) (by omega) (by decide)) rfl) h
set_option maxHeartbeats 8000000 in
theorem x_X2_ends {U : Um} {T : Tm} {w : Nat} (hC : CC U T w) (hI : I1 T) (h2 : I2 T) {ob : Nat} {g : Int} (eo : ob = (gO w g)) (p0 : 0 ≤ g) (p1 : g < T 11 3) {post : Int32 → Um → Prop} (h : post (jI (endS T g)) U) : w_X2_ends ob U post := by
  rw [eo]
  unfold w_X2_ends
  have hw := hC.1.1
  have hn := I_n hI
  have f1 := I_g hI (g) (by omega) (by omega)
  unfold gOk at f1
  have q : (endS T g : Int) = ((gm T (g) 4) + (gm T (g) 5)) := by rfl
  rw [q] at h
  exact pst (jadd (c_g hC rfl 4 (by omega) (by omega) (by decide)) (c_g hC rfl 5 (by omega) (by omega) (by decide))) h
set_option maxHeartbeats 8000000 in
theorem x_X5_stretch {U : Um} {T : Tm} {w : Nat} (hC : CC U T w) (hI : I1 T) (h2 : I2 T) {ob : Nat} {a1 : Int32} {a : Int} {a2 : Int32} {b : Int} (eo : ob = (w + 2)) (e_a1 : a1 = jI a) (e_a2 : a2 = jI b) (p0 : isField T a) (p1 : isField T b) {post : Int32 → Um → Prop} (h : post (jI (stepS T a b)) U) : w_X5_stretch ob a1 a2 U post := by
  rw [eo]
  unfold w_X5_stretch
  subst e_a1
  subst e_a2
  have hw := hC.1.1
  have hn := I_n hI
  refine ⟨jvp (a) rfl (by omega) (by omega) (by decide), ?_⟩
  refine ⟨jvp (b) rfl (by omega) (by omega) (by decide), ?_⟩
  have f1 := I_wS hI (a) (b) (by omega) (by omega) (by omega) (by omega)
  refine br_eq ((wayS T (a) (b))) ((-1)) (c_r2 hI hC rfl (a) (b) rfl rfl (by omega) (by omega) (by omega) (by omega)) rfl ⟨by omega, by omega⟩ ⟨by omega, by omega⟩ (fun c2 => ?_) (fun c2 => ?_)
  · skip
    have q : (stepS T a b : Int) = 999 := by (simp [stepS, *])
    rw [q] at h
    exact pst rfl h
  · skip
    refine ⟨jvp (a) rfl (by omega) (by omega) (by decide), ?_⟩
    refine ⟨jvp (b) rfl (by omega) (by omega) (by decide), ?_⟩
    have q : (stepS T a b : Int) = (wayS T (a) (b)) := by (simp [stepS, *])
    rw [q] at h
    exact pst (c_r2 hI hC rfl (a) (b) rfl rfl (by omega) (by omega) (by omega) (by omega)) h
