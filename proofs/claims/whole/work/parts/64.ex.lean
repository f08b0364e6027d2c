theorem pair_e {k j : Int} (h0 : 0 ≤ j) (h1 : j < 48) : (48 * k + j) / 48 = k ∧ (48 * k + j) % 48 = j := by omega
def exI (T : Tm) (N best one other : Int) : Prop := ∃ a, mxI (pairOk T) (gainP T) N best a ∧ ((a = -1 ∧ one = -1 ∧ other = -1) ∨ (0 ≤ a ∧ one = a / 48 ∧ other = a % 48))
theorem exI_skip {T : Tm} {N M best one other : Int} (h : exI T N best one other) (hNM : N ≤ M) (hs : ∀ p, N ≤ p → p < M → pairOk T p → gainP T p ≤ best) : exI T M best one other := by
  obtain ⟨a, q, r⟩ := h
  exact ⟨a, mx_skip q hNM hs, r⟩
theorem exI_no {T : Tm} {k j best one other : Int} (j0 : 0 ≤ j) (j1 : j < 48) (h : exI T (48 * k + j) best one other) (hs : T 30 k = -1 ∨ T 30 j = -1 ∨ swapS T (k / 3) (k % 3) (j / 3) (j % 3) ≠ 0 ∨ gainS T k j ≤ best) : exI T (48 * k + (j + 1)) best one other := by
  refine exI_skip h (by omega) (fun p p0 p1 q => ?_)
  have e : p = 48 * k + j := by omega
  have e2 := pair_e (k := k) j0 j1
  rw [e] at q ⊢
  unfold gainP
  unfold pairOk at q
  rw [e2.1, e2.2] at q ⊢
  rcases hs with z | z | z | z
  · exact absurd z q.2.1
  · exact absurd z q.2.2.1
  · exact absurd q.2.2.2 z
  · exact z
theorem exI_new {T : Tm} {k j best one other : Int} (k0 : 0 ≤ k) (j0 : k < j) (j1 : j < 48) (h : exI T (48 * k + j) best one other) (h1 : T 30 k ≠ -1) (h2 : T 30 j ≠ -1) (h3 : swapS T (k / 3) (k % 3) (j / 3) (j % 3) = 0) (h4 : best < gainS T k j) : exI T (48 * k + (j + 1)) (gainS T k j) k j := by
  obtain ⟨a, q, r⟩ := h
  have e2 := pair_e (k := k) (by omega) j1
  have hv : gainP T (48 * k + j) = gainS T k j := by
    unfold gainP
    rw [e2.1, e2.2]
  have ok : pairOk T (48 * k + j) := by
    unfold pairOk
    rw [e2.1, e2.2]
    exact ⟨j0, h1, h2, h3⟩
  have := mx_new (by omega) q ok (by rw [hv]; exact h4)
  rw [hv] at this
  refine ⟨48 * k + j, ?_, Or.inr ⟨by omega, e2.1.symm, e2.2.symm⟩⟩
  rw [show 48 * k + (j + 1) = 48 * k + j + 1 by omega]
  exact this
theorem exI_row {T : Tm} {k best one other : Int} (k0 : 0 ≤ k) (k1 : k < 48) (h : exI T (48 * k) best one other) : exI T (48 * k + (k + 1)) best one other := by
  refine exI_skip h (by omega) (fun p p0 p1 q => ?_)
  unfold pairOk at q
  omega
theorem exI_b {T : Tm} {N best one other : Int} (h : exI T N best one other) (hN : N ≤ 2304) (hg : ∀ p, 0 ≤ p → p < N → pairOk T p → gainP T p ≤ 10000000) : (0 ≤ best ∧ best ≤ 10000000) ∧ (one = -1 ∨ (0 ≤ one ∧ one < 48 ∧ 0 ≤ other ∧ other < 48)) := by
  obtain ⟨a, q, r⟩ := h
  rcases q with ⟨x, y, z⟩ | ⟨x, y, z, u, v, w, t⟩
  · omega
  · have := hg a y z u
    omega
theorem I2_ex {T : Tm} (hI : I1 T) (h2 : I2 T) {k j : Int} (k0 : 0 ≤ k) (k1 : k < 48) (j0 : 0 ≤ j) (j1 : j < 48) (hk : T 30 k ≠ -1) (hj : T 30 j ≠ -1) (hs : swapS T (k / 3) (k % 3) (j / 3) (j % 3) = 0) : I2 (exT T k j) := by
  have s1 := seat_k h2 k0 k1 hk
  have s2 := seat_k h2 j0 j1 hj
  have ek : 3 * (k / 3) + k % 3 = k := by omega
  have ej : 3 * (j / 3) + j % 3 = j := by omega
  unfold swapS at hs
  rw [ek, ej] at hs
  rw [cif_f (fun q => q ⟨s1.1, s2.1⟩)] at hs
  by_cases c1 : gm T (k / 3) 3 < T 35 0 ∨ gm T (j / 3) 3 < T 35 0
  · rw [cif_t c1] at hs
    omega
  rw [cif_f c1, cif_f (fun q => q.elim hk hj)] at hs
  by_cases c2 : k / 3 = j / 3 ∨ T 30 k = T 30 j
  · rw [cif_t c2] at hs
    omega
  rw [cif_f c2] at hs
  by_cases c3 : T 32 (T 30 k) ≠ T 32 (T 30 j)
  · rw [cif_t c3] at hs
    omega
  rw [cif_f c3] at hs
  by_cases c4 : hind T (woG T (T 30 j) (j / 3)) (k / 3) (k % 3) (T 30 j) = 0 ∧ hind T (woG T (T 30 k) (k / 3)) (j / 3) (j % 3) (T 30 k) = 0
  · have n1 : ¬ woG T (T 30 j) (j / 3) (k / 3) := by
      intro q
      have := c4.1
      unfold hind at this
      rw [cif_t q] at this
      omega
    have n2 : ¬ woG T (T 30 k) (k / 3) (j / 3) := by
      intro q
      have := c4.2
      unfold hind at this
      rw [cif_t q] at this
      omega
    have g1 : ¬ inGame T (T 30 j) (k / 3) := fun q => n1 ⟨q, fun z => c2 (Or.inl z)⟩
    have g2 : ¬ inGame T (T 30 k) (j / 3) := fun q => n2 ⟨q, fun z => c2 (Or.inl z.symm)⟩
    have e : exT T k j = up (up (up (up T 30 k (-1)) 30 j (-1)) 30 k (T 30 j)) 30 j (T 30 k) := by
      unfold exT
      rw [up_comm (k := 30) (k2 := 30) (i := j) (i2 := k) (by omega), up_up, up_up]
    rw [e]
    have hIa : I1 (up T 30 k (-1)) := I1_30 hI
    have hIb : I1 (up (up T 30 k (-1)) 30 j (-1)) := I1_30 hIa
    have h2b : I2 (up (up T 30 k (-1)) 30 j (-1)) := I2_del (I2_del h2 _) _
    have d1 : ∀ o, 0 ≤ o → ∀ g, isGame T g → inGame (up (up T 30 k (-1)) 30 j (-1)) o g → inGame T o g := by
      intro o ho g hg q
      have r := (inGame_del hIa (I2_del h2 _) (h := j / 3) (t := j % 3) s2.1 hg ho)
      rw [ej] at r
      have r2 := (inGame_del hI h2 (h := k / 3) (t := k % 3) s1.1 hg ho)
      rw [ek] at r2
      have q1 : inGame (up T 30 k (-1)) o g := by
        have := r.mp q
        split at this
        · exact this.1
        · exact this
      have := r2.mp q1
      split at this
      · exact this.1
      · exact this
    have p1 := I2_put hIb h2b (g := k / 3) (s := k % 3) (o := T 30 j) s1.1 ⟨s2.2.1, s2.2.2⟩ (fun q => g1 (d1 _ s2.2.1 _ s1.1.1 q))
    rw [ek] at p1
    have hIc : I1 (up (up (up T 30 k (-1)) 30 j (-1)) 30 k (T 30 j)) := I1_30 hIb
    have p2 := I2_put hIc p1 (g := j / 3) (s := j % 3) (o := T 30 k) s2.1 ⟨s1.2.1, s1.2.2⟩ (fun q => by
      have r := (inGame_put hIb (h := k / 3) (t := k % 3) (a := T 30 j) (o := T 30 k) (g := j / 3) s1.1 s2.1.1 (by rw [ek, up_ne (by omega), up_eq]) s1.2.1)
      rw [ek] at r
      rcases r.mp q with z | z
      · exact g2 (d1 _ s1.2.1 _ s2.1.1 z)
      · exact c2 (Or.inr z.1))
    rw [ej] at p2
    exact p2
  · rw [cif_f c4] at hs
    omega
theorem gainS_b {T : Tm} (hI : I1 T) (h2 : I2 T) {k j : Int} (k0 : 0 ≤ k) (k1 : k < 48) (j0 : 0 ≤ j) (j1 : j < 48) (hk : T 30 k ≠ -1) (hj : T 30 j ≠ -1) : -10000000 ≤ gainS T k j ∧ gainS T k j ≤ 10000000 := by
  have s1 := seat_k h2 k0 k1 hk
  have s2 := seat_k h2 j0 j1 hj
  have a := rnds_b hI (T 30 k) 7 s1.2.1 s1.2.2 (by omega) (by omega)
  have b := rnds_b hI (T 30 j) 7 s2.2.1 s2.2.2 (by omega) (by omega)
  have hx : I1 (exT T k j) := I1_30 (I1_30 hI)
  have c := rnds_b hx (T 30 k) 7 s1.2.1 s1.2.2 (by omega) (by omega)
  have d := rnds_b hx (T 30 j) 7 s2.2.1 s2.2.2 (by omega) (by omega)
  unfold gainS rndsS
  omega
theorem exI_bb {T : Tm} (hI : I1 T) (h2 : I2 T) {N best one other : Int} (h : exI T N best one other) (hN : N ≤ 2304) : (0 ≤ best ∧ best ≤ 10000000) ∧ (one = -1 ∨ (0 ≤ one ∧ one < 48 ∧ 0 ≤ other ∧ other < 48)) := exI_b h hN (fun p p0 p1 q => by
  unfold gainP
  unfold pairOk at q
  exact (gainS_b hI h2 (by omega) (by omega) (by omega) (by omega) q.2.1 q.2.2.1).2)
theorem ex_end {T : Tm} {best one other : Int} (h : exI T 2304 best one other) : exB T = best ∧ ((exA T = -1 ∧ one = -1) ∨ (0 ≤ exA T ∧ one = exA T / 48 ∧ other = exA T % 48)) := by
  obtain ⟨a, q, r⟩ := h
  have e := ex_is q
  rw [e.1, e.2]
  exact ⟨rfl, r.imp (fun z => ⟨z.1, z.2.1⟩) id⟩
theorem swapS_b (T : Tm) (g s h t : Int) : -6 ≤ swapS T g s h t ∧ swapS T g s h t ≤ 0 := by
  unfold swapS cif
  repeat' split
  all_goals omega
theorem whyS_bb (T : Tm) (g s o : Int) : 0 ≤ whyS T g s o ∧ whyS T g s o ≤ 11 := whyS_b
theorem rnds_bS {T : Tm} (hI : I1 T) (o : Int) (h0 : 0 ≤ o) (h1 : o < T 11 2) : 0 ≤ rndsS T o ∧ rndsS T o ≤ 2380000 := rnds_b hI o 7 h0 h1 (by omega) (by omega)
theorem al_ifle {P : Int32 → Prop} {a b A B : Int32} (x y : Int) (hx : a = jI x) (hy : b = jI y) (rx : r32 x) (ry : r32 y) (u v : Int) (hu : A = jI u) (hv : B = jI v) (h1 : x ≤ y → P (jI u)) (h2 : y < x → P (jI v)) : ∀ z : Int32, z = (if a ≤ b then A else B) → P z := by
  intro z hz
  subst hx; subst hy; subst hu; subst hv
  rw [hz]
  by_cases c : x ≤ y
  · rw [if_pos ((jI_le rx ry).mpr c)]
    exact h1 c
  · rw [if_neg (fun q => c ((jI_le rx ry).mp q))]
    exact h2 (by omega)
theorem al_iflt {P : Int32 → Prop} {a b A B : Int32} (x y : Int) (hx : a = jI x) (hy : b = jI y) (rx : r32 x) (ry : r32 y) (u v : Int) (hu : A = jI u) (hv : B = jI v) (h1 : x < y → P (jI u)) (h2 : y ≤ x → P (jI v)) : ∀ z : Int32, z = (if a < b then A else B) → P z := by
  intro z hz
  subst hx; subst hy; subst hu; subst hv
  rw [hz]
  by_cases c : x < y
  · rw [if_pos ((jI_lt rx ry).mpr c)]
    exact h1 c
  · rw [if_neg (fun q => c ((jI_lt rx ry).mp q))]
    exact h2 (by omega)
