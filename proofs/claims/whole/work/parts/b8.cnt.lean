/-! the class: seats that are counted -/
theorem cnt_or {p q : Int → Prop} {n : Int} (hn : 0 ≤ n) (h : ∀ k, 0 ≤ k → k < n → ¬ (p k ∧ q k)) : cnt (fun k => p k ∨ q k) n = cnt p n + cnt q n := by
  refine cnt_ind (P := fun m => m ≤ n → cnt (fun k => p k ∨ q k) m = cnt p m + cnt q m) n hn (fun _ => by rw [cnt_0 (Int.le_refl _), cnt_0 (Int.le_refl _), cnt_0 (Int.le_refl _)]; rfl) (fun k k0 k1 ih hk => ?_) (Int.le_refl _)
  have i := ih (by omega)
  have hx := h k k0 k1
  rw [cnt_s k0, cnt_s k0, cnt_s k0, i]
  by_cases a : p k
  · rw [cif_t (Or.inl a), cif_t a, cif_f (fun z => hx ⟨a, z⟩)]
    omega
  · by_cases b : q k
    · rw [cif_t (Or.inr b), cif_f a, cif_t b]
      omega
    · rw [cif_f (fun z => by rcases z with z | z; exact a z; exact b z), cif_f a, cif_f b]
      omega
theorem at_seat {T : Tm} (h2 : I2 T) {g s o : Int} (g0 : 0 ≤ g) (g1 : g < 16) (s0 : 0 ≤ s) (s1 : s < 3) (ho : o ≠ -1) (h : T 30 (3 * g + s) = o) : isSeat T g s := by
  rcases h2.1 (3 * g + s) (by omega) (by omega) with q | q
  · exact absurd (h.symm.trans q) ho
  · have a := q.2
    rw [show (3 * g + s) / 3 = g by omega, show (3 * g + s) % 3 = s by omega] at a
    exact a
theorem seats_3 {T : Tm} (hI : I1 T) (h2 : I2 T) {o : Int} (ho : o ≠ -1) (g : Int) (h0 : 0 ≤ g) (h16 : g ≤ 16) : cnt (fun k => T 30 k = o) (3 * g) = cnt (fun h => isGame T h ∧ inGame T o h) g := by
  refine cnt_ind (P := fun g => g ≤ 16 → cnt (fun k => T 30 k = o) (3 * g) = cnt (fun h => isGame T h ∧ inGame T o h) g) g h0 (fun _ => by rw [cnt_0 (by decide), cnt_0 (Int.le_refl _)]) (fun g g0 _ ih hg => ?_) h16
  have i := ih (by omega)
  have S := fun s => at_seat (T := T) h2 (g := g) (s := s) (o := o) g0 (by omega)
  have D : ∀ s t, 0 ≤ s → s < 3 → 0 ≤ t → t < 3 → T 30 (3 * g + s) = o → T 30 (3 * g + t) = o → s = t := fun s t a b c d e f => (h2.2.1 g s t (S s a b ho e) (S t c d ho f) (e.trans f.symm)).resolve_left (fun q => ho (e.symm.trans q))
  rw [show 3 * (g + 1) = 3 * g + 0 + 1 + 1 + 1 by omega, cnt_s (by omega), cnt_s (by omega), cnt_s (by omega), show 3 * g + 0 + 1 + 1 = 3 * g + 2 by omega, show 3 * g + 0 + 1 = 3 * g + 1 by omega, cnt_s g0, show cnt (fun k => T 30 k = o) (3 * g + 0) = cnt (fun k => T 30 k = o) (3 * g) by rw [Int.add_zero], i]
  have d01 := D 0 1 (by decide) (by decide) (by decide) (by decide)
  have d02 := D 0 2 (by decide) (by decide) (by decide) (by decide)
  have d12 := D 1 2 (by decide) (by decide) (by decide) (by decide)
  by_cases c0 : T 30 (3 * g + 0) = o
  · have z := S 0 (by decide) (by decide) ho c0
    rw [cif_t c0, cif_f (fun q => absurd (d01 c0 q) (by decide)), cif_f (fun q => absurd (d02 c0 q) (by decide)), cif_t ⟨z.1, 0, z.2.1, z.2.2, c0⟩]
    omega
  · rw [cif_f c0]
    by_cases c1 : T 30 (3 * g + 1) = o
    · have z := S 1 (by decide) (by decide) ho c1
      rw [cif_t c1, cif_f (fun q => absurd (d12 c1 q) (by decide)), cif_t ⟨z.1, 1, z.2.1, z.2.2, c1⟩]
      omega
    · rw [cif_f c1]
      by_cases c2 : T 30 (3 * g + 2) = o
      · have z := S 2 (by decide) (by decide) ho c2
        rw [cif_t c2, cif_t ⟨z.1, 2, z.2.1, z.2.2, c2⟩]
        omega
      · rw [cif_f c2, cif_f (fun q => by
          obtain ⟨q1, s, s0, s1, e⟩ := q
          have hg3 := I_g hI g q1.1 q1.2
          unfold gOk at hg3
          rcases (show s = 0 ∨ s = 1 ∨ s = 2 by omega) with rfl | rfl | rfl
          · exact c0 e
          · exact c1 e
          · exact c2 e)]
        omega
theorem seats_g {T : Tm} (hI : I1 T) (h2 : I2 T) {o : Int} (ho : o ≠ -1) : seatsS T o = cnt (inGame T o) (T 11 3) := by
  have hn := I_n hI
  unfold seatsS
  have h := seats_3 hI h2 ho 16 (by decide) (by decide)
  rw [show (3 : Int) * 16 = 48 by decide] at h
  rw [h, cnt_x (n := T 11 3) (by omega) (by omega) (fun k k0 k1 q => by have := q.1.2; omega)]
  exact cnt_c (by omega) (fun k k0 k1 => ⟨fun q => q.2, fun q => ⟨⟨k0, k1⟩, q⟩⟩)
theorem x_held {U : Um} {T : Tm} {w x : Nat} (hC : CC U T w) (hI : I1 T) (h2 : I2 T) (hx : x = 42) {E : Int32} (o : Int) (he : E = jI o) (o0 : 0 ≤ o) (o1 : o < T 11 2) {post : Int32 → Um → Prop} (h : post (jI (seatsS T o)) U) : w_J6_bitCount_0f7a4 (uA U x 7 (Int32.toNatClampNeg E)) U post := by
  have hB := c_he hI hC hx o he o0 o1
  have cb := cnt_bt hI hB
  refine x_pop cb.2 ?_
  rw [cb.1, ← seats_g hI h2 (by omega)]
  exact h
theorem sm_seats {T : Tm} (m : Int) (hm : 0 ≤ m) : sm (seatsS T) m = cnt (fun k => 0 ≤ T 30 k ∧ T 30 k < m) 48 := by
  refine cnt_ind (P := fun m => sm (seatsS T) m = cnt (fun k => 0 ≤ T 30 k ∧ T 30 k < m) 48) m hm ?_ (fun m m0 _ ih => ?_)
  · rw [sm_0, cnt_x (n := 0) (by decide) (by decide) (fun k _ _ q => by omega), cnt_0 (Int.le_refl _)]
  · show sm (seatsS T) (m + 1) = cnt (fun k => 0 ≤ T 30 k ∧ T 30 k < m + 1) 48
    rw [sm_s m0, ih]
    unfold seatsS
    rw [← cnt_or (by decide) (fun k _ _ q => by omega)]
    exact cnt_c (by decide) (fun k _ _ => by omega)
theorem taken_3 {T : Tm} (hI : I1 T) (h2 : I2 T) (g : Int) (g0 : 0 ≤ g) (g1 : g ≤ T 11 3) : cnt (fun k => T 30 k ≠ -1) (3 * g) = taken T g := by
  have hn := I_n hI
  refine cnt_ind (P := fun g => g ≤ T 11 3 → cnt (fun k => T 30 k ≠ -1) (3 * g) = taken T g) g g0 (fun _ => by rw [cnt_0 (by decide)]; rfl) (fun g g0 _ ih hg => ?_) g1
  have i := ih (by omega)
  have hg3 := I_g hI g g0 (by omega)
  unfold gOk at hg3
  have e : takenG T g (gm T g 7) = takenG T g 3 := by
    unfold takenG
    exact (cnt_x (by omega) (by omega) (fun s s0 s1 q => by
      have := at_seat h2 g0 (by omega) (by omega) s1 q rfl
      omega)).symm
  have e3 : takenG T g 3 = 0 + cif (T 30 (3 * g + 0) ≠ -1) 1 0 + cif (T 30 (3 * g + 1) ≠ -1) 1 0 + cif (T 30 (3 * g + 2) ≠ -1) 1 0 := rfl
  rw [taken_s g0, e, e3, ← i, show 3 * (g + 1) = 3 * g + 0 + 1 + 1 + 1 by omega, cnt_s (by omega), cnt_s (by omega), cnt_s (by omega), show 3 * g + 0 + 1 + 1 = 3 * g + 2 by omega, show 3 * g + 0 + 1 = 3 * g + 1 by omega, show cnt (fun k => T 30 k ≠ -1) (3 * g + 0) = cnt (fun k => T 30 k ≠ -1) (3 * g) by rw [Int.add_zero]]
  omega
theorem taken_sm {T : Tm} (hI : I1 T) (h2 : I2 T) : sm (seatsS T) (T 11 2) = taken T (T 11 3) := by
  have hn := I_n hI
  rw [sm_seats _ (by omega), ← taken_3 hI h2 (T 11 3) (by omega) (Int.le_refl _)]
  rw [← cnt_x (n := 3 * T 11 3) (m := 48) (by omega) (by omega) (fun k k0 k1 q => by
    rcases h2.1 k (by omega) k1 with z | z
    · exact q z
    · omega)]
  exact cnt_c (by decide) (fun k k0 k1 => ⟨fun q => by omega, fun q => (I_k h2 k k0 k1).resolve_left q⟩)
theorem sm_sb {T : Tm} (m : Int) (hm : 0 ≤ m) : 0 ≤ sm (seatsS T) m ∧ sm (seatsS T) m ≤ 48 := by
  rw [sm_seats m hm]
  exact cnt_b (by decide)
theorem xl_taken {U : Um} {T : Tm} {w : Nat} (hC : CC U T w) (hI : I1 T) (h2 : I2 T) {post K : Int32 → Um → Prop} (hK : K (jI (taken T (T 11 3))) U) : ∀ (fu : Nat) (o : Int), 0 ≤ o → o ≤ T 11 2 → (T 11 2 - o).toNat < fu → w_X6_takenCount_L4 42 post K fu (jI (sm (seatsS T) o)) (jI o) U := by
  have hn := I_n hI
  intro fu
  induction fu with
  | zero => intro o _ _ h; exact absurd h (Nat.not_lt_zero _)
  | succ fu ih =>
    intro o o0 o1 hf
    show b_X6_takenCount_L4 42 post K (w_X6_takenCount_L4 42 post K fu) (jI (sm (seatsS T) o)) (jI o) U
    unfold b_X6_takenCount_L4
    refine x_X6_officials hC hI h2 (eo := rfl) (br_le (T 11 2) o rfl rfl ⟨by omega, by omega⟩ ⟨by omega, by omega⟩ (fun c => ?_) (fun c => ?_))
    · rw [show o = T 11 2 by omega, taken_sm hI h2]
      exact hK
    · refine ⟨jvp o rfl o0 (by omega) (by decide), x_held hC hI h2 rfl o rfl o0 c (al_i (sm (seatsS T) (o + 1)) (by rw [sm_s o0]; exact jadd rfl rfl) (fun y hy => ?_))⟩
      rw [hy, show jI o + 1 = jI (o + 1) from jadd rfl rfl]
      exact ih (o + 1) (by omega) (by omega) (by omega)
theorem x_taken {U : Um} {T : Tm} {w : Nat} (hC : CC U T w) (hI : I1 T) (h2 : I2 T) {ob : Nat} (eo : ob = 42) {post : Int32 → Um → Prop} (h : post (jI (taken T (T 11 3))) U) : w_X6_takenCount ob U post := by
  rw [eo]
  have hn := I_n hI
  unfold w_X6_takenCount
  exact ⟨(T 11 2 - 0).toNat + 1, xl_taken hC hI h2 h _ 0 (by decide) (by omega) (Nat.lt_succ_self _)⟩
theorem xl_seats {U : Um} {T : Tm} {w : Nat} (hC : CC U T w) (hI : I1 T) {post K : Int32 → Um → Prop} (hK : K (jI (allSeats T (T 11 3))) U) : ∀ (fu : Nat) (g : Int), 0 ≤ g → g ≤ T 11 3 → (T 11 3 - g).toNat < fu → w_X9_seatCount_L4 w post K fu (jI (allSeats T g)) (jI g) U := by
  have hn := I_n hI
  have hw := hC.1.1
  intro fu
  induction fu with
  | zero => intro g _ _ h; exact absurd h (Nat.not_lt_zero _)
  | succ fu ih =>
    intro g g0 g1 hf
    show b_X9_seatCount_L4 w post K (w_X9_seatCount_L4 w post K fu) (jI (allSeats T g)) (jI g) U
    unfold b_X9_seatCount_L4
    refine br_le (T 11 3) g (c_n7 hC rfl) rfl ⟨by omega, by omega⟩ ⟨by omega, by omega⟩ (fun c => ?_) (fun c => ?_)
    · rw [show g = T 11 3 by omega]
      exact hK
    · have qg := r_g hC rfl (E := jI g) g rfl g0 (by omega)
      refine ⟨jvp g rfl g0 (by omega) (by decide), oc_of qg (oc_g hw (by omega)), al_i (allSeats T (g + 1)) (by rw [seats_s g0]; exact jadd rfl (c_g hC qg 7 g0 c (by decide))) (fun y hy => ?_)⟩
      rw [hy, show jI g + 1 = jI (g + 1) from jadd rfl rfl]
      exact ih (g + 1) (by omega) (by omega) (by omega)
theorem x_seats {U : Um} {T : Tm} {w : Nat} (hC : CC U T w) (hI : I1 T) {ob : Nat} (eo : ob = w) {post : Int32 → Um → Prop} (h : post (jI (allSeats T (T 11 3))) U) : w_X9_seatCount ob U post := by
  rw [eo]
  have hn := I_n hI
  unfold w_X9_seatCount
  exact ⟨(T 11 3 - 0).toNat + 1, xl_seats hC hI h _ 0 (by decide) (by omega) (Nat.lt_succ_self _)⟩
theorem xl_spread {U : Um} {T : Tm} {w : Nat} (hC : CC U T w) (hI : I1 T) (h2 : I2 T) {x1 : Int32} {post : Int32 → Um → Prop} {K : Int32 → Int32 → Um → Prop} (hK : ∀ m f : Int, topI (seatsS T) (T 11 2) m → topI (fun o => - seatsS T o) (T 11 2) f → K (jI m) (jI f) U) : ∀ (fu : Nat) (m f k : Int), 1 ≤ k → k ≤ T 11 2 → topI (seatsS T) k m → topI (fun o => - seatsS T o) k f → (T 11 2 - k).toNat < fu → w_X6_spreadOfSeats_L25 42 x1 post K fu (jI m) (jI f) (jI k) U := by
  have hn := I_n hI
  intro fu
  induction fu with
  | zero => intro m f k _ _ _ _ h; exact absurd h (Nat.not_lt_zero _)
  | succ fu ih =>
    intro m f k k0 k1 hm hff hf
    show b_X6_spreadOfSeats_L25 42 x1 post K (w_X6_spreadOfSeats_L25 42 x1 post K fu) (jI m) (jI f) (jI k) U
    unfold b_X6_spreadOfSeats_L25
    have m0 := hm.1
    have m1 := hm.2.1
    have f0 := hff.1
    have f1 := hff.2.1
    have bk := seatsS_b (T := T) k
    have bm := seatsS_b (T := T) m
    have bf := seatsS_b (T := T) f
    refine x_X6_officials hC hI h2 (eo := rfl) (br_le (T 11 2) k rfl rfl ⟨by omega, by omega⟩ ⟨by omega, by omega⟩ (fun c => ?_) (fun c => ?_))
    · rw [show k = T 11 2 by omega] at hm hff
      exact hK m f hm hff
    have es : jI k + 1 = jI (k + 1) := jadd rfl rfl
    refine ⟨jvp k rfl (by omega) (by omega) (by decide), x_held hC hI h2 rfl k rfl (by omega) c ⟨jvp m rfl m0 (by omega) (by decide), x_held hC hI h2 rfl m rfl m0 (by omega) ?_⟩⟩
    have go : ∀ m2 : Int, topI (seatsS T) (k + 1) m2 → vp_in (jI f) 10 ∧ w_J6_bitCount_0f7a4 (uA U 42 7 (Int32.toNatClampNeg (jI f))) U (fun r_11 U_10 => (r_11 ≤ jI (seatsS T k) → ∀ (x3_12 : Int32), x3_12 = jI f → ∀ (x4_13 : Int32), x4_13 = jI k + 1 → w_X6_spreadOfSeats_L25 42 x1 post K fu (jI m2) x3_12 x4_13 U_10) ∧ (¬ r_11 ≤ jI (seatsS T k) → ∀ (x3_14 : Int32), x3_14 = jI k → ∀ (x4_15 : Int32), x4_15 = jI k + 1 → w_X6_spreadOfSeats_L25 42 x1 post K fu (jI m2) x3_14 x4_15 U_10)) := by
      intro m2 h2m
      refine ⟨jvp f rfl f0 (by omega) (by decide), x_held hC hI h2 rfl f rfl f0 (by omega) ?_⟩
      refine br_le (seatsS T f) (seatsS T k) rfl rfl ⟨by omega, by omega⟩ ⟨by omega, by omega⟩ (fun c2 x hx y hy => ?_) (fun c2 x hx y hy => ?_)
      · rw [hx, hy, es]
        exact ih m2 f (k + 1) (by omega) (by omega) h2m (topI_f hff (show - seatsS T k ≤ - seatsS T f by omega)) (by omega)
      · rw [hx, hy, es]
        exact ih m2 k (k + 1) (by omega) (by omega) h2m (topI_t hff (show - seatsS T f < - seatsS T k by omega)) (by omega)
    refine al_ifle (seatsS T k) (seatsS T m) rfl rfl ⟨by omega, by omega⟩ ⟨by omega, by omega⟩ m k rfl rfl (fun c2 => ?_) (fun c2 => ?_)
    · exact go m (topI_f hm c2)
    · exact go k (topI_t hm c2)
theorem x_spread {U : Um} {T : Tm} {w : Nat} (hC : CC U T w) (hI : I1 T) (h2 : I2 T) {ob : Nat} (eo : ob = 42) {a1 : Int32} {v : Int} (e1 : a1 = jI v) (rv : r32 v) {post : Int32 → Um → Prop} (h : post (jI (sprS T v)) U) : w_X6_spreadOfSeats ob a1 U post := by
  rw [eo, e1]
  have hn := I_n hI
  unfold w_X6_spreadOfSeats
  unfold sprS at h
  refine br_lt v 0 rfl rfl rv ⟨by omega, by omega⟩ (fun c => ?_) (fun c => ?_)
  · rw [cif_t (Or.inr (by omega))] at h
    exact h
  refine br_lt 2 v rfl rfl ⟨by omega, by omega⟩ rv (fun c2 => ?_) (fun c2 => ?_)
  · rw [cif_t (Or.inr (by omega))] at h
    exact h
  refine x_X6_officials hC hI h2 (eo := rfl) (br_eq (T 11 2) 0 rfl rfl ⟨by omega, by omega⟩ ⟨by omega, by omega⟩ (fun c3 => ?_) (fun c3 => ?_))
  · rw [cif_t (Or.inl c3)] at h
    exact h
  rw [cif_f (by omega)] at h
  refine ⟨(T 11 2 - 1).toNat + 1, xl_spread hC hI h2 (fun m f hm hf => ?_) _ 0 0 1 (by decide) (by omega) topI_1 topI_1 (Nat.lt_succ_self _)⟩
  have em : mostS T = m := topS_is hm
  have ef : fewS T = f := topS_is hf
  rw [em, ef] at h
  have m0 := hm.1
  have m1 := hm.2.1
  have f0 := hf.1
  have f1 := hf.2.1
  refine br_eq v 0 rfl rfl rv ⟨by omega, by omega⟩ (fun c4 => ?_) (fun c4 => ?_)
  · rw [cif_t c4] at h
    exact ⟨jvp m rfl m0 (by omega) (by decide), x_held hC hI h2 rfl m rfl m0 m1 ⟨jvp f rfl f0 (by omega) (by decide), x_held hC hI h2 rfl f rfl f0 f1 (pst (jsub rfl rfl) h)⟩⟩
  · rw [cif_f c4] at h
    refine br_eq v 1 rfl rfl rv ⟨by omega, by omega⟩ (fun c5 => ?_) (fun c5 => ?_)
    · rw [cif_t c5] at h
      exact h
    · rw [cif_f c5] at h
      exact h
theorem cnt_first {p : Int → Prop} {z i : Int} (z0 : 0 ≤ z) (e : cnt p z = i) : ∀ j, 0 ≤ j → j < z → ¬ (p j ∧ cnt p j = i) := by
  intro j j0 j1 q
  have m : ∀ k, 0 ≤ k → cnt p (j + 1) ≤ cnt p (j + 1 + k) := fun k k0 => by
    refine cnt_ind (P := fun k => cnt p (j + 1) ≤ cnt p (j + 1 + k)) k k0 (by rw [Int.add_zero]; exact Int.le_refl _) (fun k k0 _ ih => ?_)
    rw [show j + 1 + (k + 1) = j + 1 + k + 1 by omega, cnt_s (n := j + 1 + k) (by omega)]
    by_cases c : p (j + 1 + k)
    · rw [cif_t c]; omega
    · rw [cif_f c]; omega
  have a := m (z - (j + 1)) (by omega)
  rw [show j + 1 + (z - (j + 1)) = z by omega, cnt_t j0 q.1] at a
  omega
theorem uns_no {T : Tm} {k : Int} (h : T 30 k = -1) : ¬ unsP T k := fun q => q.1 h
theorem xl_uns18 {U : Um} {T : Tm} {w : Nat} (hC : CC U T w) (hI : I1 T) (h2 : I2 T) {i g : Int} (ri : r32 i) (g0 : 0 ≤ g) (g1 : g < T 11 3) {post K : Int32 → Um → Prop} (hR : ∀ z : Int, 0 ≤ z → z < 48 → unsP T z → cnt (unsP T) z = i → post (jI z) U) (hK : (∀ j, 3 * g ≤ j → j < 3 * g + 3 → ¬ (unsP T j ∧ cnt (unsP T) j = i)) → K (jI (cnt (unsP T) (3 * (g + 1)))) U) : ∀ (fu : Nat) (s : Int), 0 ≤ s → s ≤ gm T g 7 → (∀ j, 3 * g ≤ j → j < 3 * g + s → ¬ (unsP T j ∧ cnt (unsP T) j = i)) → (gm T g 7 - s).toNat < fu → w_X6_unsoundPlace_L18 42 (jI i) (jI g) post K fu (jI (cnt (unsP T) (3 * g + s))) (jI s) U := by
  have hn := I_n hI
  have hw := hC.1.1
  have hg := I_g hI g g0 g1
  unfold gOk at hg
  have q0 := r_42 hC (x := 42) rfl
  have qg := r_g hC q0 (E := jI g) g rfl g0 (by omega)
  intro fu
  induction fu with
  | zero => intro s _ _ _ h; exact absurd h (Nat.not_lt_zero _)
  | succ fu ih =>
    intro s s0 s1 hj hf
    show b_X6_unsoundPlace_L18 42 (jI i) (jI g) post K (w_X6_unsoundPlace_L18 42 (jI i) (jI g) post K fu) (jI (cnt (unsP T) (3 * g + s))) (jI s) U
    unfold b_X6_unsoundPlace_L18
    refine ⟨oc_of q0 (oc_w hw), jvp g rfl g0 (by omega) (by decide), oc_of qg (oc_g hw (by omega)), ?_⟩
    refine br_le (gm T g 7) s (c_g hC qg 7 g0 g1 (by decide)) rfl ⟨by omega, by omega⟩ ⟨by omega, by omega⟩ (fun c => ?_) (fun c => ?_)
    · have none : ∀ j, 3 * g + s ≤ j → j < 3 * g + 3 → ¬ unsP T j := fun j a b q => by
        have z := at_seat (s := j - 3 * g) h2 g0 (by omega) (by omega) (by omega) q.1 (by rw [show 3 * g + (j - 3 * g) = j by omega])
        omega
      rw [← cnt_x (n := 3 * g + s) (m := 3 * (g + 1)) (by omega) (by omega) (fun j a b => none j a (by omega))]
      exact hK (fun j a b q => by
        by_cases z : j < 3 * g + s
        · exact hj j a z q
        · exact none j (by omega) b q.1)
    have es : jI s + 1 = jI (s + 1) := jadd rfl rfl
    have ik := I_k h2 (3 * g + s) (by omega) (by omega)
    have cb := cnt_b (p := unsP T) (n := 3 * g + s) (by omega)
    have pass : ¬ unsP T (3 * g + s) → ∀ y : Int32, y = jI s + 1 → w_X6_unsoundPlace_L18 42 (jI i) (jI g) post K fu (jI (cnt (unsP T) (3 * g + s))) y U := fun q y hy => by
      rw [hy, es, ← cnt_f (by omega) q, show 3 * g + s + 1 = 3 * g + (s + 1) by omega]
      refine ih (s + 1) (by omega) (by omega) (fun j a b z => ?_) (by omega)
      by_cases y : j = 3 * g + s
      · rw [y] at z
        exact q z.1
      · exact hj j a (by omega) z
    refine x_X9_placeOf (g := g) (s := s) rfl rfl ⟨jvp (3 * g + s) rfl (by omega) (by omega) (by decide), al_i (T 30 (3 * g + s)) (c_h hC rfl (3 * g + s) rfl (by omega) (by omega)) ?_⟩
    refine br_eq (T 30 (3 * g + s)) (-1) rfl rfl ⟨by omega, by omega⟩ ⟨by omega, by omega⟩ (fun c1 => pass (uns_no c1)) (fun c1 => ?_)
    have es2 : unsP T (3 * g + s) ↔ ¬ hind T (woG T (T 30 (3 * g + s)) g) g s (T 30 (3 * g + s)) = 0 := by
      unfold unsP soundS
      rw [show (3 * g + s) / 3 = g by omega, show (3 * g + s) % 3 = s by omega]
      exact ⟨fun q => q.2, fun q => ⟨c1, q⟩⟩
    have hb := hind_bb T (woG T (T 30 (3 * g + s)) g) g s (T 30 (3 * g + s))
    refine ⟨jvp (T 30 (3 * g + s)) rfl (by omega) (by omega) (by decide), x_hind hC hI h2 rfl rfl rfl rfl (P := woG T (T 30 (3 * g + s)) g) (fun k k0 k1 => ?_) g0 g1 ⟨by omega, by omega⟩ (by omega) (by omega) ?_⟩
    · rw [bt_del rfl g0 (by omega) k0 k1, c_he hI hC rfl (T 30 (3 * g + s)) rfl (by omega) (by omega) k k0 k1]
      exact ⟨fun q => ⟨q.1.1, q.1.2, q.2⟩, fun q => ⟨⟨q.1, q.2.1⟩, q.2.2⟩⟩
    refine br_eq (hind T (woG T (T 30 (3 * g + s)) g) g s (T 30 (3 * g + s))) 0 rfl rfl ⟨by omega, by omega⟩ ⟨by omega, by omega⟩ (fun c2 => pass (fun q => es2.mp q c2)) (fun c2 => ?_)
    have yes := es2.mpr c2
    refine br_eq (cnt (unsP T) (3 * g + s)) i rfl rfl ⟨by omega, by omega⟩ ri (fun c3 => ?_) (fun c3 => ?_)
    · exact hR (3 * g + s) (by omega) (by omega) yes c3
    · refine al_i (cnt (unsP T) (3 * g + (s + 1))) (by rw [show 3 * g + (s + 1) = 3 * g + s + 1 by omega, cnt_t (by omega) yes]; exact jadd rfl rfl) (fun y hy => ?_)
      rw [hy, es]
      refine ih (s + 1) (by omega) (by omega) (fun j a b z => ?_) (by omega)
      by_cases y : j = 3 * g + s
      · rw [y] at z
        exact c3 z.2
      · exact hj j a (by omega) z
theorem xl_uns4 {U : Um} {T : Tm} {w : Nat} (hC : CC U T w) (hI : I1 T) (h2 : I2 T) {i : Int} (ri : r32 i) {post K : Int32 → Um → Prop} (hR : ∀ z : Int, 0 ≤ z → z < 48 → unsP T z → cnt (unsP T) z = i → post (jI z) U) (hK : (∀ j, 0 ≤ j → j < 48 → ¬ (unsP T j ∧ cnt (unsP T) j = i)) → K (jI (cnt (unsP T) 48)) U) : ∀ (fu : Nat) (g : Int), 0 ≤ g → g ≤ T 11 3 → (∀ j, 0 ≤ j → j < 3 * g → ¬ (unsP T j ∧ cnt (unsP T) j = i)) → (T 11 3 - g).toNat < fu → w_X6_unsoundPlace_L4 42 (jI i) post K fu (jI (cnt (unsP T) (3 * g))) (jI g) U := by
  have hn := I_n hI
  have hw := hC.1.1
  have q0 := r_42 hC (x := 42) rfl
  intro fu
  induction fu with
  | zero => intro g _ _ _ h; exact absurd h (Nat.not_lt_zero _)
  | succ fu ih =>
    intro g g0 g1 hj hf
    show b_X6_unsoundPlace_L4 42 (jI i) post K (w_X6_unsoundPlace_L4 42 (jI i) post K fu) (jI (cnt (unsP T) (3 * g))) (jI g) U
    unfold b_X6_unsoundPlace_L4
    refine ⟨oc_of q0 (oc_w hw), br_le (T 11 3) g (c_n7 hC q0) rfl ⟨by omega, by omega⟩ ⟨by omega, by omega⟩ (fun c => ?_) (fun c => ?_)⟩
    · have none : ∀ j, 3 * g ≤ j → j < 48 → ¬ unsP T j := fun j a b q => by
        rcases h2.1 j (by omega) b with z | z
        · exact q.1 z
        · omega
      rw [← cnt_x (n := 3 * g) (m := 48) (by omega) (by omega) none]
      exact hK (fun j a b q => by
        by_cases z : j < 3 * g
        · exact hj j a z q
        · exact none j (by omega) b q.1)
    · have h0 : cnt (unsP T) (3 * g) = cnt (unsP T) (3 * g + 0) := by rw [Int.add_zero]
      have hg := I_g hI g g0 c
      unfold gOk at hg
      rw [h0]
      refine ⟨(gm T g 7 - 0).toNat + 1, xl_uns18 hC hI h2 ri g0 c ?_ (fun hn2 y hy => ?_) _ 0 (by decide) (by omega) (fun j a b => by omega) (Nat.lt_succ_self _)⟩
      · exact hR
      · rw [hy, show jI g + 1 = jI (g + 1) from jadd rfl rfl]
        refine ih (g + 1) (by omega) (by omega) (fun j a b q => ?_) (by omega)
        by_cases z : j < 3 * g
        · exact hj j a z q
        · exact hn2 j (by omega) (by omega) q
theorem x_unsound {U : Um} {T : Tm} {w : Nat} (hC : CC U T w) (hI : I1 T) (h2 : I2 T) {ob : Nat} (eo : ob = 42) {a1 : Int32} {i : Int} (e1 : a1 = jI i) (ri : r32 i) {post : Int32 → Um → Prop} (h : post (jI (unsS T i)) U) : w_X6_unsoundPlace ob a1 U post := by
  rw [eo, e1]
  have hn := I_n hI
  unfold w_X6_unsoundPlace
  unfold unsS at h
  refine ⟨(T 11 3 - 0).toNat + 1, xl_uns4 hC hI h2 ri (fun z z0 z1 hz hc => ?_) (fun hj => ?_) _ 0 (by decide) (by omega) (fun j a b => by omega) (Nat.lt_succ_self _)⟩
  · have cb := cnt_b (p := unsP T) z0
    rw [cif_f (by omega), fst_is z0 z1 ⟨hz, hc⟩ (cnt_first z0 hc)] at h
    exact h
  · refine br_eq i (-1) rfl rfl ri ⟨by omega, by omega⟩ (fun c => ?_) (fun c => ?_)
    · rw [cif_t c] at h
      exact h
    · rw [cif_f c, fst_no (by decide) hj] at h
      exact h
