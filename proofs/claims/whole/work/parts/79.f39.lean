/-! the same, when only the order of games is written -/
def f39 (U U2 : Um) : Prop := fM U U2 ∧ (∀ k, uI U2 55 k = uI U 55 k) ∧ ∀ k, k ≠ 39 → uA U2 55 k = uA U 55 k
theorem f39_rfl {U : Um} : f39 U U := ⟨fM_rfl, fun _ => rfl, fun _ _ => rfl⟩
theorem f39_trans {U V Wm : Um} (h : f39 U V) (h2 : f39 V Wm) : f39 U Wm := ⟨fM_trans h.1 h2.1, fun k => (h2.2.1 k).trans (h.2.1 k), fun k hk => (h2.2.2 k hk).trans (h.2.2 k hk)⟩
theorem f39_sA {U : Um} {f : Nat → Int32} : f39 U (sA U 55 39 f) := ⟨fM_sA, fun _ => rfl, fun k hk => by rw [uA_sA, if_neg (fun q => hk q.2)]⟩
theorem l2_lays58 {T : Tm} (hI : I1 T) (h2 : I2 T) {g : Int} (g0 : 0 ≤ g) (g1 : g < T 11 3) {l : List Int} (hl : ∀ x ∈ l, 0 ≤ x ∧ x < T 11 3) (hs : srt T l) (hlen : l.length ≤ 15) {x1 x2 x3 x4 x5 : Int32} {post : Int32 → Um → Prop} {k_109 : Int32 → Um → Prop} {U0 : Um} (hk : ∀ (k : Nat) (U : Um), M U T → f39 U0 U → k ≤ l.length → rowIs (va_up (uA U 55 39) k (jI g)) (insL T g l) → k_109 (jI (k : Int)) U) : ∀ (fu k : Nat) (U : Um), M U T → f39 U0 U → k ≤ l.length → (∀ j, j < k → uA U 55 39 j = jI (l.getD j 0)) → (∀ j, k ≤ j → j < l.length → uA U 55 39 (j + 1) = jI (l.getD j 0) ∧ gm T g 4 < gm T (l.getD j 0) 4) → k < fu → w_X12_laysDay_L58 55 x1 x2 x3 x4 x5 (jI g) post k_109 fu (jI (k : Int)) U := by
  intro fu
  have hn := I_n hI
  induction fu with
  | zero => intro k U hM hF h3 h4 h5 h6; exact absurd h6 (Nat.not_lt_zero _)
  | succ fu ih =>
    intro k U hM hF h3 h4 h5 h6
    show b_X12_laysDay_L58 55 x1 x2 x3 x4 x5 (jI g) post k_109 (w_X12_laysDay_L58 55 x1 x2 x3 x4 x5 (jI g) post k_109 fu) (jI (k : Int)) U
    unfold b_X12_laysDay_L58
    have fin : (∀ j, j < k → gm T (l.getD j 0) 4 ≤ gm T g 4) → k_109 (jI (k : Int)) U := by
      intro c
      refine hk k U hM hF h3 (fun j hj => ?_)
      rw [insL_len] at hj
      rw [insL_at h3 c (fun j a b => (h5 j a b).2), getD_ins h3]
      unfold va_up
      by_cases q : j = k
      · rw [if_pos q, if_neg (by omega), if_pos q]
      · rw [if_neg q, if_neg q]
        by_cases q2 : j < k
        · rw [if_pos q2]
          exact h4 j q2
        · rw [if_neg q2]
          have := (h5 (j - 1) (by omega) (by omega)).1
          rw [show j - 1 + 1 = j by omega] at this
          exact this
    refine br_le (k : Int) 0 rfl rfl ⟨by omega, by omega⟩ ⟨by omega, by omega⟩ (fun c => fin (fun j hj => by omega)) (fun c => ?_)
    refine ⟨jvp ((k : Int) - 1) (jsub rfl rfl) (by omega) (by omega) (by decide), ?_⟩
    have hm : l.getD (k - 1) 0 ∈ l := by
      rw [List.getD_eq_getElem?_getD, List.getElem?_eq_getElem (by omega)]
      exact List.getElem_mem _
    have hb := hl _ hm
    have f1 := I_g hI (l.getD (k - 1) 0) hb.1 hb.2
    have f2 := I_g hI g g0 g1
    unfold gOk at f1 f2
    refine s_X12_of hM hI h2 (g := l.getD (k - 1) 0) (k := 4) (by rw [rd_sub1 (by omega) (by omega)]; exact h4 (k - 1) (by omega)) rfl (by omega) (by omega) (by omega) (by omega) ?_
    refine s_X12_of hM hI h2 (g := g) (k := 4) rfl rfl (by omega) (by omega) (by omega) (by omega) ?_
    refine br_le (gm T (l.getD (k - 1) 0) 4) (gm T g 4) rfl rfl ⟨by omega, by omega⟩ ⟨by omega, by omega⟩ (fun c2 => fin (fun j hj => ?_)) (fun c2 => ?_)
    · have := srt_getD hs (i := j) (j := k - 1) (by omega) (by omega)
      omega
    refine ⟨jvp ((k : Int) - 1) (jsub rfl rfl) (by omega) (by omega) (by decide), ?_⟩
    refine ⟨jvp (k : Int) rfl (by omega) (by omega) (by decide), ?_⟩
    intro V hV
    refine al_i ((k : Int) - 1) (jadd rfl rfl) ?_
    rw [show (k : Int) - 1 = ((k - 1 : Nat) : Int) by omega]
    have e : ∀ j, uA V 55 39 j = if j = k then uA U 55 39 (k - 1) else uA U 55 39 j := by
      intro j
      rw [hV, uA_sA, if_pos ⟨rfl, rfl⟩]
      unfold va_up
      rw [rd_sub1 (by omega) (by omega), rd_nat (by omega)]
    refine ih (k - 1) V (by rw [hV]; exact M_xA hM) (by rw [hV]; exact f39_trans hF f39_sA) (by omega) (fun j hj => ?_) (fun j hj hj2 => ?_) (by omega)
    · rw [e, if_neg (by omega)]
      exact h4 j (by omega)
    · rw [e]
      by_cases q : j + 1 = k
      · rw [if_pos q, show j = k - 1 by omega]
        exact ⟨h4 (k - 1) (by omega), c2⟩
      · rw [if_neg q]
        exact h5 j (by omega) hj2
theorem l2_lays6 {T : Tm} (hI : I1 T) (h2 : I2 T) {o day less more : Int} (ho : r32 o) (hd : r32 day) (hle : r32 less) (hmo : r32 more) {post : Int32 → Um → Prop} {k_127 : Int32 → Um → Prop} {U0 : Um} (hk : ∀ U : Um, M U T → f39 U0 U → rowIs (uA U 55 39) (dayI T (dayP T o day less more) (T 11 3)) → k_127 (jI (cnt (dayP T o day less more) (T 11 3))) U) : ∀ (fu : Nat) (g : Int) (U : Um), M U T → f39 U0 U → 0 ≤ g → g ≤ T 11 3 → rowIs (uA U 55 39) (dayI T (dayP T o day less more) g) → (T 11 3 - g).toNat < fu → w_X12_laysDay_L6 55 (jI o) (jI day) (jI less) (jI more) post k_127 fu (jI (cnt (dayP T o day less more) g)) (jI g) U := by
  intro fu
  have hn := I_n hI
  induction fu with
  | zero => intro g U hM hF h3 h4 h5 h6; exact absurd h6 (Nat.not_lt_zero _)
  | succ fu ih =>
    intro g U hM hF h3 h4 h5 h6
    show b_X12_laysDay_L6 55 (jI o) (jI day) (jI less) (jI more) post k_127 (w_X12_laysDay_L6 55 (jI o) (jI day) (jI less) (jI more) post k_127 fu) (jI (cnt (dayP T o day less more) g)) (jI g) U
    unfold b_X12_laysDay_L6
    have hcb := cnt_b (p := dayP T o day less more) h3
    refine ⟨jvp (3) rfl (by omega) (by omega) (by decide), ?_⟩
    refine br_le (T 11 3) g (rdA (M_A hM 11 7) (3) rfl (by omega) (by omega)) rfl ⟨by omega, by omega⟩ ⟨by omega, by omega⟩ (fun c => ?_) (fun c => ?_)
    · have e : T 11 3 = g := by omega
      rw [e] at hk
      exact hk U hM hF h5
    have f1 := I_g hI g h3 c
    unfold gOk at f1
    have skip : ¬ dayP T o day less more g → w_X12_laysDay_L6 55 (jI o) (jI day) (jI less) (jI more) post k_127 fu (jI (cnt (dayP T o day less more) g)) (jI (g + 1)) U := by
      intro q
      have := ih (g + 1) U hM hF (by omega) (by omega) (by rw [dayI_s h3, cif_f q]; exact h5) (by omega)
      rw [cnt_f h3 q] at this
      exact this
    refine s_X12_of hM hI h2 (g := g) (k := 3) rfl rfl (by omega) (by omega) (by omega) (by omega) ?_
    refine br_eq (gm T g 3) day rfl rfl ⟨by omega, by omega⟩ hd (fun c1 => ?_) (fun c1 => ?_)
    · refine br_eq g less rfl rfl ⟨by omega, by omega⟩ hle (fun c2 => ?_) (fun c2 => ?_)
      · refine al_i (g + 1) (jadd rfl rfl) ?_
        exact skip (fun q => q.2.1 c2)
      · intro K hK
        have go : dayP T o day less more g → K U := by
          intro q
          refine hK U ?_
          refine al_i (cnt (dayP T o day less more) g) rfl ?_
          have hle2 := dayI_len (T := T) (P := dayP T o day less more) h3
          have e2 : cnt (dayP T o day less more) g = ((dayI T (dayP T o day less more) g).length : Int) := hle2.symm
          refine ⟨(dayI T (dayP T o day less more) g).length + 1, ?_⟩
          rw [e2]
          refine l2_lays58 hI h2 h3 c (fun x hx => by have := (dayI_mem h3).mp hx; omega) (dayI_srt h3) (by omega) (U0 := U0) (fun k V hV hFV hkl hrow => ?_) _ _ U hM hF (Nat.le_refl _) h5 (fun j a b => absurd b (by omega)) (Nat.lt_succ_self _)
          refine ⟨jvp (k : Int) rfl (by omega) (by omega) (by decide), ?_⟩
          intro V2 hV2
          refine al_i (((dayI T (dayP T o day less more) g).length : Int) + 1) (jadd rfl rfl) ?_
          refine al_i (g + 1) (jadd rfl rfl) ?_
          have := ih (g + 1) V2 (by rw [hV2]; exact M_xA hV) (by rw [hV2]; exact f39_trans hFV f39_sA) (by omega) (by omega) (by rw [dayI_s h3, cif_t q, hV2, uA_sA, if_pos ⟨rfl, rfl⟩, rd_nat (by omega)]; exact hrow) (by omega)
          rw [cnt_t h3 q, e2] at this
          exact this
        refine br_eq g more rfl rfl ⟨by omega, by omega⟩ hmo (fun c3 => ?_) (fun c3 => ?_)
        · exact go ⟨c1, c2, Or.inl c3⟩
        · refine s_X12_isInGame hM hI h2 (o := o) (g := g) rfl rfl h3 c ho (fun c4 => ?_) (fun c4 => ?_)
          · refine br_1 ?_
            exact go ⟨c1, c2, Or.inr c4⟩
          · refine br_0 ?_
            refine al_i (g + 1) (jadd rfl rfl) ?_
            exact skip (fun q => q.2.2.elim c3 c4)
    · refine al_i (g + 1) (jadd rfl rfl) ?_
      exact skip (fun q => c1 q.1)
theorem s2_X12_laysDay {U : Um} {T : Tm} (hM : M U T) (hI : I1 T) (h2 : I2 T) {a1 a2 a3 a4 : Int32} {o day less more : Int} (e1 : a1 = jI o) (e2 : a2 = jI day) (e3 : a3 = jI less) (e4 : a4 = jI more) (p0 : r32 o) (p1 : r32 day) (p2 : r32 less) (p3 : r32 more) {post : Int32 → Um → Prop} (h : ∀ U2 : Um, M U2 T → f39 U U2 → rowIs (uA U2 55 39) (dayI T (dayP T o day less more) (T 11 3)) → post (jI (cnt (dayP T o day less more) (T 11 3))) U2) : w_X12_laysDay 55 a1 a2 a3 a4 U post := by
  unfold w_X12_laysDay
  subst e1; subst e2; subst e3; subst e4
  have hn := I_n hI
  refine ⟨(T 11 3 - 0 : Int).toNat + 1, ?_⟩
  have := l2_lays6 hI h2 p0 p1 p2 p3 (post := post) (k_127 := fun x5_23 U_24 => post x5_23 U_24) (U0 := U) h ((T 11 3 - 0 : Int).toNat + 1) 0 U hM f39_rfl (Int.le_refl 0) (by omega) (fun j hj => absurd hj (by simp [dayI_0])) (by omega)
  rw [cnt_0 (Int.le_refl 0)] at this
  exact this

theorem s2_lays {U : Um} {T : Tm} (hM : M U T) (hI : I1 T) (h2 : I2 T) {a1 a2 a3 a4 : Int32} {o day less more : Int} (e1 : a1 = jI o) (e2 : a2 = jI day) (e3 : a3 = jI less) (e4 : a4 = jI more) (p0 : r32 o) (p1 : r32 day) (p2 : r32 less) (p3 : r32 more) {post : Int32 → Um → Prop} (h : ∀ U2 : Um, M U2 T → f39 U U2 → rowIs (uA U2 55 39) (dayF T o day less more) → post (jI (dayC T o day less more)) U2) : w_X12_laysDay 55 a1 a2 a3 a4 U post := s2_X12_laysDay hM hI h2 e1 e2 e3 e4 p0 p1 p2 p3 h
set_option maxHeartbeats 8000000 in
theorem s2_X12_roundOf {U : Um} {T : Tm} (hM : M U T) (hI : I1 T) (h2 : I2 T) {a1 : Int32} {o : Int} {a2 : Int32} {day : Int} {a3 : Int32} {less : Int} {a4 : Int32} {more : Int} (e_a1 : a1 = jI o) (e_a2 : a2 = jI day) (e_a3 : a3 = jI less) (e_a4 : a4 = jI more) (p0 : 0 ≤ o) (p1 : o < T 11 2) (p2 : r32 day) (p3 : r32 less) (p4 : r32 more) {post : Int32 → Um → Prop} (h : ∀ U2 : Um, M U2 T → f39 U U2 → post (jI (rndS T o day less more)) U2) : w_X12_roundOf 55 a1 a2 a3 a4 U post := by
  unfold w_X12_roundOf
  subst e_a1
  subst e_a2
  subst e_a3
  subst e_a4
  have hn := I_n hI
  refine s2_lays hM hI h2 (o := o) (day := day) (less := less) (more := more) (by exact rfl) (by exact rfl) (by exact rfl) (by exact rfl) (by omega) (by omega) (by omega) (by omega) (fun V1 m2 g3 x5 => ?_)
  have fr4 := f39_trans f39_rfl g3
  have f6 := dayC_b hI (o) (day) (less) (more)
  refine ⟨jvp (o) rfl (by omega) (by omega) (by decide), ?_⟩
  have f7 := I_o hI (o) (by omega) (by omega)
  unfold r32 at f7
  refine al_i ((T 6 (o))) (rdA (M_A m2 6 10) (o) rfl (by omega) (by omega)) ?_
  refine ⟨((dayC T o day less more) - 0 : Int).toNat + 1, l_X12_roundOf_L25 m2 hI h2 (o := o) (n := dayC T o day less more) (l := dayF T o day less more) (h := T 6 o) (R := rndS T o day less more) (by exact rfl) (by exact rfl) (by assumption) (by omega) (by omega) (by exact dayF_g hI) (fun y8 y9 c10 c11 c12 => ?_)  _ ((T 6 (o))) (0) (0) (by omega) (by omega) (by omega) (by omega) (by (rw [Int.zero_add]; rfl)) (by omega)⟩
  · skip
    refine ⟨jvp (o) rfl (by omega) (by omega) (by decide), ?_⟩
    refine s_X12_step m2 hI h2 (a := y8) (b := (T 6 (o))) (by exact rfl) (by exact (rdA (M_A m2 6 10) (o) rfl (by omega) (by omega))) (by omega) (by omega) (by omega) (by omega) ?_
    have f16 := stepS_b hI (y8) (((T 6 (o)))) (by omega) (by omega) (by omega) (by omega)
    have q : (rndS T o day less more : Int) = (y9 + stepS T y8 ((T 6 (o)))) := by omega
    have h := h _ m2 fr4
    rw [q] at h
    exact pst (jadd rfl rfl) h
set_option maxHeartbeats 8000000 in
theorem s2_X12_extraOf {U : Um} {T : Tm} (hM : M U T) (hI : I1 T) (h2 : I2 T) {a1 : Int32} {g : Int} {a2 : Int32} {s : Int} {a3 : Int32} {o : Int} (e_a1 : a1 = jI g) (e_a2 : a2 = jI s) (e_a3 : a3 = jI o) (p0 : 0 ≤ g) (p1 : g < T 11 3) (p2 : 0 ≤ s) (p3 : s < gm T g 7) (p4 : 0 ≤ o) (p5 : o < T 11 2) {post : Int32 → Um → Prop} (h : ∀ U2 : Um, M U2 T → f39 U U2 → post (jI (extS T g s o)) U2) : w_X12_extraOf 55 a1 a2 a3 U post := by
  unfold w_X12_extraOf
  subst e_a1
  subst e_a2
  subst e_a3
  have hn := I_n hI
  have f1 := I_g hI (g) (by omega) (by omega)
  unfold gOk at f1
  refine s_X12_of hM hI h2 (g := g) (k := 3) (by exact rfl) (by exact rfl) (by omega) (by omega) (by omega) (by omega) ?_
  refine s2_X12_roundOf hM hI h2 (o := o) (day := gm T g 3) (less := (-1)) (more := (-1)) (by exact rfl) (by exact rfl) (by exact rfl) (by exact rfl) (by omega) (by omega) (by omega) (by omega) (by omega) (fun V2 m3 g4  => ?_)
  have fr5 := f39_trans f39_rfl g4
  have f6 := rndS_b hI (o) ((gm T g 3)) (((-1))) (((-1))) (by omega) (by omega)
  refine s_X12_at (g := g) (s := s) (by exact rfl) (by exact rfl)  ?_
  refine ⟨jvp ((3 * g + s)) rfl (by omega) (by omega) (by decide), ?_⟩
  have f7 := I_k h2 ((3 * g + s)) (by omega) (by omega)
  refine br_eq ((T 30 ((3 * g + s)))) (o) (rdA (M_A m3 30 48) ((3 * g + s)) rfl (by omega) (by omega)) rfl ⟨by omega, by omega⟩ ⟨by omega, by omega⟩ (fun c8 => ?_) (fun c8 => ?_)
  · skip
    refine s2_X12_roundOf m3 hI h2 (o := o) (day := gm T g 3) (less := g) (more := (-1)) (by exact rfl) (by exact rfl) (by exact rfl) (by exact rfl) (by omega) (by omega) (by omega) (by omega) (by omega) (fun V9 m10 g11  => ?_)
    have fr12 := f39_trans fr5 g11
    have f13 := rndS_b hI (o) ((gm T g 3)) (g) (((-1))) (by omega) (by omega)
    have q : (extS T g s o : Int) = (rndS T o (gm T g 3) ((-1)) ((-1)) - rndS T o (gm T g 3) g ((-1))) := by (unfold extS; (repeat (first | rw [cif_t (by first | assumption | omega)] | rw [cif_f (by first | assumption | omega)] | rw [cif_t (by grind)] | rw [cif_f (by grind)])))
    have h := h _ m10 fr12
    rw [q] at h
    exact pst (jsub rfl rfl) h
  · skip
    refine s2_X12_roundOf m3 hI h2 (o := o) (day := gm T g 3) (less := (-1)) (more := g) (by exact rfl) (by exact rfl) (by exact rfl) (by exact rfl) (by omega) (by omega) (by omega) (by omega) (by omega) (fun V14 m15 g16  => ?_)
    have fr17 := f39_trans fr5 g16
    have f18 := rndS_b hI (o) ((gm T g 3)) (((-1))) (g) (by omega) (by omega)
    have q : (extS T g s o : Int) = (rndS T o (gm T g 3) ((-1)) g - rndS T o (gm T g 3) ((-1)) ((-1))) := by (unfold extS; (repeat (first | rw [cif_t (by first | assumption | omega)] | rw [cif_f (by first | assumption | omega)] | rw [cif_t (by grind)] | rw [cif_f (by grind)])))
    have h := h _ m15 fr17
    rw [q] at h
    exact pst (jsub rfl rfl) h
