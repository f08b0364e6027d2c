/-! the reference lays the games of a day in their order -/
def rowIs (f : Nat → Int32) (l : List Int) : Prop := ∀ j, j < l.length → f j = jI (l.getD j 0)
theorem rd_sub1 {k : Nat} (h : 0 < k) (h1 : k < 1000) : Int32.toNatClampNeg (jI (k : Int) - 1) = k - 1 := by
  rw [show jI (k : Int) - 1 = jI ((k : Int) - 1) from jsub rfl rfl, jI_nat (by omega) (by omega)]
  omega
theorem rd_nat {k : Nat} (h1 : k < 1000) : Int32.toNatClampNeg (jI (k : Int)) = k := by
  rw [jI_nat (by omega) (by omega)]
  exact Int.toNat_natCast k
theorem l_lays58 {T : Tm} (hI : I1 T) (h2 : I2 T) {g : Int} (g0 : 0 ≤ g) (g1 : g < T 11 3) {l : List Int} (hl : ∀ x ∈ l, 0 ≤ x ∧ x < T 11 3) (hs : srt T l) (hlen : l.length ≤ 15) {x1 x2 x3 x4 x5 : Int32} {post : Int32 → Um → Prop} {k_109 : Int32 → Um → Prop} {U0 : Um} (hk : ∀ (k : Nat) (U : Um), M U T → fM U0 U → k ≤ l.length → rowIs (va_up (uA U 55 39) k (jI g)) (insL T g l) → k_109 (jI (k : Int)) U) : ∀ (fu k : Nat) (U : Um), M U T → fM U0 U → k ≤ l.length → (∀ j, j < k → uA U 55 39 j = jI (l.getD j 0)) → (∀ j, k ≤ j → j < l.length → uA U 55 39 (j + 1) = jI (l.getD j 0) ∧ gm T g 4 < gm T (l.getD j 0) 4) → k < fu → w_X12_laysDay_L58 55 x1 x2 x3 x4 x5 (jI g) post k_109 fu (jI (k : Int)) U := by
  intro fu
  have hn := I_n hI
  induction fu with
  | zero => intro k U hM hF h3 h4 h5 h6; exact absurd h6 (Nat.not_lt_zero _)
  | succ fu ih =>
    intro k U hM hF h3 h4 h5 h6
    show b_X12_laysDay_L58 55 x1 x2 x3 x4 x5 (jI g) post k_109 (w_X12_laysDay_L58 55 x1 x2 x3 x4 x5 (jI g) post k_109 fu) (jI (k : Int)) U
    unfold b_X12_laysDay_L58
    have fin : (∀ j, j < k → gm T (l.getD j 0) 4 ≤ gm T g 4) → k_109 (jI (k : Int)) U := by
      intro c
      refine hk k U hM hF h3 (fun j hj => ?_)
      rw [insL_len] at hj
      rw [insL_at h3 c (fun j a b => (h5 j a b).2), getD_ins h3]
      unfold va_up
      by_cases q : j = k
      · rw [if_pos q, if_neg (by omega), if_pos q]
      · rw [if_neg q, if_neg q]
        by_cases q2 : j < k
        · rw [if_pos q2]
          exact h4 j q2
        · rw [if_neg q2]
          have := (h5 (j - 1) (by omega) (by omega)).1
          rw [show j - 1 + 1 = j by omega] at this
          exact this
    refine br_le (k : Int) 0 rfl rfl ⟨by omega, by omega⟩ ⟨by omega, by omega⟩ (fun c => fin (fun j hj => by omega)) (fun c => ?_)
    refine ⟨jvp ((k : Int) - 1) (jsub rfl rfl) (by omega) (by omega) (by decide), ?_⟩
    have hm : l.getD (k - 1) 0 ∈ l := by
      rw [List.getD_eq_getElem?_getD, List.getElem?_eq_getElem (by omega)]
      exact List.getElem_mem _
    have hb := hl _ hm
    have f1 := I_g hI (l.getD (k - 1) 0) hb.1 hb.2
    have f2 := I_g hI g g0 g1
    unfold gOk at f1 f2
    refine s_X12_of hM hI h2 (g := l.getD (k - 1) 0) (k := 4) (by rw [rd_sub1 (by omega) (by omega)]; exact h4 (k - 1) (by omega)) rfl (by omega) (by omega) (by omega) (by omega) ?_
    refine s_X12_of hM hI h2 (g := g) (k := 4) rfl rfl (by omega) (by omega) (by omega) (by omega) ?_
    refine br_le (gm T (l.getD (k - 1) 0) 4) (gm T g 4) rfl rfl ⟨by omega, by omega⟩ ⟨by omega, by omega⟩ (fun c2 => fin (fun j hj => ?_)) (fun c2 => ?_)
    · have := srt_getD hs (i := j) (j := k - 1) (by omega) (by omega)
      omega
    refine ⟨jvp ((k : Int) - 1) (jsub rfl rfl) (by omega) (by omega) (by decide), ?_⟩
    refine ⟨jvp (k : Int) rfl (by omega) (by omega) (by decide), ?_⟩
    intro V hV
    refine al_i ((k : Int) - 1) (jadd rfl rfl) ?_
    rw [show (k : Int) - 1 = ((k - 1 : Nat) : Int) by omega]
    have e : ∀ j, uA V 55 39 j = if j = k then uA U 55 39 (k - 1) else uA U 55 39 j := by
      intro j
      rw [hV, uA_sA, if_pos ⟨rfl, rfl⟩]
      unfold va_up
      rw [rd_sub1 (by omega) (by omega), rd_nat (by omega)]
    refine ih (k - 1) V (by rw [hV]; exact M_xA hM) (by rw [hV]; exact fM_trans hF fM_sA) (by omega) (fun j hj => ?_) (fun j hj hj2 => ?_) (by omega)
    · rw [e, if_neg (by omega)]
      exact h4 j (by omega)
    · rw [e]
      by_cases q : j + 1 = k
      · rw [if_pos q, show j = k - 1 by omega]
        exact ⟨h4 (k - 1) (by omega), c2⟩
      · rw [if_neg q]
        exact h5 j (by omega) hj2
abbrev dayP (T : Tm) (o day less more g : Int) : Prop := gm T g 3 = day ∧ g ≠ less ∧ (g = more ∨ inGame T o g)
theorem l_lays6 {T : Tm} (hI : I1 T) (h2 : I2 T) {o day less more : Int} (ho : r32 o) (hd : r32 day) (hle : r32 less) (hmo : r32 more) {post : Int32 → Um → Prop} {k_127 : Int32 → Um → Prop} {U0 : Um} (hk : ∀ U : Um, M U T → fM U0 U → rowIs (uA U 55 39) (dayI T (dayP T o day less more) (T 11 3)) → k_127 (jI (cnt (dayP T o day less more) (T 11 3))) U) : ∀ (fu : Nat) (g : Int) (U : Um), M U T → fM U0 U → 0 ≤ g → g ≤ T 11 3 → rowIs (uA U 55 39) (dayI T (dayP T o day less more) g) → (T 11 3 - g).toNat < fu → w_X12_laysDay_L6 55 (jI o) (jI day) (jI less) (jI more) post k_127 fu (jI (cnt (dayP T o day less more) g)) (jI g) U := by
  intro fu
  have hn := I_n hI
  induction fu with
  | zero => intro g U hM hF h3 h4 h5 h6; exact absurd h6 (Nat.not_lt_zero _)
  | succ fu ih =>
    intro g U hM hF h3 h4 h5 h6
    show b_X12_laysDay_L6 55 (jI o) (jI day) (jI less) (jI more) post k_127 (w_X12_laysDay_L6 55 (jI o) (jI day) (jI less) (jI more) post k_127 fu) (jI (cnt (dayP T o day less more) g)) (jI g) U
    unfold b_X12_laysDay_L6
    have hcb := cnt_b (p := dayP T o day less more) h3
    refine ⟨jvp (3) rfl (by omega) (by omega) (by decide), ?_⟩
    refine br_le (T 11 3) g (rdA (M_A hM 11 7) (3) rfl (by omega) (by omega)) rfl ⟨by omega, by omega⟩ ⟨by omega, by omega⟩ (fun c => ?_) (fun c => ?_)
    · have e : T 11 3 = g := by omega
      rw [e] at hk
      exact hk U hM hF h5
    have f1 := I_g hI g h3 c
    unfold gOk at f1
    have skip : ¬ dayP T o day less more g → w_X12_laysDay_L6 55 (jI o) (jI day) (jI less) (jI more) post k_127 fu (jI (cnt (dayP T o day less more) g)) (jI (g + 1)) U := by
      intro q
      have := ih (g + 1) U hM hF (by omega) (by omega) (by rw [dayI_s h3, cif_f q]; exact h5) (by omega)
      rw [cnt_f h3 q] at this
      exact this
    refine s_X12_of hM hI h2 (g := g) (k := 3) rfl rfl (by omega) (by omega) (by omega) (by omega) ?_
    refine br_eq (gm T g 3) day rfl rfl ⟨by omega, by omega⟩ hd (fun c1 => ?_) (fun c1 => ?_)
    · refine br_eq g less rfl rfl ⟨by omega, by omega⟩ hle (fun c2 => ?_) (fun c2 => ?_)
      · refine al_i (g + 1) (jadd rfl rfl) ?_
        exact skip (fun q => q.2.1 c2)
      · intro K hK
        have go : dayP T o day less more g → K U := by
          intro q
          refine hK U ?_
          refine al_i (cnt (dayP T o day less more) g) rfl ?_
          have hle2 := dayI_len (T := T) (P := dayP T o day less more) h3
          have e2 : cnt (dayP T o day less more) g = ((dayI T (dayP T o day less more) g).length : Int) := hle2.symm
          refine ⟨(dayI T (dayP T o day less more) g).length + 1, ?_⟩
          rw [e2]
          refine l_lays58 hI h2 h3 c (fun x hx => by have := (dayI_mem h3).mp hx; omega) (dayI_srt h3) (by omega) (U0 := U0) (fun k V hV hFV hkl hrow => ?_) _ _ U hM hF (Nat.le_refl _) h5 (fun j a b => absurd b (by omega)) (Nat.lt_succ_self _)
          refine ⟨jvp (k : Int) rfl (by omega) (by omega) (by decide), ?_⟩
          intro V2 hV2
          refine al_i (((dayI T (dayP T o day less more) g).length : Int) + 1) (jadd rfl rfl) ?_
          refine al_i (g + 1) (jadd rfl rfl) ?_
          have := ih (g + 1) V2 (by rw [hV2]; exact M_xA hV) (by rw [hV2]; exact fM_trans hFV fM_sA) (by omega) (by omega) (by rw [dayI_s h3, cif_t q, hV2, uA_sA, if_pos ⟨rfl, rfl⟩, rd_nat (by omega)]; exact hrow) (by omega)
          rw [cnt_t h3 q, e2] at this
          exact this
        refine br_eq g more rfl rfl ⟨by omega, by omega⟩ hmo (fun c3 => ?_) (fun c3 => ?_)
        · exact go ⟨c1, c2, Or.inl c3⟩
        · refine s_X12_isInGame hM hI h2 (o := o) (g := g) rfl rfl h3 c ho (fun c4 => ?_) (fun c4 => ?_)
          · refine br_1 ?_
            exact go ⟨c1, c2, Or.inr c4⟩
          · refine br_0 ?_
            refine al_i (g + 1) (jadd rfl rfl) ?_
            exact skip (fun q => q.2.2.elim c3 c4)
    · refine al_i (g + 1) (jadd rfl rfl) ?_
      exact skip (fun q => c1 q.1)
theorem s_X12_laysDay {U : Um} {T : Tm} (hM : M U T) (hI : I1 T) (h2 : I2 T) {a1 a2 a3 a4 : Int32} {o day less more : Int} (e1 : a1 = jI o) (e2 : a2 = jI day) (e3 : a3 = jI less) (e4 : a4 = jI more) (p0 : r32 o) (p1 : r32 day) (p2 : r32 less) (p3 : r32 more) {post : Int32 → Um → Prop} (h : ∀ U2 : Um, M U2 T → fM U U2 → rowIs (uA U2 55 39) (dayI T (dayP T o day less more) (T 11 3)) → post (jI (cnt (dayP T o day less more) (T 11 3))) U2) : w_X12_laysDay 55 a1 a2 a3 a4 U post := by
  unfold w_X12_laysDay
  subst e1; subst e2; subst e3; subst e4
  have hn := I_n hI
  refine ⟨(T 11 3 - 0 : Int).toNat + 1, ?_⟩
  have := l_lays6 hI h2 p0 p1 p2 p3 (post := post) (k_127 := fun x5_23 U_24 => post x5_23 U_24) (U0 := U) h ((T 11 3 - 0 : Int).toNat + 1) 0 U hM fM_rfl (Int.le_refl 0) (by omega) (fun j hj => absurd hj (by simp [dayI_0])) (by omega)
  rw [cnt_0 (Int.le_refl 0)] at this
  exact this
