/-! the class: acts -/
abbrev P55 (o _ : Nat) : Prop := o < 55
theorem CC_T {U : Um} {T T2 : Tm} {w : Nat} (e : ∀ k, (k ≤ 14 ∨ (30 ≤ k ∧ k ≤ 35)) → T2 k = T k) (h : CC U T w) : CC U T2 w := by
  refine ⟨h.1, CW_c (fun k hk => e k (Or.inl hk)) h.2.1, ?_⟩
  have r := h.2.2
  unfold CR at r ⊢
  rw [e 35 (by omega), e 30 (by omega), e 31 (by omega), e 32 (by omega), e 33 (by omega), e 34 (by omega)]
  exact CRo_c (fun k hk => e k (Or.inl hk)) r
theorem keep_f {T : Tm} {k : Nat} (h : k ≠ 36 ∧ k ≠ 37 ∧ k ≠ 38) : keepT T k = T k := funext fun _ => keep_nf h
theorem PQ55 {o k : Nat} (h : PQ o k) : P55 o k := by
  show o < 55
  omega
/-- what was kept, from object a -/
theorem x_keptA {U : Um} {T : Tm} {w : Nat} (hC : CC U T w) (hR : CRs U T) (hI : I1 T) {a aa : Nat} (ea : aa = a) (ha : a = 42 ∨ a = 43) (hS : CRo U a T (T 35 0) (T 30) (T 31) (T 32) (T 33) (T 34)) {post : Um → Prop} (h : ∀ V : Um, CA V (keepT T) w → fX P55 U V → post V) : w_X11_keep 0 aa U post := by
  refine x_keep hC.1 hI hR.2.1 rfl ea ha hS (fun V fV pV => h V ⟨CC_T (fun k hk => keep_f (by omega)) (CC_x hI fV (fun o k q => by omega) hC), ?_, pV, ?_, ?_⟩ (fX_w (fun o k q => by show o < 55; omega) fV))
  · rw [(fV.2.2 42 9 (by omega)).2.2.1]
    exact hR.1
  · exact CTa_x fV (fun o k q => by omega) (keep_f (by decide)) (keep_f (by decide)) (keep_f (by decide)) (keep_f (by decide)) hR.2.2.1
  · exact CSa_x fV (fun o k q => by omega) (keep_f (by decide)) (keep_f (by decide)) (keep_f (by decide)) (keep_f (by decide)) hR.2.2.2
theorem x_kept {U : Um} {T : Tm} {w : Nat} (hA : CA U T w) (hI : I1 T) {aa : Nat} (ea : aa = 42) {post : Um → Prop} (h : ∀ V : Um, CA V (keepT T) w → fX P55 U V → post V) : w_X11_keep 0 aa U post := x_keptA hA.1 hA.2 hI ea (Or.inl rfl) hA.1.2.2 h
theorem CA_a {P : Nat → Nat → Prop} {U V : Um} {T T2 : Tm} {w : Nat} (h : CA U T w) (hf : fX P U V) (hP : ∀ o k, P o k → PQ o k) (e : eT T T2) (hC : CC V T2 w) : CA V T2 w := ⟨hC, CRs_x hf hP e h.2⟩
theorem f55 {P : Nat → Nat → Prop} {U V : Um} (hf : fX P U V) (hP : ∀ o k, P o k → PQ o k) : fX P55 U V := fX_w (fun o k q => PQ55 (hP o k q)) hf
theorem PS_Q {o k : Nat} (h : PS o k) : PQ o k := Or.inl ⟨h.1, by omega⟩
theorem PM_Q {o k : Nat} (h : PM o k) : PQ o k := Or.inl ⟨h.1, by omega⟩
theorem PD_Q {o k : Nat} (h : PD o k) : PQ o k := by omega
theorem PL_Q {o k : Nat} (h : PL o k) : PQ o k := by omega
theorem whyF_0 {T : Tm} {g s o : Int} (h : whyF T g s o = 0) : isSeat T g s ∧ isOne T o ∧ T 30 (3 * g + s) = -1 ∧ ¬ inGame T o g := by
  have a := whyF_seat (T := T) (g := g) (s := s) (o := o) (by omega)
  unfold whyF at h
  rw [cif_t a] at h
  by_cases c : gm T g 3 < T 35 0
  · rw [cif_t c] at h
    omega
  rw [cif_f c] at h
  exact ⟨a.1, a.2, whyS_0 h⟩
theorem x_X11_put {U : Um} {T : Tm} {w : Nat} (hA : CA U T w) (hI : I1 T) (h2 : I2 T) {a1 a2 a3 : Int32} {g s p : Int} (e1 : a1 = jI g) (e2 : a2 = jI s) (e3 : a3 = jI p) (rg : r32 g) (rs : r32 s) (rp : r32 p) {post : Int32 → Um → Prop} (h : ∀ V : Um, CA V (putT T g s p) w → fX P55 U V → post (jI (putR T g s p)) V) : w_X11_put 0 a1 a2 a3 U post := by
  have hn := I_n hI
  have hC := hA.1
  refine ⟨o_4 hC, x_reason hC hI h2 (r_04 hC) e1 e2 e3 rg rs rp ?_⟩
  have wb := whyF_b T g s p
  intro K hK
  have no : putR T g s p ≠ 0 → post (jI (putR T g s p)) U := fun c => by
    have := h U
    unfold putT at this
    rw [cif_f c] at this
    exact this hA fX_rfl
  have fin : ¬ (gm T g 3 = T 35 0 ∧ whyF T g s p ≠ 1 ∧ whyF T g s p ≠ 2) → K U := fun c => by
    have eR : putR T g s p = - whyF T g s p := by
      unfold putR
      by_cases c2 : whyF T g s p = 1 ∨ whyF T g s p = 2
      · rw [cif_t c2]
      · rw [cif_f c2, cif_f (fun q => c ⟨q, by omega, by omega⟩)]
    refine hK U (br_eq (whyF T g s p) 0 rfl rfl ⟨by omega, by omega⟩ ⟨by omega, by omega⟩ (fun c1 => ⟨o_4 hC, x_kept hA hI (r_04 hC) (fun V aV fV => ?_)⟩) (fun c1 => ?_))
    · obtain ⟨hs, ho, f1, f2⟩ := whyF_0 c1
      have i1 := I1_keep hI
      have k30 : keepT T 30 = T 30 := keep_f (by decide)
      refine ⟨o_4 aV.1, x_sit aV.1 i1 (r_04 aV.1) e1 e2 e3 ?_ ?_ (by rw [k30]; exact f1) (fun Z cZ fZ => ?_)⟩
      · unfold isSeat isGame gm at hs ⊢
        rw [keep_f (k := 10) (by decide), keep_f (k := 11) (by decide)]
        exact hs
      · unfold isOne at ho ⊢
        rw [keep_f (k := 11) (by decide)]
        exact ho
      · have := h Z
        unfold putT at this
        rw [cif_t (by omega), eR, c1] at this
        exact this (CA_a aV fZ (fun o k => PS_Q) (eT_up (by decide)) cZ) (fX_trans fV (f55 fZ (fun o k => PS_Q)))
    · have := no (by omega)
      rw [eR] at this
      exact pst (jneg rfl) this
  refine br_eq (whyF T g s p) 1 rfl rfl ⟨by omega, by omega⟩ ⟨by omega, by omega⟩ (fun c1 => fin (fun q => q.2.1 c1)) (fun c1 => ?_)
  refine br_eq (whyF T g s p) 2 rfl rfl ⟨by omega, by omega⟩ ⟨by omega, by omega⟩ (fun c2 => fin (fun q => q.2.2 c2)) (fun c2 => ?_)
  have hs := (whyF_seat c1).1
  refine ⟨o_4 hC, x_X6_isLate hC hI h2 (eo := r_04 hC) e1 hs.1.1 hs.1.2 (fun c3 => br_1 ?_) (fun c3 => br_0 (fin (fun q => c3 q.1)))⟩
  have eR : putR T g s p = -12 := by
    unfold putR
    rw [cif_f (by omega), cif_t c3]
  have := no (by omega)
  rw [eR] at this
  exact this
theorem x_X11_drop {U : Um} {T : Tm} {w : Nat} (hA : CA U T w) (hI : I1 T) (h2 : I2 T) {a1 a2 : Int32} {g s : Int} (e1 : a1 = jI g) (e2 : a2 = jI s) (rg : r32 g) (rs : r32 s) {post : Int32 → Um → Prop} (h : ∀ V : Um, CA V (dropT T g s) w → fX P55 U V → post (jI (dropR T g s)) V) : w_X11_drop 0 a1 a2 U post := by
  have hn := I_n hI
  have hC := hA.1
  unfold dropT dropR at h
  have no : ¬ (isSeat T g s ∧ T 30 (3 * g + s) ≠ -1 ∧ ¬ gm T g 3 < T 35 0 ∧ gm T g 3 ≠ T 35 0) → post (-2) U := fun c => by
    have := h U
    rw [cif_f c, cif_f c] at this
    exact this hA fX_rfl
  refine ⟨o_2 hC, x_X9_isSeat hC hI h2 (eo := r_02 hC) e1 e2 rg rs (fun c => br_1 ⟨o_4 hC, ?_⟩) (fun c => br_0 (no (fun q => c q.1)))⟩
  refine x_X6_isPlayed hC hI h2 (eo := r_04 hC) e1 c.1.1 c.1.2 (fun c2 => br_1 (no (fun q => q.2.2.1 c2))) (fun c2 => br_0 ⟨o_4 hC, ?_⟩)
  refine x_X6_isLate hC hI h2 (eo := r_04 hC) e1 c.1.1 c.1.2 (fun c3 => br_1 (no (fun q => q.2.2.2 c3))) (fun c3 => br_0 ⟨o_4 hC, ?_⟩)
  have b := seat3 hI c
  have ik := I_k h2 (3 * g + s) (by omega) (by omega)
  refine x_X9_placeOf e1 e2 ⟨jvp (3 * g + s) rfl (by omega) (by omega) (by decide), ?_⟩
  refine al_i (T 30 (3 * g + s)) (c_h hC (r_04 hC) (3 * g + s) rfl (by omega) (by omega)) ?_
  refine br_eq (T 30 (3 * g + s)) (-1) rfl rfl ⟨by omega, by omega⟩ ⟨by omega, by omega⟩ (fun c4 => no (fun q => q.2.1 c4)) (fun c4 => ⟨o_4 hC, x_kept hA hI (r_04 hC) (fun V aV fV => ?_)⟩)
  have i1 := I1_keep hI
  have i2 := I2_keep h2
  refine ⟨o_4 aV.1, x_rise aV.1 i1 i2 (r_04 aV.1) e1 e2 ?_ (fun Z cZ fZ => ?_)⟩
  · unfold isSeat isGame gm at c ⊢
    rw [keep_f (k := 10) (by decide), keep_f (k := 11) (by decide)]
    exact c
  · have := h Z
    rw [cif_t ⟨c, c4, c2, c3⟩, cif_t ⟨c, c4, c2, c3⟩] at this
    exact this (CA_a aV fZ (fun o k => PS_Q) (eT_up (by decide)) cZ) (fX_trans fV (f55 fZ (fun o k => PS_Q)))
theorem x_X11_swap {U : Um} {T : Tm} {w : Nat} (hA : CA U T w) (hI : I1 T) (h2 : I2 T) {a1 a2 a3 a4 : Int32} {g s u t : Int} (e1 : a1 = jI g) (e2 : a2 = jI s) (e3 : a3 = jI u) (e4 : a4 = jI t) (rg : r32 g) (rs : r32 s) (ru : r32 u) (rt : r32 t) {post : Int32 → Um → Prop} (h : ∀ V : Um, CA V (swapT T g s u t) w → fX P55 U V → post (jI (swapS T g s u t)) V) : w_X11_swap 0 a1 a2 a3 a4 U post := by
  have hC := hA.1
  have sb := swapS_b T g s u t
  unfold swapT at h
  refine ⟨o_4 hC, x_exchangeable hC hI h2 (r_04 hC) e1 e2 e3 e4 rg rs ru rt ?_⟩
  refine br_eq (swapS T g s u t) 0 rfl rfl ⟨by omega, by omega⟩ ⟨by omega, by omega⟩ (fun c => ⟨o_4 hC, x_kept hA hI (r_04 hC) (fun V aV fV => ?_)⟩) (fun c => ?_)
  · obtain ⟨c1, c2, c3, c4, c5⟩ := swapS_seat c
    have k30 : keepT T 30 = T 30 := keep_f (by decide)
    have ks : ∀ g s, isSeat T g s → isSeat (keepT T) g s := fun g s q => by
      unfold isSeat isGame gm at q ⊢
      rw [keep_f (k := 10) (by decide), keep_f (k := 11) (by decide)]
      exact q
    refine ⟨o_4 aV.1, x_trade aV.1 (I1_keep hI) (I2_keep h2) (r_04 aV.1) e1 e2 e3 e4 (ks _ _ c1) (ks _ _ c2) c5 (by rw [k30]; exact c3) (by rw [k30]; exact c4) (fun Z cZ fZ => ?_)⟩
    have := h Z
    rw [cif_t c] at this
    exact this (CA_a aV fZ (fun o k => PS_Q) (eT_trans (eT_up (by decide)) (eT_up (by decide))) cZ) (fX_trans fV (f55 fZ (fun o k => PS_Q)))
  · have := h U
    rw [cif_f c] at this
    exact this hA fX_rfl
theorem x_X11_day {U : Um} {T : Tm} {w : Nat} (hA : CA U T w) (hI : I1 T) (h2 : I2 T) {post : Int32 → Um → Prop} (h : ∀ V : Um, CA V (dayT T) w → fX P55 U V → post (jI (dayR T)) V) : w_X11_day 0 U post := by
  have hC := hA.1
  have tb := I_t h2
  unfold dayT dayR at h
  refine ⟨o_4 hC, br_lt (T 35 0) 7 (c_t hC (r_04 hC)) rfl ⟨by omega, by omega⟩ ⟨by omega, by omega⟩ (fun c => ⟨o_4 hC, x_kept hA hI (r_04 hC) (fun V aV fV => ⟨o_4 aV.1, fun U6 e6 => ?_⟩)⟩) (fun c => ?_)⟩
  · have ek : keepT T 35 0 = T 35 0 := keep_nf (by decide)
    rw [r_04 aV.1] at e6
    have hE : uI V 42 1 + 1 = jI (T 35 0 + 1) := by
      rw [c_t aV.1 rfl, ek]
      exact jadd rfl rfl
    obtain ⟨c6, f6⟩ := x_day aV.1 (I1_keep hI) hE e6
    refine ⟨o_4 c6, ?_⟩
    have := h U6
    rw [cif_f (by omega), cif_f (by omega)] at this
    refine pst (x := T 35 0 + 1) ?_ (this (CA_a aV f6 (fun o k => PM_Q) (eT_up (by decide)) c6) (fX_trans fV (f55 f6 (fun o k => PM_Q))))
    rw [c_t c6 (r_04 c6), up_eq]
  · have := h U
    rw [cif_t (by omega), cif_t (by omega)] at this
    exact this hA fX_rfl
