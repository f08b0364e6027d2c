/-! the class: what it answers, asked alone -/
theorem r_00 {U : Um} {T : Tm} {w : Nat} (h : CC U T w) : uR U 0 0 = 1 := h.1.2.1.1
theorem r_01 {U : Um} {T : Tm} {w : Nat} (h : CC U T w) : uR U 0 1 = 2 := h.1.2.1.2.1
theorem r_02 {U : Um} {T : Tm} {w : Nat} (h : CC U T w) : uR U 0 2 = w := h.1.2.1.2.2.1
theorem r_04 {U : Um} {T : Tm} {w : Nat} (h : CC U T w) : uR U 0 4 = 42 := h.1.2.1.2.2.2.2.1
theorem r_05 {U : Um} {T : Tm} {w : Nat} (h : CC U T w) : uR U 0 5 = 43 := h.1.2.1.2.2.2.2.2.1
theorem r_06 {U : Um} {T : Tm} {w : Nat} (h : CC U T w) : uR U 0 6 = 3 := h.1.2.1.2.2.2.2.2.2
theorem o_0 {U : Um} {T : Tm} {w : Nat} (h : CC U T w) : oc (uR U 0 0) = 7 := oc_of (r_00 h) rfl
theorem o_1 {U : Um} {T : Tm} {w : Nat} (h : CC U T w) : oc (uR U 0 1) = 3 := oc_of (r_01 h) rfl
theorem o_2 {U : Um} {T : Tm} {w : Nat} (h : CC U T w) : oc (uR U 0 2) = 8 := oc_of (r_02 h) (oc_w h.1.1)
theorem o_4 {U : Um} {T : Tm} {w : Nat} (h : CC U T w) : oc (uR U 0 4) = 5 := oc_of (r_04 h) rfl
theorem o_5 {U : Um} {T : Tm} {w : Nat} (h : CC U T w) : oc (uR U 0 5) = 5 := oc_of (r_05 h) rfl
theorem o_6 {U : Um} {T : Tm} {w : Nat} (h : CC U T w) : oc (uR U 0 6) = 0 := oc_of (r_06 h) rfl
theorem x_X11_why {U : Um} {T : Tm} {w : Nat} (hC : CC U T w) (hI : I1 T) (h2 : I2 T) {a1 a2 a3 : Int32} {g s p : Int} (e1 : a1 = jI g) (e2 : a2 = jI s) (e3 : a3 = jI p) (rg : r32 g) (rs : r32 s) (rp : r32 p) {post : Int32 → Um → Prop} (h : post (jI (whyF T g s p)) U) : w_X11_why 0 a1 a2 a3 U post := ⟨o_4 hC, x_reason hC hI h2 (r_04 hC) e1 e2 e3 rg rs rp h⟩
theorem x_X11_could {U : Um} {T : Tm} {w : Nat} (hC : CC U T w) (hI : I1 T) (h2 : I2 T) {a1 a2 a3 a4 : Int32} {g s u t : Int} (e1 : a1 = jI g) (e2 : a2 = jI s) (e3 : a3 = jI u) (e4 : a4 = jI t) (rg : r32 g) (rs : r32 s) (ru : r32 u) (rt : r32 t) {post : Int32 → Um → Prop} (h : post (jI (swapS T g s u t)) U) : w_X11_could 0 a1 a2 a3 a4 U post := ⟨o_4 hC, x_exchangeable hC hI h2 (r_04 hC) e1 e2 e3 e4 rg rs ru rt h⟩
theorem x_X11_hub {U : Um} {T : Tm} {w : Nat} (hC : CC U T w) (hI : I1 T) (h2 : I2 T) {post : Int32 → Um → Prop} (h : post (jI (hubS T)) U) : w_X11_hub 0 U post := ⟨o_2 hC, oc_of (r_wr hC (r_02 hC)) (oc_r hC.1.1), x_mid hC hI h2 (r_wr hC (r_02 hC)) h⟩
theorem x_X11_toward {U : Um} {T : Tm} {w : Nat} (hC : CC U T w) (hI : I1 T) (h2 : I2 T) {a1 a2 : Int32} {a b : Int} (e1 : a1 = jI a) (e2 : a2 = jI b) (ra : r32 a) (rb : r32 b) {post : Int32 → Um → Prop} (h : post (jI (towS T a b)) U) : w_X11_toward 0 a1 a2 U post := by
  refine ⟨o_2 hC, x_X9_areFields hC hI h2 (eo := r_02 hC) e1 e2 ra rb (fun c => br_1 ⟨o_2 hC, oc_of (r_wr hC (r_02 hC)) (oc_r hC.1.1), x_tow hC hI (r_wr hC (r_02 hC)) e1 e2 c.1 c.2 h⟩) (fun c => br_0 ?_)⟩
  unfold towS at h
  rw [cif_f (fun q => c ⟨q.1, q.2.1⟩)] at h
  exact h
theorem x_X11_way {U : Um} {T : Tm} {w : Nat} (hC : CC U T w) (hI : I1 T) (h2 : I2 T) {a1 a2 : Int32} {a b : Int} (e1 : a1 = jI a) (e2 : a2 = jI b) (ra : r32 a) (rb : r32 b) {post : Int32 → Um → Prop} (h : post (jI (cif (isField T a ∧ isField T b) (wayS T a b) (-1))) U) : w_X11_way 0 a1 a2 U post := by
  have hn := I_n hI
  refine ⟨o_2 hC, x_X9_areFields hC hI h2 (eo := r_02 hC) e1 e2 ra rb (fun c => br_1 ?_) (fun c => br_0 ?_)⟩
  · rw [cif_t c] at h
    obtain ⟨⟨c1, c2⟩, c3, c4⟩ := c
    exact ⟨o_2 hC, oc_of (r_wr hC (r_02 hC)) (oc_r hC.1.1), jvp a e1 (by omega) (by omega) (by decide), jvp b e2 (by omega) (by omega) (by decide), pst (c_r2 hI hC (r_wr hC (r_02 hC)) a b e1 e2 c1 c2 c3 c4) h⟩
  · rw [cif_f c] at h
    exact h
theorem x_X11_extra {U : Um} {T : Tm} {w : Nat} (hC : CC U T w) (hI : I1 T) (h2 : I2 T) (hz : I0 T) {a1 a2 a3 : Int32} {g s p : Int} (e1 : a1 = jI g) (e2 : a2 = jI s) (e3 : a3 = jI p) (rg : r32 g) (rs : r32 s) (rp : r32 p) {post : Int32 → Um → Prop} (h : post (jI (cif (isSeat T g s ∧ isOne T p) (extS T g s p) (-1))) U) : w_X11_extra 0 a1 a2 a3 U post := by
  refine ⟨o_2 hC, x_X9_isSeat hC hI h2 (eo := r_02 hC) e1 e2 rg rs (fun c => br_1 ⟨o_2 hC, x_X9_isNamed hC hI h2 (eo := r_02 hC) (k := 2) rfl e3 (by decide) rp (fun c2 => br_1 ⟨o_4 hC, ?_⟩) (fun c2 => br_0 ?_)⟩) (fun c => br_0 ?_)⟩
  · rw [cif_t ⟨c, c2⟩] at h
    exact x_detour hC hI h2 hz (r_04 hC) e1 e2 e3 c c2.1 c2.2 h
  · rw [cif_f (fun q => c2 q.2)] at h
    exact h
  · rw [cif_f (fun q => c q.1)] at h
    exact h
theorem x_X11_fee {U : Um} {T : Tm} {w : Nat} (hC : CC U T w) (hI : I1 T) (h2 : I2 T) {a1 a2 a3 : Int32} {g s p : Int} (e1 : a1 = jI g) (e2 : a2 = jI s) (e3 : a3 = jI p) (rg : r32 g) (rs : r32 s) (rp : r32 p) {post : Int64 → Um → Prop} (h : ∀ V : Um, CC V T w → fX PL U V → post (jL (cif (isSeat T g s ∧ isOne T p) (feeS T g s p) (-9223372036854775808))) V) : w_X11_fee 0 a1 a2 a3 U post := by
  have hn := I_n hI
  refine ⟨o_2 hC, x_X9_isSeat hC hI h2 (eo := r_02 hC) e1 e2 rg rs (fun c => br_1 ⟨o_2 hC, x_X9_isNamed hC hI h2 (eo := r_02 hC) (k := 2) rfl e3 (by decide) rp (fun c2 => br_1 ⟨o_4 hC, ?_⟩) (fun c2 => br_0 ?_)⟩) (fun c => br_0 ?_)⟩
  · rw [cif_t ⟨c, c2⟩] at h
    have f := I_g hI g c.1.1 c.1.2
    unfold gOk at f
    have c3 := c.2
    exact x_pay hC hI h2 (r_04 hC) e1 e2 e3 c.1.1 c.1.2 c3.1 (by omega) c2.1 c2.2 h
  · rw [cif_f (fun q => c2 q.2)] at h
    exact h U hC fX_rfl
  · rw [cif_f (fun q => c q.1)] at h
    exact h U hC fX_rfl
theorem x_X11_fees {U : Um} {T : Tm} {w : Nat} (hC : CC U T w) (hI : I1 T) (h2 : I2 T) {a1 : Int32} {p : Int} (e1 : a1 = jI p) (rp : r32 p) {post : Int64 → Um → Prop} (h : ∀ V : Um, CC V T w → fX PL U V → post (jL (feesS T p)) V) : w_X11_fees 0 a1 U post := by
  have hn := I_n hI
  unfold w_X11_fees
  intro K hK
  have go : p = -1 ∨ isOne T p → K U := fun c => hK U ⟨o_4 hC, x_payOfAll hC hI h2 (r_04 hC) e1 rp (fun V cV fV => by
    have := h V cV fV
    unfold feesS at this
    rw [cif_t c] at this
    exact this)⟩
  refine br_eq p (-1) e1 rfl rp ⟨by decide, by decide⟩ (fun c => go (Or.inl c)) (fun c => ⟨o_2 hC, x_X9_isNamed hC hI h2 (eo := r_02 hC) (k := 2) rfl e1 (by decide) rp (fun c2 => br_1 (go (Or.inr c2))) (fun c2 => br_0 ?_)⟩)
  have := h U hC fX_rfl
  unfold feesS at this
  rw [cif_f (fun q => q.elim c c2)] at this
  exact this
theorem x_X11_unsound {U : Um} {T : Tm} {w : Nat} (hC : CC U T w) (hI : I1 T) (h2 : I2 T) {a1 : Int32} {i : Int} (e1 : a1 = jI i) (ri : r32 i) {post : Int32 → Um → Prop} (h : post (jI (unsS T i)) U) : w_X11_unsound 0 a1 U post := ⟨o_4 hC, x_unsound hC hI h2 (r_04 hC) e1 ri h⟩
theorem x_X11_spread {U : Um} {T : Tm} {w : Nat} (hC : CC U T w) (hI : I1 T) (h2 : I2 T) {a1 : Int32} {v : Int} (e1 : a1 = jI v) (rv : r32 v) {post : Int32 → Um → Prop} (h : post (jI (sprS T v)) U) : w_X11_spread 0 a1 U post := ⟨o_4 hC, x_spread hC hI h2 (r_04 hC) e1 rv h⟩
theorem x_X11_exchange {U : Um} {T : Tm} {w : Nat} (hC : CC U T w) (hI : I1 T) (h2 : I2 T) (hz : I0 T) {a1 : Int32} {v : Int} (e1 : a1 = jI v) (rv : r32 v) {post : Int32 → Um → Prop} (h : ∀ V : Um, CC V T w → fX (fun o _ => o = 3) U V → post (jI (exS T v)) V) : w_X11_exchange 0 a1 U post := by
  have no : ¬ (0 ≤ v ∧ v ≤ 4) → post (-2) U := fun c => by
    have := h U hC fX_rfl
    unfold exS at this
    rw [cif_f c] at this
    exact this
  refine br_lt v 0 e1 rfl rv ⟨by decide, by decide⟩ (fun c => no (by omega)) (fun c => br_le v 4 e1 rfl rv ⟨by decide, by decide⟩ (fun c2 => ⟨o_6 hC, x_exch hC hI h2 hz (r_06 hC) e1 ⟨c, c2⟩ h⟩) (fun c2 => no (by omega)))
theorem x_X11_round {U : Um} {T : Tm} {w : Nat} (hC : CC U T w) (hI : I1 T) (h2 : I2 T) (hz : I0 T) {a1 a2 : Int32} {p d : Int} (e1 : a1 = jI p) (e2 : a2 = jI d) (rp : r32 p) (rd : r32 d) {post : Int32 → Um → Prop} (h : post (jI (cif (isOne T p ∧ 0 ≤ d ∧ d ≤ 6) (rndS T p d (-1) (-1)) (-1))) U) : w_X11_round 0 a1 a2 U post := by
  have hn := I_n hI
  have no : ¬ (isOne T p ∧ 0 ≤ d ∧ d ≤ 6) → post (-1) U := fun c => by
    rw [cif_f c] at h
    exact h
  refine ⟨o_2 hC, x_X9_isNamed hC hI h2 (eo := r_02 hC) (k := 2) rfl e1 (by decide) rp (fun c => br_1 ?_) (fun c => br_0 (no (fun q => c q.1)))⟩
  refine br_lt d 0 e2 rfl rd ⟨by decide, by decide⟩ (fun c2 => no (by omega)) (fun c2 => br_lt d 7 e2 rfl rd ⟨by decide, by decide⟩ (fun c3 => ?_) (fun c3 => no (by omega)))
  rw [cif_t ⟨c, c2, by omega⟩] at h
  refine ⟨o_4 hC, o_4 hC, jvp p e1 (by omega) (by omega) (by decide), ?_⟩
  refine x_roundP hC hI h2 hz (r_04 hC) e1 e2 (P := fun g => inGame T p g) (less := -1) (more := -1) ?_ (fun k hk => ⟨fun q => ⟨by have := hk.1; omega, Or.inr q⟩, fun q => q.2.resolve_left (by have := hk.1; omega)⟩) c.1 c.2 c2 c3 h
  exact c_he hI hC (r_04 hC) p e1 c.1 c.2
theorem x_X11_trip {U : Um} {T : Tm} {w : Nat} (hC : CC U T w) (hI : I1 T) (h2 : I2 T) {a1 a2 a3 : Int32} {p d v : Int} (e1 : a1 = jI p) (e2 : a2 = jI d) (e3 : a3 = jI v) (rp : r32 p) (rd : r32 d) (rv : r32 v) {post : Int32 → Um → Prop} (h : post (jI (tripS T p d v)) U) : w_X11_trip 0 a1 a2 a3 U post := by
  have no : ¬ (isOne T p ∧ 0 ≤ d ∧ d ≤ 6) → post (-10000) U := fun c => by
    unfold tripS at h
    rw [cif_f (fun q => c ⟨q.1, q.2.1⟩)] at h
    exact h
  refine ⟨o_2 hC, x_X9_isNamed hC hI h2 (eo := r_02 hC) (k := 2) rfl e1 (by decide) rp (fun c => br_1 ?_) (fun c => br_0 (no (fun q => c q.1)))⟩
  exact br_lt d 0 e2 rfl rd ⟨by decide, by decide⟩ (fun c2 => no (by omega)) (fun c2 => br_lt d 7 e2 rfl rd ⟨by decide, by decide⟩ (fun c3 => ⟨o_4 hC, x_journey hC hI h2 (r_04 hC) e1 e2 e3 c ⟨c2, by omega⟩ rv h⟩) (fun c3 => no (by omega)))
theorem x_X11_crew {U : Um} {T : Tm} {w : Nat} (hC : CC U T w) (hI : I1 T) (h2 : I2 T) (hz : I0 T) {a1 a2 : Int32} {g v : Int} (e1 : a1 = jI g) (e2 : a2 = jI v) (rg : r32 g) (rv : r32 v) {post : Int32 → Um → Prop} (h : ∀ V : Um, CC V T w → fX PD U V → post (jI (crewS T g v)) V) : w_X11_crew 0 a1 a2 U post := by
  have hn := I_n hI
  have no : ¬ (isGame T g ∧ 0 ≤ v ∧ v ≤ gm T g 7) → post (-1) U := fun c => by
    have := h U hC fX_rfl
    unfold crewS at this
    rw [cif_f (fun q => c ⟨q.1, q.2.2.1, q.2.2.2⟩)] at this
    exact this
  refine ⟨o_2 hC, x_X9_isGame hC hI h2 (eo := r_02 hC) e1 rg (fun c => br_1 ?_) (fun c => br_0 (no (fun q => c q.1)))⟩
  have f := I_g hI g c.1 c.2
  unfold gOk at f
  have q := r_g hC (r_02 hC) g e1 c.1 (by have := c.2; omega)
  refine br_lt v 0 e2 rfl rv ⟨by decide, by decide⟩ (fun c2 => no (by omega)) (fun c2 => ⟨o_2 hC, jvp g e1 c.1 (by have := c.2; omega) (by decide), oc_of q (oc_g hC.1.1 (by have := c.2; omega)), ?_⟩)
  have k := c_g hC q 7 c.1 c.2 (by decide)
  exact br_le v (gm T g 7) e2 k rv ⟨by omega, by omega⟩ (fun c3 => ⟨o_6 hC, x_findCrew hC hI h2 hz (r_06 hC) e1 e2 c ⟨c2, c3⟩ h⟩) (fun c3 => no (by omega))
theorem x_X11_steps {U : Um} {T : Tm} {w : Nat} (hC : CC U T w) (hI : I1 T) (h2 : I2 T) {a1 a2 a3 : Int32} {g s v : Int} (e1 : a1 = jI g) (e2 : a2 = jI s) (e3 : a3 = jI v) (rg : r32 g) (rs : r32 s) (rv : r32 v) {post : Int32 → Um → Prop} (h : ∀ V : Um, CC V T w → fX PD U V → post (jI (stepsS T g s v)) V) : w_X11_steps 0 a1 a2 a3 U post := by
  have no : ¬ (isSeat T g s ∧ (0 ≤ v ∧ v ≤ 4) ∧ ¬ gm T g 3 < T 35 0) → post (-1) U := fun c => by
    have := h U hC fX_rfl
    unfold stepsS at this
    rw [cif_f (fun q => c ⟨q.1, q.2.1, q.2.2.1⟩)] at this
    exact this
  refine br_lt v 0 e3 rfl rv ⟨by decide, by decide⟩ (fun c => no (by omega)) (fun c => br_lt 4 v rfl e3 ⟨by decide, by decide⟩ rv (fun c2 => no (by omega)) (fun c2 => ⟨o_2 hC, ?_⟩))
  refine x_X9_isSeat hC hI h2 (eo := r_02 hC) e1 e2 rg rs (fun c3 => br_1 ⟨o_4 hC, ?_⟩) (fun c3 => br_0 (no (fun q => c3 q.1)))
  refine x_X6_isPlayed hC hI h2 (eo := r_04 hC) e1 c3.1.1 c3.1.2 (fun c4 => br_1 (no (fun q => q.2.2 c4))) (fun c4 => br_0 ⟨o_6 hC, ?_⟩)
  exact x_findStep hC hI h2 (r_06 hC) e1 e2 e3 c3 c4 ⟨c, c2⟩ h
