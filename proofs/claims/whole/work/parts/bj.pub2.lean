/-! the class: what it answers, more -/
theorem ic_n (w : Int) {P : Prop} {R : Int} (h : P) (e : R = w) : R = w := e
/-- all that is held -/
def CRs (U : Um) (T : Tm) : Prop := (∀ o : Int, 0 ≤ o → o < 10 → uA U 42 9 o.toNat = jI 0) ∧ CPa U T ∧ CTa U T ∧ CSa U T
def CA (U : Um) (T : Tm) (w : Nat) : Prop := CC U T w ∧ CRs U T
abbrev PQ (o k : Nat) : Prop := (o = 42 ∧ k ≠ 9) ∨ o = 3 ∨ o = 8 ∨ o = 9 ∨ o = 43
theorem CTb_x {U V : Um} {T T2 : Tm} (f0 : uA V 1 0 = uA U 1 0) (f1 : uI V 1 1 = uI U 1 1) (e16 : T2 16 = T 16) (e17 : T2 17 = T 17) (h : CTb U T) : CTb V T2 := by
  unfold CTb at h ⊢
  rw [f0, f1, e16, e17]
  exact h
theorem CTa_x {P : Nat → Nat → Prop} {U V : Um} {T T2 : Tm} (hf : fX P U V) (hP : ∀ o k, P o k → o ≠ 1 ∧ o ≠ 2) (e16 : T2 16 = T 16) (e17 : T2 17 = T 17) (e18 : T2 18 = T 18) (e19 : T2 19 = T 19) (h : CTa U T) : CTa V T2 := by
  have f1 := fun k => hf.2.2 1 k (fun z => (hP 1 k z).1 rfl)
  have f2 := fun k => hf.2.2 2 k (fun z => (hP 2 k z).2 rfl)
  refine ⟨CTb_x (f1 0).2.2.1 (f1 1).1 e16 e17 h.1, ?_, ?_⟩
  · rw [(f2 2).1, e18]; exact h.2.1
  · rw [(f2 3).1, e19]; exact h.2.2
theorem CSa_x {P : Nat → Nat → Prop} {U V : Um} {T T2 : Tm} (hf : fX P U V) (hP : ∀ o k, P o k → o < 52) (e50 : T2 50 = T 50) (e51 : T2 51 = T 51) (e52 : T2 52 = T 52) (e53 : T2 53 = T 53) (h : CSa U T) : CSa V T2 := by
  intro s s0 s1
  have f := fun k => hf.2.2 (52 + s.toNat) k (fun z => by have := hP _ k z; omega)
  rw [(f 1).1, (f 2).1, (f 0).2.2.1, e50, e51, e52, e53]
  exact h s s0 s1
/-- what is not held of the roster is the same -/
def eT (T T2 : Tm) : Prop := ∀ k, (k ≤ 14 ∨ (16 ≤ k ∧ k ≤ 19) ∨ (36 ≤ k ∧ k ≤ 38) ∨ (50 ≤ k ∧ k ≤ 53)) → T2 k = T k
theorem CRs_x {P : Nat → Nat → Prop} {U V : Um} {T T2 : Tm} (hf : fX P U V) (hP : ∀ o k, P o k → PQ o k) (e : eT T T2) (h : CRs U T) : CRs V T2 := by
  obtain ⟨a, b, c, d⟩ := h
  refine ⟨?_, CPa_x hf (fun o k z => by have := hP o k z; omega) (fun k hk => e k (Or.inl hk)) (e 36 (by omega)) (e 37 (by omega)) (e 38 (by omega)) b, CTa_x hf (fun o k z => by have := hP o k z; omega) (e 16 (by omega)) (e 17 (by omega)) (e 18 (by omega)) (e 19 (by omega)) c, CSa_x hf (fun o k z => by have := hP o k z; omega) (e 50 (by omega)) (e 51 (by omega)) (e 52 (by omega)) (e 53 (by omega)) d⟩
  rw [(hf.2.2 42 9 (fun z => by have := hP _ _ z; omega)).2.2.1]
  exact a
theorem eT_rfl {T : Tm} : eT T T := fun _ _ => rfl
theorem eT_up {T : Tm} {f : Nat} {i v : Int} (h : 30 ≤ f ∧ f ≤ 35) : eT T (up T f i v) := fun k hk => by
  funext j
  exact up_nf (by omega)
theorem eT_blk {T : Tm} {f : Nat} {a n : Int} {v : Int → Int} (h : 30 ≤ f ∧ f ≤ 35) : eT T (blk T f a n v) := fun k hk => by
  funext j
  exact blk_nf (by omega)
theorem eT_trans {T T2 T3 : Tm} (h : eT T T2) (h2 : eT T2 T3) : eT T T3 := fun k hk => (h2 k hk).trans (h k hk)
theorem CA_q {P : Nat → Nat → Prop} {U V : Um} {T : Tm} {w : Nat} (h : CA U T w) (hf : fX P U V) (hP : ∀ o k, P o k → PQ o k) (hC : CC V T w) : CA V T w := ⟨hC, CRs_x hf hP eT_rfl h.2⟩
theorem x_far {U : Um} {T : Tm} {w : Nat} (hC : CC U T w) (hI : I1 T) (h2 : I2 T) {g s : Int} (rg : r32 g) (rs : r32 s) (hs : ¬ isSeat T g s) {post K : Int32 → Um → Prop} (h : K (-1) U) : ∀ (fu : Nat) (k : Int), 0 ≤ k → k ≤ T 11 2 → (T 11 2 - k).toNat < fu → w_X1_nearest_L11 3 (jI g) (jI s) post K fu (-1) 0 0 (jI k) U := by
  have hn := I_n hI
  have q3 := r_3 hC (x := 3) rfl
  have o3 : oc (uR U 3 0) = 5 := oc_of q3 rfl
  intro fu
  induction fu with
  | zero => intro k _ _ h; exact absurd h (Nat.not_lt_zero _)
  | succ fu ih =>
    intro k k0 k1 hf
    show b_X1_nearest_L11 3 (jI g) (jI s) post K (w_X1_nearest_L11 3 (jI g) (jI s) post K fu) (-1) 0 0 (jI k) U
    unfold b_X1_nearest_L11
    refine ⟨o3, x_X6_officials hC hI h2 (eo := q3) ?_⟩
    refine br_le (T 11 2) k rfl rfl ⟨by omega, by omega⟩ ⟨by omega, by omega⟩ (fun c => h) (fun c => ?_)
    refine ⟨o3, x_reason hC hI h2 (eo := q3) rfl rfl rfl rg rs ⟨by omega, by omega⟩ ?_⟩
    have e : whyF T g s k = 1 := by
      unfold whyF
      rw [cif_f (fun q => hs q.1)]
    rw [e]
    refine br_1 (al_i (k + 1) (jadd rfl rfl) (ih (k + 1) (by omega) (by omega) (by omega)))
theorem x_X11_best {U : Um} {T : Tm} {w : Nat} (hC : CC U T w) (hI : I1 T) (h2 : I2 T) (hz : I0 T) {a1 a2 : Int32} {g s : Int} (e1 : a1 = jI g) (e2 : a2 = jI s) (rg : r32 g) (rs : r32 s) {post : Int32 → Um → Prop} (h : ∀ V : Um, CC V T w → fX PL U V → post (jI (cif (isSeat T g s) (bestS T g s) (-1))) V) : w_X11_best 0 a1 a2 U post := by
  have hn := I_n hI
  refine ⟨o_6 hC, ?_⟩
  by_cases c : isSeat T g s
  · rw [cif_t c] at h
    exact x_nearest hC hI h2 hz (r_06 hC) e1 e2 c h
  · rw [cif_f c] at h
    subst e1 e2
    rw [r_06 hC]
    exact ⟨(T 11 2 - 0).toNat + 1, x_far hC hI h2 rg rs c (h U hC fX_rfl) _ 0 (by decide) (by omega) (Nat.lt_succ_self _)⟩
theorem xl_able {U : Um} {T : Tm} {w : Nat} (hC : CC U T w) (hI : I1 T) (h2 : I2 T) {g s : Int} (rg : r32 g) (rs : r32 s) {post K : Int32 → Um → Prop} (hK : ∀ B : Int32, (∀ f, 0 ≤ f → f < 32 → (bt B f ↔ f < T 11 2 ∧ whyF T g s f = 0)) → K B U) : ∀ (fu : Nat) (B : Int32) (k : Int), 0 ≤ k → k ≤ T 11 2 → (∀ f, 0 ≤ f → f < 32 → (bt B f ↔ f < k ∧ whyF T g s f = 0)) → (T 11 2 - k).toNat < fu → w_X11_able_L19 0 (jI g) (jI s) post K fu B (jI k) U := by
  have hn := I_n hI
  intro fu
  induction fu with
  | zero => intro B k _ _ _ h; exact absurd h (Nat.not_lt_zero _)
  | succ fu ih =>
    intro B k k0 k1 hB hf
    show b_X11_able_L19 0 (jI g) (jI s) post K (w_X11_able_L19 0 (jI g) (jI s) post K fu) B (jI k) U
    unfold b_X11_able_L19
    refine ⟨o_2 hC, jvp 2 rfl (by decide) (by decide) (by decide), ?_⟩
    refine br_le (T 11 2) k (c_n hC (r_02 hC) 2 rfl (by decide) (by decide)) rfl ⟨by omega, by omega⟩ ⟨by omega, by omega⟩ (fun c => ?_) (fun c => ?_)
    · rw [show k = T 11 2 by omega] at hB
      exact hK B hB
    refine ⟨o_4 hC, x_reason hC hI h2 (r_04 hC) rfl rfl rfl rg rs ⟨by omega, by omega⟩ ?_⟩
    have wb := whyF_b T g s k
    refine br_eq (whyF T g s k) 0 rfl rfl ⟨by omega, by omega⟩ ⟨by omega, by omega⟩ (fun c1 x hx => al_i (k + 1) (jadd rfl rfl) ?_) (fun c1 => al_i (k + 1) (jadd rfl rfl) ?_)
    · refine ih x (k + 1) (by omega) (by omega) (fun f f0 f1 => ?_) (by omega)
      rw [hx, bt_or rfl k0 (by omega) f0 f1, hB f f0 f1]
      exact ⟨fun q => q.elim (fun q => ⟨by omega, q.2⟩) (fun q => ⟨by omega, by rw [q]; exact c1⟩), fun q => (Int.lt_or_le f k).elim (fun z => Or.inl ⟨z, q.2⟩) (fun z => Or.inr (by omega))⟩
    · refine ih B (k + 1) (by omega) (by omega) (fun f f0 f1 => ?_) (by omega)
      rw [hB f f0 f1]
      exact ⟨fun q => ⟨by omega, q.2⟩, fun q => ⟨(Int.lt_or_le f k).elim id (fun z => absurd (by rw [← show f = k by omega]; exact q.2) c1), q.2⟩⟩
theorem x_X11_able {U : Um} {T : Tm} {w : Nat} (hC : CC U T w) (hI : I1 T) (h2 : I2 T) {a1 a2 : Int32} {g s : Int} (e1 : a1 = jI g) (e2 : a2 = jI s) (rg : r32 g) (rs : r32 s) {post : Int32 → Um → Prop} (h : post (jI (cif (isSeat T g s) (ableM T g s).toInt (-1))) U) : w_X11_able 0 a1 a2 U post := by
  have hn := I_n hI
  refine ⟨o_2 hC, x_X9_isSeat hC hI h2 (eo := r_02 hC) e1 e2 rg rs (fun c => br_1 ?_) (fun c => br_0 ?_)⟩
  · rw [cif_t c] at h
    subst e1 e2
    refine ⟨(T 11 2 - 0).toNat + 1, xl_able hC hI h2 rg rs (fun B hB => ?_) _ 0 0 (by decide) (by omega) (fun f f0 f1 => ⟨fun q => absurd q bt_0, fun q => by omega⟩) (Nat.lt_succ_self _)⟩
    rw [ableM_is hI hB, jI_of] at h
    exact h
  · rw [cif_f c] at h
    exact h
theorem x_X11_formBits {U : Um} {T : Tm} {w : Nat} (hC : CC U T w) (hI : I1 T) (h2 : I2 T) (hf : If T) {a1 : Int32} {p : Int} (e1 : a1 = jI p) (rp : r32 p) {post : Int32 → Um → Prop} (h : post (jI (fbS T p)) U) : w_X11_formBits 0 a1 U post := by
  unfold fbS at h
  refine ⟨o_2 hC, x_X9_isNamed hC hI h2 (eo := r_02 hC) (k := 2) rfl e1 (by decide) rp (fun c => br_1 ⟨o_4 hC, ?_⟩) (fun c => br_0 ?_)⟩
  · rw [cif_t c] at h
    exact x_bits hC hI hf (r_04 hC) e1 c.1 c.2 h
  · rw [cif_f c] at h
    exact h
theorem x_X11_seat {U : Um} {T : Tm} {w : Nat} (hC : CC U T w) (hI : I1 T) (h2 : I2 T) {a1 a2 a3 : Int32} {g s v : Int} (e1 : a1 = jI g) (e2 : a2 = jI s) (e3 : a3 = jI v) (rg : r32 g) (rs : r32 s) (rv : r32 v) {post : Int32 → Um → Prop} (h : post (jI (seatS T g s v)) U) : w_X11_seat 0 a1 a2 a3 U post := by
  have hn := I_n hI
  unfold seatS at h
  refine ⟨o_2 hC, x_X9_isSeat hC hI h2 (eo := r_02 hC) e1 e2 rg rs (fun c => br_1 ?_) (fun c => br_0 ?_)⟩
  · have f := I_g hI g c.1.1 c.1.2
    unfold gOk at f
    have c2 := c.2
    have c1 := c.1
    refine x_X9_placeOf e1 e2 ⟨fun d => ?_, fun d => ?_, fun d d2 => ?_⟩
    · have d := jeq 0 (e3 ▸ d) rfl rv ⟨by decide, by decide⟩
      rw [cif_t ⟨c, by omega⟩, cif_t d] at h
      exact ⟨o_4 hC, jvp (3 * g + s) rfl (by omega) (by omega) (by decide), pst (c_h hC (r_04 hC) (3 * g + s) rfl (by omega) (by omega)) h⟩
    · have d := jeq 1 (e3 ▸ d) rfl rv ⟨by decide, by decide⟩
      rw [cif_t ⟨c, by omega⟩, cif_f (by omega)] at h
      exact ⟨o_4 hC, jvp (3 * g + s) rfl (by omega) (by omega) (by decide), pst (c_m hC (r_04 hC) (3 * g + s) rfl (by omega) (by omega)) h⟩
    · have d := jne 0 (e3 ▸ d) rfl
      have d2 := jne 1 (e3 ▸ d2) rfl
      rw [cif_f (by omega)] at h
      exact h
  · rw [cif_f (fun q => c q.1)] at h
    exact h
theorem x_X11_fault {U : Um} {T : Tm} {w : Nat} (hC : CC U T w) (hT : CTa U T) {a1 : Int32} {v : Int} (e1 : a1 = jI v) (rv : r32 v) {post : Int32 → Um → Prop} (h : post (jI (cif (v = 0) (T 18 0) (cif (v = 1) (T 19 0) (-1)))) U) : w_X11_fault 0 a1 U post := by
  refine ⟨fun d => ?_, fun d => ?_, fun d d2 => ?_⟩
  · have d := jeq 0 (e1 ▸ d) rfl rv ⟨by decide, by decide⟩
    rw [cif_t d] at h
    rw [r_01 hC]
    exact ⟨rfl, pst hT.2.1 h⟩
  · have d := jeq 1 (e1 ▸ d) rfl rv ⟨by decide, by decide⟩
    rw [cif_f (by omega), cif_t d] at h
    rw [r_01 hC]
    exact ⟨rfl, pst hT.2.2 h⟩
  · have d := jne 0 (e1 ▸ d) rfl
    have d2 := jne 1 (e1 ▸ d2) rfl
    rw [cif_f d, cif_f d2] at h
    exact h
theorem x_X11_letter {U : Um} {T : Tm} {w : Nat} (hC : CC U T w) (hI : I1 T) (h2 : I2 T) {a1 a2 a3 : Int32} {k p i : Int} (e1 : a1 = jI k) (e2 : a2 = jI p) (e3 : a3 = jI i) (rk : r32 k) (rp : r32 p) (ri : r32 i) {post : Int32 → Um → Prop} (h : post (jI (letF T k p i)) U) : w_X11_letter 0 a1 a2 a3 U post := by
  have hn := I_n hI
  unfold letF at h
  have no : ¬ (0 ≤ k ∧ k ≤ 2 ∧ 0 ≤ p ∧ p < T 11 k) → post (-1) U := fun c => by
    rw [cif_f c] at h
    exact h
  refine br_lt k 0 e1 rfl rk ⟨by decide, by decide⟩ (fun c => no (by omega)) (fun c => br_lt 2 k rfl e1 ⟨by decide, by decide⟩ rk (fun c2 => no (by omega)) (fun c2 => ⟨o_2 hC, ?_⟩))
  refine x_X9_isNamed hC hI h2 (eo := r_02 hC) e1 e2 ⟨c, by omega⟩ rp (fun c3 => br_1 ?_) (fun c3 => br_0 (no (fun q => c3 q.2.2)))
  have pb : p < 10 := by
    rcases (show k = 0 ∨ k = 1 ∨ k = 2 by omega) with rfl | rfl | rfl <;> omega
  refine ⟨o_2 hC, jvp k e1 c (by omega) (by decide), jvp p e2 c3.1 pb (by decide), ?_⟩
  rw [cif_t ⟨c, c2, c3⟩] at h
  have nm := I_nm hI
  have b : 0 < nmS T k p ∧ nmS T k p < 387420489 := by
    unfold nmS
    rcases (show k = 0 ∨ k = 1 ∨ k = 2 by omega) with rfl | rfl | rfl
    · exact nm.1 p c3.1 c3.2
    · exact nm.2.1 p c3.1 c3.2
    · exact nm.2.2 p c3.1 c3.2
  exact x_letterOf (c_nm hC (r_02 hC) k p e1 e2 c (by omega) c3.1 c3.2 (by omega)) e3 (by omega) b.2 ri h
