/-! the class: what is paid, who is best -/
theorem br_ge {a b : Int64} {A B : Prop} (x y : Int) (hx : a = jL x) (hy : b = jL y) (rx : r64 x) (ry : r64 y) (h1 : y ≤ x → A) (h2 : x < y → B) : ((0 : Int32) ≤ lg_cmp a b → A) ∧ (¬ (0 : Int32) ≤ lg_cmp a b → B) := by
  subst hx; subst hy
  rw [lg_jL rx ry]
  by_cases q : y < x
  · rw [if_pos q]
    exact ⟨fun _ => h1 (by omega), fun q2 => absurd (by decide) q2⟩
  · rw [if_neg q]
    by_cases q2 : x = y
    · rw [if_pos q2]
      exact ⟨fun _ => h1 (by omega), fun q3 => absurd (by decide) q3⟩
    · rw [if_neg q2]
      exact ⟨fun q3 => absurd q3 (by decide), fun _ => h2 (by omega)⟩
def TellE (T : Tm) (w : Nat) (g s p k : Int) (x1 : Int32) (V : Um) : Prop := (x1 = 1 ∧ ∃ l, evS T g s p k = some l ∧ (l.length : Int) = dep T k ∧ SK V T w g s p l) ∨ (x1 = 0 ∧ evS T g s p k = none)
theorem dep_b {T : Tm} (hI : I1 T) {k : Int} (h0 : 0 ≤ k) (h1 : k ≤ T 14 0) : dep T k ≤ 16 := by
  refine cnt_ind (P := fun k => k ≤ T 14 0 → dep T k ≤ 16) k h0 (fun _ => by show (0 : Int) ≤ 16; decide) (fun k k0 _ ih hk => ?_) h1
  have := hI.2.2.2.2.2.2.1 k k0 (by omega)
  have i := ih (by omega)
  rw [dep_s k0]
  rcases this with a | a | a
  · rw [if_pos (by omega)]; omega
  · rw [if_pos (by omega)]; omega
  · rw [if_neg (by omega)]; omega
theorem xl_tell {T : Tm} {w : Nat} (hI : I1 T) (h2 : I2 T) {g s p : Int} (g0 : 0 ≤ g) (g1 : g < T 11 3) (s0 : 0 ≤ s) (s1 : s < 3) (o0 : 0 ≤ p) (o1 : p < T 11 2) {U0 : Um} {post : Int64 → Um → Prop} {K : Int32 → Um → Prop} (hK : ∀ (x1 : Int32) (V : Um), CC V T w → fX PL U0 V → TellE T w g s p (T 14 0) x1 V → K x1 V) : ∀ (fu : Nat) (x1 : Int32) (k : Int) (V : Um), CC V T w → fX PL U0 V → 0 ≤ k → k ≤ T 14 0 → TellE T w g s p k x1 V → (T 14 0 - k).toNat < fu → w_X3_tell_L18 (w + 4) post K fu x1 (jI k) V := by
  have hn := hI.2.2.2.2.2.1
  intro fu
  induction fu with
  | zero => intro x1 k V _ _ _ _ _ h; exact absurd h (Nat.not_lt_zero _)
  | succ fu ih =>
    intro x1 k V hC hF k0 k1 hE hf
    show b_X3_tell_L18 (w + 4) post K (w_X3_tell_L18 (w + 4) post K fu) x1 (jI k) V
    unfold b_X3_tell_L18
    refine br_le (T 14 0) k (c_l1 hC rfl) rfl ⟨by omega, by omega⟩ ⟨by omega, by omega⟩ (fun c => ?_) (fun c => ?_)
    · rw [show k = T 14 0 by omega] at hE
      exact hK x1 V hC hF hE
    rcases hE with ⟨e, l, ev, ll, sk⟩ | ⟨e, ev⟩
    · rw [e]
      refine ⟨fun q => absurd q (by decide), fun _ => ⟨jvp k rfl k0 (by omega) (by decide), al_i (encS T k) (c_l0 hI hC rfl k rfl k0 c) ?_⟩⟩
      have es : jI k + 1 = jI (k + 1) := jadd rfl rfl
      have he := evS_s (T := T) (g := g) (s := s) (o := p) k0
      rw [ev] at he
      have hL := hI.2.2.2.2.2.2.1 k k0 c
      have go : ∀ (x : Int32) (Z : Um), CC Z T w → fX PL V Z → TellE T w g s p (k + 1) x Z → ∀ y : Int32, y = jI k + 1 → w_X3_tell_L18 (w + 4) post K fu x y Z := fun x Z cZ fZ eZ y hy => by
        rw [hy, es]
        exact ih x (k + 1) Z cZ (fX_trans hF fZ) (by omega) (by omega) eZ (by omega)
      have hd := dep_s (T := T) k0
      have len : ∀ l2, stpS T g s p k (some l) = some l2 → (l2.length : Int) = dep T (k + 1) := by
        intro l2 h
        rw [hd]
        unfold stpS at h
        simp only [] at h
        by_cases q0 : T 13 k = 0
        · rw [if_pos q0] at h
          injection h with h
          rw [← h, if_pos (by omega)]
          simp; omega
        · rw [if_neg q0] at h
          by_cases q1 : T 13 k = 1
          · rw [if_pos q1] at h
            split at h
            · cases h
            · injection h with h
              rw [← h, if_pos (by omega)]
              simp; omega
          · rw [if_neg q1] at h
            rw [if_neg (by omega)]
            split at h
            · split at h
              · cases h
              · injection h with h
                rw [← h]
                simp at ll ⊢
                omega
            · cases h
      have db := dep_b hI k0 k1
      by_cases hc : T 13 k = 0 ∨ T 13 k = 1
      · have lt : -11 < encS T k := by
          unfold encS
          rcases hc with q | q
          · rw [if_pos q]; omega
          · rw [if_neg (by omega), if_pos q]; omega
        have eb : encS T k ≤ 9999 := by
          unfold encS
          rcases hc with q | q
          · rw [if_pos q]; omega
          · rw [if_neg (by omega), if_pos q]; omega
        refine br_lt (-11) (encS T k) rfl rfl ⟨by omega, by omega⟩ ⟨by omega, by omega⟩ (fun _ => ?_) (fun q => absurd q (by omega))
        exact x_push hC hI h2 g0 g1 s0 s1 o0 o1 k0 c hc sk ll rfl (fun h => go 0 V hC fX_rfl (Or.inr ⟨rfl, he.trans h⟩)) (fun l2 h Z cZ fZ sZ => go 1 Z cZ fZ (Or.inl ⟨rfl, l2, he.trans h, len l2 h, sZ⟩))
      · have hc2 : T 13 k = 43 ∨ T 13 k = 45 ∨ T 13 k = 42 ∨ T 13 k = 47 := by omega
        have le : -14 ≤ encS T k ∧ encS T k ≤ -11 := by
          unfold encS
          rw [if_neg (by omega), if_neg (by omega)]
          split
          · omega
          · split
            · omega
            · split <;> omega
        refine br_lt (-11) (encS T k) rfl rfl ⟨by omega, by omega⟩ ⟨by omega, by omega⟩ (fun q => absurd q (by omega)) (fun _ => ?_)
        exact x_join hC hI h2 k0 c hc2 sk ll (by omega) rfl (fun h Z cZ fZ => go 0 Z cZ fZ (Or.inr ⟨rfl, he.trans h⟩)) (fun l2 h Z cZ fZ sZ => go 1 Z cZ fZ (Or.inl ⟨rfl, l2, he.trans h, len l2 h, sZ⟩))
    · rw [e]
      refine ⟨fun _ => ?_, fun q => absurd rfl q⟩
      exact hK 0 V hC hF (Or.inr ⟨rfl, evS_n k0 k1 ev⟩)
theorem x_tell {U : Um} {T : Tm} {w : Nat} (hC : CC U T w) (hI : I1 T) (h2 : I2 T) {ob : Nat} (eo : ob = w + 4) {g s p : Int} (g0 : 0 ≤ g) (g1 : g < T 11 3) (s0 : 0 ≤ s) (s1 : s < 3) (o0 : 0 ≤ p) (o1 : p < T 11 2) (ha : askI (uA U (w + 4) 2) T g s p) {post : Int64 → Um → Prop} (h : ∀ V : Um, CC V T w → fX PL U V → post (jL (feeS T g s p)) V) : w_X3_tell ob U post := by
  rw [eo]
  have hw := hC.1.1
  have hn := hI.2.2.2.2.2
  have h6 := (I_n hI).2.2.2.2.2.2
  unfold w_X3_tell
  refine br_eq (T 14 0) 0 (c_l1 hC rfl) rfl ⟨by omega, by omega⟩ ⟨by omega, by omega⟩ (fun c => ?_) (fun c => ?_)
  · have e6 : T 11 6 = 0 := by
      refine Classical.byContradiction (fun q => ?_)
      have d := hn.2.2.2 (by omega)
      rw [c] at d
      exact absurd d (by show ¬ (0 : Int) = 1; decide)
    have ef : feeS T g s p = 0 := if_pos e6
    have := h U hC fX_rfl
    rw [ef] at this
    exact this
  · have e6 : ¬ T 11 6 = 0 := fun q => c (hn.2.2.1 q)
    have ed := hn.2.2.2 (by omega)
    intro U1 e1
    have f1 : fX PL U U1 := by rw [e1]; exact fX_sI (PL_w hw (Or.inr (Or.inr rfl)))
    refine ⟨(T 14 0 - 0).toNat + 1, xl_tell hI h2 g0 g1 s0 s1 o0 o1 (U0 := U) (fun x1 V cV fV hE => ?_) _ 1 0 U1 (CC_x hI f1 PL_Z hC) f1 (by decide) (by omega) (Or.inl ⟨rfl, [], evS_0, rfl, ?_, fun j hj => absurd hj (Nat.not_lt_zero _), ?_, fun x hx => absurd hx (List.not_mem_nil)⟩) (Nat.lt_succ_self _)⟩
    · rcases hE with ⟨e, l, ev, ll, sk⟩ | ⟨e, ev⟩
      · rw [e]
        refine ⟨fun q => absurd q (by decide), fun _ => ?_⟩
        obtain ⟨t4, pl, _, _⟩ := sk
        rw [ed] at ll
        refine br_eq (l.length : Int) 1 t4 rfl ⟨by omega, by omega⟩ ⟨by omega, by omega⟩ (fun _ => ?_) (fun q => absurd ll q)
        match l, ll, ev, pl with
        | [v], _, ev, pl =>
          have ef : feeS T g s p = v := by
            unfold feeS
            rw [if_neg e6, ev]
          refine ⟨jvp 0 rfl (by decide) (by decide) (by decide), ?_⟩
          have r := pl 0 (by simp)
          have := h V cV fV
          rw [ef] at this
          exact psl (show uJ V (w + 4) 3 (Int32.toNatClampNeg 0) = jL v from r) this
        | [], ll, _, _ => exact absurd ll (by simp)
        | _ :: _ :: _, ll, _, _ => exact absurd ll (by simp; omega)
      · rw [e]
        refine ⟨fun _ => ?_, fun q => absurd rfl q⟩
        have ef : feeS T g s p = -9223372036854775808 := by
          unfold feeS
          rw [if_neg e6, ev]
        have := h V cV fV
        rw [ef] at this
        exact this
    · rw [e1, uI_sI, if_pos ⟨rfl, rfl⟩]
      rfl
    · rw [e1]
      exact ha
theorem x_set {U : Um} {T : Tm} {w : Nat} (hC : CC U T w) (hI : I1 T) {ob : Nat} (eo : ob = w + 4) {a1 a2 : Int32} (c v : Int) (e1 : (-1) - a1 = jI c) (c0 : 0 ≤ c) (c1 : c < 8) (e2 : a2 = jI v) {post : Um → Prop} (h : ∀ V : Um, CC V T w → fX PL U V → uA V (w + 4) 2 = va_up (uA U (w + 4) 2) c.toNat (jI v) → post V) : w_X3_set ob a1 a2 U post := by
  rw [eo, e2]
  have hw := hC.1.1
  unfold w_X3_set
  refine ⟨jvp c e1 c0 (by omega) (by decide), fun V eV => ?_⟩
  have f1 : fX PL U V := by rw [eV]; exact fX_sA (PL_w hw (Or.inl rfl))
  refine h V (CC_x hI f1 PL_Z hC) f1 ?_
  rw [eV, uA_sA, if_pos ⟨rfl, rfl⟩, e1, jI_nat c0 (by omega)]
theorem x_pay {U : Um} {T : Tm} {w : Nat} (hC : CC U T w) (hI : I1 T) (h2 : I2 T) {ob : Nat} (eo : ob = 42) {a1 a2 a3 : Int32} {g s p : Int} (e1 : a1 = jI g) (e2 : a2 = jI s) (e3 : a3 = jI p) (g0 : 0 ≤ g) (g1 : g < T 11 3) (s0 : 0 ≤ s) (s1 : s < 3) (o0 : 0 ≤ p) (o1 : p < T 11 2) {post : Int64 → Um → Prop} (h : ∀ V : Um, CC V T w → fX PL U V → post (jL (feeS T g s p)) V) : w_X6_pay ob a1 a2 a3 U post := by
  subst e1 e2 e3
  rw [eo]
  have hw := hC.1.1
  have hn := I_n hI
  have hg := I_g hI g g0 g1
  unfold gOk at hg
  have ho := I_o hI p o0 o1
  have q0 := r_42 hC (x := 42) rfl
  have ow := oc_of q0 (oc_w hw)
  have qg := r_g hC q0 (E := jI g) g rfl g0 (by omega)
  have ql := r_wl hC q0
  have vp : vp_in (jI p) 10 := jvp p rfl (by omega) (by omega) (by decide)
  unfold w_X6_pay
  refine ⟨ow, jvp g rfl (by omega) (by omega) (by decide), oc_of qg (oc_g hw (by omega)), ow, oc_of ql (oc_l hw), vp, ?_⟩
  refine x_set hC hI (eo := ql) 0 (T 32 p) (by decide) (by decide) (by decide) (c_gr hI hC rfl p rfl o0 o1) (fun V1 c1 f1 u1 => ?_)
  refine x_X2_needOf c1 hI h2 (eo := qg) (s := s) rfl g0 g1 ⟨by omega, by omega⟩ ?_
  refine x_set c1 hI (eo := ql) 1 (needS T g s) (by decide) (by decide) (by decide) rfl (fun V2 c2 f2 u2 => ?_)
  refine x_set c2 hI (eo := ql) 2 s (by decide) (by decide) (by decide) rfl (fun V3 c3 f3 u3 => ?_)
  refine x_set c3 hI (eo := ql) 3 (gm T g 5) (by decide) (by decide) (by decide) (c_g c3 qg 5 g0 g1 (by decide)) (fun V4 c4 f4 u4 => ?_)
  refine x_set c4 hI (eo := ql) 4 (gm T g 3) (by decide) (by decide) (by decide) (c_g c4 qg 3 g0 g1 (by decide)) (fun V5 c5 f5 u5 => ?_)
  refine x_set c5 hI (eo := ql) 5 (gm T g 4) (by decide) (by decide) (by decide) (c_g c5 qg 4 g0 g1 (by decide)) (fun V6 c6 f6 u6 => ?_)
  have r0 := r_42 c6 (x := 42) rfl
  have ow6 := oc_of r0 (oc_w hw)
  have k2 := c_g c6 qg 2 g0 g1 (by decide)
  have rh := c_o3 hI c6 r0 (E := jI p) p rfl o0 o1
  refine ⟨ow6, oc_of (r_wr c6 r0) (oc_r hw), ow6, vp, jvp (T 6 p) rh (by omega) (by omega) (by decide), jvp (gm T g 2) k2 (by omega) (by omega) (by decide), ?_⟩
  refine x_set c6 hI (eo := ql) 6 (wayS T (T 6 p) (gm T g 2)) (by decide) (by decide) (by decide) (c_r2 hI c6 (r_wr c6 r0) (T 6 p) (gm T g 2) rh k2 (by omega) (by omega) (by omega) (by omega)) (fun V7 c7 f7 u7 => ?_)
  refine ⟨vp, x_set c7 hI (eo := ql) 7 (FP.f2i (jF (T 34 p))).toInt (by decide) (by decide) (by decide) ((congrArg FP.f2i (c_fo hI c7 rfl p rfl o0 o1)).trans (jI_of _).symm) (fun V8 c8 f8 u8 => ?_)⟩
  have fz : fX PL U V8 := fX_trans f1 (fX_trans f2 (fX_trans f3 (fX_trans f4 (fX_trans f5 (fX_trans f6 (fX_trans f7 f8))))))
  refine x_tell c8 hI h2 (eo := ql) g0 g1 s0 s1 o0 o1 ?_ (fun V cV fV => h V cV (fX_trans fz fV))
  intro c k0 k1
  rw [u8, u7, u6, u5, u4, u3, u2, u1]
  rcases (show c = 0 ∨ c = 1 ∨ c = 2 ∨ c = 3 ∨ c = 4 ∨ c = 5 ∨ c = 6 ∨ c = 7 by omega) with rfl | rfl | rfl | rfl | rfl | rfl | rfl | rfl <;> rfl
theorem xl_payIn {T : Tm} {w : Nat} (hI : I1 T) (h2 : I2 T) {o g S0 : Int} (ro : r32 o) (g0 : 0 ≤ g) (g1 : g < T 11 3) {U0 : Um} {post K : Int64 → Um → Prop} (hK : ∀ V : Um, CC V T w → fX PL U0 V → K (jL (S0 + paysS T o g (gm T g 7))) V) : ∀ (fu : Nat) (s : Int) (V : Um), CC V T w → fX PL U0 V → 0 ≤ s → s ≤ gm T g 7 → (gm T g 7 - s).toNat < fu → w_X6_payOfAll_L20 42 (jI o) (jI g) post K fu (jL (S0 + paysS T o g s)) (jI s) V := by
  have hn := I_n hI
  have hg := I_g hI g g0 g1
  unfold gOk at hg
  intro fu
  induction fu with
  | zero => intro s V _ _ _ _ h; exact absurd h (Nat.not_lt_zero _)
  | succ fu ih =>
    intro s V hC hF s0 s1 hf
    have hw := hC.1.1
    have q0 := r_42 hC (x := 42) rfl
    have qg := r_g hC q0 (E := jI g) g rfl g0 (by omega)
    show b_X6_payOfAll_L20 42 (jI o) (jI g) post K (w_X6_payOfAll_L20 42 (jI o) (jI g) post K fu) (jL (S0 + paysS T o g s)) (jI s) V
    unfold b_X6_payOfAll_L20
    refine ⟨oc_of q0 (oc_w hw), jvp g rfl (by omega) (by omega) (by decide), oc_of qg (oc_g hw (by omega)), ?_⟩
    refine br_le (gm T g 7) s (c_g hC qg 7 g0 g1 (by decide)) rfl ⟨by omega, by omega⟩ ⟨by omega, by omega⟩ (fun c => ?_) (fun c => ?_)
    · rw [show s = gm T g 7 by omega]
      exact hK V hC hF
    have ik := I_k h2 (3 * g + s) (by omega) (by omega)
    refine x_X9_placeOf (g := g) (s := s) rfl rfl ⟨jvp (3 * g + s) rfl (by omega) (by omega) (by decide), al_i (T 30 (3 * g + s)) (c_h hC rfl (3 * g + s) rfl (by omega) (by omega)) ?_⟩
    intro K8 hK8
    have es : jI s + 1 = jI (s + 1) := jadd rfl rfl
    have go : ∀ (v : Int) (Z : Um), CC Z T w → fX PL V Z → r64 v → payS T o g s = (if v = -9223372036854775808 then 0 else v) → K8 (jL v) Z := by
      intro v Z cZ fZ rv hv
      refine hK8 (jL v) Z ?_
      have hs := pays_s (T := T) (o := o) (g := g) s0
      refine br_l0 v (-9223372036854775808) rfl rfl rv ⟨by omega, by omega⟩ (fun q => ?_) (fun q => ?_)
      · rw [if_pos q] at hv
        refine al_l (S0 + paysS T o g (s + 1)) (by rw [show S0 + paysS T o g (s + 1) = (S0 + paysS T o g s) + 0 by omega]; exact jLadd rfl rfl) (fun y hy => ?_)
        rw [hy, es]
        exact ih (s + 1) Z cZ (fX_trans hF fZ) (by omega) (by omega) (by omega)
      · rw [if_neg q] at hv
        refine al_l (S0 + paysS T o g (s + 1)) (by rw [show S0 + paysS T o g (s + 1) = (S0 + paysS T o g s) + v by omega]; exact jLadd rfl rfl) (fun y hy => ?_)
        rw [hy, es]
        exact ih (s + 1) Z cZ (fX_trans hF fZ) (by omega) (by omega) (by omega)
    have no : ¬ (T 30 (3 * g + s) ≠ -1 ∧ (o = -1 ∨ T 30 (3 * g + s) = o)) → K8 (-9223372036854775808) V := fun q => by
      have z := go (-9223372036854775808) V hC fX_rfl ⟨by omega, by omega⟩ (by unfold payS; rw [cif_f q, if_pos rfl])
      rw [show jL (-9223372036854775808) = (-9223372036854775808 : Int64) from by decide] at z
      exact z
    refine br_eq (T 30 (3 * g + s)) (-1) rfl rfl ⟨by omega, by omega⟩ ⟨by omega, by omega⟩ (fun c1 => no (fun q => q.1 c1)) (fun c1 => ?_)
    intro K15 hK15
    have yes : (o = -1 ∨ T 30 (3 * g + s) = o) → K15 := by
      intro q
      refine hK15 (x_pay hC hI h2 rfl rfl rfl rfl g0 g1 s0 (by omega) (by omega) (by omega) (fun Z cZ fZ => ?_))
      have fb := feeS_b hI h2 g s (T 30 (3 * g + s)) g0 g1 s0 (by omega) (by omega) (by omega)
      refine go _ Z cZ fZ ⟨by omega, by omega⟩ ?_
      unfold payS
      rw [cif_t ⟨c1, q⟩]
      by_cases z : feeS T g s (T 30 (3 * g + s)) = -9223372036854775808
      · rw [cif_t z, if_pos z]
      · rw [cif_f z, if_neg z]
    refine br_eq o (-1) rfl rfl ro ⟨by omega, by omega⟩ (fun c2 => yes (Or.inl c2)) (fun c2 => ?_)
    refine br_eq o (T 30 (3 * g + s)) rfl rfl ro ⟨by omega, by omega⟩ (fun c3 => yes (Or.inr c3.symm)) (fun c3 => no (fun q => by rcases q.2 with z | z; exact c2 z; exact c3 z.symm))
theorem xl_payOut {T : Tm} {w : Nat} (hI : I1 T) (h2 : I2 T) {o : Int} (ro : r32 o) {U0 : Um} {post K : Int64 → Um → Prop} (hK : ∀ V : Um, CC V T w → fX PL U0 V → K (jL (paysA T o (T 11 3))) V) : ∀ (fu : Nat) (g : Int) (V : Um), CC V T w → fX PL U0 V → 0 ≤ g → g ≤ T 11 3 → (T 11 3 - g).toNat < fu → w_X6_payOfAll_L5 42 (jI o) post K fu (jL (paysA T o g)) (jI g) V := by
  have hn := I_n hI
  intro fu
  induction fu with
  | zero => intro g V _ _ _ _ h; exact absurd h (Nat.not_lt_zero _)
  | succ fu ih =>
    intro g V hC hF g0 g1 hf
    have hw := hC.1.1
    have q0 := r_42 hC (x := 42) rfl
    show b_X6_payOfAll_L5 42 (jI o) post K (w_X6_payOfAll_L5 42 (jI o) post K fu) (jL (paysA T o g)) (jI g) V
    unfold b_X6_payOfAll_L5
    refine ⟨oc_of q0 (oc_w hw), br_le (T 11 3) g (c_n7 hC q0) rfl ⟨by omega, by omega⟩ ⟨by omega, by omega⟩ (fun c => ?_) (fun c => ?_)⟩
    · rw [show g = T 11 3 by omega]
      exact hK V hC hF
    have hg := I_g hI g g0 c
    unfold gOk at hg
    refine ⟨(gm T g 7 - 0).toNat + 1, ?_⟩
    have st := xl_payIn (S0 := paysA T o g) hI h2 ro g0 c (U0 := U0) (post := post) (K := fun x2_18 U_19 => ∀ (x4_20 : Int32), x4_20 = jI g + 1 → w_X6_payOfAll_L5 42 (jI o) post K fu x2_18 x4_20 U_19) (fun Z cZ fZ y hy => by
      rw [hy, show jI g + 1 = jI (g + 1) from jadd rfl rfl, ← paysA_s g0]
      exact ih (g + 1) Z cZ fZ (by omega) (by omega) (by omega)) ((gm T g 7 - 0).toNat + 1) 0 V hC hF (by decide) (by omega) (Nat.lt_succ_self _)
    have e0 : paysA T o g + paysS T o g 0 = paysA T o g := by
      show paysA T o g + 0 = _
      omega
    rw [e0] at st
    exact st
theorem x_payOfAll {U : Um} {T : Tm} {w : Nat} (hC : CC U T w) (hI : I1 T) (h2 : I2 T) {ob : Nat} (eo : ob = 42) {a1 : Int32} {o : Int} (e1 : a1 = jI o) (ro : r32 o) {post : Int64 → Um → Prop} (h : ∀ V : Um, CC V T w → fX PL U V → post (jL (paysA T o (T 11 3))) V) : w_X6_payOfAll ob a1 U post := by
  rw [eo, e1]
  have hn := I_n hI
  unfold w_X6_payOfAll
  exact ⟨(T 11 3 - 0).toNat + 1, xl_payOut hI h2 ro (U0 := U) h _ 0 U hC fX_rfl (by decide) (by omega) (Nat.lt_succ_self _)⟩
theorem xl_nearest {T : Tm} {w : Nat} (hI : I1 T) (h2 : I2 T) (hz : I0 T) {g s : Int} (hs : isSeat T g s) {U0 : Um} {post K : Int32 → Um → Prop} (hK : ∀ (best : Int) (V : Um), CC V T w → fX PL U0 V → bestP T g s (T 11 2) best → K (jI best) V) : ∀ (fu : Nat) (best least cheap k : Int) (V : Um), CC V T w → fX PL U0 V → 0 ≤ k → k ≤ T 11 2 → bestP T g s k best → (best < k ∧ -1 ≤ best) → ((best = -1 ∧ least = 0 ∧ cheap = 0) ∨ (0 ≤ best ∧ least = extS T g s best ∧ cheap = costS T g s best)) → (T 11 2 - k).toNat < fu → w_X1_nearest_L11 3 (jI g) (jI s) post K fu (jI best) (jI least) (jL cheap) (jI k) V := by
  have hn := I_n hI
  obtain ⟨⟨g0, g1⟩, s0, s1⟩ := hs
  have hg := I_g hI g g0 g1
  unfold gOk at hg
  have cb : ∀ p, 0 ≤ p → p < T 11 2 → (costS T g s p = if feeS T g s p = -9223372036854775808 then 2147483648 else feeS T g s p) ∧ -2147483648 ≤ costS T g s p ∧ costS T g s p ≤ 2147483648 := by
    intro p p0 p1
    have fb := feeS_b hI h2 g s p g0 g1 s0 (by omega) p0 p1
    refine ⟨rfl, ?_⟩
    unfold costS
    split <;> omega
  intro fu
  induction fu with
  | zero => intro best least cheap k V _ _ _ _ _ _ _ h; exact absurd h (Nat.not_lt_zero _)
  | succ fu ih =>
    intro best least cheap k V hC hF k0 k1 hb hbb hi hf
    have hw := hC.1.1
    have q3 := r_3 hC (x := 3) rfl
    have o3 : oc (uR V 3 0) = 5 := oc_of q3 rfl
    have lb : (-340000 ≤ least ∧ least ≤ 340000) ∧ -2147483648 ≤ cheap ∧ cheap ≤ 2147483648 := by
      rcases hi with ⟨_, b, c⟩ | ⟨a, b, c⟩
      · omega
      · have := cb best a (by omega)
        have := extS_b hI g s best a (by omega)
        omega
    show b_X1_nearest_L11 3 (jI g) (jI s) post K (w_X1_nearest_L11 3 (jI g) (jI s) post K fu) (jI best) (jI least) (jL cheap) (jI k) V
    unfold b_X1_nearest_L11
    have es : jI k + 1 = jI (k + 1) := jadd rfl rfl
    refine ⟨o3, x_X6_officials hC hI h2 (eo := q3) ?_⟩
    refine br_le (T 11 2) k rfl rfl ⟨by omega, by omega⟩ ⟨by omega, by omega⟩ (fun c => ?_) (fun c => ?_)
    · rw [show k = T 11 2 by omega] at hb
      exact hK best V hC hF hb
    refine ⟨o3, x_reason hC hI h2 (eo := q3) rfl rfl rfl ⟨by omega, by omega⟩ ⟨by omega, by omega⟩ ⟨by omega, by omega⟩ ?_⟩
    have wb := whyF_b T g s k
    refine br_eq (whyF T g s k) 0 rfl rfl ⟨by omega, by omega⟩ ⟨by omega, by omega⟩ (fun c1 => ?_) (fun c1 => ?_)
    case refine_2 =>
      intro y hy
      rw [hy, es]
      exact ih best least cheap (k + 1) V hC hF (by omega) (by omega) (best_no k0 hb c1) (by omega) hi (by omega)
    refine ⟨o3, x_detour hC hI h2 hz (eo := q3) rfl rfl rfl ⟨⟨g0, g1⟩, s0, s1⟩ k0 c ⟨o3, x_pay hC hI h2 (eo := q3) rfl rfl rfl g0 g1 s0 (by omega) k0 c (fun Z cZ fZ => ?_)⟩⟩
    have fb := feeS_b hI h2 g s k g0 g1 s0 (by omega) k0 c
    have xb := extS_b hI g s k k0 c
    have kb := cb k k0 c
    refine al_lgi (feeS T g s k) (-9223372036854775808) rfl rfl ⟨by omega, by omega⟩ ⟨by omega, by omega⟩ 2147483648 (feeS T g s k) rfl rfl ?_
    rw [← kb.1]
    intro K14 hK14
    have take : (best = -1 ∨ betS T g s k best) → K14 := fun q => hK14 (fun x hx y hy => by
      rw [hx, hy, es]
      exact ih k (extS T g s k) (costS T g s k) (k + 1) Z cZ (fX_trans hF fZ) (by omega) (by omega) (best_new k0 hb c1 q) (by omega) (Or.inr ⟨k0, rfl, rfl⟩) (by omega))
    have pass : best ≠ -1 → ¬ betS T g s k best → ∀ y : Int32, y = jI k + 1 → w_X1_nearest_L11 3 (jI g) (jI s) post K fu (jI best) (jI least) (jL cheap) y Z := fun q q2 y hy => by
      rw [hy, es]
      exact ih best least cheap (k + 1) Z cZ (fX_trans hF fZ) (by omega) (by omega) (best_old k0 hb q q2) (by omega) hi (by omega)
    refine br_eq best (-1) rfl rfl ⟨by omega, by omega⟩ ⟨by omega, by omega⟩ (fun c2 => take (Or.inl c2)) (fun c2 => ?_)
    obtain ⟨i1, i2, i3⟩ := hi.resolve_left (fun q => c2 q.1)
    have iff : betS T g s k best ↔ extS T g s k < least ∨ (extS T g s k = least ∧ costS T g s k < cheap) := by
      unfold betS
      rw [i2, i3]
    refine br_lt (extS T g s k) least rfl rfl ⟨by omega, by omega⟩ ⟨by omega, by omega⟩ (fun c3 => take (Or.inr (iff.mpr (Or.inl c3)))) (fun c3 => ?_)
    refine br_eq (extS T g s k) least rfl rfl ⟨by omega, by omega⟩ ⟨by omega, by omega⟩ (fun c4 => ?_) (fun c4 => ?_)
    · refine br_ge (costS T g s k) cheap rfl rfl ⟨by omega, by omega⟩ ⟨by omega, by omega⟩ (fun c5 => ?_) (fun c5 => ?_)
      · exact pass c2 (fun q => by have := iff.mp q; omega)
      · exact take (Or.inr (iff.mpr (Or.inr ⟨c4, c5⟩)))
    · exact pass c2 (fun q => by have := iff.mp q; omega)
theorem x_nearest {U : Um} {T : Tm} {w : Nat} (hC : CC U T w) (hI : I1 T) (h2 : I2 T) (hz : I0 T) {ob : Nat} (eo : ob = 3) {a1 a2 : Int32} {g s : Int} (e1 : a1 = jI g) (e2 : a2 = jI s) (hs : isSeat T g s) {post : Int32 → Um → Prop} (h : ∀ V : Um, CC V T w → fX PL U V → post (jI (bestS T g s)) V) : w_X1_nearest ob a1 a2 U post := by
  subst e1 e2
  rw [eo]
  have hn := I_n hI
  unfold w_X1_nearest
  exact ⟨(T 11 2 - 0).toNat + 1, xl_nearest hI h2 hz hs (U0 := U) (fun best V cV fV hb => by
    have := h V cV fV
    rw [bestS_is hb] at this
    exact this) _ (-1) 0 0 0 U hC fX_rfl (by decide) (by omega) best_0 (by decide) (Or.inl ⟨rfl, rfl, rfl⟩) (Nat.lt_succ_self _)⟩
