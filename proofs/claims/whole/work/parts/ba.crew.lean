/-! the class: crews -/
abbrev PD (o k : Nat) : Prop := (o = 42 ∧ (k = 2 ∨ k = 7)) ∨ o = 3
theorem PS_D : ∀ o k, PS o k → PD o k := fun _ _ q => Or.inl q
theorem P3_Z : ∀ o k : Nat, o = 3 → PZ o k := fun _ _ q => Or.inl (by omega)
theorem P3_D : ∀ o k : Nat, o = 3 → PD o k := fun _ _ q => Or.inr q
theorem I0_30 {T : Tm} {i v : Int} (h : I0 T) : I0 (up T 30 i v) := h
theorem whyF_S {T : Tm} {g s o : Int} (hs : isSeat T g s) (ho : isOne T o) (hp : ¬ gm T g 3 < T 35 0) : whyF T g s o = whyS T g s o := by
  unfold whyF
  rw [cif_t ⟨hs, ho⟩, cif_f hp]
def dwOk (U : Um) (n : Int) (st : Cw) : Prop := (st.1 = 0 ∨ st.1 = 1) ∧ uI U 3 5 = jI st.1 ∧ (st.1 ≠ 0 → uI U 3 4 = jI st.2.1 ∧ (-2000000 ≤ st.2.1 ∧ st.2.1 ≤ 2000000) ∧ ∀ k : Int, 0 ≤ k → k < n → uA U 3 3 k.toNat = jI (st.2.2 k))
theorem dwOk_x {U V : Um} {n : Int} {st : Cw} (h : dwOk U n st) (hf : fX PS U V) : dwOk V n st := by
  have f := fun k => hf.2.2 3 k (by omega)
  unfold dwOk at h ⊢
  rw [(f 5).1, (f 4).1, (f 3).2.2.1]
  exact h
theorem x_crewL {w d : Nat} {T : Tm} {U : Um} {g sum : Int} {st : Cw} (hC : CC U T w) (hI : I1 T) (h2 : I2 T) (hg : isGame T g) (post : Um → Prop) (K : Int32 → Um → Prop) : ∀ (m : Nat) (s : Int) (fu : Nat), m < fu → 0 ≤ s → s + m = gm T g 7 → (∀ (j : Nat) (s2 : Int), s2 + j = gm T g 7 → s ≤ s2 → crwN g m T s sum st = crwN g j T s2 sum st → (j = 0 ∨ T 30 (3 * g + s2) = -1) → K (jI s2) U) → w_X1_tryCrew_L20 (w_X1_tryCrew d) 3 (jI g) (jI sum) (jI (gm T g 7)) post K fu (jI s) U := by
  have hgk := I_g hI g hg.1 hg.2
  unfold gOk at hgk
  have hn := I_n hI
  have q3 := r_3 hC (x := 3) rfl
  intro m
  induction m with
  | zero =>
    intro s fu hfu s0 sn hk
    match fu, hfu with
    | fu + 1, hfu =>
      show b_X1_tryCrew_L20 (w_X1_tryCrew d) 3 (jI g) (jI sum) (jI (gm T g 7)) post K (w_X1_tryCrew_L20 (w_X1_tryCrew d) 3 (jI g) (jI sum) (jI (gm T g 7)) post K fu) (jI s) U
      unfold b_X1_tryCrew_L20
      exact br_le (gm T g 7) s rfl rfl ⟨by omega, by omega⟩ ⟨by omega, by omega⟩ (fun _ => hk 0 s sn (Int.le_refl s) rfl (Or.inl rfl)) (fun c => absurd c (by omega))
  | succ m ih =>
    intro s fu hfu s0 sn hk
    have ss : jI s + 1 = jI (s + 1) := jadd rfl rfl
    have ik := I_k h2 (3 * g + s) (by omega) (by omega)
    match fu, hfu with
    | fu + 1, hfu =>
      show b_X1_tryCrew_L20 (w_X1_tryCrew d) 3 (jI g) (jI sum) (jI (gm T g 7)) post K (w_X1_tryCrew_L20 (w_X1_tryCrew d) 3 (jI g) (jI sum) (jI (gm T g 7)) post K fu) (jI s) U
      unfold b_X1_tryCrew_L20
      refine br_le (gm T g 7) s rfl rfl ⟨by omega, by omega⟩ ⟨by omega, by omega⟩ (fun c => absurd c (by omega)) (fun _ => ?_)
      refine ⟨oc_of q3 rfl, x_X9_placeOf (g := g) (s := s) rfl rfl ⟨jvp (3 * g + s) rfl (by omega) (by omega) (by decide), ?_⟩⟩
      refine br_eq (T 30 (3 * g + s)) (-1) (c_h hC q3 (3 * g + s) rfl (by omega) (by omega)) rfl ⟨by omega, by omega⟩ ⟨by omega, by omega⟩ (fun c1 => ?_) (fun c1 => ?_)
      · exact hk (m + 1) s sn (Int.le_refl s) rfl (Or.inr c1)
      · intro y hy
        rw [hy, ss]
        refine ih (s + 1) fu (by omega) (by omega) (by omega) (fun j s2 a b e z => hk j s2 a (by omega) ?_ z)
        rw [← e]
        show cif (T 30 (3 * g + s) ≠ -1) (crwN g m T (s + 1) sum st) _ = _
        rw [cif_t c1]
set_option maxHeartbeats 4000000 in
theorem x_tryCrew {w : Nat} (g : Int) : ∀ (d : Nat) (n : Nat), n < d → ∀ (T : Tm) (s sum : Int) (U : Um) (st : Cw) (post : Um → Prop), CC U T w → I1 T → I2 T → I0 T → isGame T g → ¬ gm T g 3 < T 35 0 → 0 ≤ s → s + n = gm T g 7 → (-340000 * s ≤ sum ∧ sum ≤ 340000 * s) → dwOk U (gm T g 7) st → (∀ V : Um, CC V T w → fX PD U V → dwOk V (gm T g 7) (crwN g n T s sum st) → post V) → w_X1_tryCrew d 3 (jI g) (jI s) (jI sum) U post := by
  intro d
  induction d with
  | zero => intro n hd; exact absurd hd (Nat.not_lt_zero _)
  | succ d ihd =>
    intro n0 hd T sI sum U st post hC hI h2 hz hg hp s00 sn0 hsum0 hc h
    have hgk := I_g hI g hg.1 hg.2
    unfold gOk at hgk
    have hn := I_n hI
    have hw := hC.1.1
    have q3 := r_3 hC (x := 3) rfl
    have q0 := r_42 hC q3
    have qg := r_g hC q0 (E := jI g) g rfl hg.1 (by omega)
    show b_X1_tryCrew (w_X1_tryCrew d) 3 (jI g) (jI sI) (jI sum) U post
    unfold b_X1_tryCrew
    refine ⟨oc_of q3 rfl, oc_of q0 (oc_w hw), jvp g rfl hg.1 (by omega) (by decide), oc_of qg (oc_g hw (by omega)), al_i (gm T g 7) (c_g hC qg 7 hg.1 hg.2 (by decide)) ?_⟩
    intro y0 hy0
    rw [hy0]
    refine ⟨n0 + 1, x_crewL (st := st) hC hI h2 hg post _ n0 sI (n0 + 1) (Nat.lt_succ_self _) s00 sn0 (fun n s sn hss hcr hor => ?_)⟩
    rw [hcr] at h
    have s0 : 0 ≤ s := by omega
    have hsum : -340000 * s ≤ sum ∧ sum ≤ 340000 * s := by omega
    clear hcr hsum0
    show _ ∧ _
    refine br_le (gm T g 7) s rfl rfl ⟨by omega, by omega⟩ ⟨by omega, by omega⟩ (fun cz => ?_) (fun cz => ?_)
    · have nz : n = 0 := by omega
      subst nz
      intro K hK
      have new : ¬ (st.1 ≠ 0 ∧ st.2.1 ≤ sum) → K := by
        intro q
        refine hK (fun U1 e1 U2 e2 => ?_)
        have f2 : fX (fun o _ => o = 3) U U2 := by rw [e2, e1]; exact fX_trans (fX_sI rfl) (fX_sI rfl)
        have c2 := CC_x hI f2 P3_Z hC
        have z3 := r_3 c2 (x := 3) rfl
        refine ⟨oc_of z3 rfl, x_X9_placeOf (g := g) (s := 0) rfl rfl ?_⟩
        have e3g : Int32.toNatClampNeg (jI (3 * g + 0)) = (3 * g).toNat := by rw [jI_nat (by omega) (by omega), Int.add_zero]
        have e7 : Int32.toNatClampNeg (jI (gm T g 7)) = (gm T g 7).toNat := jI_nat (by omega) (by omega)
        have neg : ∀ x : Int, 0 ≤ x → x ≤ 1000 → ¬ jI x < 0 := fun x a b z => by
          have := (jI_lt (b := 0) ⟨by omega, by omega⟩ ⟨by omega, by omega⟩).mp z
          omega
        refine ⟨⟨neg _ (by omega) (by omega), by decide, neg _ (by omega) (by omega), by rw [e3g, e7]; omega, by rw [e7]; show 0 + _ ≤ 3; omega⟩, fun U3 e3 => ?_⟩
        have f3 : fX (fun o _ => o = 3) U U3 := by rw [e3]; exact fX_trans f2 (fX_sA rfl)
        refine h U3 (CC_x hI f3 P3_Z hC) (fX_w P3_D f3) ?_
        show dwOk U3 (gm T g 7) (if st.1 ≠ 0 ∧ st.2.1 ≤ sum then st else (1, sum, fun k => T 30 (3 * g + k)))
        rw [if_neg q]
        refine ⟨Or.inr rfl, ?_, fun _ => ⟨?_, (show -2000000 ≤ sum ∧ sum ≤ 2000000 by omega), fun k k0 k1 => ?_⟩⟩
        · rw [e3, uI_sA, e2, uI_sI, if_neg (by decide), e1, uI_sI, if_pos ⟨rfl, rfl⟩]
          rfl
        · rw [e3, uI_sA, e2, uI_sI, if_pos ⟨rfl, rfl⟩]
        · rw [e3, uA_sA, if_pos ⟨rfl, rfl⟩, e3g, e7, z3]
          show va_cpy _ _ _ 0 _ _ = _
          rw [show va_cpy (uA U2 42 2) (uA U2 3 3) (3 * g).toNat 0 (gm T g 7).toNat k.toNat = uA U2 42 2 ((3 * g).toNat + (k.toNat - 0)) from if_pos ⟨Nat.zero_le _, by omega⟩]
          rw [show (3 * g).toNat + (k.toNat - 0) = (3 * g + k).toNat by omega]
          exact (c2.2.2.2.1 (3 * g + k) (by omega) (by omega)).1
      refine br_eq st.1 0 hc.2.1 rfl (by rcases hc.1 with z | z <;> rw [z] <;> exact ⟨by omega, by omega⟩) ⟨by omega, by omega⟩ (fun q => new (fun z => z.1 q)) (fun q => ?_)
      have hb := hc.2.2 q
      refine br_le st.2.1 sum hb.1 rfl ⟨by omega, by omega⟩ ⟨by omega, by omega⟩ (fun c3 => ?_) (fun c3 => new (fun z => by omega))
      refine h U hC fX_rfl ?_
      show dwOk U (gm T g 7) (if st.1 ≠ 0 ∧ st.2.1 ≤ sum then st else (1, sum, fun k => T 30 (3 * g + k)))
      rw [if_pos ⟨q, c3⟩]
      exact hc
    obtain ⟨n1, e1⟩ : ∃ n1, n = n1 + 1 := ⟨n - 1, by omega⟩
    subst e1
    have c1 : T 30 (3 * g + s) = -1 := hor.resolve_left (by omega)
    have ik := I_k h2 (3 * g + s) (by omega) (by omega)
    have hseat : isSeat T g s := ⟨hg, s0, by omega⟩
    have ss : jI s + 1 = jI (s + 1) := jadd rfl rfl
    show b_X1_tryEachIn (w_X1_tryCrew d) 3 (jI g) (jI s) (jI sum) U post
    unfold b_X1_tryEachIn
    have lp : ∀ (fu : Nat) (o : Int) (V : Um), CC V T w → fX PD U V → 0 ≤ o → o ≤ T 11 2 → dwOk V (gm T g 7) (foN (fun o x => cif (whyS T g s o = 0) (crwN g n1 (up T 30 (3 * g + s) o) (s + 1) (sum + extS T g s o) x) x) o.toNat st) → (T 11 2 - o).toNat < fu → w_X1_tryEachIn_L3 (w_X1_tryCrew d) 3 (jI g) (jI s) (jI sum) post post fu (jI o) V := by
      intro fu
      induction fu with
      | zero => intro o V _ _ _ _ _ hm; exact absurd hm (Nat.not_lt_zero _)
      | succ fu ih =>
        intro o V hV hF o0 o1 hcw hm
        have v3 := r_3 hV (x := 3) rfl
        have o3 := oc_of v3 (show oc 42 = 5 from rfl)
        show b_X1_tryEachIn_L3 (w_X1_tryCrew d) 3 (jI g) (jI s) (jI sum) post post (w_X1_tryEachIn_L3 (w_X1_tryCrew d) 3 (jI g) (jI s) (jI sum) post post fu) (jI o) V
        unfold b_X1_tryEachIn_L3
        refine ⟨o3, x_X6_officials hV hI h2 (eo := v3) (br_le (T 11 2) o rfl rfl ⟨by omega, by omega⟩ ⟨by omega, by omega⟩ (fun c2 => ?_) (fun c2 => ?_))⟩
        · refine h V hV hF ?_
          have e : o = T 11 2 := by omega
          show dwOk V (gm T g 7) (cif (T 30 (3 * g + s) ≠ -1) (crwN g n1 T (s + 1) sum st) (foN (fun o x => cif (whyS T g s o = 0) (crwN g n1 (up T 30 (3 * g + s) o) (s + 1) (sum + extS T g s o) x) x) (T 11 2).toNat st))
          rw [cif_f (fun q => q c1), ← e]
          exact hcw
        have es : (o + 1).toNat = o.toNat + 1 := by omega
        have eo : ((o.toNat : Nat) : Int) = o := Int.toNat_of_nonneg o0
        have so : jI o + 1 = jI (o + 1) := jadd rfl rfl
        have hone : isOne T o := ⟨o0, c2⟩
        have hwb := whyF_b T g s o
        have hwe := whyF_S hseat hone hp
        refine ⟨o3, x_reason hV hI h2 (eo := v3) rfl rfl rfl ⟨by omega, by omega⟩ ⟨by omega, by omega⟩ ⟨by omega, by omega⟩ ?_⟩
        refine br_eq (whyF T g s o) 0 rfl rfl ⟨by omega, by omega⟩ ⟨by omega, by omega⟩ (fun c3 => ?_) (fun c3 => ?_)
        · rw [hwe] at c3
          have hwh := whyS_0 c3
          have hx := extS_b hI g s o o0 c2
          refine ⟨o3, x_detour hV hI h2 hz (eo := v3) rfl rfl rfl hseat o0 c2 ⟨o3, x_sit hV hI (eo := v3) rfl rfl rfl hseat hone c1 (fun V1 d1 f1 => ?_)⟩⟩
          rw [ss, jI_add]
          have I1a : I1 (up T 30 (3 * g + s) o) := I1_30 hI
          have I2a : I2 (up T 30 (3 * g + s) o) := I2_put hI h2 hseat hone hwh.2
          refine ihd n1 (by omega) (up T 30 (3 * g + s) o) (s + 1) (sum + extS T g s o) V1 _ _ d1 I1a I2a (I0_30 hz) hg hp (by omega) (show s + 1 + n1 = gm T g 7 by omega) (by omega) (dwOk_x hcw f1) (fun V4 m4 f4 c4 => ?_)
          have v4 := r_3 m4 (x := 3) rfl
          refine ⟨oc_of v4 rfl, x_rise m4 I1a I2a (eo := v4) rfl rfl hseat (fun V5 m5 f5 => ?_)⟩
          have back : up (up T 30 (3 * g + s) o) 30 (3 * g + s) (-1) = T := by rw [up_up, up_id c1]
          rw [back] at m5
          intro y hy
          rw [hy, so]
          refine ih (o + 1) V5 m5 (fX_trans hF (fX_trans (fX_w PS_D f1) (fX_trans f4 (fX_w PS_D f5)))) (by omega) (by omega) ?_ (by omega)
          rw [es]
          show dwOk V5 (gm T g 7) (cif (whyS T g s ((o.toNat : Nat) : Int) = 0) (crwN g n1 (up T 30 (3 * g + s) ((o.toNat : Nat) : Int)) (s + 1) (sum + extS T g s ((o.toNat : Nat) : Int)) (foN _ o.toNat st)) (foN _ o.toNat st))
          rw [eo, cif_t c3]
          exact dwOk_x c4 f5
        · rw [hwe] at c3
          intro y hy
          rw [hy, so]
          refine ih (o + 1) V hV hF (by omega) (by omega) ?_ (by omega)
          rw [es]
          show dwOk V (gm T g 7) (cif (whyS T g s ((o.toNat : Nat) : Int) = 0) _ (foN _ o.toNat st))
          rw [eo, cif_f c3]
          exact hcw
    exact ⟨(T 11 2 - 0).toNat + 1, lp _ 0 U hC fX_rfl (by decide) (by omega) hc (Nat.lt_succ_self _)⟩
theorem x_findCrew {U : Um} {T : Tm} {w : Nat} (hC : CC U T w) (hI : I1 T) (h2 : I2 T) (hz : I0 T) {ob : Nat} (eo : ob = 3) {a1 a2 : Int32} {g v : Int} (e1 : a1 = jI g) (e2 : a2 = jI v) (hg : isGame T g) (hv : 0 ≤ v ∧ v ≤ gm T g 7) {post : Int32 → Um → Prop} (h : ∀ V : Um, CC V T w → fX PD U V → post (jI (crewS T g v)) V) : w_X1_findCrew ob a1 a2 U post := by
  subst e1 e2
  rw [eo]
  have hn := I_n hI
  have hgk := I_g hI g hg.1 hg.2
  unfold gOk at hgk
  have q3 := r_3 hC (x := 3) rfl
  unfold w_X1_findCrew
  refine ⟨oc_of q3 rfl, x_X6_isPlayed hC hI h2 (eo := q3) rfl hg.1 hg.2 (fun c => ?_) (fun c => ?_)⟩
  · have := h U hC fX_rfl
    unfold crewS at this
    rw [cif_f (fun q => q.2.1 c)] at this
    exact br_1 this
  refine br_0 (fun U1 e1 => ?_)
  have f1 : fX (fun o _ => o = 3) U U1 := by rw [e1]; exact fX_sI rfl
  refine x_tryCrew g 4 (gm T g 7).toNat (by omega) T 0 0 U1 (0, 0, fun _ => 0) _ (CC_x hI f1 P3_Z hC) hI h2 hz hg c (by decide) (by omega) (by decide) ⟨Or.inl rfl, by rw [e1, uI_sI, if_pos ⟨rfl, rfl⟩]; rfl, fun q => absurd rfl q⟩ (fun V cV fV dV => ?_)
  have := h V cV (fX_trans (fX_w P3_D f1) fV)
  unfold crewS at this
  rw [cif_t ⟨hg, c, hv.1, hv.2⟩] at this
  have d2 : dwOk V (gm T g 7) (crw0 T g) := dV
  refine br_eq (crw0 T g).1 0 d2.2.1 rfl (by rcases d2.1 with z | z <;> rw [z] <;> exact ⟨by omega, by omega⟩) ⟨by omega, by omega⟩ (fun q => ?_) (fun q => ?_)
  · rw [if_pos q] at this
    exact this
  · rw [if_neg q] at this
    have w3 := d2.2.2 q
    refine br_eq v 0 rfl rfl ⟨by omega, by omega⟩ ⟨by omega, by omega⟩ (fun q2 => ?_) (fun q2 => ?_)
    · rw [if_pos q2] at this
      exact pst w3.1 this
    · rw [if_neg q2] at this
      refine ⟨jvp (v - 1) (jsub rfl rfl) (by omega) (by omega) (by decide), ?_⟩
      refine pst ?_ this
      rw [show jI v - 1 = jI (v - 1) from jsub rfl rfl, jI_nat (by omega) (by omega)]
      exact w3.2.2 (v - 1) (by omega) (by omega)
