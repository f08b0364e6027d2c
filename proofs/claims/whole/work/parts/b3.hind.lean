/-! the class: why not -/
theorem xl_fieldsOf {U : Um} {T : Tm} {w : Nat} (hC : CC U T w) (hI : I1 T) {x1 : Int32} {Q : Int → Prop} (hQ : ∀ h : Int, 0 ≤ h → h < 32 → (bt x1 h ↔ isGame T h ∧ Q h)) {post K : Int32 → Um → Prop} (hK : ∀ B : Int32, (∀ f : Int, 0 ≤ f → f < 32 → (bt B f ↔ ∃ g, (isGame T g ∧ Q g) ∧ gm T g 2 = f)) → K B U) : ∀ (fu : Nat) (x2 : Int32) (k : Int), 0 ≤ k → k ≤ T 11 0 → (∀ f : Int, 0 ≤ f → f < 32 → (bt x2 f ↔ f < k ∧ ∃ g, (isGame T g ∧ Q g) ∧ gm T g 2 = f)) → (T 11 0 - k).toNat < fu → w_X6_fieldsOf_L4 42 x1 post K fu x2 (jI k) U := by
  have hw := hC.1.1
  have hn := I_n hI
  have q0 := r_42 hC (x := 42) rfl
  intro fu
  induction fu with
  | zero => intro x2 k _ _ _ h; exact absurd h (Nat.not_lt_zero _)
  | succ fu ih =>
    intro x2 k k0 k1 hx hf
    show b_X6_fieldsOf_L4 42 x1 post K (w_X6_fieldsOf_L4 42 x1 post K fu) x2 (jI k) U
    unfold b_X6_fieldsOf_L4
    refine ⟨oc_of q0 (oc_w hw), jvp 0 rfl (by decide) (by decide) (by decide), ?_⟩
    refine br_le (T 11 0) k (c_n hC q0 0 rfl (by decide) (by decide)) rfl ⟨by omega, by omega⟩ ⟨by omega, by omega⟩ (fun c => ?_) (fun c => ?_)
    · refine hK x2 (fun f f0 f1 => (hx f f0 f1).trans ⟨fun q => q.2, fun q => ⟨?_, q⟩⟩)
      obtain ⟨g, ⟨hg, _⟩, e⟩ := q
      have := I_g hI g hg.1 hg.2
      unfold gOk at this
      omega
    refine ⟨oc_of q0 (oc_w hw), jvp k rfl (by omega) (by omega) (by decide), ?_⟩
    have hD := c_d14 hC q0 (E := jI k) k rfl k0 (by omega)
    have es : jI k + 1 = jI (k + 1) := jadd rfl rfl
    refine ⟨fun c2 y hy => ?_, fun c2 x4 hx4 y hy => ?_⟩
    · rw [hy, es]
      have c3 := bz_and.mp c2
      refine ih x2 (k + 1) (by omega) (by omega) (fun f f0 f1 => (hx f f0 f1).trans ⟨fun q => ⟨by omega, q.2⟩, fun q => ⟨?_, q.2⟩⟩) (by omega)
      obtain ⟨a, g, hg, e⟩ := q
      by_cases z : f = k
      · subst z
        exact absurd ⟨(hQ g hg.1.1 (by omega)).mpr hg, (hD g hg.1.1 (by omega)).mpr ⟨hg.1, e⟩⟩ (c3 g hg.1.1 (by omega))
      · omega
    · rw [hy, es]
      refine ih x4 (k + 1) (by omega) (by omega) (fun f f0 f1 => ?_) (by omega)
      rw [hx4, bt_or rfl k0 (by omega) f0 f1, hx f f0 f1]
      constructor
      · rintro (q | q)
        · exact ⟨by omega, q.2⟩
        · refine ⟨by omega, ?_⟩
          refine Classical.byContradiction (fun z => c2 (bz_and.mpr (fun h h0 h1 q2 => z ?_)))
          exact ⟨h, (hQ h h0 h1).mp q2.1, by rw [((hD h h0 h1).mp q2.2).2, q]⟩
      · intro q
        by_cases z : f = k
        · exact Or.inr z
        · exact Or.inl ⟨by omega, q.2⟩
theorem x_fieldsOf {U : Um} {T : Tm} {w : Nat} (hC : CC U T w) (hI : I1 T) {ob : Nat} (eo : ob = 42) {x1 : Int32} {Q : Int → Prop} (hQ : ∀ h : Int, 0 ≤ h → h < 32 → (bt x1 h ↔ isGame T h ∧ Q h)) {post : Int32 → Um → Prop} (h : ∀ B : Int32, (∀ f : Int, 0 ≤ f → f < 32 → (bt B f ↔ ∃ g, (isGame T g ∧ Q g) ∧ gm T g 2 = f)) → post B U) : w_X6_fieldsOf ob x1 U post := by
  rw [eo]
  have hn := I_n hI
  unfold w_X6_fieldsOf
  exact ⟨_, xl_fieldsOf hC hI hQ h ((T 11 0 - 0).toNat + 1) 0 0 (by decide) (by omega) (fun f f0 _ => ⟨fun q => absurd q bt_0, fun q => by omega⟩) (Nat.lt_succ_self _)⟩
theorem bar_iff {B E F : Int32} {t a b : Int} (hB : B = jI t) (hE : E = jI a) (hF : F = jI b) (a0 : 0 ≤ a) (a1 : a < 32) (b0 : 0 ≤ b) (b1 : b < 32) : (B &&& (((1 : Int32) <<< (E &&& 31)) ||| ((1 : Int32) <<< (F &&& 31)))) = 0 ↔ ¬ (bt (jI t) a ∨ bt (jI t) b) := by
  rw [hB, bz_and]
  constructor
  · rintro h (q | q)
    · exact h a a0 a1 ⟨q, by rw [bt_or hF b0 b1 a0 a1, bt_1 hE a0 a1 a0 a1]; exact Or.inl rfl⟩
    · exact h b b0 b1 ⟨q, by rw [bt_or hF b0 b1 b0 b1]; exact Or.inr rfl⟩
  · intro h f f0 f1 q
    rw [bt_or hF b0 b1 f0 f1, bt_1 hE a0 a1 f0 f1] at q
    rcases q with ⟨q, rfl | rfl⟩
    · exact h (Or.inl q)
    · exact h (Or.inr q)
set_option maxHeartbeats 4000000 in
theorem x_hind {U : Um} {T : Tm} {w : Nat} (hC : CC U T w) (hI : I1 T) (h2 : I2 T) {ob : Nat} (eo : ob = 42) {a1 a2 a3 a4 : Int32} {g s p : Int} (e1 : a1 = jI g) (e2 : a2 = jI s) (e3 : a3 = jI p) {P : Int → Prop} (hP : ∀ h : Int, 0 ≤ h → h < 32 → (bt a4 h ↔ isGame T h ∧ P h)) (g0 : 0 ≤ g) (g1 : g < T 11 3) (rs : r32 s) (p0 : 0 ≤ p) (p1 : p < T 11 2) {post : Int32 → Um → Prop} (h : post (jI (hind T P g s p)) U) : w_X6_hindrance ob a1 a2 a3 a4 U post := by
  subst e1 e2 e3
  rw [eo]
  have hw := hC.1.1
  have hn := I_n hI
  have hg := I_g hI g g0 g1
  unfold gOk at hg
  have ho := I_o hI p p0 p1
  unfold r32 at ho
  have hr := I_r h2 p p0 p1
  unfold r32 at hr
  have fn := I_need hI g s g0 g1
  have q0 := r_42 hC (x := 42) rfl
  have qg := r_g hC q0 (E := jI g) g rfl g0 (by omega)
  have k0 := c_g hC qg 0 g0 g1 (by decide)
  change _ = jI (gm T g 0) at k0
  have k1 := c_g hC qg 1 g0 g1 (by decide)
  change _ = jI (gm T g 1) at k1
  have k2 := c_g hC qg 2 g0 g1 (by decide)
  change _ = jI (gm T g 2) at k2
  have k3 := c_g hC qg 3 g0 g1 (by decide)
  change _ = jI (gm T g 3) at k3
  have ow := oc_of q0 (oc_w hw)
  have vp : vp_in (jI p) 10 := jvp p rfl (by omega) (by omega) (by decide)
  unfold w_X6_hindrance
  refine ⟨ow, jvp g rfl (by omega) (by omega) (by decide), oc_of qg (oc_g hw (by omega)), ow, jvp (gm T g 3) k3 (by omega) (by omega) (by decide), ?_⟩
  intro x6 hx6
  have hB : ∀ k : Int, 0 ≤ k → k < 32 → (bt x6 k ↔ isGame T k ∧ (gm T k 3 = gm T g 3 ∧ P k)) := fun k a b => by
    rw [hx6, bt_and, hP k a b, c_d13 hC q0 (gm T g 3) k3 (by omega) (by omega) k a b]
    exact ⟨fun q => ⟨q.1.1, q.2.2, q.1.2⟩, fun q => ⟨⟨q.1, q.2.2⟩, q.1, q.2.1⟩⟩
  clear hx6
  unfold hind at h
  refine br_bt0 (B2 := a4) g rfl rfl g0 (by omega) (fun c4 => ?_) (fun c4 => ?_)
  case refine_2 =>
    rw [cif_t ((hP g g0 (by omega)).mp c4).2] at h
    exact h
  have nP : ¬ P g := fun q => c4 ((hP g g0 (by omega)).mpr ⟨⟨g0, g1⟩, q⟩)
  rw [cif_f nP] at h
  have hO : ∀ k : Int, isGame T k ∧ (gm T k 3 = gm T g 3 ∧ P k) ↔ isGame T k ∧ otherS T P g k := fun k => ⟨fun q => ⟨q.1, fun z => nP (z ▸ q.2.2), q.2⟩, fun q => ⟨q.1, q.2.2⟩⟩
  refine ⟨vp, x_X2_needOf hC hI h2 (eo := qg) (s := s) rfl g0 g1 rs ?_⟩
  refine br_le (needS T g s) (T 32 p) rfl (c_gr hI hC rfl p rfl p0 p1) ⟨by omega, by omega⟩ ⟨by omega, by omega⟩ (fun c5 => ?_) (fun c5 => ?_)
  case refine_2 =>
    rw [cif_t c5] at h
    exact h
  rw [cif_f (show ¬ T 32 p < needS T g s by omega)] at h
  refine ⟨ow, vp, ?_⟩
  have bi := bar_iff (c_o4 hI hC q0 (E := jI p) p rfl p0 p1) k0 k1 (by omega) (by omega) (by omega) (by omega)
  refine ⟨fun c6 => ?_, fun c6 => ?_⟩
  case refine_2 =>
    rw [cif_t (Classical.byContradiction (fun z => c6 (bi.mpr z)))] at h
    exact h
  rw [cif_f (bi.mp c6)] at h
  refine ⟨ow, vp, br_bt0 (B2 := jI (T 8 p)) (gm T g 3) (c_o5 hI hC q0 p rfl p0 p1) k3 (by omega) (by omega) (fun c7 => ?_) (fun c7 => ?_)⟩
  case refine_2 =>
    rw [cif_t c7] at h
    exact h
  rw [cif_f c7] at h
  have cb := cnt_bt hI hB
  have e8 : cnt (bt x6) 16 = cnt (otherS T P g) (T 11 3) := cb.1.trans (cnt_c (by omega) (fun k k0 k1 => ⟨fun q => ((hO k).mp ⟨⟨k0, k1⟩, q⟩).2, fun q => ((hO k).mpr ⟨⟨k0, k1⟩, q⟩).2⟩))
  have b8 := cnt_b (p := bt x6) (n := 16) (by decide)
  refine x_pop cb.2 ⟨ow, ?_⟩
  refine br_lt (cnt (bt x6) 16) (T 11 5) rfl (c_n9 hC q0) ⟨by omega, by omega⟩ ⟨by omega, by omega⟩ (fun c8 => ?_) (fun c8 => ?_)
  case refine_2 =>
    rw [cif_t (show T 11 5 ≤ cnt (otherS T P g) (T 11 3) by omega)] at h
    exact h
  rw [cif_f (show ¬ T 11 5 ≤ cnt (otherS T P g) (T 11 3) by omega)] at h
  have h9 := c_g8 hC qg g0 g1
  have h10 := c_g9 hC qg g0 g1
  refine ⟨fun c9 => ?_, fun c9 => ?_⟩
  case refine_2 =>
    have m : meetS T P g (T 11 3) := Classical.byContradiction (fun z => c9 (bz_and.mpr (fun k k0 k1 q => z ?_)))
    · rw [cif_t m] at h
      exact h
    · have a := (hO k).mp ((hB k k0 k1).mp q.1)
      exact ⟨k, a.1.1, a.1.2, a.2, ((h9 k k0 k1).mp q.2).2.2⟩
  have nm : ¬ meetS T P g (T 11 3) := fun ⟨k, k0, k1, a, b⟩ => bz_and.mp c9 k k0 (by omega) ⟨(hB k k0 (by omega)).mpr ((hO k).mpr ⟨⟨k0, k1⟩, a⟩), (h9 k k0 (by omega)).mpr ⟨⟨k0, k1⟩, ⟨a.1, a.2.1⟩, b⟩⟩
  rw [cif_f nm] at h
  have rw6 := c_o3 hI hC q0 (E := jI p) p rfl p0 p1
  have way := c_r2 hI hC (r_wr hC q0) (T 6 p) (gm T g 2) rw6 k2 (by omega) (by omega) (by omega) (by omega)
  have wb := I_wS hI (T 6 p) (gm T g 2) (by omega) (by omega) (by omega) (by omega)
  refine ⟨ow, oc_of (r_wr hC q0) (oc_r hw), ow, vp, jvp (T 6 p) rw6 (by omega) (by omega) (by decide), jvp (gm T g 2) k2 (by omega) (by omega) (by decide), ?_⟩
  refine br_eq (wayS T (T 6 p) (gm T g 2)) (-1) way rfl ⟨by omega, by omega⟩ ⟨by omega, by omega⟩ (fun ca => ?_) (fun ca => ?_)
  case refine_1 =>
    rw [cif_t (show lateS T P g p (T 11 3) from Or.inl ca)] at h
    exact h
  refine ⟨fun cb => ?_, fun cb => ?_⟩
  case refine_2 =>
    have m : lateS T P g p (T 11 3) := Classical.byContradiction (fun z => cb (bz_and.mpr (fun k k0 k1 q => z (Or.inr ?_))))
    · rw [cif_t m] at h
      exact h
    · have a := (hO k).mp ((hB k k0 k1).mp q.1)
      exact ⟨k, a.1.1, a.1.2, a.2, ((h10 k k0 k1).mp q.2).2.2⟩
  have nl : ¬ lateS T P g p (T 11 3) := fun q => by
    rcases q with q | ⟨k, k0, k1, a, b⟩
    · exact ca q
    · exact bz_and.mp cb k k0 (by omega) ⟨(hB k k0 (by omega)).mpr ((hO k).mpr ⟨⟨k0, k1⟩, a⟩), (h10 k k0 (by omega)).mpr ⟨⟨k0, k1⟩, ⟨a.1, a.2.1⟩, b⟩⟩
  rw [cif_f nl] at h
  refine x_fieldsOf hC hI rfl (Q := fun k => otherS T P g k ∨ k = g) (fun k k0 k1 => ?_) (fun B hF => ?_)
  · rw [bt_or rfl g0 (by omega) k0 k1, hB k k0 k1]
    constructor
    · rintro (q | q)
      · have a := (hO k).mp q
        exact ⟨a.1, Or.inl a.2⟩
      · exact ⟨by omega, Or.inr q⟩
    · rintro ⟨a, q | q⟩
      · exact Or.inl ((hO k).mpr ⟨a, q⟩)
      · exact Or.inr q
  have hF2 : ∀ f : Int, 0 ≤ f → f < 32 → (bt B f ↔ fldS T P g (T 11 3) f) := fun f f0 f1 => (hF f f0 f1).trans ⟨fun ⟨k, ⟨a, b⟩, e⟩ => by
    rcases b with b | b
    · exact Or.inr ⟨k, a.1, a.2, b, e.symm⟩
    · exact Or.inl (by rw [← b, e]), fun q => by
    rcases q with q | ⟨k, k0, k1, a, e⟩
    · exact ⟨g, ⟨⟨g0, g1⟩, Or.inr rfl⟩, q.symm⟩
    · exact ⟨k, ⟨⟨k0, k1⟩, Or.inl a⟩, e.symm⟩⟩
  have hF3 : ∀ f : Int, 6 ≤ f → f < 32 → ¬ bt B f := fun f f0 f1 q => by
    obtain ⟨k, ⟨a, _⟩, e⟩ := (hF f (by omega) f1).mp q
    have := I_g hI k a.1 a.2
    unfold gOk at this
    omega
  have ec : cnt (bt B) 16 = cnt (fldS T P g (T 11 3)) 6 := (cnt_x (n := 6) (by decide) (by decide) (fun k k0 k1 => hF3 k k0 (by omega))).trans (cnt_c (by decide) (fun k k0 k1 => hF2 k k0 (by omega)))
  have b9 := cnt_b (p := bt B) (n := 16) (by decide)
  refine x_pop (fun f f0 f1 => hF3 f (by omega) f1) ?_
  refine br_le (cnt (bt B) 16) 2 rfl rfl ⟨by omega, by omega⟩ ⟨by omega, by omega⟩ (fun cc => ?_) (fun cc => ?_)
  · rw [cif_f (show ¬ 2 < cnt (fldS T P g (T 11 3)) 6 by omega)] at h
    exact h
  · rw [cif_t (show 2 < cnt (fldS T P g (T 11 3)) 6 by omega)] at h
    exact h
theorem x_reason {U : Um} {T : Tm} {w : Nat} (hC : CC U T w) (hI : I1 T) (h2 : I2 T) {ob : Nat} (eo : ob = 42) {a1 a2 a3 : Int32} {g s p : Int} (e1 : a1 = jI g) (e2 : a2 = jI s) (e3 : a3 = jI p) (rg : r32 g) (rs : r32 s) (rp : r32 p) {post : Int32 → Um → Prop} (h : post (jI (whyF T g s p)) U) : w_X6_reason ob a1 a2 a3 U post := by
  subst e1 e2 e3
  rw [eo]
  have hw := hC.1.1
  have hn := I_n hI
  have q0 := r_42 hC (x := 42) rfl
  have ow := oc_of q0 (oc_w hw)
  unfold w_X6_reason
  unfold whyF whyS at h
  refine ⟨ow, x_X9_isSeat hC hI h2 (eo := q0) rfl rfl rg rs (fun c1 => ?_) (fun c1 => ?_)⟩
  case refine_2 =>
    rw [cif_f (fun q => c1 q.1)] at h
    exact br_0 h
  refine br_1 ⟨ow, x_X9_isNamed hC hI h2 (eo := q0) (k := 2) rfl rfl (by decide) rp (fun c2 => ?_) (fun c2 => ?_)⟩
  case refine_2 =>
    rw [cif_f (fun q => c2 q.2)] at h
    exact br_0 h
  rw [cif_t ⟨c1, c2⟩] at h
  refine br_1 (x_X6_isPlayed hC hI h2 (eo := rfl) rfl c1.1.1 c1.1.2 (fun c3 => ?_) (fun c3 => ?_))
  · rw [cif_t c3] at h
    exact br_1 h
  rw [cif_f c3] at h
  have hg := I_g hI g c1.1.1 c1.1.2
  unfold gOk at hg
  have ik := I_k h2 (3 * g + s) (by omega) (by omega)
  refine br_0 (x_X9_placeOf (g := g) (s := s) rfl rfl ⟨jvp (3 * g + s) rfl (by omega) (by omega) (by decide), ?_⟩)
  refine br_eq (T 30 (3 * g + s)) (-1) (c_h hC rfl (3 * g + s) rfl (by omega) (by omega)) rfl ⟨by omega, by omega⟩ ⟨by omega, by omega⟩ (fun c4 => ?_) (fun c4 => ?_)
  · rw [cif_f (fun q => q c4)] at h
    exact ⟨jvp p rfl (by omega) (by omega) (by decide), x_hind hC hI h2 rfl rfl rfl rfl (c_he hI hC rfl p rfl c2.1 c2.2) c1.1.1 c1.1.2 rs c2.1 c2.2 h⟩
  · rw [cif_t c4] at h
    exact h
