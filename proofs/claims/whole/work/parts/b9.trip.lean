/-! the class: ways and trips -/
theorem xl_tow {U : Um} {T : Tm} {w : Nat} (hC : CC U T w) (hI : I1 T) {a b : Int} (ha : isField T a) (hb : isField T b) {post : Int32 → Um → Prop} {K : Um → Prop} (hR : ∀ k : Int, a ≠ b → wayS T a b ≠ -1 → 0 ≤ k → k < T 11 0 → onway T a b k → (∀ j, 0 ≤ j → j < k → ¬ onway T a b j) → post (jI k) U) (hK : (a = b ∨ wayS T a b = -1 ∨ ∀ j, 0 ≤ j → j < T 11 0 → ¬ onway T a b j) → K U) : ∀ (fu : Nat) (k : Int), 0 ≤ k → k ≤ T 11 0 → (∀ j, 0 ≤ j → j < k → ¬ onway T a b j) → (T 11 0 - k).toNat < fu → w_X5_firstOn_L12 (w + 2) (jI a) (jI b) (jI (wayS T a b)) post K fu (jI k) U := by
  have hn := I_n hI
  have hw := hC.1.1
  have wb := I_wS hI a b (by omega) (by omega) (by omega) (by omega)
  intro fu
  induction fu with
  | zero => intro k _ _ _ h; exact absurd h (Nat.not_lt_zero _)
  | succ fu ih =>
    intro k k0 k1 hj hf
    show b_X5_firstOn_L12 (w + 2) (jI a) (jI b) (jI (wayS T a b)) post K (w_X5_firstOn_L12 (w + 2) (jI a) (jI b) (jI (wayS T a b)) post K fu) (jI k) U
    unfold b_X5_firstOn_L12
    refine br_le (T 11 0) k (c_r0 hC rfl) rfl ⟨by omega, by omega⟩ ⟨by omega, by omega⟩ (fun c => ?_) (fun c => ?_)
    · exact hK (Or.inr (Or.inr (fun j a b => hj j a (by omega))))
    refine br_eq a b rfl rfl ⟨by omega, by omega⟩ ⟨by omega, by omega⟩ (fun c1 => hK (Or.inl c1)) (fun c1 => ?_)
    refine br_eq (wayS T a b) (-1) rfl rfl ⟨by omega, by omega⟩ ⟨by omega, by omega⟩ (fun c2 => hK (Or.inr (Or.inl c2))) (fun c2 => ?_)
    have vk : vp_in (jI k) 6 := jvp k rfl k0 (by omega) (by decide)
    have vb : vp_in (jI b) 6 := jvp b rfl hb.1 (by omega) (by decide)
    have va : vp_in (jI a) 6 := jvp a rfl ha.1 (by omega) (by decide)
    have wk := I_wS hI k b (by omega) (by omega) (by omega) (by omega)
    have rk := I_w hI (6 * a + k) (by omega) (by omega)
    have r1 := c_r1 hI hC (x := w + 2) rfl (E := jI a) (F := jI k) a k rfl rfl ha.1 ha.2 k0 c
    have es : jI k + 1 = jI (k + 1) := jadd rfl rfl
    have pass : ¬ onway T a b k → ∀ y : Int32, y = jI k + 1 → w_X5_firstOn_L12 (w + 2) (jI a) (jI b) (jI (wayS T a b)) post K fu y U := fun q y hy => by
      rw [hy, es]
      refine ih (k + 1) (by omega) (by omega) (fun j a b z => ?_) (by omega)
      by_cases e : j = k
      · rw [e] at z
        exact q z
      · exact hj j a (by omega) z
    refine ⟨vk, vb, al_i (wayS T k b) (c_r2 hI hC rfl k b rfl rfl k0 c hb.1 hb.2) ⟨va, vk, ?_⟩⟩
    refine br_le (T 2 (6 * a + k)) 0 r1 rfl ⟨by omega, by omega⟩ ⟨by omega, by omega⟩ (fun c3 => pass (fun q => by have := q.1; omega)) (fun c3 => ?_)
    refine br_eq (wayS T k b) (-1) rfl rfl ⟨by omega, by omega⟩ ⟨by omega, by omega⟩ (fun c4 => pass (fun q => q.2.1 c4)) (fun c4 => ?_)
    refine ⟨va, vk, br_eq (T 2 (6 * a + k) + wayS T k b) (wayS T a b) (jadd r1 rfl) rfl ⟨by omega, by omega⟩ ⟨by omega, by omega⟩ (fun c5 => ?_) (fun c5 => pass (fun q => c5 q.2.2))⟩
    exact hR k c1 c2 k0 c ⟨c3, c4, c5⟩ hj
theorem x_tow {U : Um} {T : Tm} {w : Nat} (hC : CC U T w) (hI : I1 T) {ob : Nat} (eo : ob = w + 2) {a1 a2 : Int32} {a b : Int} (e1 : a1 = jI a) (e2 : a2 = jI b) (ha : isField T a) (hb : isField T b) {post : Int32 → Um → Prop} (h : post (jI (towS T a b)) U) : w_X5_firstOn ob a1 a2 U post := by
  subst e1 e2
  rw [eo]
  have hn := I_n hI
  unfold w_X5_firstOn
  unfold towS at h
  refine ⟨jvp a rfl ha.1 (by omega) (by decide), jvp b rfl hb.1 (by omega) (by decide), al_i (wayS T a b) (c_r2 hI hC rfl a b rfl rfl ha.1 ha.2 hb.1 hb.2) ?_⟩
  refine ⟨(T 11 0 - 0).toNat + 1, xl_tow hC hI ha hb (fun k n1 n2 k0 k1 ok hj => ?_) (fun q => ?_) _ 0 (by decide) (by omega) (fun j a b => by omega) (Nat.lt_succ_self _)⟩
  · rw [cif_t ⟨ha, hb, n1, n2⟩, fst_is k0 k1 ok hj] at h
    exact h
  · by_cases z : isField T a ∧ isField T b ∧ a ≠ b ∧ wayS T a b ≠ -1
    · rw [cif_t z, fst_no (by omega) (by
        rcases q with q | q | q
        · exact absurd q z.2.2.1
        · exact absurd q z.2.2.2
        · exact q)] at h
      exact h
    · rw [cif_f z] at h
      exact h
theorem xl_mid20 {U : Um} {T : Tm} {w : Nat} (hC : CC U T w) (hI : I1 T) (h2 : I2 T) {x1 x2 : Int32} {f : Int} (hf : isField T f) {post K : Int32 → Um → Prop} (hK : K (jI (hubN T f)) U) : ∀ (fu : Nat) (k : Int), 0 ≤ k → k ≤ T 11 0 → (T 11 0 - k).toNat < fu → w_X5_middle_L20 (w + 2) x1 x2 (jI f) post K fu (jI (sm (fun k => if wayS T f k = -1 then 999 else wayS T f k) k)) (jI k) U := by
  have hn := I_n hI
  intro fu
  induction fu with
  | zero => intro k _ _ h; exact absurd h (Nat.not_lt_zero _)
  | succ fu ih =>
    intro k k0 k1 hfu
    show b_X5_middle_L20 (w + 2) x1 x2 (jI f) post K (w_X5_middle_L20 (w + 2) x1 x2 (jI f) post K fu) _ (jI k) U
    unfold b_X5_middle_L20
    refine br_le (T 11 0) k (c_r0 hC rfl) rfl ⟨by omega, by omega⟩ ⟨by omega, by omega⟩ (fun c => ?_) (fun c => ?_)
    · rw [show k = T 11 0 by omega]
      exact hK
    · refine x_X5_stretch hC hI h2 (eo := rfl) (a := f) (b := k) rfl rfl hf ⟨k0, c⟩ (al_i (sm (fun k => if wayS T f k = -1 then 999 else wayS T f k) (k + 1)) (by rw [sm_s k0]; exact jadd rfl rfl) (fun y hy => ?_))
      rw [hy, show jI k + 1 = jI (k + 1) from jadd rfl rfl]
      exact ih (k + 1) (by omega) (by omega) (by omega)
theorem xl_mid6 {U : Um} {T : Tm} {w : Nat} (hC : CC U T w) (hI : I1 T) (h2 : I2 T) {post K : Int32 → Um → Prop} (hK : ∀ best : Int, hubR T best → K (jI best) U) : ∀ (fu : Nat) (best least f : Int), 0 ≤ f → f ≤ T 11 0 → hubI T f best least → (T 11 0 - f).toNat < fu → w_X5_middle_L6 (w + 2) post K fu (jI best) (jI least) (jI f) U := by
  have hn := I_n hI
  intro fu
  induction fu with
  | zero => intro best least f _ _ _ h; exact absurd h (Nat.not_lt_zero _)
  | succ fu ih =>
    intro best least f f0 f1 hh hfu
    have hb := hub_ib hI f0 f1 hh
    show b_X5_middle_L6 (w + 2) post K (w_X5_middle_L6 (w + 2) post K fu) (jI best) (jI least) (jI f) U
    unfold b_X5_middle_L6
    refine br_le (T 11 0) f (c_r0 hC rfl) rfl ⟨by omega, by omega⟩ ⟨by omega, by omega⟩ (fun c => ?_) (fun c => ?_)
    · exact hK best (hub_r f1 c hh)
    have nb := hub_nb hI f0 c
    have es : jI f + 1 = jI (f + 1) := jadd rfl rfl
    have st := fun (K2 : Int32 → Um → Prop) (h : K2 (jI (hubN T f)) U) => xl_mid20 (post := post) (x1 := jI best) (x2 := jI least) hC hI h2 ⟨f0, c⟩ h ((T 11 0 - 0).toNat + 1) 0 (by decide) (by omega) (Nat.lt_succ_self _)
    refine ⟨_, st _ ?_⟩
    have take : (best = -1 ∨ hubN T f < least) → ∀ x : Int32, x = jI f → ∀ y : Int32, y = jI f + 1 → w_X5_middle_L6 (w + 2) post K fu x (jI (hubN T f)) y U := fun q x hx y hy => by
      rw [hx, hy, es]
      exact ih f (hubN T f) (f + 1) (by omega) (by omega) (hub_t f0 hh rfl q) (by omega)
    refine br_eq best (-1) rfl rfl ⟨by omega, by omega⟩ ⟨by omega, by omega⟩ (fun c2 => take (Or.inl c2)) (fun c2 => ?_)
    refine br_le least (hubN T f) rfl rfl ⟨by omega, by omega⟩ ⟨by omega, by omega⟩ (fun c3 y hy => ?_) (fun c3 => take (Or.inr c3))
    rw [hy, es]
    exact ih best least (f + 1) (by omega) (by omega) (hub_f f0 hh rfl c2 c3) (by omega)
theorem x_mid {U : Um} {T : Tm} {w : Nat} (hC : CC U T w) (hI : I1 T) (h2 : I2 T) {ob : Nat} (eo : ob = w + 2) {post : Int32 → Um → Prop} (h : post (jI (hubS T)) U) : w_X5_middle ob U post := by
  rw [eo]
  have hn := I_n hI
  unfold w_X5_middle
  exact ⟨(T 11 0 - 0).toNat + 1, xl_mid6 hC hI h2 (fun best hb => by rw [hub_u hb] at h; exact h) _ (-1) 0 0 (by decide) (by omega) hub_0 (Nat.lt_succ_self _)⟩
def hdD (d : Int) : List Int → Int
  | [] => d
  | a :: _ => a
def ltD (d : Int) : List Int → Int
  | [] => d
  | a :: l => ltD a l
theorem hd_nth {d : Int} {l : List Int} (h : l ≠ []) : hdD d l = nth l 0 := by
  cases l with
  | nil => exact absurd rfl h
  | cons a l => rfl
theorem lt_nth {l : List Int} : ∀ (d : Int), l ≠ [] → ltD d l = nth l ((l.length : Int) - 1) := by
  induction l with
  | nil => intro d h; exact absurd rfl h
  | cons a l ih =>
    intro d _
    cases l with
    | nil => rfl
    | cons b l =>
      show ltD a (b :: l) = _
      rw [ih a (by simp)]
      unfold nth
      rw [show (((a :: b :: l).length : Int) - 1).toNat = (((b :: l).length : Int) - 1).toNat + 1 by simp]
      rfl
theorem xl_jour {U : Um} {T : Tm} {w : Nat} (hC : CC U T w) (hI : I1 T) {x1 x4 : Int32} {v e0 : Int} (rv : v = 0 ∨ v = 1) {Q : Int → Prop} (hQ : ∀ k : Int, 0 ≤ k → k < 32 → (bt x4 k ↔ isGame T k ∧ Q k)) {post K : Int32 → Um → Prop} (hK : K (jI e0) U) : ∀ (fu : Nat) (e k : Int), 0 ≤ k → k ≤ T 11 3 → (-1 ≤ e ∧ e < 16) → (if v = 0 then (if e = -1 then hdD (-1) (flt Q ((ordS T).drop k.toNat)) else e) else ltD e (flt Q ((ordS T).drop k.toNat))) = e0 → (T 11 3 - k).toNat < fu → w_X6_journey_L65 42 x1 (jI v) x4 post K fu (jI e) (jI k) U := by
  have hw := hC.1.1
  have hn := I_n hI
  have q0 := r_42 hC (x := 42) rfl
  have ow := oc_of q0 (oc_w hw)
  intro fu
  induction fu with
  | zero => intro e k _ _ _ _ h; exact absurd h (Nat.not_lt_zero _)
  | succ fu ih =>
    intro e k k0 k1 he hr hf
    show b_X6_journey_L65 42 x1 (jI v) x4 post K (w_X6_journey_L65 42 x1 (jI v) x4 post K fu) (jI e) (jI k) U
    unfold b_X6_journey_L65
    refine ⟨ow, br_le (T 11 3) k (c_n7 hC q0) rfl ⟨by omega, by omega⟩ ⟨by omega, by omega⟩ (fun c => ?_) (fun c => ?_)⟩
    · have en : (ordS T).drop k.toNat = [] := List.drop_eq_nil_of_le (by have := ord_len hI; omega)
      rw [en] at hr
      have : e = e0 := by
        rw [← hr]
        show e = if v = 0 then (if e = -1 then -1 else e) else e
        split
        · split
          · assumption
          · rfl
        · rfl
      rw [this]
      exact hK
    have om := ord_mem hI k0 c
    have ed := drop_nth (l := ordS T) k0 (by rw [ord_len hI]; exact c)
    rw [ed] at hr
    have es : jI k + 1 = jI (k + 1) := jadd rfl rfl
    have rd := c_d12 hI hC q0 (E := jI k) k rfl k0 c
    refine ⟨ow, jvp k rfl (by omega) (by omega) (by decide), ?_⟩
    rw [rd]
    generalize hgm : nth (ordS T) k = g at *
    have pass : (if v = 0 then (if e = -1 then hdD (-1) (flt Q ((ordS T).drop (k + 1).toNat)) else e) else ltD e (flt Q ((ordS T).drop (k + 1).toNat))) = e0 → ∀ y : Int32, y = jI k + 1 → w_X6_journey_L65 42 x1 (jI v) x4 post K fu (jI e) y U := fun q y hy => by
      rw [hy, es]
      exact ih e (k + 1) (by omega) (by omega) he q (by omega)
    intro xs hxs
    by_cases c2 : bt x4 g
    · have z : ¬ (((x4 >>> (jI g &&& 31)) &&& 1) = 0) := fun q => (bt_sh g rfl om.1 (by omega)).1.mp q c2
      rw [if_neg z] at hxs
      rw [hxs]
      refine ⟨fun q => absurd q (by decide), fun _ => ?_⟩
      have yq : Q g := ((hQ g om.1 (by omega)).mp c2).2
      rw [flt_t yq] at hr
      intro K11 hK11
      have take : (if v = 0 then g else ltD g (flt Q ((ordS T).drop (k + 1).toNat))) = e0 → K11 := fun q => hK11 ⟨ow, jvp k rfl (by omega) (by omega) (by decide), fun x hx y hy => by
        rw [hx, hy, es]
        refine ih g (k + 1) (by omega) (by omega) ⟨by omega, by omega⟩ ?_ (by omega)
        rw [if_neg (show ¬ g = -1 by omega)]
        exact q⟩
      refine br_eq e (-1) rfl rfl ⟨by omega, by omega⟩ ⟨by omega, by omega⟩ (fun c3 => take ?_) (fun c3 => ?_)
      · rw [if_pos c3] at hr
        exact hr
      · rw [if_neg c3] at hr
        refine br_eq v 1 rfl rfl ⟨by omega, by omega⟩ ⟨by omega, by omega⟩ (fun c4 => take ?_) (fun c4 => pass ?_)
        · rw [if_neg (by omega)] at hr ⊢
          exact hr
        · rw [if_pos (by omega)] at hr ⊢
          rw [if_neg c3]
          exact hr
    · have z : ((x4 >>> (jI g &&& 31)) &&& 1) = 0 := (bt_sh g rfl om.1 (by omega)).1.mpr c2
      rw [if_pos z] at hxs
      rw [hxs]
      refine ⟨fun _ => pass ?_, fun q => absurd rfl q⟩
      have nq : ¬ Q g := fun q => c2 ((hQ g om.1 (by omega)).mpr ⟨om, q⟩)
      rw [flt_f nq] at hr
      exact hr
theorem x_journey {U : Um} {T : Tm} {w : Nat} (hC : CC U T w) (hI : I1 T) (h2 : I2 T) {ob : Nat} (eo : ob = 42) {a1 a2 a3 : Int32} {p day v : Int} (e1 : a1 = jI p) (e2 : a2 = jI day) (e3 : a3 = jI v) (hp : isOne T p) (hd : 0 ≤ day ∧ day ≤ 6) (rv : r32 v) {post : Int32 → Um → Prop} (h : post (jI (tripS T p day v)) U) : w_X6_journey ob a1 a2 a3 U post := by
  subst e1 e2 e3
  rw [eo]
  have hw := hC.1.1
  have hn := I_n hI
  have ho := I_o hI p hp.1 hp.2
  have q0 := r_42 hC (x := 42) rfl
  have ow := oc_of q0 (oc_w hw)
  have vp : vp_in (jI p) 10 := jvp p rfl hp.1 (by omega) (by decide)
  unfold w_X6_journey
  refine ⟨vp, ow, jvp day rfl (by omega) (by omega) (by decide), fun x4 hx4 => ?_⟩
  have hQ : ∀ k : Int, 0 ≤ k → k < 32 → (bt x4 k ↔ isGame T k ∧ (gm T k 3 = day ∧ inGame T p k)) := fun k a b => by
    rw [hx4, bt_and, c_he hI hC rfl p rfl hp.1 hp.2 k a b, c_d13 hC q0 day rfl hd.1 (by omega) k a b]
    exact ⟨fun q => ⟨q.1.1, q.2.2, q.1.2⟩, fun q => ⟨⟨q.1, q.2.2⟩, q.1, q.2.1⟩⟩
  have eF : dayI T (fun g => gm T g 3 = day ∧ inGame T p g) (T 11 3) = dayF T p day (-1) (-1) := dayF_P hI (fun k hk => ⟨fun q => ⟨by omega, Or.inr q⟩, fun q => q.2.resolve_left (by omega)⟩)
  have eC : cnt (fun g => gm T g 3 = day ∧ inGame T p g) (T 11 3) = dayC T p day (-1) (-1) := by
    have a := dayI_len (T := T) (P := fun g => gm T g 3 = day ∧ inGame T p g) (n := T 11 3) (by omega)
    have b := (dayC_b hI p day (-1) (-1)).2
    rw [eF] at a
    omega
  have cB := dayC_b hI p day (-1) (-1)
  have cb := cnt_bt hI hQ
  unfold tripS at h
  refine br_eq v 2 rfl rfl rv ⟨by omega, by omega⟩ (fun c => ?_) (fun c => ?_)
  · rw [cif_t ⟨hp, hd, by omega⟩, cif_t c] at h
    refine x_fieldsOf hC hI rfl hQ (fun B hB => ?_)
    have e : fldM T p day = B := by
      unfold fldM
      refine mkB_is (by decide) (by decide) (fun f f0 f1 => (hB f f0 f1).trans ⟨fun ⟨g, a, b⟩ => ?_, fun ⟨a, g, b, d⟩ => ?_⟩)
      · have hg := I_g hI g a.1.1 a.1.2
        unfold gOk at hg
        refine ⟨by omega, g, (dayF_mem hI).mpr ⟨a.1, a.2.1, by omega, Or.inr a.2.2⟩, b.symm⟩
      · have m := (dayF_mem hI).mp b
        exact ⟨g, ⟨m.1, m.2.1, m.2.2.2.resolve_left (by omega)⟩, d.symm⟩
    rw [e, jI_of] at h
    exact h
  refine br_eq v 3 rfl rfl rv ⟨by omega, by omega⟩ (fun c2 => ?_) (fun c2 => ?_)
  · rw [cif_t ⟨hp, hd, by omega⟩, cif_f c, cif_t c2] at h
    refine x_pop cb.2 ?_
    rw [cb.1, eC]
    exact h
  refine br_lt v 0 rfl rfl rv ⟨by omega, by omega⟩ (fun c3 => ?_) (fun c3 => ?_)
  · rw [cif_f (by omega)] at h
    exact h
  refine br_lt 3 v rfl rfl ⟨by omega, by omega⟩ rv (fun c4 => ?_) (fun c4 => ?_)
  · rw [cif_f (by omega)] at h
    exact h
  rw [cif_t ⟨hp, hd, by omega⟩, cif_f c, cif_f c2] at h
  refine ⟨fun c5 => ?_, fun c5 => ?_⟩
  · have e : dayC T p day (-1) (-1) = 0 := by
      rw [← eC]
      rw [cnt_x (n := 0) (by decide) (by omega) (fun k k0 k1 q => bz.mp c5 k k0 (by omega) ((hQ k k0 (by omega)).mpr ⟨⟨k0, k1⟩, q⟩)), cnt_0 (Int.le_refl _)]
    rw [cif_t e] at h
    exact h
  have ne : dayF T p day (-1) (-1) ≠ [] := fun z => c5 (bz.mpr (fun k k0 k1 q => by
    have m := (hQ k k0 k1).mp q
    have y : k ∈ dayF T p day (-1) (-1) := (dayF_mem hI).mpr ⟨m.1, m.2.1, by omega, Or.inr m.2.2⟩
    rw [z] at y
    cases y))
  have nc : ¬ dayC T p day (-1) (-1) = 0 := fun z => ne (List.eq_nil_of_length_eq_zero (by omega))
  rw [cif_f nc] at h
  have rv2 : v = 0 ∨ v = 1 := by omega
  have eG : (if v = 0 then hdD (-1) (dayF T p day (-1) (-1)) else ltD (-1) (dayF T p day (-1) (-1))) = tripG T p day v := by
    unfold tripG
    rcases rv2 with z | z
    · rw [if_pos z, cif_t z, hd_nth ne]
    · rw [if_neg (by omega), cif_f (by omega), lt_nth _ ne, cB.2]
  have gin : 0 ≤ tripG T p day v ∧ tripG T p day v < T 11 3 := by
    have m : tripG T p day v ∈ dayF T p day (-1) (-1) := by
      unfold tripG
      rcases rv2 with z | z
      · rw [cif_t z]; exact nth_mem (by decide) (by omega)
      · rw [cif_f (by omega)]; exact nth_mem (by omega) (by omega)
    exact dayF_g hI _ m
  generalize tripG T p day v = G at *
  have hg := I_g hI G gin.1 gin.2
  unfold gOk at hg
  have ef := flt_day (T := T) (Q := fun g => gm T g 3 = day ∧ inGame T p g) (n := T 11 3) (by omega)
  refine ⟨(T 11 3 - 0).toNat + 1, xl_jour hC hI (e0 := G) rv2 hQ ?_ _ (-1) 0 (by decide) (by omega) (by decide) ?_ (Nat.lt_succ_self _)⟩
  · refine br_eq G (-1) rfl rfl ⟨by omega, by omega⟩ ⟨by omega, by omega⟩ (fun q => absurd q (by omega)) (fun _ => ?_)
    have qg := r_g hC q0 (E := jI G) G rfl gin.1 (by omega)
    refine ⟨ow, jvp G rfl gin.1 (by omega) (by decide), oc_of qg (oc_g hw (by omega)), ?_⟩
    have rh := c_o3 hI hC q0 (E := jI p) p rfl hp.1 hp.2
    have k2 := c_g hC qg 2 gin.1 gin.2 (by decide)
    have wb := I_wS hI (T 6 p) (gm T G 2) (by omega) (by omega) (by omega) (by omega)
    unfold w_X6_minuteAtHome
    refine ⟨ow, oc_of (r_wr hC q0) (oc_r hw), ow, vp, jvp (T 6 p) rh (by omega) (by omega) (by decide), jvp (gm T G 2) k2 (by omega) (by omega) (by decide), ?_⟩
    refine al_i (wayS T (T 6 p) (gm T G 2)) (c_r2 hI hC (r_wr hC q0) (T 6 p) (gm T G 2) rh k2 (by omega) (by omega) (by omega) (by omega)) ?_
    refine br_eq (wayS T (T 6 p) (gm T G 2)) (-1) rfl rfl ⟨by omega, by omega⟩ ⟨by omega, by omega⟩ (fun c6 => ?_) (fun c6 => ?_)
    · rw [cif_t c6] at h
      exact h
    rw [cif_f c6] at h
    refine br_eq v 0 rfl rfl rv ⟨by omega, by omega⟩ (fun c7 => ?_) (fun c7 => ?_)
    · rw [cif_t c7] at h
      exact ⟨ow, pst (jsub (jsub (c_g hC qg 4 gin.1 gin.2 (by decide)) (c_n8 hC q0)) rfl) h⟩
    · rw [cif_f c7] at h
      refine x_X2_ends hC hI h2 (eo := qg) gin.1 gin.2 ?_
      exact pst (jadd rfl rfl) h
  · rw [if_pos rfl]
    show (if v = 0 then hdD (-1) (flt _ (ordS T)) else ltD (-1) (flt _ (ordS T))) = G
    unfold ordS
    rw [ef, eF]
    exact eG
