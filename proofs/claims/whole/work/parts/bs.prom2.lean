/-! the class: promotion, done -/
theorem xl_prom9 {T : Tm} {w : Nat} (hI : I1 T) (h2 : I2 T) (hf : If T) (hR : Rk T) {u d : Int} (hu : 0 ≤ u ∧ u ≤ 9) (hd : 0 ≤ d ∧ d ≤ 9) {U0 : Um} {post K : Int32 → Um → Prop} (hK : ∀ V : Um, CC V T w → fX P9 U0 V → row9 V (F9 T u d 6) → K (jI (cnt (sm9 T u d 6) (T 11 2))) V) : ∀ (fu : Nat) (gr : Int) (U : Um), CC U T w → fX P9 U0 U → row8 U T (T 11 2) → row9 U (F9 T u d gr) → 1 ≤ gr → gr ≤ 6 → (6 - gr).toNat < fu → w_X6_promote_L9 42 (jI u) (jI d) post K fu (jI (cnt (sm9 T u d gr) (T 11 2))) (jI gr) U := by
  have hn := I_n hI
  intro fu
  induction fu with
  | zero => intro gr U _ _ _ _ _ _ h; exact absurd h (Nat.not_lt_zero _)
  | succ fu ih =>
    intro gr U hC hF h8 h9 g0 g1 hfu
    show b_X6_promote_L9 42 (jI u) (jI d) post K (w_X6_promote_L9 42 (jI u) (jI d) post K fu) (jI (cnt (sm9 T u d gr) (T 11 2))) (jI gr) U
    unfold b_X6_promote_L9
    refine br_lt 5 gr rfl rfl ⟨by decide, by decide⟩ ⟨by omega, by omega⟩ (fun c => ?_) (fun c => ?_)
    · rw [show gr = 6 by omega] at h9 ⊢
      exact hK U hC hF h9
    have eu : ∀ x : Int32, x = (if (5 : Int32) ≤ jI gr then 0 else jI u) → x = jI (limU u gr) := fun x hx => by
      refine al_ifle (P := fun z => z = jI (limU u gr)) 5 gr rfl rfl ⟨by decide, by decide⟩ ⟨by omega, by omega⟩ 0 u rfl rfl (fun q => ?_) (fun q => ?_) x hx
      · rw [show limU u gr = 0 from if_pos q]
      · rw [show limU u gr = u from if_neg (by omega)]
    have ed : ∀ x : Int32, x = (if jI gr ≤ (1 : Int32) then 0 else jI d) → x = jI (limD d gr) := fun x hx => by
      refine al_ifle (P := fun z => z = jI (limD d gr)) gr 1 rfl rfl ⟨by omega, by omega⟩ ⟨by decide, by decide⟩ 0 d rfl rfl (fun q => ?_) (fun q => ?_) x hx
      · rw [show limD d gr = 0 from if_pos q]
      · rw [show limD d gr = d from if_neg (by omega)]
    have lu : 0 ≤ limU u gr ∧ limU u gr ≤ 9 := by
      show 0 ≤ (if 5 ≤ gr then 0 else u) ∧ (if 5 ≤ gr then 0 else u) ≤ 9
      split <;> omega
    have ld : 0 ≤ limD d gr ∧ limD d gr ≤ 9 := by
      show 0 ≤ (if gr ≤ 1 then 0 else d) ∧ (if gr ≤ 1 then 0 else d) ≤ 9
      split <;> omega
    intro x hx
    rw [eu x hx]
    refine x_risers hC hI h2 hR ⟨by omega, by omega⟩ lu h8 h9 (fun V cV fV v8 v9 => ?_)
    intro y hy z hz
    rw [ed z hz]
    refine x_fallers cV hI h2 hR ⟨by omega, by omega⟩ ld v8 v9 (fun Z cZ fZ z8 z9 => ?_)
    intro a ha b hb
    have es := sm9_s hR hf (u := u) (d := d) (gr := gr)
    rw [ha, hy, hb, show jI (cnt (sm9 T u d gr) (T 11 2)) + jI (cnt (mkd T (QU T gr) (rkS T) (limU u gr)) (T 11 2)) + jI (cnt (mkd T (QD T gr) (fkS T) (limD d gr)) (T 11 2)) = jI (cnt (sm9 T u d (gr + 1)) (T 11 2)) from by rw [← es]; exact jadd (jadd rfl rfl) rfl, show jI gr + 1 = jI (gr + 1) from jadd rfl rfl]
    exact ih (gr + 1) Z cZ (fX_trans hF (fX_trans fV fZ)) z8 (row9_c z9 (fun p _ _ => F9_s hR hf)) (by omega) (by omega) (by omega)
/-- the first k officials promoted -/
noncomputable def prW (T : Tm) (u d k : Int) : Tm := blk (blk T 32 0 k (grdS T u d)) 33 0 k (fun _ => 0)
theorem prW_0 {T : Tm} {u d : Int} : prW T u d 0 = T := by
  unfold prW
  rw [blk_0, blk_0]
theorem prW_nf {T : Tm} {u d k : Int} {f : Nat} (h : f ≠ 32 ∧ f ≠ 33) : prW T u d k f = T f := funext fun j => by
  unfold prW
  rw [blk_nf h.2, blk_nf h.1]
theorem prW_32 {T : Tm} {u d k p : Int} : prW T u d k 32 p = if 0 ≤ p ∧ p < k then grdS T u d p else T 32 p := by
  unfold prW
  rw [blk_nf (by decide)]
  by_cases c : 0 ≤ p ∧ p < k
  · rw [if_pos c, blk_in c.1 (by omega), Int.sub_zero]
  · rw [if_neg c, blk_out (by omega)]
theorem prW_33 {T : Tm} {u d k p : Int} : prW T u d k 33 p = if 0 ≤ p ∧ p < k then 0 else T 33 p := by
  unfold prW
  by_cases c : 0 ≤ p ∧ p < k
  · rw [if_pos c, blk_in c.1 (by omega)]
  · rw [if_neg c, blk_out (by omega), blk_nf (by decide)]
abbrev P469 (o k : Nat) : Prop := o = 42 ∧ (k = 4 ∨ k = 6 ∨ k = 8 ∨ k = 9)
theorem xl_prom64 {T : Tm} {w : Nat} (hI : I1 T) (h2 : I2 T) {u d : Int} {x3 : Int32} {U0 : Um} {post : Int32 → Um → Prop} {K : Um → Prop} (hK : ∀ V : Um, CC V (prW T u d (T 11 2)) w → fX P469 U0 V → row9 V (fun _ => 0) → K V) : ∀ (fu : Nat) (k : Int) (U : Um), CC U (prW T u d k) w → fX P469 U0 U → row9 U (fun p => cif (isOne T p ∧ k ≤ p) (chS T u d p) 0) → 0 ≤ k → k ≤ T 11 2 → (T 11 2 - k).toNat < fu → w_X6_promote_L64 42 x3 post K fu (jI k) U := by
  have hn := I_n hI
  intro fu
  induction fu with
  | zero => intro k U _ _ _ _ _ h; exact absurd h (Nat.not_lt_zero _)
  | succ fu ih =>
    intro k U hC hF h9 k0 k1 hfu
    show b_X6_promote_L64 42 x3 post K (w_X6_promote_L64 42 x3 post K fu) (jI k) U
    unfold b_X6_promote_L64
    have q0 := r_42 hC (x := 42) rfl
    have e11 : ∀ k, prW T u d k 11 2 = T 11 2 := fun k => by rw [prW_nf (by decide)]
    have iW : ∀ k, I1 (prW T u d k) := fun k => I1_c (fun f j hf => by rw [prW_nf (by omega)]) hI
    unfold w_X6_officials
    refine ⟨oc_of q0 (oc_w hC.1.1), jvp 2 rfl (by decide) (by decide) (by decide), ?_⟩
    have n2 := c_n hC q0 (E := 2) 2 rfl (by decide) (by decide)
    rw [e11] at n2
    rw [n2]
    refine br_le (T 11 2) k rfl rfl ⟨by omega, by omega⟩ ⟨by omega, by omega⟩ (fun c => ?_) (fun c => ?_)
    · rw [show k = T 11 2 by omega] at hC h9
      exact hK U hC hF (row9_c h9 (fun p p0 p1 => by rw [cif_f (fun q => by have := q.1.2; have := q.2; omega)]))
    have vk : vp_in (jI k) 10 := jvp k rfl k0 (by omega) (by decide)
    refine ⟨vk, vk, vk, fun V1 e1 => ⟨vk, fun V2 e2 => ⟨vk, fun V3 e3 y hy => ?_⟩⟩⟩
    have tk : Int32.toNatClampNeg (jI k) = k.toNat := jI_nat k0 (by omega)
    have hk : isOne T k := ⟨k0, c⟩
    have r4 : uA U 42 4 (Int32.toNatClampNeg (jI k)) = jI (T 32 k) := by
      have := c_gr (iW k) hC (x := 42) rfl (E := jI k) k rfl k0 (by rw [e11]; exact c)
      rw [prW_32, if_neg (by omega)] at this
      exact this
    have r9 : uA U 42 9 (Int32.toNatClampNeg (jI k)) = jI (chS T u d k) := by
      rw [tk]
      have := h9 k k0 (by omega)
      rw [this]
      show jI (cif (isOne T k ∧ k ≤ k) (chS T u d k) 0) = _
      rw [cif_t ⟨hk, Int.le_refl k⟩]
    have f3 : fX P469 U V3 := by
      rw [e3, e2, e1]
      exact fX_trans (fX_trans (fX_sA ⟨rfl, by omega⟩) (fX_sA ⟨rfl, by omega⟩)) (fX_sA ⟨rfl, by omega⟩)
    have a4 : uA V3 42 4 = va_up (uA U 42 4) k.toNat (jI (grdS T u d k)) := by
      rw [e3, uA_sA, if_neg (by decide), e2, uA_sA, if_neg (by decide), e1, uA_sA, if_pos ⟨rfl, rfl⟩, r4, r9, tk, grd_ch]
      congr 1
      exact jadd rfl rfl
    have a9 : uA V3 42 9 = va_up (uA U 42 9) k.toNat 0 := by
      rw [e3, uA_sA, if_neg (by decide), e2, uA_sA, if_pos ⟨rfl, rfl⟩, e1, uA_sA, if_neg (by decide), tk]
    have a6 : uA V3 42 6 = va_up (uA U 42 6) k.toNat 0 := by
      rw [e3, uA_sA, if_pos ⟨rfl, rfl⟩, e2, uA_sA, if_neg (by decide), e1, uA_sA, if_neg (by decide), tk]
    have a2 : ∀ j, (j = 2 ∨ j = 3 ∨ j = 7) → uA V3 42 j = uA U 42 j := fun j hj => (f3.2.2 42 j (by omega)).2.2.1
    have c3 : CC V3 (prW T u d (k + 1)) w := by
      have e14 : ∀ f, f ≤ 14 → prW T u d (k + 1) f = prW T u d k f := fun f hf => by rw [prW_nf (by omega), prW_nf (by omega)]
      refine ⟨PT_x f3 hC.1, CW_c e14 (CW_x (iW k) hC.1.1 f3 (fun o k q => Or.inr q.1) hC.2.1), CRo_c e14 ?_⟩
      obtain ⟨r1, r2, r3⟩ := hC.2.2
      refine ⟨?_, fun j j0 j1 => ?_, fun o ho => ?_⟩
      · rw [(f3.2.2 42 1 (by omega)).1, r1, prW_nf (by decide), prW_nf (by decide)]
      · rw [a2 2 (by omega), a2 3 (by omega), prW_nf (f := 30) (by decide), prW_nf (f := 31) (by decide)]
        have := r2 j j0 j1
        rw [prW_nf (f := 30) (by decide), prW_nf (f := 31) (by decide)] at this
        exact this
      · have r := r3 o ho
        have ho1 : isOne T o := ⟨ho.1, by have := ho.2; rw [e11] at this; exact this⟩
        rw [prW_nf (f := 34) (by decide), prW_nf (f := 30) (by decide), prW_32, prW_33] at r ⊢
        rw [a2 7 (by omega), (f3.2.2 42 5 (by omega)).2.2.2.2, a4, a6]
        refine ⟨⟨?_, r.1.2.1, ?_⟩, r.2⟩
        · unfold va_up
          by_cases z : o = k
          · rw [if_pos (by rw [z]), if_pos (by omega), z]
          · rw [if_neg (by have := ho1.1; omega), r.1.1]
            congr 1
            by_cases z2 : 0 ≤ o ∧ o < k
            · rw [if_pos z2, if_pos (by omega)]
            · rw [if_neg z2, if_neg (by omega)]
        · unfold va_up
          by_cases z : o = k
          · rw [if_pos (by rw [z]), if_pos (by omega)]
            rfl
          · rw [if_neg (by have := ho1.1; omega), r.1.2.2]
            congr 1
            by_cases z2 : 0 ≤ o ∧ o < k
            · rw [if_pos z2, if_pos (by omega)]
            · rw [if_neg z2, if_neg (by omega)]
    rw [hy, show jI k + 1 = jI (k + 1) from jadd rfl rfl]
    refine ih (k + 1) V3 c3 (fX_trans hF f3) (fun p p0 p1 => ?_) (by omega) (by omega) (by omega)
    show uA V3 42 9 p.toNat = jI (cif (isOne T p ∧ k + 1 ≤ p) (chS T u d p) 0)
    rw [a9]
    unfold va_up
    by_cases z : p = k
    · rw [if_pos (by rw [z]), cif_f (fun q => by have := q.2; omega)]
      rfl
    · rw [if_neg (by omega), h9 p p0 p1]
      show jI (cif (isOne T p ∧ k ≤ p) (chS T u d p) 0) = _
      by_cases z2 : isOne T p ∧ k ≤ p
      · rw [cif_t z2, cif_t ⟨z2.1, by have := z2.2; omega⟩]
      · rw [cif_f z2, cif_f (fun q => z2 ⟨q.1, by have := q.2; omega⟩)]
theorem x_promote {U : Um} {T : Tm} {w : Nat} (hC : CC U T w) (hI : I1 T) (h2 : I2 T) (hf : If T) (hR : Rk T) {ob : Nat} (eo : ob = 42) {a1 a2 : Int32} {u d : Int} (e1 : a1 = jI u) (e2 : a2 = jI d) (hu : 0 ≤ u ∧ u ≤ 9) (hd : 0 ≤ d ∧ d ≤ 9) (h9 : row9 U (fun _ => 0)) {post : Int32 → Um → Prop} (h : ∀ V : Um, CC V (revT T u d) w → fX P469 U V → row9 V (fun _ => 0) → post (jI (revN T u d (T 11 2))) V) : w_X6_promote ob a1 a2 U post := by
  subst e1 e2
  rw [eo]
  unfold w_X6_promote
  have hn := I_n hI
  refine x_sort hC hI h2 hR rfl (fun V cV fV v8 => ?_)
  have v9 : row9 V (fun _ => 0) := fun p p0 p1 => by
    rw [(fV.2.2 42 9 (by omega)).2.2.1]
    exact h9 p p0 p1
  have z1 : cnt (sm9 T u d 1) (T 11 2) = 0 := by
    rw [cnt_x (n := 0) (m := T 11 2) (Int.le_refl 0) hR.n0 (fun k k0 k1 q => by have := (I_r h2 k k0 k1).1; have := q.1; omega), cnt_0 (Int.le_refl 0)]
  have st := fun (K : Int32 → Um → Prop) hK => xl_prom9 hI h2 hf hR hu hd (U0 := V) (post := post) (K := K) hK ((6 - 1 : Int).toNat + 1) 1 V cV fX_rfl v8 (row9_c v9 (fun p p0 p1 => by
    unfold F9
    by_cases c : isOne T p ∧ T 32 p < 1
    · have := (I_r h2 p c.1.1 c.1.2).1
      omega
    · rw [cif_f c])) (by decide) (by decide) (Nat.lt_succ_self _)
  rw [z1] at st
  refine ⟨_, st _ (fun Z cZ fZ z9 => ⟨(T 11 2 - 0).toNat + 1, xl_prom64 hI h2 (u := u) (d := d) (U0 := Z) (fun W cW fW w9 => ?_) _ 0 Z (by rw [prW_0]; exact cZ) fX_rfl (row9_c z9 (fun p p0 p1 => ?_)) (Int.le_refl 0) hR.n0 (Nat.lt_succ_self _)⟩)⟩
  · have e : cnt (sm9 T u d 6) (T 11 2) = revN T u d (T 11 2) := cnt_c hR.n0 (fun k k0 k1 => by
      have := (I_r h2 k k0 k1).1
      show T 32 k < 6 ∧ chS T u d k ≠ 0 ↔ grdS T u d k ≠ T 32 k
      rw [grd_ch]
      omega)
    rw [e]
    exact h W cW (fX_trans (fX_w (fun o k q => by omega) fV) (fX_trans (fX_w (fun o k q => by omega) fZ) fW)) w9
  · unfold F9
    by_cases c : isOne T p
    · have := (I_r h2 p c.1 c.2).1
      rw [cif_t ⟨c, by omega⟩, cif_t ⟨c, p0⟩]
    · rw [cif_f (fun q => c q.1), cif_f (fun q => c q.1)]
