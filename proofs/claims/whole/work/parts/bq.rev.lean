/-! the class: promotion -/
theorem mk_fin {n i c lim : Int} {g : Int → Int} {Q : Int → Prop} (hn : 0 ≤ n) (hc : c = cnt (fun p => Q p ∧ g p < i) n) (hl : c ≤ lim) (he : (∀ p, 0 ≤ p → p < n → g p < i) ∨ lim ≤ c) : ∀ p, 0 ≤ p → p < n → ((Q p ∧ g p < i) ↔ (Q p ∧ cnt (fun r => Q r ∧ g r < g p) n < lim)) := by
  intro p p0 p1
  refine ⟨fun ⟨a, b⟩ => ⟨a, ?_⟩, fun ⟨a, b⟩ => ⟨a, ?_⟩⟩
  · have e : cnt (fun r => (Q r ∧ g r < g p) ∨ r = p) n = cnt (fun r => Q r ∧ g r < g p) n + 1 := cnt_pt (o := p) p0 p1 (fun z => by have := z.2; omega) (fun k _ _ => Iff.rfl)
    have l : cnt (fun r => (Q r ∧ g r < g p) ∨ r = p) n ≤ cnt (fun r => Q r ∧ g r < i) n := cnt_le hn (fun k k0 k1 z => z.elim (fun z => ⟨z.1, by have := z.2; omega⟩) (fun z => by rw [z]; exact ⟨a, b⟩))
    omega
  · rcases he with he | he
    · exact he p p0 p1
    · refine (Int.lt_or_le (g p) i).elim id (fun z => ?_)
      have l : cnt (fun r => Q r ∧ g r < i) n ≤ cnt (fun r => Q r ∧ g r < g p) n := cnt_le hn (fun k k0 k1 z2 => ⟨z2.1, by have := z2.2; omega⟩)
      omega
/-- one more, in the order g -/
theorem mk_step {n : Int} {g : Int → Int} {Q : Int → Prop} (hn : 0 ≤ n) (hg : ∀ o p, 0 ≤ o → o < n → 0 ≤ p → p < n → g o = g p → o = p) {o : Int} (o0 : 0 ≤ o) (o1 : o < n) : cnt (fun p => Q p ∧ g p < g o + 1) n = cnt (fun p => Q p ∧ g p < g o) n + cif (Q o) 1 0 := by
  have k1 : ∀ k, 0 ≤ k → k < n → (g k < g o + 1 ↔ g k < g o ∨ k = o) := fun k a b => ⟨fun q => (Classical.em (k = o)).elim Or.inr (fun c => Or.inl (by
    have : g k ≠ g o := fun e => c (hg k o a b o0 o1 e)
    omega)), fun q => q.elim (fun q => by omega) (fun q => by rw [q]; omega)⟩
  by_cases c : Q o
  · rw [cif_t c]
    refine cnt_pt (o := o) o0 o1 (fun z => by have := z.2; omega) (fun k k0 k2 => ?_)
    rw [k1 k k0 k2]
    exact ⟨fun q => q.2.elim (fun z => Or.inl ⟨q.1, z⟩) Or.inr, fun q => q.elim (fun z => ⟨z.1, Or.inl z.2⟩) (fun z => ⟨by rw [z]; exact c, Or.inr z⟩)⟩
  · rw [cif_f c, Int.add_zero]
    refine cnt_c hn (fun k k0 k2 => ?_)
    rw [k1 k k0 k2]
    exact ⟨fun q => ⟨q.1, q.2.elim id (fun z => absurd (by rw [← z]; exact q.1) c)⟩, fun q => ⟨q.1, Or.inl q.2⟩⟩
abbrev P9 (o k : Nat) : Prop := o = 42 ∧ k = 9
def row9 (U : Um) (F : Int → Int) : Prop := ∀ o : Int, 0 ≤ o → o < 10 → uA U 42 9 o.toNat = jI (F o)
abbrev QU (T : Tm) (gr p : Int) : Prop := T 32 p = gr ∧ 2 ≤ T 33 p ∧ ¬ fcl (jF (T 34 p)) (1114636288 : UInt32) < 0
abbrev QD (T : Tm) (gr p : Int) : Prop := T 32 p = gr ∧ 2 ≤ T 33 p ∧ ¬ (0 : Int32) ≤ fcg (jF (T 34 p)) (1109393408 : UInt32)
/-- who is marked among those of Q, in the order g -/
abbrev mkd (T : Tm) (Q : Int → Prop) (g : Int → Int) (lim p : Int) : Prop := isOne T p ∧ Q p ∧ cnt (fun r => Q r ∧ g r < g p) (T 11 2) < lim
theorem row9_up {U V : Um} {F : Int → Int} {o v : Int} {E : Int32} (he : E = jI v) (h9 : row9 U F) (o0 : 0 ≤ o) (o1 : o < 10) (hV : V = sA U 42 9 (va_up (uA U 42 9) (Int32.toNatClampNeg (jI o)) E)) : row9 V (fun p => if p = o then v else F p) := by
  intro p p0 p1
  rw [hV, uA_sA, if_pos ⟨rfl, rfl⟩, jI_nat o0 (by omega)]
  unfold va_up
  show (if p.toNat = o.toNat then E else uA U 42 9 p.toNat) = jI (if p = o then v else F p)
  by_cases c : p = o
  · rw [if_pos (by rw [c]), if_pos c, he]
  · rw [if_neg (by omega), if_neg c]
    exact h9 p p0 p1
theorem row9_c {U : Um} {F G : Int → Int} (h : row9 U F) (e : ∀ p, 0 ≤ p → p < 10 → F p = G p) : row9 U G := fun p p0 p1 => by
  rw [← e p p0 p1]
  exact h p p0 p1
theorem row8_f {P : Nat → Nat → Prop} {U V : Um} {T : Tm} {n : Int} (hf : fX P U V) (hP : ∀ o k, P o k → P9 o k) (h : row8 U T n) : row8 V T n := fun o o0 o1 => by
  rw [(hf.2.2 42 8 (fun z => by have := (hP _ _ z).2; omega)).2.2.1]
  exact h o o0 o1
theorem x_at8 {U : Um} {T : Tm} (hR : Rk T) (h8 : row8 U T (T 11 2)) {i : Int} (i0 : 0 ≤ i) (i1 : i < T 11 2) (i2 : T 11 2 ≤ 10) : ∃ o, isOne T o ∧ rkS T o = i ∧ uA U 42 8 (Int32.toNatClampNeg (jI i)) = jI o := by
  obtain ⟨o, ho, e⟩ := hR.onto i0 i1
  refine ⟨o, ho, e, ?_⟩
  rw [jI_nat i0 (by omega), ← e]
  exact h8 o ho.1 ho.2
theorem xl_risers {T : Tm} {w : Nat} (hI : I1 T) (h2 : I2 T) (hR : Rk T) {gr lim : Int} (g0 : r32 gr) (l0 : 0 ≤ lim ∧ lim ≤ 9) {F : Int → Int} {U0 : Um} {post K : Int32 → Um → Prop} (hK : ∀ V : Um, CC V T w → fX P9 U0 V → row9 V (fun p => cif (mkd T (QU T gr) (rkS T) lim p) 1 (F p)) → K (jI (cnt (mkd T (QU T gr) (rkS T) lim) (T 11 2))) V) : ∀ (fu : Nat) (c i : Int) (U : Um), CC U T w → fX P9 U0 U → row8 U T (T 11 2) → row9 U (fun p => cif (isOne T p ∧ QU T gr p ∧ rkS T p < i) 1 (F p)) → c = cnt (fun p => QU T gr p ∧ rkS T p < i) (T 11 2) → c ≤ lim → 0 ≤ i → i ≤ T 11 2 → (T 11 2 - i).toNat < fu → w_X6_markRisers_L5 42 (jI gr) (jI lim) post K fu (jI c) (jI i) U := by
  have hn := I_n hI
  intro fu
  induction fu with
  | zero => intro c i U _ _ _ _ _ _ _ _ h; exact absurd h (Nat.not_lt_zero _)
  | succ fu ih =>
    intro c i U hC hF h8 h9 hc cl i0 i1 hf
    show b_X6_markRisers_L5 42 (jI gr) (jI lim) post K (w_X6_markRisers_L5 42 (jI gr) (jI lim) post K fu) (jI c) (jI i) U
    unfold b_X6_markRisers_L5
    have cb := cnt_b (p := fun p => QU T gr p ∧ rkS T p < i) hR.n0
    have fin : ((∀ p, 0 ≤ p → p < T 11 2 → rkS T p < i) ∨ lim ≤ c) → K (jI c) U := fun he => by
      have m := mk_fin hR.n0 hc cl he
      have e : c = cnt (mkd T (QU T gr) (rkS T) lim) (T 11 2) := by
        rw [hc]
        exact cnt_c hR.n0 (fun k k0 k1 => (m k k0 k1).trans ⟨fun q => ⟨⟨k0, k1⟩, q⟩, fun q => q.2⟩)
      rw [e]
      refine hK U hC hF (row9_c h9 (fun p p0 p1 => ?_))
      by_cases z : isOne T p
      · have mz := m p z.1 z.2
        by_cases z2 : QU T gr p ∧ rkS T p < i
        · rw [cif_t ⟨z, z2⟩, cif_t ⟨z, mz.mp z2⟩]
        · rw [cif_f (fun q => z2 q.2), cif_f (fun q => z2 (mz.mpr q.2))]
      · rw [cif_f (fun q => z q.1), cif_f (fun q => z q.1)]
    refine x_X6_officials hC hI h2 (eo := rfl) ?_
    refine br_le (T 11 2) i rfl rfl ⟨by omega, by omega⟩ ⟨by omega, by omega⟩ (fun c1 => fin (Or.inl (fun p p0 p1 => by have := (hR.b p ⟨p0, p1⟩).2; omega))) (fun c1 => ?_)
    refine br_le lim c rfl rfl ⟨by omega, by omega⟩ ⟨by omega, by omega⟩ (fun c2 => fin (Or.inr c2)) (fun c2 => ⟨jvp i rfl i0 (by omega) (by decide), fun x5 hx5 => ?_⟩)
    obtain ⟨o, ho, er, e8⟩ := x_at8 hR h8 i0 c1 (by omega)
    have hx5 : x5 = jI o := hx5.trans e8
    have vo : vp_in x5 10 := jvp o hx5 ho.1 (by have := ho.2; omega) (by decide)
    have st := mk_step (Q := QU T gr) (g := rkS T) hR.n0 (fun a b a0 a1 b0 b1 => hR.inj a b ⟨a0, a1⟩ ⟨b0, b1⟩) ho.1 ho.2
    rw [er] at st
    have rm := I_r h2 o ho.1 ho.2
    have skip : ¬ QU T gr o → w_X6_markRisers_L5 42 (jI gr) (jI lim) post K fu (jI c) (jI (i + 1)) U := fun z => by
      rw [cif_f z, Int.add_zero] at st
      refine ih c (i + 1) U hC hF h8 (row9_c h9 (fun p p0 p1 => ?_)) (by rw [st]; exact hc) cl (by omega) (by omega) (by omega)
      by_cases z2 : isOne T p ∧ QU T gr p
      · by_cases z3 : rkS T p < i
        · rw [cif_t ⟨z2.1, z2.2, z3⟩, cif_t ⟨z2.1, z2.2, by omega⟩]
        · have : rkS T p ≠ i := fun e => z (by rw [← hR.inj p o z2.1 ho (by omega)]; exact z2.2)
          rw [cif_f (fun q => z3 q.2.2), cif_f (fun q => by have := q.2.2; omega)]
      · rw [cif_f (fun q => z2 ⟨q.1, q.2.1⟩), cif_f (fun q => z2 ⟨q.1, q.2.1⟩)]
    have es : ∀ y : Int32, y = jI i + 1 → y = jI (i + 1) := fun y hy => hy.trans (jadd rfl rfl)
    refine ⟨vo, br_eq (T 32 o) gr (c_gr hI hC (x := 42) rfl o hx5 ho.1 ho.2) rfl ⟨by omega, by omega⟩ g0 (fun c3 => ⟨vo, ?_⟩) (fun c3 y hy => by rw [es y hy]; exact skip (fun q => c3 q.1))⟩
    refine br_lt (T 33 o) 2 (c_mk hI hC (x := 42) rfl o hx5 ho.1 ho.2) rfl rm.2 ⟨by decide, by decide⟩ (fun c4 y hy => by rw [es y hy]; exact skip (fun q => by have := q.2.1; omega)) (fun c4 => ⟨vo, ?_⟩)
    refine br_flt (fcl (jF (T 34 o)) 1114636288) (jfcl (c_fo hI hC (x := 42) rfl o hx5 ho.1 ho.2) rfl) (fun c5 y hy => by rw [es y hy]; exact skip (fun q => q.2.2 c5)) (fun c5 => ⟨vo, fun V eV y hy z hz => ?_⟩)
    have hQ : QU T gr o := ⟨c3, c4, c5⟩
    rw [cif_t hQ] at st
    rw [es z hz, hy, show jI c + 1 = jI (c + 1) from jadd rfl rfl]
    rw [hx5] at eV
    have fV : fX P9 U V := by rw [eV]; exact fX_sA ⟨rfl, rfl⟩
    refine ih (c + 1) (i + 1) V (CC_x hI fV (fun o k q => by omega) hC) (fX_trans hF fV) (row8_f fV (fun o k q => q) h8) (row9_c (row9_up (v := 1) rfl h9 ho.1 (by have := ho.2; omega) eV) (fun p p0 p1 => ?_)) (by rw [st, ← hc]) (by omega) (by omega) (by omega) (by omega)
    by_cases z1 : p = o
    · rw [if_pos z1, cif_t (by rw [z1]; exact ⟨ho, hQ, by omega⟩)]
    · rw [if_neg z1]
      by_cases z2 : isOne T p ∧ QU T gr p
      · by_cases z3 : rkS T p < i
        · rw [cif_t ⟨z2.1, z2.2, z3⟩, cif_t ⟨z2.1, z2.2, by omega⟩]
        · have : rkS T p ≠ i := fun e => z1 (hR.inj p o z2.1 ho (by omega))
          rw [cif_f (fun q => z3 q.2.2), cif_f (fun q => by have := q.2.2; omega)]
      · rw [cif_f (fun q => z2 ⟨q.1, q.2.1⟩), cif_f (fun q => z2 ⟨q.1, q.2.1⟩)]
theorem x_risers {U : Um} {T : Tm} {w : Nat} (hC : CC U T w) (hI : I1 T) (h2 : I2 T) (hR : Rk T) {gr lim : Int} (g0 : r32 gr) (l0 : 0 ≤ lim ∧ lim ≤ 9) {F : Int → Int} (h8 : row8 U T (T 11 2)) (h9 : row9 U F) {post : Int32 → Um → Prop} (h : ∀ V : Um, CC V T w → fX P9 U V → row8 V T (T 11 2) → row9 V (fun p => cif (mkd T (QU T gr) (rkS T) lim p) 1 (F p)) → post (jI (cnt (mkd T (QU T gr) (rkS T) lim) (T 11 2))) V) : w_X6_markRisers 42 (jI gr) (jI lim) U post := by
  unfold w_X6_markRisers
  have z : ∀ p, 0 ≤ p → p < T 11 2 → ¬ (QU T gr p ∧ rkS T p < 0) := fun p p0 p1 q => by have := (hR.b p ⟨p0, p1⟩).1; have := q.2; omega
  refine ⟨(T 11 2 - 0).toNat + 1, xl_risers hI h2 hR g0 l0 (F := F) (U0 := U) (fun V cV fV r9 => h V cV fV (row8_f fV (fun o k q => q) h8) r9) _ 0 0 U hC fX_rfl h8 (row9_c h9 (fun p p0 p1 => ?_)) ?_ l0.1 (Int.le_refl 0) hR.n0 (Nat.lt_succ_self _)⟩
  · rw [cif_f (fun q => z p q.1.1 q.1.2 q.2)]
  · rw [cnt_x (n := 0) (m := T 11 2) (Int.le_refl 0) hR.n0 z, cnt_0 (Int.le_refl 0)]
noncomputable abbrev fkS (T : Tm) (p : Int) : Int := T 11 2 - 1 - rkS T p
theorem xl_fallers {T : Tm} {w : Nat} (hI : I1 T) (h2 : I2 T) (hR : Rk T) {gr lim : Int} (g0 : r32 gr) (l0 : 0 ≤ lim ∧ lim ≤ 9) {F : Int → Int} {U0 : Um} {post K : Int32 → Um → Prop} (hK : ∀ V : Um, CC V T w → fX P9 U0 V → row9 V (fun p => cif (mkd T (QD T gr) (fkS T) lim p) (-1) (F p)) → K (jI (cnt (mkd T (QD T gr) (fkS T) lim) (T 11 2))) V) : ∀ (fu : Nat) (c i : Int) (U : Um), CC U T w → fX P9 U0 U → row8 U T (T 11 2) → row9 U (fun p => cif (isOne T p ∧ QD T gr p ∧ fkS T p < i) (-1) (F p)) → c = cnt (fun p => QD T gr p ∧ fkS T p < i) (T 11 2) → c ≤ lim → 0 ≤ i → i ≤ T 11 2 → (T 11 2 - i).toNat < fu → w_X6_markFallers_L10 42 (jI gr) (jI lim) post K fu (jI c) (jI (T 11 2 - 1 - i)) U := by
  have hn := I_n hI
  have fi : ∀ a b, 0 ≤ a → a < T 11 2 → 0 ≤ b → b < T 11 2 → fkS T a = fkS T b → a = b := fun a b a0 a1 b0 b1 e => hR.inj a b ⟨a0, a1⟩ ⟨b0, b1⟩ (by have : T 11 2 - 1 - rkS T a = T 11 2 - 1 - rkS T b := e; omega)
  intro fu
  induction fu with
  | zero => intro c i U _ _ _ _ _ _ _ _ h; exact absurd h (Nat.not_lt_zero _)
  | succ fu ih =>
    intro c i U hC hF h8 h9 hc cl i0 i1 hf
    show b_X6_markFallers_L10 42 (jI gr) (jI lim) post K (w_X6_markFallers_L10 42 (jI gr) (jI lim) post K fu) (jI c) (jI (T 11 2 - 1 - i)) U
    unfold b_X6_markFallers_L10
    have cb := cnt_b (p := fun p => QD T gr p ∧ fkS T p < i) hR.n0
    have fin : ((∀ p, 0 ≤ p → p < T 11 2 → fkS T p < i) ∨ lim ≤ c) → K (jI c) U := fun he => by
      have m := mk_fin (g := fkS T) hR.n0 hc cl he
      have e : c = cnt (mkd T (QD T gr) (fkS T) lim) (T 11 2) := by
        rw [hc]
        exact cnt_c hR.n0 (fun k k0 k1 => (m k k0 k1).trans ⟨fun q => ⟨⟨k0, k1⟩, q⟩, fun q => q.2⟩)
      rw [e]
      refine hK U hC hF (row9_c h9 (fun p p0 p1 => ?_))
      by_cases z : isOne T p
      · have mz := m p z.1 z.2
        by_cases z2 : QD T gr p ∧ fkS T p < i
        · rw [cif_t ⟨z, z2⟩, cif_t ⟨z, mz.mp z2⟩]
        · rw [cif_f (fun q => z2 q.2), cif_f (fun q => z2 (mz.mpr q.2))]
      · rw [cif_f (fun q => z q.1), cif_f (fun q => z q.1)]
    refine br_lt (T 11 2 - 1 - i) 0 rfl rfl ⟨by omega, by omega⟩ ⟨by omega, by omega⟩ (fun c1 => fin (Or.inl (fun p p0 p1 => by have := (hR.b p ⟨p0, p1⟩).1; show T 11 2 - 1 - rkS T p < i; omega))) (fun c1 => ?_)
    refine br_le lim c rfl rfl ⟨by omega, by omega⟩ ⟨by omega, by omega⟩ (fun c2 => fin (Or.inr c2)) (fun c2 => ⟨jvp (T 11 2 - 1 - i) rfl c1 (by omega) (by decide), fun x5 hx5 => ?_⟩)
    obtain ⟨o, ho, er, e8⟩ := x_at8 hR h8 c1 (by omega) (by omega)
    have ef : fkS T o = i := by show T 11 2 - 1 - rkS T o = i; omega
    have hx5 : x5 = jI o := hx5.trans e8
    have vo : vp_in x5 10 := jvp o hx5 ho.1 (by have := ho.2; omega) (by decide)
    have st := mk_step (Q := QD T gr) (g := fkS T) hR.n0 fi ho.1 ho.2
    rw [ef] at st
    have rm := I_r h2 o ho.1 ho.2
    have skip : ¬ QD T gr o → w_X6_markFallers_L10 42 (jI gr) (jI lim) post K fu (jI c) (jI (T 11 2 - 1 - (i + 1))) U := fun z => by
      rw [cif_f z, Int.add_zero] at st
      refine ih c (i + 1) U hC hF h8 (row9_c h9 (fun p p0 p1 => ?_)) (by rw [st]; exact hc) cl (by omega) (by omega) (by omega)
      by_cases z2 : isOne T p ∧ QD T gr p
      · by_cases z3 : fkS T p < i
        · rw [cif_t ⟨z2.1, z2.2, z3⟩, cif_t ⟨z2.1, z2.2, by omega⟩]
        · have : fkS T p ≠ i := fun e => z (by rw [← fi p o z2.1.1 z2.1.2 ho.1 ho.2 (by omega)]; exact z2.2)
          rw [cif_f (fun q => z3 q.2.2), cif_f (fun q => by have := q.2.2; omega)]
      · rw [cif_f (fun q => z2 ⟨q.1, q.2.1⟩), cif_f (fun q => z2 ⟨q.1, q.2.1⟩)]
    have es : ∀ y : Int32, y = jI (T 11 2 - 1 - i) + (-1) → y = jI (T 11 2 - 1 - (i + 1)) := fun y hy => by
      rw [hy, show T 11 2 - 1 - (i + 1) = T 11 2 - 1 - i + (-1) by omega]
      exact jadd rfl rfl
    refine ⟨vo, br_eq (T 32 o) gr (c_gr hI hC (x := 42) rfl o hx5 ho.1 ho.2) rfl ⟨by omega, by omega⟩ g0 (fun c3 => ⟨vo, ?_⟩) (fun c3 y hy => by rw [es y hy]; exact skip (fun q => c3 q.1))⟩
    refine br_lt (T 33 o) 2 (c_mk hI hC (x := 42) rfl o hx5 ho.1 ho.2) rfl rm.2 ⟨by decide, by decide⟩ (fun c4 y hy => by rw [es y hy]; exact skip (fun q => by have := q.2.1; omega)) (fun c4 => ⟨vo, ?_⟩)
    refine br_fler (fcg (jF (T 34 o)) 1109393408) (jfcg (c_fo hI hC (x := 42) rfl o hx5 ho.1 ho.2) rfl) (fun c5 y hy => by rw [es y hy]; exact skip (fun q => q.2.2 c5)) (fun c5 => ⟨vo, fun V eV y hy z hz => ?_⟩)
    have hQ : QD T gr o := ⟨c3, c4, c5⟩
    rw [cif_t hQ] at st
    rw [es z hz, hy, show jI c + 1 = jI (c + 1) from jadd rfl rfl]
    rw [hx5] at eV
    have fV : fX P9 U V := by rw [eV]; exact fX_sA ⟨rfl, rfl⟩
    refine ih (c + 1) (i + 1) V (CC_x hI fV (fun o k q => by omega) hC) (fX_trans hF fV) (row8_f fV (fun o k q => q) h8) (row9_c (row9_up (v := -1) (E := -1) (by decide) h9 ho.1 (by have := ho.2; omega) eV) (fun p p0 p1 => ?_)) (by rw [st, ← hc]) (by omega) (by omega) (by omega) (by omega)
    by_cases z1 : p = o
    · rw [if_pos z1, cif_t (by rw [z1]; exact ⟨ho, hQ, by omega⟩)]
    · rw [if_neg z1]
      by_cases z2 : isOne T p ∧ QD T gr p
      · by_cases z3 : fkS T p < i
        · rw [cif_t ⟨z2.1, z2.2, z3⟩, cif_t ⟨z2.1, z2.2, by omega⟩]
        · have : fkS T p ≠ i := fun e => z1 (fi p o z2.1.1 z2.1.2 ho.1 ho.2 (by omega))
          rw [cif_f (fun q => z3 q.2.2), cif_f (fun q => by have := q.2.2; omega)]
      · rw [cif_f (fun q => z2 ⟨q.1, q.2.1⟩), cif_f (fun q => z2 ⟨q.1, q.2.1⟩)]
theorem x_fallers {U : Um} {T : Tm} {w : Nat} (hC : CC U T w) (hI : I1 T) (h2 : I2 T) (hR : Rk T) {gr lim : Int} (g0 : r32 gr) (l0 : 0 ≤ lim ∧ lim ≤ 9) {F : Int → Int} (h8 : row8 U T (T 11 2)) (h9 : row9 U F) {post : Int32 → Um → Prop} (h : ∀ V : Um, CC V T w → fX P9 U V → row8 V T (T 11 2) → row9 V (fun p => cif (mkd T (QD T gr) (fkS T) lim p) (-1) (F p)) → post (jI (cnt (mkd T (QD T gr) (fkS T) lim) (T 11 2))) V) : w_X6_markFallers 42 (jI gr) (jI lim) U post := by
  unfold w_X6_markFallers
  have z : ∀ p, 0 ≤ p → p < T 11 2 → ¬ (QD T gr p ∧ fkS T p < 0) := fun p p0 p1 q => by
    have := (hR.b p ⟨p0, p1⟩).2
    have q2 : T 11 2 - 1 - rkS T p < 0 := q.2
    omega
  refine x_X6_officials hC hI h2 (eo := rfl) (al_i (T 11 2 - 1) (jsub rfl rfl) ?_)
  have st := fun (K : Int32 → Um → Prop) hK => xl_fallers hI h2 hR g0 l0 (F := F) (U0 := U) (post := post) (K := K) hK ((T 11 2 - 0).toNat + 1) 0 0 U hC fX_rfl h8 (row9_c h9 (fun p p0 p1 => by rw [cif_f (fun q => z p q.1.1 q.1.2 q.2)])) (by rw [cnt_x (n := 0) (m := T 11 2) (Int.le_refl 0) hR.n0 z, cnt_0 (Int.le_refl 0)]) l0.1 (Int.le_refl 0) hR.n0 (Nat.lt_succ_self _)
  rw [Int.sub_zero, Int.sub_zero] at st
  exact ⟨_, st _ (fun V cV fV r9 => h V cV fV (row8_f fV (fun o k q => q) h8) r9)⟩
