/-! the class: promotion, all grades -/
theorem FE_60 : FE (1114636288 : UInt32) 15728640 (-18) := ⟨by decide, by omega⟩
theorem FE_40 : FE (1109393408 : UInt32) 10485760 (-18) := ⟨by decide, by omega⟩
theorem ud_no {T : Tm} (hf : If T) {p : Int} (hp : isOne T p) (a : ¬ fcl (jF (T 34 p)) (1114636288 : UInt32) < 0) (b : ¬ (0 : Int32) ≤ fcg (jF (T 34 p)) (1109393408 : UInt32)) : False := by
  obtain ⟨c, q, e, _⟩ := hf p hp
  rw [(fc_lt e FE_60).1] at a
  rw [(fc_lt e FE_40).2.1] at b
  have : fv 10485760 (-18) < fv 15728640 (-18) := by
    unfold fv
    exact Nat.mul_lt_mul_of_pos_right (by decide) (Nat.pow_pos (by decide))
  omega
noncomputable def chS (T : Tm) (u d p : Int) : Int := cif (upS T p ∧ cnt (upP T p) (T 11 2) < u) 1 (cif (dnS T p ∧ cnt (dnP T p) (T 11 2) < d) (-1) 0)
theorem grd_ch {T : Tm} {u d p : Int} : grdS T u d p = T 32 p + chS T u d p := by
  unfold grdS chS
  by_cases c : upS T p ∧ cnt (upP T p) (T 11 2) < u
  · rw [cif_t c, cif_t c]
  · rw [cif_f c, cif_f c]
    by_cases c2 : dnS T p ∧ cnt (dnP T p) (T 11 2) < d
    · rw [cif_t c2, cif_t c2]
      omega
    · rw [cif_f c2, cif_f c2]
      omega
abbrev limU (u gr : Int) : Int := if 5 ≤ gr then 0 else u
abbrev limD (d gr : Int) : Int := if gr ≤ 1 then 0 else d
theorem mk_up {T : Tm} (hR : Rk T) {u gr p : Int} (hp : isOne T p) (hg : T 32 p = gr) : mkd T (QU T gr) (rkS T) (limU u gr) p ↔ upS T p ∧ cnt (upP T p) (T 11 2) < u := by
  have cb := cnt_b (p := fun r => QU T gr r ∧ rkS T r < rkS T p) hR.n0
  by_cases c : 5 ≤ gr
  · rw [show limU u gr = 0 from if_pos c]
    refine ⟨fun q => ?_, fun q => ?_⟩
    · have := q.2.2
      omega
    · have := q.1.1
      omega
  · rw [show limU u gr = u from if_neg c]
    have e : cnt (fun r => QU T gr r ∧ rkS T r < rkS T p) (T 11 2) = cnt (upP T p) (T 11 2) := cnt_c hR.n0 (fun k k0 k1 => by
      have hk : isOne T k := ⟨k0, k1⟩
      have l := hR.lt k p hk hp
      refine ⟨fun ⟨a, b⟩ => ⟨fun z => ?_, by rw [hg]; exact a.1, ⟨by rw [a.1]; omega, a.2⟩, l.mp b⟩, fun ⟨a, b, c2, d⟩ => ⟨⟨by rw [b]; exact hg, c2.2⟩, l.mpr d⟩⟩
      rw [z] at b
      omega)
    rw [show mkd T (QU T gr) (rkS T) u p ↔ isOne T p ∧ QU T gr p ∧ cnt (fun r => QU T gr r ∧ rkS T r < rkS T p) (T 11 2) < u from Iff.rfl, e]
    exact ⟨fun q => ⟨⟨by omega, q.2.1.2⟩, q.2.2⟩, fun q => ⟨hp, ⟨hg, q.1.2⟩, q.2⟩⟩
theorem mk_dn {T : Tm} (hR : Rk T) {d gr p : Int} (hp : isOne T p) (hg : T 32 p = gr) : mkd T (QD T gr) (fkS T) (limD d gr) p ↔ dnS T p ∧ cnt (dnP T p) (T 11 2) < d := by
  have cb := cnt_b (p := fun r => QD T gr r ∧ fkS T r < fkS T p) hR.n0
  by_cases c : gr ≤ 1
  · rw [show limD d gr = 0 from if_pos c]
    refine ⟨fun q => ?_, fun q => ?_⟩
    · have := q.2.2
      omega
    · have := q.1.1
      omega
  · rw [show limD d gr = d from if_neg c]
    have e : cnt (fun r => QD T gr r ∧ fkS T r < fkS T p) (T 11 2) = cnt (dnP T p) (T 11 2) := cnt_c hR.n0 (fun k k0 k1 => by
      have hk : isOne T k := ⟨k0, k1⟩
      have l := hR.lt p k hp hk
      have l2 : fkS T k < fkS T p ↔ rkS T p < rkS T k := by
        show T 11 2 - 1 - rkS T k < T 11 2 - 1 - rkS T p ↔ rkS T p < rkS T k
        omega
      rw [l2, l]
      refine ⟨fun ⟨a, b⟩ => ⟨fun z => ?_, by rw [hg]; exact a.1, ⟨by rw [a.1]; omega, a.2⟩, b⟩, fun ⟨a, b, c2, d⟩ => ⟨⟨by rw [b]; exact hg, c2.2⟩, d⟩⟩
      rw [z] at b
      exact hR.irr p hp b)
    rw [show mkd T (QD T gr) (fkS T) d p ↔ isOne T p ∧ QD T gr p ∧ cnt (fun r => QD T gr r ∧ fkS T r < fkS T p) (T 11 2) < d from Iff.rfl, e]
    exact ⟨fun q => ⟨⟨by omega, q.2.1.2⟩, q.2.2⟩, fun q => ⟨hp, ⟨hg, q.1.2⟩, q.2⟩⟩
noncomputable def F9 (T : Tm) (u d gr p : Int) : Int := cif (isOne T p ∧ T 32 p < gr) (chS T u d p) 0
abbrev sm9 (T : Tm) (u d gr p : Int) : Prop := T 32 p < gr ∧ chS T u d p ≠ 0
theorem F9_s {T : Tm} (hR : Rk T) (hf : If T) {u d gr p : Int} : cif (mkd T (QD T gr) (fkS T) (limD d gr) p) (-1) (cif (mkd T (QU T gr) (rkS T) (limU u gr) p) 1 (F9 T u d gr p)) = F9 T u d (gr + 1) p := by
  unfold F9
  by_cases hp : isOne T p
  · by_cases hg : T 32 p = gr
    · rw [cif_f (p := isOne T p ∧ T 32 p < gr) (fun q => by have := q.2; omega), cif_t (p := isOne T p ∧ T 32 p < gr + 1) ⟨hp, by omega⟩]
      unfold chS
      have mu := mk_up hR (u := u) hp hg
      have md := mk_dn hR (d := d) hp hg
      by_cases c : upS T p ∧ cnt (upP T p) (T 11 2) < u
      · have nd : ¬ mkd T (QD T gr) (fkS T) (limD d gr) p := fun q => ud_no hf hp c.1.2.2 q.2.1.2.2
        rw [cif_f nd, cif_t (mu.mpr c), cif_t c]
      · rw [cif_f c, cif_f (p := mkd T (QU T gr) (rkS T) (limU u gr) p) (fun q => c (mu.mp q))]
        by_cases c2 : dnS T p ∧ cnt (dnP T p) (T 11 2) < d
        · rw [cif_t (md.mpr c2), cif_t c2]
        · rw [cif_f (fun q => c2 (md.mp q)), cif_f c2]
    · rw [cif_f (p := mkd T (QD T gr) (fkS T) (limD d gr) p) (fun q => hg q.2.1.1), cif_f (p := mkd T (QU T gr) (rkS T) (limU u gr) p) (fun q => hg q.2.1.1)]
      by_cases c : T 32 p < gr
      · rw [cif_t ⟨hp, c⟩, cif_t ⟨hp, by omega⟩]
      · rw [cif_f (fun q => c q.2), cif_f (fun q => by have := q.2; omega)]
  · rw [cif_f (p := mkd T (QD T gr) (fkS T) (limD d gr) p) (fun q => hp q.1), cif_f (p := mkd T (QU T gr) (rkS T) (limU u gr) p) (fun q => hp q.1), cif_f (fun q => hp q.1), cif_f (fun q => hp q.1)]
theorem sm9_s {T : Tm} (hR : Rk T) (hf : If T) {u d gr : Int} : cnt (sm9 T u d gr) (T 11 2) + cnt (mkd T (QU T gr) (rkS T) (limU u gr)) (T 11 2) + cnt (mkd T (QD T gr) (fkS T) (limD d gr)) (T 11 2) = cnt (sm9 T u d (gr + 1)) (T 11 2) := by
  rw [← cnt_or hR.n0 (fun k k0 k1 q => by have := q.1.1; have := q.2.2.1.1; omega), ← cnt_or hR.n0 (fun k k0 k1 q => ?_)]
  · refine cnt_c hR.n0 (fun p p0 p1 => ?_)
    have hp : isOne T p := ⟨p0, p1⟩
    by_cases hg : T 32 p = gr
    · have mu := mk_up hR (u := u) hp hg
      have md := mk_dn hR (d := d) hp hg
      rw [mu, md]
      show (T 32 p < gr ∧ chS T u d p ≠ 0 ∨ _) ∨ _ ↔ T 32 p < gr + 1 ∧ chS T u d p ≠ 0
      unfold chS
      by_cases c : upS T p ∧ cnt (upP T p) (T 11 2) < u
      · rw [cif_t c]
        exact ⟨fun _ => ⟨by omega, by decide⟩, fun _ => Or.inl (Or.inr c)⟩
      · rw [cif_f c]
        by_cases c2 : dnS T p ∧ cnt (dnP T p) (T 11 2) < d
        · rw [cif_t c2]
          exact ⟨fun _ => ⟨by omega, by decide⟩, fun _ => Or.inr c2⟩
        · rw [cif_f c2]
          exact ⟨fun q => q.elim (fun q => q.elim (fun q => absurd rfl q.2) (fun q => absurd q c)) (fun q => absurd q c2), fun q => absurd rfl q.2⟩
    · refine ⟨fun q => q.elim (fun q => q.elim (fun q => ⟨by have := q.1; omega, q.2⟩) (fun q => absurd q.2.1.1 hg)) (fun q => absurd q.2.1.1 hg), fun q => Or.inl (Or.inl ⟨by have := q.1; omega, q.2⟩)⟩
  · rcases q.1 with z | z
    · have := z.1
      have := q.2.2.1.1
      omega
    · exact ud_no hf ⟨k0, k1⟩ z.2.1.2.2 q.2.2.1.2.2
