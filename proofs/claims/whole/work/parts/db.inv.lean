/-! what the reference keeps stays sound -/
def I2o (T : Tm) (wh gi gr mk : Int → Int) (td : Int) : Prop := (∀ k, 0 ≤ k → k < 48 → wh k = -1 ∨ isOne T (wh k) ∧ isSeat T (k / 3) (k % 3)) ∧ (∀ g s t, isSeat T g s → isSeat T g t → wh (3 * g + s) = wh (3 * g + t) → wh (3 * g + s) = -1 ∨ s = t) ∧
  (∀ k, 0 ≤ k → k < 48 → -1 ≤ gi k ∧ gi k ≤ 100) ∧ (∀ o, isOne T o → (1 ≤ gr o ∧ gr o ≤ 5) ∧ r32 (mk o)) ∧ -1 ≤ td ∧ td ≤ 7
def Ifo (T : Tm) (fo : Int → Int) : Prop := ∀ o, isOne T o → fOk (jF (fo o))
theorem I2o_i {T : Tm} (h : I2 T) : I2o T (T 30) (T 31) (T 32) (T 33) (T 35 0) := h
theorem I2o_2 {T : Tm} (h : I2o T (T 30) (T 31) (T 32) (T 33) (T 35 0)) : I2 T := h
theorem Ifo_i {T : Tm} (h : If T) : Ifo T (T 34) := h
theorem Ifo_2 {T : Tm} (h : Ifo T (T 34)) : If T := h
theorem I2o_c {T T2 : Tm} {wh gi gr mk wh2 gi2 gr2 mk2 : Int → Int} {td td2 : Int} (hI : I1 T) (e10 : T2 10 = T 10) (e11 : T2 11 = T 11) (hw : ∀ k, 0 ≤ k → k < 48 → wh2 k = wh k) (hg : ∀ k, 0 ≤ k → k < 48 → gi2 k = gi k) (hr : ∀ k, 0 ≤ k → k < 10 → gr2 k = gr k) (hm : ∀ k, 0 ≤ k → k < 10 → mk2 k = mk k) (ht : td2 = td) (h : I2o T wh gi gr mk td) : I2o T2 wh2 gi2 gr2 mk2 td2 := by
  obtain ⟨a, b, c, d, t⟩ := h
  have hn := I_n hI
  have sT : ∀ g s, isSeat T2 g s ↔ isSeat T g s := fun g s => by
    unfold isSeat isGame gm
    rw [e10, e11]
  have oT : ∀ o, isOne T2 o ↔ isOne T o := fun o => by
    unfold isOne
    rw [e11]
  refine ⟨fun k k0 k1 => ?_, fun g s u hs hu e => ?_, fun k k0 k1 => by rw [hg k k0 k1]; exact c k k0 k1, fun o ho => ?_, by rw [ht]; exact t⟩
  · rw [hw k k0 k1]
    exact (a k k0 k1).elim Or.inl (fun q => Or.inr ⟨(oT _).mpr q.1, (sT _ _).mpr q.2⟩)
  · have s1 := (sT g s).mp hs
    have u1 := (sT g u).mp hu
    have s3 := seat3 hI s1
    have u3 := seat3 hI u1
    rw [hw _ (by omega) (by omega), hw _ (by omega) (by omega)] at e
    rw [hw _ (by omega) (by omega)]
    exact b g s u s1 u1 e
  · have o1 := (oT o).mp ho
    have o2 := o1.2
    rw [hr o o1.1 (by omega), hm o o1.1 (by omega)]
    exact d o o1
theorem Ifo_c {T T2 : Tm} {fo fo2 : Int → Int} (hI : I1 T) (e11 : T2 11 = T 11) (hf : ∀ k, 0 ≤ k → k < 10 → fo2 k = fo k) (h : Ifo T fo) : Ifo T2 fo2 := by
  have hn := I_n hI
  intro o ho
  have o1 : isOne T o := ⟨ho.1, by rw [← e11]; exact ho.2⟩
  have o2 := o1.2
  rw [hf o o1.1 (by omega)]
  exact h o o1
/-- an earlier state is sound -/
def EP (T : Tm) (i : Int) : Prop := I2o T (fun k => T 36 (117 * i + k)) (fun k => T 36 (117 * i + 48 + k)) (fun o => T 36 (117 * i + 96 + o)) (fun o => T 36 (117 * i + 106 + o)) (T 36 (117 * i + 116)) ∧ Ifo T (fun o => T 37 (10 * i + o))
theorem EP_c {T T2 : Tm} {i j : Int} (hI : I1 T) (e10 : T2 10 = T 10) (e11 : T2 11 = T 11) (h36 : ∀ k, 0 ≤ k → k < 117 → T2 36 (117 * i + k) = T 36 (117 * j + k)) (h37 : ∀ k, 0 ≤ k → k < 10 → T2 37 (10 * i + k) = T 37 (10 * j + k)) (h : EP T j) : EP T2 i := by
  have sh : ∀ a k : Int, 0 ≤ a + k → a + k < 117 → T2 36 (117 * i + a + k) = T 36 (117 * j + a + k) := fun a k k0 k1 => by
    have := h36 (a + k) k0 k1
    rw [show 117 * i + a + k = 117 * i + (a + k) by omega, show 117 * j + a + k = 117 * j + (a + k) by omega]
    exact this
  exact ⟨I2o_c hI e10 e11 (fun k k0 k1 => h36 k k0 (by omega)) (fun k k0 k1 => sh 48 k (by omega) (by omega)) (fun k k0 k1 => sh 96 k (by omega) (by omega)) (fun k k0 k1 => sh 106 k (by omega) (by omega)) (h36 116 (by decide) (by decide)) h.1, Ifo_c hI e11 (fun k k0 k1 => h37 k k0 k1) h.2⟩
theorem EP_k {T T0 : Tm} {m : Int} (hI : I1 T) (h2 : I2 T) (hf : If T) (e : ∀ k, k ≠ 36 ∧ k ≠ 37 ∧ k ≠ 38 → T0 k = T k) : EP (keep2 T0 (117 * m) m) m := by
  have q : ∀ k, k ≠ 36 ∧ k ≠ 37 ∧ k ≠ 38 → keep2 T0 (117 * m) m k = T k := fun k hk => funext fun j => (keep2_nf hk).trans (congrFun (e k hk) j)
  refine ⟨I2o_c hI (q 10 (by decide)) (q 11 (by decide)) (fun k k0 k1 => ?_) (fun k k0 k1 => ?_) (fun k k0 k1 => ?_) (fun k k0 k1 => ?_) ?_ (I2o_i h2), Ifo_c hI (q 11 (by decide)) (fun k k0 k1 => ?_) (Ifo_i hf)⟩
  · show keep2 T0 (117 * m) m 36 (117 * m + k) = _
    rw [k2_wh k0 k1, e 30 (by decide)]
  · show keep2 T0 (117 * m) m 36 (117 * m + 48 + k) = _
    rw [k2_gi k0 k1, e 31 (by decide)]
  · show keep2 T0 (117 * m) m 36 (117 * m + 96 + k) = _
    rw [k2_gr k0 k1, e 32 (by decide)]
  · show keep2 T0 (117 * m) m 36 (117 * m + 106 + k) = _
    rw [k2_mk k0 k1, e 33 (by decide)]
  · show keep2 T0 (117 * m) m 36 (117 * m + 116) = _
    rw [k2_td, e 35 (by decide)]
  · show keep2 T0 (117 * m) m 37 (10 * m + k) = _
    rw [k2_fo k0 k1, e 34 (by decide)]
/-- what is told, taped, on shelves -/
def I53 (T : Tm) : Prop := ∀ k, 0 ≤ k → k < 60 → (0 ≤ T 53 k ∧ T 53 k ≤ 1) ∧ (T 53 k ≠ 0 → r32 (T 52 k))
def IB (T : Tm) : Prop := I1 T ∧ I0 T ∧ It T ∧ I5 T ∧ I53 T
def IH (T : Tm) : Prop := (0 ≤ T 38 0 ∧ T 38 0 ≤ 8) ∧ ∀ i, 0 ≤ i → i < T 38 0 → EP T i
def IA (T : Tm) : Prop := IB T ∧ I2 T ∧ If T ∧ IH T
theorem I0_c {T T2 : Tm} (e3 : T2 3 = T 3) (e11 : T2 11 = T 11) (h : I0 T) : I0 T2 := fun a ha => by
  have := h a ⟨ha.1, by rw [← e11]; exact ha.2⟩
  unfold wayS at this ⊢
  rw [e3]
  exact this
theorem I5_c {T T2 : Tm} (e50 : T2 50 = T 50) (e51 : T2 51 = T 51) (h : I5 T) : I5 T2 := fun s s0 s1 => by
  rw [e50, e51]
  exact h s s0 s1
theorem I53_c {T T2 : Tm} (e52 : T2 52 = T 52) (e53 : T2 53 = T 53) (h : I53 T) : I53 T2 := fun s s0 s1 => by
  rw [e52, e53]
  exact h s s0 s1
theorem If_c {T T2 : Tm} (e11 : T2 11 = T 11) (e34 : T2 34 = T 34) (h : If T) : If T2 := fun o ho => by
  rw [e34]
  exact h o ⟨ho.1, by rw [← e11]; exact ho.2⟩
theorem IB_c {T T2 : Tm} (e : ∀ k, (k ≤ 14 ∨ (16 ≤ k ∧ k ≤ 17) ∨ (50 ≤ k ∧ k ≤ 53)) → T2 k = T k) (h : IB T) : IB T2 := by
  obtain ⟨a, b, c, d, f⟩ := h
  exact ⟨I1_c (fun k j hk => congrFun (e k (by omega)) j) a, I0_c (e 3 (by decide)) (e 11 (by decide)) b, It_c (e 16 (by decide)) (e 17 (by decide)) c, I5_c (e 50 (by decide)) (e 51 (by decide)) d, I53_c (e 52 (by decide)) (e 53 (by decide)) f⟩
theorem IH_keep {T : Tm} (hI : I1 T) (h2 : I2 T) (hf : If T) (h : IH T) : IH (keepT T) := by
  obtain ⟨⟨n0, n1⟩, hp⟩ := h
  have q : ∀ k, k ≠ 36 ∧ k ≠ 37 ∧ k ≠ 38 → keepT T k = T k := fun k hk => keep_f hk
  by_cases c : T 38 0 = 8
  · have ek : keepT T = keep2 (keep0 T) (117 * 7) 7 := by
      rw [keepT_e]
      unfold keepV
      rw [if_pos c, c]
      rfl
    have q10 := q 10 (by decide)
    have q11 := q 11 (by decide)
    unfold IH
    rw [ek] at q10 q11 ⊢
    refine ⟨by rw [k2_38]; decide, fun i i0 i1 => ?_⟩
    rw [k2_38] at i1
    by_cases d : i = 7
    · rw [d]
      exact EP_k hI h2 hf (fun k hk => k0_o hk)
    · refine EP_c hI q10 q11 (fun k k0 k1 => ?_) (fun k k0 k1 => ?_) (hp (i + 1) (by omega) (by omega))
      · rw [k2_old (by omega), k0_36 (by omega) (by omega)]
        congr 1
        omega
      · rw [k2_fold (by omega), k0_37 (by omega) (by omega)]
        congr 1
        omega
  · have ek : keepT T = keep2 T (117 * T 38 0) (T 38 0) := by
      rw [keepT_e]
      unfold keepV
      rw [if_neg c]
    have q10 := q 10 (by decide)
    have q11 := q 11 (by decide)
    unfold IH
    rw [ek] at q10 q11 ⊢
    refine ⟨by rw [k2_38]; omega, fun i i0 i1 => ?_⟩
    rw [k2_38] at i1
    by_cases d : i = T 38 0
    · rw [d]
      exact EP_k hI h2 hf (fun k hk => rfl)
    · refine EP_c hI q10 q11 (fun k k0 k1 => ?_) (fun k k0 k1 => ?_) (hp i (by omega) (by omega))
      · rw [k2_old (by omega)]
      · rw [k2_fold (by omega)]
theorem IA_keep {T : Tm} (h : IA T) : IA (keepT T) := by
  obtain ⟨b, h2, hf, hh⟩ := h
  exact ⟨IB_c (fun k hk => keep_f (by omega)) b, I2_keep h2, If_keep hf, IH_keep b.1 h2 hf hh⟩
theorem IH_c {T T2 : Tm} (hI : I1 T) (e10 : T2 10 = T 10) (e11 : T2 11 = T 11) (e36 : T2 36 = T 36) (e37 : T2 37 = T 37) (e38 : T2 38 = T 38) (h : IH T) : IH T2 := by
  refine ⟨by rw [e38]; exact h.1, fun i i0 i1 => ?_⟩
  rw [e38] at i1
  exact EP_c hI e10 e11 (fun k _ _ => by rw [e36]) (fun k _ _ => by rw [e37]) (h.2 i i0 i1)
theorem IA_r {T T2 : Tm} (h : IA T) (e : eT T T2) (h2 : I2 T2) (hf : If T2) : IA T2 :=
  ⟨IB_c (fun k hk => e k (by omega)) h.1, h2, hf, IH_c h.1.1 (e 10 (by decide)) (e 11 (by decide)) (e 36 (by decide)) (e 37 (by decide)) (e 38 (by decide)) h.2.2.2⟩
theorem IA_put {T : Tm} (h : IA T) {g s o : Int} : IA (putT T g s o) := by
  unfold putT
  by_cases c : putR T g s o = 0
  · rw [cif_t c]
    have w : whyF T g s o = 0 := by
      unfold putR at c
      have wb := whyF_b T g s o
      by_cases c1 : whyF T g s o = 1 ∨ whyF T g s o = 2
      · rw [cif_t c1] at c
        omega
      · rw [cif_f c1] at c
        by_cases c2 : gm T g 3 = T 35 0
        · rw [cif_t c2] at c
          omega
        · rw [cif_f c2] at c
          omega
    obtain ⟨hs, ho, _, hn⟩ := whyF_0 w
    refine IA_r (IA_keep h) (eT_up (by decide)) (I2_c (T := up T 30 (3 * g + s) o) (fun k j hk => ?_) (I2_put h.1.1 h.2.1 hs ho hn)) (If_c ?_ ?_ h.2.2.1)
    · unfold up
      rw [keep_nf (by omega)]
    · funext j
      rw [up_nf (by decide), keep_nf (by decide)]
    · funext j
      rw [up_nf (by decide), keep_nf (by decide)]
  · rw [cif_f c]
    exact h
theorem IA_drop {T : Tm} (h : IA T) {g s : Int} : IA (dropT T g s) := by
  unfold dropT
  by_cases c : isSeat T g s ∧ T 30 (3 * g + s) ≠ -1 ∧ ¬ gm T g 3 < T 35 0 ∧ gm T g 3 ≠ T 35 0
  · rw [cif_t c]
    have k := IA_keep h
    exact IA_r k (eT_up (by decide)) (I2_del k.2.1 _) (If_c (funext fun j => up_nf (by decide)) (funext fun j => up_nf (by decide)) k.2.2.1)
  · rw [cif_f c]
    exact h
theorem IA_swap {T : Tm} (h : IA T) {g s u t : Int} : IA (swapT T g s u t) := by
  unfold swapT
  by_cases c : swapS T g s u t = 0
  · rw [cif_t c]
    obtain ⟨s1, s2, n1, n2, ne⟩ := swapS_seat c
    have q1 := seat3 h.1.1 s1
    have q2 := seat3 h.1.1 s2
    have d1 := seatD (g := g) q1.2.1 q1.2.2
    have d2 := seatD (g := u) q2.2.1 q2.2.2
    have k := IA_keep h
    have x := I2_ex h.1.1 h.2.1 (k := 3 * g + s) (j := 3 * u + t) (by omega) (by omega) (by omega) (by omega) n1 n2 (by rw [d1.1, d1.2, d2.1, d2.2]; exact c)
    have e : ∀ f : Nat, f ≠ 30 → exT (keepT T) (3 * g + s) (3 * u + t) f = keepT T f := fun f hf => funext fun j => by
      unfold exT
      rw [up_nf hf, up_nf hf]
    refine IA_r k (fun f hf => e f (by omega)) (I2_c (T := exT T (3 * g + s) (3 * u + t)) (fun f j hf => ?_) x) (If_c (e 11 (by decide)) (e 34 (by decide)) k.2.2.1)
    unfold exT up
    simp only [keep_nf (T := T) (k := 30) (by decide), keep_nf (T := T) (k := f) (by omega)]
  · rw [cif_f c]
    exact h
theorem IA_day {T : Tm} (h : IA T) : IA (dayT T) := by
  unfold dayT
  by_cases c : T 35 0 = 7
  · rw [cif_t c]
    exact h
  · rw [cif_f c]
    have t := I_t h.2.1
    have k := IA_keep h
    exact IA_r k (eT_up (by decide)) (I2_day k.2.1 ⟨by omega, by omega⟩) (If_c (funext fun j => up_nf (by decide)) (funext fun j => up_nf (by decide)) k.2.2.1)
theorem IA_play {T : Tm} (h : IA T) {z : Int32} : IA (playT T z) := by
  unfold playT
  by_cases c : T 35 0 = 7
  · rw [cif_t c]
    exact h
  · rw [cif_f c]
    have t := I_t h.2.1
    have k := IA_keep h
    have d : IA (up (keepT T) 35 0 (T 35 0 + 1)) := IA_r k (eT_up (by decide)) (I2_day k.2.1 ⟨by omega, by omega⟩) (If_c (funext fun j => up_nf (by decide)) (funext fun j => up_nf (by decide)) k.2.2.1)
    have p := ply_i (d := T 35 0) (z := z) d.1.1 d.2.1 d.2.2.1 (by decide : (0 : Int) ≤ 48) (by decide)
    exact IA_r d (eT_ply d.1.1 d.2.1 d.2.2.1) p.2.1 p.2.2.1
theorem IA_mark {T : Tm} (h : IA T) {g s m : Int} : IA (mrkT T g s m) := by
  unfold mrkT
  by_cases c : mkOk T g s m
  · rw [cif_t c]
    have k := IA_keep h
    have s3 := seat3 h.1.1 c.1
    have o1 : isOne (keepT T) (keepT T 30 (3 * g + s)) := by
      rw [keep_f (by decide)]
      have r := (I_k h.2.1 (3 * g + s) (by omega) (by omega)).resolve_left c.2.1
      exact ⟨r.1, by rw [keep_f (by decide)]; exact r.2⟩
    exact IA_r k eT_mark (I2_mark k.2.1 ⟨by have := c.2.2.2.2; omega, c.2.2.2.2.2⟩) (If_mark k.2.2.1 o1 c.2.2.2.2.1 c.2.2.2.2.2)
  · rw [cif_f c]
    exact h
