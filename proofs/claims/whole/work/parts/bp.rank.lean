/-! the class: ranks -/
theorem x_isAhead {U : Um} {T : Tm} {w : Nat} (hC : CC U T w) (hI : I1 T) (h2 : I2 T) {p q : Int} (hp : isOne T p) (hq : isOne T q) {post : Int32 → Um → Prop} (h1 : aheadS T p q → post 1 U) (h0 : ¬ aheadS T p q → post 0 U) : w_X6_isAhead 42 (jI p) (jI q) U post := by
  have hn := I_n hI
  obtain ⟨p0, p1⟩ := hp
  obtain ⟨q0, q1⟩ := hq
  have vp : vp_in (jI p) 10 := jvp p rfl p0 (by omega) (by decide)
  have vq : vp_in (jI q) 10 := jvp q rfl q0 (by omega) (by decide)
  have fp := c_fo hI hC (x := 42) rfl p rfl p0 p1
  have fq := c_fo hI hC (x := 42) rfl q rfl q0 q1
  have mp := c_mk hI hC (x := 42) rfl p rfl p0 p1
  have mq := c_mk hI hC (x := 42) rfl q rfl q0 q1
  have rp := (I_r h2 p p0 p1).2
  have rq := (I_r h2 q q0 q1).2
  unfold w_X6_isAhead
  refine ⟨vp, vq, br_fe (fcl (jF (T 34 p)) (jF (T 34 q))) (jfcl fp fq) (fun c1 => ⟨vp, vq, ?_⟩) (fun c1 => ⟨vp, vq, ?_⟩)⟩
  · refine br_eq (T 33 p) (T 33 q) mp mq rp rq (fun c4 => ?_) (fun c4 => ⟨vp, vq, ?_⟩)
    · refine br_le q p rfl rfl ⟨by omega, by omega⟩ ⟨by omega, by omega⟩ (fun c5 => h0 ?_) (fun c5 => h1 (Or.inl ⟨c1, Or.inl ⟨c4, c5⟩⟩))
      unfold aheadS
      rintro (⟨_, z | z⟩ | z)
      · omega
      · omega
      · exact z.1 c1
    · refine br_le (T 33 p) (T 33 q) mp mq rp rq (fun c5 => h0 ?_) (fun c5 => h1 (Or.inl ⟨c1, Or.inr ⟨c4, c5⟩⟩))
      unfold aheadS
      rintro (⟨_, z | z⟩ | z)
      · omega
      · omega
      · exact z.1 c1
  · refine br_fle (fcl (jF (T 34 p)) (jF (T 34 q))) (jfcl fp fq) (fun c2 => h0 ?_) (fun c2 => h1 (Or.inr ⟨c1, c2⟩))
    unfold aheadS
    rintro (z | z)
    · exact c1 z.1
    · exact z.2 c2
theorem xl_sort14 {U : Um} {T : Tm} {w : Nat} (hC : CC U T w) (hI : I1 T) (h2 : I2 T) {q : Int} (hq : isOne T q) {post : Um → Prop} {K : Int32 → Um → Prop} (hK : K (jI (cnt (fun p => aheadS T p q) (T 11 2))) U) : ∀ (fu : Nat) (k : Int), 0 ≤ k → k ≤ T 11 2 → (T 11 2 - k).toNat < fu → w_X6_sortByForm_L14 42 (jI q) post K fu (jI (cnt (fun p => aheadS T p q) k)) (jI k) U := by
  have hn := I_n hI
  intro fu
  induction fu with
  | zero => intro k _ _ h; exact absurd h (Nat.not_lt_zero _)
  | succ fu ih =>
    intro k k0 k1 hf
    show b_X6_sortByForm_L14 42 (jI q) post K (w_X6_sortByForm_L14 42 (jI q) post K fu) (jI (cnt (fun p => aheadS T p q) k)) (jI k) U
    unfold b_X6_sortByForm_L14
    refine x_X6_officials hC hI h2 (eo := rfl) ?_
    refine br_le (T 11 2) k rfl rfl ⟨by omega, by omega⟩ ⟨by omega, by omega⟩ (fun c => ?_) (fun c => ?_)
    · rw [show k = T 11 2 by omega]
      exact hK
    refine x_isAhead hC hI h2 ⟨k0, c⟩ hq (fun c2 => br_1 (fun x hx y hy => ?_)) (fun c2 => br_0 (fun y hy => ?_))
    · rw [hx, hy, show jI (cnt (fun p => aheadS T p q) k) + 1 = jI (cnt (fun p => aheadS T p q) (k + 1)) from by rw [cnt_t (p := fun p => aheadS T p q) k0 c2]; exact jadd rfl rfl, show jI k + 1 = jI (k + 1) from jadd rfl rfl]
      exact ih (k + 1) (by omega) (by omega) (by omega)
    · rw [hy, show cnt (fun p => aheadS T p q) k = cnt (fun p => aheadS T p q) (k + 1) from (cnt_f (p := fun p => aheadS T p q) k0 c2).symm, show jI k + 1 = jI (k + 1) from jadd rfl rfl]
      exact ih (k + 1) (by omega) (by omega) (by omega)
abbrev P8 (o k : Nat) : Prop := o = 42 ∧ k = 8
def row8 (U : Um) (T : Tm) (n : Int) : Prop := ∀ o : Int, 0 ≤ o → o < n → uA U 42 8 (rkS T o).toNat = jI o
theorem xl_sort2 {T : Tm} {w : Nat} (hI : I1 T) (h2 : I2 T) (hR : Rk T) {U0 : Um} {post K : Um → Prop} (hK : ∀ V : Um, CC V T w → fX P8 U0 V → row8 V T (T 11 2) → K V) : ∀ (fu : Nat) (k : Int) (U : Um), CC U T w → fX P8 U0 U → row8 U T k → 0 ≤ k → k ≤ T 11 2 → (T 11 2 - k).toNat < fu → w_X6_sortByForm_L2 42 post K fu (jI k) U := by
  have hn := I_n hI
  intro fu
  induction fu with
  | zero => intro k U _ _ _ _ _ h; exact absurd h (Nat.not_lt_zero _)
  | succ fu ih =>
    intro k U hC hF h8 k0 k1 hf
    show b_X6_sortByForm_L2 42 post K (w_X6_sortByForm_L2 42 post K fu) (jI k) U
    unfold b_X6_sortByForm_L2
    refine x_X6_officials hC hI h2 (eo := rfl) ?_
    refine br_le (T 11 2) k rfl rfl ⟨by omega, by omega⟩ ⟨by omega, by omega⟩ (fun c => ?_) (fun c => ?_)
    · rw [show k = T 11 2 by omega] at h8
      exact hK U hC hF h8
    have hk : isOne T k := ⟨k0, c⟩
    have e : cnt (fun p => aheadS T p k) (T 11 2) = rkS T k := cnt_c hR.n0 (fun p p0 p1 => ⟨fun z => ⟨fun z2 => hR.irr k hk (by rw [z2] at z; exact z), z⟩, fun z => z.2⟩)
    have rb := hR.b k hk
    have st := fun (K : Int32 → Um → Prop) (hK : K (jI (rkS T k)) U) => xl_sort14 hC hI h2 hk (post := post) (K := K) (by rw [e]; exact hK) ((T 11 2 - 0).toNat + 1) 0 (Int.le_refl 0) hR.n0 (Nat.lt_succ_self _)
    rw [cnt_0 (Int.le_refl 0)] at st
    refine ⟨_, st _ ⟨jvp (rkS T k) rfl rb.1 (by omega) (by decide), fun V eV y hy => ?_⟩⟩
    rw [hy, show jI k + 1 = jI (k + 1) from jadd rfl rfl]
    have fV : fX P8 U V := by rw [eV]; exact fX_sA ⟨rfl, rfl⟩
    refine ih (k + 1) V (CC_x hI fV (fun o k q => by omega) hC) (fX_trans hF fV) (fun o o0 o1 => ?_) (by omega) (by omega) (by omega)
    have ob := hR.b o ⟨o0, by omega⟩
    rw [eV, uA_sA, if_pos ⟨rfl, rfl⟩, jI_nat rb.1 (by omega)]
    unfold va_up
    by_cases c2 : o = k
    · rw [if_pos (by rw [c2]), c2]
    · rw [if_neg (fun z => c2 (hR.inj o k ⟨o0, by omega⟩ hk (by omega)))]
      exact h8 o o0 (by omega)
theorem x_sort {U : Um} {T : Tm} {w : Nat} (hC : CC U T w) (hI : I1 T) (h2 : I2 T) (hR : Rk T) {ob : Nat} (eo : ob = 42) {post : Um → Prop} (h : ∀ V : Um, CC V T w → fX P8 U V → row8 V T (T 11 2) → post V) : w_X6_sortByForm ob U post := by
  rw [eo]
  unfold w_X6_sortByForm
  exact ⟨(T 11 2 - 0).toNat + 1, xl_sort2 hI h2 hR (U0 := U) h _ 0 U hC fX_rfl (fun o o0 o1 => by omega) (Int.le_refl 0) hR.n0 (Nat.lt_succ_self _)⟩
theorem x_X11_rank {U : Um} {T : Tm} {w : Nat} (hC : CC U T w) (hI : I1 T) (h2 : I2 T) (hR : Rk T) {a1 : Int32} {i : Int} (e1 : a1 = jI i) (ri : r32 i) {post : Int32 → Um → Prop} (h : ∀ V : Um, CC V T w → fX P8 U V → post (jI (rankS T i)) V) : w_X11_rank 0 a1 U post := by
  have hn := I_n hI
  refine ⟨o_2 hC, x_X9_isNamed hC hI h2 (eo := r_02 hC) (k := 2) rfl e1 (by decide) ri (fun c => br_1 ⟨o_4 hC, ?_⟩) (fun c => br_0 ?_)⟩
  · refine x_sort hC hI h2 hR (r_04 hC) (fun V cV fV h8 => ⟨o_4 cV, jvp i e1 c.1 (by omega) (by decide), ?_⟩)
    obtain ⟨o, ho, e⟩ := hR.onto c.1 c.2
    have r := hR.rank ho
    rw [e] at r
    refine pst (x := rankS T i) ?_ (h V cV fV)
    rw [r, r_04 cV, e1, jI_nat c.1 (by omega), ← e]
    exact h8 o ho.1 ho.2
  · have := h U hC fX_rfl
    unfold rankS at this
    rw [fst_no hR.n0 (fun j j0 j1 e => c (by rw [← e]; exact hR.b j ⟨j0, j1⟩))] at this
    exact this
