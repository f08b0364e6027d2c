/-! the class: review, shelves -/
theorem x_X11_review {U : Um} {T : Tm} {w : Nat} (hA : CA U T w) (hI : I1 T) (h2 : I2 T) (hf : If T) {a1 a2 : Int32} {u d : Int} (e1 : a1 = jI u) (e2 : a2 = jI d) (ru : r32 u) (rd : r32 d) {post : Int32 → Um → Prop} (h : ∀ V : Um, CA V (cif ((0 ≤ u ∧ u ≤ 9) ∧ 0 ≤ d ∧ d ≤ 9) (revT (keepT T) u d) T) w → fX P55 U V → post (jI (cif ((0 ≤ u ∧ u ≤ 9) ∧ 0 ≤ d ∧ d ≤ 9) (revN (keepT T) u d (T 11 2)) (-1))) V) : w_X11_review 0 a1 a2 U post := by
  have hC := hA.1
  have no : ¬ ((0 ≤ u ∧ u ≤ 9) ∧ 0 ≤ d ∧ d ≤ 9) → post (-1) U := fun c => by
    have := h U
    rw [cif_f c, cif_f c] at this
    exact this hA fX_rfl
  refine br_lt u 0 e1 rfl ru ⟨by decide, by decide⟩ (fun c => no (by omega)) (fun c1 => br_lt 9 u rfl e1 ⟨by decide, by decide⟩ ru (fun c => no (by omega)) (fun c2 => br_lt d 0 e2 rfl rd ⟨by decide, by decide⟩ (fun c => no (by omega)) (fun c3 => br_le d 9 e2 rfl rd ⟨by decide, by decide⟩ (fun c4 => ⟨o_4 hC, ?_⟩) (fun c => no (by omega)))))
  refine x_kept hA hI (r_04 hC) (fun V aV fV => ⟨o_4 aV.1, ?_⟩)
  have i1 := I1_keep hI
  have i2 := I2_keep h2
  have i3 := If_keep hf
  refine x_promote aV.1 i1 i2 i3 (Rk_is i1 i3) (r_04 aV.1) e1 e2 ⟨c1, c2⟩ ⟨c3, c4⟩ aV.2.1 (fun Z cZ fZ z9 => ?_)
  have := h Z
  rw [cif_t ⟨⟨c1, c2⟩, c3, c4⟩, cif_t ⟨⟨c1, c2⟩, c3, c4⟩] at this
  rw [show keepT T 11 2 = T 11 2 from keep_nf (by decide)]
  obtain ⟨b1, b2, b3, b4⟩ := aV.2
  have e : eT (keepT T) (revT (keepT T) u d) := eT_trans (eT_blk (by decide)) (eT_blk (by decide))
  refine this ⟨cZ, z9, ?_, ?_, ?_⟩ (fX_trans fV (fX_w (fun o k q => by show o < 55; omega) fZ))
  · exact CPa_x fZ (fun o k q => by omega) (fun k hk => e k (Or.inl hk)) (e 36 (by omega)) (e 37 (by omega)) (e 38 (by omega)) b2
  · exact CTa_x fZ (fun o k q => by omega) (e 16 (by omega)) (e 17 (by omega)) (e 18 (by omega)) (e 19 (by omega)) b3
  · exact CSa_x fZ (fun o k q => by omega) (e 50 (by omega)) (e 51 (by omega)) (e 52 (by omega)) (e 53 (by omega)) b4
theorem x_isShelf {U : Um} {a1 : Int32} {s : Int} (e1 : a1 = jI s) (rs : r32 s) {post : Int32 → Um → Prop} (h1 : (0 ≤ s ∧ s < 3) → post 1 U) (h0 : ¬ (0 ≤ s ∧ s < 3) → post 0 U) : w_X11_isShelf 0 a1 U post := br_lt s 0 e1 rfl rs ⟨by decide, by decide⟩ (fun c => h0 (by omega)) (fun c => br_le 3 s rfl e1 ⟨by decide, by decide⟩ rs (fun c2 => h0 (by omega)) (fun c2 => h1 ⟨c, c2⟩))
theorem x_isPlace {U : Um} {T : Tm} (hS : CSa U T) (h5 : I5 T) {ob : Nat} {s : Int} (eo : ob = 52 + s.toNat) (s0 : 0 ≤ s) (s1 : s < 3) {a1 : Int32} {p : Int} (e1 : a1 = jI p) (rp : r32 p) {post : Int32 → Um → Prop} (h1 : isPl T s p → post 1 U) (h0 : ¬ isPl T s p → post 0 U) : w_X7_isPlace ob a1 U post := by
  rw [eo]
  have hb := (h5 s s0 s1).1
  exact br_lt p 0 e1 rfl rp ⟨by decide, by decide⟩ (fun c => h0 (by omega)) (fun c => br_le (T 50 s) p (hS s s0 s1).1 e1 ⟨by omega, by omega⟩ rp (fun c2 => h0 (by omega)) (fun c2 => h1 ⟨by omega, c, c2⟩))
theorem sh_50 {T : Tm} {s w n j : Int} (h : shTh s w n = 0) : shT T s w n 50 j = if j = s then n else T 50 j := by
  unfold shT
  rw [cif_t h, blk_nf (by decide), up_at]
  by_cases c : j = s
  · rw [if_pos c, if_pos c]
  · rw [if_neg c, if_neg c, up_nf (by decide)]
theorem sh_51 {T : Tm} {s w n j : Int} (h : shTh s w n = 0) : shT T s w n 51 j = if j = s then w else T 51 j := by
  unfold shT
  rw [cif_t h, blk_nf (by decide), up_nf (by decide), up_at]
theorem sh_53 {T : Tm} {s w n j : Int} (h : shTh s w n = 0) : shT T s w n 53 j = if 20 * s ≤ j ∧ j < 20 * s + 20 then 0 else T 53 j := by
  unfold shT
  rw [cif_t h]
  by_cases c : 20 * s ≤ j ∧ j < 20 * s + 20
  · rw [if_pos c, blk_in c.1 c.2]
  · rw [if_neg c, blk_out (by omega), up_nf (by decide), up_nf (by decide)]
theorem sh_nf {T : Tm} {s w n : Int} {k : Nat} (h : k ≠ 50 ∧ k ≠ 51 ∧ k ≠ 53) : shT T s w n k = T k := by
  unfold shT
  by_cases c : shTh s w n = 0
  · rw [cif_t c]
    funext j
    rw [blk_nf h.2.2, up_nf h.1, up_nf h.2.1]
  · rw [cif_f c]
abbrev PSh (s : Int) (o _k : Nat) : Prop := o = 52 + s.toNat
theorem xl_make {s : Int} {a1 a2 : Int32} {U0 : Um} {post K : Um → Prop} (hK : ∀ V : Um, fX (PSh s) U0 V → (∀ i : Nat, i < 20 → uA V (52 + s.toNat) 0 i = -1) → K V) : ∀ (fu : Nat) (k : Int) (U : Um), fX (PSh s) U0 U → (∀ i : Nat, (i : Int) < k → uA U (52 + s.toNat) 0 i = -1) → 0 ≤ k → k ≤ 20 → (20 - k).toNat < fu → w_X7_make_L2 (52 + s.toNat) a1 a2 post K fu (jI k) U := by
  intro fu
  induction fu with
  | zero => intro k U _ _ _ _ h; exact absurd h (Nat.not_lt_zero _)
  | succ fu ih =>
    intro k U hF hr k0 k1 hf
    show b_X7_make_L2 (52 + s.toNat) a1 a2 post K (w_X7_make_L2 (52 + s.toNat) a1 a2 post K fu) (jI k) U
    unfold b_X7_make_L2
    refine br_le 20 k rfl rfl ⟨by decide, by decide⟩ ⟨by omega, by omega⟩ (fun c => hK U hF (fun i hi => hr i (by omega))) (fun c => ⟨jvp k rfl k0 (by omega) (by decide), fun V eV y hy => ?_⟩)
    have fV : fX (PSh s) U V := by rw [eV]; exact fX_sA rfl
    rw [hy, show jI k + 1 = jI (k + 1) from jadd rfl rfl]
    refine ih (k + 1) V (fX_trans hF fV) (fun i hi => ?_) (by omega) (by omega) (by omega)
    rw [eV, uA_sA, if_pos ⟨rfl, rfl⟩, jI_nat k0 (by omega)]
    unfold va_up
    by_cases z : i = k.toNat
    · rw [if_pos z]
    · rw [if_neg z]
      exact hr i (by omega)
theorem x_make {U : Um} {T : Tm} {w : Nat} (hA : CA U T w) (hI : I1 T) (h5 : I5 T) {ob : Nat} {s : Int} (eo : ob = 52 + s.toNat) {a1 a2 : Int32} {v n : Int} (e1 : a1 = jI v) (e2 : a2 = jI n) (hv : shTh s v n = 0) {post : Um → Prop} (h : ∀ V : Um, CA V (shT T s v n) w → fX P55 U V → post V) : w_X7_make ob a1 a2 U post := by
  have hh : (0 ≤ s ∧ s ≤ 2) ∧ (0 ≤ v ∧ v ≤ 1) ∧ 0 ≤ n ∧ n ≤ 20 := by
    have := hv
    simp only [shTh] at this
    split at this
    · split at this
      · omega
      · omega
    · omega
  rw [eo]
  unfold w_X7_make
  have fin : ∀ V : Um, fX (PSh s) U V → (∀ i : Nat, i < 20 → uA V (52 + s.toNat) 0 i = -1) → uI V (52 + s.toNat) 1 = jI n → uI V (52 + s.toNat) 2 = jI v → post V := fun V fV r0 r1 r2 => by
    obtain ⟨b1, b2, b3, b4⟩ := hA.2
    refine h V ⟨CC_T (fun k hk => sh_nf (by omega)) (CC_x hI fV (fun o k q => by have : o = 52 + s.toNat := q; omega) hA.1), ?_, CPa_x fV (fun o k q => by have : o = 52 + s.toNat := q; omega) (fun k hk => sh_nf (by omega)) (sh_nf (by decide)) (sh_nf (by decide)) (sh_nf (by decide)) b2, CTa_x fV (fun o k q => by have : o = 52 + s.toNat := q; omega) (sh_nf (by decide)) (sh_nf (by decide)) (sh_nf (by decide)) (sh_nf (by decide)) b3, fun t t0 t1 => ?_⟩ (fX_w (fun o k q => by have : o = 52 + s.toNat := q; show o < 55; omega) fV)
    · rw [(fV.2.2 42 9 (fun q => by have : 42 = 52 + s.toNat := q; omega)).2.2.1]
      exact b1
    · rw [sh_50 hv, sh_51 hv]
      by_cases c : t = s
      · rw [if_pos c, if_pos c, c]
        refine ⟨r1, r2, fun p p0 p1 => ?_⟩
        rw [r0 p.toNat (by omega)]
        have e : shT T s v n 53 (20 * s + p) = 0 := by rw [sh_53 hv, if_pos (by omega)]
        rw [if_pos e]
        decide
      · rw [if_neg c, if_neg c]
        have f := fun k => fV.2.2 (52 + t.toNat) k (fun q => by have : 52 + t.toNat = 52 + s.toNat := q; omega)
        rw [(f 1).1, (f 2).1, (f 0).2.2.1]
        have b := b4 t t0 t1
        refine ⟨b.1, b.2.1, fun p p0 p1 => ?_⟩
        rw [b.2.2 p p0 p1, sh_nf (k := 52) (by decide)]
        have p2 := (h5 t t0 t1).1.2
        have e : shT T s v n 53 (20 * t + p) = T 53 (20 * t + p) := by rw [sh_53 hv, if_neg (by omega)]
        rw [e]
  refine ⟨(20 - 0 : Int).toNat + 1, xl_make (U0 := U) (fun V fV r0 U4 e4 => ?_) _ 0 U fX_rfl (fun i hi => by omega) (by decide) (by decide) (Nat.lt_succ_self _)⟩
  refine br_eq v 1 e1 rfl ⟨by omega, by omega⟩ ⟨by decide, by decide⟩ (fun c U5 e5 => ?_) (fun c U5 e5 => ?_)
  · refine fin U5 (fX_trans fV (by rw [e5, e4]; exact fX_trans (fX_sI rfl) (fX_sI rfl))) (fun i hi => by rw [e5, e4]; exact r0 i hi) ?_ ?_
    · rw [e5, uI_sI, if_neg (by omega), e4, uI_sI, if_pos ⟨rfl, rfl⟩, e2]
    · rw [e5, uI_sI, if_pos ⟨rfl, rfl⟩, c]
      rfl
  · refine fin U5 (fX_trans fV (by rw [e5, e4]; exact fX_trans (fX_sI rfl) (fX_sI rfl))) (fun i hi => by rw [e5, e4]; exact r0 i hi) ?_ ?_
    · rw [e5, uI_sI, if_neg (by omega), e4, uI_sI, if_pos ⟨rfl, rfl⟩, e2]
    · rw [e5, uI_sI, if_pos ⟨rfl, rfl⟩, show v = 0 by omega]
      rfl
