/-! the class: the bits of a form, marks, days that are played -/
theorem xl_bits41 {U : Um} {c0 : Nat} {q0 : Int} (g : gp c0 q0) (h0 : 0 < c0) {post : Int32 → Um → Prop} {k_50 : UInt32 → Int32 → Um → Prop} (hN : 8388608 ≤ c0 → ∀ v, FE v c0 (-23) → k_50 v (jI (q0 + 150)) U) (hS : c0 < 8388608 → ∀ v, smD v c0 1 → k_50 v (jI 1) U) : ∀ (fu : Nat) (p : Int) (v : UInt32), 1 ≤ p → p ≤ 254 → ((8388608 ≤ c0 ∧ FE v c0 (q0 + 127 - p) ∧ q0 + 127 - p ≤ -23) ∨ (c0 < 8388608 ∧ p ≤ 127 ∧ smD v c0 p)) → p.toNat < fu → w_X6_bitsOfForm_L41 post k_50 fu v (jI p) U := by
  intro fu
  induction fu with
  | zero => intro p v a b c d; exact absurd d (Nat.not_lt_zero _)
  | succ fu ih =>
    intro p v p1 p2 hv hm
    show b_X6_bitsOfForm_L41 post k_50 (w_X6_bitsOfForm_L41 post k_50 fu) v (jI p) U
    unfold b_X6_bitsOfForm_L41
    rcases hv with ⟨n1, n2, n3⟩ | ⟨s1, s2, s3⟩
    · have hg := ge1 n2 n1
      refine br_fler (fcg v FP.fconst1) (jfcg rfl rfl) (fun c => ?_) (fun c => ?_)
      · have e : q0 + 127 - p = -23 := by
          have := hg.mp c
          omega
        rw [show p = q0 + 150 by omega]
        rw [e] at n2
        exact hN n1 v n2
      · have hp : q0 + 127 - p < -23 := by
          by_cases z : -23 ≤ q0 + 127 - p
          · exact absurd (hg.mpr z) c
          · omega
        refine br_le p 1 rfl rfl ⟨by omega, by omega⟩ ⟨by omega, by omega⟩ (fun c2 => by omega) (fun c2 => ?_)
        have f2 := f_dbl n2 n1 (by omega)
        rw [show q0 + 127 - p + 1 = q0 + 127 - (p - 1) by omega] at f2
        refine ⟨FE_vf f2, ?_⟩
        intro w hw
        refine al_i (p - 1) (by rw [show (-1 : Int32) = jI (-1) from rfl, jI_add]; exact congrArg jI (by omega)) ?_
        exact ih (p - 1) w (by omega) (by omega) (Or.inl ⟨n1, by rw [hw]; exact f2, by omega⟩) (by omega)
    · refine br_fler (fcg v FP.fconst1) (jfcg rfl rfl) (fun c => absurd c (smD_1 s1 p1 s3)) (fun c => ?_)
      refine br_le p 1 rfl rfl ⟨by omega, by omega⟩ ⟨by omega, by omega⟩ (fun c2 => ?_) (fun c2 => ?_)
      · rw [show p = 1 by omega] at s3 ⊢
        exact hS s1 v s3
      · have := smD_s h0 s1 (by omega) s2 s3
        refine ⟨this.2, ?_⟩
        intro w hw
        refine al_i (p - 1) (by rw [show (-1 : Int32) = jI (-1) from rfl, jI_add]; exact congrArg jI (by omega)) ?_
        exact ih (p - 1) w (by omega) (by omega) (Or.inr ⟨s1, by omega, by rw [hw]; exact this.1⟩) (by omega)
theorem xl_bits18 {U : Um} {c0 : Nat} {q0 : Int} (g : gp c0 q0) {post : Int32 → Um → Prop} {k_29 : UInt32 → Int32 → Um → Prop} (hk : ∀ (p : Int) v, 1 ≤ p → p ≤ 254 → FE v c0 (q0 + 127 - p) → (8388608 ≤ c0 → q0 + 127 - p ≤ -23) → (c0 < 8388608 → p = 127) → k_29 v (jI p) U) : ∀ (fu : Nat) (p : Int) (v : UInt32), 127 ≤ p → p ≤ 254 → FE v c0 (q0 + 127 - p) → (p = 127 ∨ (-23 ≤ q0 + 127 - p ∧ 8388608 ≤ c0)) → (254 - p).toNat < fu → w_X6_bitsOfForm_L18 post k_29 fu v (jI p) U := by
  intro fu
  induction fu with
  | zero => intro p v a b c d e; exact absurd e (Nat.not_lt_zero _)
  | succ fu ih =>
    intro p v p1 p2 hv hp hm
    show b_X6_bitsOfForm_L18 post k_29 (w_X6_bitsOfForm_L18 post k_29 fu) v (jI p) U
    unfold b_X6_bitsOfForm_L18
    refine br_flt (fcl v FP.fconst2) (jfcl rfl rfl) (fun c => ?_) (fun c => ?_)
    · exact hk p v (by omega) p2 hv (fun z => lt2 hv z c) (fun z => by omega)
    · have h2 := ge2 hv c
      have f2 := f_hlv hv h2.2 (by omega)
      refine br_le 254 p rfl rfl ⟨by omega, by omega⟩ ⟨by omega, by omega⟩ (fun c2 => by omega) (fun _ => ?_)
      rw [show q0 + 127 - p - 1 = q0 + 127 - (p + 1) by omega] at f2
      refine ⟨FE_vf f2, ?_⟩
      intro w hw
      refine al_i (p + 1) (jadd rfl rfl) ?_
      exact ih (p + 1) w (by omega) (by omega) (by rw [hw]; exact f2) (Or.inr ⟨by omega, h2.2⟩) (by omega)
theorem x_bits {U : Um} {T : Tm} {w : Nat} (hC : CC U T w) (hI : I1 T) (hf : If T) {ob : Nat} (eo : ob = 42) {a1 : Int32} {o : Int} (e1 : a1 = jI o) (o0 : 0 ≤ o) (o1 : o < T 11 2) {post : Int32 → Um → Prop} (h : post (jI ((jF (T 34 o)).toNat : Int)) U) : w_X6_bitsOfForm ob a1 U post := by
  subst e1
  rw [eo]
  have hn := I_n hI
  obtain ⟨c0, q0, hx, _⟩ := hf o ⟨o0, o1⟩
  have rf := c_fo hI hC (x := 42) rfl (E := jI o) o rfl o0 o1
  unfold w_X6_bitsOfForm
  generalize jF (T 34 o) = x at hx rf h
  have g := hx.2
  refine ⟨jvp o rfl o0 (by omega) (by decide), fun x2 hx2 => ?_⟩
  rw [hx2, rf]
  refine br_fltr (fcg x FP.fconst0) (jfcg rfl rfl) (fun c => ?_) (fun c => ?_)
  case refine_2 =>
    have c00 : c0 = 0 := by
      rcases Nat.eq_zero_or_pos c0 with z | z
      · exact z
      · exfalso
        refine c ((fc_lt hx FE_0).2.2.2.mpr ?_)
        have := Nat.mul_pos z (Nat.two_pow_pos (q0 + 400).toNat)
        unfold fv
        omega
    rw [hx.1, c00] at h
    exact h
  have h0 : 0 < c0 := by
    rcases Nat.eq_zero_or_pos c0 with z | z
    · exfalso
      have := (fc_lt hx FE_0).2.2.2.mp c
      unfold fv at this
      rw [z] at this
      simp at this
    · exact z
  refine ⟨(254 - 127 : Int).toNat + 1, xl_bits18 g (fun p v p1 p2 fv1 hn hs => ?_) _ 127 x (by omega) (by omega) (by rw [show q0 + 127 - 127 = q0 by omega]; exact hx) (Or.inl rfl) (by omega)⟩
  refine ⟨p.toNat + 1, xl_bits41 g h0 (fun n1 w fw => ?_) (fun s1 w sw => ?_) _ p v p1 p2 ?_ (by omega)⟩
  · have ge := (ge1 fw n1).mpr (by omega)
    refine ⟨fun _ => ?_, fun q => absurd ge q⟩
    obtain ⟨d, r, fd, ed⟩ := f_sub1 fw n1
    have f2 := f2i_sub fd (r2 := c0 - 8388608) (by omega) ed
    refine ⟨FE_vf fd, f2.1, ?_⟩
    have o := (or_sh (a := q0 + 150) (b := 0) (by omega) (by omega) (by omega) (by omega) (by omega)).2
    refine pst ?_ h
    rw [f2.2, o, jI_add, hx.1]
    unfold fenc
    rw [if_neg (by omega)]
    congr 1
    omega
  · obtain ⟨c, q, f, e⟩ := sw
    have f2 := f2i_sub f s1 (by rw [e]; rfl)
    have lt := smD_1 s1 (by omega) ⟨c, q, f, e⟩
    refine ⟨fun q => absurd q lt, fun _ => ⟨f2.1, ?_⟩⟩
    rw [f2.2]
    rw [hx.1] at h
    unfold fenc at h
    rw [if_pos s1] at h
    exact h
  · by_cases z : 8388608 ≤ c0
    · exact Or.inl ⟨z, fv1, hn z⟩
    · refine Or.inr ⟨by omega, by have := hs (by omega); omega, c0, _, fv1, ?_⟩
      have hp := hs (by omega)
      rw [hp, show q0 = -149 by omega]
      rfl
abbrev PM (o k : Nat) : Prop := o = 42 ∧ (k = 1 ∨ k = 3 ∨ k = 5 ∨ k = 6)
theorem x_giveMark {U : Um} {T : Tm} {w : Nat} (hC : CC U T w) (hI : I1 T) (h2 : I2 T) (hf : If T) {ob : Nat} (eo : ob = 42) {a1 a2 : Int32} {k m : Int} (e1 : a1 = jI k) (e2 : a2 = jI m) (k0 : 0 ≤ k) (k1 : k < 48) (hk : T 30 k ≠ -1) (m0 : 0 ≤ m) (m1 : m ≤ 100) {post : Um → Prop} (h : ∀ V : Um, CC V (markT T k m) w → fX PM U V → post V) : w_X6_giveMark ob a1 a2 U post := by
  subst e1 e2
  rw [eo]
  have hn := I_n hI
  have hw := hC.1.1
  have sk := seat_k h2 k0 k1 hk
  have fo := fo_mark (hf (T 30 k) ⟨sk.2.1, sk.2.2⟩) m0 m1
  have rf := c_fo hI hC (x := 42) rfl (E := jI (T 30 k)) (T 30 k) rfl sk.2.1 sk.2.2
  have rm := c_mk hI hC (x := 42) rfl (E := jI (T 30 k)) (T 30 k) rfl sk.2.1 sk.2.2
  unfold w_X6_giveMark
  have vk : vp_in (jI k) 48 := jvp k rfl k0 (by omega) (by decide)
  have vo : vp_in (jI (T 30 k)) 10 := jvp (T 30 k) rfl sk.2.1 (by omega) (by decide)
  refine ⟨vk, al_i (T 30 k) (c_h hC rfl k rfl k0 k1) ⟨vo, ?_⟩⟩
  rw [rf]
  refine ⟨fo.1, fun x4 hx4 => ⟨fo.2.1, fun x5 hx5 => ?_⟩⟩
  have hmk : FP.fadd x4 x5 = mkF (jF (T 34 (T 30 k))) m := by rw [hx4, hx5]; rfl
  rw [hmk]
  refine ⟨fo.2.2.1, vo, fun U4 e4 => ⟨vo, vo, fun U5 e5 => ⟨vk, fun U6 e6 => ?_⟩⟩⟩
  have f6 : fX PM U U6 := by rw [e6, e5, e4]; exact fX_trans (fX_sF ⟨rfl, by omega⟩) (fX_trans (fX_sA ⟨rfl, by omega⟩) (fX_sA ⟨rfl, by omega⟩))
  have e14 : ∀ j, j ≤ 14 → markT T k m j = T j := fun j hj => funext fun i => mark_nf (by omega)
  have nz : (T 30 k).toNat < 1000 := by omega
  have to : Int32.toNatClampNeg (jI (T 30 k)) = (T 30 k).toNat := jI_nat sk.2.1 (by omega)
  have tk : Int32.toNatClampNeg (jI k) = k.toNat := jI_nat k0 (by omega)
  rw [to] at e4 e5 rm
  rw [tk] at e6
  have q4 : uA U4 42 6 = uA U 42 6 := by rw [e4]; rfl
  have q5 : uA U5 42 3 = uA U 42 3 := by rw [e5, uA_sA, if_neg (by decide), e4]; rfl
  have u3 : uA U6 42 3 = va_up (uA U 42 3) k.toNat (jI m) := by rw [e6, uA_sA, if_pos ⟨rfl, rfl⟩, q5]
  have u6 : uA U6 42 6 = va_up (uA U 42 6) (T 30 k).toNat (jI (T 33 (T 30 k)) + 1) := by rw [e6, uA_sA, if_neg (by decide), e5, uA_sA, if_pos ⟨rfl, rfl⟩, q4, rm]
  have u5 : uF U6 42 5 = va_up (uF U 42 5) (T 30 k).toNat (mkF (jF (T 34 (T 30 k))) m) := by rw [e6, uF_sA, e5, uF_sA, e4, uF_sF, if_pos ⟨rfl, rfl⟩]
  have ne : ∀ j, j ≠ 3 → j ≠ 5 → j ≠ 6 → uA U6 42 j = uA U 42 j := fun j j3 j5 j6 => by
    rw [e6, uA_sA, if_neg (fun q => j3 q.2), e5, uA_sA, if_neg (fun q => j6 q.2), e4]; rfl
  have n1 : uI U6 42 1 = uI U 42 1 := by rw [e6, e5, e4]; rfl
  refine h U6 ⟨PT_x f6 hC.1, CW_c e14 (CW_x hI hw f6 (fun o k q => Or.inr q.1) hC.2.1), CRo_c e14 ?_⟩ f6
  obtain ⟨r1, r2, r3⟩ := hC.2.2
  refine ⟨?_, fun j j0 j1 => ?_, fun o ho => ?_⟩
  · rw [n1, mark_nf (by decide)]
    exact r1
  · rw [ne 2 (by decide) (by decide) (by decide), u3, mark_nf (f := 30) (by decide)]
    refine ⟨(r2 j j0 j1).1, ?_⟩
    unfold markT va_up
    rw [up_nf (by decide), up_nf (by decide), up_at]
    by_cases z : j = k
    · rw [if_pos (by rw [z]), if_pos z]
    · rw [if_neg (by omega), if_neg z]
      exact (r2 j j0 j1).2
  · rw [ne 4 (by decide) (by decide) (by decide), ne 7 (by decide) (by decide) (by decide), u5, u6, mark_nf (f := 32) (by decide)]
    have e30 : markT T k m 30 = T 30 := funext fun i => mark_nf (by decide)
    rw [e30]
    refine ⟨⟨(r3 o ho).1.1, ?_, ?_⟩, (r3 o ho).2⟩
    · unfold markT va_up
      rw [up_nf (by decide), up_at]
      by_cases z : o = T 30 k
      · rw [if_pos (by rw [z]), if_pos z, jF_nat]
      · rw [if_neg (by omega), if_neg z, up_nf (by decide)]
        exact (r3 o ho).1.2.1
    · unfold markT va_up
      rw [up_at]
      by_cases z : o = T 30 k
      · rw [if_pos (by rw [z]), if_pos z, jI_wr]
        exact jadd rfl rfl
      · rw [if_neg (by omega), if_neg z, up_nf (by decide), up_nf (by decide)]
        exact (r3 o ho).1.2.2
theorem onD_seat {T : Tm} {d g s : Int} (s0 : 0 ≤ s) (s1 : s < 3) : onD T d (3 * g + s) ↔ isSeat T g s ∧ T 30 (3 * g + s) ≠ -1 ∧ gm T g 3 = d := by
  unfold onD
  rw [show (3 * g + s) / 3 = g by omega, show (3 * g + s) % 3 = s by omega]
theorem ply_skip {T : Tm} {d : Int} {z : Int32} {k : Int} (k0 : 0 ≤ k) : ∀ (n : Nat), (∀ j, k ≤ j → j < k + n → ¬ onD T d j) → plyS T d z (k + n) = plyS T d z k := by
  intro n
  induction n with
  | zero => intro _; rw [show k + ((0 : Nat) : Int) = k by omega]
  | succ n ih =>
    intro h
    rw [show k + ((n + 1 : Nat) : Int) = k + n + 1 by omega, ply_s (by omega), cif_f (h (k + n) (by omega) (by omega)), ih (fun j a b => h j a (by omega))]
theorem xl_ply38 {T : Tm} {w : Nat} (hI : I1 T) (h2 : I2 T) (hf : If T) {d g : Int} (rd : r32 d) (z : Int32) (g0 : 0 ≤ g) (g1 : g < T 11 3) {U0 : Um} {post : Int32 → Um → Prop} {K : Int32 → Int32 → Um → Prop} (hK : ∀ V : Um, CC V (plyS T d z (3 * (g + 1))).2.2 w → fX PM U0 V → K (plyS T d z (3 * (g + 1))).1 (jI (plyS T d z (3 * (g + 1))).2.1) V) : ∀ (fu : Nat) (s : Int) (V : Um), CC V (plyS T d z (3 * g + s)).2.2 w → fX PM U0 V → 0 ≤ s → s ≤ gm T g 7 → (gm T g 7 - s).toNat < fu → w_X6_playDay_L38 42 (jI d) (jI g) post K fu (plyS T d z (3 * g + s)).1 (jI (plyS T d z (3 * g + s)).2.1) (jI s) V := by
  have hn := I_n hI
  have hg := I_g hI g g0 g1
  unfold gOk at hg
  intro fu
  induction fu with
  | zero => intro s V _ _ _ _ h; exact absurd h (Nat.not_lt_zero _)
  | succ fu ih =>
    intro s V hC hF s0 s1 hfu
    have hw := hC.1.1
    obtain ⟨i1, i2, i3, i4, i5⟩ := ply_i (d := d) (z := z) hI h2 hf (k := 3 * g + s) (by omega) (by omega)
    have st := ply_s (T := T) (d := d) (z := z) (k := 3 * g + s) (by omega)
    generalize hp : plyS T d z (3 * g + s) = P at hC i1 i2 i3 i4 i5 st ⊢
    obtain ⟨zz, cn, T2⟩ := P
    dsimp only at hC i1 i2 i3 i4 i5 st ⊢
    have e11 : T2 11 3 = T 11 3 := i5 11 3 (by decide)
    have eg : ∀ k, gm T2 g k = gm T g k := fun k => i5 10 _ (by decide)
    have q0 := r_42 hC (x := 42) rfl
    have ow := oc_of q0 (oc_w hw)
    have qg := r_g hC q0 (E := jI g) g rfl g0 (by omega)
    have og := oc_of qg (oc_g hw (by omega))
    have vg : vp_in (jI g) 16 := jvp g rfl g0 (by omega) (by decide)
    have c7 := c_g hC qg 7 g0 (by omega) (by decide)
    have c3 := c_g hC qg 3 g0 (by omega) (by decide)
    change _ = jI (gm T2 g 7) at c7
    change _ = jI (gm T2 g 3) at c3
    rw [eg] at c7 c3
    show b_X6_playDay_L38 42 (jI d) (jI g) post K (w_X6_playDay_L38 42 (jI d) (jI g) post K fu) zz (jI cn) (jI s) V
    unfold b_X6_playDay_L38
    refine ⟨ow, vg, og, br_le (gm T g 7) s c7 rfl ⟨by omega, by omega⟩ ⟨by omega, by omega⟩ (fun c => ?_) (fun c => ?_)⟩
    · have sk := ply_skip (T := T) (d := d) (z := z) (k := 3 * g + s) (by omega) (3 - s).toNat (fun j a b q => by
        have := q.1.2
        rw [show j / 3 = g by omega] at this
        omega)
      rw [show 3 * g + s + ((3 - s).toNat : Int) = 3 * (g + 1) by omega, hp] at sk
      have := hK V (by rw [sk]; exact hC) hF
      rw [sk] at this
      exact this
    have os := onD_seat (T := T) (d := d) (g := g) (s := s) s0 (by omega)
    have vs : vp_in (jI (3 * g + s)) 48 := jvp (3 * g + s) rfl (by omega) (by omega) (by decide)
    have ss : jI s + 1 = jI (s + 1) := jadd rfl rfl
    have e30 : T2 30 (3 * g + s) = T 30 (3 * g + s) := i5 30 _ (by decide)
    have ik := I_k h2 (3 * g + s) (by omega) (by omega)
    have pass : ¬ onD T d (3 * g + s) → ∀ y : Int32, y = jI s + 1 → w_X6_playDay_L38 42 (jI d) (jI g) post K fu zz (jI cn) y V := fun q y hy => by
      rw [cif_f q] at st
      have r := ih (s + 1) V
      rw [show 3 * g + (s + 1) = 3 * g + s + 1 by omega, st] at r
      rw [hy, ss]
      exact r hC hF (by omega) (by omega) (by omega)
    refine x_X9_placeOf (g := g) (s := s) rfl rfl ⟨ow, vg, og, br_eq (gm T g 3) d c3 rfl ⟨by omega, by omega⟩ rd (fun c1 => ?_) (fun c1 => pass (fun q => c1 (os.mp q).2.2))⟩
    have hh := c_h hC (x := 42) rfl (E := jI (3 * g + s)) (3 * g + s) rfl (by omega) (by omega)
    rw [e30] at hh
    refine ⟨vs, br_eq (T 30 (3 * g + s)) (-1) hh rfl ⟨by omega, by omega⟩ ⟨by omega, by omega⟩ (fun c2 => pass (fun q => (os.mp q).2.1 c2)) (fun c2 => ?_)⟩
    rw [cif_t (os.mpr ⟨⟨⟨g0, g1⟩, s0, c⟩, c2, c1⟩)] at st
    intro z2 hz2
    have hz3 : z2 = nxtZ zz := by
      rw [hz2]
      unfold nxtZ
      rw [Int32.mul_comm]
    rw [hz3]
    have lb := lotS_b (nxtZ zz)
    refine x_giveMark hC i1 i2 i3 rfl rfl (lot_e (nxtZ zz)) (by omega) (by omega) (by rw [e30]; exact c2) lb.1 lb.2 (fun V2 c4 f4 => ?_)
    refine al_i (cn + 1) (jadd rfl rfl) (fun y hy => ?_)
    have r := ih (s + 1) V2
    rw [show 3 * g + (s + 1) = 3 * g + s + 1 by omega, st] at r
    rw [hy, ss]
    exact r c4 (fX_trans hF f4) (by omega) (by omega) (by omega)
theorem xl_ply23 {T : Tm} {w : Nat} (hI : I1 T) (h2 : I2 T) (hf : If T) {d : Int} (rd : r32 d) (z : Int32) {U0 : Um} {post K : Int32 → Um → Prop} (hK : ∀ V : Um, CC V (plyS T d z 48).2.2 w → fX PM U0 V → K (jI (plyS T d z 48).2.1) V) : ∀ (fu : Nat) (g : Int) (V : Um), CC V (plyS T d z (3 * g)).2.2 w → fX PM U0 V → 0 ≤ g → g ≤ T 11 3 → (T 11 3 - g).toNat < fu → w_X6_playDay_L23 42 (jI d) post (fun a b => K a b) fu (plyS T d z (3 * g)).1 (jI (plyS T d z (3 * g)).2.1) (jI g) V := by
  have hn := I_n hI
  intro fu
  induction fu with
  | zero => intro g V _ _ _ _ h; exact absurd h (Nat.not_lt_zero _)
  | succ fu ih =>
    intro g V hC hF g0 g1 hfu
    have hw := hC.1.1
    obtain ⟨i1, i2, i3, i4, i5⟩ := ply_i (d := d) (z := z) hI h2 hf (k := 3 * g) (by omega) (by omega)
    have e11 : (plyS T d z (3 * g)).2.2 11 3 = T 11 3 := i5 11 3 (by decide)
    have q0 := r_42 hC (x := 42) rfl
    have c7 := c_n7 hC q0
    rw [e11] at c7
    show b_X6_playDay_L23 42 (jI d) post (fun a b => K a b) (w_X6_playDay_L23 42 (jI d) post (fun a b => K a b) fu) (plyS T d z (3 * g)).1 (jI (plyS T d z (3 * g)).2.1) (jI g) V
    unfold b_X6_playDay_L23
    refine ⟨oc_of q0 (oc_w hw), br_le (T 11 3) g c7 rfl ⟨by omega, by omega⟩ ⟨by omega, by omega⟩ (fun c => ?_) (fun c => ?_)⟩
    · have sk := ply_skip (T := T) (d := d) (z := z) (k := 3 * g) (by omega) (48 - 3 * g).toNat (fun j a b q => by
        have := q.1.1
        omega)
      rw [show 3 * g + ((48 - 3 * g).toNat : Int) = 48 by omega] at sk
      have := hK V (by rw [sk]; exact hC) hF
      rw [sk] at this
      exact this
    · have hg := I_g hI g g0 c
      unfold gOk at hg
      have e0 : plyS T d z (3 * g) = plyS T d z (3 * g + 0) := by rw [Int.add_zero]
      rw [e0] at hC ⊢
      refine ⟨(gm T g 7 - 0).toNat + 1, xl_ply38 hI h2 hf rd z g0 c (U0 := U0) (fun Z cZ fZ y hy => ?_) _ 0 V hC hF (by decide) (by omega) (Nat.lt_succ_self _)⟩
      rw [hy, show jI g + 1 = jI (g + 1) from jadd rfl rfl]
      exact ih (g + 1) Z cZ fZ (by omega) (by omega) (by omega)
theorem x_day {U V : Um} {T : Tm} {w : Nat} (hC : CC U T w) (hI : I1 T) {v : Int} {E : Int32} (hE : E = jI v) (hV : V = sI U 42 1 E) : CC V (up T 35 0 v) w ∧ fX PM U V := by
  have hw := hC.1.1
  have f1 : fX PM U V := by rw [hV]; exact fX_sI ⟨rfl, by omega⟩
  refine ⟨⟨PT_x f1 hC.1, CW_c (e_up (by decide)) (CW_x hI hw f1 (fun o k q => Or.inr q.1) hC.2.1), CRo_c (e_up (by decide)) ?_⟩, f1⟩
  obtain ⟨r1, r2, r3⟩ := hC.2.2
  rw [hV]
  refine ⟨?_, fun j j0 j1 => ?_, fun o ho => ?_⟩
  · rw [uI_sI, if_pos ⟨rfl, rfl⟩, up_eq, hE]
  · rw [up_nf (f := 30) (by decide), up_nf (f := 31) (by decide)]
    exact r2 j j0 j1
  · have e30 : up T 35 0 v 30 = T 30 := funext fun i => up_nf (by decide)
    rw [up_nf (f := 32) (by decide), up_nf (f := 33) (by decide), up_nf (f := 34) (by decide), e30]
    exact r3 o ho
theorem x_playDay {U : Um} {T : Tm} {w : Nat} (hC : CC U T w) (hI : I1 T) (h2 : I2 T) (hf : If T) (ht : T 35 0 ≤ 6) {ob : Nat} (eo : ob = 42) {z : Int32} {post : Int32 → Um → Prop} (h : ∀ V : Um, CC V (plyS (up T 35 0 (T 35 0 + 1)) (T 35 0) z 48).2.2 w → fX PM U V → post (jI (plyS (up T 35 0 (T 35 0 + 1)) (T 35 0) z 48).2.1) V) : w_X6_playDay ob z U post := by
  rw [eo]
  have hn := I_n hI
  have tb := I_t h2
  have i1 : I1 (up T 35 0 (T 35 0 + 1)) := I1_up (by decide) hI
  have i2 : I2 (up T 35 0 (T 35 0 + 1)) := I2_day h2 ⟨by omega, by omega⟩
  have i3 : If (up T 35 0 (T 35 0 + 1)) := hf
  have ct := c_t hC (x := 42) rfl
  unfold w_X6_playDay
  intro x2 hx2 x4 hx4 U3 e3
  rw [hx2, hx4, ct]
  rw [ct] at e3
  obtain ⟨c3, f3⟩ := x_day hC hI (v := T 35 0 + 1) (jadd rfl rfl) e3
  exact ⟨(T 11 3 - 0).toNat + 1, xl_ply23 (T := up T 35 0 (T 35 0 + 1)) i1 i2 i3 ⟨by omega, by omega⟩ z (U0 := U) h _ 0 U3 c3 f3 (by decide) (show (0 : Int) ≤ T 11 3 by omega) (Nat.lt_succ_self _)⟩
theorem x_isMarkable {U : Um} {T : Tm} {w : Nat} (hC : CC U T w) (hI : I1 T) (h2 : I2 T) {ob : Nat} (eo : ob = 42) {a1 a2 : Int32} {g s : Int} (e1 : a1 = jI g) (e2 : a2 = jI s) (rg : r32 g) (rs : r32 s) {post : Int32 → Um → Prop} (h1 : (isSeat T g s ∧ T 30 (3 * g + s) ≠ -1 ∧ gm T g 3 < T 35 0 ∧ T 31 (3 * g + s) = -1) → post 1 U) (h0 : ¬ (isSeat T g s ∧ T 30 (3 * g + s) ≠ -1 ∧ gm T g 3 < T 35 0 ∧ T 31 (3 * g + s) = -1) → post 0 U) : w_X6_isMarkable ob a1 a2 U post := by
  subst e1 e2
  rw [eo]
  have hn := I_n hI
  have hw := hC.1.1
  have q0 := r_42 hC (x := 42) rfl
  unfold w_X6_isMarkable
  refine ⟨oc_of q0 (oc_w hw), x_X9_isSeat hC hI h2 (eo := q0) rfl rfl rg rs (fun c1 => ?_) (fun c1 => br_0 (h0 (fun q => c1 q.1)))⟩
  have b := seat3 hI c1
  have ik := I_k h2 (3 * g + s) (by omega) (by omega)
  have im := h2.2.2.1 (3 * g + s) (by omega) (by omega)
  have vs : vp_in (jI (3 * g + s)) 48 := jvp (3 * g + s) rfl (by omega) (by omega) (by decide)
  refine br_1 (x_X6_isPlayed hC hI h2 (eo := rfl) rfl c1.1.1 c1.1.2 (fun c2 => ?_) (fun c2 => br_0 (h0 (fun q => c2 q.2.2.1))))
  refine br_1 (x_X9_placeOf (g := g) (s := s) rfl rfl ⟨vs, br_eq (T 30 (3 * g + s)) (-1) (c_h hC rfl (3 * g + s) rfl (by omega) (by omega)) rfl ⟨by omega, by omega⟩ ⟨by omega, by omega⟩ (fun c3 => h0 (fun q => q.2.1 c3)) (fun c3 => ⟨vs, br_eq (T 31 (3 * g + s)) (-1) (c_m hC rfl (3 * g + s) rfl (by omega) (by omega)) rfl ⟨by omega, by omega⟩ ⟨by omega, by omega⟩ (fun c4 => h1 ⟨c1, c3, c2, c4⟩) (fun c4 => h0 (fun q => c4 q.2.2.2))⟩)⟩)
