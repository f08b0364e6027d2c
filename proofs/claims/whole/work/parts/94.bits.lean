/-! the bits of a float, as the reference makes them -/
theorem or_sh {a b : Int} (a0 : 0 ≤ a) (a1 : a ≤ 254) (b0 : 0 ≤ b) (b1 : b < 8388608) (ha : a ≤ 255) : (jI a <<< ((23 : Int32) &&& 31)) ||| jI b = jI (a * 8388608 + b) ∧ (jI a <<< ((23 : Int32) &&& 31)) = jI (a * 8388608) := by
  have e23 : ((23 : Int32) &&& 31) = 23 := by decide
  have ha2 : ((a.toNat : Nat) : Int) = a := Int.toNat_of_nonneg a0
  have hs : (jI a <<< (23 : Int32)) = jI (a * 8388608) := by
    have : ∀ n : Fin 256, (jI (n.val : Int) <<< (23 : Int32)) = jI ((n.val : Int) * 8388608) := by decide +kernel
    have h := this ⟨a.toNat, by omega⟩
    simp only [ha2] at h
    exact h
  rw [e23]
  refine ⟨?_, hs⟩
  rw [hs, ← Int32.toBitVec_inj, Int32.toBitVec_or]
  have tb : ∀ v : Int, 0 ≤ v → v < 4294967296 → (jI v).toBitVec.toNat = v.toNat := by
    intro v v0 v1
    show (BitVec.ofInt 32 v).toNat = _
    rw [BitVec.toNat_ofInt]
    omega
  apply BitVec.eq_of_toNat_eq
  rw [BitVec.toNat_or, tb _ (by omega) (by omega), tb _ b0 (by omega), tb _ (by omega) (by omega)]
  have := Nat.shiftLeft_add_eq_or_of_lt (i := 23) (b := b.toNat) (by omega) a.toNat
  rw [Nat.shiftLeft_eq] at this
  rw [show (a * 8388608).toNat = a.toNat * 2 ^ 23 by omega, ← this]
  omega
theorem fv_lt {c d : Nat} {q r : Int} (hq : -400 ≤ q) (hr : -400 ≤ r) (hc : 8388608 ≤ c) (hd : d < 16777216) (h : fv c q < fv d r) : q ≤ r := by
  unfold fv at h
  have u : 2 ^ (23 + (q + 400).toNat) ≤ c * 2 ^ (q + 400).toNat := by
    rw [Nat.pow_add]
    exact Nat.mul_le_mul_right _ (by omega)
  have v : d * 2 ^ (r + 400).toNat ≤ 2 ^ (24 + (r + 400).toNat) := by
    rw [Nat.pow_add]
    exact Nat.mul_le_mul_right _ (by omega)
  have : 23 + (q + 400).toNat < 24 + (r + 400).toNat := (Nat.pow_lt_pow_iff_right (a := 2) (by decide)).mp (by omega)
  omega
theorem fv_le_e {c d : Nat} {q : Int} (h : fv c q ≤ fv d q) : c ≤ d := by
  unfold fv at h
  exact Nat.le_of_mul_le_mul_right h (Nat.two_pow_pos _)
theorem fv_mono {c d : Nat} {q r : Int} (hq : q ≤ r) (hc : c ≤ d) : fv c q ≤ fv d r := by
  unfold fv
  exact Nat.mul_le_mul hc (Nat.pow_le_pow_right (by decide) (by omega))
/-- below 2 or not, below 1 or not, of a normal float -/
theorem ge2 {x : UInt32} {c : Nat} {q : Int} (h : FE x c q) : ¬ fcl x FP.fconst2 < 0 → -22 ≤ q ∧ 8388608 ≤ c := by
  intro k
  have g := h.2
  have k2 : fv 8388608 (-22) ≤ fv c q := Nat.le_of_not_lt (fun z => k ((fc_lt h FE_2).1.mpr z))
  have : -22 ≤ q := by
    by_cases z : -22 ≤ q
    · exact z
    · exfalso
      have a : fv c q ≤ fv 16777215 (-23) := fv_mono (by omega) (by omega)
      have b : fv 16777215 (-23) < fv 8388608 (-22) := by
        unfold fv
        rw [show ((-22 : Int) + 400).toNat = ((-23 : Int) + 400).toNat + 1 by decide, Nat.pow_succ', ← Nat.mul_assoc]
        exact Nat.mul_lt_mul_of_pos_right (by decide) (Nat.two_pow_pos _)
      omega
  omega
theorem lt2 {x : UInt32} {c : Nat} {q : Int} (h : FE x c q) (hc : 8388608 ≤ c) : fcl x FP.fconst2 < 0 → q ≤ -23 := by
  intro k
  have g := h.2
  have k2 := (fc_lt h FE_2).1.mp k
  by_cases z : q ≤ -23
  · exact z
  · exfalso
    have : fv 8388608 (-22) ≤ fv c q := fv_mono (by omega) hc
    omega
theorem ge1 {x : UInt32} {c : Nat} {q : Int} (h : FE x c q) (hc : 8388608 ≤ c) : (0 : Int32) ≤ fcg x FP.fconst1 ↔ -23 ≤ q := by
  have g := h.2
  rw [(fc_lt h FE_1).2.1]
  constructor
  · intro k
    by_cases z : -23 ≤ q
    · exact z
    · exfalso
      have a : fv c q ≤ fv 16777215 (-24) := fv_mono (by omega) (by omega)
      have b : fv 16777215 (-24) < fv 8388608 (-23) := by
        unfold fv
        rw [show ((-23 : Int) + 400).toNat = ((-24 : Int) + 400).toNat + 1 by decide, Nat.pow_succ', ← Nat.mul_assoc]
        exact Nat.mul_lt_mul_of_pos_right (by decide) (Nat.two_pow_pos _)
      omega
  · intro k
    exact fv_mono k hc
/-- a float that was small, so often doubled -/
def smD (v : UInt32) (c0 : Nat) (p : Int) : Prop := ∃ c q, FE v c q ∧ fv c q = fv c0 (-149 + (127 - p))
theorem smD_s {v : UInt32} {c0 : Nat} {p : Int} (h0 : 0 < c0) (h1 : c0 < 8388608) (p1 : 1 < p) (p2 : p ≤ 127) (h : smD v c0 p) : smD (FP.fmul v FP.fconst2) c0 (p - 1) ∧ vf_n32 (FP.fmul v FP.fconst2) := by
  obtain ⟨c, q, f, e⟩ := h
  have g := f.2
  have dbl : 2 * fv c0 (-149 + (127 - p)) = fv c0 (-149 + (127 - (p - 1))) := by
    unfold fv
    rw [show (-149 + (127 - (p - 1)) + 400).toNat = (-149 + (127 - p) + 400).toNat + 1 by omega, Nat.pow_succ', Nat.mul_left_comm]
  have cp : 0 < c := by
    rcases Nat.eq_zero_or_pos c with z | z
    · rw [z] at e
      unfold fv at e
      have := Nat.mul_pos h0 (Nat.two_pow_pos (-149 + (127 - p) + 400).toNat)
      omega
    · exact z
  by_cases z : 8388608 ≤ c
  · have hq : q < 104 := by
      have a : fv c q < fv 8388608 (-22) := by
        rw [e]
        have : fv c0 (-149 + (127 - p)) ≤ fv c0 (-22) := fv_mono (by omega) (Nat.le_refl _)
        have b : fv c0 (-22) < fv 8388608 (-22) := by
          unfold fv
          exact Nat.mul_lt_mul_of_pos_right h1 (Nat.two_pow_pos _)
        omega
      have := fv_lt (by omega) (by omega) z (by omega) a
      omega
    have f2 := f_dbl f z hq
    refine ⟨⟨c, q + 1, f2, ?_⟩, FE_vf f2⟩
    rw [← dbl, ← e]
    unfold fv
    rw [show (q + 1 + 400).toNat = (q + 400).toNat + 1 by omega, Nat.pow_succ', Nat.mul_left_comm]
  · have hq : q = -149 := by omega
    subst hq
    have f2 := f_dbl0 f cp (by omega)
    refine ⟨⟨2 * c, -149, f2, ?_⟩, FE_vf f2⟩
    rw [← dbl, ← e]
    unfold fv
    rw [Nat.mul_assoc]
theorem smD_1 {v : UInt32} {c0 : Nat} {p : Int} (h1 : c0 < 8388608) (p1 : 1 ≤ p) (h : smD v c0 p) : ¬ (0 : Int32) ≤ fcg v FP.fconst1 := by
  obtain ⟨c, q, f, e⟩ := h
  rw [(fc_lt f FE_1).2.1, e]
  have a : fv c0 (-149 + (127 - p)) ≤ fv c0 (-23) := fv_mono (by omega) (Nat.le_refl _)
  have b : fv c0 (-23) < fv 8388608 (-23) := by
    unfold fv
    exact Nat.mul_lt_mul_of_pos_right h1 (Nat.two_pow_pos _)
  omega
theorem l_bits29 {U : Um} {c0 : Nat} {q0 : Int} (g : gp c0 q0) (h0 : 0 < c0) {post : Int32 → Um → Prop} {k_50 : Int32 → UInt32 → Um → Prop} (hN : 8388608 ≤ c0 → ∀ v, FE v c0 (-23) → k_50 (jI (q0 + 150)) v U) (hS : c0 < 8388608 → ∀ v, smD v c0 1 → k_50 (jI 1) v U) : ∀ (fu : Nat) (p : Int) (v : UInt32), 1 ≤ p → p ≤ 254 → ((8388608 ≤ c0 ∧ FE v c0 (q0 + 127 - p) ∧ q0 + 127 - p ≤ -23) ∨ (c0 < 8388608 ∧ p ≤ 127 ∧ smD v c0 p)) → p.toNat < fu → w_X12_bitsOf_L29 post k_50 fu (jI p) v U := by
  intro fu
  induction fu with
  | zero => intro p v a b c d; exact absurd d (Nat.not_lt_zero _)
  | succ fu ih =>
    intro p v p1 p2 hv hm
    show b_X12_bitsOf_L29 post k_50 (w_X12_bitsOf_L29 post k_50 fu) (jI p) v U
    unfold b_X12_bitsOf_L29
    rcases hv with ⟨n1, n2, n3⟩ | ⟨s1, s2, s3⟩
    · have hg := ge1 n2 n1
      refine br_fler (fcg v FP.fconst1) (jfcg rfl rfl) (fun c => ?_) (fun c => ?_)
      · have e : q0 + 127 - p = -23 := by
          have := hg.mp c
          omega
        rw [show p = q0 + 150 by omega]
        rw [e] at n2
        exact hN n1 v n2
      · have hp : q0 + 127 - p < -23 := by
          by_cases z : -23 ≤ q0 + 127 - p
          · exact absurd (hg.mpr z) c
          · omega
        refine br_le p 1 rfl rfl ⟨by omega, by omega⟩ ⟨by omega, by omega⟩ (fun c2 => by omega) (fun c2 => ?_)
        have f2 := f_dbl n2 n1 (by omega)
        rw [show q0 + 127 - p + 1 = q0 + 127 - (p - 1) by omega] at f2
        refine ⟨FE_vf f2, ?_⟩
        intro w hw
        refine al_i (p - 1) (by rw [show (-1 : Int32) = jI (-1) from rfl, jI_add]; exact congrArg jI (by omega)) ?_
        exact ih (p - 1) w (by omega) (by omega) (Or.inl ⟨n1, by rw [hw]; exact f2, by omega⟩) (by omega)
    · refine br_fler (fcg v FP.fconst1) (jfcg rfl rfl) (fun c => absurd c (smD_1 s1 p1 s3)) (fun c => ?_)
      refine br_le p 1 rfl rfl ⟨by omega, by omega⟩ ⟨by omega, by omega⟩ (fun c2 => ?_) (fun c2 => ?_)
      · rw [show p = 1 by omega] at s3 ⊢
        exact hS s1 v s3
      · have := smD_s h0 s1 (by omega) s2 s3
        refine ⟨this.2, ?_⟩
        intro w hw
        refine al_i (p - 1) (by rw [show (-1 : Int32) = jI (-1) from rfl, jI_add]; exact congrArg jI (by omega)) ?_
        exact ih (p - 1) w (by omega) (by omega) (Or.inr ⟨s1, by omega, by rw [hw]; exact this.1⟩) (by omega)
theorem l_bits13 {U : Um} {c0 : Nat} {q0 : Int} (g : gp c0 q0) {post : Int32 → Um → Prop} {k_29 : Int32 → UInt32 → Um → Prop} (hk : ∀ (p : Int) v, 1 ≤ p → p ≤ 254 → FE v c0 (q0 + 127 - p) → (8388608 ≤ c0 → q0 + 127 - p ≤ -23) → (c0 < 8388608 → p = 127) → k_29 (jI p) v U) : ∀ (fu : Nat) (p : Int) (v : UInt32), 127 ≤ p → p ≤ 254 → FE v c0 (q0 + 127 - p) → (p = 127 ∨ (-23 ≤ q0 + 127 - p ∧ 8388608 ≤ c0)) → (254 - p).toNat < fu → w_X12_bitsOf_L13 post k_29 fu (jI p) v U := by
  intro fu
  induction fu with
  | zero => intro p v a b c d e; exact absurd e (Nat.not_lt_zero _)
  | succ fu ih =>
    intro p v p1 p2 hv hp hm
    show b_X12_bitsOf_L13 post k_29 (w_X12_bitsOf_L13 post k_29 fu) (jI p) v U
    unfold b_X12_bitsOf_L13
    refine br_flt (fcl v FP.fconst2) (jfcl rfl rfl) (fun c => ?_) (fun c => ?_)
    · exact hk p v (by omega) p2 hv (fun z => lt2 hv z c) (fun z => by omega)
    · have h2 := ge2 hv c
      have f2 := f_hlv hv h2.2 (by omega)
      rw [show q0 + 127 - p - 1 = q0 + 127 - (p + 1) by omega] at f2
      refine ⟨FE_vf f2, ?_⟩
      intro w hw
      refine al_i (p + 1) (jadd rfl rfl) ?_
      exact ih (p + 1) w (by omega) (by omega) (by rw [hw]; exact f2) (Or.inr ⟨by omega, h2.2⟩) (by omega)
theorem s_X12_bitsOf {U : Um} {x : UInt32} {c0 : Nat} {q0 : Int} (hx : FE x c0 q0) {post : Int32 → Um → Prop} (h : post (jI (x.toNat : Int)) U) : w_X12_bitsOf x U post := by
  unfold w_X12_bitsOf
  have g := hx.2
  refine br_fe (fcl x FP.fconst0) (jfcl rfl rfl) (fun c => ?_) (fun c => ?_)
  · have e := (fc_lt hx FE_0).2.2.1.mp c
    have c00 : c0 = 0 := by
      rcases Nat.eq_zero_or_pos c0 with z | z
      · exact z
      · exfalso
        have := Nat.mul_pos z (Nat.two_pow_pos (q0 + 400).toNat)
        unfold fv at e
        omega
    rw [hx.1, c00] at h
    exact h
  have h0 : 0 < c0 := by
    rcases Nat.eq_zero_or_pos c0 with z | z
    · exfalso
      refine c ((fc_lt hx FE_0).2.2.1.mpr ?_)
      unfold fv
      rw [z]
      simp
    · exact z
  intro x2 hx2
  subst hx2
  refine ⟨(254 - 127 : Int).toNat + 1, l_bits13 g (fun p v p1 p2 fv1 hn hs => ?_) _ 127 x2 (by omega) (by omega) (by rw [show q0 + 127 - 127 = q0 by omega]; exact hx) (Or.inl rfl) (by omega)⟩
  refine ⟨p.toNat + 1, l_bits29 g h0 (fun n1 w fw => ?_) (fun s1 w sw => ?_) _ p v p1 p2 ?_ (by omega)⟩
  · have f23 := fmul_ex (x := w) (y := (1258291200 : UInt32)) (c2 := c0) (q2 := 0) fw FE_23 (by omega) (by omega) (by
      unfold fv
      rw [show 8388608 = 2 ^ 23 from rfl, Nat.mul_assoc, ← Nat.pow_add, show 23 + ((-23 : Int) + 0 + 400).toNat = ((0 : Int) + 400).toNat by decide])
    refine ⟨FE_vf f23, ?_⟩
    refine al_i (c0 : Int) (f2i_23 fw) ?_
    have ge := (ge1 fw n1).mpr (by omega)
    refine ⟨fun _ => ?_, fun q => absurd ge q⟩
    have o := (or_sh (a := q0 + 150) (b := (c0 : Int) - 8388608) (by omega) (by omega) (by omega) (by omega) (by omega)).1
    refine pst ?_ h
    rw [show jI (c0 : Int) - 8388608 = jI ((c0 : Int) - 8388608) from jsub rfl rfl, o, hx.1]
    unfold fenc
    rw [if_neg (by omega)]
    congr 1
    omega
  · obtain ⟨c, q, f, e⟩ := sw
    have f2 := f2i_sub f s1 (by rw [e]; rfl)
    refine ⟨f2.1, ?_⟩
    refine al_i (c0 : Int) f2.2 ?_
    have lt := smD_1 s1 (by omega) ⟨c, q, f, e⟩
    refine ⟨fun q => absurd q lt, fun _ => ?_⟩
    rw [hx.1] at h
    unfold fenc at h
    rw [if_pos s1] at h
    exact h
  · by_cases z : 8388608 ≤ c0
    · exact Or.inl ⟨z, fv1, hn z⟩
    · refine Or.inr ⟨by omega, by have := hs (by omega); omega, c0, _, fv1, ?_⟩
      have hp := hs (by omega)
      rw [hp, show q0 = -149 by omega]
      rfl
