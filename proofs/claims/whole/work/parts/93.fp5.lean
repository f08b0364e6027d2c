/-- taken below 2 -/
theorem f2i_23 {x : UInt32} {c : Nat} (hx : FE x c (-23)) : FP.f2i (FP.fmul x (1258291200 : UInt32)) = jI (c : Int) := by
  have g := hx.2
  by_cases h0 : c = 0
  · omega
  · have f := fmul_ex (x := x) (y := (1258291200 : UInt32)) (c2 := c) (q2 := 0) hx FE_23 (by omega) (by omega) (by
      unfold fv
      rw [show 8388608 = 2 ^ 23 from rfl, Nat.mul_assoc, ← Nat.pow_add, show 23 + ((-23 : Int) + 0 + 400).toNat = ((0 : Int) + 400).toNat by decide])
    show FP.Core.toI (FP.Core.decode FP.Core.b32 (FP.fmul x (1258291200 : UInt32)).toNat) = _
    rw [FE_dec f]
    show Int32.ofInt (max (-2147483648) (min 2147483647 ((c * 2 ^ (0 : Int).toNat / 2 ^ (-(0 : Int)).toNat : Nat) : Int))) = _
    rw [show (0 : Int).toNat = 0 from rfl, show (-(0 : Int)).toNat = 0 from rfl, Nat.pow_zero, Nat.mul_one, Nat.div_one]
    unfold jI
    congr 1
    omega
/-- the whole part of a float whose value is a whole number -/
theorem f2i_v {x : UInt32} {c n : Nat} {q : Int} (hx : FE x c q) (hn : n ≤ 2147483647) (h : fv c q = fv n 0) : FP.f2i x = jI (n : Int) := by
  have g := hx.2
  show FP.Core.toI (FP.Core.decode FP.Core.b32 x.toNat) = _
  rw [FE_dec hx]
  have e : c * 2 ^ q.toNat / 2 ^ (-q).toNat = n := by
    have h2 : c * 2 ^ q.toNat = n * 2 ^ (-q).toNat := by
      have := (fsc_eq (n := c) (X := n) (e := (q + 400).toNat) (q := ((0 : Int) + 400).toNat)).mpr h
      rw [show (q + 400).toNat - ((0 : Int) + 400).toNat = q.toNat by omega, show ((0 : Int) + 400).toNat - (q + 400).toNat = (-q).toNat by omega] at this
      exact this
    rw [h2]
    exact Nat.mul_div_cancel _ (Nat.two_pow_pos _)
  show Int32.ofInt (max (-2147483648) (min 2147483647 ((c * 2 ^ q.toNat / 2 ^ (-q).toNat : Nat) : Int))) = _
  rw [e]
  unfold jI
  congr 1
  omega
/-- a pair of the same value that the format has -/
theorem norm_ex : ∀ (k : Nat) (c : Nat) (q : Int), 0 < c → c < 16777216 → -149 ≤ q → q ≤ 104 → (16777216 - c) ≤ k + 8388608 ∨ True → ∃ c2 q2, gp c2 q2 ∧ fv c2 q2 = fv c q ∧ q2 ≤ q := by
  intro k c q h0 h1 h2 h3 _
  have H : ∀ (n : Nat) (c : Nat) (q : Int), 0 < c → c < 16777216 → -149 ≤ q → q ≤ 104 → (q + 149).toNat ≤ n → ∃ c2 q2, gp c2 q2 ∧ fv c2 q2 = fv c q ∧ q2 ≤ q := by
    intro n
    induction n with
    | zero =>
      intro c q a b d e f
      exact ⟨c, q, by omega, rfl, Int.le_refl _⟩
    | succ n ih =>
      intro c q a b d e f
      by_cases z : q = -149 ∨ 8388608 ≤ c
      · exact ⟨c, q, by omega, rfl, Int.le_refl _⟩
      · obtain ⟨c2, q2, g, v, l⟩ := ih (2 * c) (q - 1) (by omega) (by omega) (by omega) (by omega) (by omega)
        refine ⟨c2, q2, g, ?_, by omega⟩
        rw [v]
        unfold fv
        rw [show (q + 400).toNat = (q - 1 + 400).toNat + 1 by omega, Nat.pow_succ', Nat.mul_left_comm, Nat.mul_assoc]
  exact H _ c q h0 h1 h2 h3 (Nat.le_refl _)
/-- less 1, of what is from 1 on below 2 -/
theorem f_sub1 {x : UInt32} {c : Nat} (hx : FE x c (-23)) (hc : 8388608 ≤ c) : ∃ d r, FE (FP.fsub x FP.fconst1) d r ∧ fv d r = fv (c - 8388608) (-23) := by
  have g := hx.2
  have hs : FP.Core.exactSum (.fin false c (-23)) (FP.Core.negate (.fin false 8388608 (-23))) = .fin false (c - 8388608) (-23) := by
    show FP.Core.exactSum (.fin false c (-23)) (.fin true 8388608 (-23)) = _
    have hu : FP.Core.sumUnits false c (-23) true 8388608 (-23) (min (-23) (-23)) = ((c - 8388608 : Nat) : Int) := by
      show ((c * 2 ^ (0 : Nat) : Nat) : Int) + -((8388608 * 2 ^ (0 : Nat) : Nat) : Int) = _
      omega
    show FP.Core.Datum.fin (FP.Core.sumSign false true (FP.Core.sumUnits false c (-23) true 8388608 (-23) (min (-23) (-23)))) (FP.Core.sumUnits false c (-23) true 8388608 (-23) (min (-23) (-23))).natAbs (min (-23) (-23)) = _
    rw [hu]
    have hsg : FP.Core.sumSign false true ((c - 8388608 : Nat) : Int) = false := by
      unfold FP.Core.sumSign
      split
      · rfl
      · exact decide_eq_false (by omega)
    rw [hsg, Int.natAbs_natCast]
    rfl
  have e : ∀ d r, FP.Core.roundRatio FP.Core.b32 false (c - 8388608) 1 (-23) = .fin false d r → FP.fsub x FP.fconst1 = UInt32.ofNat (FP.Core.encode FP.Core.b32 (.fin false d r)) := by
    intro d r h
    show UInt32.ofNat (FP.Core.encode FP.Core.b32 (FP.Core.round FP.Core.b32 (FP.Core.exactSum (FP.Core.decode FP.Core.b32 x.toNat) (FP.Core.negate (FP.Core.decode FP.Core.b32 (FP.fconst1).toNat))))) = _
    rw [FE_dec hx, FE_dec FE_1, hs]
    show UInt32.ofNat (FP.Core.encode FP.Core.b32 (FP.Core.roundRatio FP.Core.b32 false (c - 8388608) 1 (-23))) = _
    rw [h]
  by_cases h0 : c - 8388608 = 0
  · refine ⟨0, -149, ?_, ?_⟩
    · rw [e 0 (-149) (by
        unfold FP.Core.roundRatio
        rw [if_pos h0]
        rfl)]
      exact FE_enc gp_0
    · rw [h0]
      unfold fv
      omega
  · obtain ⟨c2, q2, g2, v2, _⟩ := norm_ex 0 (c - 8388608) (-23) (by omega) (by omega) (by omega) (by omega) (Or.inr trivial)
    refine ⟨c2, q2, ?_, v2⟩
    rw [e c2 q2 (rr_exact (by omega) (by omega) g2 v2.symm)]
    exact FE_enc g2
theorem f2i_sub {x : UInt32} {d r2 : Nat} {r : Int} (hx : FE x d r) (hr : r2 < 8388608) (h : fv d r = fv r2 (-23)) : vf_n32 (FP.fmul x (1258291200 : UInt32)) ∧ FP.f2i (FP.fmul x (1258291200 : UInt32)) = jI (r2 : Int) := by
  have g := hx.2
  have hv : fv (d * 8388608) (r + 0) = fv r2 0 := by
    unfold fv at h ⊢
    rw [Nat.mul_right_comm, show (r + 0 + 400).toNat = (r + 400).toNat by omega, h, Nat.mul_assoc, show 8388608 = 2 ^ 23 from rfl, ← Nat.pow_add, show ((-23 : Int) + 400).toNat + 23 = ((0 : Int) + 400).toNat by decide]
  by_cases h0 : d = 0
  · have hr0 : r2 = 0 := by
      unfold fv at hv
      simp only [h0, Nat.zero_mul] at hv
      exact (Nat.mul_eq_zero.mp hv.symm).resolve_right (Nat.pos_iff_ne_zero.mp (Nat.two_pow_pos _))
    obtain ⟨c2, q2, f, v⟩ := fmul_b hx FE_23 gp_0 (by rw [hv, hr0]; unfold fv; omega)
    refine ⟨FE_vf f, f2i_v f (by omega) ?_⟩
    rw [hr0]
    unfold fv at v ⊢
    omega
  · have hd : 0 < d * 8388608 := by omega
    have hr0 : 0 < r2 := by
      rcases Nat.eq_zero_or_pos r2 with z | z
      · rw [z] at hv
        unfold fv at hv
        have := Nat.mul_pos hd (Nat.two_pow_pos (r + 0 + 400).toNat)
        omega
      · exact z
    obtain ⟨c2, q2, g2, v2, _⟩ := norm_ex 0 r2 0 hr0 (by omega) (by omega) (by omega) (Or.inr trivial)
    have f := fmul_ex hx FE_23 hd g2 (hv.trans v2.symm)
    exact ⟨FE_vf f, f2i_v f (by omega) v2⟩
