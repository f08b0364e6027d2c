def FE (x : UInt32) (c : Nat) (q : Int) : Prop := x.toNat = fenc c q ∧ gp c q
theorem FE_dec {x : UInt32} {c : Nat} {q : Int} (h : FE x c q) : FP.Core.decode FP.Core.b32 x.toNat = .fin false c q := by rw [h.1, dec_enc h.2]
theorem FE_enc {c : Nat} {q : Int} (h : gp c q) : FE (UInt32.ofNat (FP.Core.encode FP.Core.b32 (.fin false c q))) c q := by
  refine ⟨?_, h⟩
  have := fenc_lt h
  rw [enc_e h]
  show fenc c q % 4294967296 = _
  rw [Nat.mod_eq_of_lt (by omega)]
theorem FE_vf {x : UInt32} {c : Nat} {q : Int} (h : FE x c q) : vf_n32 x := by
  have := fenc_lt h.2
  unfold vf_n32
  rw [UInt32.le_iff_toNat_le, UInt32.toNat_and]
  refine Nat.le_trans Nat.and_le_left ?_
  show x.toNat ≤ 2139095040
  rw [h.1]
  omega
theorem gp_0 : gp 0 (-149) := by omega
theorem rr_b0 {num C : Nat} {e Q : Int} (he : -400 ≤ e) (g : gp C Q) (hv : fv num e ≤ fv C Q) : ∃ c q, FP.Core.roundRatio FP.Core.b32 false num 1 e = .fin false c q ∧ gp c q ∧ fv c q ≤ fv C Q := by
  by_cases h : num = 0
  · refine ⟨0, -149, ?_, gp_0, ?_⟩
    · unfold FP.Core.roundRatio
      rw [if_pos h]
      rfl
    · unfold fv
      omega
  · exact rr_bound (by omega) he g hv
theorem fmul_b {x y : UInt32} {c d C : Nat} {q r Q : Int} (hx : FE x c q) (hy : FE y d r) (g : gp C Q) (hv : fv (c * d) (q + r) ≤ fv C Q) : ∃ c2 q2, FE (FP.fmul x y) c2 q2 ∧ fv c2 q2 ≤ fv C Q := by
  have g1 := hx.2
  have g2 := hy.2
  obtain ⟨c2, q2, e, g3, v⟩ := rr_b0 (num := c * d) (e := q + r) (by omega) g hv
  refine ⟨c2, q2, ?_, v⟩
  have : FP.fmul x y = UInt32.ofNat (FP.Core.encode FP.Core.b32 (.fin false c2 q2)) := by
    show UInt32.ofNat (FP.Core.encode FP.Core.b32 (FP.Core.round FP.Core.b32 (FP.Core.exactProduct (FP.Core.decode FP.Core.b32 x.toNat) (FP.Core.decode FP.Core.b32 y.toNat)))) = _
    rw [FE_dec hx, FE_dec hy]
    show UInt32.ofNat (FP.Core.encode FP.Core.b32 (FP.Core.roundRatio FP.Core.b32 false (c * d) 1 (q + r))) = _
    rw [e]
  rw [this]
  exact FE_enc g3
theorem fmul_ex {x y : UInt32} {c d c2 : Nat} {q r q2 : Int} (hx : FE x c q) (hy : FE y d r) (h0 : 0 < c * d) (g : gp c2 q2) (hv : fv (c * d) (q + r) = fv c2 q2) : FE (FP.fmul x y) c2 q2 := by
  have g1 := hx.2
  have g2 := hy.2
  have e := rr_exact (num := c * d) (e := q + r) h0 (by omega) g hv
  have : FP.fmul x y = UInt32.ofNat (FP.Core.encode FP.Core.b32 (.fin false c2 q2)) := by
    show UInt32.ofNat (FP.Core.encode FP.Core.b32 (FP.Core.round FP.Core.b32 (FP.Core.exactProduct (FP.Core.decode FP.Core.b32 x.toNat) (FP.Core.decode FP.Core.b32 y.toNat)))) = _
    rw [FE_dec hx, FE_dec hy]
    show UInt32.ofNat (FP.Core.encode FP.Core.b32 (FP.Core.roundRatio FP.Core.b32 false (c * d) 1 (q + r))) = _
    rw [e]
  rw [this]
  exact FE_enc g
theorem units_fv {c : Nat} {q m : Int} (h : m ≤ q) (hm : -400 ≤ m) : c * 2 ^ (q - m).toNat * 2 ^ (m + 400).toNat = fv c q := by
  unfold fv
  rw [Nat.mul_assoc, ← Nat.pow_add, show (q - m).toNat + (m + 400).toNat = (q + 400).toNat by omega]
theorem fadd_b {x y : UInt32} {c d C : Nat} {q r Q : Int} (hx : FE x c q) (hy : FE y d r) (g : gp C Q) (hv : fv c q + fv d r ≤ fv C Q) : ∃ c2 q2, FE (FP.fadd x y) c2 q2 ∧ fv c2 q2 ≤ fv C Q := by
  have g1 := hx.2
  have g2 := hy.2
  have hm : -400 ≤ min q r := by omega
  have hv2 : fv (c * 2 ^ (q - min q r).toNat + d * 2 ^ (r - min q r).toNat) (min q r) ≤ fv C Q := by
    unfold fv
    rw [Nat.add_mul, units_fv (by omega) hm, units_fv (by omega) hm]
    exact hv
  obtain ⟨c2, q2, e, g3, v⟩ := rr_b0 (num := c * 2 ^ (q - min q r).toNat + d * 2 ^ (r - min q r).toNat) (e := min q r) hm g hv2
  refine ⟨c2, q2, ?_, v⟩
  have hs : FP.Core.exactSum (.fin false c q) (.fin false d r) = .fin false (c * 2 ^ (q - min q r).toNat + d * 2 ^ (r - min q r).toNat) (min q r) := by
    have hu : FP.Core.sumUnits false c q false d r (min q r) = ((c * 2 ^ (q - min q r).toNat + d * 2 ^ (r - min q r).toNat : Nat) : Int) := by
      show ((c * 2 ^ (q - min q r).toNat : Nat) : Int) + ((d * 2 ^ (r - min q r).toNat : Nat) : Int) = _
      omega
    show FP.Core.Datum.fin (FP.Core.sumSign false false (FP.Core.sumUnits false c q false d r (min q r))) (FP.Core.sumUnits false c q false d r (min q r)).natAbs (min q r) = _
    rw [hu]
    have hsg : FP.Core.sumSign false false ((c * 2 ^ (q - min q r).toNat + d * 2 ^ (r - min q r).toNat : Nat) : Int) = false := by
      unfold FP.Core.sumSign
      split
      · rfl
      · exact decide_eq_false (by omega)
    rw [hsg, Int.natAbs_natCast]
  have : FP.fadd x y = UInt32.ofNat (FP.Core.encode FP.Core.b32 (.fin false c2 q2)) := by
    show UInt32.ofNat (FP.Core.encode FP.Core.b32 (FP.Core.round FP.Core.b32 (FP.Core.exactSum (FP.Core.decode FP.Core.b32 x.toNat) (FP.Core.decode FP.Core.b32 y.toNat)))) = _
    rw [FE_dec hx, FE_dec hy, hs]
    show UInt32.ofNat (FP.Core.encode FP.Core.b32 (FP.Core.roundRatio FP.Core.b32 false _ 1 (min q r))) = _
    rw [e]
  rw [this]
  exact FE_enc g3
/-- a float from 0 to 100 -/
def fOk (x : UInt32) : Prop := ∃ c q, FE x c q ∧ fv c q ≤ fv 13107200 (-17)
theorem FE_75 : FE (1061158912 : UInt32) 12582912 (-24) := ⟨by decide, by omega⟩
theorem FE_25 : FE (1048576000 : UInt32) 8388608 (-25) := ⟨by decide, by omega⟩
theorem fo_50 : fOk (1112014848 : UInt32) := ⟨13107200, -18, ⟨by decide, by omega⟩, by
  unfold fv
  exact Nat.mul_le_mul_left _ (Nat.pow_le_pow_right (by decide) (by decide))⟩
theorem fo_i2f {m : Int} (h0 : 0 ≤ m) (h1 : m ≤ 100) : ∃ c q, FE (FP.i2f (jI m)) c q ∧ fv c q ≤ fv 13107200 (-17) := by
  have hv : fv m.natAbs 0 ≤ fv 13107200 (-17) := by
    unfold fv
    rw [show ((0 : Int) + 400).toNat = 17 + 383 by decide, show ((-17 : Int) + 400).toNat = 383 by decide, Nat.pow_add, ← Nat.mul_assoc]
    refine Nat.mul_le_mul_right _ ?_
    omega
  obtain ⟨c2, q2, e, g3, v⟩ := rr_b0 (num := m.natAbs) (e := 0) (by omega) (show gp 13107200 (-17) by omega) hv
  refine ⟨c2, q2, ?_, v⟩
  have : FP.i2f (jI m) = UInt32.ofNat (FP.Core.encode FP.Core.b32 (.fin false c2 q2)) := by
    show UInt32.ofNat (FP.Core.encode FP.Core.b32 (FP.Core.round FP.Core.b32 (.fin (decide ((jI m).toInt < 0)) (jI m).toInt.natAbs 0))) = _
    rw [jI_toInt ⟨by omega, by omega⟩, decide_eq_false (by omega)]
    show UInt32.ofNat (FP.Core.encode FP.Core.b32 (FP.Core.roundRatio FP.Core.b32 false m.natAbs 1 0)) = _
    rw [e]
  rw [this]
  exact FE_enc g3
/-- a mark given -/
def mkF (x : UInt32) (m : Int) : UInt32 := FP.fadd (FP.fmul x (1061158912 : UInt32)) (FP.fmul (FP.i2f (jI m)) (1048576000 : UInt32))
theorem fo_mark {x : UInt32} {m : Int} (hx : fOk x) (h0 : 0 ≤ m) (h1 : m ≤ 100) : vf_n32 (FP.fmul x (1061158912 : UInt32)) ∧ vf_n32 (FP.fmul (FP.i2f (jI m)) (1048576000 : UInt32)) ∧ vf_n32 (mkF x m) ∧ fOk (mkF x m) := by
  obtain ⟨c, q, fx, vx⟩ := hx
  obtain ⟨d, r, fm, vm⟩ := fo_i2f h0 h1
  have gx := fx.2
  have gm2 := fm.2
  obtain ⟨c1, q1, f1, v1⟩ := fmul_b fx FE_75 (show gp 9830400 (-17) by omega) (by
    unfold fv at vx ⊢
    refine Nat.le_of_mul_le_mul_right ?_ (Nat.two_pow_pos 24)
    rw [Nat.mul_assoc, ← Nat.pow_add, show (q + -24 + 400).toNat + 24 = (q + 400).toNat by omega, Nat.mul_right_comm]
    refine Nat.le_trans (Nat.mul_le_mul_right _ vx) ?_
    rw [Nat.mul_right_comm, Nat.mul_right_comm 9830400]
    exact Nat.le_refl _)
  obtain ⟨c2, q2, f2, v2⟩ := fmul_b fm FE_25 (show gp 13107200 (-19) by omega) (by
    unfold fv at vm ⊢
    refine Nat.le_of_mul_le_mul_right ?_ (Nat.two_pow_pos 25)
    rw [Nat.mul_assoc, ← Nat.pow_add, show (r + -25 + 400).toNat + 25 = (r + 400).toNat by omega, Nat.mul_right_comm]
    refine Nat.le_trans (Nat.mul_le_mul_right _ vm) ?_
    rw [Nat.mul_right_comm, show ((-17 : Int) + 400).toNat = 383 by decide, show ((-19 : Int) + 400).toNat = 381 by decide, show (383 : Nat) = 2 + 381 from rfl, Nat.pow_add, ← Nat.mul_assoc, Nat.mul_right_comm 13107200]
    exact Nat.le_refl _)
  obtain ⟨c3, q3, f3, v3⟩ := fadd_b f1 f2 (show gp 13107200 (-17) by omega) (by
    refine Nat.le_trans (Nat.add_le_add v1 v2) ?_
    unfold fv
    rw [show ((-17 : Int) + 400).toNat = 383 by decide, show ((-19 : Int) + 400).toNat = 381 by decide, show (383 : Nat) = 2 + 381 from rfl, Nat.pow_add, ← Nat.mul_assoc, ← Nat.mul_assoc, ← Nat.add_mul]
    exact Nat.mul_le_mul_right _ (by decide))
  exact ⟨FE_vf f1, FE_vf f2, FE_vf f3, c3, q3, f3, v3⟩
