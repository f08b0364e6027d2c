theorem fcmp_e {x y : UInt32} {c d : Nat} {q r : Int} (hx : FE x c q) (hy : FE y d r) : FP.fcmp x y = some (compare (fv c q : Int) (fv d r : Int)) := by
  have g1 := hx.2
  have g2 := hy.2
  show FP.Core.order (FP.Core.decode FP.Core.b32 x.toNat) (FP.Core.decode FP.Core.b32 y.toNat) = _
  rw [FE_dec hx, FE_dec hy]
  show some (compare ((c * 2 ^ (q - min q r).toNat : Nat) : Int) ((d * 2 ^ (r - min q r).toNat : Nat) : Int)) = _
  have hm : -400 ≤ min q r := by omega
  have e1 := units_fv (c := c) (q := q) (m := min q r) (by omega) hm
  have e2 := units_fv (c := d) (q := r) (m := min q r) (by omega) hm
  have hp : 0 < 2 ^ (min q r + 400).toNat := Nat.two_pow_pos _
  rw [← e1, ← e2]
  congr 1
  generalize c * 2 ^ (q - min q r).toNat = A
  generalize d * 2 ^ (r - min q r).toNat = B
  generalize 2 ^ (min q r + 400).toNat = P at hp
  have k1 : ((A : Int) < (B : Int)) ↔ (((A * P : Nat) : Int) < ((B * P : Nat) : Int)) := by
    constructor
    · intro h
      have := (Nat.mul_lt_mul_right hp).mpr (show A < B by omega)
      omega
    · intro h
      have := (Nat.mul_lt_mul_right hp).mp (show A * P < B * P by omega)
      omega
  have k2 : ((A : Int) = (B : Int)) ↔ (((A * P : Nat) : Int) = ((B * P : Nat) : Int)) := by
    constructor
    · intro h
      rw [show A = B by omega]
    · intro h
      have := Nat.eq_of_mul_eq_mul_right hp (show A * P = B * P by omega)
      omega
  simp only [compare, compareOfLessAndEq, k1, k2]
theorem fc_lt {x y : UInt32} {c d : Nat} {q r : Int} (hx : FE x c q) (hy : FE y d r) : (fcl x y < 0 ↔ fv c q < fv d r) ∧ ((0 : Int32) ≤ fcg x y ↔ fv d r ≤ fv c q) ∧ (fcl x y = 0 ↔ fv c q = fv d r) ∧ ((0 : Int32) < fcg x y ↔ fv d r < fv c q) := by
  unfold fcl fcg
  rw [fcmp_e hx hy]
  rcases Nat.lt_trichotomy (fv c q) (fv d r) with h | h | h
  · have e : compare ((fv c q : Nat) : Int) ((fv d r : Nat) : Int) = .lt := by
      simp only [compare, compareOfLessAndEq]
      rw [if_pos (by omega)]
    rw [e]
    refine ⟨⟨fun _ => h, fun _ => by decide⟩, ⟨fun q => absurd q (by decide), fun q => by omega⟩, ⟨fun q => absurd q (by decide), fun q => by omega⟩, ⟨fun q => absurd q (by decide), fun q => by omega⟩⟩
  · have e : compare ((fv c q : Nat) : Int) ((fv d r : Nat) : Int) = .eq := by
      simp only [compare, compareOfLessAndEq]
      rw [if_neg (by omega), if_pos (by omega)]
    rw [e]
    refine ⟨⟨fun q => absurd q (by decide), fun q => by omega⟩, ⟨fun _ => by omega, fun _ => by decide⟩, ⟨fun _ => h, fun _ => by decide⟩, ⟨fun q => absurd q (by decide), fun q => by omega⟩⟩
  · have e : compare ((fv c q : Nat) : Int) ((fv d r : Nat) : Int) = .gt := by
      simp only [compare, compareOfLessAndEq]
      rw [if_neg (by omega), if_neg (by omega)]
    rw [e]
    refine ⟨⟨fun q => absurd q (by decide), fun q => by omega⟩, ⟨fun _ => by omega, fun _ => by decide⟩, ⟨fun q => absurd q (by decide), fun q => by omega⟩, ⟨fun _ => h, fun _ => by decide⟩⟩
theorem FE_2 : FE FP.fconst2 8388608 (-22) := ⟨by decide, by omega⟩
theorem FE_1 : FE FP.fconst1 8388608 (-23) := ⟨by decide, by omega⟩
theorem FE_0 : FE FP.fconst0 0 (-149) := ⟨by decide, by omega⟩
theorem FE_23 : FE (1258291200 : UInt32) 8388608 0 := ⟨by decide, by omega⟩
/-- doubled -/
theorem f_dbl {x : UInt32} {c : Nat} {q : Int} (hx : FE x c q) (hc : 8388608 ≤ c) (hq : q < 104) : FE (FP.fmul x FP.fconst2) c (q + 1) := by
  have g := hx.2
  refine fmul_ex hx FE_2 (by omega) (by omega) ?_
  unfold fv
  rw [show 8388608 = 2 ^ 23 from rfl, Nat.mul_assoc, ← Nat.pow_add, show 23 + (q + -22 + 400).toNat = (q + 1 + 400).toNat by omega]
theorem f_dbl0 {x : UInt32} {c : Nat} (hx : FE x c (-149)) (h0 : 0 < c) (hc : c < 8388608) : FE (FP.fmul x FP.fconst2) (2 * c) (-149) := by
  refine fmul_ex hx FE_2 (by omega) (by omega) ?_
  unfold fv
  rw [show 8388608 = 2 ^ 23 from rfl, Nat.mul_assoc, ← Nat.pow_add, show 23 + ((-149 : Int) + -22 + 400).toNat = ((-149 : Int) + 400).toNat + 1 by decide, Nat.pow_succ', Nat.mul_left_comm, Nat.mul_assoc]
/-- halved -/
theorem f_hlv {x : UInt32} {c : Nat} {q : Int} (hx : FE x c q) (hc : 8388608 ≤ c) (hq : -149 < q) : FE (FP.fdiv x FP.fconst2) c (q - 1) := by
  have g := hx.2
  have hb := log_b (show 0 < c by omega)
  have hlg : c.log2 = 23 := by
    have a : 23 < c.log2 + 1 := (Nat.pow_lt_pow_iff_right (a := 2) (by decide)).mp (show 2 ^ 23 < 2 ^ (c.log2 + 1) by omega)
    have b : c.log2 < 24 := (Nat.pow_lt_pow_iff_right (a := 2) (by decide)).mp (show 2 ^ c.log2 < 2 ^ 24 by omega)
    omega
  have hq2 : FP.Core.quantum FP.Core.b32 c 8388608 (q - -22) = q - 1 := by
    have hl : FP.Core.leading c 8388608 = 0 := by
      unfold FP.Core.leading
      have h2 : Nat.log2 8388608 = 23 := by decide
      simp only [hlg, h2]
      exact if_pos (show 8388608 * 2 ^ (0 : Nat) ≤ c * 2 ^ (0 : Nat) by omega)
    unfold FP.Core.quantum
    rw [hl]
    show max (-149) (0 + (q - -22) - (24 - 1)) = q - 1
    omega
  have e : FP.fdiv x FP.fconst2 = UInt32.ofNat (FP.Core.encode FP.Core.b32 (.fin false c (q - 1))) := by
    show UInt32.ofNat (FP.Core.encode FP.Core.b32 (FP.Core.quotient FP.Core.b32 (FP.Core.decode FP.Core.b32 x.toNat) (FP.Core.decode FP.Core.b32 (FP.fconst2).toNat))) = _
    rw [FE_dec hx, FE_dec FE_2]
    show UInt32.ofNat (FP.Core.encode FP.Core.b32 (FP.Core.roundRatio FP.Core.b32 false c 8388608 (q - -22))) = _
    have : FP.Core.roundRatio FP.Core.b32 false c 8388608 (q - -22) = .fin false c (q - 1) := by
      unfold FP.Core.roundRatio FP.Core.roundAt FP.Core.unitsNum FP.Core.unitsDen
      rw [if_neg (by omega), hq2, show (q - -22 - (q - 1)).toNat = 23 by omega, show (q - 1 - (q - -22)).toNat = 0 by omega, Nat.pow_zero, Nat.mul_one, show 2 ^ 23 = 8388608 from rfl, near_ex (by decide)]
      exact set_lt (by omega) (by omega)
    rw [this]
  rw [e]
  exact FE_enc (by omega)
