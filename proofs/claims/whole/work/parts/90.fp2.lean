theorem fsc_le {n X e q : Nat} : n * 2 ^ (e - q) ≤ X * 2 ^ (q - e) ↔ n * 2 ^ e ≤ X * 2 ^ q := by
  rcases Nat.le_total q e with h | h
  · rw [show q - e = 0 by omega, Nat.pow_zero, Nat.mul_one]
    conv => rhs; rw [show e = (e - q) + q by omega, Nat.pow_add, ← Nat.mul_assoc]
    exact (Nat.mul_le_mul_right_iff (Nat.two_pow_pos q)).symm
  · rw [show e - q = 0 by omega, Nat.pow_zero, Nat.mul_one]
    conv => rhs; rw [show q = (q - e) + e by omega, Nat.pow_add, ← Nat.mul_assoc]
    exact (Nat.mul_le_mul_right_iff (Nat.two_pow_pos e)).symm
theorem fsc_ge {n X e q : Nat} : X * 2 ^ (q - e) ≤ n * 2 ^ (e - q) ↔ X * 2 ^ q ≤ n * 2 ^ e := fsc_le
theorem fsc_eq {n X e q : Nat} : n * 2 ^ (e - q) = X * 2 ^ (q - e) ↔ n * 2 ^ e = X * 2 ^ q := by
  constructor
  · intro h
    exact Nat.le_antisymm (fsc_le.mp (Nat.le_of_eq h)) (fsc_ge.mp (Nat.le_of_eq h.symm))
  · intro h
    exact Nat.le_antisymm (fsc_le.mpr (Nat.le_of_eq h)) (fsc_ge.mpr (Nat.le_of_eq h.symm))
theorem near_ge {a d C : Nat} (hd : 0 < d) (h : C * d ≤ a) : C ≤ FP.Core.nearest a d := by
  have h1 : C ≤ a / d := (Nat.le_div_iff_mul_le hd).mpr h
  unfold FP.Core.nearest
  split
  · exact h1
  · split <;> omega
/-- a value in units of 2^-400 -/
def fv (c : Nat) (q : Int) : Nat := c * 2 ^ (q + 400).toNat
theorem quan_e {num : Nat} {e : Int} (h : 0 < num) : FP.Core.quantum FP.Core.b32 num 1 e = max (-149) ((num.log2 : Int) + e - 23) := by
  have hl : FP.Core.leading num 1 = (num.log2 : Int) := by
    unfold FP.Core.leading
    have h1 : Nat.log2 1 = 0 := by decide
    simp only [h1]
    rw [if_pos]
    · omega
    · have := Nat.log2_self_le (n := num) (by omega)
      rw [show ((num.log2 : Int) - ((0 : Nat) : Int)).toNat = num.log2 by omega, show (-((num.log2 : Int) - ((0 : Nat) : Int))).toNat = 0 by omega]
      omega
  unfold FP.Core.quantum
  rw [hl]
  rfl
theorem log_b {num : Nat} (h : 0 < num) : 2 ^ num.log2 ≤ num ∧ num < 2 ^ (num.log2 + 1) := ⟨Nat.log2_self_le (by omega), Nat.lt_log2_self⟩
theorem rr_at {num : Nat} {e q : Int} (h : 0 < num) (he : -400 ≤ e) (hq : FP.Core.quantum FP.Core.b32 num 1 e = q) (q0 : -149 ≤ q) : FP.Core.roundRatio FP.Core.b32 false num 1 e = FP.Core.settle FP.Core.b32 false (FP.Core.nearest (num * 2 ^ ((e + 400).toNat - (q + 400).toNat)) (2 ^ ((q + 400).toNat - (e + 400).toNat))) q := by
  unfold FP.Core.roundRatio FP.Core.roundAt FP.Core.unitsNum FP.Core.unitsDen
  rw [if_neg (by omega), hq, Nat.one_mul, show (e - q).toNat = (e + 400).toNat - (q + 400).toNat by omega, show (q - e).toNat = (q + 400).toNat - (e + 400).toNat by omega]
theorem set_lt {c : Nat} {q : Int} (h : c < 16777216) (hq : q ≤ 104) : FP.Core.settle FP.Core.b32 false c q = .fin false c q := by
  have e1 : FP.Core.settle FP.Core.b32 false c q = FP.Core.bound FP.Core.b32 false c q := if_pos (show c < 2 ^ FP.Core.b32.p from h)
  rw [e1]
  exact if_pos (show q ≤ FP.Core.b32.qmax from hq)
theorem set_ge {c : Nat} {q : Int} (h : ¬ c < 16777216) (hq : q + 1 ≤ 104) : FP.Core.settle FP.Core.b32 false c q = .fin false 8388608 (q + 1) := by
  have e1 : FP.Core.settle FP.Core.b32 false c q = FP.Core.bound FP.Core.b32 false 8388608 (q + 1) := if_neg (show ¬ c < 2 ^ FP.Core.b32.p from h)
  rw [e1]
  exact if_pos (show q + 1 ≤ FP.Core.b32.qmax from hq)
theorem rr_exact {num c : Nat} {e q : Int} (h : 0 < num) (he : -400 ≤ e) (g : gp c q) (hv : fv num e = fv c q) : FP.Core.roundRatio FP.Core.b32 false num 1 e = .fin false c q := by
  obtain ⟨g1, g2, g3⟩ := g
  have hb := log_b h
  unfold fv at hv
  have u1 : 2 ^ (num.log2 + (e + 400).toNat) ≤ num * 2 ^ (e + 400).toNat := by
    rw [Nat.pow_add]
    exact Nat.mul_le_mul_right _ hb.1
  have u2 : num * 2 ^ (e + 400).toNat < 2 ^ (num.log2 + 1 + (e + 400).toNat) := by
    rw [Nat.pow_add]
    exact Nat.mul_lt_mul_of_pos_right hb.2 (Nat.two_pow_pos _)
  have v2 : c * 2 ^ (q + 400).toNat < 2 ^ (24 + (q + 400).toNat) := by
    rw [Nat.pow_add]
    exact Nat.mul_lt_mul_of_pos_right (by omega) (Nat.two_pow_pos _)
  have l1 : num.log2 + (e + 400).toNat < 24 + (q + 400).toNat := (Nat.pow_lt_pow_iff_right (a := 2) (by decide)).mp (by omega)
  have hq : FP.Core.quantum FP.Core.b32 num 1 e = q := by
    rw [quan_e h]
    rcases g3 with g3 | g3
    · omega
    · have v1 : 2 ^ (23 + (q + 400).toNat) ≤ c * 2 ^ (q + 400).toNat := by
        rw [Nat.pow_add]
        exact Nat.mul_le_mul_right _ (by omega)
      have l2 : 23 + (q + 400).toNat < num.log2 + 1 + (e + 400).toNat := (Nat.pow_lt_pow_iff_right (a := 2) (by decide)).mp (by omega)
      omega
  rw [rr_at h he hq g2.1, fsc_eq.mpr hv, near_ex (Nat.two_pow_pos _)]
  exact set_lt g1 g2.2
theorem rr_bound {num C : Nat} {e Q : Int} (h : 0 < num) (he : -400 ≤ e) (g : gp C Q) (hv : fv num e ≤ fv C Q) : ∃ c q, FP.Core.roundRatio FP.Core.b32 false num 1 e = .fin false c q ∧ gp c q ∧ fv c q ≤ fv C Q := by
  obtain ⟨g1, g2, g3⟩ := g
  have hb := log_b h
  have u1 : 2 ^ (num.log2 + (e + 400).toNat) ≤ num * 2 ^ (e + 400).toNat := by
    rw [Nat.pow_add]
    exact Nat.mul_le_mul_right _ hb.1
  have u2 : num * 2 ^ (e + 400).toNat < 2 ^ (num.log2 + 1 + (e + 400).toNat) := by
    rw [Nat.pow_add]
    exact Nat.mul_lt_mul_of_pos_right hb.2 (Nat.two_pow_pos _)
  have v2 : C * 2 ^ (Q + 400).toNat < 2 ^ (24 + (Q + 400).toNat) := by
    rw [Nat.pow_add]
    exact Nat.mul_lt_mul_of_pos_right (by omega) (Nat.two_pow_pos _)
  unfold fv at hv
  have l1 : num.log2 + (e + 400).toNat < 24 + (Q + 400).toNat := (Nat.pow_lt_pow_iff_right (a := 2) (by decide)).mp (by omega)
  have hq := quan_e (e := e) h
  generalize hq2 : FP.Core.quantum FP.Core.b32 num 1 e = q at hq
  have q0 : -149 ≤ q := by omega
  have qQ : q ≤ Q := by omega
  rw [rr_at h he hq2 q0]
  have up : num * 2 ^ ((e + 400).toNat - (q + 400).toNat) ≤ (C * 2 ^ ((Q + 400).toNat - (q + 400).toNat)) * 2 ^ ((q + 400).toNat - (e + 400).toNat) := by
    rw [fsc_le, Nat.mul_assoc, ← Nat.pow_add, show (Q + 400).toNat - (q + 400).toNat + (q + 400).toNat = (Q + 400).toNat by omega]
    exact hv
  have n1 := near_le (Nat.two_pow_pos _) up
  have up2 : num * 2 ^ ((e + 400).toNat - (q + 400).toNat) ≤ 16777216 * 2 ^ ((q + 400).toNat - (e + 400).toNat) := by
    rw [fsc_le]
    refine Nat.le_of_lt (Nat.lt_of_lt_of_le u2 ?_)
    rw [show 16777216 = 2 ^ 24 from rfl, ← Nat.pow_add]
    exact Nat.pow_le_pow_right (by decide) (by omega)
  have n2 := near_le (Nat.two_pow_pos _) up2
  have n3 : q = -149 ∨ 8388608 ≤ FP.Core.nearest (num * 2 ^ ((e + 400).toNat - (q + 400).toNat)) (2 ^ ((q + 400).toNat - (e + 400).toNat)) := by
    by_cases z : q = -149
    · exact Or.inl z
    · right
      refine near_ge (Nat.two_pow_pos _) ?_
      rw [fsc_ge]
      refine Nat.le_trans ?_ u1
      rw [show 8388608 = 2 ^ 23 from rfl, ← Nat.pow_add]
      exact Nat.pow_le_pow_right (by decide) (by omega)
  generalize FP.Core.nearest (num * 2 ^ ((e + 400).toNat - (q + 400).toNat)) (2 ^ ((q + 400).toNat - (e + 400).toNat)) = c at n1 n2 n3
  have val : fv c q ≤ fv C Q := by
    unfold fv
    refine Nat.le_trans (Nat.mul_le_mul_right _ n1) ?_
    rw [Nat.mul_assoc, ← Nat.pow_add, show (Q + 400).toNat - (q + 400).toNat + (q + 400).toNat = (Q + 400).toNat by omega]
    exact Nat.le_refl _
  by_cases z : c < 16777216
  · rw [set_lt z (by omega)]
    exact ⟨c, q, rfl, ⟨z, ⟨q0, by omega⟩, n3⟩, val⟩
  · have ce : c = 16777216 := by omega
    have v3 : fv 8388608 (q + 1) = fv c q := by
      unfold fv
      rw [ce, show (q + 1 + 400).toNat = (q + 400).toNat + 1 by omega, Nat.pow_succ]
      omega
    have qlt : q < Q := by
      unfold fv at val
      rw [ce, show 16777216 = 2 ^ 24 from rfl, ← Nat.pow_add] at val
      have : 24 + (q + 400).toNat < 24 + (Q + 400).toNat := (Nat.pow_lt_pow_iff_right (a := 2) (by decide)).mp (Nat.lt_of_le_of_lt val v2)
      omega
    rw [set_ge z (by omega)]
    exact ⟨8388608, q + 1, rfl, ⟨by omega, ⟨by omega, by omega⟩, Or.inr (by omega)⟩, by rw [v3]; exact val⟩
