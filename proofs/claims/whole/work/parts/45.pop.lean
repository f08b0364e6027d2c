/-! how many bits -/
theorem bt_lt {B : Int32} {n : Nat} (hn : n ≤ 31) (h : ∀ f : Int, n ≤ f → f < 32 → ¬ bt B f) : 0 ≤ B.toInt ∧ B.toInt < (2 ^ n : Nat) := by
  have h1 : B.toBitVec.toNat < 2 ^ n := by
    apply Nat.lt_pow_two_of_testBit
    intro i hi
    by_cases c : i < 32
    · have := h (i : Int) (by omega) (by omega)
      unfold bt at this
      rw [Int.toNat_natCast] at this
      exact Bool.eq_false_iff.mpr this
    · have := B.toBitVec.isLt
      exact Nat.testBit_lt_two_pow (Nat.lt_of_lt_of_le this (Nat.pow_le_pow_right (by decide) (by omega)))
  have h2 : 2 ^ n ≤ 2 ^ 31 := Nat.pow_le_pow_right (by decide) hn
  have h3 : B.toInt = (B.toBitVec.toNat : Int) := by
    show B.toBitVec.toInt = _
    rw [BitVec.toInt_eq_toNat_of_lt]
    omega
  rw [h3]
  omega
def pcI (v : Int) : Int := v % 2 + v / 2 % 2 + v / 4 % 2 + v / 8 % 2 + v / 16 % 2 + v / 32 % 2
theorem pcI_s {v : Int} (h0 : 0 ≤ v) (h1 : v < 64) : pcI v = v % 2 + pcI (v / 2) := by
  unfold pcI
  omega
theorem pcI_0 : pcI 0 = 0 := rfl
theorem bt_small {v : Int} (h0 : 0 ≤ v) (h1 : v < 64) (k : Fin 6) : bt (jI v) (k.val : Int) ↔ v / 2 ^ k.val % 2 = 1 := by
  have : ∀ v : Fin 64, ∀ k : Fin 6, (jI (v.val : Int)).toBitVec.getLsbD k.val = true ↔ (v.val : Int) / 2 ^ k.val % 2 = 1 := by decide +kernel
  have h := this ⟨v.toNat, by omega⟩ k
  have e : ((v.toNat : Nat) : Int) = v := Int.toNat_of_nonneg h0
  simp only [e] at h
  unfold bt
  rw [Int.toNat_natCast]
  exact h
theorem pcI_bit {v : Int} {k : Nat} (h0 : 0 ≤ v) (h1 : v < 64) (hk : k < 6) : cif (bt (jI v) (k : Int)) 1 0 = v / 2 ^ k % 2 := by
  have := bt_small h0 h1 ⟨k, hk⟩
  by_cases c : bt (jI v) (k : Int)
  · rw [cif_t c]
    exact (this.mp c).symm
  · rw [cif_f c]
    have q : ¬ v / 2 ^ k % 2 = 1 := fun z => c (this.mpr z)
    have := Int.emod_two_eq (v / 2 ^ k)
    omega
theorem pcI_cnt {v : Int} (h0 : 0 ≤ v) (h1 : v < 64) : cnt (bt (jI v)) 6 = pcI v := by
  have e0 := pcI_bit (k := 0) h0 h1 (by decide)
  have e1 := pcI_bit (k := 1) h0 h1 (by decide)
  have e2 := pcI_bit (k := 2) h0 h1 (by decide)
  have e3 := pcI_bit (k := 3) h0 h1 (by decide)
  have e4 := pcI_bit (k := 4) h0 h1 (by decide)
  have e5 := pcI_bit (k := 5) h0 h1 (by decide)
  have z : cnt (bt (jI v)) 6 = 0 + cif (bt (jI v) ((0 : Nat) : Int)) 1 0 + cif (bt (jI v) ((1 : Nat) : Int)) 1 0 + cif (bt (jI v) ((2 : Nat) : Int)) 1 0 + cif (bt (jI v) ((3 : Nat) : Int)) 1 0 + cif (bt (jI v) ((4 : Nat) : Int)) 1 0 + cif (bt (jI v) ((5 : Nat) : Int)) 1 0 := rfl
  rw [z, e0, e1, e2, e3, e4, e5]
  unfold pcI
  omega
theorem pcI_b (v : Int) : 0 ≤ pcI v ∧ pcI v ≤ 6 := by
  unfold pcI
  omega
