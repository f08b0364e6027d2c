/-! floats that are not below 0 -/
abbrev gp (c : Nat) (q : Int) : Prop := c < 16777216 ∧ (-149 ≤ q ∧ q ≤ 104) ∧ (q = -149 ∨ 8388608 ≤ c)
def FD (x : UInt32) (c : Nat) (q : Int) : Prop := FP.Core.decode FP.Core.b32 x.toNat = .fin false c q ∧ gp c q
def fenc (c : Nat) (q : Int) : Nat := if c < 8388608 then c else ((q + 149).toNat + 1) * 8388608 + (c - 8388608)
theorem fenc_lt {c : Nat} {q : Int} (h : gp c q) : fenc c q < 2139095040 := by
  unfold fenc
  split <;> omega
theorem dec_of {n : Nat} (h : n < 2139095040) : FP.Core.decode FP.Core.b32 n = .fin false (if n / 8388608 = 0 then n % 8388608 else 8388608 + n % 8388608) (if n / 8388608 = 0 then -149 else -149 + ((n / 8388608 : Nat) - 1 : Int)) := by
  have hE : FP.Core.fieldE FP.Core.b32 n = n / 8388608 := by
    show n / 8388608 % 256 = _
    omega
  have hT : FP.Core.fieldT FP.Core.b32 n = n % 8388608 := rfl
  have hS : FP.Core.fieldS FP.Core.b32 n = false := by
    show (n / 8388608 / 256 % 2 == 1) = false
    rw [show n / 8388608 / 256 % 2 = 0 by omega]
    rfl
  unfold FP.Core.decode
  rw [hE, hT, hS, show FP.Core.b32.exps = 256 from rfl, if_neg (show ¬ n / 8388608 = 256 - 1 by omega)]
  by_cases c : n / 8388608 = 0
  · rw [if_pos c, if_pos c, if_pos c]
    rfl
  · rw [if_neg c, if_neg c, if_neg c]
    rfl
theorem dec_enc {c : Nat} {q : Int} (h : gp c q) : FP.Core.decode FP.Core.b32 (fenc c q) = .fin false c q := by
  rw [dec_of (fenc_lt h)]
  unfold fenc
  by_cases k : c < 8388608
  · rw [if_pos k, if_pos (by omega), if_pos (by omega), show c % 8388608 = c by omega, show (-149 : Int) = q by omega]
  · rw [if_neg k]
    have e1 : (((q + 149).toNat + 1) * 8388608 + (c - 8388608)) / 8388608 = (q + 149).toNat + 1 := by omega
    have e2 : (((q + 149).toNat + 1) * 8388608 + (c - 8388608)) % 8388608 = c - 8388608 := by omega
    rw [e1, e2, if_neg (by omega), if_neg (by omega), show 8388608 + (c - 8388608) = c by omega, show -149 + ((((q + 149).toNat + 1 : Nat) : Int) - 1) = q by omega]
theorem enc_e {c : Nat} {q : Int} (h : gp c q) : FP.Core.encode FP.Core.b32 (.fin false c q) = fenc c q := by
  show (if c < 8388608 then (Bool.toNat false * 256 + 0) * 8388608 + c else (Bool.toNat false * 256 + ((q - -149).toNat + 1)) * 8388608 + (c - 8388608)) = _
  unfold fenc
  split
  · simp
  · simp only [Bool.toNat_false, Nat.zero_mul, Nat.zero_add]
    rw [show q - -149 = q + 149 by omega]
theorem FD_enc {c : Nat} {q : Int} (h : gp c q) : FD (UInt32.ofNat (FP.Core.encode FP.Core.b32 (.fin false c q))) c q := by
  refine ⟨?_, h⟩
  have := fenc_lt h
  rw [enc_e h]
  show FP.Core.decode FP.Core.b32 (fenc c q % 4294967296) = _
  rw [Nat.mod_eq_of_lt (by omega), dec_enc h]
theorem FD_n {x : UInt32} (h : x.toNat < 2139095040) : ∃ c q, FD x c q ∧ x.toNat = fenc c q := by
  refine ⟨_, _, ⟨dec_of h, ?_⟩, ?_⟩
  · by_cases k : x.toNat / 8388608 = 0
    · rw [if_pos k, if_pos k]
      omega
    · rw [if_neg k, if_neg k]
      omega
  · unfold fenc
    by_cases k : x.toNat / 8388608 = 0
    · rw [if_pos k, if_pos k, if_pos (by omega)]
      omega
    · rw [if_neg k, if_neg k, if_neg (by omega)]
      omega
theorem near_ex {a d : Nat} (hd : 0 < d) : FP.Core.nearest (a * d) d = a := by
  unfold FP.Core.nearest
  rw [Nat.mul_mod_left, if_pos (by omega), Nat.mul_div_cancel _ hd]
/-- between whole numbers the nearest stays -/
theorem near_le {a d C : Nat} (hd : 0 < d) (h : a ≤ C * d) : FP.Core.nearest a d ≤ C := by
  have h1 : a / d ≤ C := Nat.div_le_of_le_mul (by rw [Nat.mul_comm]; exact h)
  have h3 : a / d * d + a % d = a := Nat.div_add_mod' a d
  unfold FP.Core.nearest
  by_cases c1 : 2 * (a % d) < d
  · rw [if_pos c1]
    exact h1
  · rw [if_neg c1]
    have h4 : a / d < C := by
      rcases Nat.lt_or_eq_of_le h1 with q | q
      · exact q
      · rw [q] at h3
        omega
    split
    · omega
    · have : a / d % 2 ≤ 1 := by omega
      omega
