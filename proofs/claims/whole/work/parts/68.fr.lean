/-! what leaves the invariants -/
theorem I1_c {T T2 : Tm} (e : ∀ k j, (k = 1 ∨ k = 2 ∨ k = 3 ∨ k = 4 ∨ k = 5 ∨ k = 6 ∨ k = 7 ∨ k = 8 ∨ k = 10 ∨ k = 11 ∨ k = 12 ∨ k = 13 ∨ k = 14) → T2 k j = T k j) (h : I1 T) : I1 T2 := by
  obtain ⟨a1, a2, a3, a4, a5, a6⟩ := h
  have eg : ∀ g k, gm T2 g k = gm T g k := fun g k => e 10 _ (by omega)
  have edn : ∀ n, depN T2 n = depN T n := by
    intro n
    induction n with
    | zero => rfl
    | succ n ih =>
      show (if T2 13 n ≤ 1 then depN T2 n + 1 else depN T2 n - 1) = if T 13 n ≤ 1 then depN T n + 1 else depN T n - 1
      rw [ih, e 13 _ (by omega)]
  have ed : ∀ n, dep T2 n = dep T n := fun n => edn _
  unfold I1 gOk isGame isOne lStep
  simp only [eg, ed, e 1 _ (by omega), e 2 _ (by omega), e 3 _ (by omega), e 4 _ (by omega), e 5 _ (by omega), e 6 _ (by omega), e 7 _ (by omega), e 8 _ (by omega), e 11 _ (by omega), e 12 _ (by omega), e 13 _ (by omega), e 14 _ (by omega)]
  exact ⟨a1, a2, a3, a4, a5, a6⟩
theorem I2_c {T T2 : Tm} (e : ∀ k j, (k = 10 ∨ k = 11 ∨ k = 30 ∨ k = 31 ∨ k = 32 ∨ k = 33 ∨ k = 35) → T2 k j = T k j) (h : I2 T) : I2 T2 := by
  have eg : ∀ g k, gm T2 g k = gm T g k := fun g k => e 10 _ (by omega)
  unfold I2 isSeat isGame isOne
  simp only [eg, e 11 _ (by omega), e 30 _ (by omega), e 31 _ (by omega), e 32 _ (by omega), e 33 _ (by omega), e 35 _ (by omega)]
  exact h
theorem I1_keep {T : Tm} (h : I1 T) : I1 (keepT T) := I1_c (fun k j hk => keep_nf (by omega)) h
theorem I2_keep {T : Tm} (h : I2 T) : I2 (keepT T) := I2_c (fun k j hk => keep_nf (by omega)) h
noncomputable def putR (T : Tm) (g s o : Int) : Int := cif (whyF T g s o = 1 ∨ whyF T g s o = 2) (- whyF T g s o) (cif (gm T g 3 = T 35 0) (-12) (- whyF T g s o))
noncomputable def putT (T : Tm) (g s o : Int) : Tm := cif (putR T g s o = 0) (up (keepT T) 30 (3 * g + s) o) T
theorem whyF_seat {T : Tm} {g s o : Int} (h : whyF T g s o ≠ 1) : isSeat T g s ∧ isOne T o := by
  by_cases c : isSeat T g s ∧ isOne T o
  · exact c
  · exact absurd (by unfold whyF; rw [cif_f c]) h
noncomputable def dropR (T : Tm) (g s : Int) : Int := cif (isSeat T g s ∧ T 30 (3 * g + s) ≠ -1 ∧ ¬ gm T g 3 < T 35 0 ∧ gm T g 3 ≠ T 35 0) (T 30 (3 * g + s)) (-2)
noncomputable def dropT (T : Tm) (g s : Int) : Tm := cif (isSeat T g s ∧ T 30 (3 * g + s) ≠ -1 ∧ ¬ gm T g 3 < T 35 0 ∧ gm T g 3 ≠ T 35 0) (up (keepT T) 30 (3 * g + s) (-1)) T
noncomputable def swapT (T : Tm) (g s u t : Int) : Tm := cif (swapS T g s u t = 0) (exT (keepT T) (3 * g + s) (3 * u + t)) T
noncomputable def dayR (T : Tm) : Int := cif (T 35 0 = 7) (-1) (T 35 0 + 1)
noncomputable def dayT (T : Tm) : Tm := cif (T 35 0 = 7) T (up (keepT T) 35 0 (T 35 0 + 1))
/-- an earlier state taken back -/
def backT (T : Tm) (a m : Int) : Tm := up (blk (blk (blk (blk (blk T 30 0 48 (fun i => T 36 (a + i))) 31 0 48 (fun i => T 36 (a + 48 + i))) 32 0 10 (fun i => T 36 (a + 96 + i))) 33 0 10 (fun i => T 36 (a + 106 + i))) 34 0 10 (fun i => T 37 (10 * m + i))) 35 0 (T 36 (a + 116))
noncomputable def undoT (T : Tm) : Tm := cif (T 38 0 = 0) T (backT (up T 38 0 (T 38 0 - 1)) (117 * (T 38 0 - 1)) (T 38 0 - 1))
theorem swapS_seat {T : Tm} {g s u t : Int} (h : swapS T g s u t = 0) : isSeat T g s ∧ isSeat T u t ∧ T 30 (3 * g + s) ≠ -1 ∧ T 30 (3 * u + t) ≠ -1 ∧ g ≠ u := by
  unfold swapS at h
  by_cases c : ¬ (isSeat T g s ∧ isSeat T u t)
  · rw [cif_t c] at h
    omega
  · rw [cif_f c] at h
    have c := Classical.not_not.mp c
    by_cases c1 : gm T g 3 < T 35 0 ∨ gm T u 3 < T 35 0
    · rw [cif_t c1] at h
      omega
    rw [cif_f c1] at h
    by_cases c2 : T 30 (3 * g + s) = -1 ∨ T 30 (3 * u + t) = -1
    · rw [cif_t c2] at h
      omega
    rw [cif_f c2] at h
    by_cases c3 : g = u ∨ T 30 (3 * g + s) = T 30 (3 * u + t)
    · rw [cif_t c3] at h
      omega
    exact ⟨c.1, c.2, fun q => c2 (Or.inl q), fun q => c2 (Or.inr q), fun q => c3 (Or.inl q)⟩
