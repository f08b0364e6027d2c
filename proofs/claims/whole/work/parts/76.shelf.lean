/-! shelves -/
abbrev shTh (s w n : Int) : Int := if 0 ≤ s ∧ s ≤ 2 then (if (0 ≤ w ∧ w ≤ 1) ∧ 0 ≤ n ∧ n ≤ 20 then 0 else 2) else 1
noncomputable def shT (T : Tm) (s w n : Int) : Tm := cif (shTh s w n = 0) (blk (up (up T 51 s w) 50 s n) 53 (20 * s) 20 (fun _ => 0)) T
/-- shelves are sound -/
def I5 (T : Tm) : Prop := ∀ s, 0 ≤ s → s < 3 → (0 ≤ T 50 s ∧ T 50 s ≤ 20) ∧ (0 ≤ T 51 s ∧ T 51 s ≤ 1)
abbrev isPl (T : Tm) (s p : Int) : Prop := (0 ≤ s ∧ s ≤ 2) ∧ 0 ≤ p ∧ p < T 50 s
noncomputable def lookS (T : Tm) (s p : Int) : Int := cif (isPl T s p) (if T 53 (20 * s + p) = 0 then -1 else T 52 (20 * s + p)) 0
