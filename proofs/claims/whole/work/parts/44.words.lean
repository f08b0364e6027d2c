/-! words of one seat -/
theorem I_wS {T : Tm} (h : I1 T) (a b : Int) (h0 : 0 ≤ a) (h1 : a < 6) (h2 : 0 ≤ b) (h3 : b < 6) : -1 ≤ wayS T a b ∧ wayS T a b ≤ 20000 := (I_w h (6 * a + b) (by omega) (by omega)).1
theorem endS_e (T : Tm) (g : Int) : endS T g = gm T g 4 + gm T g 5 := rfl
noncomputable def needS (T : Tm) (g s : Int) : Int := if s = 0 then gm T g 6 else if gm T g 6 - 1 < 1 then 1 else gm T g 6 - 1
theorem needS_e {T : Tm} {g s : Int} : needS T g s = if s = 0 then gm T g 6 else if gm T g 6 - 1 < 1 then 1 else gm T g 6 - 1 := rfl
def betw (T : Tm) (a b : Int) : Int := if gm T a 4 < gm T b 4 then gm T b 4 - endS T a else gm T a 4 - endS T b
abbrev atOnce (T : Tm) (a b : Int) : Prop := gm T a 4 < endS T b ∧ gm T b 4 < endS T a
/-- another game of that day, of those of P -/
abbrev otherS (T : Tm) (P : Int → Prop) (g k : Int) : Prop := k ≠ g ∧ gm T k 3 = gm T g 3 ∧ P k
def meetS (T : Tm) (P : Int → Prop) (g n : Int) : Prop := ∃ k, 0 ≤ k ∧ k < n ∧ otherS T P g k ∧ atOnce T g k
abbrev nearS (T : Tm) (g k : Int) : Prop := wayS T (gm T g 2) (gm T k 2) = -1 ∨ betw T g k < wayS T (gm T g 2) (gm T k 2) + T 11 4
def lateS (T : Tm) (P : Int → Prop) (g o n : Int) : Prop := wayS T (T 6 o) (gm T g 2) = -1 ∨ ∃ k, 0 ≤ k ∧ k < n ∧ otherS T P g k ∧ nearS T g k
def fldS (T : Tm) (P : Int → Prop) (g n f : Int) : Prop := f = gm T g 2 ∨ ∃ k, 0 ≤ k ∧ k < n ∧ otherS T P g k ∧ f = gm T k 2
/-- why an official with the games of P may not sit there, from 4 on -/
noncomputable def hind (T : Tm) (P : Int → Prop) (g s o : Int) : Int :=
  cif (P g) 4 (cif (T 32 o < needS T g s) 5 (cif (bt (jI (T 7 o)) (gm T g 0) ∨ bt (jI (T 7 o)) (gm T g 1)) 6 (cif (bt (jI (T 8 o)) (gm T g 3)) 7
  (cif (T 11 5 ≤ cnt (otherS T P g) (T 11 3)) 8 (cif (meetS T P g (T 11 3)) 9 (cif (lateS T P g o (T 11 3)) 10 (cif (2 < cnt (fldS T P g (T 11 3)) 6) 11 0)))))))
noncomputable def whyS (T : Tm) (g s o : Int) : Int := cif (T 30 (3 * g + s) ≠ -1) 3 (hind T (inGame T o) g s o)
noncomputable def whyF (T : Tm) (g s o : Int) : Int := cif (isSeat T g s ∧ isOne T o) (cif (gm T g 3 < T 35 0) 2 (whyS T g s o)) 1
theorem jrem {a b : Int32} {x y : Int} (ha : a = jI x) (hb : b = jI y) (rx : r32 x) (ry : r32 y) (x0 : 0 ≤ x) (y0 : 0 < y) : a - a / b * b = jI (x % y) := by
  rw [jdiv ha hb rx ry x0 y0, ha, hb, jI_mul, jI_sub]
  have := Int.mul_ediv_add_emod x y
  rw [Int.mul_comm (x / y) y]
  congr 1
  omega
