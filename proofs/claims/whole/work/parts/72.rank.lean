/-! what is thought of officials -/
def fcl (x y : UInt32) : Int32 := Op.cmpValue (FP.fcmp x y) .l
def fcg (x y : UInt32) : Int32 := Op.cmpValue (FP.fcmp x y) .g
theorem jfcl {a b x y : UInt32} (h : a = x) (h2 : b = y) : Op.cmpValue (FP.fcmp a b) .l = fcl x y := by rw [h, h2]; rfl
theorem jfcg {a b x y : UInt32} (h : a = x) (h2 : b = y) : Op.cmpValue (FP.fcmp a b) .g = fcg x y := by rw [h, h2]; rfl
theorem br_fe {a b : Int32} {A B : Prop} (x : Int32) (hx : a = x) (h1 : x = b → A) (h2 : ¬ x = b → B) : (a = b → A) ∧ (¬ a = b → B) := by subst hx; exact ⟨h1, h2⟩
theorem br_fle {a b : Int32} {A B : Prop} (x : Int32) (hx : a = x) (h1 : x ≤ b → A) (h2 : ¬ x ≤ b → B) : (a ≤ b → A) ∧ (¬ a ≤ b → B) := by subst hx; exact ⟨h1, h2⟩
theorem br_flt {a b : Int32} {A B : Prop} (x : Int32) (hx : a = x) (h1 : x < b → A) (h2 : ¬ x < b → B) : (a < b → A) ∧ (¬ a < b → B) := by subst hx; exact ⟨h1, h2⟩
theorem br_fler {a b : Int32} {A B : Prop} (x : Int32) (hx : a = x) (h1 : b ≤ x → A) (h2 : ¬ b ≤ x → B) : (b ≤ a → A) ∧ (¬ b ≤ a → B) := by subst hx; exact ⟨h1, h2⟩
theorem br_fltr {a b : Int32} {A B : Prop} (x : Int32) (hx : a = x) (h1 : b < x → A) (h2 : ¬ b < x → B) : (b < a → A) ∧ (¬ b < a → B) := by subst hx; exact ⟨h1, h2⟩
def aheadS (T : Tm) (p q : Int) : Prop := (fcl (jF (T 34 p)) (jF (T 34 q)) = 0 ∧ ((T 33 p = T 33 q ∧ p < q) ∨ (T 33 p ≠ T 33 q ∧ T 33 q < T 33 p))) ∨ (¬ fcl (jF (T 34 p)) (jF (T 34 q)) = 0 ∧ ¬ fcl (jF (T 34 p)) (jF (T 34 q)) ≤ 0)
def upS (T : Tm) (o : Int) : Prop := T 32 o < 5 ∧ 2 ≤ T 33 o ∧ ¬ fcl (jF (T 34 o)) (1114636288 : UInt32) < 0
def dnS (T : Tm) (o : Int) : Prop := 1 < T 32 o ∧ 2 ≤ T 33 o ∧ ¬ (0 : Int32) ≤ fcg (jF (T 34 o)) (1109393408 : UInt32)
abbrev ahdP (T : Tm) (o p : Int) : Prop := p ≠ o ∧ aheadS T p o
noncomputable def rankS (T : Tm) (i : Int) : Int := fst_ (fun o => cnt (ahdP T o) (T 11 2) = i) (T 11 2)
abbrev upP (T : Tm) (o p : Int) : Prop := p ≠ o ∧ T 32 p = T 32 o ∧ upS T p ∧ aheadS T p o
abbrev dnP (T : Tm) (o p : Int) : Prop := p ≠ o ∧ T 32 p = T 32 o ∧ dnS T p ∧ aheadS T o p
noncomputable def grdS (T : Tm) (u d o : Int) : Int := cif (upS T o ∧ cnt (upP T o) (T 11 2) < u) (T 32 o + 1) (cif (dnS T o ∧ cnt (dnP T o) (T 11 2) < d) (T 32 o - 1) (T 32 o))
noncomputable def revN (T : Tm) (u d n : Int) : Int := cnt (fun o => grdS T u d o ≠ T 32 o) n
noncomputable def revT (T : Tm) (u d : Int) : Tm := blk (blk T 32 0 (T 11 2) (grdS T u d)) 33 0 (T 11 2) (fun _ => 0)
noncomputable def oneS (T : Tm) (o w : Int) : Int := cif (isOne T o) (if w = 0 then T 32 o else if w = 1 then T 6 o else if w = 2 then T 7 o else if w = 3 then T 8 o else if w = 4 then T 33 o else if w = 5 then (FP.f2i (jF (T 34 o))).toInt else if w = 6 then seatsS T o else -2) (-2)
theorem up_dn {T : Tm} {o : Int} (h : upS T o) : T 32 o < 5 := h.1
