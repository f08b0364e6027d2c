/-! one game more -/
theorem meet_s {T : Tm} {P : Int → Prop} {g k : Int} (h : 0 ≤ k) : meetS T P g (k + 1) ↔ meetS T P g k ∨ (otherS T P g k ∧ atOnce T g k) := by
  unfold meetS
  constructor
  · rintro ⟨j, j0, j1, j2⟩
    by_cases c : j = k
    · subst c
      exact Or.inr j2
    · exact Or.inl ⟨j, j0, by omega, j2⟩
  · rintro (⟨j, j0, j1, j2⟩ | q)
    · exact ⟨j, j0, by omega, j2⟩
    · exact ⟨k, h, by omega, q⟩
theorem late_s {T : Tm} {P : Int → Prop} {g o k : Int} (h : 0 ≤ k) : lateS T P g o (k + 1) ↔ lateS T P g o k ∨ (otherS T P g k ∧ nearS T g k) := by
  unfold lateS
  constructor
  · rintro (q | ⟨j, j0, j1, j2⟩)
    · exact Or.inl (Or.inl q)
    · by_cases c : j = k
      · subst c
        exact Or.inr j2
      · exact Or.inl (Or.inr ⟨j, j0, by omega, j2⟩)
  · rintro ((q | ⟨j, j0, j1, j2⟩) | q)
    · exact Or.inl q
    · exact Or.inr ⟨j, j0, by omega, j2⟩
    · exact Or.inr ⟨k, h, by omega, q⟩
theorem fld_s {T : Tm} {P : Int → Prop} {g k f : Int} (h : 0 ≤ k) : fldS T P g (k + 1) f ↔ fldS T P g k f ∨ (otherS T P g k ∧ f = gm T k 2) := by
  unfold fldS
  constructor
  · rintro (q | ⟨j, j0, j1, j2⟩)
    · exact Or.inl (Or.inl q)
    · by_cases c : j = k
      · subst c
        exact Or.inr j2
      · exact Or.inl (Or.inr ⟨j, j0, by omega, j2⟩)
  · rintro ((q | ⟨j, j0, j1, j2⟩) | q)
    · exact Or.inl q
    · exact Or.inr ⟨j, j0, by omega, j2⟩
    · exact Or.inr ⟨k, h, by omega, q⟩
theorem fld_t {T : Tm} {P : Int → Prop} {g k : Int} {b x : Int32} (h : 0 ≤ k) (h0 : 0 ≤ gm T k 2) (h1 : gm T k 2 < 32) (hb : ∀ f, 0 ≤ f → f < 32 → (bt b f ↔ fldS T P g k f)) (c : otherS T P g k) (hx : x = b ||| ((1 : Int32) <<< (jI (gm T k 2) &&& 31))) : ∀ f, 0 ≤ f → f < 32 → (bt x f ↔ fldS T P g (k + 1) f) := by
  intro f f0 f1
  rw [hx, bt_or rfl h0 h1 f0 f1, hb f f0 f1, fld_s h]
  exact ⟨fun q => q.imp id (fun z => ⟨c, z⟩), fun q => q.imp id (fun z => z.2)⟩
theorem fld_f {T : Tm} {P : Int → Prop} {g k : Int} {b : Int32} (h : 0 ≤ k) (hb : ∀ f, 0 ≤ f → f < 32 → (bt b f ↔ fldS T P g k f)) (c : ¬ otherS T P g k) : ∀ f, 0 ≤ f → f < 32 → (bt b f ↔ fldS T P g (k + 1) f) := by
  intro f f0 f1
  rw [hb f f0 f1, fld_s h]
  exact ⟨Or.inl, fun q => q.resolve_right (fun z => c z.1)⟩
theorem fld_cnt {T : Tm} {P : Int → Prop} {g : Int} {b : Int32} (hI : I1 T) (g0 : 0 ≤ g) (g1 : g < T 11 3) (hb : ∀ f, 0 ≤ f → f < 32 → (bt b f ↔ fldS T P g (T 11 3) f)) : (0 ≤ b.toInt ∧ b.toInt < 64) ∧ pcI b.toInt = cnt (fldS T P g (T 11 3)) 6 := by
  have hn := I_n hI
  have hl := bt_lt (B := b) (n := 6) (by decide) (fun f f0 f1 z => by
    have q := (hb f (by omega) f1).mp z
    unfold fldS at q
    rcases q with q | ⟨k, k0, k1, k2, k3⟩
    · have := I_g hI g g0 g1
      unfold gOk at this
      omega
    · have := I_g hI k k0 k1
      unfold gOk at this
      omega)
  have hl2 : 0 ≤ b.toInt ∧ b.toInt < 64 := hl
  refine ⟨hl2, ?_⟩
  rw [← pcI_cnt hl2.1 hl2.2, jI_of]
  exact cnt_c (by decide) (fun f f0 f1 => hb f f0 (by omega))
theorem I_b {T : Tm} (h : I1 T) (g k : Int) (h0 : 0 ≤ g) (h1 : g < T 11 3) (k0 : 0 ≤ k) (k1 : k < T 11 3) : -2000 ≤ betw T g k ∧ betw T g k ≤ 2000 := by
  have a := I_g h g h0 h1
  have b := I_g h k k0 k1
  unfold gOk at a b
  unfold betw
  rw [endS_e, endS_e]
  split <;> omega
theorem I_need {T : Tm} (h : I1 T) (g s : Int) (h0 : 0 ≤ g) (h1 : g < T 11 3) : 1 ≤ needS T g s ∧ needS T g s ≤ 5 := by
  have a := I_g h g h0 h1
  unfold gOk at a
  rw [needS_e]
  split <;> (try split) <;> omega
theorem meet_0 {T : Tm} {P : Int → Prop} {g : Int} : ¬ meetS T P g 0 := by
  rintro ⟨k, k0, k1, _⟩
  omega
theorem late_0 {T : Tm} {P : Int → Prop} {g o : Int} : lateS T P g o 0 ↔ wayS T (T 6 o) (gm T g 2) = -1 := by
  unfold lateS
  refine ⟨fun q => q.resolve_right ?_, Or.inl⟩
  rintro ⟨k, k0, k1, _⟩
  omega
theorem fld_0 {T : Tm} {P : Int → Prop} {g : Int} {x : Int32} (h0 : 0 ≤ gm T g 2) (h1 : gm T g 2 < 32) (hx : x = (1 : Int32) <<< (jI (gm T g 2) &&& 31)) : ∀ f, 0 ≤ f → f < 32 → (bt x f ↔ fldS T P g 0 f) := by
  intro f f0 f1
  rw [hx, bt_1 rfl h0 h1 f0 f1]
  unfold fldS
  refine ⟨Or.inl, fun q => q.resolve_right ?_⟩
  rintro ⟨k, k0, k1, _⟩
  omega
