/-! the class: a roster is opened -/
/-- behind a week that was told: pointers 2 and 3 of object 0 are swapped, so fX does not hold; what must stay for the rest -/
theorem x_open {U : Um} {x : Nat} (hx : x = 4 ∨ x = 5) {G : Nat → Int32} (hG : ∀ j : Nat, j < 10 → uA U x 2 j = G j) {ob a : Nat} (eo : ob = 42) (ea : a = x) {post : Um → Prop} (h : ∀ U1 V : Um, U1 = sR U 42 0 x → fX P42 U1 V → uI V 42 1 = -1 → (∀ j : Nat, j < 48 → uA V 42 2 j = -1 ∧ uA V 42 3 j = -1) → (∀ j : Nat, j < 10 → uA V 42 4 j = G j ∧ uF V 42 5 j = 1112014848 ∧ uA V 42 6 j = 0 ∧ uA V 42 7 j = 0) → post V) : w_X6_open ob a U post := by
  rw [eo, ea]
  unfold w_X6_open
  intro U1 e1 U2 e2
  have f2 : fX P42 U1 U2 := by rw [e2]; exact fX_sI ⟨rfl, by decide, by decide⟩
  have i2 : uI U2 42 1 = -1 := by rw [e2, uI_sI, if_pos ⟨rfl, rfl⟩]
  refine ⟨(48 - 0 : Int).toNat + 1, xl_open12 (U0 := U2) ?_ _ 0 U2 fX_rfl (fun j hj => by omega) rfl (by decide) (by decide) (Nat.lt_succ_self _)⟩
  intro V fV rV iV
  have p0 : uR V 42 0 = x := by rw [fV.1, f2.1, e1, uR_sR, if_pos ⟨rfl, rfl⟩]
  have g0 : ∀ j : Nat, j < 10 → uA V x 2 j = G j := fun j hj => by
    rw [(fV.2.2 x 2 (by omega)).2.2.1, (f2.2.2 x 2 (by omega)).2.2.1, e1]
    exact hG j hj
  refine ⟨(10 - 0 : Int).toNat + 1, xl_open43 hx (G := G) (U0 := V) ?_ _ 0 V p0 g0 fX_rfl (fun j hj => by omega) ⟨rfl, rfl, rfl⟩ (by decide) (by decide) (Nat.lt_succ_self _)⟩
  intro W fW rW kW
  refine h U1 W e1 (fX_trans f2 (fX_trans fV fW)) (by rw [kW.1, iV, i2]) (fun j hj => ?_) rW
  rw [kW.2.1, kW.2.2]
  exact rV j hj
/-- the roster just opened -/
theorem CR_new {U : Um} {D : Tm} (hI : I1 (newT D)) (hN : IN D) (h1 : uI U 42 1 = -1) (h2 : ∀ j : Nat, j < 48 → uA U 42 2 j = -1 ∧ uA U 42 3 j = -1) (h4 : ∀ j : Nat, j < 10 → (j : Int) < D 11 9 → uA U 42 4 j = jI (D 9 (10 + (j : Int)))) (h5 : ∀ j : Nat, j < 10 → uF U 42 5 j = 1112014848 ∧ uA U 42 6 j = 0 ∧ uA U 42 7 j = 0) : CR U (newT D) := by
  have n := hN.1
  have a2 : newT D 11 2 = D 11 9 := newT_11 (by decide) (by decide)
  refine ⟨by rw [newT_35, h1]; rfl, fun k k0 k1 => ?_, fun o ho => ?_⟩
  · rw [newT_30 k0 k1, newT_31 k0 k1]
    exact h2 k.toNat (by omega)
  · have o0 := ho.1
    have o1 : o < D 11 9 := by rw [← a2]; exact ho.2
    have o10 : o < 10 := by omega
    have r := h5 o.toNat (by omega)
    have r4 := h4 o.toNat (by omega) (by omega)
    rw [Int.toNat_of_nonneg o0] at r4
    refine ⟨⟨by rw [newT_32 o0 o10]; exact r4, by rw [newT_34 o0 o10, r.1]; decide, by rw [newT_33 o0 o10, r.2.1]; rfl⟩, fun g g0 g1 => ?_⟩
    rw [r.2.2]
    refine ⟨fun q => absurd q bt_0, fun q => ?_⟩
    obtain ⟨hg, s, s0, s1, e⟩ := q
    have b := I_g hI g hg.1 hg.2
    have hn := I_n hI
    unfold gOk at b
    have g16 : g < 16 := by have := hg.2; omega
    have w : newT D 30 (3 * g + s) = -1 := newT_30 (by omega) (by omega)
    rw [w] at e
    omega
