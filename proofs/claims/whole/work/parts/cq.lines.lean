/-! the class: all lines -/
theorem f_lines {U : Um} {T : Tm} {x : Nat} {k p : Int} (h : CF U T x k p) {post : Int32 → Um → Prop} {K : Um → Prop} (hK : K U) {fu : Nat} {i : Int32} : w_X4_readWeek_L31 2 post K (fu + 1) i U := by
  show b_X4_readWeek_L31 2 post K (w_X4_readWeek_L31 2 post K fu) i U
  exact ⟨fun _ => hK, fun _ => fl_F h hK⟩
theorem tk_0 {T : Tm} (ht : It T) {f : Int} (f0 : 0 ≤ f) : tkS T f = 0 ↔ T 17 0 ≤ f := by
  refine ⟨fun q => (Int.lt_or_le f (T 17 0)).elim (fun z => ?_) id, fun q => (cd_end q).1⟩
  have b := ht.2 f f0 (by have := ht.1; omega)
  have e : seeS T f = T 16 f := if_pos z
  unfold tkS at q
  rw [if_neg (by omega)] at q
  split at q
  · omega
  · split at q <;> omega
theorem xl_lines {T : Tm} {x : Nat} {U0 : Um} {post : Int32 → Um → Prop} {K : Um → Prop} (r : PR) (hE : ∀ (k p : Int) (V : Um), r = .error (k, p) → CF V T x k p → fX (PXL x) U0 V → K V) (hK : ∀ (D : Tm) (f : Int) (V : Um), r = .ok (D, f) → CQ V T D x f → ID D f → fX (PXL x) U0 V → K V) : ∀ (fu : Nat) (i : Int) (D : Tm) (f : Int) (U : Um), CQ U T D x f → ID D f → fX (PXL x) U0 U → 0 ≤ i → i ≤ 1200 → i ≤ f → r = linesR T (1300 - i).toNat D f → (1200 - i).toNat + 1 < fu → w_X4_readWeek_L31 2 post K fu (jI i) U := by
  intro fu
  induction fu with
  | zero => intro i D f U _ _ _ _ _ _ _ h; exact absurd h (Nat.not_lt_zero _)
  | succ fu ih =>
    intro i D f U hQ hD hF i0 i1 ig hrr hf
    obtain ⟨fu, rfl⟩ : ∃ k, fu = k + 1 := ⟨fu - 1, by omega⟩
    show b_X4_readWeek_L31 2 post K (w_X4_readWeek_L31 2 post K (fu + 1)) (jI i) U
    unfold b_X4_readWeek_L31
    have c := hQ.1
    have fb := CQ_f hQ
    have ht := CQ_it hQ
    have t := ht.1
    have er : linesR T (1300 - i).toNat D f = if tkS T f = 0 then .ok (D, f) else match lineR T D f with
        | .error e => .error e
        | .ok p => linesR T (1300 - (i + 1)).toNat p.1 p.2 := by
      rw [show (1300 - i).toNat = (1300 - (i + 1)).toNat + 1 by omega]
      rfl
    rw [er] at hrr
    have out : tkS T f = 0 → K U := fun q => by
      rw [if_pos q] at hrr
      exact hK D f U hrr hQ hD hF
    refine br_le 1200 i rfl rfl ⟨by decide, by decide⟩ ⟨by omega, by omega⟩ (fun q => out ((tk_0 ht fb.1).mpr (by omega))) (fun q => fl_Q hQ ⟨b_0 c, ?_⟩)
    have a2 : uI U (uR U 2 0) 2 = jI f := CQ_at hQ
    have a1 : uI U (uR U 2 0) 1 = jI (T 17 0) := by rw [c.2.1]; exact c.2.2.2.2.1.1
    refine br_lt f (T 17 0) a2 a1 ⟨by omega, by omega⟩ ⟨by omega, by omega⟩ (fun z => br_0 ?_) (fun z => br_1 (out ((tk_0 ht fb.1).mpr z)))
    have nz : tkS T f ≠ 0 := fun y => by have := (tk_0 ht fb.1).mp y; omega
    rw [if_neg nz] at hrr
    refine x_line hQ hD ?_
    unfold ResL
    cases e : lineR T D f with
    | error q =>
      rw [e] at hrr
      exact fun V fV oV y hy => f_lines fV (hE q.1 q.2 V hrr fV (fX_trans hF oV))
    | ok p =>
      rw [e] at hrr
      have hrr : r = linesR T (1300 - (i + 1)).toNat p.1 p.2 := hrr
      obtain ⟨d1, d2, d3⟩ := line_i ht ⟨fb.1, by omega⟩ hD e
      intro V qV oV y hy
      rw [hy, show jI i + 1 = jI (i + 1) from jadd rfl rfl]
      exact ih (i + 1) p.1 p.2 V qV d1 (fX_trans hF oV) (by omega) (by omega) (by omega) hrr (by omega)
/-- an empty draft -/
theorem xl_emp15 {o : Nat} {a : Int} (ha : 0 ≤ a ∧ a < 6) {U0 : Um} {post K : Um → Prop} (hK : ∀ V : Um, fX (fun p k => p = o ∧ k = ki 1 a.toNat) U0 V → (∀ j : Nat, j < 6 → uA V o (ki 1 a.toNat) j = 0) → K V) : ∀ (fu : Nat) (b : Int) (U : Um), fX (fun p k => p = o ∧ k = ki 1 a.toNat) U0 U → (∀ j : Nat, (j : Int) < b → uA U o (ki 1 a.toNat) j = 0) → 0 ≤ b → b ≤ 6 → (6 - b).toNat < fu → w_X5_empty_L15 o (jI a) post K fu (jI b) U := by
  intro fu
  induction fu with
  | zero => intro b U _ _ _ _ h; exact absurd h (Nat.not_lt_zero _)
  | succ fu ih =>
    intro b U hF hr b0 b1 hf
    show b_X5_empty_L15 o (jI a) post K (w_X5_empty_L15 o (jI a) post K fu) (jI b) U
    unfold b_X5_empty_L15
    have ta : Int32.toNatClampNeg (jI a) = a.toNat := jI_nat ha.1 (by omega)
    refine br_le 6 b rfl rfl ⟨by decide, by decide⟩ ⟨by omega, by omega⟩ (fun q => hK U hF (fun j hj => hr j (by omega))) (fun q => ⟨jvp a rfl ha.1 ha.2 (by decide), jvp b rfl b0 q (by decide), fun V eV y hy => ?_⟩)
    rw [ta, jI_nat b0 (by omega)] at eV
    have fV : fX (fun p k => p = o ∧ k = ki 1 a.toNat) U V := by rw [eV]; exact fX_sA ⟨rfl, rfl⟩
    rw [hy, show jI b + 1 = jI (b + 1) from jadd rfl rfl]
    refine ih (b + 1) V (fX_trans hF fV) (fun j hj => ?_) (by omega) (by omega) (by omega)
    rw [eV, uA_sA, if_pos ⟨rfl, rfl⟩]
    unfold va_up
    by_cases z : j = b.toNat
    · rw [if_pos z]
    · rw [if_neg z]
      exact hr j (by omega)
theorem xl_emp7 {o : Nat} {U0 : Um} {post K : Um → Prop} (hK : ∀ V : Um, fX (fun p _ => p = o) U0 V → (∀ i j : Nat, i < 6 → j < 6 → uA V o (ki 1 i) j = 0) → K V) : ∀ (fu : Nat) (a : Int) (U : Um), fX (fun p _ => p = o) U0 U → (∀ i j : Nat, (i : Int) < a → j < 6 → uA U o (ki 1 i) j = 0) → 0 ≤ a → a ≤ 6 → (6 - a).toNat < fu → w_X5_empty_L7 o post K fu (jI a) U := by
  intro fu
  induction fu with
  | zero => intro a U _ _ _ _ h; exact absurd h (Nat.not_lt_zero _)
  | succ fu ih =>
    intro a U hF hr a0 a1 hf
    show b_X5_empty_L7 o post K (w_X5_empty_L7 o post K fu) (jI a) U
    unfold b_X5_empty_L7
    refine br_le 6 a rfl rfl ⟨by decide, by decide⟩ ⟨by omega, by omega⟩ (fun q => hK U hF (fun i j hi hj => hr i j (by omega) hj)) (fun q => ⟨(6 - 0 : Int).toNat + 1, ?_⟩)
    refine xl_emp15 ⟨a0, q⟩ (U0 := U) (fun V fV rV y hy => ?_) _ 0 U fX_rfl (fun j hj => by omega) (by decide) (by decide) (Nat.lt_succ_self _)
    rw [hy, show jI a + 1 = jI (a + 1) from jadd rfl rfl]
    refine ih (a + 1) V (fX_trans hF (fX_w (fun p k q => q.1) fV)) (fun i j hi hj => ?_) (by omega) (by omega) (by omega)
    by_cases z : i = a.toNat
    · rw [z]
      exact rV j hj
    · rw [(fV.2.2 o (ki 1 i) (fun y => z (ki1_x y.2))).2.2.1]
      exact hr i j (by omega) hj
theorem xl_emp2 {o : Nat} {U0 : Um} {post K : Um → Prop} (hK : ∀ V : Um, fX (fun p _ => p = o) U0 V → (∀ i : Nat, i < 3 → uA V o 1 i = 0) → K V) : ∀ (fu : Nat) (a : Int) (U : Um), fX (fun p _ => p = o) U0 U → (∀ i : Nat, (i : Int) < a → uA U o 1 i = 0) → 0 ≤ a → a ≤ 3 → (3 - a).toNat < fu → w_X9_empty_L2 o post K fu (jI a) U := by
  intro fu
  induction fu with
  | zero => intro a U _ _ _ _ h; exact absurd h (Nat.not_lt_zero _)
  | succ fu ih =>
    intro a U hF hr a0 a1 hf
    show b_X9_empty_L2 o post K (w_X9_empty_L2 o post K fu) (jI a) U
    unfold b_X9_empty_L2
    refine br_le 3 a rfl rfl ⟨by decide, by decide⟩ ⟨by omega, by omega⟩ (fun q => hK U hF (fun i hi => hr i (by omega))) (fun q => ⟨jvp a rfl a0 q (by decide), fun V eV y hy => ?_⟩)
    rw [jI_nat a0 (by omega)] at eV
    rw [hy, show jI a + 1 = jI (a + 1) from jadd rfl rfl]
    refine ih (a + 1) V (fX_trans hF (by rw [eV]; exact fX_sA rfl)) (fun i hi => ?_) (by omega) (by omega) (by omega)
    rw [eV, uA_sA, if_pos ⟨rfl, rfl⟩]
    unfold va_up
    by_cases z : i = a.toNat
    · rw [if_pos z]
    · rw [if_neg z]
      exact hr i (by omega)
theorem x_empty {U : Um} {T D : Tm} {x : Nat} (hx : x = 4 ∨ x = 5) (hp : PW U x) (hD : emptyD D) {ob : Nat} (eo : ob = x) {post : Um → Prop} (h : ∀ V : Um, CD V D x → fX (fun o k => o = x ∨ o = x + 2 ∨ (o = x + 4 ∧ k = 1)) U V → post V) : w_X9_empty ob U post := by
  rw [eo]
  unfold w_X9_empty
  obtain ⟨⟨n0, n4, n5, n6⟩, hR, hS⟩ := hD
  refine ⟨(3 - 0 : Int).toNat + 1, xl_emp2 (U0 := U) (fun V3 f3 r3 V4 e4 V5 e5 V6 e6 => ?_) _ 0 U fX_rfl (fun i hi => by omega) (by decide) (by decide) (Nat.lt_succ_self _)⟩
  have f6 : fX (fun p _ => p = x) U V6 := fX_trans f3 (by rw [e6, e5, e4]; exact fX_trans (fX_trans (fX_sI rfl) (fX_sI rfl)) (fX_sI rfl))
  have u10 : uR V6 x 10 = x + 2 := by rw [f6.1]; exact hp.1
  refine ⟨oc_of u10 (oc_r hx), ?_⟩
  rw [u10]
  unfold w_X5_empty
  intro V7 e7
  have f7 : fX (fun p _ => p = x + 2) V6 V7 := by rw [e7]; exact fX_sI rfl
  refine ⟨(6 - 0 : Int).toNat + 1, xl_emp7 (U0 := V7) (fun V8 f8 r8 => ?_) _ 0 V7 fX_rfl (fun i j hi => by omega) (by decide) (by decide) (Nat.lt_succ_self _)⟩
  have u11 : uR V8 x 11 = x + 4 := by rw [f8.1, f7.1, f6.1]; exact hp.2.1
  refine ⟨oc_of u11 (oc_l hx), fun V9 e9 => ?_⟩
  rw [u11] at e9
  have f78 : fX (fun p _ => p = x + 2) V6 V8 := fX_trans f7 f8
  have f9 : fX (fun o k => o = x + 4 ∧ k = 1) V8 V9 := by rw [e9]; exact fX_sI ⟨rfl, rfl⟩
  have gx : ∀ k, uI V9 x k = uI V6 x k ∧ uA V9 x k = uA V6 x k := fun k => by
    have a := f9.2.2 x k (by omega)
    have b := f78.2.2 x k (by omega)
    exact ⟨a.1.trans b.1, a.2.2.1.trans b.2.2.1⟩
  have e0 : ∀ i, 7 ≤ i → i < 11 → D 11 i = 0 := n0
  refine h V9 ⟨⟨fun k k0 k1 => ?_, ?_, ?_, ?_⟩, fun s i s0 s1 i0 i1 => ?_, fun o o0 o1 => ?_, fun g g0 g1 => ?_, fun a b a0 a1 b0 b1 => ?_, ?_, fun k k0 k1 => ?_⟩ (fX_trans (fX_w (fun o k q => Or.inl q) f6) (fX_trans (fX_w (fun o k q => Or.inr (Or.inl q)) f78) (fX_w (fun o k q => Or.inr (Or.inr q)) f9)))
  · rw [(gx 1).2, e0 (7 + k) (by omega) (by omega)]
    have a : uA V6 x 1 = uA V3 x 1 := by rw [e6, e5, e4]; rfl
    rw [a, r3 k.toNat (by omega)]
    rfl
  · rw [(gx 7).1, e6, uI_sI, if_neg (by omega), e5, uI_sI, if_neg (by omega), e4, uI_sI, if_pos ⟨rfl, rfl⟩, e0 10 (by decide) (by decide)]
    rfl
  · rw [(gx 8).1, e6, uI_sI, if_neg (by omega), e5, uI_sI, if_pos ⟨rfl, rfl⟩, n4]
    rfl
  · rw [(gx 9).1, e6, uI_sI, if_pos ⟨rfl, rfl⟩, n5]
    rfl
  · rw [e0 (7 + s) (by omega) (by omega)] at i1
    omega
  · rw [e0 9 (by decide) (by decide)] at o1
    omega
  · rw [e0 10 (by decide) (by decide)] at g1
    omega
  · rw [(f9.2.2 (x + 2) _ (by omega)).2.2.1, r8 a.toNat b.toNat (by omega) (by omega), hR _ (by omega) (by omega)]
    rfl
  · rw [e9, uI_sI, if_pos ⟨rfl, rfl⟩, hS]
    rfl
  · rw [hS] at k1
    omega
