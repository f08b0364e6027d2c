/-! the class: the week told, from the draft -/
theorem wk_e {D : Tm} {a b : Int} {k : Nat} (h : k ≠ 17 ∧ k ≠ 18 ∧ k ≠ 19) : weekE D a b k = D k := by
  unfold weekE
  rw [up_f h.2.2, up_f h.2.1, up_f h.1]
theorem gm_new {D : Tm} {g : Int} {k : Nat} (g0 : 0 ≤ g) (g1 : g < 16) (hk : k < 8) : gm (newT D) g k = gD D g k := by
  unfold gm gD
  rw [newT_10 (by omega) (by omega)]
  congr 1
  omega
theorem nm_new {D : Tm} {s i : Int} (hN : IN D) (s0 : 0 ≤ s) (s1 : s < 3) (i0 : 0 ≤ i) (i1 : i < D 11 (7 + s)) : nmS (newT D) s i = nmD D s i := by
  have n := hN.1
  unfold nmS nmD
  rcases (show s = 0 ∨ s = 1 ∨ s = 2 by omega) with rfl | rfl | rfl
  · have i1 : i < D 11 7 := i1
    rw [if_pos rfl, if_pos rfl, newT_1 i0 (by omega)]
  · have i1 : i < D 11 8 := i1
    rw [if_neg (by decide), if_pos rfl, if_neg (by decide), if_pos rfl, newT_4 i0 (by omega)]
  · have i1 : i < D 11 9 := i1
    rw [if_neg (by decide), if_neg (by decide), if_neg (by decide), if_neg (by decide), newT_5 i0 (by omega)]
theorem enc_new {D : Tm} {k : Int} (k0 : 0 ≤ k) (k1 : k < D 15 0) : encS (newT D) k = encD D k := by
  unfold encS encD
  rw [newT_12 k0 k1, newT_13 k0 k1]
theorem way_new {D : Tm} (hR : IR D) (hn : 0 ≤ D 11 7 ∧ D 11 7 ≤ 6) {a b : Int} (ha : 0 ≤ a ∧ a < 6) (hb : 0 ≤ b ∧ b < 6) : wayS (newT D) a b = wK (D 11 7).toNat (wz (fun i => D 2 (36 + i))) a b := by
  unfold wayS
  rw [newT_3 ha hb]
  have on : wOn (((D 11 7).toNat : Nat) : Int) (wz (fun i => D 2 (36 + i))) := by
    refine ⟨fun i => if_pos rfl, fun i j => ?_, fun i j hij h => ?_⟩
    · unfold wz
      split
      · omega
      · split <;> omega
    · unfold wz
      rw [if_neg hij]
      refine if_neg (fun z => ?_)
      obtain ⟨⟨⟨i0, i1⟩, j0, j1⟩, p⟩ := z
      have r := hR i j i0 i1 j0 j1 (by omega)
      have e : D 2 (36 + (6 * i + j)) = D 2 (36 + 6 * i + j) := by
        congr 1
        omega
      have p : 0 < D 2 (36 + (6 * i + j)) := p
      rw [e, r] at p
      omega
  have c := wK_cut (n := (D 11 7).toNat) (m := 6 - (D 11 7).toNat) on
  rw [show (D 11 7).toNat + (6 - (D 11 7).toNat) = 6 by omega] at c
  rw [c]
/-- what games are known by, once the ways stand -/
theorem GS_new {U : Um} {T D : Tm} {x : Nat} (hx : x = 4 ∨ x = 5) (hp : PW U x) (hN : IN D) (hR : IR D) (hd : CD U D x) (hT : T = newT D) (hw : WM U (x + 2) (D 11 7) (wK (D 11 7).toNat (wz (fun i => D 2 (36 + i))))) : GS U T x := by
  have n := hN.1
  subst hT
  have e3 : newT D 11 3 = D 11 10 := newT_11 (by decide) (by decide)
  have e4 : newT D 11 4 = D 11 11 := newT_11 (by decide) (by decide)
  have e0 : newT D 11 0 = D 11 7 := newT_11 (by decide) (by decide)
  refine ⟨hx, hp, by rw [e3]; exact hd.1.2.1, by rw [e4]; exact hd.1.2.2.1, fun g hg k hk => ?_, fun a b ha hb => ?_⟩
  · have h1 : g < D 11 10 := by rw [← e3]; exact hg.2
    rw [gm_new hg.1 (by omega) hk]
    exact hd.2.2.2.1 g hg.1 h1 k hk
  · have a1 : a < D 11 7 := by rw [← e0]; exact ha.2
    have b1 : b < D 11 7 := by rw [← e0]; exact hb.2
    rw [way_new hR ⟨n.1.1, n.1.2⟩ ⟨ha.1, by omega⟩ ⟨hb.1, by omega⟩]
    exact hw a b ha.1 a1 hb.1 b1
/-- all that was told -/
theorem CW_new {U : Um} {T D : Tm} {x : Nat} (hN : IN D) (hR : IR D) (hd : CD U D x) (hT : T = newT D) (hf : uI U (x + 2) 0 = jI (D 11 7)) (hG : GS U T x) (hD : CWd U T x) (hB : gBits U T x (T 11 3)) : CW U T x := by
  have n := hN.1
  subst hT
  have e11 : ∀ i, 0 ≤ i → i < 7 → newT D 11 i = D 11 (7 + i) := fun i i0 i1 => newT_11 i0 i1
  refine ⟨⟨fun k k0 k1 => ?_, ?_, ?_, ?_⟩, fun s i s0 s1 i0 i1 => ?_, fun o ho => ?_, fun g hg => ⟨hG.2.2.2.2.1 g hg, fun h h0 h1 => hB g hg.1 hg.2 h h0 h1⟩, ⟨?_, fun a b ha hb => ⟨?_, hG.2.2.2.2.2 a b ha hb⟩⟩, ⟨?_, fun k k0 k1 => ?_⟩, hD⟩
  · rw [e11 k k0 (by omega)]; exact hd.1.1 k k0 k1
  · rw [e11 3 (by decide) (by decide)]; exact hd.1.2.1
  · rw [e11 4 (by decide) (by decide)]; exact hd.1.2.2.1
  · rw [e11 5 (by decide) (by decide)]; exact hd.1.2.2.2
  · rw [e11 s s0 (by omega)] at i1
    rw [nm_new hN s0 s1 i0 i1]
    exact hd.2.1 s i s0 s1 i0 i1
  · have o1 : o < D 11 9 := by have := ho.2; rw [e11 2 (by decide) (by decide)] at this; exact this
    have r := hd.2.2.1 o ho.1 o1
    have o10 : o < 10 := by have := n.2.2.1.2; omega
    rw [newT_6 ho.1 o10, newT_7 ho.1 o10, newT_8 ho.1 o10]
    exact ⟨r.2.1, r.2.2.1, r.2.2.2⟩
  · rw [e11 0 (by decide) (by decide)]; exact hf
  · have a1 : a < D 11 7 := by have := ha.2; rw [e11 0 (by decide) (by decide)] at this; exact this
    have b1 : b < D 11 7 := by have := hb.2; rw [e11 0 (by decide) (by decide)] at this; exact this
    have r := hd.2.2.2.2.1 a b ha.1 (by omega) hb.1 (by omega)
    rw [newT_2 (by have := ha.1; have := hb.1; omega) (by omega), r]
    congr 2
    omega
  · rw [newT_14]; exact hd.2.2.2.2.2.1
  · rw [newT_14] at k1
    rw [enc_new k0 k1]
    exact hd.2.2.2.2.2.2 k k0 k1
/-- the roster is opened -/
abbrev P42 (o k : Nat) : Prop := o = 42 ∧ 1 ≤ k ∧ k ≤ 7
theorem xl_open12 {U0 : Um} {post K : Um → Prop} (hK : ∀ V : Um, fX P42 U0 V → (∀ j : Nat, j < 48 → uA V 42 2 j = -1 ∧ uA V 42 3 j = -1) → uI V 42 1 = uI U0 42 1 → K V) : ∀ (fu : Nat) (a : Int) (U : Um), fX P42 U0 U → (∀ j : Nat, (j : Int) < a → uA U 42 2 j = -1 ∧ uA U 42 3 j = -1) → uI U 42 1 = uI U0 42 1 → 0 ≤ a → a ≤ 48 → (48 - a).toNat < fu → w_X6_open_L12 42 post K fu (jI a) U := by
  intro fu
  induction fu with
  | zero => intro a U _ _ _ _ _ h; exact absurd h (Nat.not_lt_zero _)
  | succ fu ih =>
    intro a U hF hr h1 a0 a1 hf
    show b_X6_open_L12 42 post K (w_X6_open_L12 42 post K fu) (jI a) U
    unfold b_X6_open_L12
    have va : ∀ _ : a < 48, vp_in (jI a) 48 := fun q => jvp a rfl a0 q (by decide)
    refine br_le 48 a rfl rfl ⟨by decide, by decide⟩ ⟨by omega, by omega⟩ (fun q => hK U hF (fun j hj => hr j (by omega)) h1) (fun q => ⟨va q, fun U3 e3 => ⟨va q, fun U4 e4 y hy => ?_⟩⟩)
    rw [jI_nat a0 (by omega)] at e3 e4
    have f4 : fX P42 U U4 := by rw [e4, e3]; exact fX_trans (fX_sA ⟨rfl, by decide, by decide⟩) (fX_sA ⟨rfl, by decide, by decide⟩)
    rw [hy, show jI a + 1 = jI (a + 1) from jadd rfl rfl]
    refine ih (a + 1) U4 (fX_trans hF f4) (fun j hj => ?_) (by rw [e4, e3]; exact h1) (by omega) (by omega) (by omega)
    have r2 : uA U4 42 2 = va_up (uA U 42 2) a.toNat (-1) := by rw [e4, uA_sA, if_neg (by decide), e3, uA_sA, if_pos ⟨rfl, rfl⟩]
    have r3 : uA U4 42 3 = va_up (uA U 42 3) a.toNat (-1) := by rw [e4, uA_sA, if_pos ⟨rfl, rfl⟩, e3, uA_sA, if_neg (by decide)]
    rw [r2, r3]
    unfold va_up
    by_cases z : j = a.toNat
    · rw [if_pos z, if_pos z]
      exact ⟨rfl, rfl⟩
    · rw [if_neg z, if_neg z]
      exact hr j (by omega)
theorem xl_open43 {x : Nat} {G : Nat → Int32} (hx : x = 4 ∨ x = 5) {U0 : Um} {post K : Um → Prop} (hK : ∀ V : Um, fX P42 U0 V → (∀ j : Nat, j < 10 → uA V 42 4 j = G j ∧ uF V 42 5 j = 1112014848 ∧ uA V 42 6 j = 0 ∧ uA V 42 7 j = 0) → (uI V 42 1 = uI U0 42 1 ∧ uA V 42 2 = uA U0 42 2 ∧ uA V 42 3 = uA U0 42 3) → K V) : ∀ (fu : Nat) (a : Int) (U : Um), uR U 42 0 = x → (∀ j : Nat, j < 10 → uA U x 2 j = G j) → fX P42 U0 U → (∀ j : Nat, (j : Int) < a → uA U 42 4 j = G j ∧ uF U 42 5 j = 1112014848 ∧ uA U 42 6 j = 0 ∧ uA U 42 7 j = 0) → (uI U 42 1 = uI U0 42 1 ∧ uA U 42 2 = uA U0 42 2 ∧ uA U 42 3 = uA U0 42 3) → 0 ≤ a → a ≤ 10 → (10 - a).toNat < fu → w_X6_open_L43 42 post K fu (jI a) U := by
  intro fu
  induction fu with
  | zero => intro a U _ _ _ _ _ _ _ h; exact absurd h (Nat.not_lt_zero _)
  | succ fu ih =>
    intro a U hp hG hF hr h1 a0 a1 hf
    show b_X6_open_L43 42 post K (w_X6_open_L43 42 post K fu) (jI a) U
    unfold b_X6_open_L43
    refine br_le 10 a rfl rfl ⟨by decide, by decide⟩ ⟨by omega, by omega⟩ (fun q => hK U hF (fun j hj => hr j (by omega)) h1) (fun q => ?_)
    have va : vp_in (jI a) 10 := jvp a rfl a0 q (by decide)
    have ta : Int32.toNatClampNeg (jI a) = a.toNat := jI_nat a0 (by omega)
    rw [hp, ta]
    refine ⟨oc_w hx, va, va, fun U8 e8 => ⟨va, fun U9 e9 => ⟨va, fun Ua ea => ⟨va, fun Ub eb y hy => ?_⟩⟩⟩⟩
    have fb : fX P42 U Ub := by rw [eb, ea, e9, e8]; exact fX_trans (fX_trans (fX_trans (fX_sA ⟨rfl, by decide, by decide⟩) (fX_sF ⟨rfl, by decide, by decide⟩)) (fX_sA ⟨rfl, by decide, by decide⟩)) (fX_sA ⟨rfl, by decide, by decide⟩)
    have r4 : uA Ub 42 4 = va_up (uA U 42 4) a.toNat (uA U x 2 a.toNat) := by rw [eb, uA_sA, if_neg (by decide), ea, uA_sA, if_neg (by decide), e9, uA_sF, e8, uA_sA, if_pos ⟨rfl, rfl⟩]
    have r5 : uF Ub 42 5 = va_up (uF U 42 5) a.toNat 1112014848 := by rw [eb, uF_sA, ea, uF_sA, e9, uF_sF, if_pos ⟨rfl, rfl⟩, e8, uF_sA]
    have r6 : uA Ub 42 6 = va_up (uA U 42 6) a.toNat 0 := by rw [eb, uA_sA, if_neg (by decide), ea, uA_sA, if_pos ⟨rfl, rfl⟩, e9, uA_sF, e8, uA_sA, if_neg (by decide)]
    have r7 : uA Ub 42 7 = va_up (uA U 42 7) a.toNat 0 := by rw [eb, uA_sA, if_pos ⟨rfl, rfl⟩, ea, uA_sA, if_neg (by decide), e9, uA_sF, e8, uA_sA, if_neg (by decide)]
    have ro : ∀ k, k = 2 ∨ k = 3 → uA Ub 42 k = uA U 42 k := fun k hk => by rw [eb, uA_sA, if_neg (by omega), ea, uA_sA, if_neg (by omega), e9, uA_sF, e8, uA_sA, if_neg (by omega)]
    rw [hy, show jI a + 1 = jI (a + 1) from jadd rfl rfl]
    refine ih (a + 1) Ub (by rw [fb.1]; exact hp) (fun j hj => by rw [(fb.2.2 x 2 (by omega)).2.2.1]; exact hG j hj) (fX_trans hF fb) (fun j hj => ?_) ⟨by rw [eb, ea, e9, e8]; exact h1.1, by rw [ro 2 (Or.inl rfl)]; exact h1.2.1, by rw [ro 3 (Or.inr rfl)]; exact h1.2.2⟩ (by omega) (by omega) (by omega)
    rw [r4, r5, r6, r7]
    unfold va_up
    by_cases z : j = a.toNat
    · rw [if_pos z, if_pos z, if_pos z, if_pos z, z]
      exact ⟨hG a.toNat (by omega), rfl, rfl, rfl⟩
    · rw [if_neg z, if_neg z, if_neg z, if_neg z]
      exact hr j (by omega)
/-- what was told is sound -/
theorem dep_new {D : Tm} : ∀ n : Nat, (n : Int) ≤ D 15 0 → depN (newT D) n = dd D n := by
  intro n
  induction n with
  | zero => intro _; rfl
  | succ n ih =>
    intro h
    show (if newT D 13 (n : Int) ≤ 1 then depN (newT D) n + 1 else depN (newT D) n - 1) = (if D 13 (1300 + n) ≤ 1 then dd D n + 1 else dd D n - 1)
    rw [newT_13 (by omega) (by omega), ih (by omega)]
theorem wz_on {R : Int → Int} : wOn 6 (wz R) := by
  refine ⟨fun i => if_pos rfl, fun i j => ?_, fun i j hij h => ?_⟩
  · unfold wz
    split
    · omega
    · split <;> omega
  · unfold wz
    rw [if_neg hij, if_neg (fun z => by have := z.1; omega)]
theorem wK_on {R : Int → Int} : wOn 6 (wK 6 (wz R)) := itr_inv (n := 6) (P := wOn 6) (fun _ _ _ _ q => wA_on q) 6 0 (wz R) (by decide) (by decide) wz_on
theorem I0_new {D : Tm} (hn : D 11 7 ≤ 6) : I0 (newT D) := fun a ha => by
  have a1 : a < D 11 7 := by
    have := ha.2
    rw [newT_11 (by decide) (by decide)] at this
    exact this
  unfold wayS
  rw [newT_3 ⟨ha.1, by omega⟩ ⟨ha.1, by omega⟩]
  exact wK_on.1 a
theorem I1_new {D : Tm} {f : Int} (h : ID D f) (hl : D 15 0 ≤ 1200) : I1 (newT D) := by
  obtain ⟨hN, hC, hR, hg, ho, hL, _, w1, w2⟩ := h
  have n := hN.1
  have a0 : newT D 11 0 = D 11 7 := newT_11 (by decide) (by decide)
  have a1 : newT D 11 1 = D 11 8 := newT_11 (by decide) (by decide)
  have a2 : newT D 11 2 = D 11 9 := newT_11 (by decide) (by decide)
  have a3 : newT D 11 3 = D 11 10 := newT_11 (by decide) (by decide)
  have a4 : newT D 11 4 = D 11 11 := newT_11 (by decide) (by decide)
  have a5 : newT D 11 5 = D 11 12 := newT_11 (by decide) (by decide)
  have a6 : newT D 11 6 = D 11 13 := newT_11 (by decide) (by decide)
  have hL0 := hL.1
  refine ⟨?_, fun g hg' => ?_, fun i i0 i1 => ?_, fun o ho' => ?_, ⟨fun i i0 i1 => ?_, fun i i0 i1 => ?_, fun i i0 i1 => ?_⟩, ?_, fun k k0 k1 => ?_, fun q => ?_, fun q => ?_⟩
  · rw [a0, a1, a2, a3, a4, a5, a6]
    exact ⟨n.1, n.2.1, n.2.2.1, n.2.2.2, hC⟩
  · have g1 : g < D 11 10 := by rw [← a3]; exact hg'.2
    have r := hg g hg'.1 g1
    have e : ∀ k : Nat, k < 8 → gm (newT D) g k = gD D g k := fun k hk => gm_new hg'.1 (by omega) hk
    have e0 : gm (newT D) g 0 = gD D g 0 := e 0 (by decide)
    have e1 : gm (newT D) g 1 = gD D g 1 := e 1 (by decide)
    have e2 : gm (newT D) g 2 = gD D g 2 := e 2 (by decide)
    have e3 : gm (newT D) g 3 = gD D g 3 := e 3 (by decide)
    have e4 : gm (newT D) g 4 = gD D g 4 := e 4 (by decide)
    have e5 : gm (newT D) g 5 = gD D g 5 := e 5 (by decide)
    have e6 : gm (newT D) g 6 = gD D g 6 := e 6 (by decide)
    have e7 : gm (newT D) g 7 = gD D g 7 := e 7 (by decide)
    unfold gOk
    rw [e0, e1, e2, e3, e4, e5, e6, e7, a0, a1]
    exact r
  · have r3 : newT D 3 i = wK 6 (wz (fun i => D 2 (36 + i))) (i / 6) (i % 6) := by
      rw [← newT_3 (D := D) (a := i / 6) (b := i % 6) (by omega) (by omega)]
      congr 1
      omega
    have b := wK_le (w := wz (fun i => D 2 (36 + i))) (wz_b2 (fun j j0 j1 => hR (36 + j) (by omega) (by omega))) (i / 6) (i % 6)
    rw [r3, newT_2 i0 i1]
    have r2 := hR (36 + i) (by omega) (by omega)
    omega
  · have o1 : o < D 11 9 := by rw [← a2]; exact ho'.2
    have o10 : o < 10 := by omega
    have r := ho o ho'.1 o1
    rw [newT_6 ho'.1 o10, newT_7 ho'.1 o10, newT_8 ho'.1 o10, a0]
    exact ⟨r.1, r.2.1, r.2.2.1⟩
  · rw [a0] at i1
    rw [newT_1 i0 (by omega)]
    exact hN.2.1 i i0 i1
  · rw [a1] at i1
    rw [newT_4 i0 (by omega)]
    exact hN.2.2.1 i i0 i1
  · rw [a2] at i1
    rw [newT_5 i0 (by omega)]
    exact hN.2.2.2 i i0 i1
  · rw [newT_14]
    exact ⟨hL0, hl⟩
  · rw [newT_14] at k1
    have s := hL.2 k.toNat (by omega)
    unfold stp at s
    rw [Int.toNat_of_nonneg k0] at s
    have d : dep (newT D) k = dd D k.toNat := dep_new k.toNat (by omega)
    unfold lStep
    rw [d, newT_13 k0 k1, newT_12 k0 k1]
    exact s
  · rw [a6] at q
    rw [newT_14]
    exact w1 (by omega)
  · rw [a6] at q
    rw [newT_14]
    have d : dep (newT D) (D 15 0) = dd D (D 15 0).toNat := dep_new (D 15 0).toNat (by omega)
    rw [d]
    exact w2 q
theorem I2_new {D : Tm} {f : Int} (h : ID D f) : I2 (newT D) := by
  have n := h.1.1
  have a2 : newT D 11 2 = D 11 9 := newT_11 (by decide) (by decide)
  have a3 : newT D 11 3 = D 11 10 := newT_11 (by decide) (by decide)
  have w : ∀ k, 0 ≤ k → k < 48 → newT D 30 k = -1 := fun k k0 k1 => newT_30 k0 k1
  refine ⟨fun k k0 k1 => Or.inl (w k k0 k1), fun g s t hs ht _ => Or.inl ?_, fun k k0 k1 => ?_, fun o ho => ?_, ?_⟩
  · have g1 : g < D 11 10 := by rw [← a3]; exact hs.1.2
    have s2 := hs.2
    have e7 : gm (newT D) g 7 = gD D g 7 := gm_new (k := 7) hs.1.1 (by omega) (by decide)
    have r := (h.2.2.2.1 g hs.1.1 g1).2.2.2.2.2.2.2
    rw [e7] at s2
    exact w _ (by have := hs.1.1; omega) (by omega)
  · rw [newT_31 k0 k1]
    decide
  · have o1 : o < D 11 9 := by rw [← a2]; exact ho.2
    have o10 : o < 10 := by omega
    have r := h.2.2.2.2.1 o ho.1 o1
    rw [newT_32 ho.1 o10, newT_33 ho.1 o10]
    exact ⟨r.2.2.2, by decide, by decide⟩
  · rw [newT_35]
    decide
