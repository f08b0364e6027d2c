/-! the class: terms and sums of the law -/
theorem f_lterm {T : Tm} {x : Nat} {rec : Nat → Int32 → Um → (Um → Prop) → Prop} {a : Int32} {U : Um} {k p : Int} (h : CF U T x k p) {post K : Um → Prop} (hK : K U) {fu : Nat} {i : Int32} : w_X4_readTerm_L7 rec 2 a post K (fu + 1) i U := by
  show b_X4_readTerm_L7 rec 2 a post K (w_X4_readTerm_L7 rec 2 a post K fu) i U
  exact ⟨fun _ => hK, fun _ => fl_F h hK⟩
theorem xl_term {T : Tm} {x : Nat} {rec : Nat → Int32 → Um → (Um → Prop) → Prop} {b : Int} {a : Int32} {item : Tm → Int → PR} (hi : itOk T item (b + 1)) (hr : rowC T x item (fun U post => b_X4_readAtom rec 2 a U post) (b + 1)) {D0 : Tm} {f0 : Int} (hN0 : IN D0) (z0 : 0 ≤ f0) (hd : 0 ≤ dd D0 (D0 15 0).toNat ∧ dd D0 (D0 15 0).toNat ≤ b) (hn0 : 0 ≤ D0 15 0 ∧ D0 15 0 ≤ f0) {U0 : Um} {post K : Um → Prop} (r : PR) (hE : ∀ (k p : Int) (V : Um), r = .error (k, p) → CF V T x k p → fX (PX x) U0 V → K V) (hK : ∀ (D : Tm) (f : Int) (V : Um), r = .ok (D, f) → CQ V T D x f → fX (PX x) U0 V → K V) : ∀ (fu : Nat) (i : Int) (D : Tm) (f : Int) (U : Um), CQ U T D x f → LR D0 f0 (D, f) → f0 ≤ f → fX (PX x) U0 U → 0 ≤ i → i ≤ 1200 → i ≤ f → r = chR T item 42 47 (1300 - i).toNat D f → (1200 - i).toNat + 1 < fu → w_X4_readTerm_L7 rec 2 a post K fu (jI i) U := by
  intro fu
  induction fu with
  | zero => intro i D f U _ _ _ _ _ _ _ _ h; exact absurd h (Nat.not_lt_zero _)
  | succ fu ih =>
    intro i D f U hQ hL ff hF i0 i1 ig hrr hf
    obtain ⟨fu, rfl⟩ : ∃ k, fu = k + 1 := ⟨fu - 1, by omega⟩
    show b_X4_readTerm_L7 rec 2 a post K (w_X4_readTerm_L7 rec 2 a post K (fu + 1)) (jI i) U
    unfold b_X4_readTerm_L7
    have fb := CQ_f hQ
    have ht := CQ_it hQ
    have t := ht.1
    have c := hQ.1
    have sb := see_b ht (i := f) fb.1
    have rg : r32 (sgS T f) := by
      unfold sgS tsS
      split
      · exact ⟨by omega, by omega⟩
      · exact ⟨by decide, by decide⟩
    have er : chR T item 42 47 (1300 - i).toNat D f = if sgS T f = 42 ∨ sgS T f = 47 then (match item D (nx T f) with
        | .error e => .error e
        | .ok p => chR T item 42 47 (1300 - (i + 1)).toNat (putD p.1 (sgS T f) 0) p.2) else .ok (D, f) := by
      rw [show (1300 - i).toNat = (1300 - (i + 1)).toNat + 1 by omega]
      rfl
    rw [er] at hrr
    obtain ⟨a1, a2, a3, a4, a5, a6⟩ := hL
    have a1 : LI D := a1
    have a2 : dd D (D 15 0).toNat = dd D0 (D0 15 0).toNat + 1 := a2
    have a3 : D0 15 0 < D 15 0 := a3
    have a4 : D 15 0 - D0 15 0 ≤ f - f0 := a4
    have a6 : ∀ k, k ≠ 12 → k ≠ 13 → k ≠ 15 → D k = D0 k := a6
    have hN : IN D := IN_eq a6 hN0
    have hb : BD D := ⟨hN, by omega, by omega⟩
    have out : ¬ (sgS T f = 42 ∨ sgS T f = 47) → K U := fun q => by
      rw [if_neg q] at hrr
      exact hK D f U hrr hQ hF
    refine br_le 1200 i rfl rfl ⟨by decide, by decide⟩ ⟨by omega, by omega⟩ (fun q => out ?_) (fun q => fl_Q hQ ⟨b_0 c, ?_⟩)
    · have ke := (cd_end (T := T) (g := f) (by omega)).1
      have : sgS T f = -1 := by unfold sgS; rw [if_neg (by omega)]
      omega
    intro K4 hK4
    have go : (sgS T f = 42 ∨ sgS T f = 47) → K4 := fun s => hK4 ⟨b_0 c, fun xs hxs => ⟨b_0 c, ?_⟩⟩
    · exact br_eq (sgS T f) 42 (CQ_sg hQ) rfl rg ⟨by decide, by decide⟩ (fun q => go (Or.inl q)) (fun q => ⟨b_0 c, br_eq (sgS T f) 47 (CQ_sg hQ) rfl rg ⟨by decide, by decide⟩ (fun q2 => go (Or.inr q2)) (fun q2 => out (fun z => z.elim q q2))⟩)
    rw [if_pos s] at hrr
    have exs : xs = jI (enS (sgS T f) 0) := by
      rw [CQ_sg hQ] at hxs
      rcases s with s | s
      · rw [s] at hxs ⊢
        rw [hxs]
        decide
      · rw [s] at hxs ⊢
        rw [hxs]
        decide
    have nb := (nx_b ht (f := f) fb.1 (by omega)).2.2 (by rcases s with s | s <;> (rw [sg_t s (by decide)]; decide))
    refine x_next hQ hb c.2.1 (fun V qV fV _ => ?_)
    have fV : fX (PX x) U0 V := fX_trans hF (tX (fX_w (fun o k q => PV_t q) fV))
    refine hr V D (nx T f) _ qV hN a1 (by omega) (by omega) (ResC_w (fun k p W eW fW oW => ?_) (fun E g W eW qW oW => ?_))
    · rw [eW] at hrr
      have cW := fW.1
      have lw : uR W (uR W 2 1) 11 = x + 4 := by rw [cW.2.2.1]; exact cW.2.2.2.1.2.1
      refine ⟨b_n cW, b_1 cW, oc_of lw (oc_l cW.1), f_addL fW lw (fun Z fZ oZ y hy => f_lterm fZ (hE k p Z hrr fZ (fX_trans fV (fX_trans oW oZ))))⟩
    · rw [eW] at hrr
      have hrr : r = chR T item 42 47 (1300 - (i + 1)).toNat (putD E (sgS T f) 0) g := hrr
      have cW := qW.1
      have fW := CQ_f qW
      have lw := (CQ_r qW cW.2.2.1).2
      obtain ⟨b1, b2, b3, b4, b5, b6⟩ := hi D (nx T f) (E, g) (by omega) (by omega) a1 (by omega) eW
      have b1 : LI E := b1
      have b2 : dd E (E 15 0).toNat = dd D (D 15 0).toNat + 1 := b2
      have b3 : D 15 0 < E 15 0 := b3
      have b4 : E 15 0 - D 15 0 ≤ g - nx T f := b4
      have b6 : ∀ k, k ≠ 12 → k ≠ 13 → k ≠ 15 → E k = D k := b6
      have hs : (sgS T f = 43 ∨ sgS T f = 45 ∨ sgS T f = 42 ∨ sgS T f = 47) := by omega
      obtain ⟨g1, g2⟩ := pt_LI (s := sgS T f) (v := 0) b1 (Or.inr (Or.inr ⟨hs, by omega⟩))
      rw [if_neg (by omega)] at g2
      refine ⟨b_n cW, b_1 cW, oc_of lw (oc_l cW.1), x_addL qW (s := sgS T f) (v := 0) ⟨by omega, by omega⟩ lw exs (fun Z qZ oZ y hy => ?_)⟩
      rw [hy, show jI i + 1 = jI (i + 1) from jadd rfl rfl]
      refine ih (i + 1) (putD E (sgS T f) 0) g Z qZ ⟨g1, ?_, ?_, ?_, by show g ≤ 1201; omega, fun k u v w => ?_⟩ (by omega) (fX_trans fV (fX_trans oW oZ)) (by omega) (by omega) (by omega) hrr (by omega)
      · show dd (putD E (sgS T f) 0) (putD E (sgS T f) 0 15 0).toNat = _
        rw [g2]; omega
      · show D0 15 0 < putD E (sgS T f) 0 15 0
        rw [pt_15]; omega
      · show putD E (sgS T f) 0 15 0 - D0 15 0 ≤ g - f0
        rw [pt_15]; omega
      · show putD E (sgS T f) 0 k = D0 k
        rw [pt_k u v w, b6 k u v w]
        exact a6 k u v w
theorem p_termC {T : Tm} {x : Nat} {rec : Nat → Int32 → Um → (Um → Prop) → Prop} {b : Int} {a : Int32} {item : Tm → Int → PR} (hi : itOk T item (b + 1)) (hr : rowC T x item (fun U post => b_X4_readAtom rec 2 a U post) (b + 1)) : rowC T x (seqR T item 42 47) (fun U post => b_X4_readTerm rec 2 a U post) b := by
  intro U D f post hQ hN hL hn hd h
  show b_X4_readTerm rec 2 a U post
  unfold b_X4_readTerm
  unfold seqR at h
  have fb := CQ_f hQ
  refine hr U D f _ hQ hN hL hn (by omega) (ResC_w (fun k p V e fV oV => ⟨1, f_lterm fV ?_⟩) (fun E g V e qV oV => ?_))
  · rw [e] at h
    exact ResC_e h fV oV
  · have lr := hi D f (E, g) fb.1 (by omega) hL (by omega) e
    rw [e] at h
    have h : ResC U T x (chR T item 42 47 1300 E g) post := h
    have fV := CQ_f qV
    have l3 : D 15 0 < E 15 0 := lr.2.2.1
    have l4 : E 15 0 - D 15 0 ≤ g - f := lr.2.2.2.1
    refine ⟨(1200 - 0 : Int).toNat + 3, xl_term hi hr hN fb.1 ⟨dd_pos hL _ (by rw [Int.toNat_of_nonneg hL.1]; omega), hd⟩ ⟨hL.1, hn⟩ (U0 := V) (chR T item 42 47 1300 E g) (fun k p W eW fW oW => ?_) (fun E2 g2 W eW qW oW => ?_) _ 0 E g V qV lr (by omega) fX_rfl (by decide) (by decide) fV.1 rfl (by decide)⟩
    · rw [eW] at h
      exact ResC_e h fW (fX_trans oV oW)
    · rw [eW] at h
      exact ResC_k h qW (fX_trans oV oW)
theorem f_lsum {T : Tm} {x : Nat} {rec : Nat → Int32 → Um → (Um → Prop) → Prop} {a : Int32} {U : Um} {k p : Int} (h : CF U T x k p) {post K : Um → Prop} (hK : K U) {fu : Nat} {i : Int32} : w_X4_readSum_L7 rec 2 a post K (fu + 1) i U := by
  show b_X4_readSum_L7 rec 2 a post K (w_X4_readSum_L7 rec 2 a post K fu) i U
  exact ⟨fun _ => hK, fun _ => fl_F h hK⟩
theorem xl_sum {T : Tm} {x : Nat} {rec : Nat → Int32 → Um → (Um → Prop) → Prop} {b : Int} {a : Int32} {item : Tm → Int → PR} (hi : itOk T item (b + 1)) (hr : rowC T x item (fun U post => b_X4_readTerm rec 2 a U post) (b + 1)) {D0 : Tm} {f0 : Int} (hN0 : IN D0) (z0 : 0 ≤ f0) (hd : 0 ≤ dd D0 (D0 15 0).toNat ∧ dd D0 (D0 15 0).toNat ≤ b) (hn0 : 0 ≤ D0 15 0 ∧ D0 15 0 ≤ f0) {U0 : Um} {post K : Um → Prop} (r : PR) (hE : ∀ (k p : Int) (V : Um), r = .error (k, p) → CF V T x k p → fX (PX x) U0 V → K V) (hK : ∀ (D : Tm) (f : Int) (V : Um), r = .ok (D, f) → CQ V T D x f → fX (PX x) U0 V → K V) : ∀ (fu : Nat) (i : Int) (D : Tm) (f : Int) (U : Um), CQ U T D x f → LR D0 f0 (D, f) → f0 ≤ f → fX (PX x) U0 U → 0 ≤ i → i ≤ 1200 → i ≤ f → r = chR T item 43 45 (1300 - i).toNat D f → (1200 - i).toNat + 1 < fu → w_X4_readSum_L7 rec 2 a post K fu (jI i) U := by
  intro fu
  induction fu with
  | zero => intro i D f U _ _ _ _ _ _ _ _ h; exact absurd h (Nat.not_lt_zero _)
  | succ fu ih =>
    intro i D f U hQ hL ff hF i0 i1 ig hrr hf
    obtain ⟨fu, rfl⟩ : ∃ k, fu = k + 1 := ⟨fu - 1, by omega⟩
    show b_X4_readSum_L7 rec 2 a post K (w_X4_readSum_L7 rec 2 a post K (fu + 1)) (jI i) U
    unfold b_X4_readSum_L7
    have fb := CQ_f hQ
    have ht := CQ_it hQ
    have t := ht.1
    have c := hQ.1
    have sb := see_b ht (i := f) fb.1
    have rg : r32 (sgS T f) := by
      unfold sgS tsS
      split
      · exact ⟨by omega, by omega⟩
      · exact ⟨by decide, by decide⟩
    have er : chR T item 43 45 (1300 - i).toNat D f = if sgS T f = 43 ∨ sgS T f = 45 then (match item D (nx T f) with
        | .error e => .error e
        | .ok p => chR T item 43 45 (1300 - (i + 1)).toNat (putD p.1 (sgS T f) 0) p.2) else .ok (D, f) := by
      rw [show (1300 - i).toNat = (1300 - (i + 1)).toNat + 1 by omega]
      rfl
    rw [er] at hrr
    obtain ⟨a1, a2, a3, a4, a5, a6⟩ := hL
    have a1 : LI D := a1
    have a2 : dd D (D 15 0).toNat = dd D0 (D0 15 0).toNat + 1 := a2
    have a3 : D0 15 0 < D 15 0 := a3
    have a4 : D 15 0 - D0 15 0 ≤ f - f0 := a4
    have a6 : ∀ k, k ≠ 12 → k ≠ 13 → k ≠ 15 → D k = D0 k := a6
    have hN : IN D := IN_eq a6 hN0
    have hb : BD D := ⟨hN, by omega, by omega⟩
    have out : ¬ (sgS T f = 43 ∨ sgS T f = 45) → K U := fun q => by
      rw [if_neg q] at hrr
      exact hK D f U hrr hQ hF
    refine br_le 1200 i rfl rfl ⟨by decide, by decide⟩ ⟨by omega, by omega⟩ (fun q => out ?_) (fun q => fl_Q hQ ⟨b_0 c, ?_⟩)
    · have ke := (cd_end (T := T) (g := f) (by omega)).1
      have : sgS T f = -1 := by unfold sgS; rw [if_neg (by omega)]
      omega
    intro K4 hK4
    have go : (sgS T f = 43 ∨ sgS T f = 45) → K4 := fun s => hK4 ⟨b_0 c, fun xs hxs => ⟨b_0 c, ?_⟩⟩
    · exact br_eq (sgS T f) 43 (CQ_sg hQ) rfl rg ⟨by decide, by decide⟩ (fun q => go (Or.inl q)) (fun q => ⟨b_0 c, br_eq (sgS T f) 45 (CQ_sg hQ) rfl rg ⟨by decide, by decide⟩ (fun q2 => go (Or.inr q2)) (fun q2 => out (fun z => z.elim q q2))⟩)
    rw [if_pos s] at hrr
    have exs : xs = jI (enS (sgS T f) 0) := by
      rw [CQ_sg hQ] at hxs
      rcases s with s | s
      · rw [s] at hxs ⊢
        rw [hxs]
        decide
      · rw [s] at hxs ⊢
        rw [hxs]
        decide
    have nb := (nx_b ht (f := f) fb.1 (by omega)).2.2 (by rcases s with s | s <;> (rw [sg_t s (by decide)]; decide))
    refine x_next hQ hb c.2.1 (fun V qV fV _ => ?_)
    have fV : fX (PX x) U0 V := fX_trans hF (tX (fX_w (fun o k q => PV_t q) fV))
    refine hr V D (nx T f) _ qV hN a1 (by omega) (by omega) (ResC_w (fun k p W eW fW oW => ?_) (fun E g W eW qW oW => ?_))
    · rw [eW] at hrr
      have cW := fW.1
      have lw : uR W (uR W 2 1) 11 = x + 4 := by rw [cW.2.2.1]; exact cW.2.2.2.1.2.1
      refine ⟨b_n cW, b_1 cW, oc_of lw (oc_l cW.1), f_addL fW lw (fun Z fZ oZ y hy => f_lsum fZ (hE k p Z hrr fZ (fX_trans fV (fX_trans oW oZ))))⟩
    · rw [eW] at hrr
      have hrr : r = chR T item 43 45 (1300 - (i + 1)).toNat (putD E (sgS T f) 0) g := hrr
      have cW := qW.1
      have fW := CQ_f qW
      have lw := (CQ_r qW cW.2.2.1).2
      obtain ⟨b1, b2, b3, b4, b5, b6⟩ := hi D (nx T f) (E, g) (by omega) (by omega) a1 (by omega) eW
      have b1 : LI E := b1
      have b2 : dd E (E 15 0).toNat = dd D (D 15 0).toNat + 1 := b2
      have b3 : D 15 0 < E 15 0 := b3
      have b4 : E 15 0 - D 15 0 ≤ g - nx T f := b4
      have b6 : ∀ k, k ≠ 12 → k ≠ 13 → k ≠ 15 → E k = D k := b6
      have hs : (sgS T f = 43 ∨ sgS T f = 45 ∨ sgS T f = 42 ∨ sgS T f = 47) := by omega
      obtain ⟨g1, g2⟩ := pt_LI (s := sgS T f) (v := 0) b1 (Or.inr (Or.inr ⟨hs, by omega⟩))
      rw [if_neg (by omega)] at g2
      refine ⟨b_n cW, b_1 cW, oc_of lw (oc_l cW.1), x_addL qW (s := sgS T f) (v := 0) ⟨by omega, by omega⟩ lw exs (fun Z qZ oZ y hy => ?_)⟩
      rw [hy, show jI i + 1 = jI (i + 1) from jadd rfl rfl]
      refine ih (i + 1) (putD E (sgS T f) 0) g Z qZ ⟨g1, ?_, ?_, ?_, by show g ≤ 1201; omega, fun k u v w => ?_⟩ (by omega) (fX_trans fV (fX_trans oW oZ)) (by omega) (by omega) (by omega) hrr (by omega)
      · show dd (putD E (sgS T f) 0) (putD E (sgS T f) 0 15 0).toNat = _
        rw [g2]; omega
      · show D0 15 0 < putD E (sgS T f) 0 15 0
        rw [pt_15]; omega
      · show putD E (sgS T f) 0 15 0 - D0 15 0 ≤ g - f0
        rw [pt_15]; omega
      · show putD E (sgS T f) 0 k = D0 k
        rw [pt_k u v w, b6 k u v w]
        exact a6 k u v w
theorem p_sumC {T : Tm} {x : Nat} {rec : Nat → Int32 → Um → (Um → Prop) → Prop} {b : Int} {a : Int32} {item : Tm → Int → PR} (hi : itOk T item (b + 1)) (hr : rowC T x item (fun U post => b_X4_readTerm rec 2 a U post) (b + 1)) : rowC T x (seqR T item 43 45) (fun U post => b_X4_readSum rec 2 a U post) b := by
  intro U D f post hQ hN hL hn hd h
  show b_X4_readSum rec 2 a U post
  unfold b_X4_readSum
  unfold seqR at h
  have fb := CQ_f hQ
  refine hr U D f _ hQ hN hL hn (by omega) (ResC_w (fun k p V e fV oV => ⟨1, f_lsum fV ?_⟩) (fun E g V e qV oV => ?_))
  · rw [e] at h
    exact ResC_e h fV oV
  · have lr := hi D f (E, g) fb.1 (by omega) hL (by omega) e
    rw [e] at h
    have h : ResC U T x (chR T item 43 45 1300 E g) post := h
    have fV := CQ_f qV
    have l3 : D 15 0 < E 15 0 := lr.2.2.1
    have l4 : E 15 0 - D 15 0 ≤ g - f := lr.2.2.2.1
    refine ⟨(1200 - 0 : Int).toNat + 3, xl_sum hi hr hN fb.1 ⟨dd_pos hL _ (by rw [Int.toNat_of_nonneg hL.1]; omega), hd⟩ ⟨hL.1, hn⟩ (U0 := V) (chR T item 43 45 1300 E g) (fun k p W eW fW oW => ?_) (fun E2 g2 W eW qW oW => ?_) _ 0 E g V qV lr (by omega) fX_rfl (by decide) (by decide) fV.1 rfl (by decide)⟩
    · rw [eW] at h
      exact ResC_e h fW (fX_trans oV oW)
    · rw [eW] at h
      exact ResC_k h qW (fX_trans oV oW)
theorem p_readSumC {T : Tm} {x : Nat} (ht : It T) : ∀ d : Nat, d ≤ 4 → rowC T x (sumR T d) (fun U post => w_X4_readSum (d + 1) 2 (jI (4 - (d : Int))) U post) (2 * (4 - (d : Int))) := by
  intro d
  induction d with
  | zero =>
    intro _
    have a : rowC T x (atomR T (fun _ f => .error (5, f))) (fun U post => b_X4_readAtom (w_X4_readSum 0) 2 (jI 4) U post) 10 := p_atomC (by decide) (Or.inl ⟨rfl, rfl⟩)
    have a2 : itOk T (atomR T (fun _ f => .error (5, f))) 10 := atom_ok ht (by omega) (fun D f p _ _ _ _ _ h => by cases h)
    exact p_sumC (b := 8) (seq_ok ht (b := 9) a2 (Or.inr ⟨rfl, rfl⟩)) (p_termC (b := 9) a2 a)
  | succ d ih =>
    intro hd
    have h := ih (by omega)
    have h2 := sum_ok ht d (by omega)
    have e1 : (4 : Int) - (d : Int) = 4 - ((d + 1 : Nat) : Int) + 1 := by omega
    have e2 : 2 * ((4 : Int) - (d : Int)) = 2 * (4 - ((d + 1 : Nat) : Int)) + 1 + 1 := by omega
    rw [e2] at h h2
    rw [e1] at h
    have a : rowC T x (atomR T (subR T (sumR T d))) (fun U post => b_X4_readAtom (w_X4_readSum (d + 1)) 2 (jI (4 - ((d + 1 : Nat) : Int))) U post) (2 * (4 - ((d + 1 : Nat) : Int)) + 1 + 1) := p_atomC (by omega) (Or.inr ⟨by omega, _, rfl, h, h2⟩)
    have a2 : itOk T (atomR T (subR T (sumR T d))) (2 * (4 - ((d + 1 : Nat) : Int)) + 1 + 1) := atom_ok ht (by omega) (fun D f p a b c d' e h => sub_ok ht h2 D f p a b c d' e h)
    exact p_sumC (seq_ok ht a2 (Or.inr ⟨rfl, rfl⟩)) (p_termC a2 a)
