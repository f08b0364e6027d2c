/-! the class: what is kept of the past -/
theorem cp_48 : vp_cp 0 0 48 48 48 := by unfold vp_cp; decide
theorem cp_10 : vp_cp 0 0 10 10 10 := by unfold vp_cp; decide
theorem cpy_j {α : Type} {f g : Nat → α} {n j : Nat} (h : j < n) : va_cpy f g 0 0 n j = f j := by
  show (if 0 ≤ j ∧ j < 0 + n then f (0 + (j - 0)) else g j) = f j
  rw [if_pos ⟨Nat.zero_le _, by omega⟩]
  congr 1
  omega
theorem x_copy {U : Um} {a b : Nat} (hab : a ≠ b) {post : Um → Prop} (h : ∀ V : Um, fX (fun o k => o = a ∧ 1 ≤ k ∧ k ≤ 7) U V → uI V a 1 = uI U b 1 → (∀ k j, (k = 2 ∨ k = 3) → j < 48 → uA V a k j = uA U b k j) → (∀ k j, (k = 4 ∨ k = 6 ∨ k = 7) → j < 10 → uA V a k j = uA U b k j) → (∀ j, j < 10 → uF V a 5 j = uF U b 5 j) → post V) : w_X6_copyOf a b U post := by
  unfold w_X6_copyOf
  intro U1 e1
  refine ⟨cp_48, fun U2 e2 => ⟨cp_48, fun U3 e3 => ⟨cp_10, fun U4 e4 => ⟨cp_10, fun U5 e5 => ⟨cp_10, fun U6 e6 => ⟨cp_10, fun U7 e7 => ?_⟩⟩⟩⟩⟩⟩
  have hba : b ≠ a := fun q => hab q.symm
  have A : ∀ k, uA U1 b k = uA U b k ∧ uF U1 b k = uF U b k := fun k => by rw [e1]; exact ⟨rfl, rfl⟩
  have B : ∀ k, uA U2 b k = uA U b k ∧ uF U2 b k = uF U b k := fun k => by rw [e2, uA_sA, if_neg (fun q => hba q.1), uF_sA]; exact A k
  have C : ∀ k, uA U3 b k = uA U b k ∧ uF U3 b k = uF U b k := fun k => by rw [e3, uA_sA, if_neg (fun q => hba q.1), uF_sA]; exact B k
  have D : ∀ k, uA U4 b k = uA U b k ∧ uF U4 b k = uF U b k := fun k => by rw [e4, uA_sA, if_neg (fun q => hba q.1), uF_sA]; exact C k
  have E : ∀ k, uA U5 b k = uA U b k ∧ uF U5 b k = uF U b k := fun k => by rw [e5, uA_sF, uF_sF, if_neg (fun q => hba q.1)]; exact D k
  have F : ∀ k, uA U6 b k = uA U b k ∧ uF U6 b k = uF U b k := fun k => by rw [e6, uA_sA, if_neg (fun q => hba q.1), uF_sA]; exact E k
  refine h U7 ?_ ?_ (fun k j hk hj => ?_) (fun k j hk hj => ?_) (fun j hj => ?_)
  · rw [e7, e6, e5, e4, e3, e2, e1]
    exact fX_trans (fX_sI ⟨rfl, by omega⟩) (fX_trans (fX_sA ⟨rfl, by omega⟩) (fX_trans (fX_sA ⟨rfl, by omega⟩) (fX_trans (fX_sA ⟨rfl, by omega⟩) (fX_trans (fX_sF ⟨rfl, by omega⟩) (fX_trans (fX_sA ⟨rfl, by omega⟩) (fX_sA ⟨rfl, by omega⟩))))))
  · rw [e7, uI_sA, e6, uI_sA, e5, uI_sF, e4, uI_sA, e3, uI_sA, e2, uI_sA, e1, uI_sI, if_pos ⟨rfl, rfl⟩]
  · rcases hk with rfl | rfl
    · rw [e7, uA_sA, if_neg (by omega), e6, uA_sA, if_neg (by omega), e5, uA_sF, e4, uA_sA, if_neg (by omega), e3, uA_sA, if_neg (by omega), e2, uA_sA, if_pos ⟨rfl, rfl⟩, (A 2).1]
      exact cpy_j hj
    · rw [e7, uA_sA, if_neg (by omega), e6, uA_sA, if_neg (by omega), e5, uA_sF, e4, uA_sA, if_neg (by omega), e3, uA_sA, if_pos ⟨rfl, rfl⟩, (B 3).1]
      exact cpy_j hj
  · rcases hk with rfl | rfl | rfl
    · rw [e7, uA_sA, if_neg (by omega), e6, uA_sA, if_neg (by omega), e5, uA_sF, e4, uA_sA, if_pos ⟨rfl, rfl⟩, (C 4).1]
      exact cpy_j hj
    · rw [e7, uA_sA, if_neg (by omega), e6, uA_sA, if_pos ⟨rfl, rfl⟩, (E 6).1]
      exact cpy_j hj
    · rw [e7, uA_sA, if_pos ⟨rfl, rfl⟩, (F 7).1]
      exact cpy_j hj
  · rw [e7, uF_sA, e6, uF_sA, e5, uF_sF, if_pos ⟨rfl, rfl⟩, (D 5).2]
    exact cpy_j hj
theorem CRo_copy {U V : Um} {a b : Nat} {T : Tm} (hI : I1 T) {td : Int} {wh gi gr mk fo : Int → Int} (h1 : uI V a 1 = uI U b 1) (h2 : ∀ k j, (k = 2 ∨ k = 3) → j < 48 → uA V a k j = uA U b k j) (h3 : ∀ k j, (k = 4 ∨ k = 6 ∨ k = 7) → j < 10 → uA V a k j = uA U b k j) (h5 : ∀ j, j < 10 → uF V a 5 j = uF U b 5 j) (h : CRo U b T td wh gi gr mk fo) : CRo V a T td wh gi gr mk fo := by
  have hn := I_n hI
  obtain ⟨r1, r2, r3⟩ := h
  refine ⟨h1.trans r1, fun k k0 k1 => ?_, fun o ho => ?_⟩
  · rw [h2 2 _ (Or.inl rfl) (by omega), h2 3 _ (Or.inr rfl) (by omega)]
    exact r2 k k0 k1
  · have o1 : o.toNat < 10 := by have := ho.1; have := ho.2; omega
    rw [h3 4 _ (Or.inl rfl) o1, h3 6 _ (Or.inr (Or.inl rfl)) o1, h3 7 _ (Or.inr (Or.inr rfl)) o1, h5 _ o1]
    exact r3 o ho
/-- the past, a ring -/
def CPa (U : Um) (T : Tm) : Prop := ∃ old : Int, (0 ≤ old ∧ old < 8) ∧ uI U 0 8 = jI old ∧ uI U 0 9 = jI (T 38 0) ∧ (0 ≤ T 38 0 ∧ T 38 0 ≤ 8) ∧ ∀ i : Int, 0 ≤ i → i < T 38 0 → CRo U (44 + ((old + i) % 8).toNat) T (T 36 (117 * i + 116)) (fun k => T 36 (117 * i + k)) (fun k => T 36 (117 * i + 48 + k)) (fun o => T 36 (117 * i + 96 + o)) (fun o => T 36 (117 * i + 106 + o)) (fun o => T 37 (10 * i + o))
theorem CPa_x {P : Nat → Nat → Prop} {U V : Um} {T T2 : Tm} (hf : fX P U V) (hP : ∀ o k, P o k → o ≠ 0 ∧ (o < 44 ∨ 51 < o)) (e14 : ∀ k, k ≤ 14 → T2 k = T k) (e36 : T2 36 = T 36) (e37 : T2 37 = T 37) (e38 : T2 38 = T 38) (h : CPa U T) : CPa V T2 := by
  obtain ⟨old, ho, u8, u9, hn, hr⟩ := h
  have f0 := fun k => hf.2.2 0 k (fun z => (hP 0 k z).1 rfl)
  refine ⟨old, ho, by rw [(f0 8).1, u8], by rw [(f0 9).1, u9, e38], by rw [e38]; exact hn, fun i i0 i1 => ?_⟩
  rw [e38] at i1
  have f := fun k => hf.2.2 (44 + ((old + i) % 8).toNat) k (fun z => by have := (hP _ k z).2; omega)
  have r := CRo_c e14 (CRo_x (f 1).1 (fun k _ _ => (f k).2.2.1) (f 5).2.2.2.2 (hr i i0 i1))
  rw [e36, e37]
  exact r
theorem k2_old {T : Tm} {a m j : Int} (h : j < a) : keep2 T a m 36 j = T 36 j := by
  unfold keep2 keep1
  rw [up_nf (by decide), up_ne (by omega), blk_nf (by decide), blk_out (by omega), blk_out (by omega), blk_out (by omega), blk_out (by omega)]
theorem k2_wh {T : Tm} {a m k : Int} (h0 : 0 ≤ k) (h1 : k < 48) : keep2 T a m 36 (a + k) = T 30 k := by
  unfold keep2 keep1
  rw [up_nf (by decide), up_ne (by omega), blk_nf (by decide), blk_out (by omega), blk_out (by omega), blk_out (by omega), blk_in (by omega) (by omega)]
  congr 1
  omega
theorem k2_gi {T : Tm} {a m k : Int} (h0 : 0 ≤ k) (h1 : k < 48) : keep2 T a m 36 (a + 48 + k) = T 31 k := by
  unfold keep2 keep1
  rw [up_nf (by decide), up_ne (by omega), blk_nf (by decide), blk_out (by omega), blk_out (by omega), blk_in (by omega) (by omega)]
  congr 1
  omega
theorem k2_gr {T : Tm} {a m k : Int} (h0 : 0 ≤ k) (h1 : k < 10) : keep2 T a m 36 (a + 96 + k) = T 32 k := by
  unfold keep2 keep1
  rw [up_nf (by decide), up_ne (by omega), blk_nf (by decide), blk_out (by omega), blk_in (by omega) (by omega)]
  congr 1
  omega
theorem k2_mk {T : Tm} {a m k : Int} (h0 : 0 ≤ k) (h1 : k < 10) : keep2 T a m 36 (a + 106 + k) = T 33 k := by
  unfold keep2 keep1
  rw [up_nf (by decide), up_ne (by omega), blk_nf (by decide), blk_in (by omega) (by omega)]
  congr 1
  omega
theorem k2_td {T : Tm} {a m : Int} : keep2 T a m 36 (a + 116) = T 35 0 := by
  unfold keep2
  rw [up_nf (by decide), up_eq]
theorem k2_fo {T : Tm} {a m k : Int} (h0 : 0 ≤ k) (h1 : k < 10) : keep2 T a m 37 (10 * m + k) = T 34 k := by
  unfold keep2 keep1
  rw [up_nf (by decide), up_nf (by decide), blk_in (by omega) (by omega)]
  congr 1
  omega
theorem k2_fold {T : Tm} {a m j : Int} (h : j < 10 * m) : keep2 T a m 37 j = T 37 j := by
  unfold keep2 keep1
  rw [up_nf (by decide), up_nf (by decide), blk_out (by omega), blk_nf (by decide), blk_nf (by decide), blk_nf (by decide), blk_nf (by decide)]
theorem k2_38 {T : Tm} {a m : Int} : keep2 T a m 38 0 = m + 1 := by
  unfold keep2
  rw [up_eq]
theorem k0_36 {T : Tm} {j : Int} (h0 : 0 ≤ j) (h1 : j < 819) : keep0 T 36 j = T 36 (j + 117) := by
  unfold keep0
  rw [up_nf (by decide), blk_nf (by decide), blk_in h0 (by omega), Int.sub_zero]
theorem k0_37 {T : Tm} {j : Int} (h0 : 0 ≤ j) (h1 : j < 70) : keep0 T 37 j = T 37 (j + 10) := by
  unfold keep0
  rw [up_nf (by decide), blk_in h0 (by omega), Int.sub_zero]
theorem k0_o {T : Tm} {k : Nat} (h : k ≠ 36 ∧ k ≠ 37 ∧ k ≠ 38) : keep0 T k = T k := by
  funext j
  unfold keep0
  rw [up_nf h.2.2, blk_nf h.2.1, blk_nf h.1]
theorem CRo_f {U : Um} {r : Nat} {T : Tm} {td td2 : Int} {wh gi gr mk fo wh2 gi2 gr2 mk2 fo2 : Int → Int} (hI : I1 T) (e1 : td2 = td) (e2 : ∀ k, 0 ≤ k → k < 48 → wh2 k = wh k) (e3 : ∀ k, 0 ≤ k → k < 48 → gi2 k = gi k) (e4 : ∀ k, 0 ≤ k → k < 10 → gr2 k = gr k) (e5 : ∀ k, 0 ≤ k → k < 10 → mk2 k = mk k) (e6 : ∀ k, 0 ≤ k → k < 10 → fo2 k = fo k) (h : CRo U r T td wh gi gr mk fo) : CRo U r T td2 wh2 gi2 gr2 mk2 fo2 := by
  have hn := I_n hI
  obtain ⟨r1, r2, r3⟩ := h
  refine ⟨by rw [e1]; exact r1, fun k k0 k1 => by rw [e2 k k0 k1, e3 k k0 k1]; exact r2 k k0 k1, fun o ho => ?_⟩
  have o1 : o < 10 := by have := ho.2; omega
  rw [e4 o ho.1 o1, e5 o ho.1 o1, e6 o ho.1 o1]
  refine ⟨(r3 o ho).1, fun g g0 g1 => ((r3 o ho).2 g g0 g1).trans ⟨fun q => ⟨q.1, ?_⟩, fun q => ⟨q.1, ?_⟩⟩⟩
  · obtain ⟨hg, s, s0, s1, e⟩ := q
    have a := I_g hI g hg.1 hg.2
    unfold gOk at a
    exact ⟨s, s0, s1, by rw [e2 _ (by omega) (by omega)]; exact e⟩
  · obtain ⟨hg, s, s0, s1, e⟩ := q
    have a := I_g hI g hg.1 hg.2
    unfold gOk at a
    exact ⟨s, s0, s1, by rw [← e2 _ (by omega) (by omega)]; exact e⟩
theorem oc_p {i : Nat} (h : i < 8) : oc (44 + i) = 5 := by
  rcases (show i = 0 ∨ i = 1 ∨ i = 2 ∨ i = 3 ∨ i = 4 ∨ i = 5 ∨ i = 6 ∨ i = 7 by omega) with rfl | rfl | rfl | rfl | rfl | rfl | rfl | rfl <;> rfl
theorem r_p {U : Um} {w : Nat} (h : PT U w) {E : Int32} {i : Int} (he : E = jI i) (i0 : 0 ≤ i) (i1 : i < 8) : uAR U 0 7 (Int32.toNatClampNeg E) = 44 + i.toNat := by
  rw [he, jI_nat i0 (by omega)]
  exact h.2.2.1 i.toNat (by omega)
theorem j8 {A B : Int32} {x y : Int} (ha : A = jI x) (hb : B = jI y) (h0 : 0 ≤ x + y) (h1 : x + y ≤ 100) : (A + B) - (A + B) / 8 * 8 = jI ((x + y) % 8) := jrem (x := x + y) (y := 8) (jadd ha hb) rfl ⟨by omega, by omega⟩ ⟨by omega, by omega⟩ h0 (by decide)
abbrev PK (o k : Nat) : Prop := (o = 0 ∧ (k = 8 ∨ k = 9)) ∨ (44 ≤ o ∧ o ≤ 51)
set_option maxHeartbeats 4000000 in
theorem x_keep {U : Um} {T : Tm} {w : Nat} (hp : PT U w) (hI : I1 T) (hP : CPa U T) {ob a : Nat} (eo : ob = 0) {aa : Nat} (ea : aa = a) (ha : a = 42 ∨ a = 43) (hS : CRo U a T (T 35 0) (T 30) (T 31) (T 32) (T 33) (T 34)) {post : Um → Prop} (h : ∀ V : Um, fX PK U V → CPa V (keepT T) → post V) : w_X11_keep ob aa U post := by
  rw [eo, ea]
  obtain ⟨old, ho, u8, u9, hn, hr⟩ := hP
  have e14 : ∀ k, k ≤ 14 → keepT T k = T k := fun k hk => funext fun j => keep_nf (by omega)
  have hIk : I1 (keepT T) := I1_keep hI
  unfold w_X11_keep
  -- the common part: into the slot x, n kept ahead
  have go : ∀ (V : Um) (b n : Int), fX PK U V → PT V w → (0 ≤ b ∧ b < 8) → (0 ≤ n ∧ n ≤ 7) → uI V 0 8 = jI b → uI V 0 9 = jI n → (∀ k, uI V a k = uI U a k ∧ uL V a k = uL U a k ∧ uA V a k = uA U a k ∧ uJ V a k = uJ U a k ∧ uF V a k = uF U a k) → (∀ i : Int, 0 ≤ i → i < n → CRo V (44 + ((b + i) % 8).toNat) T (keepT T 36 (117 * i + 116)) (fun k => keepT T 36 (117 * i + k)) (fun k => keepT T 36 (117 * i + 48 + k)) (fun o => keepT T 36 (117 * i + 96 + o)) (fun o => keepT T 36 (117 * i + 106 + o)) (fun o => keepT T 37 (10 * i + o))) → keepT T 38 0 = n + 1 → (keepT T 36 (117 * n + 116) = T 35 0 ∧ (∀ k, 0 ≤ k → k < 48 → keepT T 36 (117 * n + k) = T 30 k) ∧ (∀ k, 0 ≤ k → k < 48 → keepT T 36 (117 * n + 48 + k) = T 31 k) ∧ (∀ k, 0 ≤ k → k < 10 → keepT T 36 (117 * n + 96 + k) = T 32 k) ∧ (∀ k, 0 ≤ k → k < 10 → keepT T 36 (117 * n + 106 + k) = T 33 k) ∧ ∀ k, 0 ≤ k → k < 10 → keepT T 37 (10 * n + k) = T 34 k) → (vp_in (((uI V 0 8) + (uI V 0 9)) - ((uI V 0 8) + (uI V 0 9)) / 8 * 8) 8 ∧ oc (uAR V 0 7 (Int32.toNatClampNeg (((uI V 0 8) + (uI V 0 9)) - ((uI V 0 8) + (uI V 0 9)) / 8 * 8))) = 5 ∧ w_X6_copyOf (uAR V 0 7 (Int32.toNatClampNeg (((uI V 0 8) + (uI V 0 9)) - ((uI V 0 8) + (uI V 0 9)) / 8 * 8))) a V (fun U_5 => ∀ (U_7 : Um), U_7 = sI U_5 0 9 ((uI U_5 0 9) + 1) → post U_7)) := by
    intro V b n fV pV hb hn7 v8 v9 va hold h38 hnew
    have ei := j8 v8 v9 (by omega) (by omega)
    have i0 : 0 ≤ (b + n) % 8 ∧ (b + n) % 8 < 8 := by omega
    have er := r_p pV ei i0.1 i0.2
    refine ⟨jvp ((b + n) % 8) ei i0.1 (by omega) (by decide), oc_of er (oc_p (by omega)), ?_⟩
    rw [er]
    refine x_copy (by omega) (fun Z fZ z1 z2 z3 z5 U7 e7 => ?_)
    have cS : CRo V a T (T 35 0) (T 30) (T 31) (T 32) (T 33) (T 34) := CRo_x (va 1).1 (fun k _ _ => (va k).2.2.1) (va 5).2.2.2.2 hS
    have cZ := CRo_copy hI z1 z2 z3 z5 cS
    have z0 : ∀ k, uI Z 0 k = uI V 0 k := fun k => (fZ.2.2 0 k (by omega)).1
    have f7 : fX PK U U7 := by
      rw [e7]
      exact fX_trans fV (fX_trans (fX_w (fun o k q => Or.inr (by omega)) fZ) (fX_sI (Or.inl ⟨rfl, Or.inr rfl⟩)))
    refine h U7 f7 ⟨b, hb, ?_, ?_, by rw [h38]; omega, fun i j0 j1 => ?_⟩
    · rw [e7, uI_sI, if_neg (by decide), z0, v8]
    · rw [e7, uI_sI, if_pos ⟨rfl, rfl⟩, z0, v9, h38]
      exact jadd rfl rfl
    · rw [h38] at j1
      refine CRo_c e14 ?_
      have x7 : ∀ (r : Nat), r ≠ 0 → ∀ {td wh gi gr mk fo}, CRo Z r T td wh gi gr mk fo → CRo U7 r T td wh gi gr mk fo := fun r hr td wh gi gr mk fo q => CRo_x (by rw [e7, uI_sI, if_neg (fun z => hr z.1)]) (fun k _ _ => by rw [e7]; rfl) (by rw [e7]; rfl) q
      refine x7 _ (by omega) ?_
      by_cases c : i = n
      · rw [c]
        exact CRo_f hI hnew.1 hnew.2.1 hnew.2.2.1 hnew.2.2.2.1 hnew.2.2.2.2.1 hnew.2.2.2.2.2 cZ
      · have q := hold i j0 (by omega)
        have f := fun k => fZ.2.2 (44 + ((b + i) % 8).toNat) k (by omega)
        exact CRo_x (f 1).1 (fun k _ _ => (f k).2.2.1) (f 5).2.2.2.2 q
  intro K1 hK1
  refine br_eq (T 38 0) 8 u9 rfl ⟨by omega, by omega⟩ ⟨by omega, by omega⟩ (fun c => ?_) (fun c => ?_)
  · intro U8 e8 U9 e9
    have ke : keepT T = keep2 (keep0 T) 819 7 := by
      rw [keepT_e]
      unfold keepV
      rw [if_pos c, c]
      rfl
    have f9 : fX PK U U9 := by rw [e9, e8]; exact fX_trans (fX_sI (Or.inl ⟨rfl, Or.inl rfl⟩)) (fX_sI (Or.inl ⟨rfl, Or.inr rfl⟩))
    refine hK1 U9 (go U9 ((old + 1) % 8) 7 f9 (PT_x f9 hp) (by omega) (by decide) ?_ ?_ (fun k => f9.2.2 a k (by omega)) (fun i i0 i1 => ?_) (by rw [ke, k2_38]) ?_)
    · rw [e9, uI_sI, if_neg (by decide), e8, uI_sI, if_pos ⟨rfl, rfl⟩]
      exact j8 u8 (B := 1) (y := 1) rfl (by omega) (by omega)
    · rw [e9, uI_sI, if_pos ⟨rfl, rfl⟩, e8, uI_sI, if_neg (by decide), u9, c]
      rfl
    · have q := hr (i + 1) (by omega) (by omega)
      rw [show ((old + 1) % 8 + i) % 8 = (old + (i + 1)) % 8 by omega]
      have f := fun k => f9.2.2 (44 + ((old + (i + 1)) % 8).toNat) k
      have x9 : CRo U9 (44 + ((old + (i + 1)) % 8).toNat) T (T 36 (117 * (i + 1) + 116)) (fun k => T 36 (117 * (i + 1) + k)) (fun k => T 36 (117 * (i + 1) + 48 + k)) (fun o => T 36 (117 * (i + 1) + 96 + o)) (fun o => T 36 (117 * (i + 1) + 106 + o)) (fun o => T 37 (10 * (i + 1) + o)) := CRo_x (by rw [e9, e8, uI_sI, if_neg (by omega), uI_sI, if_neg (by omega)]) (fun k _ _ => by rw [e9, e8]; rfl) (by rw [e9, e8]; rfl) q
      refine CRo_f hI ?_ (fun k k0 k1 => ?_) (fun k k0 k1 => ?_) (fun k k0 k1 => ?_) (fun k k0 k1 => ?_) (fun k k0 k1 => ?_) x9
      · rw [ke, k2_old (by omega), k0_36 (by omega) (by omega)]; congr 1; omega
      · rw [ke, k2_old (by omega), k0_36 (by omega) (by omega)]; congr 1; omega
      · rw [ke, k2_old (by omega), k0_36 (by omega) (by omega)]; congr 1; omega
      · rw [ke, k2_old (by omega), k0_36 (by omega) (by omega)]; congr 1; omega
      · rw [ke, k2_old (by omega), k0_36 (by omega) (by omega)]; congr 1; omega
      · rw [ke, k2_fold (by omega), k0_37 (by omega) (by omega)]; congr 1; omega
    · rw [ke]
      refine ⟨?_, fun k k0 k1 => ?_, fun k k0 k1 => ?_, fun k k0 k1 => ?_, fun k k0 k1 => ?_, fun k k0 k1 => ?_⟩
      · rw [show (117 : Int) * 7 + 116 = 819 + 116 by decide, k2_td, k0_o (by decide)]
      · rw [show (117 : Int) * 7 + k = 819 + k by omega, k2_wh k0 k1, k0_o (by decide)]
      · rw [show (117 : Int) * 7 + 48 + k = 819 + 48 + k by omega, k2_gi k0 k1, k0_o (by decide)]
      · rw [show (117 : Int) * 7 + 96 + k = 819 + 96 + k by omega, k2_gr k0 k1, k0_o (by decide)]
      · rw [show (117 : Int) * 7 + 106 + k = 819 + 106 + k by omega, k2_mk k0 k1, k0_o (by decide)]
      · rw [k2_fo k0 k1, k0_o (by decide)]
  · have ke : keepT T = keep2 T (117 * T 38 0) (T 38 0) := by
      rw [keepT_e]
      unfold keepV
      rw [if_neg c]
    refine hK1 U (go U old (T 38 0) fX_rfl hp ho (by omega) u8 u9 (fun k => ⟨rfl, rfl, rfl, rfl, rfl⟩) (fun i i0 i1 => ?_) (by rw [ke, k2_38]) ?_)
    · refine CRo_f hI ?_ (fun k k0 k1 => ?_) (fun k k0 k1 => ?_) (fun k k0 k1 => ?_) (fun k k0 k1 => ?_) (fun k k0 k1 => ?_) (hr i i0 i1)
      · rw [ke, k2_old (by omega)]
      · rw [ke, k2_old (by omega)]
      · rw [ke, k2_old (by omega)]
      · rw [ke, k2_old (by omega)]
      · rw [ke, k2_old (by omega)]
      · rw [ke, k2_fold (by omega)]
    · rw [ke]
      exact ⟨k2_td, fun k k0 k1 => k2_wh k0 k1, fun k k0 k1 => k2_gi k0 k1, fun k k0 k1 => k2_gr k0 k1, fun k k0 k1 => k2_mk k0 k1, fun k k0 k1 => k2_fo k0 k1⟩
