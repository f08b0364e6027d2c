/-! names, found and new -/
theorem Q_f {U V : Um} {T D D2 : Tm} {f : Int} (hQ : Q U T D f) (hM : M V D2) (hD : MD V D2) (ho : Off T D2) (hi : ∀ k, 20 ≤ k → k ≤ 27 → uI V 55 k = uI U 55 k) (hl : uL V 55 25 = uL U 55 25) : Q V T D2 f := by
  obtain ⟨_, _, _, ht, h20, h21, ⟨t1, t2, t3, t4, t5, t6⟩, f0, f1⟩ := hQ
  refine ⟨hM, hD, ho, ht, ?_, ?_, ⟨?_, ?_, ?_, ?_, ?_, ?_⟩, f0, f1⟩
  · rw [hi 20 (by omega) (by omega)]; exact h20
  · rw [hi 21 (by omega) (by omega)]; exact h21
  · rw [hi 23 (by omega) (by omega)]; exact t1
  · rw [hi 24 (by omega) (by omega)]; exact t2
  · rw [hi 22 (by omega) (by omega)]; exact t3
  · rw [hl]; exact t4
  · rw [hi 26 (by omega) (by omega)]; exact t5
  · rw [hi 27 (by omega) (by omega)]; exact t6
theorem Q_sA {U : Um} {T D : Tm} {f : Int} (hQ : Q U T D f) {k : Nat} {E V : Int32} (e v : Int) (he : E = jI e) (hv : V = jI v) (h0 : 0 ≤ e) (h1 : e < 3000) (hd : dft k e) (hJ : ∀ q ∈ mLJ, q.1 ≠ k := by decide) (hF : ∀ q ∈ mLF, q.1 ≠ k := by decide) (hS : ∀ s ∈ mLS, s ≠ k := by decide) (dJ : ∀ q ∈ dLJ, q.1 ≠ k := by decide) (dS : ∀ s ∈ dLS, s ≠ k := by decide) : Q (sA U 55 k (va_up (uA U 55 k) (Int32.toNatClampNeg E) V)) T (up D k e v) f :=
  Q_f hQ (M_sA hQ.1 e v he hv h0 h1 hJ hF hS) (MD_sA hQ.2.1 e v he hv h0 h1 dJ (fun q hq => absurd hq (by intro z; cases z)) dS) (Off_up hQ.2.2.1 hd) (fun _ _ _ => rfl) rfl
theorem Q_sJ {U : Um} {T D : Tm} {f : Int} (hQ : Q U T D f) {k : Nat} {E : Int32} {V : Int64} (e v : Int) (he : E = jI e) (hv : V = jL v) (h0 : 0 ≤ e) (h1 : e < 3000) (hd : dft k e) (hA : ∀ q ∈ mLA, q.1 ≠ k := by decide) (hF : ∀ q ∈ mLF, q.1 ≠ k := by decide) (hS : ∀ s ∈ mLS, s ≠ k := by decide) (dA : ∀ q ∈ dLA, q.1 ≠ k := by decide) (dS : ∀ s ∈ dLS, s ≠ k := by decide) : Q (sJ U 55 k (va_up (uJ U 55 k) (Int32.toNatClampNeg E) V)) T (up D k e v) f :=
  Q_f hQ (M_sJ hQ.1 e v he hv h0 h1 hA hF hS) (MD_sJ hQ.2.1 e v he hv h0 h1 dA (fun q hq => absurd hq (by intro z; cases z)) dS) (Off_up hQ.2.2.1 hd) (fun _ _ _ => rfl) rfl
theorem Q_xI {U : Um} {T D : Tm} {f : Int} (hQ : Q U T D f) {k : Nat} {v : Int32} (hk : k = 28 ∨ k = 29) : Q (sI U 55 k v) T D f := by
  refine Q_f hQ ?_ ?_ hQ.2.2.1 (fun j a b => by rw [uI_sI, if_neg (by omega)]) (by rw [uL_sI])
  · rcases hk with q | q <;> (subst q; exact M_xI hQ.1)
  · rcases hk with q | q <;> (subst q; exact MD_xI hQ.2.1)
def IN (D : Tm) : Prop := ((0 ≤ D 11 7 ∧ D 11 7 ≤ 6) ∧ (0 ≤ D 11 8 ∧ D 11 8 ≤ 8) ∧ (0 ≤ D 11 9 ∧ D 11 9 ≤ 10) ∧ (0 ≤ D 11 10 ∧ D 11 10 ≤ 16)) ∧
  (∀ i, 0 ≤ i → i < D 11 7 → 0 < D 1 (6 + i) ∧ D 1 (6 + i) < 387420489) ∧ (∀ i, 0 ≤ i → i < D 11 8 → 0 < D 4 (8 + i) ∧ D 4 (8 + i) < 387420489) ∧ (∀ i, 0 ≤ i → i < D 11 9 → 0 < D 5 (10 + i) ∧ D 5 (10 + i) < 387420489)
/-- where the name stands among so many -/
def plN (D : Tm) (k : Nat) (a w : Int) : Nat → Int → Int
  | 0, _ => -1
  | m + 1, i => if D k (a + i) = w then i else plN D k a w m (i + 1)
def plS (D : Tm) (k : Nat) (a n w : Int) : Int := plN D k a w n.toNat 0
theorem plN_b {D : Tm} {k : Nat} {a w : Int} : ∀ (m : Nat) (i : Int), plN D k a w m i = -1 ∨ (i ≤ plN D k a w m i ∧ plN D k a w m i < i + m ∧ D k (a + plN D k a w m i) = w) := by
  intro m
  induction m with
  | zero => intro i; exact Or.inl rfl
  | succ m ih =>
    intro i
    unfold plN
    by_cases c : D k (a + i) = w
    · rw [if_pos c]
      exact Or.inr ⟨by omega, by omega, c⟩
    · rw [if_neg c]
      rcases ih (i + 1) with q | q
      · exact Or.inl q
      · exact Or.inr ⟨by omega, by omega, q.2.2⟩
theorem plS_b {D : Tm} {k : Nat} {a n w : Int} : plS D k a n w = -1 ∨ (0 ≤ plS D k a n w ∧ plS D k a n w < n ∧ D k (a + plS D k a n w) = w) := by
  unfold plS
  rcases plN_b (D := D) (k := k) (a := a) (w := w) n.toNat 0 with q | q
  · exact Or.inl q
  · exact Or.inr ⟨by omega, by omega, q.2.2⟩
theorem l_placeOf {D : Tm} {k : Nat} {N : Int} {a n w : Int} {U : Um} (hm : mJ U D k N) (hN : N ≤ 3000) (ha : 0 ≤ a) (hn : a + n ≤ N) (hn0 : 0 ≤ n) (hk : ln 10 k = N.toNat) (hv : ∀ i, 0 ≤ i → i < n → r64 (D k (a + i))) (rw_ : r64 w) {A1 A2 : Int32} {A3 : Int64} (e1 : A1 = jI a) (e2 : A2 = jI n) (e3 : A3 = jL w) {post : Int32 → Um → Prop} {K : Um → Prop} (hK : plS D k a n w = -1 → K U) (hp : plS D k a n w ≠ -1 → post (jI (plS D k a n w)) U) : ∀ (fu : Nat) (i : Int), 0 ≤ i → i ≤ 3000 → plS D k a n w = plN D k a w (n - i).toNat i → (n - i).toNat < fu → w_X12_placeOf_L3 55 k A1 A2 A3 post K fu (jI i) U := by
  intro fu
  induction fu with
  | zero => intro i _ _ _ h; exact absurd h (Nat.not_lt_zero _)
  | succ fu ih =>
    intro i i0 i9 he hf
    show b_X12_placeOf_L3 55 k A1 A2 A3 post K (w_X12_placeOf_L3 55 k A1 A2 A3 post K fu) (jI i) U
    unfold b_X12_placeOf_L3
    by_cases c0 : n ≤ i
    · have e : plS D k a n w = -1 := by rw [he, show (n - i).toNat = 0 by omega]; rfl
      exact br_le n i e2 rfl ⟨by omega, by omega⟩ ⟨by omega, by omega⟩ (fun _ => hK e) (fun c => absurd c0 (by omega))
    · refine br_le n i e2 rfl ⟨by omega, by omega⟩ ⟨by omega, by omega⟩ (fun c => absurd c c0) (fun _ => ?_)
      have ix : A1 + jI i = jI (a + i) := jadd e1 rfl
      have er : plS D k a n w = if D k (a + i) = w then i else plN D k a w (n - (i + 1)).toNat (i + 1) := by
        rw [he, show (n - i).toNat = (n - (i + 1)).toNat + 1 by omega]
        rfl
      refine ⟨jvp (a + i) ix (by omega) (by rw [hk]; omega) (by rw [hk]; omega), ?_⟩
      refine br_l0 (D k (a + i)) w (by rw [ix, jI_nat (by omega) (by omega)]; exact hm (a + i) (by omega) (by omega)) e3 (hv i i0 (by omega)) rw_ (fun c => ?_) (fun c => ?_)
      · rw [if_pos c] at er
        rw [er] at hp
        exact hp (by omega)
      · intro y hy
        rw [hy, show jI i + 1 = jI (i + 1) from jadd rfl rfl]
        rw [if_neg c] at er
        exact ih (i + 1) (by omega) (by omega) er (by omega)
theorem p_placeOf {D : Tm} {k : Nat} {N : Int} {a n w : Int} {U : Um} (hm : mJ U D k N) (hN : N ≤ 3000) (ha : 0 ≤ a) (hn : a + n ≤ N) (hn0 : 0 ≤ n) (hk : ln 10 k = N.toNat) (hv : ∀ i, 0 ≤ i → i < n → r64 (D k (a + i))) (rw_ : r64 w) {A1 A2 : Int32} {A3 : Int64} (e1 : A1 = jI a) (e2 : A2 = jI n) (e3 : A3 = jL w) {post : Int32 → Um → Prop} (h : post (jI (plS D k a n w)) U) : w_X12_placeOf 55 k A1 A2 A3 U post := by
  unfold w_X12_placeOf
  refine ⟨n.toNat + 1, l_placeOf hm hN ha hn hn0 hk hv rw_ e1 e2 e3 (fun e => ?_) (fun _ => h) _ 0 (by omega) (by omega) (by rw [show n - 0 = n by omega]; rfl) (by omega)⟩
  rw [e] at h
  exact h
/-- a name's place among the fields, clubs, officials of the draft -/
def plK (T D : Tm) (k f : Int) : Int := if k = 0 then plS D 1 6 (D 11 7) (cdS T f) else if k = 1 then plS D 4 8 (D 11 8) (cdS T f) else plS D 5 10 (D 11 9) (cdS T f)
def newE (T D : Tm) (f : Int) : Int := if ¬ nameOk T f then 1 else if plK T D 0 f = -1 ∧ plK T D 1 f = -1 ∧ plK T D 2 f = -1 then 0 else 3
def comE (T D : Tm) (k f : Int) : Int := if ¬ nameOk T f then 1 else if plK T D k f = -1 then 3 else 0
theorem plK_b {T D : Tm} {k f : Int} (hk : 0 ≤ k ∧ k ≤ 2) : plK T D k f = -1 ∨ 0 ≤ plK T D k f ∧ plK T D k f < D 11 (7 + k) := by
  unfold plK
  by_cases c0 : k = 0
  · rw [if_pos c0, c0]
    rcases plS_b (D := D) (k := 1) (a := 6) (n := D 11 7) (w := cdS T f) with q | q
    · exact Or.inl q
    · exact Or.inr ⟨q.1, q.2.1⟩
  · rw [if_neg c0]
    by_cases c1 : k = 1
    · rw [if_pos c1, c1]
      rcases plS_b (D := D) (k := 4) (a := 8) (n := D 11 8) (w := cdS T f) with q | q
      · exact Or.inl q
      · exact Or.inr ⟨q.1, q.2.1⟩
    · rw [if_neg c1, show k = 2 by omega]
      rcases plS_b (D := D) (k := 5) (a := 10) (n := D 11 9) (w := cdS T f) with q | q
      · exact Or.inl q
      · exact Or.inr ⟨q.1, q.2.1⟩
theorem tw_cd {T : Tm} {f : Int} (h : nameOk T f) : twS T f = cdS T f := by
  have := h.1
  unfold cdS at this ⊢
  by_cases c : tkS T f = 1 ∧ teS T f - f ≤ 6
  · rw [if_pos c]
  · rw [if_neg c] at this
    exact absurd rfl this
theorem p_place0 {U : Um} {T D : Tm} {f : Int} (hQ : Q U T D f) (hN : IN D) (ok : nameOk T f) {post : Int32 → Um → Prop} (h : post (jI (plK T D 0 f)) U) : w_X12_placeOf 55 1 6 (uA U 55 11 (Int32.toNatClampNeg 7)) (uL U 55 25) U post := by
  have cb := cd_b hQ.2.2.2.1 (Q_c hQ).1 (Q_c hQ).2.1
  refine p_placeOf (D := D) (k := 1) (N := 12) (a := 6) (n := D 11 7) (w := cdS T f) (hQ.2.1.2.1 (1, 12) (by decide)) (by decide) (by decide) (by have := hN.1; omega) (by have := hN.1; omega) rfl (fun i a b => ?_) ⟨by omega, by omega⟩ rfl (rdA (MD_A hQ.2.1 11 14) 7 rfl (by omega) (by omega)) (by rw [hQ.2.2.2.2.2.2.1.2.2.2.1, tw_cd ok]) h
  have := hN.2.1 i a b
  exact ⟨by omega, by omega⟩
theorem p_place1 {U : Um} {T D : Tm} {f : Int} (hQ : Q U T D f) (hN : IN D) (ok : nameOk T f) {post : Int32 → Um → Prop} (h : post (jI (plK T D 1 f)) U) : w_X12_placeOf 55 4 8 (uA U 55 11 (Int32.toNatClampNeg 8)) (uL U 55 25) U post := by
  have cb := cd_b hQ.2.2.2.1 (Q_c hQ).1 (Q_c hQ).2.1
  refine p_placeOf (D := D) (k := 4) (N := 16) (a := 8) (n := D 11 8) (w := cdS T f) (hQ.2.1.2.1 (4, 16) (by decide)) (by decide) (by decide) (by have := hN.1; omega) (by have := hN.1; omega) rfl (fun i a b => ?_) ⟨by omega, by omega⟩ rfl (rdA (MD_A hQ.2.1 11 14) 8 rfl (by omega) (by omega)) (by rw [hQ.2.2.2.2.2.2.1.2.2.2.1, tw_cd ok]) h
  have := hN.2.2.1 i a b
  exact ⟨by omega, by omega⟩
theorem p_place2 {U : Um} {T D : Tm} {f : Int} (hQ : Q U T D f) (hN : IN D) (ok : nameOk T f) {post : Int32 → Um → Prop} (h : post (jI (plK T D 2 f)) U) : w_X12_placeOf 55 5 10 (uA U 55 11 (Int32.toNatClampNeg 9)) (uL U 55 25) U post := by
  have cb := cd_b hQ.2.2.2.1 (Q_c hQ).1 (Q_c hQ).2.1
  refine p_placeOf (D := D) (k := 5) (N := 20) (a := 10) (n := D 11 9) (w := cdS T f) (hQ.2.1.2.1 (5, 20) (by decide)) (by decide) (by decide) (by have := hN.1; omega) (by have := hN.1; omega) rfl (fun i a b => ?_) ⟨by omega, by omega⟩ rfl (rdA (MD_A hQ.2.1 11 14) 9 rfl (by omega) (by omega)) (by rw [hQ.2.2.2.2.2.2.1.2.2.2.1, tw_cd ok]) h
  have := hN.2.2.2 i a b
  exact ⟨by omega, by omega⟩
theorem plK_r {T D : Tm} {k f : Int} (hN : IN D) (hk : 0 ≤ k ∧ k ≤ 2) : -1 ≤ plK T D k f ∧ plK T D k f < 10 := by
  have h0 := hN.1
  have c : D 11 (7 + k) ≤ 10 := by
    have : k = 0 ∨ k = 1 ∨ k = 2 := by omega
    rcases this with q | q | q <;> (subst q; simp; omega)
  rcases plK_b (T := T) (D := D) (f := f) hk with q | q
  · omega
  · omega
theorem p_isNew {U : Um} {T D : Tm} {f : Int} (hQ : Q U T D f) (hN : IN D) {post : Int32 → Um → Prop} (h1 : newE T D f = 0 → nameOk T f → post 1 U) (h0 : newE T D f ≠ 0 → ∀ V : Um, Qb V T (newE T D f) f → fO U V → post 0 V) : w_X12_isNew 55 U post := by
  unfold w_X12_isNew
  refine p_isName hQ (fun ok => br_1 ⟨jvp 7 rfl (by omega) (by omega) (by decide), ?_⟩) (fun ok => br_0 ?_)
  · refine p_place0 hQ hN ok ?_
    intro K hK
    have r0 := plK_r (T := T) (f := f) hN (k := 0) (by omega)
    have r1 := plK_r (T := T) (f := f) hN (k := 1) (by omega)
    have r2 := plK_r (T := T) (f := f) hN (k := 2) (by omega)
    have bad : ¬ (plK T D 0 f = -1 ∧ plK T D 1 f = -1 ∧ plK T D 2 f = -1) → K 1 U := fun c => by
      have e : newE T D f = 3 := by unfold newE; rw [if_neg (fun q => q ok), if_neg c]
      rw [e] at h0
      exact hK 1 U (br_1 (s_X12_fails hQ 3 rfl ⟨by omega, by omega⟩ (fun V v w => br_0 (h0 (by omega) V v w))))
    refine br_eq (plK T D 0 f) (-1) rfl rfl ⟨by omega, by omega⟩ ⟨by omega, by omega⟩ (fun c => ?_) (fun c => bad (fun q => c q.1))
    refine ⟨jvp 8 rfl (by omega) (by omega) (by decide), p_place1 hQ hN ok ?_⟩
    refine br_eq (plK T D 1 f) (-1) rfl rfl ⟨by omega, by omega⟩ ⟨by omega, by omega⟩ (fun c2 => ?_) (fun c2 => bad (fun q => c2 q.2.1))
    refine ⟨jvp 9 rfl (by omega) (by omega) (by decide), p_place2 hQ hN ok ?_⟩
    refine br_eq (plK T D 2 f) (-1) rfl rfl ⟨by omega, by omega⟩ ⟨by omega, by omega⟩ (fun c3 => ?_) (fun c3 => bad (fun q => c3 q.2.2))
    exact hK 0 U (br_0 (h1 (by unfold newE; rw [if_neg (fun q => q ok), if_pos ⟨c, c2, c3⟩]) ok))
  · have e : newE T D f = 1 := by unfold newE; rw [if_pos ok]
    rw [e] at h0
    exact s_X12_fails hQ 1 rfl ⟨by omega, by omega⟩ (fun V v w => ⟨Or.inl rfl, h0 (by omega) V v w⟩)
theorem p_comesTo {U : Um} {T D : Tm} {f : Int} (hQ : Q U T D f) (hN : IN D) {a1 : Int32} (k : Int) (e : a1 = jI k) (hk : 0 ≤ k ∧ k ≤ 2) {post : Int32 → Um → Prop} (h1 : comE T D k f = 0 → (0 ≤ plK T D k f ∧ plK T D k f < D 11 (7 + k)) → ∀ V : Um, Q V T D f → fO U V → uI V 55 28 = jI (plK T D k f) → post 1 V) (h0 : comE T D k f ≠ 0 → ∀ V : Um, Qb V T (comE T D k f) f → fO U V → post 0 V) : w_X12_comesTo 55 a1 U post := by
  unfold w_X12_comesTo
  refine p_isName hQ (fun ok => br_1 ?_) (fun ok => br_0 ?_)
  · intro K hK
    have r0 := plK_r (T := T) (f := f) hN hk
    have go : K (jI (plK T D k f)) U := by
      refine hK _ U ?_
      intro V hV
      have qV : Q V T D f := by rw [hV]; exact Q_xI hQ (Or.inl rfl)
      have oV : fO U V := by rw [hV]; exact ⟨fM_sI, by rw [uI_sI, if_neg (by omega)]⟩
      have v28 : uI V 55 28 = jI (plK T D k f) := by rw [hV, uI_sI, if_pos ⟨rfl, rfl⟩]
      refine br_eq (plK T D k f) (-1) v28 rfl ⟨by omega, by omega⟩ ⟨by omega, by omega⟩ (fun c => ?_) (fun c => ?_)
      · have e3 : comE T D k f = 3 := by unfold comE; rw [if_neg (fun q => q ok), if_pos c]
        rw [e3] at h0
        exact s_X12_fails qV 3 rfl ⟨by omega, by omega⟩ (fun W v w => br_0 (h0 (by omega) W v (fO_trans oV w)))
      · have e3 : comE T D k f = 0 := by unfold comE; rw [if_neg (fun q => q ok), if_neg c]
        have pb := plK_b (T := T) (D := D) (f := f) hk
        exact h1 e3 (by omega) V qV oV v28
    refine br_eq k 0 e rfl ⟨by omega, by omega⟩ ⟨by omega, by omega⟩ (fun c => ?_) (fun c => ?_)
    · rw [c] at go
      exact ⟨jvp 7 rfl (by omega) (by omega) (by decide), p_place0 hQ hN ok go⟩
    refine br_eq k 1 e rfl ⟨by omega, by omega⟩ ⟨by omega, by omega⟩ (fun c2 => ?_) (fun c2 => ?_)
    · rw [c2] at go
      exact ⟨jvp 8 rfl (by omega) (by omega) (by decide), p_place1 hQ hN ok go⟩
    · rw [show k = 2 by omega] at go
      exact ⟨jvp 9 rfl (by omega) (by omega) (by decide), p_place2 hQ hN ok go⟩
  · have e3 : comE T D k f = 1 := by unfold comE; rw [if_pos ok]
    rw [e3] at h0
    exact s_X12_fails hQ 1 rfl ⟨by omega, by omega⟩ (fun V v w => ⟨Or.inl rfl, h0 (by omega) V v w⟩)
theorem p_readOne {U : Um} {T D : Tm} {f : Int} (hQ : Q U T D f) (hN : IN D) {a1 : Int32} (k : Int) (e : a1 = jI k) (hk : 0 ≤ k ∧ k ≤ 2) {post : Int32 → Um → Prop} (h1 : comE T D k f = 0 → (0 ≤ plK T D k f ∧ plK T D k f < D 11 (7 + k)) → ∀ V : Um, Q V T D (nx T f) → fO U V → uI V 55 28 = jI (plK T D k f) → post 1 V) (h0 : comE T D k f ≠ 0 → ∀ V : Um, Qb V T (comE T D k f) f → fO U V → post 0 V) : w_X12_readOne 55 a1 U post := by
  unfold w_X12_readOne
  exact p_comesTo hQ hN k e hk (fun c pb V q o v => br_1 (p_next q (fun W q2 o2 v2 => h1 c pb W q2 (fO_trans o o2) (v2.trans v)))) (fun c V v o => br_0 (h0 c V v o))
theorem p_isFull {U : Um} {T D : Tm} {f : Int} (hQ : Q U T D f) (hN : IN D) {a1 a2 : Int32} (k m : Int) (e1 : a1 = jI k) (e2 : a2 = jI m) (hk : 0 ≤ k ∧ k ≤ 3) (hm : 0 ≤ m ∧ m ≤ 100) {post : Int32 → Um → Prop} (h1 : m ≤ D 11 (7 + k) → ∀ V : Um, Qb V T 4 f → fO U V → post 1 V) (h0 : D 11 (7 + k) < m → post 0 U) : w_X12_isFull 55 a1 a2 U post := by
  unfold w_X12_isFull
  have b : 0 ≤ D 11 (7 + k) ∧ D 11 (7 + k) ≤ 16 := by
    have hn := hN.1
    have : k = 0 ∨ k = 1 ∨ k = 2 ∨ k = 3 := by omega
    rcases this with q | q | q | q <;> (subst q; simp; omega)
  refine ⟨jvp (7 + k) (jadd rfl e1) (by omega) (by omega) (by decide), ?_⟩
  exact br_le m (D 11 (7 + k)) e2 (rdA (MD_A hQ.2.1 11 14) (7 + k) (jadd rfl e1) (by omega) (by omega)) ⟨by omega, by omega⟩ ⟨by omega, by omega⟩ (fun c => s_X12_fails hQ 4 rfl ⟨by omega, by omega⟩ (fun V v o => h1 c V v o)) h0
theorem p_readAfter {U : Um} {T D : Tm} {f : Int} (hQ : Q U T D f) {a : Nat} (ha : a < 23) {a1 a2 : Int32} {lo hi : Int} (e1 : a1 = jI lo) (e2 : a2 = jI hi) (hl : 0 ≤ lo ∧ lo ≤ 9999) (hh : 0 ≤ hi ∧ hi ≤ 9999) {post : Int32 → Um → Prop} (h1 : cdS T f = ownL.getD a 0 → nmE T (nx T f) lo hi = 0 → ∀ V : Um, Q V T D (nx T (nx T f)) → fO U V → uI V 55 28 = jI (nuS T (nx T f)) → lo ≤ nuS T (nx T f) → nuS T (nx T f) ≤ hi → post 1 V) (h0 : cdS T f ≠ ownL.getD a 0 → ∀ V : Um, Qb V T 1 f → fO U V → post 0 V) (h2 : cdS T f = ownL.getD a 0 → nmE T (nx T f) lo hi ≠ 0 → ∀ V : Um, Qb V T (nmE T (nx T f) lo hi) (nx T f) → fO U V → post 0 V) : w_X12_readAfter 55 a a1 a2 U post := by
  unfold w_X12_readAfter
  exact p_takes hQ ha (fun c V q o _ => br_1 (p_readNumber q e1 e2 hl hh (fun c2 W q2 o2 v2 l1 l2 => br_1 (h1 c c2 W q2 (fO_trans o o2) v2 l1 l2)) (fun c2 W q2 o2 => br_0 (h2 c c2 W q2 (fO_trans o o2))))) (fun c V v o => br_0 (h0 c V v o))
