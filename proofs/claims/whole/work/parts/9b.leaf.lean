/-! the parser, its leaves -/
def dft (k : Nat) (i : Int) : Prop := (k = 1 ∧ 6 ≤ i) ∨ (k = 2 ∧ 36 ≤ i) ∨ (k = 4 ∧ 8 ≤ i) ∨ ((k = 5 ∨ k = 6 ∨ k = 7 ∨ k = 8) ∧ 10 ≤ i) ∨ k = 9 ∨ (k = 10 ∧ 128 ≤ i) ∨ (k = 11 ∧ 7 ≤ i) ∨ ((k = 12 ∨ k = 13) ∧ 1300 ≤ i) ∨ k = 15
def Off (T D : Tm) : Prop := ∀ k i, ¬ dft k i → D k i = T k i
theorem Off_up {T D : Tm} (h : Off T D) {k : Nat} {i v : Int} (hk : dft k i) : Off T (up D k i v) := fun k2 i2 h2 => by
  rw [up_ne (fun q => h2 (by rw [q.1, q.2]; exact hk))]
  exact h k2 i2 h2
theorem Off_16 {T D : Tm} (h : Off T D) : D 16 = T 16 := funext fun i => h 16 i (by unfold dft; omega)
theorem Off_17 {T D : Tm} (h : Off T D) : D 17 = T 17 := funext fun i => h 17 i (by unfold dft; omega)
/-- the parser stands at the piece f, its draft is D, nothing was at fault -/
def Q (U : Um) (T D : Tm) (f : Int) : Prop := M U D ∧ MD U D ∧ Off T D ∧ It T ∧ uI U 55 20 = jI 0 ∧ uI U 55 21 = jI (-1) ∧ TK U T f ∧ 0 ≤ f ∧ f ≤ 1201
/-- it met a fault -/
def Qb (U : Um) (T : Tm) (k p : Int) : Prop := (∃ D, M U D ∧ Off T D) ∧ uI U 55 20 = jI k ∧ uI U 55 21 = jI p ∧ (1 ≤ k ∧ k ≤ 5) ∧ 0 ≤ p ∧ p ≤ 1201
def fO (U V : Um) : Prop := fM U V ∧ uI V 55 29 = uI U 55 29
theorem fO_rfl {U : Um} : fO U U := ⟨fM_rfl, rfl⟩
theorem fO_trans {U V Wm : Um} (h : fO U V) (h2 : fO V Wm) : fO U Wm := ⟨fM_trans h.1 h2.1, h2.2.trans h.2⟩
theorem Q_c {U : Um} {T D : Tm} {f : Int} (h : Q U T D f) : 0 ≤ f ∧ f ≤ 1201 ∧ f ≤ teS T f ∧ teS T f ≤ 1201 := by
  obtain ⟨_, _, _, ht, _, _, _, f0, f1⟩ := h
  obtain ⟨a, b, _⟩ := te_b ht f0 f1
  exact ⟨f0, f1, a, b⟩
theorem s_X12_fails {U : Um} {T D : Tm} {f : Int} (hQ : Q U T D f) {a1 : Int32} (k : Int) (e : a1 = jI k) (hk : 1 ≤ k ∧ k ≤ 5) {post : Int32 → Um → Prop} (h : ∀ V : Um, Qb V T k f → fO U V → post 0 V) : w_X12_fails 55 a1 U post := by
  obtain ⟨hM, hD, ho, ht, h20, h21, hT, f0, f1⟩ := hQ
  unfold w_X12_fails
  refine br_eq 0 0 h20 rfl ⟨by omega, by omega⟩ ⟨by omega, by omega⟩ (fun _ => ?_) (fun c => absurd rfl c)
  intro V hV W hW
  refine h W ⟨⟨D, by rw [hW, hV]; exact M_xI (M_xI hM), ho⟩, ?_, ?_, hk, f0, f1⟩ ⟨by rw [hW, hV]; exact fM_trans fM_sI fM_sI, ?_⟩
  · rw [hW, uI_sI, if_neg (by omega), hV, uI_sI, if_pos ⟨rfl, rfl⟩]
    exact e
  · rw [hW, uI_sI, if_pos ⟨rfl, rfl⟩, hV, uI_sI, if_neg (by omega)]
    exact hT.1
  · rw [hW, uI_sI, if_neg (by omega), hV, uI_sI, if_neg (by omega)]
theorem MD_P {U V : Um} {D : Tm} (h : MD U D) (hf : fP U V) : MD V D := by
  refine ⟨fun q hq i i0 i1 => ?_, fun q hq i i0 i1 => ?_, fun q hq => absurd hq (by intro z; cases z), fun k hk => ?_⟩
  · rw [hf.2.2.1]; exact h.1 q hq i i0 i1
  · rw [hf.2.2.2.1]; exact h.2.1 q hq i i0 i1
  · rw [hf.2.1 k (Or.inl (by unfold dLS at hk; simp at hk; omega))]; exact h.2.2.2 k hk
theorem p_next {U : Um} {T D : Tm} {f : Int} (hQ : Q U T D f) {post : Um → Prop} (h : ∀ V : Um, Q V T D (nx T f) → fO U V → uI V 55 28 = uI U 55 28 → post V) : w_X12_next 55 U post := by
  obtain ⟨hM, hD, ho, ht, h20, h21, hT, f0, f1⟩ := hQ
  obtain ⟨a, b, _⟩ := te_b ht f0 f1
  refine s_X12_next hM (It_c (Off_16 ho) (Off_17 ho) ht) (p := teS T f) hT.2.1 (by omega) (by omega) (fun V mV fV tV v0 v1 => ?_)
  rw [sk_c (Off_16 ho) (Off_17 ho)] at tV v0 v1
  refine h V ⟨mV, MD_P hD fV, ho, ht, ?_, ?_, TK_c (Off_16 ho) (Off_17 ho) tV, v0, v1⟩ ⟨fV.1, fV.2.1 29 (by omega)⟩ (fV.2.1 28 (by omega))
  · rw [fV.2.1 20 (by omega)]; exact h20
  · rw [fV.2.1 21 (by omega)]; exact h21
theorem tk_b {T : Tm} {f : Int} : 0 ≤ tkS T f ∧ tkS T f ≤ 3 := by
  unfold tkS
  split
  · omega
  · split
    · omega
    · split <;> omega
theorem own_n : ∀ a : Fin 23, (1 ≤ slens.getD a.val 0 ∧ slens.getD a.val 0 ≤ 6) ∧ wlo (slens.getD a.val 0) ≤ ownL.getD a.val 0 ∧ ownL.getD a.val 0 ≤ 26 * wlo (slens.getD a.val 0) := by decide
theorem own_l : ∀ a : Fin 23, (Int32.ofNat (slens.getD a.val 0)) >>> ((0 : Int32) &&& 31) = jI (slens.getD a.val 0 : Nat) := by decide
theorem own_b : ∀ a : Fin 23, 0 < ownL.getD a.val 0 ∧ ownL.getD a.val 0 < 387420489 := by decide
theorem tw_r {T : Tm} (ht : It T) {f : Int} (f0 : 0 ≤ f) (f1 : f ≤ 1201) (c : tkS T f = 1) : r64 (twS T f) := by
  obtain ⟨_, _, _, d⟩ := te_b ht f0 f1
  have d := d (by omega)
  have e : teS T f = spN T 97 122 (T 17 0 - f).toNat f := by
    unfold teS spS
    rw [if_neg (by omega), if_pos c]
  unfold twS
  rw [if_pos c]
  have hl : ∀ i : Nat, i < (teS T f - f).toNat → 97 ≤ seeS T (f + i) ∧ seeS T (f + i) ≤ 122 := fun i hi => spN_in _ f (f + i) (by omega) (by rw [← e]; omega)
  have key : ∀ n : Nat, (∀ i : Nat, i < n → 97 ≤ seeS T (f + i) ∧ seeS T (f + i) ≤ 122) → 0 ≤ wcN T f n ∧ wcN T f n ≤ 387420488 := by
    intro n
    induction n with
    | zero => intro _; exact ⟨Int.le_refl 0, by show (0 : Int) ≤ 387420488; decide⟩
    | succ n ih =>
      intro h
      have q := ih (fun i hi => h i (by omega))
      by_cases c6 : (n : Int) < 6
      · have z := wc_b (T := T) (f := f) (n + 1) (by omega) (fun i hi => h i hi)
        have : n = 0 ∨ n = 1 ∨ n = 2 ∨ n = 3 ∨ n = 4 ∨ n = 5 := by omega
        generalize wcN T f (n + 1) = x at z ⊢
        rcases this with q | q | q | q | q | q <;> (subst q; simp [wlo] at z; omega)
      · unfold wcN
        rw [if_neg c6]
        exact q
  have := key _ hl
  exact ⟨by omega, by omega⟩
theorem p_isWord {U : Um} {T D : Tm} {f : Int} (hQ : Q U T D f) {a : Nat} (ha : a < 23) {post : Int32 → Um → Prop} (h1 : cdS T f = ownL.getD a 0 → post 1 U) (h0 : cdS T f ≠ ownL.getD a 0 → post 0 U) : w_X12_isWord 55 a U post := by
  obtain ⟨q0, q1, q2, q3⟩ := Q_c hQ
  obtain ⟨hM, hD, ho, ht, h20, h21, hT, f0, f1⟩ := hQ
  obtain ⟨n1, n2⟩ := own_n ⟨a, ha⟩
  have kb := tk_b (T := T) (f := f)
  have iff := cd_w ht f0 f1 (n := slens.getD a 0) (c := ownL.getD a 0) n1 n2
  have lb : 0 < ownL.getD a 0 ∧ ownL.getD a 0 < 387420489 := own_b ⟨a, ha⟩
  unfold w_X12_isWord
  refine br_eq (tkS T f) 1 hT.2.2.1 rfl ⟨by omega, by omega⟩ ⟨by omega, by omega⟩ (fun c => ?_) (fun c => h0 (fun q => c (iff.mpr q).1))
  unfold w_J0_length_8abf5 w_J0_coder_7d493
  refine br_1 ?_
  have n1' : 1 ≤ slens.getD a 0 ∧ slens.getD a 0 ≤ 6 := n1
  refine br_eq (teS T f - f) ((slens.getD a 0 : Nat) : Int) (jsub hT.2.1 hT.1) (own_l ⟨a, ha⟩) ⟨by omega, by omega⟩ ⟨by omega, by omega⟩ (fun c2 => ?_) (fun c2 => h0 (fun q => c2 (iff.mpr q).2.1))
  refine pk_all ha ?_
  have r := tw_r ht f0 f1 c
  refine br_l0 (twS T f) (ownL.getD a 0) hT.2.2.2.1 rfl r ⟨by omega, by omega⟩ (fun c3 => h1 (iff.mp ⟨c, c2, c3⟩)) (fun c3 => h0 (fun q => c3 (iff.mpr q).2.2))
theorem p_isSign {U : Um} {T D : Tm} {f : Int} (hQ : Q U T D f) {a1 : Int32} (s : Int) (e : a1 = jI s) (hs : 0 ≤ s ∧ s ≤ 255) {post : Int32 → Um → Prop} (h1 : sgS T f = s → post 1 U) (h0 : sgS T f ≠ s → post 0 U) : w_X12_isSign 55 a1 U post := by
  obtain ⟨hM, hD, ho, ht, h20, h21, hT, f0, f1⟩ := hQ
  have kb := tk_b (T := T) (f := f)
  have sb := see_b ht f0
  unfold w_X12_isSign
  unfold sgS at h1 h0
  refine br_eq (tkS T f) 3 hT.2.2.1 rfl ⟨by omega, by omega⟩ ⟨by omega, by omega⟩ (fun c => ?_) (fun c => ?_)
  · rw [if_pos c] at h1 h0
    have et : tsS T f = seeS T f := if_pos c
    exact br_eq (tsS T f) s hT.2.2.2.2.2 e ⟨by omega, by omega⟩ ⟨by omega, by omega⟩ h1 h0
  · rw [if_neg c] at h0
    exact h0 (by omega)
theorem p_isOwn {U : Um} {T D : Tm} {f : Int} (hQ : Q U T D f) {post : Int32 → Um → Prop} (h1 : cdS T f ∈ ownL → post 1 U) (h0 : cdS T f ∉ ownL → post 0 U) : w_X12_isOwn 55 U post := by
  unfold w_X12_isOwn
  refine p_isWord hQ (a := 0) (by decide) (fun c => br_1 (h1 (by rw [c]; decide))) (fun c0 => br_0 ?_)
  refine p_isWord hQ (a := 1) (by decide) (fun c => br_1 (h1 (by rw [c]; decide))) (fun c1 => br_0 ?_)
  refine p_isWord hQ (a := 2) (by decide) (fun c => br_1 (h1 (by rw [c]; decide))) (fun c2 => br_0 ?_)
  refine p_isWord hQ (a := 3) (by decide) (fun c => br_1 (h1 (by rw [c]; decide))) (fun c3 => br_0 ?_)
  refine p_isWord hQ (a := 4) (by decide) (fun c => br_1 (h1 (by rw [c]; decide))) (fun c4 => br_0 ?_)
  refine p_isWord hQ (a := 5) (by decide) (fun c => br_1 (h1 (by rw [c]; decide))) (fun c5 => br_0 ?_)
  refine p_isWord hQ (a := 6) (by decide) (fun c => br_1 (h1 (by rw [c]; decide))) (fun c6 => br_0 ?_)
  refine p_isWord hQ (a := 7) (by decide) (fun c => br_1 (h1 (by rw [c]; decide))) (fun c7 => br_0 ?_)
  refine p_isWord hQ (a := 8) (by decide) (fun c => br_1 (h1 (by rw [c]; decide))) (fun c8 => br_0 ?_)
  refine p_isWord hQ (a := 9) (by decide) (fun c => br_1 (h1 (by rw [c]; decide))) (fun c9 => br_0 ?_)
  refine p_isWord hQ (a := 10) (by decide) (fun c => br_1 (h1 (by rw [c]; decide))) (fun c10 => br_0 ?_)
  refine p_isWord hQ (a := 11) (by decide) (fun c => br_1 (h1 (by rw [c]; decide))) (fun c11 => br_0 ?_)
  refine p_isWord hQ (a := 12) (by decide) (fun c => br_1 (h1 (by rw [c]; decide))) (fun c12 => br_0 ?_)
  refine p_isWord hQ (a := 13) (by decide) (fun c => br_1 (h1 (by rw [c]; decide))) (fun c13 => br_0 ?_)
  refine p_isWord hQ (a := 14) (by decide) (fun c => br_1 (h1 (by rw [c]; decide))) (fun c14 => br_0 ?_)
  refine p_isWord hQ (a := 15) (by decide) (fun c => br_1 (h1 (by rw [c]; decide))) (fun c15 => br_0 ?_)
  refine p_isWord hQ (a := 16) (by decide) (fun c => br_1 (h1 (by rw [c]; decide))) (fun c16 => br_0 ?_)
  refine p_isWord hQ (a := 17) (by decide) (fun c => br_1 (h1 (by rw [c]; decide))) (fun c17 => br_0 ?_)
  refine p_isWord hQ (a := 18) (by decide) (fun c => br_1 (h1 (by rw [c]; decide))) (fun c18 => br_0 ?_)
  refine p_isWord hQ (a := 19) (by decide) (fun c => br_1 (h1 (by rw [c]; decide))) (fun c19 => br_0 ?_)
  refine p_isWord hQ (a := 20) (by decide) (fun c => br_1 (h1 (by rw [c]; decide))) (fun c20 => br_0 ?_)
  refine p_isWord hQ (a := 21) (by decide) (fun c => br_1 (h1 (by rw [c]; decide))) (fun c21 => br_0 ?_)
  refine p_isWord hQ (a := 22) (by decide) (fun c => br_1 (h1 (by rw [c]; decide))) (fun c22 => br_0 ?_)
  refine h0 (fun q => ?_)
  simp only [ownL, List.mem_cons, List.not_mem_nil, or_false] at q
  rcases q with q | q | q | q | q | q | q | q | q | q | q | q | q | q | q | q | q | q | q | q | q | q | q
  · exact c0 q
  · exact c1 q
  · exact c2 q
  · exact c3 q
  · exact c4 q
  · exact c5 q
  · exact c6 q
  · exact c7 q
  · exact c8 q
  · exact c9 q
  · exact c10 q
  · exact c11 q
  · exact c12 q
  · exact c13 q
  · exact c14 q
  · exact c15 q
  · exact c16 q
  · exact c17 q
  · exact c18 q
  · exact c19 q
  · exact c20 q
  · exact c21 q
  · exact c22 q
abbrev nameOk (T : Tm) (f : Int) : Prop := cdS T f ≠ -1 ∧ cdS T f ∉ ownL
theorem p_isName {U : Um} {T D : Tm} {f : Int} (hQ : Q U T D f) {post : Int32 → Um → Prop} (h1 : nameOk T f → post 1 U) (h0 : ¬ nameOk T f → post 0 U) : w_X12_isName 55 U post := by
  have hQ' := hQ
  obtain ⟨q0, q1, q2, q3⟩ := Q_c hQ
  obtain ⟨hM, hD, ho, ht, h20, h21, hT, f0, f1⟩ := hQ
  have kb := tk_b (T := T) (f := f)
  unfold w_X12_isName
  refine br_eq (tkS T f) 1 hT.2.2.1 rfl ⟨by omega, by omega⟩ ⟨by omega, by omega⟩ (fun c => ?_) (fun c => h0 (fun q => q.1 (if_neg (fun z => c z.1))))
  refine br_lt 6 (teS T f - f) rfl (jsub hT.2.1 hT.1) ⟨by omega, by omega⟩ ⟨by omega, by omega⟩ (fun c2 => h0 (fun q => q.1 (if_neg (fun z => by omega)))) (fun c2 => ?_)
  refine p_isOwn hQ' (fun c3 => br_1 (h0 (fun q => q.2 c3))) (fun c3 => br_0 (h1 ⟨?_, c3⟩))
  obtain ⟨n, a, b, d, e, g⟩ := tw_b ht f0 f1 c c2
  unfold cdS
  rw [if_pos ⟨c, c2⟩]
  have : n = 1 ∨ n = 2 ∨ n = 3 ∨ n = 4 ∨ n = 5 ∨ n = 6 := by omega
  rcases this with q | q | q | q | q | q <;> (subst q; simp [wlo] at e; omega)
theorem p_takes {U : Um} {T D : Tm} {f : Int} (hQ : Q U T D f) {a : Nat} (ha : a < 23) {post : Int32 → Um → Prop} (h1 : cdS T f = ownL.getD a 0 → ∀ V : Um, Q V T D (nx T f) → fO U V → uI V 55 28 = uI U 55 28 → post 1 V) (h0 : cdS T f ≠ ownL.getD a 0 → ∀ V : Um, Qb V T 1 f → fO U V → post 0 V) : w_X12_takes 55 a U post := by
  unfold w_X12_takes
  exact p_isWord hQ ha (fun c => br_1 (p_next hQ (h1 c))) (fun c => br_0 (s_X12_fails hQ 1 rfl ⟨by omega, by omega⟩ (fun V v w => ⟨Or.inl rfl, h0 c V v w⟩)))
/-- what is wrong with a number: 1, 2 or nothing -/
def nmE (T : Tm) (f lo hi : Int) : Int := if nuS T f = -1 then 1 else if lo ≤ nuS T f ∧ nuS T f ≤ hi then 0 else 2
theorem nmN_b {T : Tm} (ht : It T) {f : Int} : ∀ m : Nat, (∀ i : Nat, i < m → 48 ≤ seeS T (f + i) ∧ seeS T (f + i) ≤ 57) → 0 ≤ nmN T f m ∧ nmN T f m ≤ 9999 ∧ (m ≤ 3 → nmN T f m ≤ 999) ∧ (m ≤ 2 → nmN T f m ≤ 99) ∧ (m ≤ 1 → nmN T f m ≤ 9) ∧ (m = 0 → nmN T f m = 0) := by
  intro m
  induction m with
  | zero => intro _; exact ⟨Int.le_refl 0, by show (0 : Int) ≤ 9999; decide, fun _ => by show (0 : Int) ≤ 999; decide, fun _ => by show (0 : Int) ≤ 99; decide, fun _ => by show (0 : Int) ≤ 9; decide, fun _ => rfl⟩
  | succ m ih =>
    intro h
    obtain ⟨a0, a, b, c, d, e⟩ := ih (fun i hi => h i (by omega))
    have z := h m (by omega)
    unfold nmN
    by_cases q : (m : Int) < 4
    · rw [if_pos q]
      have : m = 0 ∨ m = 1 ∨ m = 2 ∨ m = 3 := by omega
      rcases this with q | q | q | q
      · have := e q; omega
      · have := d (by omega); omega
      · have := c (by omega); omega
      · have := b (by omega); omega
    · rw [if_neg q]
      omega
theorem tn_b {T : Tm} (ht : It T) {f : Int} (f0 : 0 ≤ f) (f1 : f ≤ 1201) : 0 ≤ tnS T f ∧ tnS T f ≤ 9999 := by
  obtain ⟨_, _, _, d⟩ := te_b ht f0 f1
  unfold tnS
  by_cases c : tkS T f = 2
  · rw [if_pos c]
    have d := d (by omega)
    have e : teS T f = spN T 48 57 (T 17 0 - f).toNat f := by
      unfold teS spS
      rw [if_neg (by omega), if_neg (by omega), if_pos c]
    have := nmN_b ht (f := f) (teS T f - f).toNat (fun i hi => spN_in _ f (f + i) (by omega) (by rw [← e]; omega))
    omega
  · rw [if_neg c]
    omega
theorem nu_b {T : Tm} (ht : It T) {f : Int} (f0 : 0 ≤ f) (f1 : f ≤ 1201) : -1 ≤ nuS T f ∧ nuS T f ≤ 9999 := by
  have := tn_b ht f0 f1
  unfold nuS
  split <;> omega
theorem p_readNumber {U : Um} {T D : Tm} {f : Int} (hQ : Q U T D f) {a1 a2 : Int32} {lo hi : Int} (e1 : a1 = jI lo) (e2 : a2 = jI hi) (hl : 0 ≤ lo ∧ lo ≤ 9999) (hh : 0 ≤ hi ∧ hi ≤ 9999) {post : Int32 → Um → Prop} (h1 : nmE T f lo hi = 0 → ∀ V : Um, Q V T D (nx T f) → fO U V → uI V 55 28 = jI (nuS T f) → lo ≤ nuS T f → nuS T f ≤ hi → post 1 V) (h0 : nmE T f lo hi ≠ 0 → ∀ V : Um, Qb V T (nmE T f lo hi) f → fO U V → post 0 V) : w_X12_readNumber 55 a1 a2 U post := by
  have hQ' := hQ
  obtain ⟨q0, q1, q2, q3⟩ := Q_c hQ
  obtain ⟨hM, hD, ho, ht, h20, h21, hT, f0, f1⟩ := hQ
  have kb := tk_b (T := T) (f := f)
  have nb := tn_b ht f0 f1
  unfold w_X12_readNumber
  intro K hK
  have bad : ¬ (tkS T f = 2 ∧ teS T f - f ≤ 4) → K := fun c => by
    have e : nuS T f = -1 := if_neg c
    have e3 : nmE T f lo hi = 1 := by unfold nmE; rw [if_pos e]
    rw [e3] at h0
    exact hK (s_X12_fails hQ' 1 rfl ⟨by omega, by omega⟩ (fun V v w => ⟨Or.inl rfl, h0 (by omega) V v w⟩))
  refine br_eq (tkS T f) 2 hT.2.2.1 rfl ⟨by omega, by omega⟩ ⟨by omega, by omega⟩ (fun c => ?_) (fun c => bad (fun z => c z.1))
  refine br_le (teS T f - f) 4 (jsub hT.2.1 hT.1) rfl ⟨by omega, by omega⟩ ⟨by omega, by omega⟩ (fun c2 => ?_) (fun c2 => bad (fun z => by omega))
  have en : nuS T f = tnS T f := if_pos ⟨c, c2⟩
  have hn := hT.2.2.2.2.1
  refine s_X12_isIn (a := tnS T f) (lo := lo) (hi := hi) (jlong hn ⟨by omega, by omega⟩) (jlong e1 ⟨by omega, by omega⟩) (jlong e2 ⟨by omega, by omega⟩) ⟨by omega, by omega⟩ ⟨by omega, by omega⟩ ⟨by omega, by omega⟩ (fun c3 => ?_) (fun c3 => ?_)
  · have e3 : nmE T f lo hi = 0 := by unfold nmE; rw [if_neg (by omega), if_pos (by omega)]
    refine br_1 ?_
    intro V hV
    have qV : Q V T D f := by
      rw [hV]
      refine ⟨M_xI hM, MD_xI hD, ho, ht, ?_, ?_, ?_, f0, f1⟩
      · rw [uI_sI, if_neg (by omega)]; exact h20
      · rw [uI_sI, if_neg (by omega)]; exact h21
      · obtain ⟨t1, t2, t3, t4, t5, t6⟩ := hT
        exact ⟨by rw [uI_sI, if_neg (by omega)]; exact t1, by rw [uI_sI, if_neg (by omega)]; exact t2, by rw [uI_sI, if_neg (by omega)]; exact t3, by rw [uL_sI]; exact t4, by rw [uI_sI, if_neg (by omega)]; exact t5, by rw [uI_sI, if_neg (by omega)]; exact t6⟩
    refine p_next qV (fun W wQ wF w28 => h1 e3 W wQ (fO_trans ⟨by rw [hV]; exact fM_sI, by rw [hV, uI_sI, if_neg (by omega)]⟩ wF) ?_ (by omega) (by omega))
    rw [w28, hV, uI_sI, if_pos ⟨rfl, rfl⟩, en]
    exact hn
  · have e3 : nmE T f lo hi = 2 := by unfold nmE; rw [if_neg (by omega), if_neg (by omega)]
    rw [e3] at h0
    exact br_0 (s_X12_fails hQ' 2 rfl ⟨by omega, by omega⟩ (fun V v w => ⟨Or.inl rfl, h0 (by omega) V v w⟩))
