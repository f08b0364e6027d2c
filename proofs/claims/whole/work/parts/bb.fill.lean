/-! the class: fills -/
noncomputable def tf (T : Tm) (p : Int) (ps : List Int) (o n : Int) : Option Tm × Int := tryN T p (srch ps) (T 11 2 - o).toNat o n
abbrev Sk : Type := List (Int × Int × List Int × Tm)
noncomputable def bk : Sk → Int → Option Tm × Int
  | [], n => (none, n)
  | (p, o, ps, T) :: s, n => match tf T p ps (o + 1) n with
    | (some T2, k) => (some T2, k)
    | (none, k) => bk s k
noncomputable def cmb (r : Option Tm × Int) (s : Sk) : Option Tm × Int := match r with
  | (some T2, k) => (some T2, k)
  | (none, k) => bk s k
noncomputable def curS (T : Tm) (ps : List Int) (o n : Int) : Option Tm × Int := match ps with
  | [] => (some T, n)
  | p :: ps => tf T p ps o n
theorem tryN_big {T : Tm} {p : Int} {f : Tm → Int → Option Tm × Int} {n : Int} (h : 20000 < n) : ∀ (m : Nat) (o : Int), tryN T p f m o n = (none, n) := by
  intro m o
  cases m with
  | zero => rfl
  | succ m => exact if_pos h
theorem bk_big {n : Int} (h : 20000 < n) : ∀ s : Sk, bk s n = (none, n) := by
  intro s
  induction s with
  | nil => rfl
  | cons a s ih =>
    obtain ⟨p, o, ps, T⟩ := a
    have e : tf T p ps (o + 1) n = (none, n) := tryN_big h _ _
    show (match tf T p ps (o + 1) n with
      | (some T2, k) => (some T2, k)
      | (none, k) => bk s k) = _
    rw [e]
    exact ih
theorem tf_s {T : Tm} {p : Int} {ps : List Int} {o n : Int} (h0 : o < T 11 2) : tf T p ps o n = if 20000 < n then (none, n) else cif (whyS T (p / 3) (p % 3) o = 0) (if 20000 < n + 1 then (none, n + 1) else match srch ps (up T 30 p o) (n + 1) with
    | (some T2, k) => (some T2, k)
    | (none, k) => tf T p ps (o + 1) k) (tf T p ps (o + 1) n) := by
  unfold tf
  rw [show (T 11 2 - o).toNat = (T 11 2 - (o + 1)).toNat + 1 by omega]
  rfl
theorem tf_e {T : Tm} {p : Int} {ps : List Int} {o n : Int} (h0 : T 11 2 ≤ o) : tf T p ps o n = (none, n) := by
  unfold tf
  rw [show (T 11 2 - o).toNat = 0 by omega]
  rfl
theorem tf_skip {T : Tm} {p : Int} {ps : List Int} {n : Int} (hn : n ≤ 20000) : ∀ (d : Nat) (o : Int), o + d ≤ T 11 2 → (∀ j, o ≤ j → j < o + d → whyS T (p / 3) (p % 3) j ≠ 0) → tf T p ps o n = tf T p ps (o + d) n := by
  intro d
  induction d with
  | zero => intro o _ _; rw [show o + ((0 : Nat) : Int) = o by omega]
  | succ d ih =>
    intro o h1 h2
    rw [tf_s (by omega), if_neg (by omega), cif_f (h2 o (Int.le_refl _) (by omega)), ih (o + 1) (by omega) (fun j a b => h2 j (by omega) (by omega)), show o + 1 + (d : Int) = o + ((d + 1 : Nat) : Int) by omega]
theorem srch_cur {T : Tm} {ps : List Int} {n : Int} : srch ps T n = curS T ps 0 n := by
  cases ps with
  | nil => rfl
  | cons p ps =>
    show tryN T p (srch ps) (T 11 2).toNat 0 n = tf T p ps 0 n
    unfold tf
    rw [Int.sub_zero]
/-- what was put, and whereon -/
def SO (T : Tm) (l : List Int) (w : Nat) (V : Um) : Sk → Tm → List Int → Prop
  | [], T2, ps => T2 = T ∧ ps = l
  | (p, o, ps1, Tp) :: s, T2, ps => ps1 = ps ∧ T2 = up Tp 30 p o ∧ Tp 30 p = -1 ∧ uA V 3 2 s.length = jI o ∧ isOne Tp o ∧ isSeat Tp (p / 3) (p % 3) ∧ I2 Tp ∧ SO T l w V s Tp (p :: ps)
theorem SO_x {T : Tm} {l : List Int} {w : Nat} {V Z : Um} : ∀ (s : Sk) (T2 : Tm) (ps : List Int), (∀ j, j < s.length → uA Z 3 2 j = uA V 3 2 j) → SO T l w V s T2 ps → SO T l w Z s T2 ps := by
  intro s
  induction s with
  | nil => intro T2 ps _ h; exact h
  | cons a s ih =>
    intro T2 ps hf h
    obtain ⟨p, o, ps1, Tp⟩ := a
    obtain ⟨a1, a2, a3, a4, a5, a6, a7, a8⟩ := h
    exact ⟨a1, a2, a3, (hf s.length (by simp)).trans a4, a5, a6, a7, ih Tp (p :: ps) (fun j hj => hf j (by simp; omega)) a8⟩
theorem SO_len {T : Tm} {l : List Int} {w : Nat} {V : Um} : ∀ (s : Sk) (T2 : Tm) (ps : List Int), SO T l w V s T2 ps → s.length + ps.length = l.length ∧ ps = l.drop s.length ∧ al30 T T2 := by
  intro s
  induction s with
  | nil =>
    intro T2 ps h
    obtain ⟨h1, h2⟩ := h
    rw [h1, h2]
    exact ⟨by simp, rfl, fun _ _ _ => rfl⟩
  | cons a s ih =>
    intro T2 ps h
    obtain ⟨p, o, ps1, Tp⟩ := a
    obtain ⟨a1, a2, a3, a4, a5, a6, a7, a8⟩ := h
    obtain ⟨b1, b2, b3⟩ := ih Tp (p :: ps) a8
    refine ⟨by simp at b1 ⊢; omega, ?_, fun k j hk => by rw [a2, up_nf hk]; exact b3 k j hk⟩
    have : l.drop (s.length + 1) = (l.drop s.length).drop 1 := by rw [List.drop_drop]
    simp only [List.length_cons]
    rw [this, ← b2]
    rfl
theorem drop_nd {l ps : List Int} {p : Int} {n : Nat} (h : p :: ps = l.drop n) : nth l n = p := by
  unfold nth
  rw [Int.toNat_natCast]
  have := congrArg (fun l => l.getD 0 0) h
  simp only [List.getD_cons_zero] at this
  rw [this]
  simp [List.getD]
theorem j3 {p : Int} (p0 : 0 ≤ p) (p1 : p ≤ 1000) : jI p / 3 = jI (p / 3) ∧ jI p - jI p / 3 * 3 = jI (p % 3) :=
  ⟨jdiv (x := p) (y := 3) rfl rfl ⟨by omega, by omega⟩ ⟨by omega, by omega⟩ p0 (by decide), jrem (x := p) (y := 3) rfl rfl ⟨by omega, by omega⟩ ⟨by omega, by omega⟩ p0 (by decide)⟩
theorem xl_first {U : Um} {T : Tm} {w : Nat} (hC : CC U T w) (hI : I1 T) (h2 : I2 T) {p : Int} (p0 : 0 ≤ p) (p1 : p < 48) {post : Int32 → Um → Prop} {K : Um → Prop} {from_ : Int} (hR : ∀ o : Int, from_ ≤ o → o < T 11 2 → whyF T (p / 3) (p % 3) o = 0 → (∀ j, from_ ≤ j → j < o → whyF T (p / 3) (p % 3) j ≠ 0) → post (jI o) U) (hK : (∀ j, from_ ≤ j → j < T 11 2 → whyF T (p / 3) (p % 3) j ≠ 0) → K U) : ∀ (fu : Nat) (o : Int), 0 ≤ o → o ≤ T 11 2 → from_ ≤ o → (∀ j, from_ ≤ j → j < o → whyF T (p / 3) (p % 3) j ≠ 0) → (T 11 2 - o).toNat < fu → w_X1_firstFor_L2 3 (jI p) post K fu (jI o) U := by
  have hn := I_n hI
  have q3 := r_3 hC (x := 3) rfl
  intro fu
  induction fu with
  | zero => intro o _ _ _ _ h; exact absurd h (Nat.not_lt_zero _)
  | succ fu ih =>
    intro o o0 o1 fo hj hf
    show b_X1_firstFor_L2 3 (jI p) post K (w_X1_firstFor_L2 3 (jI p) post K fu) (jI o) U
    unfold b_X1_firstFor_L2
    refine ⟨oc_of q3 rfl, x_X6_officials hC hI h2 (eo := q3) (br_le (T 11 2) o rfl rfl ⟨by omega, by omega⟩ ⟨by omega, by omega⟩ (fun c => ?_) (fun c => ?_))⟩
    · exact hK (fun j a b => hj j a (by omega))
    have wb := whyF_b T (p / 3) (p % 3) o
    refine ⟨oc_of q3 rfl, x_reason hC hI h2 (eo := q3) (g := p / 3) (s := p % 3) (j3 p0 (by omega)).1 (j3 p0 (by omega)).2 rfl ⟨by omega, by omega⟩ ⟨by omega, by omega⟩ ⟨by omega, by omega⟩ ?_⟩
    refine br_eq (whyF T (p / 3) (p % 3) o) 0 rfl rfl ⟨by omega, by omega⟩ ⟨by omega, by omega⟩ (fun c2 => hR o fo c c2 hj) (fun c2 y hy => ?_)
    rw [hy, show jI o + 1 = jI (o + 1) from jadd rfl rfl]
    refine ih (o + 1) (by omega) (by omega) (by omega) (fun j a b => ?_) (by omega)
    by_cases z : j = o
    · rw [z]; exact c2
    · exact hj j a (by omega)
theorem x_first {U : Um} {T : Tm} {w : Nat} (hC : CC U T w) (hI : I1 T) (h2 : I2 T) {ob : Nat} (eo : ob = 3) {a1 a2 : Int32} {p f : Int} (e1 : a1 = jI p) (e2 : a2 = jI f) (p0 : 0 ≤ p) (p1 : p < 48) (f0 : 0 ≤ f) (f1 : f ≤ T 11 2) {post : Int32 → Um → Prop} (hR : ∀ o : Int, f ≤ o → o < T 11 2 → whyF T (p / 3) (p % 3) o = 0 → (∀ j, f ≤ j → j < o → whyF T (p / 3) (p % 3) j ≠ 0) → post (jI o) U) (hK : (∀ j, f ≤ j → j < T 11 2 → whyF T (p / 3) (p % 3) j ≠ 0) → post (-1) U) : w_X1_firstFor ob a1 a2 U post := by
  subst e1 e2
  rw [eo]
  unfold w_X1_firstFor
  exact al_i f rfl ⟨(T 11 2 - f).toNat + 1, xl_first (from_ := f) hC hI h2 p0 p1 hR hK _ f f0 f1 (Int.le_refl _) (fun j a b => by omega) (Nat.lt_succ_self _)⟩
/-- the open seats, as the class lists them -/
theorem opl_app {T : Tm} : ∀ (n m : Nat) (k : Int), opl T (n + m) k = opl T n k ++ opl T m (k + n) := by
  intro n
  induction n with
  | zero => intro m k; rw [Nat.zero_add, show k + ((0 : Nat) : Int) = k by omega]; rfl
  | succ n ih =>
    intro m k
    rw [show n + 1 + m = (n + m) + 1 by omega]
    show cif (opnS T k) (k :: opl T (n + m) (k + 1)) (opl T (n + m) (k + 1)) = cif (opnS T k) (k :: opl T n (k + 1)) (opl T n (k + 1)) ++ _
    rw [ih m (k + 1), show k + 1 + (n : Int) = k + ((n + 1 : Nat) : Int) by omega]
    by_cases c : opnS T k
    · rw [cif_t c, cif_t c]; rfl
    · rw [cif_f c, cif_f c]
theorem opl_mem {T : Tm} : ∀ (n : Nat) (k x : Int), x ∈ opl T n k → (k ≤ x ∧ x < k + n) ∧ opnS T x := by
  intro n
  induction n with
  | zero => intro k x h; cases h
  | succ n ih =>
    intro k x h
    have h : x ∈ cif (opnS T k) (k :: opl T n (k + 1)) (opl T n (k + 1)) := h
    by_cases c : opnS T k
    · rw [cif_t c] at h
      rcases List.mem_cons.mp h with e | e
      · rw [e]; exact ⟨by omega, c⟩
      · have := ih (k + 1) x e
        exact ⟨by omega, this.2⟩
    · rw [cif_f c] at h
      have := ih (k + 1) x h
      exact ⟨by omega, this.2⟩
theorem opl_none {T : Tm} : ∀ (n : Nat) (k : Int), (∀ j, k ≤ j → j < k + n → ¬ opnS T j) → opl T n k = [] := by
  intro n k h
  refine List.eq_nil_iff_forall_not_mem.mpr (fun x hx => ?_)
  have m := opl_mem n k x hx
  exact h x m.1.1 m.1.2 m.2
theorem opl_one {T : Tm} {k : Int} : opl T 1 k = cif (opnS T k) [k] [] := rfl
def opIs (V : Um) (l : List Int) : Prop := ∀ j, j < l.length → uA V 3 1 j = jI (l.getD j 0)
theorem opIs_s {V Z : Um} {l : List Int} {k : Int} {E : Int32} (h : opIs V l) (hE : E = jI (l.length : Int)) (hl : l.length < 1000) (hZ : Z = sA V 3 1 (va_up (uA V 3 1) (Int32.toNatClampNeg E) (jI k))) : opIs Z (l ++ [k]) := by
  intro j hj
  rw [hZ, uA_sA, if_pos ⟨rfl, rfl⟩, hE, rd_nat (by omega)]
  unfold va_up
  by_cases c : j = l.length
  · rw [if_pos c, c]
    simp [List.getD]
  · rw [if_neg c]
    have hj2 : j < l.length := by simp at hj; omega
    rw [h j hj2]
    simp [List.getD, List.getElem?_append_left hj2]
theorem xl_lo49 {U : Um} {T : Tm} {w : Nat} (hC : CC U T w) (hI : I1 T) (h2 : I2 T) {g : Int} (g0 : 0 ≤ g) (g1 : g < T 11 3) (x3 : Int32) (hx : (x3 = 1 ∧ ¬ gm T g 3 < T 35 0 ∧ gm T g 3 ≠ T 35 0) ∨ (x3 = 0 ∧ ¬ (¬ gm T g 3 < T 35 0 ∧ gm T g 3 ≠ T 35 0))) {post K : Int32 → Um → Prop} (hK : ∀ V : Um, CC V T w → fX (fun o _ => o = 3) U V → opIs V (opl T (3 * (g + 1)).toNat 0) → K (jI ((opl T (3 * (g + 1)).toNat 0).length : Int)) V) : ∀ (fu : Nat) (s : Int) (V : Um), CC V T w → fX (fun o _ => o = 3) U V → 0 ≤ s → s ≤ gm T g 7 → opIs V (opl T (3 * g + s).toNat 0) → (s = 0 ∨ x3 = 1) → (gm T g 7 - s).toNat < fu → w_X1_listOpen_L49 3 (jI g) x3 post K fu (jI ((opl T (3 * g + s).toNat 0).length : Int)) (jI s) V := by
  have hn := I_n hI
  have hg := I_g hI g g0 g1
  unfold gOk at hg
  have lb : ∀ k : Int, 0 ≤ k → k ≤ 48 → ((opl T k.toNat 0).length : Int) ≤ k := fun k k0 k1 => by
    have := opl_len (T := T) k.toNat 0 (by decide)
    rw [cnt_0 (Int.le_refl _)] at this
    have b := cnt_b (p := opnS T) (n := 0 + (k.toNat : Int)) (by omega)
    omega
  have rest : ∀ s : Int, 0 ≤ s → (∀ j, 3 * g + s ≤ j → j < 3 * g + 3 → ¬ opnS T j) → s ≤ 3 → opl T (3 * (g + 1)).toNat 0 = opl T (3 * g + s).toNat 0 := fun s s0 hno s3 => by
    rw [show (3 * (g + 1)).toNat = (3 * g + s).toNat + (3 - s).toNat by omega, opl_app, opl_none (3 - s).toNat _ (fun j a b => hno j (by omega) (by omega)), List.append_nil]
  intro fu
  induction fu with
  | zero => intro s V _ _ _ _ _ _ h; exact absurd h (Nat.not_lt_zero _)
  | succ fu ih =>
    intro s V hV hF s0 s1 ho hs hf
    have hw := hV.1.1
    have q3 := r_3 hV (x := 3) rfl
    have q0 := r_42 hV q3
    have qg := r_g hV q0 (E := jI g) g rfl g0 (by omega)
    show b_X1_listOpen_L49 3 (jI g) x3 post K (w_X1_listOpen_L49 3 (jI g) x3 post K fu) (jI ((opl T (3 * g + s).toNat 0).length : Int)) (jI s) V
    unfold b_X1_listOpen_L49
    have done : (∀ j, 3 * g + s ≤ j → j < 3 * g + 3 → ¬ opnS T j) → K (jI ((opl T (3 * g + s).toNat 0).length : Int)) V := fun hno => by
      have e := rest s s0 hno (by omega)
      rw [← e] at ho ⊢
      exact hK V hV hF ho
    rcases hx with ⟨e, a, b⟩ | ⟨e, a⟩
    · rw [e]
      refine ⟨fun q => absurd q (by decide), fun _ => ⟨oc_of q3 rfl, oc_of q0 (oc_w hw), jvp g rfl g0 (by omega) (by decide), oc_of qg (oc_g hw (by omega)), ?_⟩⟩
      refine br_le (gm T g 7) s (c_g hV qg 7 g0 g1 (by decide)) rfl ⟨by omega, by omega⟩ ⟨by omega, by omega⟩ (fun c => ?_) (fun c => ?_)
      · refine done (fun j j0 j1 q => ?_)
        have := q.1.2
        rw [show j / 3 = g by omega] at this
        omega
      have eo : opnS T (3 * g + s) ↔ T 30 (3 * g + s) = -1 := by
        unfold opnS
        rw [show (3 * g + s) / 3 = g by omega, show (3 * g + s) % 3 = s by omega]
        exact ⟨fun q => q.2.1, fun q => ⟨⟨⟨g0, g1⟩, s0, c⟩, q, a, b⟩⟩
      have e1 : opl T (3 * g + (s + 1)).toNat 0 = opl T (3 * g + s).toNat 0 ++ cif (opnS T (3 * g + s)) [3 * g + s] [] := by
        rw [show (3 * g + (s + 1)).toNat = (3 * g + s).toNat + 1 by omega, opl_app, opl_one, show (0 : Int) + ((3 * g + s).toNat : Int) = 3 * g + s by omega]
      have ss : jI s + 1 = jI (s + 1) := jadd rfl rfl
      have ik := I_k h2 (3 * g + s) (by omega) (by omega)
      have lbs := lb (3 * g + s) (by omega) (by omega)
      refine x_X9_placeOf (g := g) (s := s) rfl rfl ⟨oc_of q3 rfl, jvp (3 * g + s) rfl (by omega) (by omega) (by decide), ?_⟩
      refine br_eq (T 30 (3 * g + s)) (-1) (c_h hV q3 (3 * g + s) rfl (by omega) (by omega)) rfl ⟨by omega, by omega⟩ ⟨by omega, by omega⟩ (fun c2 => ?_) (fun c2 => ?_)
      · rw [cif_t (eo.mpr c2)] at e1
        refine ⟨jvp _ rfl (by omega) (by omega) (by decide), fun Z hZ => ?_⟩
        have fZ : fX (fun o _ => o = 3) V Z := by rw [hZ]; exact fX_sA rfl
        refine al_i ((opl T (3 * g + (s + 1)).toNat 0).length : Int) (by rw [e1, List.length_append]; exact (show jI ((opl T (3 * g + s).toNat 0).length : Int) + jI ((1 : Nat) : Int) = _ from jn_add _ 1)) (fun y hy => ?_)
        rw [hy, ss, ← e]
        exact ih (s + 1) Z (CC_x hI fZ P3_Z hV) (fX_trans hF fZ) (by omega) (by omega) (by rw [e1]; exact opIs_s ho rfl (by omega) hZ) (Or.inr e) (by omega)
      · rw [cif_f (fun q => c2 (eo.mp q)), List.append_nil] at e1
        intro y hy
        rw [hy, ss, ← e1, ← e]
        exact ih (s + 1) V hV hF (by omega) (by omega) (by rw [e1]; exact ho) (Or.inr e) (by omega)
    · rw [e]
      refine ⟨fun _ => done (fun j j0 j1 q => a ?_), fun q => absurd rfl q⟩
      have z : j / 3 = g := by
        rcases hs with h | h
        · omega
        · rw [h] at e; exact absurd e (by decide)
      have := q.2.2
      rw [z] at this
      exact this
theorem xl_lo4 {U : Um} {T : Tm} {w : Nat} (hI : I1 T) (h2 : I2 T) {post K : Int32 → Um → Prop} (hK : ∀ V : Um, CC V T w → fX (fun o _ => o = 3) U V → opIs V (opl T 48 0) → K (jI ((opl T 48 0).length : Int)) V) : ∀ (fu : Nat) (g : Int) (V : Um), CC V T w → fX (fun o _ => o = 3) U V → 0 ≤ g → g ≤ T 11 3 → opIs V (opl T (3 * g).toNat 0) → (T 11 3 - g).toNat < fu → w_X1_listOpen_L4 3 post K fu (jI ((opl T (3 * g).toNat 0).length : Int)) (jI g) V := by
  have hn := I_n hI
  intro fu
  induction fu with
  | zero => intro g V _ _ _ _ _ h; exact absurd h (Nat.not_lt_zero _)
  | succ fu ih =>
    intro g V hV hF g0 g1 ho hf
    have hw := hV.1.1
    have q3 := r_3 hV (x := 3) rfl
    have q0 := r_42 hV q3
    show b_X1_listOpen_L4 3 post K (w_X1_listOpen_L4 3 post K fu) (jI ((opl T (3 * g).toNat 0).length : Int)) (jI g) V
    unfold b_X1_listOpen_L4
    refine ⟨oc_of q3 rfl, oc_of q0 (oc_w hw), br_le (T 11 3) g (c_n7 hV q0) rfl ⟨by omega, by omega⟩ ⟨by omega, by omega⟩ (fun c => ?_) (fun c => ?_)⟩
    · have e : opl T 48 0 = opl T (3 * g).toNat 0 := by
        rw [show (48 : Nat) = (3 * g).toNat + (48 - 3 * g).toNat by omega, opl_app, opl_none (48 - 3 * g).toNat _ (fun j a b q => by have := q.1.1; omega), List.append_nil]
      rw [← e] at ho ⊢
      exact hK V hV hF ho
    have e0 : opl T (3 * g).toNat 0 = opl T (3 * g + 0).toNat 0 := by rw [Int.add_zero]
    have st : ∀ x3 : Int32, ((x3 = 1 ∧ ¬ gm T g 3 < T 35 0 ∧ gm T g 3 ≠ T 35 0) ∨ (x3 = 0 ∧ ¬ (¬ gm T g 3 < T 35 0 ∧ gm T g 3 ≠ T 35 0))) → (∃ n_23, w_X1_listOpen_L49 3 (jI g) x3 post (fun x1_20 U_21 => ∀ (x2_22 : Int32), x2_22 = jI g + 1 → w_X1_listOpen_L4 3 post K fu x1_20 x2_22 U_21) n_23 (jI ((opl T (3 * g).toNat 0).length : Int)) 0 V) := fun x3 hx => by
      have hg := I_g hI g g0 c
      unfold gOk at hg
      rw [e0] at ho ⊢
      refine ⟨(gm T g 7 - 0).toNat + 1, xl_lo49 hV hI h2 g0 c x3 hx (fun Z cZ fZ oZ y hy => ?_) _ 0 V hV fX_rfl (by decide) (by omega) ho (Or.inl rfl) (Nat.lt_succ_self _)⟩
      rw [hy, show jI g + 1 = jI (g + 1) from jadd rfl rfl]
      exact ih (g + 1) Z cZ (fX_trans hF fZ) (by omega) (by omega) oZ (by omega)
    refine ⟨oc_of q3 rfl, x_X6_isPlayed hV hI h2 (eo := q3) rfl g0 c (fun c1 => ?_) (fun c1 => ?_)⟩
    · intro K6 hK6
      exact br_1 (hK6 0 V (st 0 (Or.inr ⟨rfl, fun q => q.1 c1⟩)))
    · intro K6 hK6
      refine br_0 ⟨oc_of q3 rfl, x_X6_isLate hV hI h2 (eo := q3) rfl g0 c (fun c2 => ?_) (fun c2 => ?_)⟩
      · exact br_1 (hK6 0 V (st 0 (Or.inr ⟨rfl, fun q => q.2 c2⟩)))
      · exact br_0 (hK6 1 V (st 1 (Or.inl ⟨rfl, c1, c2⟩)))
theorem x_lo {U : Um} {T : Tm} {w : Nat} (hC : CC U T w) (hI : I1 T) (h2 : I2 T) {ob : Nat} (eo : ob = 3) {post : Int32 → Um → Prop} (h : ∀ V : Um, CC V T w → fX (fun o _ => o = 3) U V → opIs V (opl T 48 0) → post (jI ((opl T 48 0).length : Int)) V) : w_X1_listOpen ob U post := by
  rw [eo]
  have hn := I_n hI
  unfold w_X1_listOpen
  exact ⟨(T 11 3 - 0).toNat + 1, xl_lo4 hI h2 (U := U) h _ 0 U hC fX_rfl (by decide) (by omega) (fun j hj => absurd hj (Nat.not_lt_zero _)) (Nat.lt_succ_self _)⟩
