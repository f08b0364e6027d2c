/-! the reference's week -/
theorem nd_A : ∀ q ∈ mLA, ∀ i : Int, 0 ≤ i → i < q.2 → ¬ dft q.1 i := by
  intro q hq i h0 h1
  unfold mLA at hq
  simp only [List.mem_cons, List.not_mem_nil, or_false] at hq
  rcases hq with hq | hq | hq | hq | hq | hq | hq | hq | hq | hq | hq | hq | hq | hq | hq | hq | hq | hq
  all_goals (subst hq; dsimp only at h1 ⊢; unfold dft; omega)
theorem nd_J : ∀ q ∈ mLJ, ∀ i : Int, 0 ≤ i → i < q.2 → ¬ dft q.1 i := by
  intro q hq i h0 h1
  unfold mLJ at hq
  simp only [List.mem_cons, List.not_mem_nil, or_false] at hq
  rcases hq with hq | hq | hq | hq
  all_goals (subst hq; dsimp only at h1 ⊢; unfold dft; omega)
theorem nd_F : ∀ q ∈ mLF, ∀ i : Int, 0 ≤ i → i < q.2 → ¬ dft q.1 i := by
  intro q hq i h0 h1
  unfold mLF at hq
  simp only [List.mem_cons, List.not_mem_nil, or_false] at hq
  rcases hq with hq | hq
  all_goals (subst hq; dsimp only at h1 ⊢; unfold dft; omega)
theorem nd_S : ∀ s ∈ mLS, ¬ dft s 0 := by
  intro s hs
  unfold mLS at hs
  simp only [List.mem_cons, List.not_mem_nil, or_false] at hs
  rcases hs with hs | hs | hs | hs | hs | hs
  all_goals (subst hs; unfold dft; omega)
theorem M_off {U : Um} {T D : Tm} (ho : Off T D) (hM : M U D) : M U T :=
  ⟨fun q hq i i0 i1 => by rw [← ho q.1 i (nd_A q hq i i0 i1)]; exact hM.1 q hq i i0 i1,
   fun q hq i i0 i1 => by rw [← ho q.1 i (nd_J q hq i i0 i1)]; exact hM.2.1 q hq i i0 i1,
   fun q hq i i0 i1 => by rw [← ho q.1 i (nd_F q hq i i0 i1)]; exact hM.2.2.1 q hq i i0 i1,
   fun s hs => by rw [← ho s 0 (nd_S s hs)]; exact hM.2.2.2 s hs⟩
theorem M_on {U : Um} {T D : Tm} (ho : Off T D) (hM : M U T) : M U D :=
  ⟨fun q hq i i0 i1 => by rw [ho q.1 i (nd_A q hq i i0 i1)]; exact hM.1 q hq i i0 i1,
   fun q hq i i0 i1 => by rw [ho q.1 i (nd_J q hq i i0 i1)]; exact hM.2.1 q hq i i0 i1,
   fun q hq i i0 i1 => by rw [ho q.1 i (nd_F q hq i i0 i1)]; exact hM.2.2.1 q hq i i0 i1,
   fun s hs => by rw [ho s 0 (nd_S s hs)]; exact hM.2.2.2 s hs⟩
noncomputable def dmU (U : Um) (T : Tm) : Tm := fun f i => cif (dft f i) (if f = 1 ∨ f = 4 ∨ f = 5 then (uJ U 55 f i.toNat).toInt else if f = 15 then (uI U 55 15).toInt else (uA U 55 f i.toNat).toInt) (T f i)
theorem dm_off {U : Um} {T : Tm} : Off T (dmU U T) := fun _ _ h => cif_f h
theorem dn_A : ∀ q ∈ dLA, ∀ i : Int, 0 ≤ i → i < q.2 → ¬ dft q.1 i → ∃ n, (q.1, n) ∈ mLA ∧ i < n := by
  intro q hq i h0 h1 h2
  unfold dLA at hq
  simp only [List.mem_cons, List.not_mem_nil, or_false] at hq
  rcases hq with hq | hq | hq | hq | hq | hq | hq | hq | hq
  all_goals (subst hq; dsimp only at h1 h2 ⊢; unfold dft at h2)
  · exact ⟨36, by decide, by omega⟩
  · exact ⟨10, by decide, by omega⟩
  · exact ⟨10, by decide, by omega⟩
  · exact ⟨10, by decide, by omega⟩
  · omega
  · exact ⟨128, by decide, by omega⟩
  · exact ⟨7, by decide, by omega⟩
  · exact ⟨1300, by decide, by omega⟩
  · exact ⟨1300, by decide, by omega⟩
theorem dn_J : ∀ q ∈ dLJ, ∀ i : Int, 0 ≤ i → i < q.2 → ¬ dft q.1 i → ∃ n, (q.1, n) ∈ mLJ ∧ i < n := by
  intro q hq i h0 h1 h2
  unfold dLJ at hq
  simp only [List.mem_cons, List.not_mem_nil, or_false] at hq
  rcases hq with hq | hq | hq
  all_goals (subst hq; dsimp only at h1 h2 ⊢; unfold dft at h2)
  · exact ⟨6, by decide, by omega⟩
  · exact ⟨8, by decide, by omega⟩
  · exact ⟨10, by decide, by omega⟩
theorem dm_MD {U : Um} {T : Tm} (hM : M U T) : MD U (dmU U T) := by
  refine ⟨fun q hq i i0 i1 => ?_, fun q hq i i0 i1 => ?_, fun q hq => absurd hq (by intro z; cases z), fun s hs => ?_⟩
  · have n1 : ¬ (q.1 = 1 ∨ q.1 = 4 ∨ q.1 = 5) := (by decide : ∀ q ∈ dLA, ¬ (q.1 = 1 ∨ q.1 = 4 ∨ q.1 = 5)) q hq
    have n2 : ¬ q.1 = 15 := (by decide : ∀ q ∈ dLA, ¬ q.1 = 15) q hq
    unfold dmU
    by_cases c : dft q.1 i
    · rw [cif_t c, if_neg n1, if_neg n2, jI_of]
    · rw [cif_f c]
      obtain ⟨n, a, b⟩ := dn_A q hq i i0 i1 c
      exact hM.1 (q.1, n) a i i0 b
  · have n1 : q.1 = 1 ∨ q.1 = 4 ∨ q.1 = 5 := (by decide : ∀ q ∈ dLJ, q.1 = 1 ∨ q.1 = 4 ∨ q.1 = 5) q hq
    unfold dmU
    by_cases c : dft q.1 i
    · rw [cif_t c, if_pos n1, jL_of]
    · rw [cif_f c]
      obtain ⟨n, a, b⟩ := dn_J q hq i i0 i1 c
      exact hM.2.1 (q.1, n) a i i0 b
  · have e : s = 15 := (by decide : ∀ s ∈ dLS, s = 15) s hs
    subst e
    unfold dmU
    rw [cif_t (by unfold dft; omega), if_neg (by decide), if_pos rfl, jI_of]
theorem Off_blk {T D : Tm} (h : Off T D) {k : Nat} {lo n : Int} {F : Int → Int} (hk : ∀ i, lo ≤ i → i < lo + n → dft k i) : Off T (blk D k lo n F) := fun k2 i2 h2 => by
  rw [show blk D k lo n F k2 i2 = D k2 i2 from if_neg (fun q => h2 (by rw [q.1]; exact hk i2 q.2.1 q.2.2))]
  exact h k2 i2 h2
theorem l_wk8 {D : Tm} {U0 : Um} {post : Int32 → Um → Prop} {K : Um → Prop} (hK : ∀ V : Um, P2 V (blk D 11 7 7 (fun _ => 0)) → fM U0 V → K V) : ∀ (fu : Nat) (n : Int) (V : Um), P2 V (blk D 11 7 n (fun _ => 0)) → fM U0 V → 0 ≤ n → n ≤ 7 → (7 - n).toNat < fu → w_X12_week_L8 55 post K fu (jI (7 + n)) V := by
  intro fu
  induction fu with
  | zero => intro n V _ _ _ _ h; exact absurd h (Nat.not_lt_zero _)
  | succ fu ih =>
    intro n V hP hF n0 n1 hf
    show b_X12_week_L8 55 post K (w_X12_week_L8 55 post K fu) (jI (7 + n)) V
    unfold b_X12_week_L8
    refine br_le 14 (7 + n) rfl rfl ⟨by omega, by omega⟩ ⟨by omega, by omega⟩ (fun c => ?_) (fun c => ?_)
    · rw [show n = 7 by omega] at hP
      exact hK V hP hF
    refine ⟨jvp (7 + n) rfl (by omega) (by omega) (by decide), fun W hW y hy => ?_⟩
    have z := P2_sA hP (k := 11) (E := jI (7 + n)) (V := 0) (7 + n) 0 rfl rfl (by omega) (by omega)
    have q := blk_s (T := D) (k := 11) (lo := 7) (n := n) (F := fun _ => 0) n0
    rw [q, ← hW] at z
    rw [hy, show jI (7 + n) + 1 = jI (7 + (n + 1)) from by rw [show 7 + (n + 1) = (7 + n) + 1 by omega]; exact jadd rfl rfl]
    exact ih (n + 1) W z (by rw [hW]; exact fM_trans hF fM_sA) (by omega) (by omega) (by omega)
theorem l_wk47 {D : Tm} {U0 : Um} {post : Int32 → Um → Prop} {K : Um → Prop} (hK : ∀ V : Um, P2 V (blk D 2 36 36 (fun _ => 0)) → fM U0 V → K V) : ∀ (fu : Nat) (n : Int) (V : Um), P2 V (blk D 2 36 n (fun _ => 0)) → fM U0 V → 0 ≤ n → n ≤ 36 → (36 - n).toNat < fu → w_X12_week_L47 55 post K fu (jI (36 + n)) V := by
  intro fu
  induction fu with
  | zero => intro n V _ _ _ _ h; exact absurd h (Nat.not_lt_zero _)
  | succ fu ih =>
    intro n V hP hF n0 n1 hf
    show b_X12_week_L47 55 post K (w_X12_week_L47 55 post K fu) (jI (36 + n)) V
    unfold b_X12_week_L47
    refine br_le 72 (36 + n) rfl rfl ⟨by omega, by omega⟩ ⟨by omega, by omega⟩ (fun c => ?_) (fun c => ?_)
    · rw [show n = 36 by omega] at hP
      exact hK V hP hF
    refine ⟨jvp (36 + n) rfl (by omega) (by omega) (by decide), fun W hW y hy => ?_⟩
    have z := P2_sA hP (k := 2) (E := jI (36 + n)) (V := 0) (36 + n) 0 rfl rfl (by omega) (by omega)
    have q := blk_s (T := D) (k := 2) (lo := 36) (n := n) (F := fun _ => 0) n0
    rw [q, ← hW] at z
    rw [hy, show jI (36 + n) + 1 = jI (36 + (n + 1)) from by rw [show 36 + (n + 1) = (36 + n) + 1 by omega]; exact jadd rfl rfl]
    exact ih (n + 1) W z (by rw [hW]; exact fM_trans hF fM_sA) (by omega) (by omega) (by omega)
/-- a draft of nothing -/
def emptyD (D : Tm) : Prop := ((∀ i, 7 ≤ i → i < 11 → D 11 i = 0) ∧ D 11 11 = 10 ∧ D 11 12 = 3 ∧ D 11 13 = 0) ∧ (∀ i, 36 ≤ i → i < 72 → D 2 i = 0) ∧ D 15 0 = 0
theorem empty_i {D : Tm} {f : Int} (h : emptyD D) (hf : 0 ≤ f) : ID D f := by
  obtain ⟨⟨h11, ha, hb, hc⟩, h2, h15⟩ := h
  have e7 := h11 7 (by decide) (by decide)
  have e8 := h11 8 (by decide) (by decide)
  have e9 := h11 9 (by decide) (by decide)
  have e10 := h11 10 (by decide) (by decide)
  refine ⟨⟨⟨by omega, by omega, by omega, by omega⟩, fun i _ _ => by omega, fun i _ _ => by omega, fun i _ _ => by omega⟩, ⟨by omega, by omega, by omega⟩, fun i i0 i1 => by rw [h2 i i0 i1]; omega, fun g _ _ => by omega, fun o _ _ => by omega, ⟨by omega, fun k hk => by omega⟩, by omega, fun _ => h15, fun q => by omega⟩
def ResK (U0 : Um) (T : Tm) (r : PR) (K : Um → Prop) : Prop := match r with
  | .error e => ∀ V : Um, Qb V T e.1 e.2 → fM U0 V → K V
  | .ok p => ∀ V : Um, Q V T p.1 p.2 → fM U0 V → K V
theorem l_wk103 {T : Tm} (ht : It T) {U0 : Um} {post : Int32 → Um → Prop} {K : Um → Prop} : ∀ (fu m : Nat) (D : Tm) (f : Int) (V : Um), Q V T D f → ID D f → tkS T f ≠ 0 → (1201 - f).toNat < m → (1201 - f).toNat + 1 < fu → fM U0 V → ResK U0 T (linesR T m D f) K → w_X12_week_L103 55 post K fu 1 V := by
  intro fu
  induction fu with
  | zero => intro m D f V _ _ _ _ h; exact absurd h (Nat.not_lt_zero _)
  | succ fu ih =>
    intro m D f V hQ hD hk hm hf hF hr
    obtain ⟨f0, f1, _⟩ := Q_c hQ
    obtain ⟨m, rfl⟩ : ∃ n, m = n + 1 := ⟨m - 1, by omega⟩
    obtain ⟨fu, rfl⟩ : ∃ n, fu = n + 1 := ⟨fu - 1, by omega⟩
    have el : linesR T (m + 1) D f = match lineR T D f with
      | .error e => .error e
      | .ok p => linesR T m p.1 p.2 := if_neg hk
    rw [el] at hr
    show b_X12_week_L103 55 post K (w_X12_week_L103 55 post K (fu + 1)) 1 V
    unfold b_X12_week_L103
    refine ⟨fun q => absurd q (by decide), fun _ => ?_⟩
    refine s_X12_readLine hQ hD ?_
    cases e : lineR T D f with
    | error er =>
      rw [e] at hr
      intro W hW fW
      refine ⟨fun _ => ?_, fun q => absurd rfl q⟩
      show b_X12_week_L103 55 post K (w_X12_week_L103 55 post K fu) 0 W
      unfold b_X12_week_L103
      exact ⟨fun _ => hr W hW (fM_trans hF fW), fun q => absurd rfl q⟩
    | ok p =>
      rw [e] at hr
      dsimp only at hr
      intro W hW fW
      have li := line_i ht ⟨f0, f1⟩ hD e
      have t22 : uI W 55 22 = jI (tkS T p.2) := hW.2.2.2.2.2.2.1.2.2.1
      have tb := tk_b (T := T) (f := p.2)
      refine ⟨fun q => absurd q (by decide), fun _ => ?_⟩
      refine br_eq (tkS T p.2) 0 t22 rfl ⟨by omega, by omega⟩ ⟨by omega, by omega⟩ (fun c => ?_) (fun c => ?_)
      · obtain ⟨m, rfl⟩ : ∃ n, m = n + 1 := ⟨m - 1, by omega⟩
        have el2 : linesR T (m + 1) p.1 p.2 = .ok (p.1, p.2) := if_pos c
        rw [el2] at hr
        show b_X12_week_L103 55 post K (w_X12_week_L103 55 post K fu) 0 W
        unfold b_X12_week_L103
        exact ⟨fun _ => hr W hW (fM_trans hF fW), fun q => absurd rfl q⟩
      · exact ih m p.1 p.2 W hW li.1 c (by omega) (by omega) (fM_trans hF fW) hr
theorem l_wk0 {post : Int32 → Um → Prop} {K : Um → Prop} {V : Um} (h : K V) : w_X12_week_L103 55 post K 1 0 V := by
  show b_X12_week_L103 55 post K (w_X12_week_L103 55 post K 0) 0 V
  unfold b_X12_week_L103
  exact ⟨fun _ => h, fun q => absurd rfl q⟩
def weekE (T : Tm) (k p : Int) : Tm := up (up (up T 17 0 0) 18 0 k) 19 0 p
def weekK (D : Tm) : Tm := newT (weekE D 0 (-1))
def weekR (T D : Tm) : PR := linesR T 1300 D (skS T 0)
def ResF (U : Um) (T : Tm) (r : PR) (post : Int32 → Um → Prop) : Prop := match r with
  | .error e => ∀ V : Um, M V (weekE T e.1 e.2) → fM U V → post (jI (-1)) V
  | .ok p => ∀ V : Um, M V (weekK p.1) → fM U V → post (jI (p.1 11 10)) V
theorem weekE_o {T : Tm} {k p : Int} {f : Nat} {i : Int} (h : f ≠ 17 ∧ f ≠ 18 ∧ f ≠ 19) : weekE T k p f i = T f i := by
  unfold weekE
  rw [up_nf h.2.2, up_nf h.2.1, up_nf h.1]
theorem Off_E {T D : Tm} (h : Off T D) {k p : Int} : Off (weekE T k p) (weekE D k p) := fun f i hf => by
  unfold weekE up
  rw [h f i hf]
theorem l_wkT {T D : Tm} {f : Int} {U W : Um} (hQ : Q W T D f) (hD : ID D f) (hF : fM U W) {post : Int32 → Um → Prop} (h : ∀ V : Um, M V (weekK D) → fM U V → post (jI (D 11 10)) V) : ∀ V20 : Um, V20 = sI W 55 17 0 → ∀ V21 : Um, V21 = sI V20 55 18 (uI V20 55 20) → ∀ V22 : Um, V22 = sI V21 55 19 (uI V21 55 21) → ((uI V22 55 20) = 0 → w_X12_takesOver 55 V22 (fun V23 => vp_in 3 14 ∧ post (uA V23 55 11 (Int32.toNatClampNeg 3)) V23)) ∧ (¬ (uI V22 55 20) = 0 → post (-1) V22) := by
  obtain ⟨hM, hMD, ho, ht, h20, h21, hT, f0, f1⟩ := hQ
  obtain ⟨hN, hC, hR, hG, hO, hW⟩ := hD
  intro V20 e20 V21 e21 V22 e22
  have p0 : P2 W D := ⟨hM, hMD⟩
  have a20 : uI V20 55 20 = jI 0 := by rw [e20, uI_sI, if_neg (by decide), h20]
  have b20 : uI V20 55 21 = jI (-1) := by rw [e20, uI_sI, if_neg (by decide), h21]
  have a21 : uI V21 55 20 = jI 0 := by rw [e21, uI_sI, if_neg (by decide), a20]
  have b21 : uI V21 55 21 = jI (-1) := by rw [e21, uI_sI, if_neg (by decide), b20]
  have a22 : uI V22 55 20 = jI 0 := by rw [e22, uI_sI, if_neg (by decide), a21]
  have p1 := P2_sI p0 (k := 17) (V := 0) 0 rfl
  rw [← e20] at p1
  have p2 := P2_sI p1 (k := 18) 0 a20
  rw [← e21] at p2
  have p3 := P2_sI p2 (k := 19) (-1) b21
  rw [← e22] at p3
  have p3 : P2 V22 (weekE D 0 (-1)) := p3
  have fz : fM U V22 := by rw [e22, e21, e20]; exact fM_trans hF (fM_trans fM_sI (fM_trans fM_sI fM_sI))
  refine ⟨fun _ => ?_, fun q => absurd a22 q⟩
  refine s_X12_takesOver p3 (by rw [weekE_o (by decide)]; have := hW.1.1; have := hW.2.1; omega) (fun i i0 i1 => by rw [weekE_o (by decide)]; exact hR i i0 i1) (fun V hV fV => ?_)
  refine ⟨jvp 3 rfl (by decide) (by decide) (by decide), ?_⟩
  refine pst (x := D 11 10) ?_ (h V hV.1 (fM_trans fz fV))
  have r := rdA (M_A hV.1 11 7) (E := 3) 3 rfl (by decide) (by decide)
  rw [newT_11 (by decide) (by decide), weekE_o (by decide)] at r
  exact r
theorem l_wkE {T : Tm} {k p : Int} {U W : Um} (hQ : Qb W T k p) (hF : fM U W) {post : Int32 → Um → Prop} {A : Um → Prop} (h : ∀ V : Um, M V (weekE T k p) → fM U V → post (jI (-1)) V) : ∀ V20 : Um, V20 = sI W 55 17 0 → ∀ V21 : Um, V21 = sI V20 55 18 (uI V20 55 20) → ∀ V22 : Um, V22 = sI V21 55 19 (uI V21 55 21) → ((uI V22 55 20) = 0 → A V22) ∧ (¬ (uI V22 55 20) = 0 → post (-1) V22) := by
  obtain ⟨⟨D, hM, ho⟩, h20, h21, hk, hp⟩ := hQ
  intro V20 e20 V21 e21 V22 e22
  have a20 : uI V20 55 20 = jI k := by rw [e20, uI_sI, if_neg (by decide), h20]
  have b20 : uI V20 55 21 = jI p := by rw [e20, uI_sI, if_neg (by decide), h21]
  have a21 : uI V21 55 20 = jI k := by rw [e21, uI_sI, if_neg (by decide), a20]
  have b21 : uI V21 55 21 = jI p := by rw [e21, uI_sI, if_neg (by decide), b20]
  have a22 : uI V22 55 20 = jI k := by rw [e22, uI_sI, if_neg (by decide), a21]
  have p1 := M_sI hM (k := 17) (V := 0) 0 rfl
  rw [← e20] at p1
  have p2 := M_sI p1 (k := 18) k a20
  rw [← e21] at p2
  have p3 := M_sI p2 (k := 19) p b21
  rw [← e22] at p3
  have p3 : M V22 (weekE D k p) := p3
  have fz : fM U V22 := by rw [e22, e21, e20]; exact fM_trans hF (fM_trans fM_sI (fM_trans fM_sI fM_sI))
  refine br_eq k 0 a22 rfl ⟨by omega, by omega⟩ ⟨by omega, by omega⟩ (fun c => absurd c (by omega)) (fun _ => ?_)
  exact h V22 (M_off (Off_E ho) p3) fz
theorem s_X12_week {U : Um} {T : Tm} (hM : M U T) (ht : It T) {post : Int32 → Um → Prop} (h : ∀ D0 : Tm, Off T D0 → emptyD D0 → ResF U T (weekR T D0) post) : w_X12_week 55 U post := by
  unfold w_X12_week
  intro U1 e1
  have p0 : P2 U (dmU U T) := ⟨M_on dm_off hM, dm_MD hM⟩
  have p1 : P2 U1 (dmU U T) := by rw [e1]; exact P2_xI p0
  have f1 : fM U U1 := by rw [e1]; exact fM_sI
  refine ⟨8, l_wk8 (D := dmU U T) (U0 := U) (fun V2 h2 f2 => ?_) 8 0 U1 (by rw [blk_0]; exact p1) f1 (by decide) (by decide) (by decide)⟩
  refine ⟨jvp 11 rfl (by decide) (by decide) (by decide), fun V3 e3 => ⟨jvp 12 rfl (by decide) (by decide) (by decide), fun V4 e4 => ?_⟩⟩
  have h3 := P2_sA h2 (k := 11) (E := 11) (V := 10) 11 10 rfl rfl (by decide) (by decide)
  rw [← e3] at h3
  have h4 := P2_sA h3 (k := 11) (E := 12) (V := 3) 12 3 rfl rfl (by decide) (by decide)
  rw [← e4] at h4
  have f4 : fM U V4 := by rw [e4, e3]; exact fM_trans f2 (fM_trans fM_sA fM_sA)
  refine ⟨37, l_wk47 (U0 := U) (fun V5 h5 f5 => ?_) 37 0 V4 (by rw [blk_0]; exact h4) f4 (by decide) (by decide) (by decide)⟩
  intro V6 e6 V7 e7 V8 e8 V9 e9
  have h6 := P2_sI h5 (k := 15) (V := 0) 0 rfl
  rw [← e6] at h6
  have h7 := P2_xI h6 (k := 24) (V := 0)
  rw [← e7] at h7
  have h8 := P2_xI h7 (k := 20) (V := 0)
  rw [← e8] at h8
  have h9 := P2_xI h8 (k := 21) (V := -1)
  rw [← e9] at h9
  have f9 : fM U V9 := by rw [e9, e8, e7, e6]; exact fM_trans f5 (fM_trans fM_sI (fM_trans fM_sI (fM_trans fM_sI fM_sI)))
  have u24 : uI V9 55 24 = jI 0 := by rw [e9, uI_sI, if_neg (by decide), e8, uI_sI, if_neg (by decide), e7, uI_sI, if_pos ⟨rfl, rfl⟩]; rfl
  have u20 : uI V9 55 20 = jI 0 := by rw [e9, uI_sI, if_neg (by decide), e8, uI_sI, if_pos ⟨rfl, rfl⟩]; rfl
  have u21 : uI V9 55 21 = jI (-1) := by rw [e9, uI_sI, if_pos ⟨rfl, rfl⟩]; rfl
  generalize hD0 : (up (blk (up (up (blk (dmU U T) 11 7 7 (fun _ => 0)) 11 11 10) 11 12 3) 2 36 36 (fun _ => 0)) 15 0 0) = D0 at h9
  have ho : Off T D0 := by
    rw [← hD0]
    exact Off_up (Off_blk (Off_up (Off_up (Off_blk dm_off (fun i i0 i1 => by unfold dft; omega)) (by unfold dft; omega)) (by unfold dft; omega)) (fun i i0 i1 => by unfold dft; omega)) (by unfold dft; omega)
  have he : emptyD D0 := by
    rw [← hD0]
    refine ⟨⟨fun i i0 i1 => ?_, ?_, ?_, ?_⟩, fun i i0 i1 => ?_, up_eq⟩
    · rw [up_nf (by decide), blk_nf (by decide), up_ne (by omega), up_ne (by omega), blk_in i0 (by omega)]
    · rw [up_nf (by decide), blk_nf (by decide), up_ne (by omega), up_eq]
    · rw [up_nf (by decide), blk_nf (by decide), up_eq]
    · rw [up_nf (by decide), blk_nf (by decide), up_ne (by omega), up_ne (by omega), blk_in (by omega) (by omega)]
    · rw [up_nf (by decide), blk_in i0 (by omega)]
  have hr := h D0 ho he
  refine s_X12_next h9.1 (It_c (Off_16 ho) (Off_17 ho) ht) u24 (by decide) (by decide) (fun V mV fV tV v0 v1 => ?_)
  rw [sk_c (Off_16 ho) (Off_17 ho)] at tV v0 v1
  have hQ : Q V T D0 (skS T 0) := by
    refine ⟨mV, MD_P h9.2 fV, ho, ht, ?_, ?_, TK_c (Off_16 ho) (Off_17 ho) tV, v0, v1⟩
    · rw [fV.2.1 20 (by omega)]; exact u20
    · rw [fV.2.1 21 (by omega)]; exact u21
  have hD : ID D0 (skS T 0) := empty_i he v0
  have fZ : fM U V := fM_trans f9 fV.1
  have tb := tk_b (T := T) (f := skS T 0)
  have t22 : uI V 55 22 = jI (tkS T (skS T 0)) := hQ.2.2.2.2.2.2.1.2.2.1
  refine al_ifr (tkS T (skS T 0)) 0 t22 rfl ⟨by omega, by omega⟩ ⟨by omega, by omega⟩ (fun c => ?_) (fun c => ?_)
  · have el : weekR T D0 = .ok (D0, skS T 0) := if_pos c
    rw [el] at hr
    exact ⟨1, l_wk0 (l_wkT hQ hD fZ hr)⟩
  · refine ⟨1300, l_wk103 (U0 := U) ht 1300 1300 D0 (skS T 0) V hQ hD c (by omega) (by omega) fZ ?_⟩
    unfold weekR at hr
    cases e : linesR T 1300 D0 (skS T 0) with
    | error er =>
      rw [e] at hr
      intro W hW fW
      exact l_wkE hW fW hr
    | ok p =>
      rw [e] at hr
      intro W hW fW
      exact l_wkT hW (lines_i ht 1300 D0 (skS T 0) p ⟨v0, v1⟩ hD e).1 fW hr
