/-! the law of the fee, read by the reference -/
def ResO (U : Um) (T : Tm) (r : PR) (post : Int32 → Um → Prop) : Prop := match r with
  | .error e => ∀ V : Um, Qb V T e.1 e.2 → fM U V → post 0 V
  | .ok p => ∀ V : Um, Q V T p.1 p.2 → fO U V → post 1 V
theorem ResO_m {U V : Um} {T : Tm} {r : PR} {post : Int32 → Um → Prop} (o : fO U V) (h : ResO U T r post) : ResO V T r post := by
  unfold ResO at h ⊢
  cases r with
  | error e => exact fun W q o2 => h W q (fM_trans o.1 o2)
  | ok p => exact fun W q o2 => h W q (fO_trans o o2)
theorem Q_s15 {U : Um} {T D : Tm} {f : Int} (hQ : Q U T D f) {V : Int32} (v : Int) (hv : V = jI v) : Q (sI U 55 15 V) T (up D 15 0 v) f :=
  Q_f hQ (M_sI hQ.1 v hv) (MD_sI hQ.2.1 v hv (by decide) (by decide) (fun q hq => absurd hq (by intro z; cases z))) (Off_up hQ.2.2.1 (by unfold dft; omega)) (fun j a b => by rw [uI_sI, if_neg (by omega)]) (by rw [uL_sI])
theorem p_puts {U : Um} {T D : Tm} {f : Int} (hQ : Q U T D f) (h0 : 0 ≤ D 15 0 ∧ D 15 0 ≤ 1201) {a1 a2 : Int32} (s v : Int) (e1 : a1 = jI s) (e2 : a2 = jI v) {post : Um → Prop} (h : ∀ V : Um, Q V T (putD D s v) f → fO U V → post V) : w_X12_puts 55 a1 a2 U post := by
  unfold w_X12_puts
  have r0 := hQ.2.1.2.2.2 15 (by decide)
  have x0 : (1300 : Int32) + uI U 55 15 = jI (1300 + D 15 0) := jadd rfl r0
  refine ⟨jvp (1300 + D 15 0) x0 (by omega) (by omega) (by decide), ?_⟩
  intro V1 h1
  have q1 : Q V1 T (up D 13 (1300 + D 15 0) s) f := by rw [h1]; exact Q_sA hQ _ _ x0 e1 (by omega) (by omega) (by unfold dft; omega)
  have i1 : ∀ k, uI V1 55 k = uI U 55 k := fun k => by rw [h1]; rfl
  have o1 : fM U V1 := by rw [h1]; exact fM_sA
  have x1 : (1300 : Int32) + uI V1 55 15 = jI (1300 + D 15 0) := by rw [i1]; exact x0
  refine ⟨jvp (1300 + D 15 0) x1 (by omega) (by omega) (by decide), ?_⟩
  intro V2 h2
  have q2 : Q V2 T (up (up D 13 (1300 + D 15 0) s) 12 (1300 + D 15 0) v) f := by rw [h2]; exact Q_sA q1 _ _ x1 e2 (by omega) (by omega) (by unfold dft; omega)
  have i2 : ∀ k, uI V2 55 k = uI U 55 k := fun k => by rw [h2]; exact i1 k
  have o2 : fM V1 V2 := by rw [h2]; exact fM_sA
  intro V3 h3
  have q3 : Q V3 T (putD D s v) f := by rw [h3]; exact Q_s15 q2 _ (jadd ((i2 15).trans r0) rfl)
  exact h V3 q3 ⟨fM_trans (fM_trans o1 o2) (by rw [h3]; exact fM_sI), by rw [h3, uI_sI, if_neg (by omega)]; exact i2 29⟩
theorem p_wordHere {U : Um} {T D : Tm} {f : Int} (hQ : Q U T D f) {post : Int32 → Um → Prop} (h : post (jI (whS T f)) U) : w_X12_wordHere 55 U post := by
  unfold w_X12_wordHere
  unfold whS at h
  refine p_isWord hQ (a := 11) (by decide) (fun c => br_1 (by rw [if_pos c] at h; exact h)) (fun c => br_0 ?_)
  rw [if_neg c] at h
  refine p_isWord hQ (a := 16) (by decide) (fun c => br_1 (by rw [if_pos c] at h; exact h)) (fun c => br_0 ?_)
  rw [if_neg c] at h
  refine p_isWord hQ (a := 17) (by decide) (fun c => br_1 (by rw [if_pos c] at h; exact h)) (fun c => br_0 ?_)
  rw [if_neg c] at h
  refine p_isWord hQ (a := 18) (by decide) (fun c => br_1 (by rw [if_pos c] at h; exact h)) (fun c => br_0 ?_)
  rw [if_neg c] at h
  refine p_isWord hQ (a := 19) (by decide) (fun c => br_1 (by rw [if_pos c] at h; exact h)) (fun c => br_0 ?_)
  rw [if_neg c] at h
  refine p_isWord hQ (a := 20) (by decide) (fun c => br_1 (by rw [if_pos c] at h; exact h)) (fun c => br_0 ?_)
  rw [if_neg c] at h
  refine p_isWord hQ (a := 21) (by decide) (fun c => br_1 (by rw [if_pos c] at h; exact h)) (fun c => br_0 ?_)
  rw [if_neg c] at h
  refine p_isWord hQ (a := 22) (by decide) (fun c => br_1 (by rw [if_pos c] at h; exact h)) (fun c => br_0 ?_)
  rw [if_neg c] at h
  exact h
/-- a row for a piece of the law -/
def rowOk (T : Tm) (it : Tm → Int → PR) (w : Nat → Um → (Int32 → Um → Prop) → Prop) (op b : Int) : Prop := ∀ (U : Um) (D : Tm) (f : Int) (post : Int32 → Um → Prop), Q U T D f → uI U 55 29 = jI op → LI D → D 15 0 ≤ f → dd D (D 15 0).toNat ≤ b → ResO U T (it D f) post → w 55 U post
theorem fM_O {U V : Um} (h : fO U V) : fM U V := h.1
theorem p_bracket {T : Tm} {rec : Nat → Um → (Int32 → Um → Prop) → Prop} {op b : Int} {sub : Tm → Int → PR} (hop : 0 ≤ op ∧ op ≤ 4) (hs : (op = 4 ∧ sub = fun _ f => .error (5, f)) ∨ (op < 4 ∧ ∃ sum, sub = subR T sum ∧ rowOk T sum rec (op + 1) b)) : rowOk T (fun D f => ck (sgE T f 40) f (sub D f)) (b_X12_readBracket rec) op b := by
  intro U D f post hQ h29 hL hn hd h
  have hc := Q_c hQ
  have nb := nx_b hQ.2.2.2.1 hc.1 hc.2.1
  show b_X12_readBracket rec 55 U post
  unfold b_X12_readBracket
  refine p_isSign hQ 40 rfl (by omega) (fun c => br_1 ?_) (fun c => br_0 ?_)
  · dsimp only at h
    rw [se_0 c, ck_0 rfl] at h
    refine br_eq op 4 h29 rfl ⟨by omega, by omega⟩ ⟨by omega, by omega⟩ (fun c2 => ?_) (fun c2 => ?_)
    · rcases hs with hs | hs
      · rw [hs.2] at h
        exact s_X12_fails hQ 5 rfl ⟨by omega, by omega⟩ (fun V v o => ⟨Or.inl rfl, h V v o.1⟩)
      · omega
    · rcases hs with hs | ⟨hs, sum, e, hr⟩
      · omega
      rw [e] at h
      intro V1 h1
      have q1 : Q V1 T D f := by rw [h1]; exact Q_xI hQ (Or.inr rfl)
      have o1 : fM U V1 := by rw [h1]; exact fM_sI
      have v1 : uI V1 55 29 = jI (op + 1) := by rw [h1, uI_sI, if_pos ⟨rfl, rfl⟩]; exact jadd h29 rfl
      refine p_next q1 (fun V2 q2 o2 _ => ?_)
      refine hr V2 D (nx T f) _ q2 (o2.2.trans v1) hL (by omega) hd ?_
      unfold subR at h
      cases hx : sum D (nx T f) with
      | error q =>
        rw [hx] at h
        exact fun W w o => br_0 (h W w (fM_trans (fM_trans o1 o2.1) o))
      | ok q =>
        rw [hx] at h
        dsimp only at h
        intro W w o
        refine br_1 ?_
        have o3 := fM_trans (fM_trans o1 o2.1) o.1
        have w29 := (o.2.trans o2.2).trans v1
        refine p_isSign w 41 rfl (by omega) (fun c3 => br_1 ?_) (fun c3 => br_0 ?_)
        · rw [se_0 c3, ck_0 rfl] at h
          intro V4 h4
          have q4 : Q V4 T q.1 q.2 := by rw [h4]; exact Q_xI w (Or.inr rfl)
          refine p_next q4 (fun V5 q5 o5 _ => h V5 q5 ⟨fM_trans (fM_trans o3 (by rw [h4]; exact fM_sI)) o5.1, ?_⟩)
          rw [o5.2, h4, uI_sI, if_pos ⟨rfl, rfl⟩, h29, w29, show op = op + 1 - 1 by omega]
          rw [show op + 1 - 1 + 1 = op + 1 by omega]
          exact jsub rfl rfl
        · rw [se_1 c3, ck_1 (by decide)] at h
          exact s_X12_fails w 1 rfl ⟨by omega, by omega⟩ (fun V v o5 => ⟨Or.inl rfl, h V v (fM_trans o3 o5.1)⟩)
  · dsimp only at h
    rw [se_1 c, ck_1 (by decide)] at h
    exact s_X12_fails hQ 1 rfl ⟨by omega, by omega⟩ (fun V v o => ⟨Or.inl rfl, h V v o.1⟩)
theorem p_atom {T : Tm} {rec : Nat → Um → (Int32 → Um → Prop) → Prop} {op b : Int} {sub : Tm → Int → PR} (hb : rowOk T (fun D f => ck (sgE T f 40) f (sub D f)) (b_X12_readBracket rec) op b) : rowOk T (atomR T sub) (b_X12_readAtom rec) op b := by
  intro U D f post hQ h29 hL hn hd h
  have hc := Q_c hQ
  have ht := hQ.2.2.2.1
  have nb := nx_b ht hc.1 hc.2.1
  have kb := tk_b (T := T) (f := f)
  have wb := wh_b (T := T) (f := f)
  have nu := nu_b ht hc.1 hc.2.1
  have hL0 := hL.1
  show b_X12_readAtom rec 55 U post
  unfold b_X12_readAtom
  refine p_wordHere hQ ?_
  intro K hK
  have hT := hQ.2.2.2.2.2.2.1
  unfold atomR at h
  have go : ∀ V g s v, ResO U T (.ok (putD D s v, nx T f)) post → Q V T (putD D s v) f → fO U V → g = K → g V := by
    intro V g s v hr q o e
    rw [e]
    exact hK V (p_next q (fun W w o2 _ => hr W w (fO_trans o o2)))
  have rest : nuS T f = -1 → (jI (whS T f) = (-1) → b_X12_readBracket rec 55 U (fun r_8 U_7 => (r_8 = 0 ∨ r_8 = 1) ∧ post r_8 U_7)) ∧ (¬ jI (whS T f) = (-1) → w_X12_puts 55 1 (jI (whS T f)) U (fun U_9 => K U_9)) := by
    intro cn
    rw [if_neg (fun q => q cn)] at h
    refine br_eq (whS T f) (-1) rfl rfl ⟨by omega, by omega⟩ ⟨by omega, by omega⟩ (fun c => ?_) (fun c => ?_)
    · rw [if_neg (fun q => q c)] at h
      refine hb U D f _ hQ h29 hL hn hd ?_
      dsimp only
      cases hx : ck (sgE T f 40) f (sub D f) with
      | error q => rw [hx] at h; exact fun V v o => ⟨Or.inl rfl, h V v o⟩
      | ok q => rw [hx] at h; exact fun V v o => ⟨Or.inr rfl, h V v o⟩
    · rw [if_pos c] at h
      exact p_puts hQ (by omega) 1 (whS T f) rfl rfl (fun V q o => go V K _ _ h q o rfl)
  have nonum : ¬ (tkS T f = 2 ∧ teS T f - f ≤ 4) → nuS T f = -1 := fun c => if_neg c
  refine br_eq (tkS T f) 2 hT.2.2.1 rfl ⟨by omega, by omega⟩ ⟨by omega, by omega⟩ (fun c => ?_) (fun c => rest (nonum (fun z => c z.1)))
  refine br_lt 4 (teS T f - f) rfl (jsub hT.2.1 hT.1) ⟨by omega, by omega⟩ ⟨by omega, by omega⟩ (fun c2 => rest (nonum (fun z => by omega))) (fun c2 => ?_)
  have en : nuS T f = tnS T f := if_pos ⟨c, c2⟩
  have tb := tn_b ht hc.1 hc.2.1
  rw [if_pos (by omega)] at h
  exact p_puts hQ (by omega) 0 (nuS T f) rfl (hT.2.2.2.2.1.trans (by rw [en])) (fun V q o => go V K _ _ h q o rfl)
theorem l_term {T : Tm} (ht : It T) {rec : Nat → Um → (Int32 → Um → Prop) → Prop} {op b : Int} {item : Tm → Int → PR} (hi : itOk T item (b + 1)) (hr : rowOk T item (b_X12_readAtom rec) op (b + 1)) {U0 : Um} {post : Int32 → Um → Prop} {K : Um → Prop} (r : PR) (hE : ∀ (V : Um) (k g : Int), r = .error (k, g) → Qb V T k g → fM U0 V → post 0 V) (hK : ∀ (V : Um) (D : Tm) (g : Int), r = .ok (D, g) → Q V T D g → fO U0 V → K V) : ∀ (fu m : Nat) (D : Tm) (f : Int) (U : Um), Q U T D f → fO U0 U → uI U 55 29 = jI op → LI D → D 15 0 ≤ f → (1 ≤ dd D (D 15 0).toNat ∧ dd D (D 15 0).toNat ≤ b + 1) → r = chR T item 42 47 m D f → (1201 - f).toNat < m → (1201 - f).toNat < fu → w_X12_readTerm_L9 rec 55 post K fu U := by
  intro fu
  induction fu with
  | zero => intro m D f U _ _ _ _ _ _ _ _ h; exact absurd h (Nat.not_lt_zero _)
  | succ fu ih =>
    intro m D f U hQ hF h29 hL hn hd hr2 hm hf
    obtain ⟨mm, rfl⟩ : ∃ k, m = k + 1 := ⟨m - 1, by omega⟩
    have hc := Q_c hQ
    have nb := nx_b ht hc.1 hc.2.1
    have hL0 := hL.1
    show b_X12_readTerm_L9 rec 55 post K (w_X12_readTerm_L9 rec 55 post K fu) U
    unfold b_X12_readTerm_L9
    unfold chR at hr2
    have body : (sgS T f = 42 ∨ sgS T f = 47) → ∀ x1_7 : Int32, x1_7 = uI U 55 27 → w_X12_next 55 U (fun U_8 => b_X12_readAtom rec 55 U_8 (fun r_11 U_10 => (r_11 = 0 → post 0 U_10) ∧ (¬ r_11 = 0 → w_X12_puts 55 x1_7 0 U_10 (fun U_12 => w_X12_readTerm_L9 rec 55 post K fu U_12)))) := by
      intro c x hx
      rw [if_pos c] at hr2
      have t3 : tkS T f = 3 := by
        rcases c with c | c
        · exact sg_t c (by decide)
        · exact sg_t c (by decide)
      have nc := nb.2.2 (by omega)
      have ex : x = jI (sgS T f) := by
        rw [hx, hQ.2.2.2.2.2.2.1.2.2.2.2.2]
        unfold sgS
        rw [if_pos t3]
      refine p_next hQ (fun V q o _ => ?_)
      have hcV := Q_c q
      refine hr V D (nx T f) _ q ((o.2).trans h29) hL (by omega) (by omega) ?_
      cases hx2 : item D (nx T f) with
      | error e =>
        rw [hx2] at hr2
        exact fun W w o2 => br_0 (hE W e.1 e.2 hr2 w (fM_trans (fM_trans hF.1 o.1) o2))
      | ok p =>
        rw [hx2] at hr2
        dsimp only at hr2
        obtain ⟨b1, b2, b3, b4, b5, b6⟩ := hi D (nx T f) p (by omega) (by omega) hL (by omega) hx2
        intro W w o2
        have hcW := Q_c w
        refine br_1 ?_
        refine p_puts w (by have := b1.1; omega) (sgS T f) 0 ex rfl (fun W2 w2 o3 => ?_)
        obtain ⟨g1, g2⟩ := pt_LI (s := sgS T f) (v := 0) b1 (Or.inr (Or.inr ⟨by omega, by omega⟩))
        rw [if_neg (by omega)] at g2
        refine ih mm (putD p.1 (sgS T f) 0) p.2 W2 w2 (fO_trans (fO_trans (fO_trans hF o) o2) o3) ((o3.2.trans (o2.2.trans o.2)).trans h29) g1 ?_ (by omega) hr2 (by omega) (by omega)
        rw [pt_15]
        omega
    refine p_isSign hQ 42 rfl (by omega) (fun c => ?_) (fun c => ?_)
    · intro K5 hK5
      exact br_1 (hK5 U (body (Or.inl c)))
    · intro K5 hK5
      refine br_0 ?_
      refine p_isSign hQ 47 rfl (by omega) (fun c2 => br_1 (hK5 U (body (Or.inr c2)))) (fun c2 => br_0 ?_)
      rw [if_neg (by omega)] at hr2
      exact hK U D f hr2 hQ hF
theorem p_term {T : Tm} (ht : It T) {rec : Nat → Um → (Int32 → Um → Prop) → Prop} {op b : Int} {item : Tm → Int → PR} (hi : itOk T item (b + 1)) (hr : rowOk T item (b_X12_readAtom rec) op (b + 1)) : rowOk T (seqR T item 42 47) (b_X12_readTerm rec) op b := by
  intro U D f post hQ h29 hL hn hd h
  have hc := Q_c hQ
  show b_X12_readTerm rec 55 U post
  unfold b_X12_readTerm
  refine hr U D f _ hQ h29 hL hn (by omega) ?_
  unfold seqR at h
  cases hx : item D f with
  | error e =>
    rw [hx] at h
    exact fun W w o => br_0 (h W w o)
  | ok p =>
    rw [hx] at h
    dsimp only at h
    obtain ⟨b1, b2, b3, b4, b5, b6⟩ := hi D f p hc.1 hc.2.1 hL (by omega) hx
    have dp := dd_pos hL (D 15 0).toNat (by rw [Int.toNat_of_nonneg hL.1]; omega)
    intro W w o
    have hcW := Q_c w
    refine br_1 ⟨_, l_term ht hi hr (U0 := W) (chR T item 42 47 1300 p.1 p.2) (fun V k g e v o2 => ?_) (fun V D2 g e v o2 => ?_) 1300 1300 p.1 p.2 W w fO_rfl (o.2.trans h29) b1 (by omega) (by omega) rfl (by omega) (by omega)⟩
    · rw [e] at h
      exact h V v (fM_trans o.1 o2)
    · rw [e] at h
      exact h V v (fO_trans o o2)
theorem l_sumR {T : Tm} (ht : It T) {rec : Nat → Um → (Int32 → Um → Prop) → Prop} {op b : Int} {item : Tm → Int → PR} (hi : itOk T item (b + 1)) (hr : rowOk T item (b_X12_readTerm rec) op (b + 1)) {U0 : Um} {post : Int32 → Um → Prop} {K : Um → Prop} (r : PR) (hE : ∀ (V : Um) (k g : Int), r = .error (k, g) → Qb V T k g → fM U0 V → post 0 V) (hK : ∀ (V : Um) (D : Tm) (g : Int), r = .ok (D, g) → Q V T D g → fO U0 V → K V) : ∀ (fu m : Nat) (D : Tm) (f : Int) (U : Um), Q U T D f → fO U0 U → uI U 55 29 = jI op → LI D → D 15 0 ≤ f → (1 ≤ dd D (D 15 0).toNat ∧ dd D (D 15 0).toNat ≤ b + 1) → r = chR T item 43 45 m D f → (1201 - f).toNat < m → (1201 - f).toNat < fu → w_X12_readSum_L9 rec 55 post K fu U := by
  intro fu
  induction fu with
  | zero => intro m D f U _ _ _ _ _ _ _ _ h; exact absurd h (Nat.not_lt_zero _)
  | succ fu ih =>
    intro m D f U hQ hF h29 hL hn hd hr2 hm hf
    obtain ⟨mm, rfl⟩ : ∃ k, m = k + 1 := ⟨m - 1, by omega⟩
    have hc := Q_c hQ
    have nb := nx_b ht hc.1 hc.2.1
    have hL0 := hL.1
    show b_X12_readSum_L9 rec 55 post K (w_X12_readSum_L9 rec 55 post K fu) U
    unfold b_X12_readSum_L9
    unfold chR at hr2
    have body : (sgS T f = 43 ∨ sgS T f = 45) → ∀ x1_7 : Int32, x1_7 = uI U 55 27 → w_X12_next 55 U (fun U_8 => b_X12_readTerm rec 55 U_8 (fun r_11 U_10 => (r_11 = 0 → post 0 U_10) ∧ (¬ r_11 = 0 → w_X12_puts 55 x1_7 0 U_10 (fun U_12 => w_X12_readSum_L9 rec 55 post K fu U_12)))) := by
      intro c x hx
      rw [if_pos c] at hr2
      have t3 : tkS T f = 3 := by
        rcases c with c | c
        · exact sg_t c (by decide)
        · exact sg_t c (by decide)
      have nc := nb.2.2 (by omega)
      have ex : x = jI (sgS T f) := by
        rw [hx, hQ.2.2.2.2.2.2.1.2.2.2.2.2]
        unfold sgS
        rw [if_pos t3]
      refine p_next hQ (fun V q o _ => ?_)
      have hcV := Q_c q
      refine hr V D (nx T f) _ q ((o.2).trans h29) hL (by omega) (by omega) ?_
      cases hx2 : item D (nx T f) with
      | error e =>
        rw [hx2] at hr2
        exact fun W w o2 => br_0 (hE W e.1 e.2 hr2 w (fM_trans (fM_trans hF.1 o.1) o2))
      | ok p =>
        rw [hx2] at hr2
        dsimp only at hr2
        obtain ⟨b1, b2, b3, b4, b5, b6⟩ := hi D (nx T f) p (by omega) (by omega) hL (by omega) hx2
        intro W w o2
        have hcW := Q_c w
        refine br_1 ?_
        refine p_puts w (by have := b1.1; omega) (sgS T f) 0 ex rfl (fun W2 w2 o3 => ?_)
        obtain ⟨g1, g2⟩ := pt_LI (s := sgS T f) (v := 0) b1 (Or.inr (Or.inr ⟨by omega, by omega⟩))
        rw [if_neg (by omega)] at g2
        refine ih mm (putD p.1 (sgS T f) 0) p.2 W2 w2 (fO_trans (fO_trans (fO_trans hF o) o2) o3) ((o3.2.trans (o2.2.trans o.2)).trans h29) g1 ?_ (by omega) hr2 (by omega) (by omega)
        rw [pt_15]
        omega
    refine p_isSign hQ 43 rfl (by omega) (fun c => ?_) (fun c => ?_)
    · intro K5 hK5
      exact br_1 (hK5 U (body (Or.inl c)))
    · intro K5 hK5
      refine br_0 ?_
      refine p_isSign hQ 45 rfl (by omega) (fun c2 => br_1 (hK5 U (body (Or.inr c2)))) (fun c2 => br_0 ?_)
      rw [if_neg (by omega)] at hr2
      exact hK U D f hr2 hQ hF
theorem p_sum {T : Tm} (ht : It T) {rec : Nat → Um → (Int32 → Um → Prop) → Prop} {op b : Int} {item : Tm → Int → PR} (hi : itOk T item (b + 1)) (hr : rowOk T item (b_X12_readTerm rec) op (b + 1)) : rowOk T (seqR T item 43 45) (b_X12_readSum rec) op b := by
  intro U D f post hQ h29 hL hn hd h
  have hc := Q_c hQ
  show b_X12_readSum rec 55 U post
  unfold b_X12_readSum
  refine hr U D f _ hQ h29 hL hn (by omega) ?_
  unfold seqR at h
  cases hx : item D f with
  | error e =>
    rw [hx] at h
    exact fun W w o => br_0 (h W w o)
  | ok p =>
    rw [hx] at h
    dsimp only at h
    obtain ⟨b1, b2, b3, b4, b5, b6⟩ := hi D f p hc.1 hc.2.1 hL (by omega) hx
    have dp := dd_pos hL (D 15 0).toNat (by rw [Int.toNat_of_nonneg hL.1]; omega)
    intro W w o
    have hcW := Q_c w
    refine br_1 ⟨_, l_sumR ht hi hr (U0 := W) (chR T item 43 45 1300 p.1 p.2) (fun V k g e v o2 => ?_) (fun V D2 g e v o2 => ?_) 1300 1300 p.1 p.2 W w fO_rfl (o.2.trans h29) b1 (by omega) (by omega) rfl (by omega) (by omega)⟩
    · rw [e] at h
      exact h V v (fM_trans o.1 o2)
    · rw [e] at h
      exact h V v (fO_trans o o2)
theorem p_readSum {T : Tm} (ht : It T) : ∀ d : Nat, d ≤ 4 → rowOk T (sumR T d) (w_X12_readSum (d + 1)) (4 - (d : Int)) (2 * (4 - (d : Int))) := by
  intro d
  induction d with
  | zero =>
    intro _
    have a : rowOk T (atomR T (fun _ f => .error (5, f))) (b_X12_readAtom (w_X12_readSum 0)) 4 10 := p_atom (p_bracket (by omega) (Or.inl ⟨rfl, rfl⟩))
    have a2 : itOk T (atomR T (fun _ f => .error (5, f))) 10 := atom_ok ht (by omega) (fun D f p _ _ _ _ _ h => by cases h)
    exact p_sum ht (b := 8) (seq_ok ht (b := 9) a2 (Or.inr ⟨rfl, rfl⟩)) (p_term ht (b := 9) a2 a)
  | succ d ih =>
    intro hd
    have h := ih (by omega)
    have h2 := sum_ok ht d (by omega)
    have e1 : (4 : Int) - (d : Int) = 4 - ((d + 1 : Nat) : Int) + 1 := by omega
    have e2 : 2 * ((4 : Int) - (d : Int)) = 2 * (4 - ((d + 1 : Nat) : Int)) + 1 + 1 := by omega
    rw [e2] at h h2
    rw [e1] at h
    have a : rowOk T (atomR T (subR T (sumR T d))) (b_X12_readAtom (w_X12_readSum (d + 1))) (4 - ((d + 1 : Nat) : Int)) (2 * (4 - ((d + 1 : Nat) : Int)) + 1 + 1) := p_atom (p_bracket (by omega) (Or.inr ⟨by omega, _, rfl, h⟩))
    have a2 : itOk T (atomR T (subR T (sumR T d))) (2 * (4 - ((d + 1 : Nat) : Int)) + 1 + 1) := atom_ok ht (by omega) (fun D f p a b c d' e h => sub_ok ht h2 D f p a b c d' e h)
    exact p_sum ht (seq_ok ht a2 (Or.inr ⟨rfl, rfl⟩)) (p_term ht a2 a)
theorem s_X12_readFee {U : Um} {T D : Tm} {f : Int} (hQ : Q U T D f) (hL : LI D) (hn : D 15 0 ≤ f) (hd : D 11 13 ≠ 1 → D 15 0 = 0) (h13 : r32 (D 11 13)) {post : Int32 → Um → Prop} (h : Res U T (feeR T D f) post) : w_X12_readFee 55 U post := by
  unfold w_X12_readFee
  unfold feeR at h
  have hc := Q_c hQ
  have nb := nx_b hQ.2.2.2.1 hc.1 hc.2.1
  refine ⟨jvp 13 rfl (by omega) (by omega) (by decide), ?_⟩
  refine br_eq (D 11 13) 1 (rdA (MD_A hQ.2.1 11 14) 13 rfl (by omega) (by omega)) rfl h13 ⟨by omega, by omega⟩ (fun c => ?_) (fun c => ?_)
  · rw [if_pos c, ck_1 (by decide)] at h
    exact s_X12_fails hQ 4 rfl ⟨by omega, by omega⟩ (fun V v o => ⟨Or.inl rfl, h V v o.1⟩)
  rw [if_neg c, ck_0 rfl] at h
  refine ⟨jvp 13 rfl (by omega) (by omega) (by decide), ?_⟩
  intro V1 h1
  have q1 : Q V1 T (up D 11 13 1) f := by rw [h1]; exact Q_sA hQ 13 1 rfl rfl (by omega) (by omega) (by unfold dft; omega)
  have o1 : fM U V1 := by rw [h1]; exact fM_sA
  refine p_next q1 (fun V2 q2 o2 _ => ?_)
  intro V3 h3
  have q3 : Q V3 T (up D 11 13 1) (nx T f) := by rw [h3]; exact Q_xI q2 (Or.inr rfl)
  have o3 : fM V2 V3 := by rw [h3]; exact fM_sI
  have h := Res_m (fM_trans (fM_trans o1 o2.1) o3) h
  have e15 : up D 11 13 1 15 0 = D 15 0 := up_nf (by decide)
  have e0 := hd c
  have hL2 : LI (up D 11 13 1) := by
    refine ⟨by rw [e15]; exact hL.1, fun k hk => ?_⟩
    rw [e15, e0] at hk
    omega
  refine p_readSum hQ.2.2.2.1 4 (by decide) V3 (up D 11 13 1) (nx T f) _ q3 (by rw [h3, uI_sI, if_pos ⟨rfl, rfl⟩]; rfl) hL2 (by rw [e15]; omega) (by rw [e15, e0]; show (0 : Int) ≤ 2 * (4 - ((4 : Nat) : Int)); decide) ?_
  cases hx : sumR T 4 (up D 11 13 1) (nx T f) with
  | error e => rw [hx] at h; exact fun V v o => ⟨Or.inl rfl, h V v o⟩
  | ok p => rw [hx] at h; exact fun V v o => ⟨Or.inr rfl, h V v o.1⟩
