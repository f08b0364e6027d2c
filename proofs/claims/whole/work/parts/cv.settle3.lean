/-! the class: the week is settled, whole -/
noncomputable abbrev dT (T : Tm) (g : Int) : List Int := dayI T (fun _ => True) g
theorem dT_s {T : Tm} {g : Int} (h : 0 ≤ g) : dT T (g + 1) = insL T g (dT T g) := by
  show dayI T (fun _ => True) (g + 1) = _
  rw [dayI_s h, cif_t trivial]
theorem dT_len {T : Tm} {g : Int} (h : 0 ≤ g) : ((dT T g).length : Int) = g := by
  show ((dayI T (fun _ => True) g).length : Int) = g
  rw [dayI_len h, cnt_all h]
abbrev P8912 (x o k : Nat) : Prop := (o = x ∧ k = 12) ∨ ((10 + 16 * (x - 4) ≤ o ∧ o < 26 + 16 * (x - 4)) ∧ (k = 8 ∨ k = 9))
def gBits (U : Um) (T : Tm) (x : Nat) (n : Int) : Prop := ∀ g : Int, 0 ≤ g → g < n → ∀ j : Int, 0 ≤ j → j < 32 → (bt (uI U (gO x g) 8) j ↔ clashP T g j) ∧ (bt (uI U (gO x g) 9) j ↔ tightP T g j)
theorem xl_set120 {T : Tm} {x : Nat} (hI : I1 T) {U0 : Um} {post K : Um → Prop} (hK : ∀ V : Um, GS V T x → fX (P8912 x) U0 V → (∀ j : Nat, (j : Int) < T 11 3 → uA V x 12 j = jI ((dT T (T 11 3)).getD j 0)) → gBits V T x (T 11 3) → K V) : ∀ (fu : Nat) (g : Int) (U : Um), GS U T x → fX (P8912 x) U0 U → (∀ j : Nat, (j : Int) < g → uA U x 12 j = jI ((dT T g).getD j 0)) → (∀ j : Nat, g ≤ j → (j : Int) < T 11 3 → uA U x 12 j = jI (j : Int)) → gBits U T x g → 0 ≤ g → g ≤ T 11 3 → (T 11 3 - g).toNat < fu → w_X9_settle_L120 x post K fu (jI g) U := by
  have hn := I_n hI
  intro fu
  induction fu with
  | zero => intro g U _ _ _ _ _ _ _ h; exact absurd h (Nat.not_lt_zero _)
  | succ fu ih =>
    intro g U hG hF hlo hhi hb g0 g1 hf
    show b_X9_settle_L120 x post K (w_X9_settle_L120 x post K fu) (jI g) U
    unfold b_X9_settle_L120
    have hx := hG.1
    refine br_le (T 11 3) g hG.2.2.1 rfl ⟨by omega, by omega⟩ ⟨by omega, by omega⟩ (fun c => ?_) (fun c => ?_)
    · rw [show g = T 11 3 by omega] at hlo hb
      exact hK U hG hF hlo hb
    have hg : isGame T g := ⟨g0, c⟩
    refine x_comp hI hG hg (fun V gV fV bV => ?_)
    have fVw : fX (P8912 x) U V := fX_w (fun o k q => by
      have := gO_c hx g0 (show g < 16 by omega)
      rw [← q.1] at this
      exact Or.inr ⟨this, q.2⟩) fV
    have v12 : uA V x 12 = uA U x 12 := (fV.2.2 x 12 (fun z => by omega)).2.2.1
    unfold w_X9_sinkIntoOrder
    intro y hy
    obtain ⟨gn, rfl⟩ : ∃ m : Nat, g = (m : Int) := ⟨g.toNat, by omega⟩
    rw [hy]
    have ln := dT_len (T := T) (g := (gn : Int)) g0
    refine ⟨gn + 1, xl_sink hI (g := gn) hg (l := dT T (gn : Int)) (fun y hy => ?_) (dayI_srt g0) (by omega) (U0 := V) (fun Z gZ fZ rZ oZ w hw => ?_) _ gn V gV fX_rfl (fun j hj => by rw [v12]; exact hlo j (by omega)) (by rw [v12]; exact hhi gn (Int.le_refl _) c) (fun j a b => by omega) (fun _ _ => rfl) (fun j a b => by omega) (Nat.le_refl _) (Nat.lt_succ_self _)⟩
    · have := (dayI_mem (T := T) (P := fun _ => True) (n := (gn : Int)) g0).mp hy
      exact ⟨this.1.1, by omega⟩
    rw [hw, show jI (gn : Int) + 1 = jI ((gn : Int) + 1) from jadd rfl rfl]
    refine ih ((gn : Int) + 1) Z gZ (fX_trans hF (fX_trans fVw (fX_w (fun o k q => Or.inl q) fZ))) (fun j hj => ?_) (fun j a b => ?_) (fun g' a b j j0 j1 => ?_) (by omega) (by omega) (by omega)
    · rw [dT_s g0]
      exact rZ j (by omega)
    · rw [oZ j (by omega), v12]
      exact hhi j (by omega) b
    · have gx := gO_c hx a (show g' < 16 by omega)
      rw [(fZ.2.2 (gO x g') 8 (by omega)).1, (fZ.2.2 (gO x g') 9 (by omega)).1]
      by_cases z : g' = (gn : Int)
      · rw [z]
        exact bV j j0 j1
      · have ne : gO x g' ≠ gO x (gn : Int) := by
          unfold gO
          omega
        rw [(fV.2.2 (gO x g') 8 (fun q => ne q.1)).1, (fV.2.2 (gO x g') 9 (fun q => ne q.1)).1]
        exact hb g' a (by omega) j j0 j1
abbrev P1234 (x o k : Nat) : Prop := o = x ∧ (k = 12 ∨ k = 13 ∨ k = 14)
def dBits (U : Um) (T : Tm) (x : Nat) (n : Int) : Prop := (∀ d : Int, 0 ≤ d → d < 7 → ∀ h : Int, 0 ≤ h → h < 32 → (bt (uA U x 13 d.toNat) h ↔ (0 ≤ h ∧ h < n) ∧ gm T h 3 = d)) ∧ ∀ f : Int, 0 ≤ f → f < 6 → ∀ h : Int, 0 ≤ h → h < 32 → (bt (uA U x 14 f.toNat) h ↔ (0 ≤ h ∧ h < n) ∧ gm T h 2 = f)
theorem xl_set57 {T : Tm} {x : Nat} (hI : I1 T) {U0 : Um} {post K : Um → Prop} (hK : ∀ V : Um, GS V T x → fX (P1234 x) U0 V → (∀ j : Nat, (j : Int) < T 11 3 → uA V x 12 j = jI (j : Int)) → dBits V T x (T 11 3) → K V) : ∀ (fu : Nat) (g : Int) (U : Um), GS U T x → fX (P1234 x) U0 U → (∀ j : Nat, (j : Int) < g → uA U x 12 j = jI (j : Int)) → dBits U T x g → 0 ≤ g → g ≤ T 11 3 → (T 11 3 - g).toNat < fu → w_X9_settle_L57 x post K fu (jI g) U := by
  have hn := I_n hI
  intro fu
  induction fu with
  | zero => intro g U _ _ _ _ _ _ h; exact absurd h (Nat.not_lt_zero _)
  | succ fu ih =>
    intro g U hG hF hr hb g0 g1 hf
    show b_X9_settle_L57 x post K (w_X9_settle_L57 x post K fu) (jI g) U
    unfold b_X9_settle_L57
    have hx := hG.1
    refine br_le (T 11 3) g hG.2.2.1 rfl ⟨by omega, by omega⟩ ⟨by omega, by omega⟩ (fun c => ?_) (fun c => ?_)
    · rw [show g = T 11 3 by omega] at hr hb
      exact hK U hG hF hr hb
    have hg : isGame T g := ⟨g0, c⟩
    obtain ⟨vg, ag, og⟩ := GS_g hI hG hg (E := jI g) rfl
    have fg := I_g hI g hg.1 hg.2
    unfold gOk at fg
    have g3 : uI U (gO x g) 3 = jI (gm T g 3) := hG.2.2.2.2.1 g hg 3 (by decide)
    have g2 : uI U (gO x g) 2 = jI (gm T g 2) := hG.2.2.2.2.1 g hg 2 (by decide)
    have t3 : Int32.toNatClampNeg (jI (gm T g 3)) = (gm T g 3).toNat := jI_nat (by omega) (by omega)
    have t2 : Int32.toNatClampNeg (jI (gm T g 2)) = (gm T g 2).toNat := jI_nat (by omega) (by omega)
    rw [ag, g3, t3]
    refine ⟨vg, og, jvp (gm T g 3) rfl (by omega) (by omega) (by decide), jvp (gm T g 3) rfl (by omega) (by omega) (by decide), fun U12 e12 => ?_⟩
    have a12 : ∀ o k i, uAR U12 o k i = uAR U o k i := fun o k i => by rw [e12]; rfl
    have i12 : ∀ o k, uI U12 o k = uI U o k := fun o k => by rw [e12]; rfl
    rw [a12, ag, i12, g2, t2]
    refine ⟨vg, og, jvp (gm T g 2) rfl (by omega) (by omega) (by decide), jvp (gm T g 2) rfl (by omega) (by omega) (by decide), fun U15 e15 => ⟨vg, fun U16 e16 y hy => ?_⟩⟩
    have f16 : fX (P1234 x) U U16 := by rw [e16, e15, e12]; exact fX_trans (fX_trans (fX_sA ⟨rfl, by decide⟩) (fX_sA ⟨rfl, by decide⟩)) (fX_sA ⟨rfl, by decide⟩)
    rw [hy, show jI g + 1 = jI (g + 1) from jadd rfl rfl]
    have r13 : uA U16 x 13 = va_up (uA U x 13) (gm T g 3).toNat (uA U x 13 (gm T g 3).toNat ||| ((1 : Int32) <<< (jI g &&& 31))) := by
      rw [e16, uA_sA, if_neg (by omega), e15, uA_sA, if_neg (by omega), e12, uA_sA, if_pos ⟨rfl, rfl⟩]
    have r14 : uA U16 x 14 = va_up (uA U x 14) (gm T g 2).toNat (uA U x 14 (gm T g 2).toNat ||| ((1 : Int32) <<< (jI g &&& 31))) := by
      rw [e16, uA_sA, if_neg (by omega), e15, uA_sA, if_pos ⟨rfl, rfl⟩, e12, uA_sA, if_neg (by omega)]
    have r12 : uA U16 x 12 = va_up (uA U x 12) g.toNat (jI g) := by
      rw [e16, uA_sA, if_pos ⟨rfl, rfl⟩, e15, uA_sA, if_neg (by omega), e12, uA_sA, if_neg (by omega), jI_nat g0 (by omega)]
    have upd : ∀ (B : Nat → Int32) (F : Int → Int) (d : Int), 0 ≤ d → 0 ≤ F g → (∀ h : Int, 0 ≤ h → h < 32 → (bt (B d.toNat) h ↔ (0 ≤ h ∧ h < g) ∧ F h = d)) → ∀ h : Int, 0 ≤ h → h < 32 → (bt (va_up B (F g).toNat (B (F g).toNat ||| ((1 : Int32) <<< (jI g &&& 31))) d.toNat) h ↔ (0 ≤ h ∧ h < g + 1) ∧ F h = d) := fun B F d d0 F0 hB h h0 h1 => by
      unfold va_up
      by_cases z : d = F g
      · rw [if_pos (by rw [z]), ← z, bt_or rfl g0 (by omega) h0 h1, hB h h0 h1]
        exact ⟨fun q => q.elim (fun q => ⟨⟨h0, by omega⟩, q.2⟩) (fun q => ⟨⟨h0, by omega⟩, by rw [q]; exact z.symm⟩), fun q => (Int.lt_or_le h g).elim (fun v => Or.inl ⟨⟨h0, v⟩, q.2⟩) (fun v => Or.inr (by omega))⟩
      · rw [if_neg (by omega), hB h h0 h1]
        exact ⟨fun q => ⟨⟨h0, by omega⟩, q.2⟩, fun q => ⟨⟨h0, (Int.lt_or_le h g).elim id (fun v => absurd (by rw [← q.2, show h = g by omega]) z)⟩, q.2⟩⟩
    refine ih (g + 1) U16 (GS_x hI f16 (fun o k q => Or.inl q) hG) (fX_trans hF f16) (fun j hj => ?_) ⟨fun d d0 d1 h h0 h1 => ?_, fun d d0 d1 h h0 h1 => ?_⟩ (by omega) (by omega) (by omega)
    · rw [r12]
      unfold va_up
      by_cases z : j = g.toNat
      · rw [if_pos z]
        congr 1
        omega
      · rw [if_neg z]
        exact hr j (by omega)
    · rw [r13]
      exact upd (uA U x 13) (fun h => gm T h 3) d d0 (by show 0 ≤ gm T g 3; omega) (fun h a b => hb.1 d d0 d1 h a b) h h0 h1
    · rw [r14]
      exact upd (uA U x 14) (fun h => gm T h 2) d d0 (by show 0 ≤ gm T g 2; omega) (fun h a b => hb.2 d d0 d1 h a b) h h0 h1
theorem xl_set15 {T : Tm} {x : Nat} (hI : I1 T) {U0 : Um} {post K : Um → Prop} (hK : ∀ V : Um, GS V T x → fX (P1234 x) U0 V → (∀ j : Nat, j < 7 → uA V x 13 j = 0) → (∀ j, uA V x 14 j = uA U0 x 14 j) → K V) : ∀ (fu : Nat) (a : Int) (U : Um), GS U T x → fX (P1234 x) U0 U → (∀ j : Nat, (j : Int) < a → uA U x 13 j = 0) → (∀ j, uA U x 14 j = uA U0 x 14 j) → 0 ≤ a → a ≤ 7 → (7 - a).toNat < fu → w_X9_settle_L15 x post K fu (jI a) U := by
  intro fu
  induction fu with
  | zero => intro a U _ _ _ _ _ _ h; exact absurd h (Nat.not_lt_zero _)
  | succ fu ih =>
    intro a U hG hF hr ho a0 a1 hf
    show b_X9_settle_L15 x post K (w_X9_settle_L15 x post K fu) (jI a) U
    unfold b_X9_settle_L15
    refine br_le 7 a rfl rfl ⟨by decide, by decide⟩ ⟨by omega, by omega⟩ (fun q => hK U hG hF (fun j hj => hr j (by omega)) ho) (fun q => ⟨jvp a rfl a0 q (by decide), fun V eV y hy => ?_⟩)
    rw [jI_nat a0 (by omega)] at eV
    have fV : fX (P1234 x) U V := by rw [eV]; exact fX_sA ⟨rfl, by decide⟩
    rw [hy, show jI a + 1 = jI (a + 1) from jadd rfl rfl]
    refine ih (a + 1) V (GS_x hI fV (fun o k q => Or.inl q) hG) (fX_trans hF fV) (fun j hj => ?_) (fun j => ?_) (by omega) (by omega) (by omega)
    · rw [eV, uA_sA, if_pos ⟨rfl, rfl⟩]
      unfold va_up
      by_cases z : j = a.toNat
      · rw [if_pos z]
      · rw [if_neg z]
        exact hr j (by omega)
    · rw [eV, uA_sA, if_neg (by omega)]
      exact ho j
theorem xl_set36 {T : Tm} {x : Nat} (hI : I1 T) {U0 : Um} {post K : Um → Prop} (hK : ∀ V : Um, GS V T x → fX (P1234 x) U0 V → (∀ j : Nat, j < 6 → uA V x 14 j = 0) → (∀ j, uA V x 13 j = uA U0 x 13 j) → K V) : ∀ (fu : Nat) (a : Int) (U : Um), GS U T x → fX (P1234 x) U0 U → (∀ j : Nat, (j : Int) < a → uA U x 14 j = 0) → (∀ j, uA U x 13 j = uA U0 x 13 j) → 0 ≤ a → a ≤ 6 → (6 - a).toNat < fu → w_X9_settle_L36 x post K fu (jI a) U := by
  intro fu
  induction fu with
  | zero => intro a U _ _ _ _ _ _ h; exact absurd h (Nat.not_lt_zero _)
  | succ fu ih =>
    intro a U hG hF hr ho a0 a1 hf
    show b_X9_settle_L36 x post K (w_X9_settle_L36 x post K fu) (jI a) U
    unfold b_X9_settle_L36
    refine br_le 6 a rfl rfl ⟨by decide, by decide⟩ ⟨by omega, by omega⟩ (fun q => hK U hG hF (fun j hj => hr j (by omega)) ho) (fun q => ⟨jvp a rfl a0 q (by decide), fun V eV y hy => ?_⟩)
    rw [jI_nat a0 (by omega)] at eV
    have fV : fX (P1234 x) U V := by rw [eV]; exact fX_sA ⟨rfl, by decide⟩
    rw [hy, show jI a + 1 = jI (a + 1) from jadd rfl rfl]
    refine ih (a + 1) V (GS_x hI fV (fun o k q => Or.inl q) hG) (fX_trans hF fV) (fun j hj => ?_) (fun j => ?_) (by omega) (by omega) (by omega)
    · rw [eV, uA_sA, if_pos ⟨rfl, rfl⟩]
      unfold va_up
      by_cases z : j = a.toNat
      · rw [if_pos z]
      · rw [if_neg z]
        exact hr j (by omega)
    · rw [eV, uA_sA, if_neg (by omega)]
      exact ho j
theorem dBits_0 {U : Um} {T : Tm} {x : Nat} (h13 : ∀ j : Nat, j < 7 → uA U x 13 j = 0) (h14 : ∀ j : Nat, j < 6 → uA U x 14 j = 0) : dBits U T x 0 := by
  refine ⟨fun d d0 d1 j j0 j1 => ?_, fun d d0 d1 j j0 j1 => ?_⟩
  · rw [h13 d.toNat (by omega)]
    exact ⟨fun q => absurd q bt_0, fun q => by omega⟩
  · rw [h14 d.toNat (by omega)]
    exact ⟨fun q => absurd q bt_0, fun q => by omega⟩
/-- what stands once the week is settled -/
theorem x_set4 {U : Um} {T : Tm} {x : Nat} (hI : I1 T) (hG : GS U T x) {post : Um → Prop} (h : ∀ V : Um, GS V T x → fX (PG x) U V → CWd V T x → gBits V T x (T 11 3) → post V) : (∃ n_28, w_X9_settle_L15 x post (fun U_6 => (∃ n_27, w_X9_settle_L36 x post (fun U_9 => (∃ n_26, w_X9_settle_L57 x post (fun U_18 => (∃ n_25, w_X9_settle_L120 x post (fun U_24 => post U_24) n_25 0 U_18)) n_26 0 U_9)) n_27 0 U_6)) n_28 0 U) := by
  have hn := I_n hI
  have n3 : 0 ≤ T 11 3 := by omega
  have last : ∀ Va Vb : Um, fX (P1234 x) U Va → GS Va T x → dBits Va T x (T 11 3) → GS Vb T x → fX (P8912 x) Va Vb → (∀ j : Nat, (j : Int) < T 11 3 → uA Vb x 12 j = jI ((dT T (T 11 3)).getD j 0)) → gBits Vb T x (T 11 3) → post Vb := fun Va Vb fa ga da gb fb rb bb => by
    have hx := gb.1
    refine h Vb gb (fX_trans (fX_w (fun o k q => Or.inl q) fa) (fX_w (fun o k q => q.elim (fun q => Or.inl ⟨q.1, Or.inl q.2⟩) Or.inr) fb)) ⟨fun i i0 i1 => ?_, fun d d0 d1 j j0 j1 => ?_, fun d d0 d1 j j0 j1 => ?_⟩ bb
    · exact rb i.toNat (by omega)
    · rw [(fb.2.2 x 13 (by omega)).2.2.1]
      exact da.1 d d0 d1 j j0 j1
    · rw [(fb.2.2 x 14 (by omega)).2.2.1]
      exact da.2 d d0 d1 j j0 j1
  refine ⟨(7 - 0 : Int).toNat + 1, xl_set15 hI (U0 := U) ?_ _ 0 U hG fX_rfl (fun j hj => by omega) (fun _ => rfl) (by decide) (by decide) (Nat.lt_succ_self _)⟩
  intro Va ga fa za _
  refine ⟨(6 - 0 : Int).toNat + 1, xl_set36 hI (U0 := Va) ?_ _ 0 Va ga fX_rfl (fun j hj => by omega) (fun _ => rfl) (by decide) (by decide) (Nat.lt_succ_self _)⟩
  intro Vb gb fb zb ob
  have d0 : dBits Vb T x 0 := dBits_0 (fun j hj => by rw [ob]; exact za j hj) zb
  refine ⟨(T 11 3 - 0).toNat + 1, xl_set57 hI (U0 := Vb) ?_ _ 0 Vb gb fX_rfl (fun j hj => by omega) d0 (Int.le_refl 0) n3 (Nat.lt_succ_self _)⟩
  intro Vc gc fc rc dc
  refine ⟨(T 11 3 - 0).toNat + 1, xl_set120 hI (U0 := Vc) ?_ _ 0 Vc gc fX_rfl (fun j hj => by omega) (fun j _ b => rc j b) (fun g a b => by omega) (Int.le_refl 0) n3 (Nat.lt_succ_self _)⟩
  intro Vd gd fd rd bd
  exact last Vc Vd (fX_trans fa (fX_trans fb fc)) gc dc gd fd rd bd
