/-! the class: the week is settled, order and bits -/
abbrev Pg89 (x : Nat) (g : Int) (o k : Nat) : Prop := o = gO x g ∧ (k = 8 ∨ k = 9)
theorem Pg_G {T : Tm} (hI : I1 T) {x : Nat} (hx : x = 4 ∨ x = 5) {g : Int} (hg : isGame T g) {o k : Nat} (h : Pg89 x g o k) : PG x o k := by
  have hn := I_n hI
  have := gO_c hx hg.1 (show g < 16 by have := hg.2; omega)
  rw [← h.1] at this
  exact Or.inr ⟨this, h.2⟩
theorem xl_comp {T : Tm} {x : Nat} (hI : I1 T) {g : Int} (hg : isGame T g) {U0 : Um} {post K : Um → Prop} (hK : ∀ V : Um, GS V T x → fX (Pg89 x g) U0 V → (∀ j : Int, 0 ≤ j → j < 32 → (bt (uI V (gO x g) 8) j ↔ clashP T g j) ∧ (bt (uI V (gO x g) 9) j ↔ tightP T g j)) → K V) : ∀ (fu : Nat) (h : Int) (U : Um), GS U T x → fX (Pg89 x g) U0 U → (∀ j : Int, 0 ≤ j → j < 32 → (bt (uI U (gO x g) 8) j ↔ j < h ∧ clashP T g j) ∧ (bt (uI U (gO x g) 9) j ↔ j < h ∧ tightP T g j)) → 0 ≤ h → h ≤ T 11 3 → (T 11 3 - h).toNat < fu → w_X9_compareWithOthers_L19 x (jI g) (gO x g) post K fu (jI h) U := by
  have hn := I_n hI
  intro fu
  induction fu with
  | zero => intro h U _ _ _ _ _ q; exact absurd q (Nat.not_lt_zero _)
  | succ fu ih =>
    intro h U hG hF hb h0 h1 hf
    show b_X9_compareWithOthers_L19 x (jI g) (gO x g) post K (w_X9_compareWithOthers_L19 x (jI g) (gO x g) post K fu) (jI h) U
    unfold b_X9_compareWithOthers_L19
    have hx := hG.1
    refine br_le (T 11 3) h hG.2.2.1 rfl ⟨by omega, by omega⟩ ⟨by omega, by omega⟩ (fun c => hK U hG hF (fun j j0 j1 => ?_)) (fun c => ?_)
    · have q := hb j j0 j1
      exact ⟨q.1.trans ⟨fun z => z.2, fun z => ⟨by have := z.1.2; omega, z⟩⟩, q.2.trans ⟨fun z => z.2, fun z => ⟨by have := z.1.2; omega, z⟩⟩⟩
    have hh : isGame T h := ⟨h0, c⟩
    have fg := I_g hI g hg.1 hg.2
    have fh := I_g hI h hh.1 hh.2
    unfold gOk at fg fh
    have nxt : ∀ (V : Um), GS V T x → fX (Pg89 x g) U0 V → (∀ j : Int, 0 ≤ j → j < 32 → (bt (uI V (gO x g) 8) j ↔ j < h + 1 ∧ clashP T g j) ∧ (bt (uI V (gO x g) 9) j ↔ j < h + 1 ∧ tightP T g j)) → ∀ y : Int32, y = jI h + 1 → w_X9_compareWithOthers_L19 x (jI g) (gO x g) post K fu y V := fun V gV fV bV y hy => by
      rw [hy, show jI h + 1 = jI (h + 1) from jadd rfl rfl]
      exact ih (h + 1) V gV fV bV (by omega) (by omega) (by omega)
    have skip : ¬ (h ≠ g ∧ gm T h 3 = gm T g 3) → ∀ y : Int32, y = jI h + 1 → w_X9_compareWithOthers_L19 x (jI g) (gO x g) post K fu y U := fun nz => nxt U hG hF (fun j j0 j1 => by
      have q := hb j j0 j1
      refine ⟨q.1.trans ⟨fun z => ⟨by omega, z.2⟩, fun z => ⟨?_, z.2⟩⟩, q.2.trans ⟨fun z => ⟨by omega, z.2⟩, fun z => ⟨?_, z.2⟩⟩⟩
      · have a := z.1
        have b := z.2.2.1
        have : j ≠ h := fun e => nz (by rw [← e]; exact b)
        omega
      · have a := z.1
        have b := z.2.2.1
        have : j ≠ h := fun e => nz (by rw [← e]; exact b)
        omega)
    refine br_eq h g rfl rfl ⟨by omega, by omega⟩ ⟨by have := hg.1; omega, by have := hg.2; omega⟩ (fun c2 => skip (fun z => z.1 c2)) (fun c2 => ?_)
    obtain ⟨vh, ah, oh⟩ := GS_g hI hG hh (E := jI h) rfl
    rw [ah]
    refine ⟨vh, oh, ?_⟩
    have g3 : uI U (gO x g) 3 = jI (gm T g 3) := hG.2.2.2.2.1 g hg 3 (by decide)
    have h3 : uI U (gO x h) 3 = jI (gm T h 3) := hG.2.2.2.2.1 h hh 3 (by decide)
    have g2 : uI U (gO x g) 2 = jI (gm T g 2) := hG.2.2.2.2.1 g hg 2 (by decide)
    have h2 : uI U (gO x h) 2 = jI (gm T h 2) := hG.2.2.2.2.1 h hh 2 (by decide)
    refine br_eq (gm T h 3) (gm T g 3) h3 g3 ⟨by omega, by omega⟩ ⟨by omega, by omega⟩ (fun c3 => ?_) (fun c3 => skip (fun z => c3 z.2))
    have u10 : uR U x 10 = x + 2 := hG.2.1.1
    rw [u10]
    refine ⟨oc_r hx, jvp (gm T g 2) g2 (by omega) (by omega) (by decide), vh, oh, jvp (gm T h 2) h2 (by omega) (by omega) (by decide), fun x4 hx4 => ⟨vh, oh, fun xs hxs => ?_⟩⟩
    have w := I_wS hI (gm T g 2) (gm T h 2) (by omega) (by omega) (by omega) (by omega)
    have ex4 : x4 = jI (wayS T (gm T g 2) (gm T h 2)) := by
      rw [hx4, g2, h2, jI_nat (by omega) (by omega), jI_nat (by omega) (by omega)]
      exact hG.2.2.2.2.2 _ _ ⟨by omega, by omega⟩ ⟨by omega, by omega⟩
    have exs : xs = jI (if wayS T (gm T g 2) (gm T h 2) = -1 then -1 else wayS T (gm T g 2) (gm T h 2) + T 11 4) := by
      rw [hxs, ex4, hG.2.2.2.1]
      by_cases z : wayS T (gm T g 2) (gm T h 2) = -1
      · rw [z, if_pos rfl, if_pos (by decide)]
        rfl
      · rw [if_neg (fun y => z ((jI_inj ⟨by omega, by omega⟩ ⟨by decide, by decide⟩).mp (y.trans (show (-1 : Int32) = jI (-1) by decide)))), if_neg z]
        exact jadd rfl rfl
    refine x_compare hI hG hg hh rfl rfl rfl exs (fun V x8 x9 eV a1 a0 b1 b0 => ?_)
    have fV : fX (Pg89 x g) U V := by rw [eV]; exact fX_trans (fX_sI ⟨rfl, Or.inl rfl⟩) (fX_sI ⟨rfl, Or.inr rfl⟩)
    have v8 : uI V (gO x g) 8 = uI U (gO x g) 8 ||| x8 := by rw [eV, uI_sI, if_neg (by omega), uI_sI, if_pos ⟨rfl, rfl⟩]
    have v9 : uI V (gO x g) 9 = uI U (gO x g) 9 ||| x9 := by rw [eV, uI_sI, if_pos ⟨rfl, rfl⟩]
    refine nxt V (GS_x hI fV (fun o k q => Pg_G hI hx hg q) hG) (fX_trans hF fV) (fun j j0 j1 => ?_)
    rw [v8, v9]
    have q := hb j j0 j1
    have orl : ∀ (B X : Int32) (R : Int → Prop), (R h → X = (1 : Int32) <<< (jI h &&& 31)) → (¬ R h → X = 0) → (bt B j ↔ j < h ∧ R j) → (bt (B ||| X) j ↔ j < h + 1 ∧ R j) := fun B X R r1 r0 hB => by
      by_cases z : R h
      · rw [r1 z, bt_or rfl h0 (by omega) j0 j1, hB]
        exact ⟨fun y => y.elim (fun y => ⟨by omega, y.2⟩) (fun y => ⟨by omega, by rw [y]; exact z⟩), fun y => (Int.lt_or_le j h).elim (fun v => Or.inl ⟨v, y.2⟩) (fun v => Or.inr (by omega))⟩
      · rw [r0 z, orb_0, hB]
        exact ⟨fun y => ⟨by omega, y.2⟩, fun y => ⟨(Int.lt_or_le j h).elim id (fun v => absurd (by rw [← show j = h by omega]; exact y.2) z), y.2⟩⟩
    exact ⟨orl _ x8 (clashP T g) (fun z => a1 z.2.2) (fun z => a0 (fun y => z ⟨hh, ⟨c2, c3⟩, y⟩)) q.1, orl _ x9 (tightP T g) (fun z => b1 z.2.2) (fun z => b0 (fun y => z ⟨hh, ⟨c2, c3⟩, y⟩)) q.2⟩
theorem x_comp {U : Um} {T : Tm} {x : Nat} (hI : I1 T) (hG : GS U T x) {g : Int} (hg : isGame T g) {post : Um → Prop} (h : ∀ V : Um, GS V T x → fX (Pg89 x g) U V → (∀ j : Int, 0 ≤ j → j < 32 → (bt (uI V (gO x g) 8) j ↔ clashP T g j) ∧ (bt (uI V (gO x g) 9) j ↔ tightP T g j)) → post V) : w_X9_compareWithOthers x (jI g) U post := by
  have hn := I_n hI
  obtain ⟨vg, ag, og⟩ := GS_g hI hG hg (E := jI g) rfl
  unfold w_X9_compareWithOthers
  rw [ag]
  refine ⟨vg, og, fun U3 e3 U4 e4 => ?_⟩
  have f4 : fX (Pg89 x g) U U4 := by rw [e4, e3]; exact fX_trans (fX_sI ⟨rfl, Or.inl rfl⟩) (fX_sI ⟨rfl, Or.inr rfl⟩)
  have z8 : uI U4 (gO x g) 8 = 0 := by rw [e4, uI_sI, if_neg (by omega), e3, uI_sI, if_pos ⟨rfl, rfl⟩]
  have z9 : uI U4 (gO x g) 9 = 0 := by rw [e4, uI_sI, if_pos ⟨rfl, rfl⟩]
  refine ⟨(T 11 3 - 0).toNat + 1, xl_comp hI hg (U0 := U) h _ 0 U4 (GS_x hI f4 (fun o k q => Pg_G hI hG.1 hg q) hG) f4 (fun j j0 j1 => ?_) (Int.le_refl 0) (by omega) (Nat.lt_succ_self _)⟩
  rw [z8, z9]
  exact ⟨⟨fun q => absurd q bt_0, fun q => by omega⟩, ⟨fun q => absurd q bt_0, fun q => by omega⟩⟩
/-- the newest game sinks to its place -/
abbrev P12 (x o k : Nat) : Prop := o = x ∧ k = 12
theorem xl_sink {T : Tm} {x : Nat} (hI : I1 T) {g : Nat} (hg : isGame T (g : Int)) {l : List Int} (hl : ∀ y ∈ l, isGame T y) (hs : srt T l) (hlen : l.length = g) {U0 : Um} {post K : Um → Prop} (hK : ∀ V : Um, GS V T x → fX (P12 x) U0 V → (∀ j, j ≤ g → uA V x 12 j = jI ((insL T (g : Int) l).getD j 0)) → (∀ j, g < j → uA V x 12 j = uA U0 x 12 j) → K V) : ∀ (fu : Nat) (i : Nat) (U : Um), GS U T x → fX (P12 x) U0 U → (∀ j, j < i → uA U x 12 j = jI (l.getD j 0)) → uA U x 12 i = jI (g : Int) → (∀ j, i < j → j ≤ g → uA U x 12 j = jI (l.getD (j - 1) 0)) → (∀ j, g < j → uA U x 12 j = uA U0 x 12 j) → (∀ j, i ≤ j → j < g → gm T (g : Int) 4 < gm T (l.getD j 0) 4) → i ≤ g → i < fu → w_X9_sinkIntoOrder_L2 x post K fu (jI (i : Int)) U := by
  have hn := I_n hI
  have g16 : g < 16 := by have := hg.2; omega
  intro fu
  induction fu with
  | zero => intro i U _ _ _ _ _ _ _ _ q; exact absurd q (Nat.not_lt_zero _)
  | succ fu ih =>
    intro i U hG hF hlo hi hhi hout hbig ig hf
    show b_X9_sinkIntoOrder_L2 x post K (w_X9_sinkIntoOrder_L2 x post K fu) (jI (i : Int)) U
    unfold b_X9_sinkIntoOrder_L2
    have fin : (∀ j, j < i → gm T (l.getD j 0) 4 ≤ gm T (g : Int) 4) → K U := fun c => by
      refine hK U hG hF (fun j hj => ?_) hout
      rw [insL_at (k := i) (by omega) c (fun j a b => hbig j a (by omega)), getD_ins (by omega)]
      by_cases z : j < i
      · rw [if_pos z]; exact hlo j z
      · rw [if_neg z]
        by_cases z2 : j = i
        · rw [if_pos z2, z2]; exact hi
        · rw [if_neg z2]; exact hhi j (by omega) hj
    refine br_le (i : Int) 0 rfl rfl ⟨by omega, by omega⟩ ⟨by decide, by decide⟩ (fun c => fin (fun j hj => by omega)) (fun c => ?_)
    have ei : jI (i : Int) - 1 = jI ((i : Int) - 1) := jsub rfl rfl
    have t1 : Int32.toNatClampNeg (jI (i : Int) - 1) = i - 1 := by rw [ei, jI_nat (by omega) (by omega)]; omega
    have t0 : Int32.toNatClampNeg (jI (i : Int)) = i := by rw [jI_nat (by omega) (by omega)]; rfl
    have v1 : vp_in (jI (i : Int) - 1) 16 := jvp ((i : Int) - 1) ei (by omega) (by omega) (by decide)
    have v0 : vp_in (jI (i : Int)) 16 := jvp (i : Int) rfl (by omega) (by omega) (by decide)
    have r1 := hlo (i - 1) (by omega)
    have hm : l.getD (i - 1) 0 ∈ l := by
      rw [List.getD_eq_getElem?_getD, List.getElem?_eq_getElem (by omega)]
      exact List.getElem_mem _
    have hp := hl _ hm
    obtain ⟨vp, ap, op⟩ := GS_g hI hG hp (E := jI (l.getD (i - 1) 0)) rfl
    obtain ⟨vg, ag, og⟩ := GS_g hI hG hg (E := jI (g : Int)) rfl
    have p4 : uI U (gO x (l.getD (i - 1) 0)) 4 = jI (gm T (l.getD (i - 1) 0) 4) := hG.2.2.2.2.1 _ hp 4 (by decide)
    have g4 : uI U (gO x (g : Int)) 4 = jI (gm T (g : Int) 4) := hG.2.2.2.2.1 _ hg 4 (by decide)
    have fp := I_g hI _ hp.1 hp.2
    have fg := I_g hI _ hg.1 hg.2
    unfold gOk at fp fg
    rw [t1, t0, r1, hi, ap, ag]
    refine ⟨v1, vp, op, v0, vg, og, br_le (gm T (l.getD (i - 1) 0) 4) (gm T (g : Int) 4) p4 g4 ⟨by omega, by omega⟩ ⟨by omega, by omega⟩ (fun c2 => fin (fun j hj => ?_)) (fun c2 => ⟨v1, fun x3 hx3 => ⟨v0, v1, fun U7 e7 => ⟨v0, fun U8 e8 y hy => ?_⟩⟩⟩)⟩
    · have := srt_getD hs (i := j) (j := i - 1) (by omega) (by omega)
      omega
    have f8 : fX (P12 x) U U8 := by rw [e8, e7]; exact fX_trans (fX_sA ⟨rfl, rfl⟩) (fX_sA ⟨rfl, rfl⟩)
    have e : ∀ j, uA U8 x 12 j = if j = i then jI (l.getD (i - 1) 0) else if j = i - 1 then jI (g : Int) else uA U x 12 j := fun j => by
      rw [e8, uA_sA, if_pos ⟨rfl, rfl⟩, e7, uA_sA, if_pos ⟨rfl, rfl⟩, hx3]
      rfl
    rw [hy, show jI (i : Int) + (-1) = jI ((i - 1 : Nat) : Int) from by rw [show ((i - 1 : Nat) : Int) = (i : Int) + (-1) by omega]; exact jadd rfl rfl]
    refine ih (i - 1) U8 (GS_x hI f8 (fun o k q => Or.inl ⟨q.1, Or.inl q.2⟩) hG) (fX_trans hF f8) (fun j hj => ?_) ?_ (fun j hj hj2 => ?_) (fun j hj => ?_) (fun j hj hj2 => ?_) (by omega) (by omega)
    · rw [e, if_neg (by omega), if_neg (by omega)]; exact hlo j (by omega)
    · rw [e, if_neg (by omega), if_pos rfl]
    · rw [e]
      by_cases z : j = i
      · rw [if_pos z, z]
      · rw [if_neg z, if_neg (by omega)]; exact hhi j (by omega) hj2
    · rw [e, if_neg (by omega), if_neg (by omega)]; exact hout j hj
    · by_cases z : j = i - 1
      · rw [z]; exact c2
      · exact hbig j (by omega) hj2
