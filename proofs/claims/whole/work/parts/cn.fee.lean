/-! the class: the law of the fee, read -/
theorem IN_eq {D E : Tm} (e : ∀ k, k ≠ 12 → k ≠ 13 → k ≠ 15 → E k = D k) (h : IN D) : IN E := by
  unfold IN at h ⊢
  rw [e 11 (by decide) (by decide) (by decide), e 1 (by decide) (by decide) (by decide), e 4 (by decide) (by decide) (by decide), e 5 (by decide) (by decide) (by decide)]
  exact h
def rowC (T : Tm) (x : Nat) (it : Tm → Int → PR) (w : Um → (Um → Prop) → Prop) (b : Int) : Prop := ∀ (U : Um) (D : Tm) (f : Int) (post : Um → Prop), CQ U T D x f → IN D → LI D → D 15 0 ≤ f → dd D (D 15 0).toNat ≤ b → ResC U T x (it D f) post → w U post
def whC (c : Int) : Int := if c = ownL.getD 11 0 then 0 else if c = ownL.getD 16 0 then 1 else if c = ownL.getD 17 0 then 2 else if c = ownL.getD 18 0 then 3 else if c = ownL.getD 19 0 then 4 else if c = ownL.getD 20 0 then 5 else if c = ownL.getD 21 0 then 6 else if c = ownL.getD 22 0 then 7 else -1
theorem whC_j : ∀ j, j < 23 → whC (ownL.getD (wpm j) 0) = if j < 15 then -1 else (j : Int) - 15 := by decide
theorem own_at : ∀ j, j < 23 → ownL.getD j 0 ∈ ownL := by decide
theorem whC_n {c : Int} (h : c ∉ ownL) : whC c = -1 := by
  have k : ∀ j, j < 23 → c ≠ ownL.getD j 0 := fun j hj e => h (by rw [e]; exact own_at j hj)
  unfold whC
  rw [if_neg (k 11 (by decide)), if_neg (k 16 (by decide)), if_neg (k 17 (by decide)), if_neg (k 18 (by decide)), if_neg (k 19 (by decide)), if_neg (k 20 (by decide)), if_neg (k 21 (by decide)), if_neg (k 22 (by decide))]
theorem wasks_j : ∀ j, j < 23 → wasks j = if j < 15 then 0 else jI (-1 - ((j : Int) - 15)) := by decide
def enS (s v : Int) : Int := if s = 0 then v else if s = 1 then -1 - v else if s = 43 then -11 else if s = 45 then -12 else if s = 42 then -13 else -14
theorem f_addL {U : Um} {T : Tm} {x : Nat} {k p : Int} (h : CF U T x k p) {ob : Nat} (eo : ob = x + 4) {a1 : Int32} {post : Um → Prop} (hp : ∀ V : Um, CF V T x k p → fX (PX x) U V → post V) : w_X3_add ob a1 U post := by
  rw [eo]
  obtain ⟨c, cb, hc⟩ := h.2.2.1
  refine br_le 1200 c rfl hc ⟨by decide, by decide⟩ ⟨by omega, by omega⟩ (fun _ => hp U h fX_rfl) (fun q => ⟨jvp c hc cb.1 (by omega) (by decide), fun V1 e1 V eV => ?_⟩)
  have fV : fX (fun o k => o = x + 4 ∧ k ≤ 1) U V := by rw [eV, e1]; exact fX_trans (fX_sA ⟨rfl, by decide⟩) (fX_sI ⟨rfl, by decide⟩)
  obtain ⟨a, b, _, d, e, g⟩ := h
  have hx := a.1
  have f := fun o j (q : o ≠ x + 4) => fV.2.2 o j (fun z => q z.1)
  refine hp V ⟨CB0_x fV (fun o j z => by omega) a, ?_, ⟨c + 1, ⟨by omega, by omega⟩, ?_⟩, ?_, ?_, g⟩ (fX_w (fun o k q => by omega) fV)
  · rw [(f x 1 (by omega)).2.2.1]; exact b
  · rw [eV, uI_sI, if_pos ⟨rfl, rfl⟩, e1, uI_sA, hc]
    exact jadd rfl rfl
  · rw [(f 2 2 (by omega)).1]; exact d
  · rw [(f 2 3 (by omega)).1]; exact e
theorem x_addL {U : Um} {T D : Tm} {x : Nat} {f : Int} (hQ : CQ U T D x f) (hl : 0 ≤ D 15 0 ∧ D 15 0 < 1200) {ob : Nat} (eo : ob = x + 4) {a1 : Int32} {s v : Int} (e1 : a1 = jI (enS s v)) {post : Um → Prop} (h : ∀ V : Um, CQ V T (putD D s v) x f → fX (PX x) U V → post V) : w_X3_add ob a1 U post := by
  rw [eo]
  obtain ⟨⟨a1', a2, a3, a4⟩, b, c, d, e, ⟨l1, l2⟩⟩ := hQ.2.1
  have hx := hQ.1.1
  refine br_le 1200 (D 15 0) rfl l1 ⟨by decide, by decide⟩ ⟨by omega, by omega⟩ (fun q => by omega) (fun q => ⟨jvp (D 15 0) l1 hl.1 hl.2 (by decide), fun V1 v1 V eV => ?_⟩)
  have fV : fX (fun o k => o = x + 4 ∧ k ≤ 1) U V := by rw [eV, v1]; exact fX_trans (fX_sA ⟨rfl, by decide⟩) (fX_sI ⟨rfl, by decide⟩)
  have f := fun o j (q : o ≠ x + 4) => fV.2.2 o j (fun z => q z.1)
  have pk := fun k (h2 : k ≠ 12) (h3 : k ≠ 13) (h5 : k ≠ 15) => pt_k (D := D) (s := s) (v := v) h2 h3 h5
  have gx : ∀ g, gO x g ≠ x + 4 := fun g => by unfold gO; omega
  refine h V (CQ_up hQ fV (fun o k z => by omega) ⟨⟨fun k k0 k1 => ?_, ?_, ?_, ?_⟩, CDa_c (fun t => (f x _ (by omega)).2.2.1) (fun t i => by unfold nmD; rw [pk 1 (by decide) (by decide) (by decide), pk 4 (by decide) (by decide) (by decide), pk 5 (by decide) (by decide) (by decide)]) (fun t _ _ => by rw [pk 11 (by decide) (by decide) (by decide)]) b, CDo_c (fun j _ _ => (f x j (by omega)).2.2.1) (pk 9 (by decide) (by decide) (by decide)) (pk 6 (by decide) (by decide) (by decide)) (pk 7 (by decide) (by decide) (by decide)) (pk 8 (by decide) (by decide) (by decide)) (by rw [pk 11 (by decide) (by decide) (by decide)]) c, fun g g0 g1 k hk => ?_, fun p q p0 p1 q0 q1 => ?_, ?_, fun k k0 k1 => ?_⟩) (fX_w (fun o k q => by omega) fV)
  · rw [(f x 1 (by omega)).2.2.1, pk 11 (by decide) (by decide) (by decide)]; exact a1' k k0 k1
  · rw [(f x 7 (by omega)).1, pk 11 (by decide) (by decide) (by decide)]; exact a2
  · rw [(f x 8 (by omega)).1, pk 11 (by decide) (by decide) (by decide)]; exact a3
  · rw [(f x 9 (by omega)).1, pk 11 (by decide) (by decide) (by decide)]; exact a4
  · rw [pk 11 (by decide) (by decide) (by decide)] at g1
    rw [(f _ k (gx g)).1]
    unfold gD
    rw [pk 10 (by decide) (by decide) (by decide)]
    exact d g g0 g1 k hk
  · rw [(f (x + 2) _ (by omega)).2.2.1, pk 2 (by decide) (by decide) (by decide)]; exact e p q p0 p1 q0 q1
  · rw [eV, uI_sI, if_pos ⟨rfl, rfl⟩, v1, uI_sA, l1, pt_15]
    exact jadd rfl rfl
  · rw [pt_15] at k1
    have r0 : uA V (x + 4) 0 = va_up (uA U (x + 4) 0) (D 15 0).toNat a1 := by
      rw [eV]
      show uA V1 (x + 4) 0 = _
      rw [v1, uA_sA, if_pos ⟨rfl, rfl⟩, l1, jI_nat hl.1 (by omega)]
    rw [r0]
    unfold va_up
    by_cases z : k = D 15 0
    · have e13 : putD D s v 13 (1300 + k) = s := by rw [pt_13, if_pos (by omega)]
      have e12 : putD D s v 12 (1300 + k) = v := by rw [pt_12, if_pos (by omega)]
      rw [if_pos (by rw [z]), e1]
      unfold encD enS
      rw [e13, e12]
    · have e13 : putD D s v 13 (1300 + k) = D 13 (1300 + k) := by rw [pt_13, if_neg (by omega)]
      have e12 : putD D s v 12 (1300 + k) = D 12 (1300 + k) := by rw [pt_12, if_neg (by omega)]
      have r := l2 k k0 (by omega)
      rw [if_neg (by omega), r]
      unfold encD
      rw [e13, e12]
theorem ResC_w {U : Um} {T : Tm} {x : Nat} {r : PR} {post : Um → Prop} (hE : ∀ (k p : Int) (V : Um), r = .error (k, p) → CF V T x k p → fX (PX x) U V → post V) (hK : ∀ (D : Tm) (f : Int) (V : Um), r = .ok (D, f) → CQ V T D x f → fX (PX x) U V → post V) : ResC U T x r post := by
  unfold ResC
  cases r with
  | error e => exact fun V q o => hE e.1 e.2 V rfl q o
  | ok p => exact fun V q o => hK p.1 p.2 V rfl q o
theorem f_atom {rec : Nat → Int32 → Um → (Um → Prop) → Prop} {a : Int32} {U : Um} {T : Tm} {x : Nat} {k p : Int} (h : CF U T x k p) {post : Um → Prop} (hp : post U) : b_X4_readAtom rec 2 a U post := fl_F h hp
theorem p_atomC {T : Tm} {x : Nat} {rec : Nat → Int32 → Um → (Um → Prop) → Prop} {b dep : Int} {sub : Tm → Int → PR} (hdep : 0 ≤ dep ∧ dep ≤ 4) (hs : (dep = 4 ∧ sub = fun _ f => .error (5, f)) ∨ (dep < 4 ∧ ∃ sum, sub = subR T sum ∧ rowC T x sum (fun U post => rec 2 (jI (dep + 1)) U post) b ∧ itOk T sum b)) : rowC T x (atomR T sub) (fun U post => b_X4_readAtom rec 2 (jI dep) U post) b := by
  intro U D f post hQ hN hL hn hd h
  have c := hQ.1
  have fb := CQ_f hQ
  have ht := CQ_it hQ
  have hb : BD D := ⟨hN, hL.1, by omega⟩
  have nub := nu_b ht (f := f) fb.1 (by omega)
  have nb := nx_b ht (f := f) fb.1 (by omega)
  have sb := see_b ht (i := f) fb.1
  have rg : r32 (sgS T f) := by
    unfold sgS tsS
    split
    · exact ⟨by omega, by omega⟩
    · exact ⟨by decide, by decide⟩
  show b_X4_readAtom rec 2 (jI dep) U post
  unfold b_X4_readAtom
  unfold atomR at h
  have law : ∀ {V : Um} {E : Tm} {g : Int}, CQ V T E x g → oc (uR V (uR V 2 1) 11) = 2 ∧ uR V (uR V 2 1) 11 = x + 4 := fun {V E g} q => by
    have r := (CQ_r q q.1.2.2.1).2
    exact ⟨oc_of r (oc_l q.1.1), r⟩
  have r5 : uI U (uR U 2 0) 5 = jI (cdS T f) := CQ_cd hQ
  have num : nuS T f ≠ -1 → uR U 2 1 ≠ 99 ∧ oc (uR U 2 1) = 8 ∧ oc (uR U (uR U 2 1) 11) = 2 ∧ oc (uR U 2 0) = 7 ∧ w_X3_add (uR U (uR U 2 1) 11) (uI U (uR U 2 0) 6) U (fun V => oc (uR V 2 0) = 7 ∧ w_X8_advance (uR V 2 0) V (fun W => post W)) := fun q => by
    rw [if_pos q] at h
    have tk := nu_t q
    have lt := (nb.2.2 (by rw [tk]; decide)).2.1
    have lw := law hQ
    refine ⟨b_n c, b_1 c, lw.1, b_0 c, x_addL hQ (s := 0) (v := nuS T f) ⟨hL.1, by have t := ht.1; omega⟩ lw.2 (CQ_nu hQ) (fun V qV fV => ⟨b_0 qV.1, ?_⟩)⟩
    have hbV : BD (putD D 0 (nuS T f)) := ⟨IN_eq (fun k a b c => pt_k a b c) hN, by rw [pt_15]; have := hL.1; have t := ht.1; omega⟩
    exact x_next qV hbV qV.1.2.1 (fun W qW fW _ => ResC_k h qW (fX_trans fV (tX (fX_w (fun o k q => PV_t q) fW))))
  have par : nuS T f = -1 → whS T f = -1 → oc (uR U 2 0) = 7 ∧ (uI U (uR U 2 0) 7 = 40 → (jI dep < 4 → oc (uR U 2 0) = 7 ∧ w_X8_advance (uR U 2 0) U (fun V => rec 2 (jI dep + 1) V (fun W => w_X4_expectSign 2 41 W (fun Z => post Z)))) ∧ (¬ jI dep < 4 → oc (uR U 2 0) = 7 ∧ w_X4_fail 2 5 (uI U (uR U 2 0) 2) U (fun V => post V))) ∧ (¬ uI U (uR U 2 0) 7 = 40 → oc (uR U 2 0) = 7 ∧ w_X4_fail 2 1 (uI U (uR U 2 0) 2) U (fun V => post V)) := fun q q2 => by
    rw [if_neg (fun z => z q), if_neg (fun z => z q2)] at h
    refine ⟨b_0 c, br_eq (sgS T f) 40 (CQ_sg hQ) rfl rg ⟨by decide, by decide⟩ (fun s4 => ?_) (fun s4 => ⟨b_0 c, ?_⟩)⟩
    · rw [se_0 s4, ck_0 rfl] at h
      refine br_lt dep 4 rfl rfl ⟨by omega, by omega⟩ ⟨by decide, by decide⟩ (fun d4 => ⟨b_0 c, ?_⟩) (fun d4 => ⟨b_0 c, ?_⟩)
      · rcases hs with hs | ⟨_, sum, e, hr, hi⟩
        · omega
        rw [e] at h
        unfold subR at h
        have lt := nb.2.2 (by rw [sg_t s4 (by decide)]; decide)
        refine x_next hQ hb c.2.1 (fun V qV fV _ => ?_)
        have fV : fX (PX x) U V := tX (fX_w (fun o k q => PV_t q) fV)
        rw [show jI dep + 1 = jI (dep + 1) from jadd rfl rfl]
        refine hr V D (nx T f) _ qV hN hL (by omega) hd (ResC_w (fun k p W er fW oW => f_expS fW ?_) (fun E g W er qW oW => ?_))
        · rw [er] at h
          exact ResC_e h fW (fX_trans fV oW)
        · rw [er] at h
          have h : ResC U T x (ck (sgE T g 41) g (.ok (E, nx T g))) post := h
          have fW := CQ_f qW
          obtain ⟨a1, a2, a3, a4, a5, a6⟩ := hi D (nx T f) (E, g) (by omega) (by omega) hL hd er
          have a3 : D 15 0 < E 15 0 := a3
          have a4 : E 15 0 - D 15 0 ≤ g - nx T f := a4
          have hbE : BD E := ⟨IN_eq a6 hN, by have := hL.1; omega⟩
          refine x_expS qW hbE (s := 41) rfl ⟨by decide, by decide⟩ (fun e0 Z qZ fZ => ?_) (fun e0 Z fZ pZ => ?_)
          · rw [ck_0 e0] at h
            exact ResC_k h qZ (fX_trans fV (fX_trans oW (tX fZ)))
          · rw [ck_1 e0] at h
            exact ResC_e h fZ (fX_trans fV (fX_trans oW (tX pZ)))
      · rcases hs with ⟨_, e⟩ | ⟨d5, _⟩
        · rw [e] at h
          exact x_fail hQ hb (k := 5) rfl (CQ_at hQ) (by decide) fb (fun V fV pV => ResC_e h fV (tX pV))
        · omega
    · rw [se_1 s4, ck_1 (by decide)] at h
      exact x_fail hQ hb (k := 1) rfl (CQ_at hQ) (by decide) fb (fun V fV pV => ResC_e h fV (tX pV))
  have wc : whS T f = whC (cdS T f) := rfl
  refine fl_Q hQ ⟨b_0 c, x_of ht hQ.2.2.2.1 r5 (fun nin => ⟨fun _ => ⟨b_0 c, ?_⟩, fun y => absurd y (by decide)⟩) (fun j hj ej => ⟨fun y => by omega, fun _ => ⟨b_0 c, ?_⟩⟩)⟩
  · exact br_eq (nuS T f) (-1) (CQ_nu hQ) rfl ⟨by omega, by omega⟩ ⟨by decide, by decide⟩ (fun q => par q (by rw [wc, whC_n nin])) (fun q => num q)
  · have wj : whS T f = if j < 15 then -1 else (j : Int) - 15 := by rw [wc, ej, whC_j j hj]
    refine br_eq (nuS T f) (-1) (CQ_nu hQ) rfl ⟨by omega, by omega⟩ ⟨by decide, by decide⟩ (fun q => ?_) (fun q => num q)
    rw [wasks_j j hj]
    by_cases z : j < 15
    · rw [if_pos z] at wj ⊢
      exact br_0 (par q wj)
    · rw [if_neg z] at wj ⊢
      refine br_eq (-1 - ((j : Int) - 15)) 0 rfl rfl ⟨by omega, by omega⟩ ⟨by decide, by decide⟩ (fun y => by omega) (fun _ => ?_)
      have wn : whS T f ≠ -1 := by omega
      rw [if_neg (fun y => y q), if_pos wn] at h
      have tk := wh_t wn
      have lt := (nb.2.2 (by rw [tk]; decide)).2.1
      have lw := law hQ
      refine ⟨b_n c, b_1 c, lw.1, x_addL hQ (s := 1) (v := whS T f) ⟨hL.1, by have t := ht.1; omega⟩ lw.2 (by rw [wj]; rfl) (fun V qV fV => ⟨b_0 qV.1, ?_⟩)⟩
      have hbV : BD (putD D 1 (whS T f)) := ⟨IN_eq (fun k a b c => pt_k a b c) hN, by rw [pt_15]; have := hL.1; have t := ht.1; omega⟩
      exact x_next qV hbV qV.1.2.1 (fun W qW fW _ => ResC_k h qW (fX_trans fV (tX (fX_w (fun o k q => PV_t q) fW))))
