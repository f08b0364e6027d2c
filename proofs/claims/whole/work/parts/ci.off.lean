/-! the class: days off -/
theorem CD_o {P : Nat → Nat → Prop} {U V : Um} {D D2 : Tm} {x : Nat} (hx : x = 4 ∨ x = 5) (hN : IN D) (hf : fX P U V) (hP : ∀ o k, P o k → o = x ∧ 2 ≤ k ∧ k ≤ 5) (ho : CDo V D2 x) (eo : ∀ k, k ≠ 6 → k ≠ 7 → k ≠ 8 → k ≠ 9 → D2 k = D k) (h : CD U D x) : CD V D2 x := by
  have e11 := eo 11 (by decide) (by decide) (by decide) (by decide)
  have f := fun k (q : k < 2 ∨ 5 < k) => hf.2.2 x k (fun z => by have := hP x k z; omega)
  refine CD_up hx hN hf (fun o k q => (hP o k q).1) ⟨fun k k0 k1 => ?_, ?_, ?_, ?_⟩ (CDa_c (fun s => (f _ (by unfold ki; omega)).2.2.1) (fun s i => by unfold nmD; rw [eo 1 (by decide) (by decide) (by decide) (by decide), eo 4 (by decide) (by decide) (by decide) (by decide), eo 5 (by decide) (by decide) (by decide) (by decide)]) (fun s _ _ => by rw [e11]) h.2.1) ho (eo 2 (by decide) (by decide) (by decide) (by decide)) (eo 10 (by decide) (by decide) (by decide) (by decide)) (eo 12 (by decide) (by decide) (by decide) (by decide)) (eo 13 (by decide) (by decide) (by decide) (by decide)) (eo 15 (by decide) (by decide) (by decide) (by decide)) (by rw [e11]) h
  · rw [(f 1 (by omega)).2.2.1, e11]; exact h.1.1 k k0 k1
  · rw [(f 7 (by omega)).1, e11]; exact h.1.2.1
  · rw [(f 8 (by omega)).1, e11]; exact h.1.2.2.1
  · rw [(f 9 (by omega)).1, e11]; exact h.1.2.2.2
abbrev Px5 (x o k : Nat) : Prop := o = x ∧ k = 5
theorem xl_off {T : Tm} {x : Nat} {g o b : Int} (ho : 0 ≤ o ∧ o < 10) (hb6 : -1 ≤ b ∧ b ≤ 6) {U0 : Um} {post K : Um → Prop} (DZ : Tm) (hK : ∀ V : Um, CQ V T DZ x g → fX (Px5 x) U0 V → K V) : ∀ (fu : Nat) (d : Int) (D : Tm) (U : Um), CQ U T D x g → BD D → o < D 11 9 → fX (Px5 x) U0 U → 0 ≤ d → d ≤ 7 → DZ = offN (10 + o) (b + 1 - d).toNat d D → (b + 1 - d).toNat < fu → w_X4_readOff_L51 2 (jI o) (jI b) post K fu (jI d) U := by
  intro fu
  induction fu with
  | zero => intro d D U _ _ _ _ _ _ _ h; exact absurd h (Nat.not_lt_zero _)
  | succ fu ih =>
    intro d D U hQ hB h9 hF d0 d1 hz hf
    show b_X4_readOff_L51 2 (jI o) (jI b) post K (w_X4_readOff_L51 2 (jI o) (jI b) post K fu) (jI d) U
    unfold b_X4_readOff_L51
    have c := hQ.1
    refine fl_Q hQ (br_lt b d rfl rfl ⟨by omega, by omega⟩ ⟨by omega, by omega⟩ (fun q => ?_) (fun q => ⟨b_n c, b_1 c, ?_⟩))
    · rw [show (b + 1 - d).toNat = 0 by omega] at hz
      rw [hz] at hK
      exact hK U hQ hF
    have vo : vp_in (jI o) 10 := jvp o rfl ho.1 ho.2 (by decide)
    refine ⟨vo, vo, fun V eV y hy => ?_⟩
    have to_ : Int32.toNatClampNeg (jI o) = o.toNat := jI_nat ho.1 (by omega)
    rw [c.2.2.1, to_] at eV
    have fV : fX (Px5 x) U V := by rw [eV]; exact fX_sA ⟨rfl, rfl⟩
    have d3 := hQ.2.1.2.2.1
    have ro := d3 o ho.1 h9
    have wv : uA U x 5 o.toNat ||| ((1 : Int32) <<< (jI d &&& 31)) = jI (orB (D 8 (10 + o)) d) := by
      rw [ro.2.2.2]
      unfold orB
      rw [jI_of]
    rw [wv] at eV
    rw [hy, show jI d + 1 = jI (d + 1) from jadd rfl rfl]
    have qV : CQ V T (up D 8 (10 + o) (orB (D 8 (10 + o)) d)) x g := by
      refine CQ_up hQ fV (fun o k q => by have := c.1; omega) (CD_o c.1 hB.1 fV (fun o k q => ⟨q.1, by omega, by omega⟩) (fun p p0 p1 => ?_) (fun k _ _ h8 _ => up_f h8) hQ.2.1)
      rw [up_nf (f := 11) (by decide)] at p1
      have rp := d3 p p0 p1
      rw [up_nf (f := 9) (by decide), up_nf (f := 6) (by decide), up_nf (f := 7) (by decide)]
      have a : ∀ k, k ≠ 5 → uA V x k = uA U x k := fun k hk => by rw [eV, uA_sA, if_neg (fun z => hk z.2)]
      refine ⟨by rw [a 2 (by decide)]; exact rp.1, by rw [a 3 (by decide)]; exact rp.2.1, by rw [a 4 (by decide)]; exact rp.2.2.1, ?_⟩
      rw [eV, uA_sA, if_pos ⟨rfl, rfl⟩]
      unfold va_up
      by_cases z : p = o
      · rw [if_pos (by rw [z]), z, up_eq]
      · rw [if_neg (by omega), up_ne (by omega)]
        exact rp.2.2.2
    refine ih (d + 1) _ V qV ⟨?_, by rw [up_nf (by decide)]; exact hB.2⟩ (by rw [up_nf (by decide)]; exact h9) (fX_trans hF fV) (by omega) (by omega) ?_ (by omega)
    · have hN := hB.1
      unfold IN at hN ⊢
      simp only [up_nf (show (11 : Nat) ≠ 8 by decide), up_nf (show (1 : Nat) ≠ 8 by decide), up_nf (show (4 : Nat) ≠ 8 by decide), up_nf (show (5 : Nat) ≠ 8 by decide)]
      exact hN
    · rw [hz, show (b + 1 - d).toNat = (b + 1 - (d + 1)).toNat + 1 by omega]
      rfl
theorem nm_lo {T : Tm} {f lo hi : Int} (h : nmE T f lo hi = 0) : lo ≤ nuS T f ∧ nuS T f ≤ hi := nmE_e h
theorem x_off {U : Um} {T D : Tm} {x : Nat} {f : Int} (hQ : CQ U T D x (nx T f)) (hb : BD D) {post : Um → Prop} (h : ResC U T x (offR T D f) post) : w_X4_readOff 2 U post := by
  unfold offR offD at h
  have n := hb.1.1
  have fa : ∀ {V : Um} {k p : Int}, CF V T x k p → post V → ∀ r s : Int32, ∃ n, w_X4_readOff_L51 2 r s post (fun U => post U) n s V := fun {V k p} q hp r s => ⟨1, fl_F q hp⟩
  refine x_told hQ hb (s := 2) rfl (by decide) (fun e0 V qV fV v4 => ?_) (fun e V fV pV => f_num fV (fun r K hK => fl_F fV (hK _ V ⟨1, fl_F fV ?_⟩)))
  case refine_2 =>
    rw [ck_1 e] at h
    exact ResC_e h fV (tX pV)
  rw [ck_0 e0] at h
  have a := comE_0 (by decide) e0
  have a1 : plK T D 2 (nx T f) < D 11 9 := a.2
  generalize plK T D 2 (nx T f) = o at h a a1
  refine x_num qV hb (lo := 0) (hi := 6) rfl rfl ⟨by decide, by decide⟩ ⟨by decide, by decide⟩ (fun e1 W qW fW w4 K hK => ?_) (fun e W fW pW K hK => fl_F fW (hK _ W ⟨1, fl_F fW ?_⟩))
  case refine_2 =>
    rw [ck_1 e] at h
    exact ResC_e h fW (tX (fX_trans fV pW))
  rw [ck_0 e1] at h
  have b := nm_lo e1
  have fUW := fX_trans fV fW
  have fin : ∀ (Z : Um) (g v : Int), CQ Z T D x g → fX PXt U Z → nuS T (nx T (nx T f)) ≤ v ∧ v ≤ 6 → ResC U T x (.ok (offN (10 + o) (v + 1 - nuS T (nx T (nx T f))).toNat (nuS T (nx T (nx T f))) D, g)) post → K (jI v) Z := fun Z g v qZ fZ hv hr => hK (jI v) Z ⟨(v + 1 - nuS T (nx T (nx T f))).toNat + 1, xl_off (b := v) ⟨a.1, by omega⟩ ⟨by omega, hv.2⟩ (U0 := Z) _ (fun Y qY fY => ResC_k hr qY (fX_trans (tX fZ) (fX_o fY (fun o k q => Or.inl q.1)))) _ _ D Z qZ hb a1 fX_rfl b.1 (by omega) rfl (Nat.lt_succ_self _)⟩
  refine fl_Q qW (x_word qW (j := 7) (by decide) (fun e => br_1 ⟨b_0 qW.1, ?_⟩) (fun e => br_0 ?_))
  · rw [show wpm 7 = 7 from rfl] at e
    rw [if_pos e] at h
    refine x_next qW hb qW.1.2.1 (fun Z qZ fZ _ => x_num qZ hb (lo := nuS T (nx T (nx T f))) (hi := 6) rfl rfl ⟨by omega, by omega⟩ ⟨by decide, by decide⟩ (fun e2 Y qY fY _ => ?_) (fun e2 Y fY pY => hK _ Y ⟨1, fl_F fY ?_⟩))
    · rw [ck_0 e2] at h
      exact fin Y _ _ qY (fX_trans fUW (nt fZ fY (fun o k q => PV_t q) (fun o k q => q))) (nm_lo e2) h
    · rw [ck_1 e2] at h
      exact ResC_e h fY (tX (fX_trans fUW (nt fZ pY (fun o k q => PV_t q) (fun o k q => q))))
  · rw [show wpm 7 = 7 from rfl] at e
    rw [if_neg e] at h
    exact fin W _ _ qW fUW ⟨by omega, b.2⟩ h
