/-! the class: names told, numbers, signs -/
theorem nt {P Q : Nat → Nat → Prop} {U V Z : Um} (h : fX P U V) (h2 : fX Q V Z) (hP : ∀ o k, P o k → PXt o k) (hQ : ∀ o k, Q o k → PXt o k) : fX PXt U Z := fX_trans (fX_w hP h) (fX_w hQ h2)
theorem x_newName {U : Um} {T D : Tm} {x : Nat} {f : Int} (hQ : CQ U T D x f) (hb : BD D) {post : Int32 → Um → Prop} (h0 : newE T D f = 0 → ∀ V : Um, CQ V T D x (nx T f) → fX PXt U V → uI V 1 4 = jI f → post (jI (cdS T f)) V) (h1 : newE T D f ≠ 0 → ∀ V : Um, CF V T x (newE T D f) f → fX PXt U V → post (-1) V) : w_X4_newName 2 U post := by
  have fb := CQ_f hQ
  have c := hQ.1
  refine x_any hQ hb (fun ok K hK => ?_) (fun bad V fV pV K hK => ?_)
  · refine fl_Q hQ ⟨b_n c, b_1 c, x_given hQ hb c.2.2.1 rfl (fun g => br_0 (hK U (fl_Q hQ ⟨b_0 c, ?_⟩))) (fun g => br_1 ⟨b_0 c, ?_⟩)⟩
    · have e : newE T D f = 0 := by unfold newE; rw [if_neg (fun z => z ok), if_pos g]
      exact x_next hQ hb c.2.1 (fun V qV fV v4 => h0 e V qV (fX_w (fun o k q => PV_t q) fV) v4)
    · have e : newE T D f = 3 := by unfold newE; rw [if_neg (fun z => z ok), if_neg g]
      refine x_fail hQ hb (k := 3) rfl (CQ_at hQ) (by decide) fb (fun V fV pV => hK V (fl_F fV (h1 (by omega) V ?_ pV)))
      rw [e]
      exact fV
  · have e : newE T D f = 1 := by unfold newE; rw [if_pos bad]
    refine fl_F fV (hK V (fl_F fV (h1 (by omega) V ?_ pV)))
    rw [e]
    exact fV
theorem f_newName {U : Um} {T : Tm} {x : Nat} {k p : Int} (h : CF U T x k p) {post : Int32 → Um → Prop} (hp : ∀ r, post r U) : w_X4_newName 2 U post := f_any h (fun r K hK => fl_F h (hK U (fl_F h (hp _))))
theorem x_num {U : Um} {T D : Tm} {x : Nat} {f : Int} (hQ : CQ U T D x f) (hb : BD D) {a1 a2 : Int32} {lo hi : Int} (e1 : a1 = jI lo) (e2 : a2 = jI hi) (rl : r32 lo) (rh : r32 hi) {post : Int32 → Um → Prop} (h0 : nmE T f lo hi = 0 → ∀ V : Um, CQ V T D x (nx T f) → fX PXt U V → uI V 1 4 = jI f → post (jI (nuS T f)) V) (h1 : nmE T f lo hi ≠ 0 → ∀ V : Um, CF V T x (nmE T f lo hi) f → fX PXt U V → post (-1) V) : w_X4_numberWithin 2 a1 a2 U post := by
  have fb := CQ_f hQ
  have c := hQ.1
  have nb := nu_b (CQ_it hQ) (f := f) fb.1 (by omega)
  refine ⟨b_0 c, fun x3 hx3 => ?_⟩
  rw [hx3, CQ_nu hQ]
  intro K hK
  refine br_eq (nuS T f) (-1) rfl rfl ⟨by omega, by omega⟩ ⟨by decide, by decide⟩ (fun q => ⟨b_0 c, ?_⟩) (fun q => ?_)
  · have e : nmE T f lo hi = 1 := by unfold nmE; rw [if_pos q]
    refine x_fail hQ hb (k := 1) rfl (CQ_at hQ) (by decide) fb (fun V fV pV => hK V (fl_F fV (h1 (by omega) V ?_ pV)))
    rw [e]
    exact fV
  intro K2 hK2
  have bad : ¬ (lo ≤ nuS T f ∧ nuS T f ≤ hi) → K2 := fun z => hK2 ⟨b_0 c, by
    have e : nmE T f lo hi = 2 := by unfold nmE; rw [if_neg q, if_neg z]
    refine x_fail hQ hb (k := 2) rfl (CQ_at hQ) (by decide) fb (fun V fV pV => hK V (fl_F fV (h1 (by omega) V ?_ pV)))
    rw [e]
    exact fV⟩
  refine br_lt (nuS T f) lo rfl e1 ⟨by omega, by omega⟩ rl (fun z => bad (fun y => by omega)) (fun z => br_le (nuS T f) hi rfl e2 ⟨by omega, by omega⟩ rh (fun z2 => ?_) (fun z2 => bad (fun y => by omega)))
  have e : nmE T f lo hi = 0 := by unfold nmE; rw [if_neg q, if_pos ⟨z, z2⟩]
  exact hK U (fl_Q hQ ⟨b_0 c, x_next hQ hb c.2.1 (fun V qV fV v4 => h0 e V qV (fX_w (fun o k q => PV_t q) fV) v4)⟩)
theorem f_num {U : Um} {T : Tm} {x : Nat} {k p : Int} (h : CF U T x k p) {a1 a2 : Int32} {post : Int32 → Um → Prop} (hp : ∀ r, post r U) : w_X4_numberWithin 2 a1 a2 U post := by
  refine ⟨b_0 h.1, fun x3 hx3 K hK => ?_⟩
  have go : K U := hK U (fl_F h (hp _))
  have no : oc (uR U 2 0) = 7 := b_0 h.1
  refine ⟨fun _ => ⟨no, x_failF h go⟩, fun _ K2 hK2 => ?_⟩
  have k2 : K2 := hK2 ⟨no, x_failF h go⟩
  exact ⟨fun _ => k2, fun _ => ⟨fun _ => go, fun _ => k2⟩⟩
theorem x_word {U : Um} {T D : Tm} {x : Nat} {f : Int} (hQ : CQ U T D x f) {j : Nat} (hj : j < 23) {post : Int32 → Um → Prop} (h1 : cdS T f = ownL.getD (wpm j) 0 → post 1 U) (h0 : cdS T f ≠ ownL.getD (wpm j) 0 → post 0 U) : w_X4_isWord 2 j U post := by
  have r := own_r j hj
  refine ⟨b_0 hQ.1, br_eq (cdS T f) (ownL.getD (wpm j) 0) (CQ_cd hQ) (wcode_e j hj) (CQ_rc hQ) ⟨by omega, by omega⟩ h1 h0⟩
theorem f_word {U : Um} {T : Tm} {x : Nat} {k p : Int} (h : CF U T x k p) {j : Nat} {post : Int32 → Um → Prop} (h1 : post 1 U) (h0 : post 0 U) : w_X4_isWord 2 j U post := ⟨b_0 h.1, fun _ => h1, fun _ => h0⟩
theorem x_expW {U : Um} {T D : Tm} {x : Nat} {f : Int} (hQ : CQ U T D x f) (hb : BD D) {j : Nat} (hj : j < 23) {post : Um → Prop} (h0 : woE T f (wpm j) = 0 → ∀ V : Um, CQ V T D x (nx T f) → fX PXt U V → post V) (h1 : woE T f (wpm j) ≠ 0 → ∀ V : Um, CF V T x (woE T f (wpm j)) f → fX PXt U V → post V) : w_X4_expectWord 2 j U post := by
  have c := hQ.1
  have fb := CQ_f hQ
  refine fl_Q hQ (x_word hQ hj (fun e => br_1 ⟨b_0 c, ?_⟩) (fun e => br_0 ⟨b_0 c, ?_⟩))
  · exact x_next hQ hb c.2.1 (fun V qV fV v4 => h0 (wo_0 e) V qV (fX_w (fun o k q => PV_t q) fV))
  · have e := wo_1 e
    refine x_fail hQ hb (k := 1) rfl (CQ_at hQ) (by decide) fb (fun V fV pV => h1 (by omega) V ?_ pV)
    rw [e]
    exact fV
theorem f_expW {U : Um} {T : Tm} {x : Nat} {k p : Int} (h : CF U T x k p) {j : Nat} {post : Um → Prop} (hp : post U) : w_X4_expectWord 2 j U post := fl_F h hp
theorem x_told {U : Um} {T D : Tm} {x : Nat} {f : Int} (hQ : CQ U T D x f) (hb : BD D) {a1 : Int32} {s : Int} (e1 : a1 = jI s) (hs : 0 ≤ s ∧ s ≤ 2) {post : Int32 → Um → Prop} (h0 : comE T D s f = 0 → ∀ V : Um, CQ V T D x (nx T f) → fX PXt U V → uI V 1 4 = jI f → post (jI (plK T D s f)) V) (h1 : comE T D s f ≠ 0 → ∀ V : Um, CF V T x (comE T D s f) f → fX PXt U V → post (-1) V) : w_X4_toldName 2 a1 U post := by
  have c := hQ.1
  have fb := CQ_f hQ
  have n := hb.1.1
  have pr : r32 (plK T D s f) := by
    have a := plK_b (T := T) (D := D) (f := f) hs
    rcases (show s = 0 ∨ s = 1 ∨ s = 2 by omega) with rfl | rfl | rfl
    · have : (D 11 (7 + 0)) = D 11 7 := rfl
      exact ⟨by omega, by omega⟩
    · have : (D 11 (7 + 1)) = D 11 8 := rfl
      exact ⟨by omega, by omega⟩
    · have : (D 11 (7 + 2)) = D 11 9 := rfl
      exact ⟨by omega, by omega⟩
  refine ⟨b_n c, b_1 c, x_any hQ hb (fun ok => x_find hQ hb c.2.2.1 e1 rfl hs (fun K hK => ?_)) (fun bad V fV pV => f_find fV c.2.2.1 e1 hs (fun r K hK => ?_))⟩
  · refine br_eq (plK T D s f) (-1) rfl rfl pr ⟨by decide, by decide⟩ (fun q => ⟨b_0 c, ?_⟩) (fun q => hK U (fl_Q hQ ⟨b_0 c, ?_⟩))
    · have e : comE T D s f = 3 := by unfold comE; rw [if_neg (fun z => z ok), if_pos q]
      refine x_fail hQ hb (k := 3) rfl (CQ_at hQ) (by decide) fb (fun V fV pV => hK V (fl_F fV (h1 (by omega) V ?_ pV)))
      rw [e]
      exact fV
    · have e : comE T D s f = 0 := by unfold comE; rw [if_neg (fun z => z ok), if_neg q]
      exact x_next hQ hb c.2.1 (fun V qV fV v4 => h0 e V qV (fX_w (fun o k q => PV_t q) fV) v4)
  · have e : comE T D s f = 1 := by unfold comE; rw [if_pos bad]
    have go : K V := hK V (fl_F fV (h1 (by omega) V (by rw [e]; exact fV) pV))
    exact ⟨fun _ => ⟨b_0 fV.1, x_failF fV go⟩, fun _ => go⟩
theorem f_told {U : Um} {T : Tm} {x : Nat} {k p : Int} (h : CF U T x k p) {a1 : Int32} {s : Int} (e1 : a1 = jI s) (hs : 0 ≤ s ∧ s ≤ 2) {post : Int32 → Um → Prop} (hp : ∀ r, post r U) : w_X4_toldName 2 a1 U post := by
  refine ⟨b_n h.1, b_1 h.1, f_any h (fun r => f_find h h.1.2.2.1 e1 hs (fun r2 K hK => ?_))⟩
  have go : K U := hK U (fl_F h (hp _))
  exact ⟨fun _ => ⟨b_0 h.1, x_failF h go⟩, fun _ => go⟩
theorem x_expS {U : Um} {T D : Tm} {x : Nat} {f : Int} (hQ : CQ U T D x f) (hb : BD D) {a1 : Int32} {s : Int} (e1 : a1 = jI s) (rs : r32 s) {post : Um → Prop} (h0 : sgE T f s = 0 → ∀ V : Um, CQ V T D x (nx T f) → fX PXt U V → post V) (h1 : sgE T f s ≠ 0 → ∀ V : Um, CF V T x (sgE T f s) f → fX PXt U V → post V) : w_X4_expectSign 2 a1 U post := by
  have c := hQ.1
  have fb := CQ_f hQ
  have sb := see_b (CQ_it hQ) (i := f) fb.1
  have rg : r32 (sgS T f) := by
    unfold sgS tsS
    split
    · exact ⟨by omega, by omega⟩
    · exact ⟨by decide, by decide⟩
  refine fl_Q hQ ⟨b_0 c, br_eq (sgS T f) s (CQ_sg hQ) e1 rg rs (fun e => ⟨b_0 c, ?_⟩) (fun e => ⟨b_0 c, ?_⟩)⟩
  · have e0 : sgE T f s = 0 := if_pos e
    exact x_next hQ hb c.2.1 (fun V qV fV v4 => h0 e0 V qV (fX_w (fun o k q => PV_t q) fV))
  · have e0 : sgE T f s = 1 := if_neg e
    refine x_fail hQ hb (k := 1) rfl (CQ_at hQ) (by decide) fb (fun V fV pV => h1 (by omega) V ?_ pV)
    rw [e0]
    exact fV
theorem f_expS {U : Um} {T : Tm} {x : Nat} {k p : Int} (h : CF U T x k p) {a1 : Int32} {post : Um → Prop} (hp : post U) : w_X4_expectSign 2 a1 U post := fl_F h hp
