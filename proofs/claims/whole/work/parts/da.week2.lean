/-! the reference's week, once more: the draft by name -/
noncomputable def D0o (U : Um) (T : Tm) : Tm := up (blk (up (up (blk (dmU U T) 11 7 7 (fun _ => 0)) 11 11 10) 11 12 3) 2 36 36 (fun _ => 0)) 15 0 0
theorem D0_off {U : Um} {T : Tm} : Off T (D0o U T) := Off_up (Off_blk (Off_up (Off_up (Off_blk dm_off (fun i i0 i1 => by unfold dft; omega)) (by unfold dft; omega)) (by unfold dft; omega)) (fun i i0 i1 => by unfold dft; omega)) (by unfold dft; omega)
theorem D0_e {U : Um} {T : Tm} : emptyD (D0o U T) := by
  unfold D0o
  refine ⟨⟨fun i i0 i1 => ?_, ?_, ?_, ?_⟩, fun i i0 i1 => ?_, up_eq⟩
  · rw [up_nf (by decide), blk_nf (by decide), up_ne (by omega), up_ne (by omega), blk_in i0 (by omega)]
  · rw [up_nf (by decide), blk_nf (by decide), up_ne (by omega), up_eq]
  · rw [up_nf (by decide), blk_nf (by decide), up_eq]
  · rw [up_nf (by decide), blk_nf (by decide), up_ne (by omega), up_ne (by omega), blk_in (by omega) (by omega)]
  · rw [up_nf (by decide), blk_in i0 (by omega)]
theorem D0_55 {U V : Um} {T : Tm} (h : k55 U V) : D0o V T = D0o U T := by
  have e : dmU V T = dmU U T := by
    funext f i
    unfold dmU
    rw [(h f).2.2.1, (h 15).1, (h f).2.1]
  unfold D0o
  rw [e]
def ResG (U : Um) (T : Tm) (r : PR) (post : Int32 → Um → Prop) : Prop := match r with
  | .error e => ∀ V : Um, M V (weekE T e.1 e.2) → fM U V → post (jI (-1)) V
  | .ok p => ∀ V : Um, M V (weekK p.1) → Off T p.1 → fM U V → post (jI (p.1 11 10)) V
theorem s_week2 {U : Um} {T : Tm} (hM : M U T) (ht : It T) {post : Int32 → Um → Prop} (hr : ResG U T (weekR T (D0o U T)) post) : w_X12_week 55 U post := by
  unfold w_X12_week
  intro U1 e1
  have p0 : P2 U (dmU U T) := ⟨M_on dm_off hM, dm_MD hM⟩
  have p1 : P2 U1 (dmU U T) := by rw [e1]; exact P2_xI p0
  have f1 : fM U U1 := by rw [e1]; exact fM_sI
  refine ⟨8, l_wk8 (D := dmU U T) (U0 := U) (fun V2 h2 f2 => ?_) 8 0 U1 (by rw [blk_0]; exact p1) f1 (by decide) (by decide) (by decide)⟩
  refine ⟨jvp 11 rfl (by decide) (by decide) (by decide), fun V3 e3 => ⟨jvp 12 rfl (by decide) (by decide) (by decide), fun V4 e4 => ?_⟩⟩
  have h3 := P2_sA h2 (k := 11) (E := 11) (V := 10) 11 10 rfl rfl (by decide) (by decide)
  rw [← e3] at h3
  have h4 := P2_sA h3 (k := 11) (E := 12) (V := 3) 12 3 rfl rfl (by decide) (by decide)
  rw [← e4] at h4
  have f4 : fM U V4 := by rw [e4, e3]; exact fM_trans f2 (fM_trans fM_sA fM_sA)
  refine ⟨37, l_wk47 (U0 := U) (fun V5 h5 f5 => ?_) 37 0 V4 (by rw [blk_0]; exact h4) f4 (by decide) (by decide) (by decide)⟩
  intro V6 e6 V7 e7 V8 e8 V9 e9
  have h6 := P2_sI h5 (k := 15) (V := 0) 0 rfl
  rw [← e6] at h6
  have h7 := P2_xI h6 (k := 24) (V := 0)
  rw [← e7] at h7
  have h8 := P2_xI h7 (k := 20) (V := 0)
  rw [← e8] at h8
  have h9 := P2_xI h8 (k := 21) (V := -1)
  rw [← e9] at h9
  have f9 : fM U V9 := by rw [e9, e8, e7, e6]; exact fM_trans f5 (fM_trans fM_sI (fM_trans fM_sI (fM_trans fM_sI fM_sI)))
  have u24 : uI V9 55 24 = jI 0 := by rw [e9, uI_sI, if_neg (by decide), e8, uI_sI, if_neg (by decide), e7, uI_sI, if_pos ⟨rfl, rfl⟩]; rfl
  have u20 : uI V9 55 20 = jI 0 := by rw [e9, uI_sI, if_neg (by decide), e8, uI_sI, if_pos ⟨rfl, rfl⟩]; rfl
  have u21 : uI V9 55 21 = jI (-1) := by rw [e9, uI_sI, if_pos ⟨rfl, rfl⟩]; rfl
  have ho : Off T (D0o U T) := D0_off
  have he : emptyD (D0o U T) := D0_e
  have h9 : P2 V9 (D0o U T) := h9
  generalize D0o U T = D0 at h9 ho he hr
  refine s_X12_next h9.1 (It_c (Off_16 ho) (Off_17 ho) ht) u24 (by decide) (by decide) (fun V mV fV tV v0 v1 => ?_)
  rw [sk_c (Off_16 ho) (Off_17 ho)] at tV v0 v1
  have hQ : Q V T D0 (skS T 0) := by
    refine ⟨mV, MD_P h9.2 fV, ho, ht, ?_, ?_, TK_c (Off_16 ho) (Off_17 ho) tV, v0, v1⟩
    · rw [fV.2.1 20 (by omega)]; exact u20
    · rw [fV.2.1 21 (by omega)]; exact u21
  have hD : ID D0 (skS T 0) := empty_i he v0
  have fZ : fM U V := fM_trans f9 fV.1
  have tb := tk_b (T := T) (f := skS T 0)
  have t22 : uI V 55 22 = jI (tkS T (skS T 0)) := hQ.2.2.2.2.2.2.1.2.2.1
  refine al_ifr (tkS T (skS T 0)) 0 t22 rfl ⟨by omega, by omega⟩ ⟨by omega, by omega⟩ (fun c => ?_) (fun c => ?_)
  · have el : weekR T D0 = .ok (D0, skS T 0) := if_pos c
    rw [el] at hr
    exact ⟨1, l_wk0 (l_wkT hQ hD fZ (fun Z mZ fz => hr Z mZ ho fz))⟩
  · refine ⟨1300, l_wk103 (U0 := U) ht 1300 1300 D0 (skS T 0) V hQ hD c (by omega) (by omega) fZ ?_⟩
    unfold weekR at hr
    cases e : linesR T 1300 D0 (skS T 0) with
    | error er =>
      rw [e] at hr
      intro W hW fW
      exact l_wkE hW fW hr
    | ok p =>
      rw [e] at hr
      intro W hW fW
      exact l_wkT hW (lines_i ht 1300 D0 (skS T 0) p ⟨v0, v1⟩ hD e).1 fW (fun Z mZ fz => hr Z mZ hW.2.2.1 fz)
/-- object 55 alone has changed: the class's side stands -/
theorem CA_fM {U V : Um} {T : Tm} {w : Nat} (hI : I1 T) (h : fM U V) (hA : CA U T w) : CA V T w := by
  obtain ⟨⟨hp, hw, hr⟩, h9, hP, hT, hS⟩ := hA
  obtain ⟨V2, e2⟩ : ∃ V2 : Um, V2 = (V.1, V.2.1, U.2.2.1, V.2.2.2.1, V.2.2.2.2.1, V.2.2.2.2.2.1, U.2.2.2.2.2.2) := ⟨_, rfl⟩
  have f : fX (fun o _ => o = 55) U V2 := by
    rw [e2]
    exact ⟨fun _ _ => rfl, fun _ _ => rfl, fun o k q => ⟨(h o q).1 k, (h o q).2.1 k, (h o q).2.2.2.1 k, (h o q).2.2.2.2.1 k, (h o q).2.2.2.2.2.1 k⟩⟩
  have n : ∀ o k : Nat, o ≠ 55 → ¬ (fun o (_ : Nat) => o = 55) o k := fun o k q z => q z
  have cw := CW_x hI hp.1 f (fun o k (q : o = 55) => Or.inl (by omega)) hw
  have cr : CR V2 T := CRo_x (f.2.2 42 1 (by decide)).1 (fun k _ _ => (f.2.2 42 k (by omega)).2.2.1) (f.2.2 42 5 (by decide)).2.2.2.2 hr
  have cp := CPa_x f (fun o k (q : o = 55) => by omega) (fun _ _ => rfl) rfl rfl rfl hP
  have ct := CTa_x f (fun o k (q : o = 55) => by omega) rfl rfl rfl rfl hT
  have r : ∀ o k, o ≠ 55 → uR V o k = uR U o k := fun o k q => (h o q).2.2.1 k
  have a : ∀ o k, o ≠ 55 → uAR V o k = uAR U o k := fun o k q => (h o q).2.2.2.2.2.2 k
  have cs : CSa V T := fun s s0 s1 => by
    have z := h (52 + s.toNat) (by omega)
    rw [z.1 1, z.1 2, z.2.2.2.1 0]
    exact hS s s0 s1
  refine ⟨⟨?_, by rw [e2] at cw; exact cw, by rw [e2] at cr; exact cr⟩, fun o o0 o1 => ?_, by rw [e2] at cp; exact cp, by rw [e2] at ct; exact ct, cs⟩
  · obtain ⟨a', ⟨b0, b1, b2, b3, b4, b5, b6⟩, c, d, e, f, g, i, j⟩ := hp
    refine ⟨a', ⟨(r 0 0 (by decide)).trans b0, (r 0 1 (by decide)).trans b1, (r 0 2 (by decide)).trans b2, (r 0 3 (by decide)).trans b3, (r 0 4 (by decide)).trans b4, (r 0 5 (by decide)).trans b5, (r 0 6 (by decide)).trans b6⟩, fun i hi => by rw [a 0 7 (by decide)]; exact c i hi, fun i hi => by rw [a 0 10 (by decide)]; exact d i hi, (r 2 0 (by decide)).trans e, (r 3 0 (by decide)).trans f, (r 42 0 (by decide)).trans g, ?_, ?_⟩
    · exact ⟨(r 4 10 (by decide)).trans i.1, (r 4 11 (by decide)).trans i.2.1, fun q hq => by rw [a 4 6 (by decide)]; exact i.2.2 q hq⟩
    · exact ⟨(r 5 10 (by decide)).trans j.1, (r 5 11 (by decide)).trans j.2.1, fun q hq => by rw [a 5 6 (by decide)]; exact j.2.2 q hq⟩
  · rw [(h 42 (by decide)).2.2.2.1 9]
    exact h9 o o0 o1
