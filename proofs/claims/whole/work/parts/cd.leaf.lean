/-! the class: names, numbers, words -/
theorem b_0 {U : Um} {T : Tm} {x : Nat} (c : CB0 U T x) : oc (uR U 2 0) = 7 := oc_of c.2.1 rfl
theorem b_1 {U : Um} {T : Tm} {x : Nat} (c : CB0 U T x) : oc (uR U 2 1) = 8 := oc_of c.2.2.1 (oc_w c.1)
theorem b_n {U : Um} {T : Tm} {x : Nat} (c : CB0 U T x) : uR U 2 1 ≠ 99 := by
  rw [c.2.2.1]
  have := c.1
  omega
theorem fl_Q {U : Um} {T D : Tm} {x : Nat} {f : Int} (h : CQ U T D x f) {A B : Prop} (a : A) : (uI U 2 2 = 0 → A) ∧ (¬ uI U 2 2 = 0 → B) := ⟨fun _ => a, fun q => absurd h.2.2.2.2.1 q⟩
theorem fl_F {U : Um} {T : Tm} {x : Nat} {k p : Int} (h : CF U T x k p) {A B : Prop} (b : B) : (uI U 2 2 = 0 → A) ∧ (¬ uI U 2 2 = 0 → B) := br_eq k 0 h.2.2.2.1 rfl ⟨by have := h.2.2.2.2.2; omega, by have := h.2.2.2.2.2; omega⟩ ⟨by decide, by decide⟩ (fun q => by have := h.2.2.2.2.2; omega) (fun _ => b)
theorem CQ_f {U : Um} {T D : Tm} {x : Nat} {f : Int} (h : CQ U T D x f) : 0 ≤ f ∧ f ≤ 1200 := by
  have a := h.2.2.2.1
  have b := h.1.2.2.2.2.2.1
  omega
theorem CQ_cd {U : Um} {T D : Tm} {x : Nat} {f : Int} (h : CQ U T D x f) : uI U (uR U 2 0) 5 = jI (cdS T f) := by rw [h.1.2.1]; exact h.2.2.1.2.2.1
theorem CQ_at {U : Um} {T D : Tm} {x : Nat} {f : Int} (h : CQ U T D x f) : uI U (uR U 2 0) 2 = jI f := by rw [h.1.2.1]; exact h.2.2.1.1
theorem CQ_nu {U : Um} {T D : Tm} {x : Nat} {f : Int} (h : CQ U T D x f) : uI U (uR U 2 0) 6 = jI (nuS T f) := by rw [h.1.2.1]; exact h.2.2.1.2.2.2.1
theorem CQ_sg {U : Um} {T D : Tm} {x : Nat} {f : Int} (h : CQ U T D x f) : uI U (uR U 2 0) 7 = jI (sgS T f) := by rw [h.1.2.1]; exact h.2.2.1.2.2.2.2
theorem CQ_it {U : Um} {T D : Tm} {x : Nat} {f : Int} (h : CQ U T D x f) : It T := h.1.2.2.2.2.2
theorem CQ_rc {U : Um} {T D : Tm} {x : Nat} {f : Int} (h : CQ U T D x f) : r32 (cdS T f) := by
  have b := CQ_f h
  have := cd_b (CQ_it h) (f := f) b.1 (by omega)
  exact ⟨by omega, by omega⟩
theorem x_any {U : Um} {T D : Tm} {x : Nat} {f : Int} (hQ : CQ U T D x f) (hb : BD D) {post : Int32 → Um → Prop} (h1 : nameOk T f → post (jI (cdS T f)) U) (h0 : ¬ nameOk T f → ∀ V : Um, CF V T x 1 f → fX PXt U V → post (jI (cdS T f)) V) : w_X4_anyName 2 U post := by
  have fb := CQ_f hQ
  have c := hQ.1
  refine ⟨b_0 c, fun x1 hx1 => ?_⟩
  rw [hx1, CQ_cd hQ]
  intro K hK
  have bad : ¬ nameOk T f → K U := fun n => hK U ⟨b_0 c, x_fail hQ hb rfl (CQ_at hQ) (by decide) fb (h0 n)⟩
  refine br_eq (cdS T f) (-1) rfl rfl (CQ_rc hQ) ⟨by decide, by decide⟩ (fun q => bad (fun z => z.1 q)) (fun q => ?_)
  exact x_of (CQ_it hQ) hQ.2.2.2.1 rfl (fun z => ⟨fun _ => h1 ⟨q, z⟩, fun y => absurd y (by decide)⟩) (fun j hj e => ⟨fun y => by omega, fun _ => bad (fun z => z.2 (by rw [e]; exact wpm_in j hj))⟩)
theorem f_any {U : Um} {T : Tm} {x : Nat} {k p : Int} (h : CF U T x k p) {post : Int32 → Um → Prop} (hp : ∀ r, post r U) : w_X4_anyName 2 U post := by
  refine ⟨b_0 h.1, fun x1 hx1 K hK => ?_⟩
  have go : K U := hK U ⟨b_0 h.1, x_failF h (hp _)⟩
  exact ⟨fun _ => go, fun _ => x_ofA (fun _ => ⟨fun _ => hp _, fun y => absurd y (by decide)⟩) (fun j hj _ => ⟨fun y => by omega, fun _ => go⟩)⟩
theorem xl_findQ {U : Um} {D : Tm} {x : Nat} {s c w a : Int} {kk : Nat} (s0 : 0 ≤ s) (s1 : s < 3) (hc : uA U x 1 s.toNat = jI c) (cb : 0 ≤ c ∧ c ≤ 10) (hv : ∀ i, 0 ≤ i → i < c → uA U x (ki 0 s.toNat) i.toNat = jI (D kk (a + i)) ∧ r32 (D kk (a + i))) (rw_ : r32 w) {post : Int32 → Um → Prop} {K : Um → Prop} (hK : plS D kk a c w = -1 → K U) (hp : plS D kk a c w ≠ -1 → post (jI (plS D kk a c w)) U) : ∀ (fu : Nat) (i : Int), 0 ≤ i → i ≤ c → plS D kk a c w = plN D kk a w (c - i).toNat i → (c - i).toNat < fu → w_X9_find_L2 x (jI s) (jI w) post K fu (jI i) U := by
  intro fu
  have ts : Int32.toNatClampNeg (jI s) = s.toNat := jI_nat s0 (by omega)
  induction fu with
  | zero => intro i _ _ _ h; exact absurd h (Nat.not_lt_zero _)
  | succ fu ih =>
    intro i i0 i1 he hf
    show b_X9_find_L2 x (jI s) (jI w) post K (w_X9_find_L2 x (jI s) (jI w) post K fu) (jI i) U
    unfold b_X9_find_L2
    have vs : vp_in (jI s) 3 := jvp s rfl s0 (by omega) (by decide)
    refine ⟨vs, br_le c i (by rw [ts]; exact hc) rfl ⟨by omega, by omega⟩ ⟨by omega, by omega⟩ (fun q => hK (by rw [he, show (c - i).toNat = 0 by omega]; rfl)) (fun q => ⟨vs, jvp i rfl i0 (by omega) (by decide), ?_⟩)⟩
    have er : plS D kk a c w = if D kk (a + i) = w then i else plN D kk a w (c - (i + 1)).toNat (i + 1) := by
      rw [he, show (c - i).toNat = (c - (i + 1)).toNat + 1 by omega]
      rfl
    obtain ⟨v1, v2⟩ := hv i i0 q
    refine br_eq (D kk (a + i)) w (by rw [ts, jI_nat i0 (by omega)]; exact v1) rfl v2 rw_ (fun z => ?_) (fun z y hy => ?_)
    · rw [if_pos z] at er
      rw [er] at hp
      exact hp (by omega)
    · rw [if_neg z] at er
      rw [hy, show jI i + 1 = jI (i + 1) from jadd rfl rfl]
      exact ih (i + 1) (by omega) (by omega) er (by omega)
theorem xl_findF {U : Um} {x : Nat} {s c : Int} {a2 : Int32} (s0 : 0 ≤ s) (s1 : s < 3) (hc : uA U x 1 s.toNat = jI c) (cb : 0 ≤ c ∧ c ≤ 10) {post : Int32 → Um → Prop} {K : Um → Prop} (hK : K U) (hp : ∀ r, post r U) : ∀ (fu : Nat) (i : Int), 0 ≤ i → i ≤ c → (c - i).toNat < fu → w_X9_find_L2 x (jI s) a2 post K fu (jI i) U := by
  intro fu
  have ts : Int32.toNatClampNeg (jI s) = s.toNat := jI_nat s0 (by omega)
  induction fu with
  | zero => intro i _ _ h; exact absurd h (Nat.not_lt_zero _)
  | succ fu ih =>
    intro i i0 i1 hf
    show b_X9_find_L2 x (jI s) a2 post K (w_X9_find_L2 x (jI s) a2 post K fu) (jI i) U
    unfold b_X9_find_L2
    have vs : vp_in (jI s) 3 := jvp s rfl s0 (by omega) (by decide)
    refine ⟨vs, br_le c i (by rw [ts]; exact hc) rfl ⟨by omega, by omega⟩ ⟨by omega, by omega⟩ (fun q => hK) (fun q => ⟨vs, jvp i rfl i0 (by omega) (by decide), fun _ => hp _, fun _ y hy => ?_⟩)⟩
    rw [hy, show jI i + 1 = jI (i + 1) from jadd rfl rfl]
    exact ih (i + 1) (by omega) (by omega) (by omega)
theorem x_find {U : Um} {T D : Tm} {x : Nat} {f : Int} (hQ : CQ U T D x f) (hb : BD D) {ob : Nat} (eo : ob = x) {a1 a2 : Int32} {s : Int} (e1 : a1 = jI s) (e2 : a2 = jI (cdS T f)) (hs : 0 ≤ s ∧ s ≤ 2) {post : Int32 → Um → Prop} (h : post (jI (plK T D s f)) U) : w_X9_find ob a1 a2 U post := by
  subst e1 e2
  rw [eo]
  have n := hb.1
  have d := hQ.2.1
  have rc := CQ_rc hQ
  have go : ∀ (kk : Nat) (a : Int), (0 ≤ D 11 (7 + s) ∧ D 11 (7 + s) ≤ 10) → (∀ i, 0 ≤ i → i < D 11 (7 + s) → nmD D s i = D kk (a + i) ∧ 0 < D kk (a + i) ∧ D kk (a + i) < 387420489) → plK T D s f = plS D kk a (D 11 (7 + s)) (cdS T f) → w_X9_find x (jI s) (jI (cdS T f)) U post := fun kk a cb hv e => by
    rw [e] at h
    refine ⟨(D 11 (7 + s) - 0).toNat + 1, xl_findQ (D := D) (kk := kk) (a := a) hs.1 (by omega) (d.1.1 s hs.1 (by omega)) cb (fun i i0 i1 => ?_) rc (fun q => ?_) (fun _ => h) _ 0 (Int.le_refl 0) cb.1 (by rw [Int.sub_zero]; rfl) (Nat.lt_succ_self _)⟩
    · have v := hv i i0 i1
      rw [← v.1]
      exact ⟨d.2.1 s i hs.1 (by omega) i0 i1, by rw [v.1]; exact ⟨by omega, by omega⟩⟩
    · rw [q] at h
      exact h
  rcases (show s = 0 ∨ s = 1 ∨ s = 2 by omega) with rfl | rfl | rfl
  · exact go 1 6 ⟨n.1.1.1, by have : D 11 7 ≤ 6 := n.1.1.2; show D 11 7 ≤ 10; omega⟩ (fun i i0 i1 => ⟨rfl, n.2.1 i i0 i1⟩) rfl
  · exact go 4 8 ⟨n.1.2.1.1, by have : D 11 8 ≤ 8 := n.1.2.1.2; show D 11 8 ≤ 10; omega⟩ (fun i i0 i1 => ⟨rfl, n.2.2.1 i i0 i1⟩) rfl
  · exact go 5 10 ⟨n.1.2.2.1.1, n.1.2.2.1.2⟩ (fun i i0 i1 => ⟨rfl, n.2.2.2 i i0 i1⟩) rfl
theorem f_find {U : Um} {T : Tm} {x : Nat} {k p : Int} (h : CF U T x k p) {ob : Nat} (eo : ob = x) {a1 a2 : Int32} {s : Int} (e1 : a1 = jI s) (hs : 0 ≤ s ∧ s ≤ 2) {post : Int32 → Um → Prop} (hp : ∀ r, post r U) : w_X9_find ob a1 a2 U post := by
  subst e1
  rw [eo]
  obtain ⟨c, cb, hc⟩ := h.2.1 s hs.1 (by omega)
  exact ⟨(c - 0).toNat + 1, xl_findF hs.1 (by omega) hc cb (hp _) hp _ 0 (Int.le_refl 0) cb.1 (Nat.lt_succ_self _)⟩
theorem x_full {U : Um} {T D : Tm} {x : Nat} {f : Int} (hQ : CQ U T D x f) (hb : BD D) {ob : Nat} (eo : ob = x) {a1 : Int32} {s m : Int} (e1 : a1 = jI s) (hs : (s = 0 ∧ m = 6) ∨ (s = 1 ∧ m = 8) ∨ (s = 2 ∧ m = 10)) {post : Int32 → Um → Prop} (h1 : m ≤ D 11 (7 + s) → post 1 U) (h0 : D 11 (7 + s) < m → post 0 U) : w_X9_isFull ob a1 U post := by
  subst e1
  rw [eo]
  have n := hb.1.1
  have d := hQ.2.1.1.1
  have vs : vp_in (jI s) 3 := jvp s rfl (by omega) (by omega) (by decide)
  have ts : Int32.toNatClampNeg (jI s) = s.toNat := jI_nat (by omega) (by omega)
  unfold w_X9_isFull
  rw [ts]
  refine ⟨vs, vs, ?_⟩
  rcases hs with ⟨rfl, rfl⟩ | ⟨rfl, rfl⟩ | ⟨rfl, rfl⟩
  · exact br_lt (D 11 7) 6 (d 0 (by decide) (by decide)) rfl ⟨by omega, by omega⟩ ⟨by decide, by decide⟩ h0 h1
  · exact br_lt (D 11 8) 8 (d 1 (by decide) (by decide)) rfl ⟨by omega, by omega⟩ ⟨by decide, by decide⟩ h0 h1
  · exact br_lt (D 11 9) 10 (d 2 (by decide) (by decide)) rfl ⟨by omega, by omega⟩ ⟨by decide, by decide⟩ h0 h1
theorem x_given {U : Um} {T D : Tm} {x : Nat} {f : Int} (hQ : CQ U T D x f) (hb : BD D) {ob : Nat} (eo : ob = x) {a1 : Int32} (e1 : a1 = jI (cdS T f)) {post : Int32 → Um → Prop} (h0 : (plK T D 0 f = -1 ∧ plK T D 1 f = -1 ∧ plK T D 2 f = -1) → post 0 U) (h1 : ¬ (plK T D 0 f = -1 ∧ plK T D 1 f = -1 ∧ plK T D 2 f = -1) → post 1 U) : w_X9_isGiven ob a1 U post := by
  have n := hb.1.1
  have rr : ∀ s, 0 ≤ s ∧ s ≤ 2 → r32 (plK T D s f) := fun s hs => by
    have a := plK_b (T := T) (D := D) (f := f) hs
    rcases (show s = 0 ∨ s = 1 ∨ s = 2 by omega) with rfl | rfl | rfl
    · have : (D 11 (7 + 0)) = D 11 7 := rfl
      exact ⟨by omega, by omega⟩
    · have : (D 11 (7 + 1)) = D 11 8 := rfl
      exact ⟨by omega, by omega⟩
    · have : (D 11 (7 + 2)) = D 11 9 := rfl
      exact ⟨by omega, by omega⟩
  refine x_find hQ hb eo (s := 0) rfl e1 (by decide) (br_eq _ (-1) rfl rfl (rr 0 (by decide)) ⟨by decide, by decide⟩ (fun c0 => ?_) (fun c0 => h1 (fun q => c0 q.1)))
  refine x_find hQ hb eo (s := 1) rfl e1 (by decide) (br_eq _ (-1) rfl rfl (rr 1 (by decide)) ⟨by decide, by decide⟩ (fun c1 => ?_) (fun c1 => h1 (fun q => c1 q.2.1)))
  exact x_find hQ hb eo (s := 2) rfl e1 (by decide) (br_eq _ (-1) rfl rfl (rr 2 (by decide)) ⟨by decide, by decide⟩ (fun c2 => h0 ⟨c0, c1, c2⟩) (fun c2 => h1 (fun q => c2 q.2.2)))
