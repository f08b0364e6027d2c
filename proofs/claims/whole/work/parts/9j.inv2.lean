/-! what the draft keeps: days off, officials, games, the law -/
theorem offN_k {o : Int} {k : Nat} (hk : k ≠ 8) : ∀ (m : Nat) (d : Int) (D : Tm), offN o m d D k = D k := by
  intro m
  induction m with
  | zero => intro d D; rfl
  | succ m ih =>
    intro d D
    show offN o m (d + 1) (up D 8 o (orB (D 8 o) d)) k = _
    rw [ih, up_f hk]
theorem offN_r {o i : Int} : ∀ (m : Nat) (d : Int) (D : Tm), r32 (D 8 i) → r32 (offN o m d D 8 i) := by
  intro m
  induction m with
  | zero => intro d D h; exact h
  | succ m ih =>
    intro d D h
    show r32 (offN o m (d + 1) (up D 8 o (orB (D 8 o) d)) 8 i)
    refine ih _ _ ?_
    rw [up_at]
    by_cases q : i = o
    · rw [if_pos q]; exact r32_of _
    · rw [if_neg q]; exact h
theorem offD_i {T D : Tm} {x f2 b f g : Int} {p : Tm × Int} (hg0 : f ≤ g ∧ g ≤ 1201) (h : ID D f) (e : offD T D x f2 b g = .ok p) : ID p.1 p.2 ∧ f ≤ p.2 ∧ p.2 ≤ 1201 := by
  unfold offD at e
  injection e with e
  subst e
  obtain ⟨⟨hn, hA, hB, hC⟩, hc, hr, hg, ho, hw⟩ := h
  refine ⟨?_, hg0.1, hg0.2⟩
  show ID (offN (10 + x) (b + 1 - nuS T f2).toNat (nuS T f2) D) g
  have ko : ∀ k, k ≠ 8 → offN (10 + x) (b + 1 - nuS T f2).toNat (nuS T f2) D k = D k := fun k a => offN_k a _ _ _
  have k8 : ∀ i, r32 (D 8 i) → r32 (offN (10 + x) (b + 1 - nuS T f2).toNat (nuS T f2) D 8 i) := fun i a => offN_r _ _ _ a
  generalize offN (10 + x) (b + 1 - nuS T f2).toNat (nuS T f2) D = D2 at *
  refine ⟨⟨?_, ?_, ?_, ?_⟩, ?_, ?_, ?_, ?_, ?_⟩
  · rw [ko 11 (by decide)]; exact hn
  · rw [ko 11 (by decide), ko 1 (by decide)]; exact hA
  · rw [ko 11 (by decide), ko 4 (by decide)]; exact hB
  · rw [ko 11 (by decide), ko 5 (by decide)]; exact hC
  · unfold IC; rw [ko 11 (by decide)]; exact hc
  · rw [ko 2 (by decide)]; exact hr
  · unfold gOkD gD; rw [ko 10 (by decide), ko 11 (by decide)]; exact hg
  · unfold oOkD at ho ⊢; rw [ko 6 (by decide), ko 7 (by decide), ko 9 (by decide), ko 11 (by decide)]
    intro o a b
    have z := ho o a b
    exact ⟨z.1, z.2.1, k8 _ z.2.2.1, z.2.2.2⟩
  · exact IW_c (ko 12 (by decide)) (ko 13 (by decide)) (ko 15 (by decide)) (by rw [ko 11 (by decide)]) hg0.1 hw
theorem off_i {T D : Tm} (ht : It T) {f : Int} {p : Tm × Int} (hf : 0 ≤ f ∧ f ≤ 1201) (h : ID D f) (e : offR T D f = .ok p) : ID p.1 p.2 ∧ f ≤ p.2 ∧ p.2 ≤ 1201 := by
  unfold offR at e
  have n1 := nx_ge ht hf
  have n2 := nx_ge ht n1.2
  have n3 := nx_ge ht n2.2
  have n4 := nx_ge ht n3.2
  have n5 := nx_ge ht n4.2
  obtain ⟨e1, e⟩ := ck_e e
  obtain ⟨e2, e⟩ := ck_e e
  by_cases c : cdS T (nx T (nx T (nx T f))) = ownL.getD 7 0
  · rw [if_pos c] at e
    obtain ⟨e3, e⟩ := ck_e e
    exact offD_i (by omega) h e
  · rw [if_neg c] at e
    exact offD_i (by omega) h e
theorem noN_i {T : Tm} (ht : It T) {o : Int} : ∀ (m : Nat) (D : Tm) (f : Int) (p : Tm × Int), 0 ≤ f ∧ f ≤ 1201 → noN T o m D f = .ok p → (∀ k, k ≠ 7 → p.1 k = D k) ∧ (∀ i, r32 (D 7 i) → r32 (p.1 7 i)) ∧ (∀ i, i ≠ o → p.1 7 i = D 7 i) ∧ f ≤ p.2 ∧ p.2 ≤ 1201 := by
  intro m
  induction m with
  | zero =>
    intro D f p hf e
    injection e with e
    subst e
    exact ⟨fun _ _ => rfl, fun _ a => a, fun _ _ => rfl, Int.le_refl _, hf.2⟩
  | succ m ih =>
    intro D f p hf e
    unfold noN at e
    by_cases c : cdS T f = ownL.getD 5 0
    · rw [if_pos c] at e
      obtain ⟨e1, e⟩ := ck_e e
      have n1 := nx_ge ht hf
      have n2 := nx_ge ht n1.2
      by_cases c2 : (jI (D 7 o)).toBitVec.getLsbD (plK T D 1 (nx T f)).toNat = true
      · rw [if_pos c2] at e; cases e
      · rw [if_neg c2] at e
        obtain ⟨a1, a2, a3, a4, a5⟩ := ih _ _ p n2.2 e
        refine ⟨fun k hk => (a1 k hk).trans (up_f hk), fun i hi => a2 i ?_, fun i hi => (a3 i hi).trans ?_, by omega, a5⟩
        · rw [up_at]
          by_cases q : i = o
          · rw [if_pos q]; exact r32_of _
          · rw [if_neg q]; exact hi
        · rw [up_ne (fun z => hi z.2)]
    · rw [if_neg c] at e
      injection e with e
      subst e
      exact ⟨fun _ _ => rfl, fun _ a => a, fun _ _ => rfl, Int.le_refl _, hf.2⟩
theorem one_i {T D : Tm} (ht : It T) {f : Int} {p : Tm × Int} (hf : 0 ≤ f ∧ f ≤ 1201) (h : ID D f) (e : oneR T D f = .ok p) : ID p.1 p.2 ∧ f ≤ p.2 ∧ p.2 ≤ 1201 := by
  unfold oneR at e
  have n1 := nx_ge ht hf
  have n2 := nx_ge ht n1.2
  have n3 := nx_ge ht n2.2
  have n4 := nx_ge ht n3.2
  have n5 := nx_ge ht n4.2
  obtain ⟨e1, e⟩ := ck_e e
  obtain ⟨e2, e⟩ := ck_e e
  obtain ⟨e3, e⟩ := ck_e e
  obtain ⟨e4, e⟩ := ck_e e
  obtain ⟨e5, e⟩ := ck_e e
  have c : D 11 9 < 10 := fu_e e1
  have nm := nm_pos ht n1.2 (new_e e2)
  have ng := nmE_e e3
  have pb := com_e (by omega) e5
  simp only [Int.add_zero] at pb
  generalize cdS T (nx T f) = w at *
  generalize nuS T (nx T (nx T f)) = gr at *
  generalize plK T D 0 (nx T (nx T (nx T (nx T f)))) = y at *
  generalize nx T (nx T (nx T (nx T (nx T f)))) = f5 at *
  cases hx : noN T (10 + D 11 9) 1300 (up (up (up (up (up D 5 (10 + D 11 9) w) 9 (10 + D 11 9) gr) 6 (10 + D 11 9) y) 7 (10 + D 11 9) 0) 8 (10 + D 11 9) 0) f5 with
  | error q => rw [hx] at e; cases e
  | ok q =>
    rw [hx] at e
    injection e with e
    subst e
    obtain ⟨a1, a2, a3, a4, a5⟩ := noN_i ht 1300 _ _ q n5.2 hx
    obtain ⟨⟨hn, hA, hB, hC⟩, hc, hr, hg, ho, hw⟩ := h
    refine ⟨?_, by show f ≤ q.2; omega, a5⟩
    show ID (up q.1 11 9 (q.1 11 9 + 1)) q.2
    have b11 : q.1 11 = D 11 := by rw [a1 11 (by decide), up_f (by decide), up_f (by decide), up_f (by decide), up_f (by decide), up_f (by decide)]
    have bo : ∀ k, k ≠ 5 → k ≠ 6 → k ≠ 7 → k ≠ 8 → k ≠ 9 → q.1 k = D k := fun k c5 c6 c7 c8 c9 => by rw [a1 k c7, up_f c8, up_f c7, up_f c6, up_f c9, up_f c5]
    have b5 : ∀ i, q.1 5 i = if i = 10 + D 11 9 then w else D 5 i := fun i => by rw [a1 5 (by decide), up_nf (by decide), up_nf (by decide), up_nf (by decide), up_nf (by decide), up_at]
    have b9 : ∀ i, q.1 9 i = if i = 10 + D 11 9 then gr else D 9 i := fun i => by rw [a1 9 (by decide), up_nf (by decide), up_nf (by decide), up_nf (by decide), up_at, up_nf (by decide)]
    have b6 : ∀ i, q.1 6 i = if i = 10 + D 11 9 then y else D 6 i := fun i => by rw [a1 6 (by decide), up_nf (by decide), up_nf (by decide), up_at, up_nf (by decide), up_nf (by decide)]
    have b8 : ∀ i, q.1 8 i = if i = 10 + D 11 9 then 0 else D 8 i := fun i => by rw [a1 8 (by decide), up_at, up_nf (by decide), up_nf (by decide), up_nf (by decide), up_nf (by decide)]
    have b7 : ∀ i, (i ≠ 10 + D 11 9 → r32 (D 7 i)) → r32 (q.1 7 i) := fun i hi => a2 i (by
      rw [up_nf (by decide), up_at]
      by_cases z : i = 10 + D 11 9
      · rw [if_pos z]; exact ⟨by decide, by decide⟩
      · rw [if_neg z, up_nf (by decide), up_nf (by decide), up_nf (by decide)]; exact hi z)
    generalize q.1 = D1 at *
    have k1 : up D1 11 9 (D1 11 9 + 1) 11 9 = D 11 9 + 1 := by rw [up_eq, b11]
    have kn : ∀ i, i ≠ 9 → up D1 11 9 (D1 11 9 + 1) 11 i = D 11 i := fun i hi => by rw [up_ne (by omega), b11]
    have ko : ∀ k, k ≠ 11 → up D1 11 9 (D1 11 9 + 1) k = D1 k := fun k a => up_f a
    generalize up D1 11 9 (D1 11 9 + 1) = D2 at *
    refine ⟨⟨?_, ?_, ?_, ?_⟩, ?_, ?_, ?_, ?_, ?_⟩
    · rw [k1, kn 8 (by decide), kn 7 (by decide), kn 10 (by decide)]; omega
    · rw [kn 7 (by decide), ko 1 (by decide), bo 1 (by decide) (by decide) (by decide) (by decide) (by decide)]; exact hA
    · rw [kn 8 (by decide), ko 4 (by decide), bo 4 (by decide) (by decide) (by decide) (by decide) (by decide)]; exact hB
    · intro i a b
      rw [ko 5 (by decide), b5]
      rw [k1] at b
      by_cases z : i = D 11 9
      · rw [if_pos (by omega)]; exact nm
      · rw [if_neg (by omega)]; exact hC i a (by omega)
    · unfold IC; rw [kn 11 (by decide), kn 12 (by decide), kn 13 (by decide)]; exact hc
    · rw [ko 2 (by decide), bo 2 (by decide) (by decide) (by decide) (by decide) (by decide)]; exact hr
    · intro g a b
      rw [kn 10 (by decide)] at b
      have z := hg g a b
      unfold gOkD gD at z ⊢
      rw [ko 10 (by decide), bo 10 (by decide) (by decide) (by decide) (by decide) (by decide), kn 7 (by decide), kn 8 (by decide)]
      exact z
    · intro o a b
      rw [k1] at b
      unfold oOkD
      rw [ko 6 (by decide), ko 7 (by decide), ko 8 (by decide), ko 9 (by decide), kn 7 (by decide), b6, b8, b9]
      by_cases z : o = D 11 9
      · rw [if_pos (by omega), if_pos (by omega), if_pos (by omega)]
        exact ⟨pb, b7 _ (fun q => absurd (by omega) q), ⟨by decide, by decide⟩, by omega⟩
      · rw [if_neg (by omega), if_neg (by omega), if_neg (by omega)]
        have z2 := ho o a (by omega)
        unfold oOkD at z2
        exact ⟨z2.1, b7 _ (fun _ => z2.2.1), z2.2.2.1, z2.2.2.2⟩
    · exact IW_c (by rw [ko 12 (by decide), bo 12 (by decide) (by decide) (by decide) (by decide) (by decide)]) (by rw [ko 13 (by decide), bo 13 (by decide) (by decide) (by decide) (by decide) (by decide)]) (by rw [ko 15 (by decide), bo 15 (by decide) (by decide) (by decide) (by decide) (by decide)]) (kn 13 (by decide)) (by omega) hw
theorem fee_i {T D : Tm} (ht : It T) {f : Int} {p : Tm × Int} (hf : 0 ≤ f ∧ f ≤ 1201) (h : ID D f) (e : feeR T D f = .ok p) : ID p.1 p.2 ∧ f ≤ p.2 ∧ p.2 ≤ 1201 := by
  unfold feeR at e
  have n1 := nx_ge ht hf
  obtain ⟨e1, e⟩ := ck_e e
  have c : D 11 13 ≠ 1 := fun q => by rw [if_pos q] at e1; omega
  obtain ⟨⟨hn, hA, hB, hC⟩, hc, hr, hg, ho, hL, hl, h0, h1⟩ := h
  have z0 := h0 c
  have e15 : up D 11 13 1 15 0 = D 15 0 := up_nf (by decide)
  have hL2 : LI (up D 11 13 1) := by
    refine ⟨by rw [e15]; exact hL.1, fun k hk => ?_⟩
    rw [e15, z0] at hk
    omega
  obtain ⟨b1, b2, b3, b4, b5, b6⟩ := sum_ok ht 4 (by decide) (up D 11 13 1) (nx T f) p n1.2.1 n1.2.2 hL2 (by rw [e15, z0]; show (0 : Int) ≤ 2 * (4 - ((4 : Nat) : Int)); decide) e
  rw [e15] at b2 b3 b4
  have b6' : ∀ k, k ≠ 11 → k ≠ 12 → k ≠ 13 → k ≠ 15 → p.1 k = D k := fun k a b c d => by rw [b6 k b c d, up_f a]
  have b11 : ∀ i, i ≠ 13 → p.1 11 i = D 11 i := fun i hi => by rw [b6 11 (by decide) (by decide) (by decide), up_ne (by omega)]
  have b13 : p.1 11 13 = 1 := by rw [b6 11 (by decide) (by decide) (by decide), up_eq]
  refine ⟨⟨⟨?_, ?_, ?_, ?_⟩, ?_, ?_, ?_, ?_, b1, by omega, fun q => absurd b13 q, fun _ => ?_⟩, by omega, b5⟩
  · rw [b11 7 (by decide), b11 8 (by decide), b11 9 (by decide), b11 10 (by decide)]; exact hn
  · rw [b11 7 (by decide), b6' 1 (by decide) (by decide) (by decide) (by decide)]; exact hA
  · rw [b11 8 (by decide), b6' 4 (by decide) (by decide) (by decide) (by decide)]; exact hB
  · rw [b11 9 (by decide), b6' 5 (by decide) (by decide) (by decide) (by decide)]; exact hC
  · unfold IC; rw [b11 11 (by decide), b11 12 (by decide), b13]; exact ⟨hc.1, hc.2.1, by decide, by decide⟩
  · rw [b6' 2 (by decide) (by decide) (by decide) (by decide)]; exact hr
  · unfold gOkD gD; rw [b6' 10 (by decide) (by decide) (by decide) (by decide), b11 10 (by decide), b11 8 (by decide), b11 7 (by decide)]; exact hg
  · unfold oOkD; rw [b6' 6 (by decide) (by decide) (by decide) (by decide), b6' 7 (by decide) (by decide) (by decide) (by decide), b6' 8 (by decide) (by decide) (by decide) (by decide), b6' 9 (by decide) (by decide) (by decide) (by decide), b11 9 (by decide), b11 7 (by decide)]; exact ho
  · rw [b2, z0]; rfl
