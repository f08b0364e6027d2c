/-! who sits where, changed -/
theorem depN_up {T : Tm} {f : Nat} {i v : Int} (hf : 13 ≠ f) {n : Nat} : depN (up T f i v) n = depN T n := by
  induction n with
  | zero => rfl
  | succ n ih =>
    show (if up T f i v 13 n ≤ 1 then depN (up T f i v) n + 1 else depN (up T f i v) n - 1) = if T 13 n ≤ 1 then depN T n + 1 else depN T n - 1
    rw [ih, up_nf hf]
theorem dep_up {T : Tm} {f : Nat} {i v : Int} (hf : 13 ≠ f) {n : Int} : dep (up T f i v) n = dep T n := depN_up hf
theorem I1_up {T : Tm} {f : Nat} {i v : Int} (hf : f ≠ 1 ∧ f ≠ 2 ∧ f ≠ 3 ∧ f ≠ 4 ∧ f ≠ 5 ∧ f ≠ 6 ∧ f ≠ 7 ∧ f ≠ 8 ∧ f ≠ 10 ∧ f ≠ 11 ∧ f ≠ 12 ∧ f ≠ 13 ∧ f ≠ 14) (h : I1 T) : I1 (up T f i v) := by
  obtain ⟨a1, a2, a3, a4, a5, a6⟩ := h
  have e : ∀ k j, (k = 1 ∨ k = 2 ∨ k = 3 ∨ k = 4 ∨ k = 5 ∨ k = 6 ∨ k = 7 ∨ k = 8 ∨ k = 10 ∨ k = 11 ∨ k = 12 ∨ k = 13 ∨ k = 14) → up T f i v k j = T k j := fun k j hk => up_nf (by omega)
  have eg : ∀ g k, gm (up T f i v) g k = gm T g k := fun g k => e 10 _ (by omega)
  have ed : ∀ n, dep (up T f i v) n = dep T n := fun n => dep_up (by omega)
  unfold I1 gOk isGame isOne lStep
  simp only [eg, ed, e 1 _ (by omega), e 2 _ (by omega), e 3 _ (by omega), e 4 _ (by omega), e 5 _ (by omega), e 6 _ (by omega), e 7 _ (by omega), e 8 _ (by omega), e 11 _ (by omega), e 12 _ (by omega), e 13 _ (by omega), e 14 _ (by omega)]
  exact ⟨a1, a2, a3, a4, a5, a6⟩
theorem I1_30 {T : Tm} {i v : Int} (h : I1 T) : I1 (up T 30 i v) := I1_up (by omega) h
theorem hind_30 {T : Tm} {i v : Int} {P : Int → Prop} {g s o : Int} : hind (up T 30 i v) P g s o = hind T P g s o := rfl
theorem I2_del {T : Tm} (h : I2 T) (i : Int) : I2 (up T 30 i (-1)) := by
  obtain ⟨a, b, c⟩ := h
  refine ⟨fun k k0 k1 => ?_, fun g s t hs ht e => ?_, c⟩
  · rw [up_at]
    split
    · exact Or.inl rfl
    · exact a k k0 k1
  · rw [up_at, up_at] at e
    rw [up_at]
    have hs2 : isSeat T g s := hs
    have ht2 : isSeat T g t := ht
    split
    · exact Or.inl rfl
    · rename_i z
      rw [if_neg z] at e
      split at e
      · exact Or.inl e
      · exact b g s t hs2 ht2 e
theorem seat3 {T : Tm} (hI : I1 T) {g s : Int} (h : isSeat T g s) : (0 ≤ g ∧ g < 16) ∧ 0 ≤ s ∧ s < 3 := by
  have := I_g hI g h.1.1 h.1.2
  have hn := I_n hI
  unfold gOk at this
  omega
theorem seatD {g s : Int} (h0 : 0 ≤ s) (h1 : s < 3) : (3 * g + s) / 3 = g ∧ (3 * g + s) % 3 = s := by omega
theorem I2_put {T : Tm} (hI : I1 T) (h : I2 T) {g s o : Int} (hs : isSeat T g s) (ho : isOne T o) (hn : ¬ inGame T o g) : I2 (up T 30 (3 * g + s) o) := by
  obtain ⟨a, b, c⟩ := h
  have h3 := seat3 hI hs
  refine ⟨fun k k0 k1 => ?_, fun g2 s2 t2 hs2 ht2 e => ?_, c⟩
  · rw [up_at]
    split
    · rename_i z
      refine Or.inr ⟨ho, ?_⟩
      rw [z, (seatD h3.2.1 h3.2.2).1, (seatD h3.2.1 h3.2.2).2]
      exact hs
    · exact a k k0 k1
  · rw [up_at, up_at] at e
    rw [up_at]
    have hs3 : isSeat T g2 s2 := hs2
    have ht3 : isSeat T g2 t2 := ht2
    have q1 := seat3 hI hs3
    have q2 := seat3 hI ht3
    by_cases z1 : 3 * g2 + s2 = 3 * g + s
    · rw [if_pos z1] at e ⊢
      by_cases z2 : 3 * g2 + t2 = 3 * g + s
      · exact Or.inr (by omega)
      · rw [if_neg z2] at e
        have z3 : g2 = g := by omega
        subst z3
        exact absurd ⟨t2, ht3.2.1, ht3.2.2, e.symm⟩ hn
    · rw [if_neg z1] at e ⊢
      by_cases z2 : 3 * g2 + t2 = 3 * g + s
      · rw [if_pos z2] at e
        have z3 : g2 = g := by omega
        subst z3
        exact absurd ⟨s2, hs3.2.1, hs3.2.2, e⟩ hn
      · rw [if_neg z2] at e
        exact b g2 s2 t2 hs3 ht3 e
/-- the games of o but for one -/
abbrev woG (T : Tm) (o h g : Int) : Prop := inGame T o g ∧ g ≠ h
theorem inGame_del {T : Tm} (hI : I1 T) (h2 : I2 T) {h t o g : Int} (ht : isSeat T h t) (hg : isGame T g) (ho : 0 ≤ o) : inGame (up T 30 (3 * h + t) (-1)) o g ↔ (if T 30 (3 * h + t) = o then woG T o h g else inGame T o g) := by
  have h3 := seat3 hI ht
  have hb : ∀ x, 0 ≤ x → x < gm T g 7 → x < 3 := fun x x0 x1 => (seat3 hI (g := g) (s := x) ⟨hg, x0, x1⟩).2.2
  constructor
  · rintro ⟨s, s0, s1, s2⟩
    have s1' : s < gm T g 7 := s1
    rw [up_at] at s2
    split at s2
    · omega
    · rename_i z
      have sb := hb s s0 s1'
      split
      · rename_i y
        refine ⟨⟨s, s0, s1', s2⟩, fun q => ?_⟩
        subst q
        have := h2.2.1 g s t ⟨hg, s0, s1'⟩ ht (by rw [s2, y])
        omega
      · exact ⟨s, s0, s1', s2⟩
  · intro q
    have q2 : inGame T o g ∧ (T 30 (3 * h + t) = o → g ≠ h) := by
      split at q
      · exact ⟨q.1, fun _ => q.2⟩
      · rename_i y
        exact ⟨q, fun z => absurd z y⟩
    obtain ⟨⟨s, s0, s1, s2⟩, q3⟩ := q2
    have sb := hb s s0 s1
    refine ⟨s, s0, s1, ?_⟩
    rw [up_at, if_neg ?_]
    · exact s2
    · intro z
      have z1 : g = h := by omega
      have z2 : s = t := by omega
      subst z1; subst z2
      exact q3 s2 rfl
theorem inGame_put {T : Tm} (hI : I1 T) {h t a o g : Int} (ht : isSeat T h t) (hg : isGame T g) (hf : T 30 (3 * h + t) = -1) (ho : 0 ≤ o) : inGame (up T 30 (3 * h + t) a) o g ↔ inGame T o g ∨ (o = a ∧ g = h) := by
  have h3 := seat3 hI ht
  have hb : ∀ x, 0 ≤ x → x < gm T g 7 → x < 3 := fun x x0 x1 => (seat3 hI (g := g) (s := x) ⟨hg, x0, x1⟩).2.2
  constructor
  · rintro ⟨s, s0, s1, s2⟩
    have s1' : s < gm T g 7 := s1
    have sb := hb s s0 s1'
    rw [up_at] at s2
    split at s2
    · exact Or.inr ⟨s2.symm, by omega⟩
    · exact Or.inl ⟨s, s0, s1', s2⟩
  · rintro (⟨s, s0, s1, s2⟩ | ⟨q1, q2⟩)
    · refine ⟨s, s0, s1, ?_⟩
      have sb := hb s s0 s1
      rw [up_at, if_neg ?_]
      · exact s2
      · intro z
        rw [z] at s2
        omega
    · subst q1; subst q2
      exact ⟨t, ht.2.1, ht.2.2, by rw [up_eq]⟩
theorem hind_c {T : Tm} {P Q : Int → Prop} (hI : I1 T) {g s o : Int} (hg : isGame T g) (h : ∀ k, isGame T k → (P k ↔ Q k)) : hind T P g s o = hind T Q g s o := by
  have hn := I_n hI
  have ho : ∀ k, 0 ≤ k → k < T 11 3 → (otherS T P g k ↔ otherS T Q g k) := fun k a b => by
    have := h k ⟨a, b⟩
    exact ⟨fun q => ⟨q.1, q.2.1, this.mp q.2.2⟩, fun q => ⟨q.1, q.2.1, this.mpr q.2.2⟩⟩
  have e1 : cnt (otherS T P g) (T 11 3) = cnt (otherS T Q g) (T 11 3) := cnt_c (by omega) ho
  have e2 : meetS T P g (T 11 3) ↔ meetS T Q g (T 11 3) := by
    unfold meetS
    exact ⟨fun ⟨k, a, b, c, d⟩ => ⟨k, a, b, (ho k a b).mp c, d⟩, fun ⟨k, a, b, c, d⟩ => ⟨k, a, b, (ho k a b).mpr c, d⟩⟩
  have e3 : lateS T P g o (T 11 3) ↔ lateS T Q g o (T 11 3) := by
    unfold lateS
    exact ⟨fun q => q.imp id (fun ⟨k, a, b, c, d⟩ => ⟨k, a, b, (ho k a b).mp c, d⟩), fun q => q.imp id (fun ⟨k, a, b, c, d⟩ => ⟨k, a, b, (ho k a b).mpr c, d⟩)⟩
  have e4 : cnt (fldS T P g (T 11 3)) 6 = cnt (fldS T Q g (T 11 3)) 6 := by
    refine cnt_c (by decide) (fun f _ _ => ?_)
    unfold fldS
    exact ⟨fun q => q.imp id (fun ⟨k, a, b, c, d⟩ => ⟨k, a, b, (ho k a b).mp c, d⟩), fun q => q.imp id (fun ⟨k, a, b, c, d⟩ => ⟨k, a, b, (ho k a b).mpr c, d⟩)⟩
  have e0 := h g hg
  unfold hind
  rw [e1, e4, propext e0, propext e2, propext e3]
/-- whether two seats may be exchanged -/
noncomputable def swapS (T : Tm) (g s h t : Int) : Int := cif (¬ (isSeat T g s ∧ isSeat T h t)) (-1) (cif (gm T g 3 < T 35 0 ∨ gm T h 3 < T 35 0) (-2) (cif (T 30 (3 * g + s) = -1 ∨ T 30 (3 * h + t) = -1) (-3) (cif (g = h ∨ T 30 (3 * g + s) = T 30 (3 * h + t)) (-4)
  (cif (T 32 (T 30 (3 * g + s)) ≠ T 32 (T 30 (3 * h + t))) (-5) (cif (hind T (woG T (T 30 (3 * h + t)) h) g s (T 30 (3 * h + t)) = 0 ∧ hind T (woG T (T 30 (3 * g + s)) g) h t (T 30 (3 * g + s)) = 0) 0 (-6))))))
/-- two seats emptied -/
theorem why_two {T : Tm} (hI : I1 T) (h2 : I2 T) {g s h t : Int} (hs : isSeat T g s) (ht : isSeat T h t) (hgh : g ≠ h) (ha : T 30 (3 * g + s) ≠ T 30 (3 * h + t)) (hb : 0 ≤ T 30 (3 * h + t)) : whyS (up (up T 30 (3 * g + s) (-1)) 30 (3 * h + t) (-1)) g s (T 30 (3 * h + t)) = hind T (woG T (T 30 (3 * h + t)) h) g s (T 30 (3 * h + t)) := by
  have q1 := seat3 hI hs
  have q2 := seat3 hI ht
  unfold whyS
  rw [cif_f (by rw [up_ne (by omega), up_eq]; simp), hind_30, hind_30]
  refine hind_c hI hs.1 (fun k hk => ?_)
  rw [inGame_del (I1_30 hI) (I2_del h2 _) (h := h) (t := t) ht hk hb, up_ne (by omega), if_pos rfl]
  have := inGame_del hI h2 (h := g) (t := s) (o := T 30 (3 * h + t)) hs hk hb
  rw [if_neg ha] at this
  show inGame (up T 30 (3 * g + s) (-1)) (T 30 (3 * h + t)) k ∧ k ≠ h ↔ _
  rw [this]
theorem why_two2 {T : Tm} (hI : I1 T) (h2 : I2 T) {g s h t : Int} (hs : isSeat T g s) (ht : isSeat T h t) (hgh : g ≠ h) (ha : T 30 (3 * g + s) ≠ T 30 (3 * h + t)) (hb : 0 ≤ T 30 (3 * g + s)) : whyS (up (up T 30 (3 * g + s) (-1)) 30 (3 * h + t) (-1)) h t (T 30 (3 * g + s)) = hind T (woG T (T 30 (3 * g + s)) g) h t (T 30 (3 * g + s)) := by
  have q1 := seat3 hI hs
  have q2 := seat3 hI ht
  rw [up_comm (by omega)]
  exact why_two hI h2 ht hs (fun q => hgh q.symm) (fun q => ha q.symm) hb
theorem up_back {T : Tm} {i j : Int} (h : i ≠ j) : up (up (up (up T 30 i (-1)) 30 j (-1)) 30 i (T 30 i)) 30 j (T 30 j) = T := by
  rw [up_comm (k := 30) (k2 := 30) (i := j) (i2 := i) (by omega), up_up, up_up, up_id rfl, up_id rfl]
theorem up_back1 {T : Tm} {i : Int} {v : Int} : up (up T 30 i v) 30 i (T 30 i) = T := by
  rw [up_up, up_id rfl]
