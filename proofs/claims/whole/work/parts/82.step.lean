/-! who steps in -/
abbrev folP (T : Tm) (own p k o : Int) : Prop := o ≠ own ∧ o ≠ p ∧ hind T (inGame T o) (k / 3) (k % 3) o = 0
noncomputable def folS (T : Tm) (own p k : Int) : Int := fst_ (folP T own p k) (T 11 2)
abbrev okS (T : Tm) (g s own p k : Int) : Prop := T 30 k = p ∧ k / 3 ≠ g ∧ ¬ gm T (k / 3) 3 < T 35 0 ∧ hind T (woG T p (k / 3)) g s p = 0 ∧ folS T own p k ≠ -1
noncomputable def st1 (T : Tm) (g s own : Int) : Int := fst_ (fun p => p ≠ own ∧ hind T (inGame T p) g s p = 0) (T 11 2)
abbrev stQ (T : Tm) (g s own p : Int) : Prop := p ≠ own ∧ ∃ k, 0 ≤ k ∧ k < 48 ∧ okS T g s own p k
noncomputable def st2 (T : Tm) (g s own : Int) : Int := fst_ (stQ T g s own) (T 11 2)
noncomputable def stK (T : Tm) (g s own p : Int) : Int := fst_ (okS T g s own p) 48
noncomputable def stpV (T : Tm) (g s own w : Int) : Int := if st1 T g s own ≠ -1 then (if w = 0 then 1 else if w = 1 then st1 T g s own else -1) else if st2 T g s own = -1 then -1 else if w = 0 then 2 else if w = 1 then st2 T g s own else if w = 2 then stK T g s own (st2 T g s own) / 3 else if w = 3 then stK T g s own (st2 T g s own) % 3 else folS T own (st2 T g s own) (stK T g s own (st2 T g s own))
noncomputable def stepsS (T : Tm) (g s w : Int) : Int := cif (isSeat T g s ∧ (0 ≤ w ∧ w ≤ 4) ∧ ¬ gm T g 3 < T 35 0 ∧ T 30 (3 * g + s) ≠ -1) (stpV T g s (T 30 (3 * g + s)) w) (-1)
theorem why_t1 {T : Tm} (hI : I1 T) (h2 : I2 T) {g s p : Int} (hs : isSeat T g s) (hp : T 30 (3 * g + s) ≠ p) (p0 : 0 ≤ p) : whyS (up T 30 (3 * g + s) (-1)) g s p = hind T (inGame T p) g s p := by
  unfold whyS
  rw [cif_f (by rw [up_eq]; simp), hind_30]
  refine hind_c hI hs.1 (fun k hk => ?_)
  rw [inGame_del hI h2 hs hk p0, if_neg hp]
theorem why_t2 {T : Tm} (hI : I1 T) (h2 : I2 T) {g s h t : Int} (hs : isSeat T g s) (ht : isSeat T h t) (hgh : h ≠ g) (hp : T 30 (3 * g + s) ≠ T 30 (3 * h + t)) (p0 : 0 ≤ T 30 (3 * h + t)) : whyS (up (up T 30 (3 * g + s) (-1)) 30 (3 * h + t) (-1)) g s (T 30 (3 * h + t)) = hind T (woG T (T 30 (3 * h + t)) h) g s (T 30 (3 * h + t)) := why_two hI h2 hs ht (fun q => hgh q.symm) hp p0
theorem why_t3 {T : Tm} (hI : I1 T) (h2 : I2 T) {g s h t o : Int} (hs : isSeat T g s) (ht : isSeat T h t) (hgh : h ≠ g) (o0 : 0 ≤ o) (h1 : o ≠ T 30 (3 * g + s)) (h3 : o ≠ T 30 (3 * h + t)) : whyS (up (up (up T 30 (3 * g + s) (-1)) 30 (3 * h + t) (-1)) 30 (3 * g + s) (T 30 (3 * h + t))) h t o = hind T (inGame T o) h t o := by
  have q1 := seat3 hI hs
  have q2 := seat3 hI ht
  unfold whyS
  rw [cif_f (by rw [up_ne (by omega), up_eq]; simp), hind_30, hind_30, hind_30]
  refine hind_c hI ht.1 (fun k hk => ?_)
  have hIa : I1 (up T 30 (3 * g + s) (-1)) := I1_30 hI
  have h2a := I2_del h2 (3 * g + s)
  have hIb : I1 (up (up T 30 (3 * g + s) (-1)) 30 (3 * h + t) (-1)) := I1_30 hIa
  rw [inGame_put hIb (h := g) (t := s) hs hk (by rw [up_ne (by omega), up_eq]) o0]
  rw [inGame_del hIa h2a (h := h) (t := t) ht hk o0, up_ne (by omega), if_neg (fun q => h3 q.symm), inGame_del hI h2 hs hk o0, if_neg (fun q => h1 q.symm)]
  exact ⟨fun q => q.elim id (fun z => absurd z.1 h3), Or.inl⟩
/-- the first above a place -/
def fstA (P : Int → Prop) (n o q : Int) : Prop := (q = -1 ∧ ∀ j, o < j → j < n → ¬ P j) ∨ (o < q ∧ q < n ∧ P q ∧ ∀ j, o < j → j < q → ¬ P j)
theorem fstA_end {P : Int → Prop} {n q : Int} (hn : 0 ≤ n) (h : fstA P n (-1) q) : fst_ P n = q := by
  rcases h with ⟨a, b⟩ | ⟨a, b, c, d⟩
  · rw [a]
    exact fst_no hn (fun j j0 j1 => b j (by omega) j1)
  · exact fst_is (by omega) b c (fun j j0 j1 => d j (by omega) j1)
theorem fstA_t {P : Int → Prop} {n o q : Int} (h : fstA P n o q) (ho : o < n) (hp : P o) : fstA P n (o - 1) o := Or.inr ⟨by omega, ho, hp, fun j a b => by omega⟩
theorem fstA_f {P : Int → Prop} {n o q : Int} (h : fstA P n o q) (hp : ¬ P o) : fstA P n (o - 1) q := by
  rcases h with ⟨a, b⟩ | ⟨a, b, c, d⟩
  · refine Or.inl ⟨a, fun j j0 j1 => ?_⟩
    by_cases z : j = o
    · rw [z]
      exact hp
    · exact b j (by omega) j1
  · refine Or.inr ⟨by omega, b, c, fun j j0 j1 => ?_⟩
    by_cases z : j = o
    · rw [z]
      exact hp
    · exact d j (by omega) j1
theorem l_fol44 {T : Tm} (hI : I1 T) (h2 : I2 T) {g s h t : Int} (hs : isSeat T g s) (ht : isSeat T h t) (hgh : h ≠ g) {T3 : Tm} (e3 : T3 = up (up (up T 30 (3 * g + s) (-1)) 30 (3 * h + t) (-1)) 30 (3 * g + s) (T 30 (3 * h + t))) (hI3 : I1 T3) (h23 : I2 T3) {U : Um} (hM : M U T3) {x1 x2 : Int32} {post : Int32 → Um → Prop} {k_89 : Int32 → Um → Prop} (hk : k_89 (jI (folS T (T 30 (3 * g + s)) (T 30 (3 * h + t)) (3 * h + t))) U) (hro : r32 (T 30 (3 * g + s))) (hrp : r32 (T 30 (3 * h + t))) : ∀ (fu : Nat) (q o : Int), -1 ≤ o → o < T 11 2 → fstA (folP T (T 30 (3 * g + s)) (T 30 (3 * h + t)) (3 * h + t)) (T 11 2) o q → (o + 1).toNat < fu → w_X12_findsFollower_L44 55 x1 x2 (jI (T 30 (3 * g + s))) (jI (T 30 (3 * h + t))) (jI (3 * h + t)) post k_89 fu (jI q) (jI o) U := by
  have q1 := seat3 hI hs
  have q2 := seat3 hI ht
  have hn := I_n hI
  have ek : (3 * h + t) / 3 = h ∧ (3 * h + t) % 3 = t := seatD q2.2.1 q2.2.2
  intro fu
  induction fu with
  | zero => intro q o a b c d; exact absurd d (Nat.not_lt_zero _)
  | succ fu ih =>
    intro q o o0 o1 hf hm
    show b_X12_findsFollower_L44 55 x1 x2 (jI (T 30 (3 * g + s))) (jI (T 30 (3 * h + t))) (jI (3 * h + t)) post k_89 (w_X12_findsFollower_L44 55 x1 x2 (jI (T 30 (3 * g + s))) (jI (T 30 (3 * h + t))) (jI (3 * h + t)) post k_89 fu) (jI q) (jI o) U
    unfold b_X12_findsFollower_L44
    refine br_lt o 0 rfl rfl ⟨by omega, by omega⟩ ⟨by omega, by omega⟩ (fun c => ?_) (fun c => ?_)
    · have e : o = -1 := by omega
      rw [e] at hf
      rw [show folS T (T 30 (3 * g + s)) (T 30 (3 * h + t)) (3 * h + t) = q from fstA_end (by omega) hf] at hk
      exact hk
    have nx : ∀ q', fstA (folP T (T 30 (3 * g + s)) (T 30 (3 * h + t)) (3 * h + t)) (T 11 2) (o - 1) q' → ∀ x7 : Int32, x7 = jI o + (-1) → w_X12_findsFollower_L44 55 x1 x2 (jI (T 30 (3 * g + s))) (jI (T 30 (3 * h + t))) (jI (3 * h + t)) post k_89 fu (jI q') x7 U := by
      intro q' hq
      refine al_i (o - 1) (by rw [show (-1 : Int32) = jI (-1) from rfl, jI_add]; exact congrArg jI (by omega)) ?_
      exact ih q' (o - 1) (by omega) (by omega) hq (by omega)
    refine br_eq o (T 30 (3 * g + s)) rfl rfl ⟨by omega, by omega⟩ hro (fun c1 => nx q (fstA_f hf (fun z => z.1 c1))) (fun c1 => ?_)
    refine br_eq o (T 30 (3 * h + t)) rfl rfl ⟨by omega, by omega⟩ hrp (fun c2 => nx q (fstA_f hf (fun z => z.2.1 c2))) (fun c2 => ?_)
    have hgk := I_g hI h ht.1.1 ht.1.2
    unfold gOk at hgk
    have hw := why_t3 hI h2 hs ht hgh c c1 c2
    rw [← e3] at hw
    have hwb := whyS_bb T3 h t o
    refine s_X12_whyNot hM hI3 h23 (g := h) (s := t) (o := o) ((jdiv rfl rfl ⟨by omega, by omega⟩ ⟨by omega, by omega⟩ (by omega) (by omega)).trans (congrArg jI ek.1)) ((jrem rfl rfl ⟨by omega, by omega⟩ ⟨by omega, by omega⟩ (by omega) (by omega)).trans (congrArg jI ek.2)) rfl ht.1.1 (by rw [e3]; exact ht.1.2) ht.2.1 (by rw [e3]; exact ht.2.2) c (by rw [e3]; exact o1) ?_
    refine br_eq (whyS T3 h t o) 0 rfl rfl ⟨by omega, by omega⟩ ⟨by omega, by omega⟩ (fun c3 => ?_) (fun c3 => ?_)
    · refine al_i o rfl ?_
      exact nx o (fstA_t hf o1 ⟨c1, c2, by rw [ek.1, ek.2, ← hw]; exact c3⟩)
    · exact nx q (fstA_f hf (fun z => c3 (by rw [hw]; have := z.2.2; rw [ek.1, ek.2] at this; exact this)))
