theorem why_one {T : Tm} (hI : I1 T) (h2 : I2 T) {h t : Int} (ht : isSeat T h t) (hb : 0 ≤ T 30 (3 * h + t)) : whyS (up T 30 (3 * h + t) (-1)) h t (T 30 (3 * h + t)) = hind T (woG T (T 30 (3 * h + t)) h) h t (T 30 (3 * h + t)) := by
  unfold whyS
  rw [cif_f (by rw [up_eq]; simp), hind_30]
  refine hind_c hI ht.1 (fun k hk => ?_)
  rw [inGame_del hI h2 (h := h) (t := t) ht hk hb, if_pos rfl]
theorem seat_k {T : Tm} (h2 : I2 T) {k : Int} (h0 : 0 ≤ k) (h1 : k < 48) (h : T 30 k ≠ -1) : isSeat T (k / 3) (k % 3) ∧ 0 ≤ T 30 k ∧ T 30 k < T 11 2 := by
  rcases h2.1 k h0 h1 with q | q
  · exact absurd q h
  · exact ⟨q.2, q.1.1, q.1.2⟩
abbrev soundS (T : Tm) (k : Int) : Prop := hind T (woG T (T 30 k) (k / 3)) (k / 3) (k % 3) (T 30 k) = 0
theorem why_k {T : Tm} (hI : I1 T) (h2 : I2 T) {k : Int} (h0 : 0 ≤ k) (h1 : k < 48) (h : T 30 k ≠ -1) : whyS (up T 30 k (-1)) (k / 3) (k % 3) (T 30 k) = hind T (woG T (T 30 k) (k / 3)) (k / 3) (k % 3) (T 30 k) := by
  have := seat_k h2 h0 h1 h
  have e : 3 * (k / 3) + k % 3 = k := by omega
  have w := why_one hI h2 (h := k / 3) (t := k % 3) this.1 (by rw [e]; exact this.2.1)
  rw [e] at w
  exact w
abbrev unsP (T : Tm) (k : Int) : Prop := T 30 k ≠ -1 ∧ ¬ soundS T k
noncomputable def unsS (T : Tm) (i : Int) : Int := cif (i = -1) (cnt (unsP T) 48) (fst_ (fun k => unsP T k ∧ cnt (unsP T) k = i) 48)
noncomputable def rndsN (T : Tm) (o n : Int) : Int := sm (fun d => rndS T o d (-1) (-1)) n
noncomputable def rndsS (T : Tm) (o : Int) : Int := rndsN T o 7
theorem rnds_s {T : Tm} {o d : Int} (h : 0 ≤ d) : rndsN T o (d + 1) = rndsN T o d + rndS T o d (-1) (-1) := sm_s h
theorem rnds_b {T : Tm} (hI : I1 T) (o n : Int) (h0 : 0 ≤ o) (h1 : o < T 11 2) (n0 : 0 ≤ n) (n1 : n ≤ 7) : 0 ≤ rndsN T o n ∧ rndsN T o n ≤ 2380000 := by
  have := sm_b (f := fun d => rndS T o d (-1) (-1)) (n := n) 340000 n0 (fun d _ _ => rndS_b hI o d (-1) (-1) h0 h1)
  unfold rndsN
  omega
/-- two seats exchanged -/
def exT (T : Tm) (k j : Int) : Tm := up (up T 30 k (T 30 j)) 30 j (T 30 k)
theorem exT_ex {T : Tm} {k j : Int} (h : k ≠ j) : exT (exT T k j) k j = T := by
  have e1 : exT T k j 30 k = T 30 j := by
    unfold exT
    rw [up_ne (by omega), up_eq]
  have e2 : exT T k j 30 j = T 30 k := by
    unfold exT
    rw [up_eq]
  show up (up (exT T k j) 30 k (exT T k j 30 j)) 30 j (exT T k j 30 k) = T
  rw [e1, e2]
  unfold exT
  rw [up_comm (k := 30) (k2 := 30) (i := j) (i2 := k) (by omega), up_up, up_up, up_id rfl, up_id rfl]
noncomputable def gainS (T : Tm) (k j : Int) : Int := (rndsS T (T 30 k) + rndsS T (T 30 j)) - (rndsS (exT T k j) (T 30 k) + rndsS (exT T k j) (T 30 j))
/-- pairs by one number, 48 times the first and the second -/
abbrev pairOk (T : Tm) (p : Int) : Prop := p / 48 < p % 48 ∧ T 30 (p / 48) ≠ -1 ∧ T 30 (p % 48) ≠ -1 ∧ swapS T (p / 48 / 3) (p / 48 % 3) (p % 48 / 3) (p % 48 % 3) = 0
noncomputable def gainP (T : Tm) (p : Int) : Int := gainS T (p / 48) (p % 48)
/-- the first of the greatest above 0 -/
def mxI (ok : Int → Prop) (val : Int → Int) (N best arg : Int) : Prop := (best = 0 ∧ arg = -1 ∧ ∀ p, 0 ≤ p → p < N → ok p → val p ≤ 0) ∨ (0 < best ∧ 0 ≤ arg ∧ arg < N ∧ ok arg ∧ val arg = best ∧ (∀ p, 0 ≤ p → p < N → ok p → val p ≤ best) ∧ ∀ p, 0 ≤ p → p < arg → ok p → val p < best)
theorem mx_0 {ok : Int → Prop} {val : Int → Int} : mxI ok val 0 0 (-1) := Or.inl ⟨rfl, rfl, fun p a b => by omega⟩
theorem mx_skip {ok : Int → Prop} {val : Int → Int} {N M best arg : Int} (h : mxI ok val N best arg) (hNM : N ≤ M) (hs : ∀ p, N ≤ p → p < M → ok p → val p ≤ best) : mxI ok val M best arg := by
  rcases h with ⟨a, b, c⟩ | ⟨a, b, c, d, e, f, g⟩
  · refine Or.inl ⟨a, b, fun p p0 p1 q => ?_⟩
    by_cases z : p < N
    · exact c p p0 z q
    · have := hs p (by omega) p1 q
      omega
  · refine Or.inr ⟨a, b, by omega, d, e, fun p p0 p1 q => ?_, g⟩
    by_cases z : p < N
    · exact f p p0 z q
    · exact hs p (by omega) p1 q
theorem mx_new {ok : Int → Prop} {val : Int → Int} {N best arg : Int} (h0 : 0 ≤ N) (h : mxI ok val N best arg) (hk : ok N) (hv : best < val N) : mxI ok val (N + 1) (val N) N := by
  have hb : 0 ≤ best ∧ ∀ p, 0 ≤ p → p < N → ok p → val p ≤ best := by
    rcases h with ⟨a, b, c⟩ | ⟨a, b, c, d, e, f, g⟩
    · exact ⟨by omega, fun p p0 p1 q => by have := c p p0 p1 q; omega⟩
    · exact ⟨by omega, f⟩
  refine Or.inr ⟨by omega, h0, by omega, hk, rfl, fun p p0 p1 q => ?_, fun p p0 p1 q => ?_⟩
  · by_cases z : p = N
    · rw [z]
      exact Int.le_refl _
    · have := hb.2 p p0 (by omega) q
      omega
  · have := hb.2 p p0 p1 q
    omega
theorem mx_u {ok : Int → Prop} {val : Int → Int} {N b1 a1 b2 a2 : Int} (h1 : mxI ok val N b1 a1) (h2 : mxI ok val N b2 a2) : b1 = b2 ∧ a1 = a2 := by
  rcases h1 with ⟨a, b, c⟩ | ⟨a, b, c, d, e, f, g⟩
  · rcases h2 with ⟨x, y, z⟩ | ⟨x, y, z, u, v, w, t⟩
    · omega
    · have := c a2 y z u
      omega
  · rcases h2 with ⟨x, y, z⟩ | ⟨x, y, z, u, v, w, t⟩
    · have := z a1 b c d
      omega
    · have q1 := f a2 y z u
      have q2 := w a1 b c d
      rcases Int.lt_trichotomy a1 a2 with l | l | l
      · have := t a1 b l d
        omega
      · exact ⟨by omega, l⟩
      · have := g a2 y l u
        omega
noncomputable def exB (T : Tm) : Int := @dite Int (∃ b a, mxI (pairOk T) (gainP T) 2304 b a) (Classical.propDecidable _) (fun h => Classical.choose h) (fun _ => 0)
noncomputable def exA (T : Tm) : Int := @dite Int (∃ b a, mxI (pairOk T) (gainP T) 2304 b a) (Classical.propDecidable _) (fun h => Classical.choose (Classical.choose_spec h)) (fun _ => 0)
theorem ex_is {T : Tm} {b a : Int} (h : mxI (pairOk T) (gainP T) 2304 b a) : exB T = b ∧ exA T = a := by
  have hx : ∃ b a, mxI (pairOk T) (gainP T) 2304 b a := ⟨b, a, h⟩
  unfold exB exA
  rw [dif_pos hx, dif_pos hx]
  exact mx_u (Classical.choose_spec (Classical.choose_spec hx)) h
noncomputable def exS (T : Tm) (w : Int) : Int := cif (0 ≤ w ∧ w ≤ 4) (cif (w = 0) (exB T) (cif (exA T = -1) (-1) (cif (w = 1) (exA T / 48 / 3) (cif (w = 2) (exA T / 48 % 3) (cif (w = 3) (exA T % 48 / 3) (exA T % 48 % 3)))))) (-2)
/-- the first of the most, of the first k -/
def topI (f : Int → Int) (k m : Int) : Prop := 0 ≤ m ∧ m < k ∧ (∀ j, 0 ≤ j → j < k → f j ≤ f m) ∧ ∀ j, 0 ≤ j → j < m → f j < f m
theorem topI_t {f : Int → Int} {k m : Int} (h : topI f k m) (c : f m < f k) : topI f (k + 1) k := by
  obtain ⟨a, b, d, e⟩ := h
  refine ⟨by omega, by omega, fun j j0 j1 => ?_, fun j j0 j1 => ?_⟩
  · by_cases z : j = k
    · rw [z]
      exact Int.le_refl _
    · have := d j j0 (by omega)
      omega
  · have := d j j0 j1
    omega
theorem topI_f {f : Int → Int} {k m : Int} (h : topI f k m) (c : f k ≤ f m) : topI f (k + 1) m := by
  obtain ⟨a, b, d, e⟩ := h
  refine ⟨a, by omega, fun j j0 j1 => ?_, e⟩
  by_cases z : j = k
  · rw [z]
    exact c
  · exact d j j0 (by omega)
theorem topI_u {f : Int → Int} {k m m2 : Int} (h : topI f k m) (h2 : topI f k m2) : m = m2 := by
  obtain ⟨a, b, c, d⟩ := h
  obtain ⟨a2, b2, c2, d2⟩ := h2
  rcases Int.lt_trichotomy m m2 with z | z | z
  · have := d2 m a z
    have := c m2 a2 b2
    omega
  · exact z
  · have := d m2 a2 z
    have := c2 m a b
    omega
theorem topI_1 {f : Int → Int} : topI f 1 0 := ⟨by omega, by omega, fun j a b => by rw [show j = 0 by omega]; exact Int.le_refl _, fun j a b => by omega⟩
noncomputable def topS (f : Int → Int) (k : Int) : Int := fst_ (fun m => ∀ j, 0 ≤ j → j < k → f j ≤ f m) k
theorem topS_is {f : Int → Int} {k m : Int} (h : topI f k m) : topS f k = m := by
  obtain ⟨a, b, c, d⟩ := h
  refine fst_is a b c (fun j j0 j1 z => ?_)
  have := z m a b
  have := d j j0 j1
  omega
noncomputable def mostS (T : Tm) : Int := topS (seatsS T) (T 11 2)
noncomputable def fewS (T : Tm) : Int := topS (fun o => - seatsS T o) (T 11 2)
noncomputable def sprS (T : Tm) (w : Int) : Int := cif (T 11 2 = 0 ∨ ¬ (0 ≤ w ∧ w ≤ 2)) (-1) (cif (w = 0) (seatsS T (mostS T) - seatsS T (fewS T)) (cif (w = 1) (mostS T) (fewS T)))
