/-! the fees of all, who is nearest -/
theorem evS_small {T : Tm} (hI : I1 T) (h2 : I2 T) {g s o : Int} (g0 : 0 ≤ g) (g1 : g < T 11 3) (s0 : 0 ≤ s) (s1 : s < 3) (o0 : 0 ≤ o) (o1 : o < T 11 2) {k : Int} (h0 : 0 ≤ k) (h1 : k ≤ T 14 0) : ∀ l, evS T g s o k = some l → small l := by
  have hL := hI.2.2.2.2.2
  have H : ∀ k, 0 ≤ k → k ≤ T 14 0 → ∀ l, evS T g s o k = some l → small l := by
    intro k hk
    refine cnt_ind (P := fun k => k ≤ T 14 0 → ∀ l, evS T g s o k = some l → small l) k hk (fun _ l e => ?_) (fun k k0 k1 ih hk2 l e => ?_)
    · rw [evS_0] at e
      have : l = [] := by simpa using e.symm
      rw [this]
      intro x hx
      simp at hx
    · rw [evS_s k0] at e
      have hs := hL.2.1 k k0 (by omega)
      cases c : evS T g s o k with
      | none => rw [c] at e; exact absurd e (by simp [stpS])
      | some m =>
        have im := ih (by omega) m c
        rw [c] at e
        unfold stpS at e
        simp only [] at e
        by_cases q0 : T 13 k = 0
        · rw [if_pos q0] at e
          have : T 12 k :: m = l := by simpa using e
          rw [← this]
          exact small_push im (by omega)
        · rw [if_neg q0] at e
          by_cases q1 : T 13 k = 1
          · rw [if_pos q1] at e
            split at e
            · exact absurd e (by simp)
            · have : wordS T g s o (T 12 k) :: m = l := by simpa using e
              rw [← this]
              exact small_push im (wordS_b hI h2 _ g s o g0 g1 s0 s1 o0 o1)
          · rw [if_neg q1] at e
            match m, im, e with
            | [], im, e => exact absurd e (by simp)
            | [x], im, e => exact absurd e (by simp)
            | b :: a :: r, im, e =>
              simp only [] at e
              split at e
              · exact absurd e (by simp)
              · rename_i z
                have : opS (T 13 k) a b :: r = l := by simpa using e
                rw [← this]
                refine small_push (fun x hx => im x (by simp [hx])) ?_
                by_cases w : -2147483648 ≤ opS (T 13 k) a b ∧ opS (T 13 k) a b ≤ 2147483647
                · exact w
                · exact absurd (Or.inr w) z
  exact H k h0 h1
theorem feeS_b {T : Tm} (hI : I1 T) (h2 : I2 T) (g s o : Int) (g0 : 0 ≤ g) (g1 : g < T 11 3) (s0 : 0 ≤ s) (s1 : s < 3) (o0 : 0 ≤ o) (o1 : o < T 11 2) : feeS T g s o = -9223372036854775808 ∨ (-2147483648 ≤ feeS T g s o ∧ feeS T g s o ≤ 2147483647) := by
  have hL := hI.2.2.2.2.2
  have es := evS_small hI h2 g0 g1 s0 s1 o0 o1 hL.1.1 (Int.le_refl _)
  unfold feeS
  split
  · omega
  · split
    · rename_i l e v r q
      exact Or.inr (es _ q v (by simp))
    · exact Or.inl rfl
/-- what is paid for one seat of the fees of o -/
noncomputable def payS (T : Tm) (o g s : Int) : Int := cif (T 30 (3 * g + s) ≠ -1 ∧ (o = -1 ∨ T 30 (3 * g + s) = o)) (cif (feeS T g s (T 30 (3 * g + s)) = -9223372036854775808) 0 (feeS T g s (T 30 (3 * g + s)))) 0
noncomputable def paysS (T : Tm) (o g n : Int) : Int := sm (fun s => payS T o g s) n
noncomputable def paysA (T : Tm) (o n : Int) : Int := sm (fun g => paysS T o g (gm T g 7)) n
noncomputable def feesS (T : Tm) (o : Int) : Int := cif (o = -1 ∨ isOne T o) (paysA T o (T 11 3)) (-9223372036854775808)
theorem pays_s {T : Tm} {o g s : Int} (h : 0 ≤ s) : paysS T o g (s + 1) = paysS T o g s + payS T o g s := sm_s h
theorem paysA_s {T : Tm} {o g : Int} (h : 0 ≤ g) : paysA T o (g + 1) = paysA T o g + paysS T o g (gm T g 7) := sm_s h
noncomputable def costS (T : Tm) (g s o : Int) : Int := if feeS T g s o = -9223372036854775808 then 2147483648 else feeS T g s o
abbrev mayS (T : Tm) (g s o : Int) : Prop := whyF T g s o = 0
def betS (T : Tm) (g s p q : Int) : Prop := extS T g s p < extS T g s q ∨ (extS T g s p = extS T g s q ∧ costS T g s p < costS T g s q)
def bestP (T : Tm) (g s k best : Int) : Prop := (best = -1 ∧ ∀ j, 0 ≤ j → j < k → ¬ mayS T g s j) ∨ (0 ≤ best ∧ best < k ∧ mayS T g s best ∧ (∀ j, 0 ≤ j → j < k → mayS T g s j → ¬ betS T g s j best) ∧ ∀ j, 0 ≤ j → j < best → mayS T g s j → betS T g s best j)
theorem best_0 {T : Tm} {g s : Int} : bestP T g s 0 (-1) := Or.inl ⟨rfl, fun j a b => by omega⟩
theorem best_no {T : Tm} {g s k best : Int} (h0 : 0 ≤ k) (h : bestP T g s k best) (c : ¬ mayS T g s k) : bestP T g s (k + 1) best := by
  rcases h with ⟨a, b⟩ | ⟨a, b, c1, d, e⟩
  · refine Or.inl ⟨a, fun j j0 j1 => ?_⟩
    by_cases z : j = k
    · rw [z]
      exact c
    · exact b j j0 (by omega)
  · refine Or.inr ⟨a, by omega, c1, fun j j0 j1 j2 => ?_, e⟩
    by_cases z : j = k
    · rw [z] at j2
      exact absurd j2 c
    · exact d j j0 (by omega) j2
theorem best_new {T : Tm} {g s k best : Int} (h0 : 0 ≤ k) (h : bestP T g s k best) (c : mayS T g s k) (hb : best = -1 ∨ betS T g s k best) : bestP T g s (k + 1) k := by
  refine Or.inr ⟨h0, by omega, c, fun j j0 j1 j2 q => ?_, fun j j0 j1 j2 => ?_⟩
  · by_cases z : j = k
    · rw [z] at q
      unfold betS at q
      omega
    · rcases h with ⟨a, b⟩ | ⟨a, b, c1, d, e⟩
      · exact b j j0 (by omega) j2
      · have d1 := d j j0 (by omega) j2
        have hb := hb.resolve_left (by omega)
        unfold betS at d1 hb q
        omega
  · rcases h with ⟨a, b⟩ | ⟨a, b, c1, d, e⟩
    · exact absurd j2 (b j j0 (by omega))
    · have d1 := d j j0 (by omega) j2
      have hb := hb.resolve_left (by omega)
      unfold betS at d1 hb ⊢
      omega
theorem best_old {T : Tm} {g s k best : Int} (h0 : 0 ≤ k) (h : bestP T g s k best) (hb : best ≠ -1) (c : ¬ betS T g s k best) : bestP T g s (k + 1) best := by
  rcases h with ⟨a, b⟩ | ⟨a, b, c1, d, e⟩
  · exact absurd a hb
  · refine Or.inr ⟨a, by omega, c1, fun j j0 j1 j2 => ?_, e⟩
    by_cases z : j = k
    · rw [z]
      exact c
    · exact d j j0 (by omega) j2
theorem best_u {T : Tm} {g s k p q : Int} (hp : bestP T g s k p) (hq : bestP T g s k q) : p = q := by
  rcases hp with ⟨a, b⟩ | ⟨a, b, c, d, e⟩
  · rcases hq with ⟨a2, b2⟩ | ⟨a2, b2, c2, d2, e2⟩
    · omega
    · exact absurd c2 (b q a2 b2)
  · rcases hq with ⟨a2, b2⟩ | ⟨a2, b2, c2, d2, e2⟩
    · exact absurd c (b2 p a b)
    · rcases Int.lt_trichotomy p q with z | z | z
      · exact absurd (e2 p a z c) (d q a2 b2 c2)
      · exact z
      · exact absurd (e q a2 z c2) (d2 p a b c)
theorem best_ex {T : Tm} {g s k : Int} (h : 0 ≤ k) : ∃ b, bestP T g s k b := by
  refine cnt_ind (P := fun k => ∃ b, bestP T g s k b) k h ⟨-1, best_0⟩ (fun k h0 h1 ih => ?_)
  obtain ⟨b, hb⟩ := ih
  by_cases c : mayS T g s k
  · by_cases z : b = -1 ∨ betS T g s k b
    · exact ⟨k, best_new h0 hb c z⟩
    · exact ⟨b, best_old h0 hb (fun q => z (Or.inl q)) (fun q => z (Or.inr q))⟩
  · exact ⟨b, best_no h0 hb c⟩
noncomputable def bestS (T : Tm) (g s : Int) : Int := @dite Int (∃ b, bestP T g s (T 11 2) b) (Classical.propDecidable _) (fun h => Classical.choose h) (fun _ => -1)
theorem bestS_is {T : Tm} {g s b : Int} (h : bestP T g s (T 11 2) b) : bestS T g s = b := by
  have hx : ∃ b, bestP T g s (T 11 2) b := ⟨b, h⟩
  unfold bestS
  rw [dif_pos hx]
  exact best_u (Classical.choose_spec hx) h
/-- the cost as the reference has it -/
noncomputable def mxS (T : Tm) (g s o : Int) : Int := if feeS T g s o = -9223372036854775808 then 9223372036854775807 else feeS T g s o
theorem mx_cost {T : Tm} (hI : I1 T) (h2 : I2 T) {g s p q : Int} (g0 : 0 ≤ g) (g1 : g < T 11 3) (s0 : 0 ≤ s) (s1 : s < 3) (p0 : 0 ≤ p) (p1 : p < T 11 2) (q0 : 0 ≤ q) (q1 : q < T 11 2) : mxS T g s p < mxS T g s q ↔ costS T g s p < costS T g s q := by
  have a := feeS_b hI h2 g s p g0 g1 s0 s1 p0 p1
  have b := feeS_b hI h2 g s q g0 g1 s0 s1 q0 q1
  unfold mxS costS
  split <;> split <;> omega
theorem sh0 {B E : Int32} : B ||| ((0 : Int32) <<< E) = B := by
  have : (0 : Int32) <<< E = 0 := by
    rw [← Int32.toBitVec_inj, Int32.toBitVec_shiftLeft]
    simp
  rw [this]
  exact Int32.or_zero
theorem ableM_is {T : Tm} (hI : I1 T) {g s : Int} {B : Int32} (hB : ∀ f, 0 ≤ f → f < 32 → (bt B f ↔ f < T 11 2 ∧ whyF T g s f = 0)) : (ableM T g s).toInt = B.toInt := by
  have hn := I_n hI
  unfold ableM
  rw [mkB_is (by decide) (by decide) (fun f f0 f1 => ?_)]
  rw [hB f f0 f1]
  constructor
  · exact fun q => ⟨by omega, ⟨f0, q.1⟩, q.2⟩
  · exact fun q => ⟨q.2.1.2, q.2.2⟩
theorem best_i {T : Tm} (hI : I1 T) (h2 : I2 T) {g s best least cheap : Int} (hs : isSeat T g s) (h : (best = -1 ∧ least = 0 ∧ cheap = 0) ∨ (0 ≤ best ∧ least = extS T g s best ∧ cheap = mxS T g s best)) (hb : best < T 11 2) : (-340000 ≤ least ∧ least ≤ 340000) ∧ -9223372036854775808 ≤ cheap ∧ cheap ≤ 9223372036854775807 := by
  have hg := I_g hI g (by omega) (by omega)
  unfold gOk at hg
  rcases h with ⟨a, b, c⟩ | ⟨a, b, c⟩
  · omega
  · have := extS_b hI g s best a hb
    have := feeS_b hI h2 g s best (by omega) (by omega) (by omega) (by omega) a hb
    unfold mxS at c
    split at c <;> omega
theorem al_lgi {P : Int64 → Prop} {a b A B : Int64} (x y : Int) (hx : a = jL x) (hy : b = jL y) (rx : r64 x) (ry : r64 y) (u v : Int) (hu : A = jL u) (hv : B = jL v) (h : P (jL (if x = y then u else v))) : ∀ z : Int64, z = (if lg_cmp a b = 0 then A else B) → P z := by
  intro z hz
  subst hx; subst hy; subst hu; subst hv
  have e : lg_cmp (jL x) (jL y) = 0 ↔ x = y := by
    rw [lg_jL rx ry]
    by_cases c2 : y < x
    · rw [if_pos c2]
      exact ⟨fun q => absurd q (by decide), fun q => by omega⟩
    · rw [if_neg c2]
      by_cases c : x = y
      · rw [if_pos c]
        exact ⟨fun _ => c, fun _ => rfl⟩
      · rw [if_neg c]
        exact ⟨fun q => absurd q (by decide), fun q => absurd q c⟩
  rw [hz]
  by_cases c : x = y
  · rw [if_pos c] at h
    rw [if_pos (e.mpr c)]
    exact h
  · rw [if_neg c] at h
    rw [if_neg (fun q => c (e.mp q))]
    exact h
theorem mx_e (T : Tm) (g s o : Int) : mxS T g s o = if feeS T g s o = -9223372036854775808 then 9223372036854775807 else feeS T g s o := rfl
theorem mx_b {T : Tm} (hI : I1 T) (h2 : I2 T) (g s o : Int) (g0 : 0 ≤ g) (g1 : g < T 11 3) (s0 : 0 ≤ s) (s1 : s < 3) (o0 : 0 ≤ o) (o1 : o < T 11 2) : r64 (mxS T g s o) := by
  have := feeS_b hI h2 g s o g0 g1 s0 s1 o0 o1
  unfold mxS
  split <;> omega
theorem best_iff {T : Tm} (hI : I1 T) (h2 : I2 T) {g s best least cheap k : Int} (hs : isSeat T g s) (h : (best = -1 ∧ least = 0 ∧ cheap = 0) ∨ (0 ≤ best ∧ least = extS T g s best ∧ cheap = mxS T g s best)) (hb : best < T 11 2) (hn : best ≠ -1) (k0 : 0 ≤ k) (k1 : k < T 11 2) : betS T g s k best ↔ extS T g s k < least ∨ (extS T g s k = least ∧ mxS T g s k < cheap) := by
  have hg := I_g hI g (by omega) (by omega)
  unfold gOk at hg
  rcases h with ⟨a, b, c⟩ | ⟨a, b, c⟩
  · exact absurd a hn
  · rw [b, c, mx_cost hI h2 (by omega) (by omega) (by omega) (by omega) k0 k1 a hb]
    exact Iff.rfl
