/-! the order of officials -/
theorem cnt_le {p q : Int → Prop} {n : Int} (hn : 0 ≤ n) (h : ∀ k, 0 ≤ k → k < n → p k → q k) : cnt p n ≤ cnt q n := by
  refine cnt_ind (P := fun m => m ≤ n → cnt p m ≤ cnt q m) n hn (fun _ => ?_) (fun k k0 k1 ih hk => ?_) (Int.le_refl _)
  · rw [cnt_0 (Int.le_refl 0), cnt_0 (Int.le_refl 0)]
    exact Int.le_refl 0
  · have ih := ih (by omega)
    by_cases c : p k
    · rw [cnt_t k0 c, cnt_t k0 (h k k0 k1 c)]
      omega
    · rw [cnt_f k0 c]
      by_cases c2 : q k
      · rw [cnt_t k0 c2]
        omega
      · rw [cnt_f k0 c2]
        exact ih
theorem cnt_eq {o n : Int} (o0 : 0 ≤ o) (o1 : o < n) : cnt (fun k => k = o) n = 1 := by
  have a : cnt (fun k => k = o) o = 0 := by
    rw [cnt_x (p := fun k => k = o) (n := 0) (m := o) (Int.le_refl 0) o0 (fun k _ q => by omega), cnt_0 (Int.le_refl 0)]
  have b : cnt (fun k => k = o) (o + 1) = 1 := by
    rw [cnt_t (p := fun k => k = o) o0 rfl, a]
    rfl
  rw [cnt_x (p := fun k => k = o) (n := o + 1) (m := n) (by omega) (by omega) (fun k q _ => by omega), b]
theorem cnt_pt {p q : Int → Prop} {n o : Int} (o0 : 0 ≤ o) (o1 : o < n) (hp : ¬ p o) (h : ∀ k, 0 ≤ k → k < n → (q k ↔ p k ∨ k = o)) : cnt q n = cnt p n + 1 := by
  rw [cnt_c (q := fun k => p k ∨ k = o) (by omega) h, cnt_or (by omega) (fun k _ _ z => hp (by rw [← z.2]; exact z.1)), cnt_eq o0 o1]
/-- numbers that differ reach every number -/
theorem rk_onto {n : Int} {rk : Int → Int} (hb : ∀ o, 0 ≤ o → o < n → 0 ≤ rk o ∧ rk o < n) (hi : ∀ o p, 0 ≤ o → o < n → 0 ≤ p → p < n → rk o = rk p → o = p) {i : Int} (i0 : 0 ≤ i) (i1 : i < n) : ∃ o, (0 ≤ o ∧ o < n) ∧ rk o = i := by
  have hn : 0 ≤ n := by omega
  have st : ∀ k, 0 ≤ k → cnt (fun p => rk p < k + 1) n ≤ cnt (fun p => rk p < k) n + 1 ∧ ((∀ o, 0 ≤ o → o < n → rk o ≠ k) → cnt (fun p => rk p < k + 1) n = cnt (fun p => rk p < k) n) := fun k k0 => by
    have no : (∀ o, 0 ≤ o → o < n → rk o ≠ k) → cnt (fun p => rk p < k + 1) n = cnt (fun p => rk p < k) n := fun h => cnt_c hn (fun j j0 j1 => by
      have := h j j0 j1
      omega)
    refine ⟨?_, no⟩
    by_cases c : ∃ o, (0 ≤ o ∧ o < n) ∧ rk o = k
    · obtain ⟨o, ho, e⟩ := c
      rw [cnt_pt (p := fun p => rk p < k) (o := o) ho.1 ho.2 (by omega) (fun j j0 j1 => ?_)]
      · exact Int.le_refl _
      · refine ⟨fun q => ?_, fun q => ?_⟩
        · by_cases c2 : rk j < k
          · exact Or.inl c2
          · exact Or.inr (hi j o j0 j1 ho.1 ho.2 (by omega))
        · rcases q with q | q
          · omega
          · rw [q]
            omega
    · rw [no (fun o o0 o1 e => c ⟨o, ⟨o0, o1⟩, e⟩)]
      omega
  have up : ∀ (m : Nat) (k : Int), 0 ≤ k → cnt (fun p => rk p < k + m) n ≤ cnt (fun p => rk p < k) n + m := by
    intro m
    induction m with
    | zero => intro k k0; rw [show k + ((0 : Nat) : Int) = k by omega]; omega
    | succ m ih =>
      intro k k0
      have a := ih k k0
      have b := (st (k + m) (by omega)).1
      rw [show k + ((m + 1 : Nat) : Int) = k + m + 1 by omega]
      omega
  have z : cnt (fun p => rk p < 0) n = 0 := by
    rw [cnt_x (p := fun p => rk p < 0) (n := 0) (m := n) (Int.le_refl 0) hn (fun k k0 k1 => by have := (hb k k0 k1).1; omega), cnt_0 (Int.le_refl 0)]
  have f : cnt (fun p => rk p < n) n = n := by
    rw [cnt_c (q := fun _ => True) hn (fun k k0 k1 => ⟨fun _ => trivial, fun _ => (hb k k0 k1).2⟩), cnt_all hn]
  refine Classical.byContradiction (fun c => ?_)
  have e := (st i i0).2 (fun o o0 o1 e => c ⟨o, ⟨o0, o1⟩, e⟩)
  have a := up i.toNat 0 (Int.le_refl 0)
  have b := up (n - i - 1).toNat (i + 1) (by omega)
  rw [show (0 : Int) + (i.toNat : Int) = i by omega] at a
  rw [show i + 1 + ((n - i - 1).toNat : Int) = n by omega] at b
  omega
theorem i32_le0 {a : Int32} : a ≤ 0 ↔ a < 0 ∨ a = 0 := by
  rw [Int32.le_iff_toInt_le, Int32.lt_iff_toInt_lt, ← Int32.toInt_inj]
  omega
theorem ahd_key {T : Tm} (hf : If T) : ∃ v : Int → Nat, ∀ p q, isOne T p → isOne T q → (aheadS T p q ↔ (v p = v q ∧ ((T 33 p = T 33 q ∧ p < q) ∨ T 33 q < T 33 p)) ∨ v q < v p) := by
  have e : ∀ o : Int, ∃ z : Nat, isOne T o → ∃ c q, FE (jF (T 34 o)) c q ∧ z = fv c q := fun o => by
    by_cases h : isOne T o
    · obtain ⟨c, q, a, _⟩ := hf o h
      exact ⟨fv c q, fun _ => ⟨c, q, a, rfl⟩⟩
    · exact ⟨0, fun q => absurd q h⟩
  obtain ⟨v, hv⟩ := Classical.skolem.mp e
  refine ⟨v, fun p q hp hq => ?_⟩
  obtain ⟨c, r, f1, e1⟩ := hv p hp
  obtain ⟨d, s, f2, e2⟩ := hv q hq
  obtain ⟨l1, _, l3, _⟩ := fc_lt f1 f2
  rw [← e1, ← e2] at l1 l3
  unfold aheadS
  rw [i32_le0, l1, l3]
  omega
/-- who is ahead comes before -/
noncomputable def rkS (T : Tm) (o : Int) : Int := cnt (ahdP T o) (T 11 2)
def Rk (T : Tm) : Prop := 0 ≤ T 11 2 ∧ (∀ o, isOne T o → ¬ aheadS T o o) ∧ (∀ p q, isOne T p → isOne T q → (rkS T p < rkS T q ↔ aheadS T p q)) ∧ (∀ p q, isOne T p → isOne T q → rkS T p = rkS T q → p = q) ∧ ∀ o, isOne T o → 0 ≤ rkS T o ∧ rkS T o < T 11 2
theorem Rk.n0 {T : Tm} (h : Rk T) : 0 ≤ T 11 2 := h.1
theorem Rk.irr {T : Tm} (h : Rk T) : ∀ o, isOne T o → ¬ aheadS T o o := h.2.1
theorem Rk.lt {T : Tm} (h : Rk T) : ∀ p q, isOne T p → isOne T q → (rkS T p < rkS T q ↔ aheadS T p q) := h.2.2.1
theorem Rk.inj {T : Tm} (h : Rk T) : ∀ p q, isOne T p → isOne T q → rkS T p = rkS T q → p = q := h.2.2.2.1
theorem Rk.b {T : Tm} (h : Rk T) : ∀ o, isOne T o → 0 ≤ rkS T o ∧ rkS T o < T 11 2 := h.2.2.2.2
theorem Rk_is {T : Tm} (hI : I1 T) (hf : If T) : Rk T := by
  have hn := I_n hI
  obtain ⟨v, hv⟩ := ahd_key hf
  have irr : ∀ o, isOne T o → ¬ aheadS T o o := fun o ho q => by
    have := (hv o o ho ho).mp q
    omega
  have tr : ∀ p q r, isOne T p → isOne T q → isOne T r → aheadS T p q → aheadS T q r → aheadS T p r := fun p q r hp hq hr a b => by
    have a := (hv p q hp hq).mp a
    have b := (hv q r hq hr).mp b
    exact (hv p r hp hr).mpr (by omega)
  have tot : ∀ p q, isOne T p → isOne T q → p ≠ q → aheadS T p q ∨ aheadS T q p := fun p q hp hq c => by
    rw [hv p q hp hq, hv q p hq hp]
    omega
  have lt1 : ∀ p q, isOne T p → isOne T q → aheadS T p q → rkS T p < rkS T q := fun p q hp hq a => by
    unfold rkS
    have e : cnt (fun r => ahdP T p r ∨ r = p) (T 11 2) = cnt (ahdP T p) (T 11 2) + 1 := cnt_pt (o := p) hp.1 hp.2 (fun z => z.1 rfl) (fun k _ _ => Iff.rfl)
    have l : cnt (fun r => ahdP T p r ∨ r = p) (T 11 2) ≤ cnt (ahdP T q) (T 11 2) := cnt_le (by omega) (fun k k0 k1 z => by
      have hk : isOne T k := ⟨k0, k1⟩
      rcases z with z | z
      · have t := tr k p q hk hp hq z.2 a
        exact ⟨fun c => irr q hq (by rw [c] at t; exact t), t⟩
      · rw [z]
        exact ⟨fun c => irr q hq (by rw [c] at a; exact a), a⟩)
    omega
  have lt : ∀ p q, isOne T p → isOne T q → (rkS T p < rkS T q ↔ aheadS T p q) := fun p q hp hq => ⟨fun h => by
    refine (Classical.em (p = q)).elim (fun c => ?_) (fun c => (tot p q hp hq c).elim id (fun z => ?_))
    · rw [c] at h
      omega
    · have := lt1 q p hq hp z
      omega, lt1 p q hp hq⟩
  refine ⟨by omega, irr, lt, fun p q hp hq e => Classical.byContradiction (fun c => ?_), fun o ho => ⟨(cnt_b (by omega)).1, ?_⟩⟩
  · rcases tot p q hp hq c with z | z
    · have := lt1 p q hp hq z
      omega
    · have := lt1 q p hq hp z
      omega
  · unfold rkS
    have e : cnt (fun r => ahdP T o r ∨ r = o) (T 11 2) = cnt (ahdP T o) (T 11 2) + 1 := cnt_pt (o := o) ho.1 ho.2 (fun z => z.1 rfl) (fun k _ _ => Iff.rfl)
    have l := (cnt_b (p := fun r => ahdP T o r ∨ r = o) (n := T 11 2) (by omega)).2
    omega
theorem Rk.onto {T : Tm} (h : Rk T) {i : Int} (i0 : 0 ≤ i) (i1 : i < T 11 2) : ∃ o, isOne T o ∧ rkS T o = i := rk_onto (rk := rkS T) (fun o a b => h.b o ⟨a, b⟩) (fun o p a b c d e => h.inj o p ⟨a, b⟩ ⟨c, d⟩ e) i0 i1
theorem Rk.rank {T : Tm} (h : Rk T) {o : Int} (ho : isOne T o) : rankS T (rkS T o) = o := fst_is ho.1 ho.2 rfl (fun j j0 j1 e => by
  have := h.inj j o ⟨j0, by have := ho.2; omega⟩ ho e
  omega)
/-- counted in order -/
theorem Rk.step {T : Tm} (h : Rk T) {Q : Int → Prop} {o : Int} (ho : isOne T o) : cnt (fun p => Q p ∧ rkS T p < rkS T o + 1) (T 11 2) = cnt (fun p => Q p ∧ rkS T p < rkS T o) (T 11 2) + cif (Q o) 1 0 := by
  have k1 : ∀ k, isOne T k → (rkS T k < rkS T o + 1 ↔ rkS T k < rkS T o ∨ k = o) := fun k hk => ⟨fun q => (Classical.em (k = o)).elim Or.inr (fun c => Or.inl (by
    have : rkS T k ≠ rkS T o := fun e => c (h.inj k o hk ho e)
    omega)), fun q => q.elim (fun q => by omega) (fun q => by rw [q]; omega)⟩
  by_cases c : Q o
  · rw [cif_t c]
    refine cnt_pt (o := o) ho.1 ho.2 (fun z => by have := z.2; omega) (fun k k0 k2 => ?_)
    rw [k1 k ⟨k0, k2⟩]
    refine ⟨fun q => q.2.elim (fun z => Or.inl ⟨q.1, z⟩) Or.inr, fun q => q.elim (fun z => ⟨z.1, Or.inl z.2⟩) (fun z => ⟨by rw [z]; exact c, Or.inr z⟩)⟩
  · rw [cif_f c, Int.add_zero]
    refine cnt_c h.n0 (fun k k0 k2 => ?_)
    rw [k1 k ⟨k0, k2⟩]
    refine ⟨fun q => ⟨q.1, q.2.elim id (fun z => absurd (by rw [← z]; exact q.1) c)⟩, fun q => ⟨q.1, Or.inl q.2⟩⟩
