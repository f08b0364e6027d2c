/-! words for what is asked -/
def gm (T : Tm) (g k : Int) : Int := T 10 (8 * g + k)
abbrev isGame (T : Tm) (g : Int) : Prop := 0 ≤ g ∧ g < T 11 3
abbrev isSeat (T : Tm) (g s : Int) : Prop := isGame T g ∧ 0 ≤ s ∧ s < gm T g 7
abbrev isOne (T : Tm) (o : Int) : Prop := 0 ≤ o ∧ o < T 11 2
abbrev isField (T : Tm) (f : Int) : Prop := 0 ≤ f ∧ f < T 11 0
def inGame (T : Tm) (o g : Int) : Prop := ∃ s, 0 ≤ s ∧ s < gm T g 7 ∧ T 30 (3 * g + s) = o
def wayS (T : Tm) (a b : Int) : Int := T 3 (6 * a + b)
def endS (T : Tm) (g : Int) : Int := gm T g 4 + gm T g 5
abbrev gOk (T : Tm) (g : Int) : Prop := (0 ≤ gm T g 0 ∧ gm T g 0 < T 11 1) ∧ (0 ≤ gm T g 1 ∧ gm T g 1 < T 11 1) ∧ (0 ≤ gm T g 2 ∧ gm T g 2 < T 11 0) ∧ (0 ≤ gm T g 3 ∧ gm T g 3 ≤ 6) ∧ (0 ≤ gm T g 4 ∧ gm T g 4 ≤ 1299) ∧ (10 ≤ gm T g 5 ∧ gm T g 5 ≤ 140) ∧ (1 ≤ gm T g 6 ∧ gm T g 6 ≤ 5) ∧ (1 ≤ gm T g 7 ∧ gm T g 7 ≤ 3)
/-- how many numbers wait after so many steps of the law -/
def depN (T : Tm) : Nat → Int
  | 0 => 0
  | n + 1 => if T 13 n ≤ 1 then depN T n + 1 else depN T n - 1
def dep (T : Tm) (n : Int) : Int := depN T n.toNat
abbrev lStep (T : Tm) (k : Int) : Prop := (T 13 k = 0 ∧ (0 ≤ T 12 k ∧ T 12 k ≤ 9999) ∧ dep T k ≤ 15) ∨ (T 13 k = 1 ∧ (0 ≤ T 12 k ∧ T 12 k ≤ 7) ∧ dep T k ≤ 15) ∨ ((T 13 k = 43 ∨ T 13 k = 45 ∨ T 13 k = 42 ∨ T 13 k = 47) ∧ 2 ≤ dep T k)
/-- what was told -/
def I1 (T : Tm) : Prop := ((0 ≤ T 11 0 ∧ T 11 0 ≤ 6) ∧ (0 ≤ T 11 1 ∧ T 11 1 ≤ 8) ∧ (0 ≤ T 11 2 ∧ T 11 2 ≤ 10) ∧ (0 ≤ T 11 3 ∧ T 11 3 ≤ 16) ∧ (0 ≤ T 11 4 ∧ T 11 4 ≤ 120) ∧ (1 ≤ T 11 5 ∧ T 11 5 ≤ 4) ∧ 0 ≤ T 11 6 ∧ T 11 6 ≤ 1) ∧
  (∀ g, isGame T g → gOk T g) ∧ (∀ i, 0 ≤ i → i < 36 → (-1 ≤ T 3 i ∧ T 3 i ≤ 20000) ∧ 0 ≤ T 2 i ∧ T 2 i ≤ 240) ∧
  (∀ o, isOne T o → (0 ≤ T 6 o ∧ T 6 o < T 11 0) ∧ r32 (T 7 o) ∧ r32 (T 8 o)) ∧
  ((∀ i, 0 ≤ i → i < T 11 0 → 0 < T 1 i ∧ T 1 i < 387420489) ∧ (∀ i, 0 ≤ i → i < T 11 1 → 0 < T 4 i ∧ T 4 i < 387420489) ∧ ∀ i, 0 ≤ i → i < T 11 2 → 0 < T 5 i ∧ T 5 i < 387420489) ∧
  ((0 ≤ T 14 0 ∧ T 14 0 ≤ 1200) ∧ (∀ k, 0 ≤ k → k < T 14 0 → lStep T k) ∧ (T 11 6 = 0 → T 14 0 = 0) ∧ (T 11 6 = 1 → dep T (T 14 0) = 1))
/-- who sits where -/
def I2 (T : Tm) : Prop := (∀ k, 0 ≤ k → k < 48 → T 30 k = -1 ∨ isOne T (T 30 k) ∧ isSeat T (k / 3) (k % 3)) ∧ (∀ g s t, isSeat T g s → isSeat T g t → T 30 (3 * g + s) = T 30 (3 * g + t) → T 30 (3 * g + s) = -1 ∨ s = t) ∧
  (∀ k, 0 ≤ k → k < 48 → -1 ≤ T 31 k ∧ T 31 k ≤ 100) ∧ (∀ o, isOne T o → (1 ≤ T 32 o ∧ T 32 o ≤ 5) ∧ r32 (T 33 o)) ∧ -1 ≤ T 35 0 ∧ T 35 0 ≤ 7
def Inv (T : Tm) : Prop := I1 T ∧ I2 T
theorem I_n {T : Tm} (h : I1 T) : (0 ≤ T 11 0 ∧ T 11 0 ≤ 6) ∧ (0 ≤ T 11 1 ∧ T 11 1 ≤ 8) ∧ (0 ≤ T 11 2 ∧ T 11 2 ≤ 10) ∧ (0 ≤ T 11 3 ∧ T 11 3 ≤ 16) ∧ (0 ≤ T 11 4 ∧ T 11 4 ≤ 120) ∧ (1 ≤ T 11 5 ∧ T 11 5 ≤ 4) ∧ 0 ≤ T 11 6 ∧ T 11 6 ≤ 1 := h.1
theorem I_g {T : Tm} (h : I1 T) (g : Int) (h0 : 0 ≤ g) (h1 : g < T 11 3) : gOk T g := h.2.1 g ⟨h0, h1⟩
theorem I_w {T : Tm} (h : I1 T) (i : Int) (h0 : 0 ≤ i) (h1 : i < 36) : (-1 ≤ T 3 i ∧ T 3 i ≤ 20000) ∧ 0 ≤ T 2 i ∧ T 2 i ≤ 240 := h.2.2.1 i h0 h1
theorem I_o {T : Tm} (h : I1 T) (o : Int) (h0 : 0 ≤ o) (h1 : o < T 11 2) : (0 ≤ T 6 o ∧ T 6 o < T 11 0) ∧ r32 (T 7 o) ∧ r32 (T 8 o) := h.2.2.2.1 o ⟨h0, h1⟩
theorem I_k {T : Tm} (h : I2 T) (k : Int) (h0 : 0 ≤ k) (h1 : k < 48) : T 30 k = -1 ∨ 0 ≤ T 30 k ∧ T 30 k < T 11 2 := by
  rcases h.1 k h0 h1 with q | q
  · exact Or.inl q
  · exact Or.inr q.1
theorem I_r {T : Tm} (h : I2 T) (o : Int) (h0 : 0 ≤ o) (h1 : o < T 11 2) : (1 ≤ T 32 o ∧ T 32 o ≤ 5) ∧ r32 (T 33 o) := h.2.2.2.1 o ⟨h0, h1⟩
theorem I_t {T : Tm} (h : I2 T) : -1 ≤ T 35 0 ∧ T 35 0 ≤ 7 := h.2.2.2.2
/-- bits -/
def bt (B : Int32) (k : Int) : Prop := B.toBitVec.getLsbD k.toNat = true
theorem j31 {k : Int} (h0 : 0 ≤ k) (h1 : k < 32) : jI k &&& 31 = jI k := by
  have : ∀ n : Fin 32, jI (n.val : Int) &&& 31 = jI (n.val : Int) := by decide
  have h := this ⟨k.toNat, by omega⟩
  have e : ((k.toNat : Nat) : Int) = k := Int.toNat_of_nonneg h0
  simp only [e] at h
  exact h
theorem bt_sh {B E : Int32} (k : Int) (he : E = jI k) (h0 : 0 ≤ k) (h1 : k < 32) : (((B >>> (E &&& 31)) &&& 1) = 0 ↔ ¬ bt B k) ∧ (((B >>> (E &&& 31)) &&& 1) = 1 ↔ bt B k) := by
  subst he
  rw [j31 h0 h1]
  have e : ((k.toNat : Nat) : Int) = k := Int.toNat_of_nonneg h0
  have e2 : k.toNat < 32 := by omega
  have key : ((B >>> jI k) &&& 1).toBitVec = if B.toBitVec.getLsbD k.toNat then 1#32 else 0#32 := by
    rw [Int32.toBitVec_and, Int32.toBitVec_shiftRight]
    have e3 : (jI k).toBitVec = BitVec.ofNat 32 k.toNat := by
      apply BitVec.eq_of_toInt_eq
      show (jI k).toInt = _
      rw [jI_toInt ⟨by omega, by omega⟩]
      have : ∀ n : Fin 32, (n.val : Int) = (BitVec.ofNat 32 n.val).toInt := by decide
      have h := this ⟨k.toNat, e2⟩
      simp only [e] at h
      exact h
    rw [e3]
    have e4 : ((BitVec.ofNat 32 k.toNat).smod 32) = BitVec.ofNat 32 k.toNat := by
      have : ∀ n : Fin 32, ((BitVec.ofNat 32 n.val).smod 32) = BitVec.ofNat 32 n.val := by decide
      exact this ⟨k.toNat, e2⟩
    rw [e4, BitVec.sshiftRight_eq', BitVec.toNat_ofNat, Nat.mod_eq_of_lt (by omega)]
    apply BitVec.eq_of_getLsbD_eq
    intro i hi
    rw [BitVec.getLsbD_and, BitVec.getLsbD_sshiftRight]
    by_cases c : i = 0
    · subst c
      by_cases d : B.toBitVec.getLsbD k.toNat = true
      · rw [if_pos d, Nat.add_zero, d]
        simp
        omega
      · rw [if_neg d, Nat.add_zero, Bool.eq_false_iff.mpr d]
        simp
        intro q
        omega
    · have c1 : ((1 : Int32).toBitVec).getLsbD i = false := by
        show (1#32).getLsbD i = false
        rw [BitVec.getLsbD_one]
        simp [c]
      rw [c1, Bool.and_false]
      by_cases d : B.toBitVec.getLsbD k.toNat = true
      · simp [d, c]
      · simp [d]
  unfold bt
  rw [← Int32.toBitVec_inj, ← Int32.toBitVec_inj, key]
  by_cases d : B.toBitVec.getLsbD k.toNat = true
  · simp [d]
  · simp [d]
theorem br_bt0 {B B2 E : Int32} {A D : Prop} (k : Int) (hB : B = B2) (he : E = jI k) (h0 : 0 ≤ k) (h1 : k < 32) (a1 : ¬ bt B2 k → A) (a2 : bt B2 k → D) : (((B >>> (E &&& 31)) &&& 1) = 0 → A) ∧ (¬ ((B >>> (E &&& 31)) &&& 1) = 0 → D) := by
  subst hB
  refine ⟨fun q => a1 ((bt_sh k he h0 h1).1.mp q), fun q => a2 ?_⟩
  by_cases c : bt B k
  · exact c
  · exact absurd ((bt_sh k he h0 h1).1.mpr c) q
theorem br_bt1 {B B2 E : Int32} {A D : Prop} (k : Int) (hB : B = B2) (he : E = jI k) (h0 : 0 ≤ k) (h1 : k < 32) (a1 : bt B2 k → A) (a2 : ¬ bt B2 k → D) : (((B >>> (E &&& 31)) &&& 1) = 1 → A) ∧ (¬ ((B >>> (E &&& 31)) &&& 1) = 1 → D) := by
  subst hB
  exact ⟨fun q => a1 ((bt_sh k he h0 h1).2.mp q), fun q => a2 (fun c => q ((bt_sh k he h0 h1).2.mpr c))⟩
