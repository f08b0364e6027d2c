/-! numbers: what is held as 32 bits is spoken of as Int -/
def jI (i : Int) : Int32 := Int32.ofInt i
def jL (i : Int) : Int64 := Int64.ofInt i
abbrev r32 (i : Int) : Prop := -2147483648 ≤ i ∧ i ≤ 2147483647
abbrev r64 (i : Int) : Prop := -9223372036854775808 ≤ i ∧ i ≤ 9223372036854775807
theorem jI_toInt {i : Int} (h : r32 i) : (jI i).toInt = i := by
  obtain ⟨h0, h1⟩ := h
  exact Int32.toInt_ofInt_of_le h0 (by omega)
theorem jL_toInt {i : Int} (h : r64 i) : (jL i).toInt = i := by
  obtain ⟨h0, h1⟩ := h
  exact Int64.toInt_ofInt_of_le h0 (by omega)
theorem jI_of (x : Int32) : jI x.toInt = x := by simp [jI]
theorem jL_of (x : Int64) : jL x.toInt = x := by simp [jL]
theorem r32_of (x : Int32) : r32 x.toInt := ⟨Int32.le_toInt x, by have := Int32.toInt_lt x; omega⟩
theorem r64_of (x : Int64) : r64 x.toInt := ⟨Int64.le_toInt x, by have := Int64.toInt_lt x; omega⟩
theorem jI_add (a b : Int) : jI a + jI b = jI (a + b) := by simp [jI, Int32.ofInt_add]
theorem jI_sub (a b : Int) : jI a - jI b = jI (a - b) := by simp [jI, Int32.ofInt_sub]
theorem jI_mul (a b : Int) : jI a * jI b = jI (a * b) := by simp [jI, Int32.ofInt_mul]
theorem jI_neg (a : Int) : - jI a = jI (- a) := by simp [jI, Int32.ofInt_neg]
theorem jL_add (a b : Int) : jL a + jL b = jL (a + b) := by simp [jL, Int64.ofInt_add]
theorem jL_sub (a b : Int) : jL a - jL b = jL (a - b) := by simp [jL, Int64.ofInt_sub]
theorem jL_mul (a b : Int) : jL a * jL b = jL (a * b) := by simp [jL, Int64.ofInt_mul]
theorem jI_inj {a b : Int} (ha : r32 a) (hb : r32 b) : jI a = jI b ↔ a = b := by
  rw [← Int32.toInt_inj, jI_toInt ha, jI_toInt hb]
theorem jI_lt {a b : Int} (ha : r32 a) (hb : r32 b) : jI a < jI b ↔ a < b := by
  rw [Int32.lt_iff_toInt_lt, jI_toInt ha, jI_toInt hb]
theorem jI_le {a b : Int} (ha : r32 a) (hb : r32 b) : jI a ≤ jI b ↔ a ≤ b := by
  rw [Int32.le_iff_toInt_le, jI_toInt ha, jI_toInt hb]
theorem jL_inj {a b : Int} (ha : r64 a) (hb : r64 b) : jL a = jL b ↔ a = b := by
  rw [← Int64.toInt_inj, jL_toInt ha, jL_toInt hb]
theorem jL_lt {a b : Int} (ha : r64 a) (hb : r64 b) : jL a < jL b ↔ a < b := by
  rw [Int64.lt_iff_toInt_lt, jL_toInt ha, jL_toInt hb]
theorem jI_L {i : Int} (h : r32 i) : Int32.toInt64 (jI i) = jL i := by
  rw [← Int64.toInt_inj, Int32.toInt_toInt64, jI_toInt h, jL_toInt ⟨by unfold r32 at h; omega, by unfold r32 at h; omega⟩]
theorem jI_nat {i : Int} (h0 : 0 ≤ i) (h1 : i ≤ 2147483647) : (jI i).toNatClampNeg = i.toNat := by
  show (jI i).toInt.toNat = _
  rw [jI_toInt ⟨by omega, h1⟩]
theorem vp_jI {i : Int} {n : Nat} (h0 : 0 ≤ i) (h1 : i < n) (h2 : n ≤ 100000) : vp_in (jI i) n := by
  intro q
  rcases q with q | q
  · have q2 : jI i < jI 0 := q
    rw [jI_lt ⟨by omega, by omega⟩ ⟨by omega, by omega⟩] at q2
    omega
  · rw [jI_nat h0 (by omega)] at q
    omega
/-- rows of branches -/
theorem br_eq {a b : Int32} {A B : Prop} (x y : Int) (hx : a = jI x) (hy : b = jI y) (rx : r32 x) (ry : r32 y) (h1 : x = y → A) (h2 : x ≠ y → B) : (a = b → A) ∧ (¬ a = b → B) := by
  subst hx; subst hy
  rw [jI_inj rx ry]
  exact ⟨h1, h2⟩
theorem br_le {a b : Int32} {A B : Prop} (x y : Int) (hx : a = jI x) (hy : b = jI y) (rx : r32 x) (ry : r32 y) (h1 : x ≤ y → A) (h2 : y < x → B) : (a ≤ b → A) ∧ (¬ a ≤ b → B) := by
  subst hx; subst hy
  rw [jI_le rx ry]
  exact ⟨h1, fun q => h2 (by omega)⟩
theorem br_lt {a b : Int32} {A B : Prop} (x y : Int) (hx : a = jI x) (hy : b = jI y) (rx : r32 x) (ry : r32 y) (h1 : x < y → A) (h2 : y ≤ x → B) : (a < b → A) ∧ (¬ a < b → B) := by
  subst hx; subst hy
  rw [jI_lt rx ry]
  exact ⟨h1, fun q => h2 (by omega)⟩
theorem lg_jL {x y : Int} (rx : r64 x) (ry : r64 y) : lg_cmp (jL x) (jL y) = if y < x then 1 else if x = y then 0 else -1 := by
  unfold lg_cmp
  simp only [gt_iff_lt, jL_lt ry rx, jL_inj rx ry]
theorem br_lg {a b : Int64} {A B : Prop} (x y : Int) (hx : a = jL x) (hy : b = jL y) (rx : r64 x) (ry : r64 y) (h1 : x < y → A) (h2 : y ≤ x → B) : (lg_cmp a b < 0 → A) ∧ (¬ lg_cmp a b < 0 → B) := by
  subst hx; subst hy
  rw [lg_jL rx ry]
  by_cases q : y < x
  · rw [if_pos q]
    exact ⟨fun q2 => absurd q2 (by decide), fun _ => h2 (by omega)⟩
  · rw [if_neg q]
    by_cases q2 : x = y
    · rw [if_pos q2]
      exact ⟨fun q2 => absurd q2 (by decide), fun _ => h2 (by omega)⟩
    · rw [if_neg q2]
      exact ⟨fun _ => h1 (by omega), fun q3 => absurd (by decide) q3⟩
theorem br_gg {a b : Int64} {A B : Prop} (x y : Int) (hx : a = jL x) (hy : b = jL y) (rx : r64 x) (ry : r64 y) (h1 : y < x → A) (h2 : x ≤ y → B) : ((0 : Int32) < lg_cmp a b → A) ∧ (¬ (0 : Int32) < lg_cmp a b → B) := by
  subst hx; subst hy
  rw [lg_jL rx ry]
  by_cases q : y < x
  · rw [if_pos q]
    exact ⟨fun _ => h1 q, fun q2 => absurd (by decide) q2⟩
  · rw [if_neg q]
    by_cases q2 : x = y
    · rw [if_pos q2]
      exact ⟨fun q2 => absurd q2 (by decide), fun _ => h2 (by omega)⟩
    · rw [if_neg q2]
      exact ⟨fun q2 => absurd q2 (by decide), fun _ => h2 (by omega)⟩
theorem br_l0 {a b : Int64} {A B : Prop} (x y : Int) (hx : a = jL x) (hy : b = jL y) (rx : r64 x) (ry : r64 y) (h1 : x = y → A) (h2 : x ≠ y → B) : (lg_cmp a b = 0 → A) ∧ (¬ lg_cmp a b = 0 → B) := by
  subst hx; subst hy
  rw [lg_jL rx ry]
  by_cases q : y < x
  · rw [if_pos q]
    exact ⟨fun q2 => absurd q2 (by decide), fun _ => h2 (by omega)⟩
  · rw [if_neg q]
    by_cases q2 : x = y
    · rw [if_pos q2]
      exact ⟨fun _ => h1 q2, fun q3 => absurd rfl q3⟩
    · rw [if_neg q2]
      exact ⟨fun q3 => absurd q3 (by decide), fun _ => h2 q2⟩
theorem br_1 {A B : Prop} (h : B) : ((1 : Int32) = 0 → A) ∧ (¬ (1 : Int32) = 0 → B) := ⟨fun q => absurd q (by decide), fun _ => h⟩
theorem br_0 {A B : Prop} (h : A) : ((0 : Int32) = 0 → A) ∧ (¬ (0 : Int32) = 0 → B) := ⟨fun _ => h, fun q => absurd rfl q⟩
theorem al_i {E : Int32} {P : Int32 → Prop} (e : Int) (he : E = jI e) (h : P (jI e)) : ∀ x : Int32, x = E → P x := fun x hx => by rw [hx, he]; exact h
theorem al_l {E : Int64} {P : Int64 → Prop} (e : Int) (he : E = jL e) (h : P (jL e)) : ∀ x : Int64, x = E → P x := fun x hx => by rw [hx, he]; exact h
theorem al_f {E : UInt32} {P : UInt32 → Prop} (h : P E) : ∀ x : UInt32, x = E → P x := fun x hx => by rw [hx]; exact h
theorem pst {post : Int32 → Um → Prop} {U : Um} {a : Int32} {x : Int} (e : a = jI x) (h : post (jI x) U) : post a U := by rw [e]; exact h
theorem psl {post : Int64 → Um → Prop} {U : Um} {a : Int64} {x : Int} (e : a = jL x) (h : post (jL x) U) : post a U := by rw [e]; exact h
theorem al_if {P : Int32 → Prop} {a b : Int32} (x y : Int) (hx : a = jI x) (hy : b = jI y) (rx : r32 x) (ry : r32 y) (h1 : x = y → P 1) (h2 : x ≠ y → P 0) : ∀ z : Int32, z = (if a = b then 1 else 0) → P z := by
  intro z hz
  subst hx; subst hy
  rw [hz]
  by_cases c : x = y
  · rw [if_pos (by rw [c])]
    exact h1 c
  · rw [if_neg (fun q => c ((jI_inj rx ry).mp q))]
    exact h2 c
