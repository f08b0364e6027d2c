/-! what a seat is paid -/
noncomputable def wordS (T : Tm) (g s o c : Int) : Int := if c = 0 then T 32 o else if c = 1 then needS T g s else if c = 2 then s else if c = 3 then gm T g 5 else if c = 4 then gm T g 3 else if c = 5 then gm T g 4 else if c = 6 then wayS T (T 6 o) (gm T g 2) else (FP.f2i (jF (T 34 o))).toInt
def flS (a b : Int) : Int := if a.tmod b ≠ 0 ∧ ¬ (a < 0 ↔ b < 0) then a.tdiv b - 1 else a.tdiv b
theorem tdiv_b {a b : Int} (h : -2147483648 ≤ a ∧ a ≤ 2147483648) : -2147483648 ≤ a.tdiv b ∧ a.tdiv b ≤ 2147483648 := by
  have := Int.natAbs_tdiv_le_natAbs a b
  omega
theorem tmod_b {a b : Int} (h : -2147483648 ≤ a ∧ a ≤ 2147483648) (hb : -2147483648 ≤ b ∧ b ≤ 2147483648) (b0 : b ≠ 0) : -2147483648 ≤ a.tmod b ∧ a.tmod b ≤ 2147483648 := by
  have h1 := Int.lt_tmod_of_pos a (b := b)
  have := Int.natAbs_tmod a b
  have h3 : a.natAbs % b.natAbs ≤ a.natAbs := Nat.mod_le _ _
  omega
theorem flS_b {a b : Int} (h : -2147483648 ≤ a ∧ a ≤ 2147483648) : -2147483649 ≤ flS a b ∧ flS a b ≤ 2147483648 := by
  have := tdiv_b (b := b) h
  unfold flS
  split <;> omega
theorem jLdiv {a b : Int64} {x y : Int} (ha : a = jL x) (hb : b = jL y) (hx : -2147483648 ≤ x ∧ x ≤ 2147483648) (hy : r64 y) : a / b = jL (x.tdiv y) := by
  have := tdiv_b (b := y) hx
  rw [← Int64.toInt_inj, Int64.toInt_div, ha, hb, jL_toInt ⟨by omega, by omega⟩, jL_toInt hy, jL_toInt ⟨by omega, by omega⟩]
  exact Int.bmod_eq_of_le (by omega) (by omega)
theorem jLrem {a b : Int64} {x y : Int} (ha : a = jL x) (hb : b = jL y) (hx : -2147483648 ≤ x ∧ x ≤ 2147483648) (hy : r64 y) : a - a / b * b = jL (x.tmod y) := by
  rw [jLdiv ha hb hx hy, ha, hb, jL_mul, jL_sub]
  congr 1
  have := Int.tmod_def x y
  rw [this, Int.mul_comm]
theorem s_X12_floor {U : Um} {a1 a2 : Int64} {a b : Int} (e1 : a1 = jL a) (e2 : a2 = jL b) (ha : -2147483648 ≤ a ∧ a ≤ 2147483648) (hb : -2147483648 ≤ b ∧ b ≤ 2147483648) (b0 : b ≠ 0) {post : Int64 → Um → Prop} (h : post (jL (flS a b)) U) : w_X12_floor a1 a2 U post := by
  unfold w_X12_floor
  subst e1; subst e2
  have hd := tdiv_b (b := b) ha
  have hm := tmod_b ha hb b0
  have nz : ¬ jL b = 0 := by
    intro q
    exact b0 ((jL_inj ⟨by omega, by omega⟩ ⟨by omega, by omega⟩).mp (q : jL b = jL 0))
  refine ⟨nz, ?_⟩
  refine al_l (a.tdiv b) (jLdiv rfl rfl ha ⟨by omega, by omega⟩) ?_
  refine ⟨nz, ?_⟩
  refine br_l0 (a.tmod b) 0 (jLrem rfl rfl ha ⟨by omega, by omega⟩) rfl ⟨by omega, by omega⟩ ⟨by omega, by omega⟩ (fun c => ?_) (fun c => ?_)
  · unfold flS at h
    rw [if_neg (fun q => q.1 c)] at h
    exact h
  intro x hx
  have key : (a < 0 ∧ x = 1) ∨ (0 ≤ a ∧ x = 0) := by
    rw [hx, show (0 : Int64) = jL 0 from rfl, lg_jL ⟨by omega, by omega⟩ ⟨by omega, by omega⟩]
    by_cases q : 0 < a
    · rw [if_pos q]
      exact Or.inr ⟨by omega, by decide⟩
    · rw [if_neg q]
      by_cases q2 : a = 0
      · rw [if_pos q2]
        exact Or.inr ⟨by omega, by decide⟩
      · rw [if_neg q2]
        exact Or.inl ⟨by omega, by decide⟩
  have p1 : ¬ (a < 0 ↔ b < 0) → post (jL (a.tdiv b) - 1) U := by
    intro q
    unfold flS at h
    rw [if_pos ⟨c, q⟩] at h
    rw [show jL (a.tdiv b) - 1 = jL (a.tdiv b - 1) from jLsub rfl rfl]
    exact h
  have p2 : (a < 0 ↔ b < 0) → post (jL (a.tdiv b)) U := by
    intro q
    unfold flS at h
    rw [if_neg (fun z => z.2 q)] at h
    exact h
  have key2 : (b < 0 ∧ ¬ (0 : Int32) ≤ lg_cmp (jL b) 0) ∨ (0 ≤ b ∧ (0 : Int32) ≤ lg_cmp (jL b) 0) := by
    rw [show (0 : Int64) = jL 0 from rfl, lg_jL ⟨by omega, by omega⟩ ⟨by omega, by omega⟩]
    by_cases q : 0 < b
    · rw [if_pos q]
      exact Or.inr ⟨by omega, by decide⟩
    · rw [if_neg q]
      by_cases q2 : b = 0
      · exact absurd q2 b0
      · rw [if_neg q2]
        exact Or.inl ⟨by omega, by decide⟩
  rcases key with ⟨k1, k2⟩ | ⟨k1, k2⟩
  · rw [k2]
    rcases key2 with ⟨k3, k4⟩ | ⟨k3, k4⟩
    · exact ⟨fun q => absurd q k4, fun _ => ⟨fun _ => p2 (by omega), fun q => absurd rfl q⟩⟩
    · exact ⟨fun _ => ⟨fun q => absurd q (by decide), fun _ => p1 (by omega)⟩, fun q => absurd k4 q⟩
  · rw [k2]
    rcases key2 with ⟨k3, k4⟩ | ⟨k3, k4⟩
    · exact ⟨fun q => absurd q k4, fun _ => ⟨fun q => absurd q (by decide), fun _ => p1 (by omega)⟩⟩
    · exact ⟨fun _ => ⟨fun _ => p2 (by omega), fun q => absurd rfl q⟩, fun q => absurd k4 q⟩
/-- what a sign makes of two numbers -/
def opS (c a b : Int) : Int := if c = 43 then a + b else if c = 45 then a - b else if c = 42 then a * b else flS a b
noncomputable def stpS (T : Tm) (g s o k : Int) : Option (List Int) → Option (List Int)
  | none => none
  | some l => if T 13 k = 0 then some (T 12 k :: l) else if T 13 k = 1 then (if T 12 k = 6 ∧ wordS T g s o 6 = -1 then none else some (wordS T g s o (T 12 k) :: l)) else
    match l with
    | b :: a :: r => if (T 13 k = 47 ∧ b = 0) ∨ ¬ (-2147483648 ≤ opS (T 13 k) a b ∧ opS (T 13 k) a b ≤ 2147483647) then none else some (opS (T 13 k) a b :: r)
    | _ => none
noncomputable def evN (T : Tm) (g s o : Int) : Nat → Option (List Int)
  | 0 => some []
  | n + 1 => stpS T g s o n (evN T g s o n)
noncomputable def evS (T : Tm) (g s o k : Int) : Option (List Int) := evN T g s o k.toNat
theorem evS_0 {T : Tm} {g s o : Int} : evS T g s o 0 = some [] := rfl
theorem evS_s {T : Tm} {g s o k : Int} (h : 0 ≤ k) : evS T g s o (k + 1) = stpS T g s o k (evS T g s o k) := by
  unfold evS
  rw [Int.toNat_add h (by decide)]
  show stpS T g s o (k.toNat : Int) (evN T g s o k.toNat) = _
  rw [Int.toNat_of_nonneg h]
theorem evS_n {T : Tm} {g s o k n : Int} (h : 0 ≤ k) (hk : k ≤ n) (e : evS T g s o k = none) : evS T g s o n = none := by
  have H : ∀ d : Nat, evS T g s o (k + d) = none := by
    intro d
    induction d with
    | zero => rw [show k + ((0 : Nat) : Int) = k by omega, e]
    | succ d ih => rw [show k + ((d + 1 : Nat) : Int) = (k + d) + 1 by omega, evS_s (by omega), ih]; rfl
  have := H (n - k).toNat
  rw [show k + (((n - k).toNat : Nat) : Int) = n by omega] at this
  exact this
theorem dep_s {T : Tm} {k : Int} (h : 0 ≤ k) : dep T (k + 1) = if T 13 k ≤ 1 then dep T k + 1 else dep T k - 1 := by
  unfold dep
  rw [Int.toNat_add h (by decide)]
  show (if T 13 (k.toNat : Int) ≤ 1 then depN T k.toNat + 1 else depN T k.toNat - 1) = _
  rw [Int.toNat_of_nonneg h]
noncomputable def feeS (T : Tm) (g s o : Int) : Int := if T 11 6 = 0 then 0 else match evS T g s o (T 14 0) with
  | some (v :: _) => v
  | _ => -9223372036854775808
/-- the pile, its top first -/
def pileIs (f : Nat → Int64) (l : List Int) : Prop := ∀ j, j < l.length → f (l.length - 1 - j) = jL (l.getD j 0)
theorem pile_push {f : Nat → Int64} {l : List Int} {v : Int} {n : Nat} (h : pileIs f l) (hn : n = l.length) : pileIs (va_up f n (jL v)) (v :: l) := by
  intro j hj
  unfold va_up
  cases j with
  | zero =>
    rw [if_pos (by simp [hn])]
    rfl
  | succ j =>
    have hj2 : j < l.length := by simpa using hj
    rw [if_neg (by simp [hn]; omega)]
    have := h j hj2
    simp only [List.length_cons]
    rw [show l.length + 1 - 1 - (j + 1) = l.length - 1 - j by omega]
    exact this
theorem pile_join {f : Nat → Int64} {r : List Int} {a b v : Int} {n : Nat} (h : pileIs f (b :: a :: r)) (hn : n = r.length) : pileIs (va_up f n (jL v)) (v :: r) := by
  intro j hj
  unfold va_up
  cases j with
  | zero =>
    rw [if_pos (by simp [hn])]
    rfl
  | succ j =>
    have hj2 : j < r.length := by simpa using hj
    rw [if_neg (by simp [hn]; omega)]
    have := h (j + 2) (by simpa using hj2)
    simp only [List.length_cons] at this ⊢
    rw [show r.length + 1 - 1 - (j + 1) = r.length + 1 + 1 - 1 - (j + 2) by omega]
    exact this
def small (l : List Int) : Prop := ∀ x ∈ l, -2147483648 ≤ x ∧ x ≤ 2147483647
