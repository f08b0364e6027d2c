/-! ways: least sums of roads, as both find them -/
def itr {X : Type} (f : Int → X → X) : Nat → Int → X → X
  | 0, _, x => x
  | m + 1, i, x => itr f m (i + 1) (f i x)
abbrev Wm : Type := Int → Int → Int
def w0 (R : Int → Int) : Wm := fun a b => if a = b then 0 else if 0 < R (6 * a + b) then R (6 * a + b) else -1
def wst (k a b : Int) (w : Wm) : Wm := if w a k ≠ -1 ∧ w k b ≠ -1 ∧ (w a b = -1 ∨ w a k + w k b < w a b) then (fun i j => if i = a ∧ j = b then w a k + w k b else w i j) else w
def wB (n : Nat) (k a : Int) (w : Wm) : Wm := itr (fun b w => wst k a b w) n 0 w
def wA (n : Nat) (k : Int) (w : Wm) : Wm := itr (fun a w => wB n k a w) n 0 w
def wK (n : Nat) (w : Wm) : Wm := itr (fun k w => wA n k w) n 0 w
theorem itr_inv {X : Type} {f : Int → X → X} {P : X → Prop} {n : Int} (h : ∀ i x, 0 ≤ i → i < n → P x → P (f i x)) : ∀ (m : Nat) (i : Int) (x : X), 0 ≤ i → i + m ≤ n → P x → P (itr f m i x) := by
  intro m
  induction m with
  | zero => intro i x _ _ hx; exact hx
  | succ m ih =>
    intro i x i0 i1 hx
    exact ih (i + 1) (f i x) (by omega) (by omega) (h i x i0 (by omega) hx)
theorem itr_id {X : Type} {f : Int → X → X} {n : Int} {x : X} (h : ∀ i, n ≤ i → f i x = x) : ∀ (m : Nat) (i : Int), n ≤ i → itr f m i x = x := by
  intro m
  induction m with
  | zero => intro i _; rfl
  | succ m ih =>
    intro i hi
    show itr f m (i + 1) (f i x) = x
    rw [h i hi]
    exact ih (i + 1) (by omega)
theorem itr_cut {X : Type} {f g : Int → X → X} {P : X → Prop} {n : Nat} (hfg : ∀ (i : Int) (x : X), 0 ≤ i → i < (n : Int) → P x → f i x = g i x) (hP : ∀ (i : Int) (x : X), 0 ≤ i → i < (n : Int) → P x → P (g i x)) (hid : ∀ (i : Int) (x : X), (n : Int) ≤ i → P x → f i x = x) : ∀ (m : Nat) (k : Nat) (i : Int) (x : X), 0 ≤ i → i + m = n → P x → itr f (m + k) i x = itr g m i x := by
  intro m
  induction m with
  | zero =>
    intro k i x i0 i1 hx
    rw [Nat.zero_add]
    exact itr_id (n := n) (fun j hj => hid j x hj hx) k i (by omega)
  | succ m ih =>
    intro k i x i0 i1 hx
    rw [show m + 1 + k = (m + k) + 1 by omega]
    show itr f (m + k) (i + 1) (f i x) = itr g m (i + 1) (g i x)
    rw [hfg i x i0 (by omega) hx]
    exact ih k (i + 1) (g i x) (by omega) (by omega) (hP i x i0 (by omega) hx)
/-- ways lead to the first n fields alone -/
def wOn (n : Int) (w : Wm) : Prop := (∀ i, w i i = 0) ∧ (∀ i j, -1 ≤ w i j) ∧ ∀ i j, i ≠ j → (n ≤ i ∨ n ≤ j) → w i j = -1
theorem wst_on {n k a b : Int} {w : Wm} (h : wOn n w) : wOn n (wst k a b w) ∧ ((n ≤ k ∨ n ≤ a ∨ n ≤ b) → wst k a b w = w) := by
  obtain ⟨h0, h1, h2⟩ := h
  unfold wst
  by_cases c : w a k ≠ -1 ∧ w k b ≠ -1 ∧ (w a b = -1 ∨ w a k + w k b < w a b)
  · rw [if_pos c]
    have p1 := h1 a k
    have p2 := h1 k b
    have hab : a ≠ b := fun q => by
      subst q
      have := h0 a
      omega
    have nk : ¬ (n ≤ k ∨ n ≤ a ∨ n ≤ b) := by
      intro q
      by_cases e1 : a = k
      · subst e1
        have := h0 a
        have := c.2.2
        omega
      · by_cases e2 : k = b
        · subst e2
          have := h0 k
          have := c.2.2
          omega
        · have z1 : ¬ (n ≤ a ∨ n ≤ k) := fun z => c.1 (h2 a k e1 z)
          have z2 : ¬ (n ≤ k ∨ n ≤ b) := fun z => c.2.1 (h2 k b e2 z)
          omega
    refine ⟨⟨fun i => ?_, fun i j => ?_, fun i j hij hn => ?_⟩, fun q => absurd q nk⟩
    · dsimp only
      rw [if_neg (fun q => hab (q.1.symm.trans q.2))]
      exact h0 i
    · dsimp only
      split
      · omega
      · exact h1 i j
    · dsimp only
      rw [if_neg (fun q => nk (by omega))]
      exact h2 i j hij hn
  · rw [if_neg c]
    exact ⟨⟨h0, h1, h2⟩, fun _ => rfl⟩
theorem wB_on {n : Int} {N : Nat} {k a : Int} {w : Wm} (h : wOn n w) : wOn n (wB N k a w) := itr_inv (n := N) (P := wOn n) (fun _ _ _ _ q => (wst_on q).1) N 0 w (by omega) (by omega) h
theorem wA_on {n : Int} {N : Nat} {k : Int} {w : Wm} (h : wOn n w) : wOn n (wA N k w) := itr_inv (n := N) (P := wOn n) (fun _ _ _ _ q => wB_on q) N 0 w (by omega) (by omega) h
theorem wB_id {n N : Nat} {k a : Int} {w : Wm} (h : wOn n w) (q : (n : Int) ≤ k ∨ (n : Int) ≤ a) : wB N k a w = w := by
  have : ∀ m (i : Int), itr (fun b w => wst k a b w) m i w = w := by
    intro m
    induction m with
    | zero => intro i; rfl
    | succ m ih =>
      intro i
      show itr _ m (i + 1) (wst k a i w) = w
      rw [(wst_on (n := n) h).2 (by omega)]
      exact ih (i + 1)
  exact this N 0
theorem wA_id {n N : Nat} {k : Int} {w : Wm} (h : wOn n w) (q : (n : Int) ≤ k) : wA N k w = w := by
  have : ∀ m (i : Int), itr (fun a w => wB N k a w) m i w = w := by
    intro m
    induction m with
    | zero => intro i; rfl
    | succ m ih =>
      intro i
      show itr _ m (i + 1) (wB N k i w) = w
      rw [wB_id (n := n) h (Or.inl q)]
      exact ih (i + 1)
  exact this N 0
theorem wB_cut {n m : Nat} {k a : Int} {w : Wm} (h : wOn n w) : wB (n + m) k a w = wB n k a w := itr_cut (n := n) (P := wOn n) (fun _ _ _ _ _ => rfl) (fun _ _ _ _ q => (wst_on q).1) (fun i x hi q => (wst_on (n := n) q).2 (by omega)) n m 0 w (by omega) (by omega) h
theorem wA_cut {n m : Nat} {k : Int} {w : Wm} (h : wOn n w) : wA (n + m) k w = wA n k w := itr_cut (n := n) (P := wOn n) (fun _ _ _ _ q => wB_cut q) (fun _ _ _ _ q => wB_on q) (fun i x hi q => wB_id (n := n) q (Or.inr hi)) n m 0 w (by omega) (by omega) h
theorem wK_cut {n m : Nat} {w : Wm} (h : wOn n w) : wK (n + m) w = wK n w := itr_cut (n := n) (P := wOn n) (fun _ _ _ _ q => wA_cut q) (fun _ _ _ _ q => wA_on q) (fun i x hi q => wA_id (n := n) q hi) n m 0 w (by omega) (by omega) h
/-- how long ways can be -/
def wLe (B k : Int) (w : Wm) : Prop := (∀ i, w i i = 0) ∧ (∀ i j, -1 ≤ w i j ∧ w i j ≤ 2 * B) ∧ (∀ i, w i k ≤ B) ∧ ∀ j, w k j ≤ B
theorem wst_le {B k a b : Int} {w : Wm} (h : wLe B k w) : wLe B k (wst k a b w) := by
  obtain ⟨h0, h1, h2, h3⟩ := h
  unfold wst
  by_cases c : w a k ≠ -1 ∧ w k b ≠ -1 ∧ (w a b = -1 ∨ w a k + w k b < w a b)
  · rw [if_pos c]
    have p1 := h1 a k
    have p2 := h1 k b
    have p3 := h2 a
    have p4 := h3 b
    have hab : a ≠ b := fun q => by
      subst q
      have := h0 a
      omega
    have hak : a ≠ k := fun q => by
      subst q
      have := h0 a
      omega
    have hkb : k ≠ b := fun q => by
      subst q
      have := h0 k
      omega
    refine ⟨fun i => ?_, fun i j => ?_, fun i => ?_, fun j => ?_⟩
    · dsimp only; rw [if_neg (fun q => hab (q.1.symm.trans q.2))]; exact h0 i
    · dsimp only
      split
      · omega
      · exact h1 i j
    · dsimp only; rw [if_neg (fun q => hkb q.2)]; exact h2 i
    · dsimp only; rw [if_neg (fun q => hak q.1.symm)]; exact h3 j
  · rw [if_neg c]
    exact ⟨h0, h1, h2, h3⟩
theorem wA_le {B : Int} {N : Nat} {k : Int} {w : Wm} (hB : 0 ≤ B) (h : (∀ i, w i i = 0) ∧ ∀ i j, -1 ≤ w i j ∧ w i j ≤ B) : (∀ i, wA N k w i i = 0) ∧ ∀ i j, -1 ≤ wA N k w i j ∧ wA N k w i j ≤ 2 * B := by
  have s : wLe B k w := ⟨h.1, fun i j => by have := h.2 i j; omega, fun i => (h.2 i k).2, fun j => (h.2 k j).2⟩
  have e : wLe B k (wA N k w) := itr_inv (n := N) (P := wLe B k) (fun a x _ _ q => itr_inv (n := N) (P := wLe B k) (fun b y _ _ q2 => wst_le q2) N 0 x (by omega) (by omega) q) N 0 w (by omega) (by omega) s
  exact ⟨e.1, e.2.1⟩
set_option maxRecDepth 8192 in
theorem wK_le {w : Wm} (h : (∀ i, w i i = 0) ∧ ∀ i j, -1 ≤ w i j ∧ w i j ≤ 240) : ∀ i j, -1 ≤ wK 6 w i j ∧ wK 6 w i j ≤ 15360 := by
  have a0 := wA_le (N := 6) (k := 0) (by decide) h
  have a1 := wA_le (N := 6) (k := 0 + 1) (by decide) a0
  have a2 := wA_le (N := 6) (k := 0 + 1 + 1) (by decide) a1
  have a3 := wA_le (N := 6) (k := 0 + 1 + 1 + 1) (by decide) a2
  have a4 := wA_le (N := 6) (k := 0 + 1 + 1 + 1 + 1) (by decide) a3
  have a5 := wA_le (N := 6) (k := 0 + 1 + 1 + 1 + 1 + 1) (by decide) a4
  intro i j
  have := a5.2 i j
  exact ⟨this.1, this.2⟩
