/-! the parser: pieces of a text by the tape alone -/
theorem seeS_c {D T : Tm} (h1 : D 16 = T 16) (h2 : D 17 = T 17) : seeS D = seeS T := by
  funext i
  unfold seeS
  rw [h1, h2]
theorem skN_c {D T : Tm} (h : seeS D = seeS T) : ∀ m p, skN D m p = skN T m p := by
  intro m
  induction m with
  | zero => intro p; rfl
  | succ m ih =>
    intro p
    simp only [skN, isBl, h, ih]
theorem spN_c {D T : Tm} (h : seeS D = seeS T) (lo hi : Int) : ∀ m p, spN D lo hi m p = spN T lo hi m p := by
  intro m
  induction m with
  | zero => intro p; rfl
  | succ m ih =>
    intro p
    simp only [spN, inR, h, ih]
theorem wcN_c {D T : Tm} (h : seeS D = seeS T) (f : Int) : ∀ m, wcN D f m = wcN T f m := by
  intro m
  induction m with
  | zero => rfl
  | succ m ih =>
    unfold wcN
    rw [h, ih]
theorem nmN_c {D T : Tm} (h : seeS D = seeS T) (f : Int) : ∀ m, nmN D f m = nmN T f m := by
  intro m
  induction m with
  | zero => rfl
  | succ m ih =>
    unfold nmN
    rw [h, ih]
theorem TK_c {U : Um} {D T : Tm} (h1 : D 16 = T 16) (h2 : D 17 = T 17) {f : Int} (h : TK U D f) : TK U T f := by
  have e := seeS_c h1 h2
  have ek : tkS D f = tkS T f := by simp only [tkS, inR, e]
  have es : ∀ a b, spS D a b f = spS T a b f := by intro a b; unfold spS; rw [h2, spN_c e]
  have et : teS D f = teS T f := by unfold teS; rw [ek, es, es]
  have e1 : twS D f = twS T f := by unfold twS; rw [ek, et, wcN_c e]
  have e2 : tnS D f = tnS T f := by unfold tnS; rw [ek, et, nmN_c e]
  have e3 : tsS D f = tsS T f := by unfold tsS; rw [ek, e]
  unfold TK at h ⊢
  rw [← ek, ← et, ← e1, ← e2, ← e3]
  exact h
theorem sk_c {D T : Tm} (h1 : D 16 = T 16) (h2 : D 17 = T 17) {p : Int} : skS D p = skS T p := by unfold skS; rw [h2, skN_c (seeS_c h1 h2)]
theorem It_c {D T : Tm} (h1 : D 16 = T 16) (h2 : D 17 = T 17) (h : It T) : It D := by
  unfold It
  rw [h1, h2]
  exact h
/-- the ends of pieces -/
theorem spN_b {T : Tm} {lo hi : Int} : ∀ m p, p ≤ spN T lo hi m p ∧ spN T lo hi m p ≤ p + m := by
  intro m
  induction m with
  | zero => intro p; show p ≤ p ∧ p ≤ p + 0; omega
  | succ m ih =>
    intro p
    unfold spN
    split
    · have := ih (p + 1); omega
    · omega
theorem te_b {T : Tm} (ht : It T) {f : Int} (f0 : 0 ≤ f) (f1 : f ≤ 1201) : f ≤ teS T f ∧ teS T f ≤ 1201 ∧ (tkS T f = 0 → teS T f = f) ∧ (tkS T f ≠ 0 → f < teS T f ∧ teS T f ≤ T 17 0) := by
  have hb := ht.1
  have hs := see_b ht f0
  have h0 : tkS T f ≠ 0 → f < T 17 0 := fun c => see_in ht f0 (fun q => c (if_pos q))
  unfold teS
  by_cases c0 : tkS T f = 0
  · rw [if_pos c0]
    exact ⟨by omega, by omega, fun _ => rfl, fun q => absurd c0 q⟩
  have h1 := h0 c0
  rw [if_neg c0]
  by_cases c1 : tkS T f = 1
  · rw [if_pos c1]
    have hr : inR T 97 122 f := by
      by_cases q : inR T 97 122 f
      · exact q
      · exfalso
        unfold tkS at c0 c1
        by_cases q0 : seeS T f = -1
        · exact c0 (if_pos q0)
        · rw [if_neg q0, if_neg q] at c1
          by_cases q2 : inR T 48 57 f
          · rw [if_pos q2] at c1; omega
          · rw [if_neg q2] at c1; omega
    have e := sp_s ht (lo := 97) (hi := 122) (by omega) f0 hr
    have b := spN_b (T := T) (lo := 97) (hi := 122) (T 17 0 - (f + 1)).toNat (f + 1)
    rw [e]
    unfold spS
    exact ⟨by omega, by omega, fun q => absurd q c0, fun _ => ⟨by omega, by omega⟩⟩
  rw [if_neg c1]
  by_cases c2 : tkS T f = 2
  · rw [if_pos c2]
    have hr : inR T 48 57 f := by
      by_cases q : inR T 48 57 f
      · exact q
      · exfalso
        unfold tkS at c0 c1 c2
        by_cases q0 : seeS T f = -1
        · exact c0 (if_pos q0)
        · rw [if_neg q0] at c2
          by_cases q1 : inR T 97 122 f
          · rw [if_pos q1] at c2; omega
          · rw [if_neg q1, if_neg q] at c2
            omega
    have e := sp_s ht (lo := 48) (hi := 57) (by omega) f0 hr
    have b := spN_b (T := T) (lo := 48) (hi := 57) (T 17 0 - (f + 1)).toNat (f + 1)
    rw [e]
    unfold spS
    exact ⟨by omega, by omega, fun q => absurd q c0, fun _ => ⟨by omega, by omega⟩⟩
  rw [if_neg c2]
  exact ⟨by omega, by omega, fun q => absurd q c0, fun _ => ⟨by omega, by omega⟩⟩
/-- a piece as a word, a number, a sign: -1 where it is none -/
def cdS (T : Tm) (f : Int) : Int := if tkS T f = 1 ∧ teS T f - f ≤ 6 then twS T f else -1
def nuS (T : Tm) (f : Int) : Int := if tkS T f = 2 ∧ teS T f - f ≤ 4 then tnS T f else -1
def sgS (T : Tm) (f : Int) : Int := if tkS T f = 3 then tsS T f else -1
def nx (T : Tm) (f : Int) : Int := skS T (teS T f)
/-- a word by its letters -/
def wlo : Nat → Int
  | 0 => 0
  | n + 1 => 27 * wlo n + 1
theorem wc_b {T : Tm} {f : Int} : ∀ n : Nat, n ≤ 6 → (∀ i : Nat, i < n → 97 ≤ seeS T (f + i) ∧ seeS T (f + i) ≤ 122) → wlo n ≤ wcN T f n ∧ wcN T f n ≤ 26 * wlo n := by
  intro n
  induction n with
  | zero => intro _ _; exact ⟨Int.le_refl 0, by show (0 : Int) ≤ 26 * 0; decide⟩
  | succ n ih =>
    intro hn h
    obtain ⟨a, b⟩ := ih (by omega) (fun i hi => h i (by omega))
    have c := h n (by omega)
    unfold wcN wlo
    rw [if_pos (by omega)]
    omega
theorem spN_in {T : Tm} {lo hi : Int} : ∀ (m : Nat) (p : Int) (i : Int), p ≤ i → i < spN T lo hi m p → inR T lo hi i := by
  intro m
  induction m with
  | zero => intro p i a b; exact absurd b (by show ¬ i < p; omega)
  | succ m ih =>
    intro p i a b
    unfold spN at b
    by_cases c : inR T lo hi p
    · rw [if_pos c] at b
      by_cases e : i = p
      · rw [e]; exact c
      · exact ih (p + 1) i (by omega) b
    · rw [if_neg c] at b
      omega
theorem tw_b {T : Tm} (ht : It T) {f : Int} (f0 : 0 ≤ f) (f1 : f ≤ 1201) (c : tkS T f = 1) (c2 : teS T f - f ≤ 6) : ∃ n : Nat, 1 ≤ n ∧ n ≤ 6 ∧ teS T f - f = n ∧ wlo n ≤ twS T f ∧ twS T f ≤ 26 * wlo n := by
  obtain ⟨a, b, _, d⟩ := te_b ht f0 f1
  have d := d (by omega)
  have e : teS T f = spN T 97 122 (T 17 0 - f).toNat f := by
    unfold teS spS
    rw [if_neg (by omega), if_pos c]
  refine ⟨(teS T f - f).toNat, by omega, by omega, by omega, ?_⟩
  unfold twS
  rw [if_pos c]
  refine wc_b _ (by omega) (fun i hi => ?_)
  exact spN_in _ f (f + i) (by omega) (by rw [← e]; omega)
theorem cd_b {T : Tm} (ht : It T) {f : Int} (f0 : 0 ≤ f) (f1 : f ≤ 1201) : cdS T f = -1 ∨ 0 < cdS T f ∧ cdS T f < 387420489 := by
  unfold cdS
  by_cases c : tkS T f = 1 ∧ teS T f - f ≤ 6
  · rw [if_pos c]
    obtain ⟨n, a, b, _, e, g⟩ := tw_b ht f0 f1 c.1 c.2
    have : n = 1 ∨ n = 2 ∨ n = 3 ∨ n = 4 ∨ n = 5 ∨ n = 6 := by omega
    rcases this with q | q | q | q | q | q <;> (subst q; simp [wlo] at e g; omega)
  · rw [if_neg c]
    exact Or.inl rfl
/-- is it that word: n letters, that code -/
theorem cd_w {T : Tm} (ht : It T) {f : Int} (f0 : 0 ≤ f) (f1 : f ≤ 1201) {n : Nat} {c : Int} (hn : 1 ≤ n ∧ n ≤ 6) (hc : wlo n ≤ c ∧ c ≤ 26 * wlo n) : (tkS T f = 1 ∧ teS T f - f = n ∧ twS T f = c) ↔ cdS T f = c := by
  unfold cdS
  have c0 : (0 : Int) < c := by
    have : ∀ k : Nat, 1 ≤ k → 0 < wlo k := by
      intro k
      induction k with
      | zero => intro q; omega
      | succ k ih =>
        intro _
        unfold wlo
        by_cases q : k = 0
        · subst q; decide
        · have := ih (by omega); omega
    have := this n hn.1
    omega
  constructor
  · intro ⟨a, b, d⟩
    rw [if_pos ⟨a, by omega⟩]
    exact d
  · intro h
    by_cases q : tkS T f = 1 ∧ teS T f - f ≤ 6
    · rw [if_pos q] at h
      refine ⟨q.1, ?_, h⟩
      obtain ⟨m, a, b, d, e, g⟩ := tw_b ht f0 f1 q.1 q.2
      rw [h] at e g
      have w1 : wlo 1 = 1 := by decide
      have w2 : wlo 2 = 28 := by decide
      have w3 : wlo 3 = 757 := by decide
      have w4 : wlo 4 = 20440 := by decide
      have w5 : wlo 5 = 551881 := by decide
      have w6 : wlo 6 = 14900788 := by decide
      have e1 : n = 1 ∨ n = 2 ∨ n = 3 ∨ n = 4 ∨ n = 5 ∨ n = 6 := by omega
      have e2 : m = 1 ∨ m = 2 ∨ m = 3 ∨ m = 4 ∨ m = 5 ∨ m = 6 := by omega
      rcases e1 with q | q | q | q | q | q <;> (subst q; rcases e2 with q | q | q | q | q | q <;> (subst q; omega))
    · rw [if_neg q] at h
      omega
/-! the draft -/
def dLA : List (Nat × Int) := [(2, 72), (6, 20), (7, 20), (8, 20), (9, 20), (10, 256), (11, 14), (12, 2600), (13, 2600)]
def dLJ : List (Nat × Int) := [(1, 12), (4, 16), (5, 20)]
def dLS : List Nat := [15]
def dLF : List (Nat × Int) := []
def MD (U : Um) (T : Tm) : Prop := (∀ q ∈ dLA, mA U T q.1 q.2) ∧ (∀ q ∈ dLJ, mJ U T q.1 q.2) ∧ (∀ q ∈ dLF, mF U T q.1 q.2) ∧ ∀ k ∈ dLS, uI U 55 k = jI (T k 0)
theorem MD_A {U : Um} {T : Tm} (h : MD U T) (k : Nat) (n : Int) (hk : (k, n) ∈ dLA := by decide) : mA U T k n := h.1 (k, n) hk
theorem MD_J {U : Um} {T : Tm} (h : MD U T) (k : Nat) (n : Int) (hk : (k, n) ∈ dLJ := by decide) : mJ U T k n := h.2.1 (k, n) hk
theorem MD_S {U : Um} {T : Tm} (h : MD U T) (k : Nat) (hk : k ∈ dLS := by decide) : uI U 55 k = jI (T k 0) := h.2.2.2 k hk
theorem MD_sA {U : Um} {T : Tm} (h : MD U T) {k : Nat} {E V : Int32} (e v : Int) (he : E = jI e) (hv : V = jI v) (h0 : 0 ≤ e) (h1 : e < 3000) (hJ : ∀ q ∈ dLJ, q.1 ≠ k := by decide) (hF : ∀ q ∈ dLF, q.1 ≠ k := by decide) (hS : ∀ s ∈ dLS, s ≠ k := by decide) : MD (sA U 55 k (va_up (uA U 55 k) (Int32.toNatClampNeg E) V)) (up T k e v) := by
  refine ⟨fun q hq i i0 i1 => ?_, fun q hq i i0 i1 => ?_, fun q hq i i0 i1 => ?_, fun s hs => ?_⟩
  · rw [uA_sA]
    by_cases c : q.1 = k
    · rw [if_pos ⟨rfl, c⟩, he, jI_nat h0 (by omega)]
      unfold va_up up
      by_cases c2 : i = e
      · rw [if_pos (by rw [c2]), if_pos ⟨c, c2⟩, hv]
      · rw [if_neg (by omega), if_neg (fun z => c2 z.2), ← c]
        exact h.1 q hq i i0 i1
    · rw [if_neg (fun z => c z.2), up_nf c]
      exact h.1 q hq i i0 i1
  · rw [up_nf (hJ q hq)]
    exact h.2.1 q hq i i0 i1
  · rw [up_nf (hF q hq)]
    exact h.2.2.1 q hq i i0 i1
  · rw [up_nf (hS s hs)]
    exact h.2.2.2 s hs
theorem MD_sJ {U : Um} {T : Tm} (h : MD U T) {k : Nat} {E : Int32} {V : Int64} (e v : Int) (he : E = jI e) (hv : V = jL v) (h0 : 0 ≤ e) (h1 : e < 3000) (hA : ∀ q ∈ dLA, q.1 ≠ k := by decide) (hF : ∀ q ∈ dLF, q.1 ≠ k := by decide) (hS : ∀ s ∈ dLS, s ≠ k := by decide) : MD (sJ U 55 k (va_up (uJ U 55 k) (Int32.toNatClampNeg E) V)) (up T k e v) := by
  refine ⟨fun q hq i i0 i1 => ?_, fun q hq i i0 i1 => ?_, fun q hq i i0 i1 => ?_, fun s hs => ?_⟩
  · rw [up_nf (hA q hq)]
    exact h.1 q hq i i0 i1
  · rw [uJ_sJ]
    by_cases c : q.1 = k
    · rw [if_pos ⟨rfl, c⟩, he, jI_nat h0 (by omega)]
      unfold va_up up
      by_cases c2 : i = e
      · rw [if_pos (by rw [c2]), if_pos ⟨c, c2⟩, hv]
      · rw [if_neg (by omega), if_neg (fun z => c2 z.2), ← c]
        exact h.2.1 q hq i i0 i1
    · rw [if_neg (fun z => c z.2), up_nf c]
      exact h.2.1 q hq i i0 i1
  · rw [up_nf (hF q hq)]
    exact h.2.2.1 q hq i i0 i1
  · rw [up_nf (hS s hs)]
    exact h.2.2.2 s hs
theorem MD_sI {U : Um} {T : Tm} (h : MD U T) {k : Nat} {V : Int32} (v : Int) (hv : V = jI v) (hA : ∀ q ∈ dLA, q.1 ≠ k := by decide) (hJ : ∀ q ∈ dLJ, q.1 ≠ k := by decide) (hF : ∀ q ∈ dLF, q.1 ≠ k := by decide) : MD (sI U 55 k V) (up T k 0 v) := by
  refine ⟨fun q hq i i0 i1 => ?_, fun q hq i i0 i1 => ?_, fun q hq i i0 i1 => ?_, fun s hs => ?_⟩
  · rw [up_nf (hA q hq)]
    exact h.1 q hq i i0 i1
  · rw [up_nf (hJ q hq)]
    exact h.2.1 q hq i i0 i1
  · rw [up_nf (hF q hq)]
    exact h.2.2.1 q hq i i0 i1
  · rw [uI_sI]
    by_cases c : s = k
    · rw [if_pos ⟨rfl, c⟩, c, up_eq, hv]
    · rw [if_neg (fun z => c z.2), up_nf c]
      exact h.2.2.2 s hs
theorem MD_xA {U : Um} {T : Tm} (h : MD U T) {k : Nat} {f : Nat → Int32} (hA : ∀ q ∈ dLA, q.1 ≠ k := by decide) : MD (sA U 55 k f) T := ⟨fun q hq i i0 i1 => by rw [uA_sA, if_neg (fun z => hA q hq z.2)]; exact h.1 q hq i i0 i1, h.2.1, h.2.2.1, h.2.2.2⟩
theorem MD_xJ {U : Um} {T : Tm} (h : MD U T) {k : Nat} {f : Nat → Int64} (hJ : ∀ q ∈ dLJ, q.1 ≠ k := by decide) : MD (sJ U 55 k f) T := ⟨h.1, fun q hq i i0 i1 => by rw [uJ_sJ, if_neg (fun z => hJ q hq z.2)]; exact h.2.1 q hq i i0 i1, h.2.2.1, h.2.2.2⟩
theorem MD_xI {U : Um} {T : Tm} (h : MD U T) {k : Nat} {f : Int32} (hS : ∀ s ∈ dLS, s ≠ k := by decide) : MD (sI U 55 k f) T := ⟨h.1, h.2.1, h.2.2.1, fun s hs => by rw [uI_sI, if_neg (fun z => hS s hs z.2)]; exact h.2.2.2 s hs⟩
theorem MD_xL {U : Um} {T : Tm} (h : MD U T) {k : Nat} {f : Int64} : MD (sL U 55 k f) T := h
