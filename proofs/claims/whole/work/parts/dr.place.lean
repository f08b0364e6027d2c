/-! the first memory: the places of what the two constructors make -/
def tbP : List (Nat × Nat) := [(0, 0), (1, 0), (1, 1), (2, 0), (4, 0), (4, 1), (4, 101), (4, 201), (4, 301), (4, 2), (4, 3), (4, 4), (4, 5), (4, 6), (4, 7), (10, 0), (11, 0), (12, 0), (13, 0), (14, 0), (15, 0), (16, 0), (17, 0), (18, 0), (19, 0), (20, 0), (21, 0), (22, 0), (23, 0), (24, 0), (25, 0), (6, 0), (6, 2), (6, 102), (6, 202), (6, 302), (6, 402), (6, 502), (6, 602), (6, 3), (6, 103), (6, 203), (6, 303), (6, 403), (6, 503), (6, 603), (8, 0), (8, 1), (8, 3), (8, 4), (4, 13), (4, 14), (4, 15), (5, 0), (5, 1), (5, 101), (5, 201), (5, 301), (5, 2), (5, 3), (5, 4), (5, 5), (5, 6), (5, 7), (26, 0), (27, 0), (28, 0), (29, 0), (30, 0), (31, 0), (32, 0), (33, 0), (34, 0), (35, 0), (36, 0), (37, 0), (38, 0), (39, 0), (40, 0), (41, 0), (7, 0), (7, 2), (7, 102), (7, 202), (7, 302), (7, 402), (7, 502), (7, 602), (7, 3), (7, 103), (7, 203), (7, 303), (7, 403), (7, 503), (7, 603), (9, 0), (9, 1), (9, 3), (9, 4), (5, 13), (5, 14), (5, 15), (42, 0), (42, 3), (42, 4), (42, 5), (42, 6), (42, 7), (42, 8), (42, 9), (42, 10), (43, 0), (43, 3), (43, 4), (43, 5), (43, 6), (43, 7), (43, 8), (43, 9), (43, 10), (3, 0), (3, 2), (3, 3), (3, 4), (3, 7), (0, 8), (44, 0), (44, 3), (44, 4), (44, 5), (44, 6), (44, 7), (44, 8), (44, 9), (44, 10), (45, 0), (45, 3), (45, 4), (45, 5), (45, 6), (45, 7), (45, 8), (45, 9), (45, 10), (46, 0), (46, 3), (46, 4), (46, 5), (46, 6), (46, 7), (46, 8), (46, 9), (46, 10), (47, 0), (47, 3), (47, 4), (47, 5), (47, 6), (47, 7), (47, 8), (47, 9), (47, 10), (48, 0), (48, 3), (48, 4), (48, 5), (48, 6), (48, 7), (48, 8), (48, 9), (48, 10), (49, 0), (49, 3), (49, 4), (49, 5), (49, 6), (49, 7), (49, 8), (49, 9), (49, 10), (50, 0), (50, 3), (50, 4), (50, 5), (50, 6), (50, 7), (50, 8), (50, 9), (50, 10), (51, 0), (51, 3), (51, 4), (51, 5), (51, 6), (51, 7), (51, 8), (51, 9), (51, 10), (0, 11), (52, 0), (52, 1), (53, 0), (53, 1), (54, 0), (54, 1), (55, 0), (55, 2), (55, 3), (55, 4), (55, 5), (55, 6), (55, 7), (55, 8), (55, 9), (55, 10), (55, 11), (55, 12), (55, 13), (55, 14), (55, 17), (55, 31), (55, 32), (55, 33), (55, 34), (55, 35), (55, 37), (55, 38), (55, 40), (55, 41), (55, 42), (55, 43), (55, 47), (55, 48), (55, 49), (55, 50), (55, 51), (55, 52), (55, 53), (55, 54)]
def fI (o k : Nat) : List (Nat × Nat) → Nat → Option Nat
  | [], _ => none
  | q :: t, n => if q.1 = o ∧ q.2 = k then some n else fI o k t (n + 1)
theorem fI_some {o k : Nat} : ∀ (l : List (Nat × Nat)) (n P : Nat), fI o k l n = some P → n ≤ P ∧ l[P - n]? = some (o, k)
  | [], n, P, h => by simp [fI] at h
  | q :: t, n, P, h => by
    rw [fI] at h
    by_cases c : q.1 = o ∧ q.2 = k
    · rw [if_pos c] at h
      cases h
      refine ⟨Nat.le_refl _, ?_⟩
      rw [Nat.sub_self, ← c.1, ← c.2]
      rfl
    · rw [if_neg c] at h
      obtain ⟨h1, h2⟩ := fI_some t (n + 1) P h
      refine ⟨by omega, ?_⟩
      rw [show P - n = (P - (n + 1)) + 1 by omega]
      exact h2
def pl0 (o k : Nat) : Nat := match fI o k tbP 0 with
  | some P => P
  | none => 240 + ((o + k) * (o + k) + o)
theorem tb_len : tbP.length = 239 := by decide +kernel
theorem pl0_some {o k P : Nat} (h : fI o k tbP 0 = some P) : pl0 o k = P ∧ tbP[P]? = some (o, k) ∧ P < 239 := by
  have q := (fI_some tbP 0 P h).2
  refine ⟨by unfold pl0; rw [h], q, ?_⟩
  rw [← tb_len]
  exact (List.getElem?_eq_some_iff.mp q).1
theorem pl0_none {o k : Nat} (h : fI o k tbP 0 = none) : pl0 o k = 240 + ((o + k) * (o + k) + o) := by
  unfold pl0
  rw [h]
theorem sq_inj {s t o p : Nat} (ho : o ≤ s) (hp : p ≤ t) (h : s * s + o = t * t + p) : s = t ∧ o = p := by
  have key : ∀ a c : Nat, a < c → a * a + a + a + 1 ≤ c * c := by
    intro a c hac
    have h1 : (a + 1) * (a + 1) ≤ c * c := Nat.mul_le_mul hac hac
    rw [Nat.add_mul, Nat.mul_add, Nat.mul_one, Nat.one_mul] at h1
    omega
  rcases Nat.lt_trichotomy s t with q | q | q
  · have := key s t q
    omega
  · subst q
    exact ⟨rfl, by omega⟩
  · have := key t s q
    omega
theorem pl0_inj {o k o2 k2 : Nat} (h : pl0 o k = pl0 o2 k2) : o = o2 ∧ k = k2 := by
  cases e1 : fI o k tbP 0 with
  | some P =>
    obtain ⟨a1, a2, a3⟩ := pl0_some e1
    cases e2 : fI o2 k2 tbP 0 with
    | some P2 =>
      obtain ⟨b1, b2, b3⟩ := pl0_some e2
      rw [a1, b1] at h
      subst h
      have := a2.symm.trans b2
      cases this
      exact ⟨rfl, rfl⟩
    | none =>
      have := pl0_none e2
      omega
  | none =>
    have a1 := pl0_none e1
    cases e2 : fI o2 k2 tbP 0 with
    | some P2 =>
      obtain ⟨b1, b2, b3⟩ := pl0_some e2
      omega
    | none =>
      have b1 := pl0_none e2
      rw [a1, b1] at h
      obtain ⟨q1, q2⟩ := sq_inj (s := o + k) (t := o2 + k2) (o := o) (p := o2) (by omega) (by omega) (by omega)
      omega
def Y0 (G : px_D) (b : Nat) : px_Y := (G, fun o => b + pl0 o 0, fun o k => b + pl0 o (k + 1))
theorem Y0_A {G : px_D} {b : Nat} : yA (Y0 G b) := by
  have inj : ∀ p q : Nat × Nat, b + pl0 p.1 p.2 = b + pl0 q.1 q.2 → p = q := fun p q h => by
    obtain ⟨h1, h2⟩ := pl0_inj (show pl0 p.1 p.2 = pl0 q.1 q.2 by omega)
    exact Prod.ext h1 h2
  have h0 : ∀ a : Nat, ∃ p : Nat × Nat, (∃ q : Nat × Nat, b + pl0 q.1 q.2 = a) → b + pl0 p.1 p.2 = a := fun a => by
    by_cases h : ∃ q : Nat × Nat, b + pl0 q.1 q.2 = a
    · obtain ⟨q, hq⟩ := h
      exact ⟨q, fun _ => hq⟩
    · exact ⟨(0, 0), fun q => absurd q h⟩
  obtain ⟨id, hid⟩ := Classical.axiomOfChoice h0
  exact ⟨id, fun o => inj _ (o, 0) (hid _ ⟨(o, 0), rfl⟩), fun o k => inj _ (o, k + 1) (hid _ ⟨(o, k + 1), rfl⟩)⟩
def eR (Y : px_Y) (U : Um) (o k : Nat) : va_E := if k < 100 then (if kf (oc o) k = 1 then pa_i Y.1 (ln (oc o) k) (uA U o k) else if kf (oc o) k = 2 then pa_l Y.1 (ln (oc o) k) (uJ U o k) else if kf (oc o) k = 3 then pa_f Y.1 (ln (oc o) k) (uF U o k) else if kf (oc o) k = 4 then pa_b Y.1 (ln (oc o) k) (uA U o k) else if kf (oc o) k = 5 then pa_z Y.1 (ln (oc o) k) (uA U o k) else if kf (oc o) k = 6 then pa_r Y.1 5 (ln (oc o) k) (fun i => some (Y.2.2 o (ki k i))) else pa_r Y.1 (rt (oc o) k) (ln (oc o) k) (fun i => some (Y.2.1 (uAR U o k i)))) else pa_i Y.1 (ln2 (oc o) (k % 100)) (uA U o k)
def eU (Y : px_Y) (U : Um) (o k' : Nat) : va_E := match k' with
  | 0 => po (oc o) (on (oc o)) (oF Y U o)
  | k + 1 => eR Y U o k
def hZ (Y : px_Y) (b : Nat) (U : Um) : pe_H := fun a => if a < b then none else if a = b + 239 then some (pa_l Y.1 1 (fun _ => 0)) else (tbP[a - b]?).map (fun q => eU Y U q.1 q.2)
theorem hZ_at {Y : px_Y} {b : Nat} {U : Um} {o k : Nat} (h : (fI o k tbP 0).isSome = true) : hZ Y b U (b + pl0 o k) = some (eU Y U o k) := by
  obtain ⟨P, hP⟩ := Option.isSome_iff_exists.mp h
  obtain ⟨a1, a2, a3⟩ := pl0_some hP
  unfold hZ
  rw [a1, if_neg (by omega), if_neg (by omega), Nat.add_sub_cancel_left, a2]
  rfl
theorem tb_o : ∀ o, o < 56 → (fI o 0 tbP 0).isSome = true := by decide +kernel
theorem tb_k : ∀ o, o < 56 → ∀ k, k < 100 → (kf (oc o) k = 1 ∨ kf (oc o) k = 2 ∨ kf (oc o) k = 3 ∨ kf (oc o) k = 4 ∨ kf (oc o) k = 5 ∨ kf (oc o) k = 6 ∨ kf (oc o) k = 8) → (fI o (k + 1) tbP 0).isSome = true := by decide +kernel
theorem tb_i : ∀ o, o < 56 → ∀ k, k < 100 → kf (oc o) k = 6 → ∀ i, i < ln (oc o) k → (fI o (ki k i + 1) tbP 0).isSome = true := by decide +kernel
theorem tb_r : ∀ P, P < 239 → fI (tbP.getD P (0, 0)).1 (tbP.getD P (0, 0)).2 tbP 0 = some P := by decide +kernel
theorem oc_big {o : Nat} (h : 56 ≤ o) : oc o = 99 := by
  unfold oc
  rw [if_neg (by omega), if_neg (by omega), if_neg (by omega), if_neg (by omega), if_neg (by omega), if_neg (by omega), if_neg (by omega), if_neg (by omega), if_neg (by omega), if_neg (by omega), if_neg (by omega)]
theorem oc_lt {o : Nat} (h : oc o < 11) : o < 56 := by
  rcases Nat.lt_or_ge o 56 with q | q
  · exact q
  · rw [oc_big q] at h
    omega
theorem kf_99 {k : Nat} : kf 99 k = 0 := rfl
theorem kf_o {o k : Nat} (h : kf (oc o) k ≠ 0) : o < 56 := by
  rcases Nat.lt_or_ge o 56 with q | q
  · exact q
  · rw [oc_big q] at h
    exact absurd kf_99 h
theorem dU0 {G : px_D} {b a : Nat} (ha : ¬ dU (Y0 G b) a) (hb : b ≤ a) : tbP[a - b]? = none := by
  cases e : tbP[a - b]? with
  | none => rfl
  | some q =>
    have hl : a - b < 239 := by
      rw [← tb_len]
      exact (List.getElem?_eq_some_iff.mp e).1
    have h1 := tb_r (a - b) hl
    rw [List.getD_eq_getElem?_getD, e] at h1
    have h2 := (pl0_some h1).1
    have h3 : a = b + pl0 q.1 q.2 := by
      show a = b + pl0 ((some q).getD (0, 0)).1 ((some q).getD (0, 0)).2
      omega
    obtain ⟨o, k⟩ := q
    match k with
    | 0 => exact absurd (Or.inl ⟨o, h3⟩) ha
    | k + 1 => exact absurd (Or.inr ⟨o, k, h3⟩) ha
theorem dU_out {G : px_D} {b : Nat} : ¬ dU (Y0 G b) (b + 239) := by
  have key : ∀ o k, pl0 o k ≠ 239 := fun o k h => by
    cases e1 : fI o k tbP 0 with
    | some P =>
      obtain ⟨a1, a2, a3⟩ := pl0_some e1
      omega
    | none =>
      have := pl0_none e1
      omega
  rintro (⟨o, h⟩ | ⟨o, k, h⟩)
  · exact key o 0 (show pl0 o 0 = 239 from (by have h : b + 239 = b + pl0 o 0 := h; omega))
  · exact key o (k + 1) (show pl0 o (k + 1) = 239 from (by have h : b + 239 = b + pl0 o (k + 1) := h; omega))
theorem rF_0 {G : px_D} {b : Nat} {U : Um} : rF (Y0 G b) (lO (Y0 G b) (b + 239) (fun _ => 0)) U (hZ (Y0 G b) b U) := by
  refine ⟨Y0_A, ⟨fun o ho => hZ_at (tb_o o (oc_lt ho)), fun o k hk => ?_, fun o k hk => ?_, fun o k hk => ?_, fun o k hk => ?_, fun o k hk => ?_, fun o k hk => ?_, fun o k i hk hi => ?_, fun o k hk => ?_⟩, fun a ha => ?_⟩
  · have l := kf_lt (show kf (oc o) k ≠ 0 by omega)
    refine (hZ_at (tb_k o (kf_o (show kf (oc o) k ≠ 0 by omega)) k l (by omega))).trans ?_
    show some (eR (Y0 G b) U o _) = _
    unfold eR
    rw [if_pos l, if_pos hk]
  · have l := kf_lt (show kf (oc o) k ≠ 0 by omega)
    refine (hZ_at (tb_k o (kf_o (show kf (oc o) k ≠ 0 by omega)) k l (by omega))).trans ?_
    show some (eR (Y0 G b) U o _) = _
    unfold eR
    rw [if_pos l, if_neg (by omega), if_pos hk]
  · have l := kf_lt (show kf (oc o) k ≠ 0 by omega)
    refine (hZ_at (tb_k o (kf_o (show kf (oc o) k ≠ 0 by omega)) k l (by omega))).trans ?_
    show some (eR (Y0 G b) U o _) = _
    unfold eR
    rw [if_pos l, if_neg (by omega), if_neg (by omega), if_pos hk]
  · have l := kf_lt (show kf (oc o) k ≠ 0 by omega)
    refine (hZ_at (tb_k o (kf_o (show kf (oc o) k ≠ 0 by omega)) k l (by omega))).trans ?_
    show some (eR (Y0 G b) U o _) = _
    unfold eR
    rw [if_pos l, if_neg (by omega), if_neg (by omega), if_neg (by omega), if_pos hk]
  · have l := kf_lt (show kf (oc o) k ≠ 0 by omega)
    refine (hZ_at (tb_k o (kf_o (show kf (oc o) k ≠ 0 by omega)) k l (by omega))).trans ?_
    show some (eR (Y0 G b) U o _) = _
    unfold eR
    rw [if_pos l, if_neg (by omega), if_neg (by omega), if_neg (by omega), if_neg (by omega), if_pos hk]
  · have l := kf_lt (show kf (oc o) k ≠ 0 by omega)
    refine (hZ_at (tb_k o (kf_o (show kf (oc o) k ≠ 0 by omega)) k l (by omega))).trans ?_
    show some (eR (Y0 G b) U o _) = _
    unfold eR
    rw [if_pos l, if_neg (by omega), if_neg (by omega), if_neg (by omega), if_neg (by omega), if_neg (by omega), if_pos hk]
  · have l := kf_lt (show kf (oc o) k ≠ 0 by omega)
    refine (hZ_at (tb_i o (kf_o (show kf (oc o) k ≠ 0 by omega)) k l hk i hi)).trans ?_
    show some (eR (Y0 G b) U o _) = _
    unfold eR
    rw [if_neg (by unfold ki; omega), show ki k i % 100 = k by unfold ki; omega]
  · have l := kf_lt (show kf (oc o) k ≠ 0 by omega)
    refine (hZ_at (tb_k o (kf_o (show kf (oc o) k ≠ 0 by omega)) k l (by omega))).trans ?_
    show some (eR (Y0 G b) U o _) = _
    unfold eR
    rw [if_pos l, if_neg (by omega), if_neg (by omega), if_neg (by omega), if_neg (by omega), if_neg (by omega), if_neg (by omega)]
  · unfold hZ lO
    by_cases c1 : a < b
    · rw [if_pos c1, if_neg (by omega)]
    · rw [if_neg c1]
      by_cases c2 : a = b + 239
      · rw [if_pos c2, if_pos c2]
      · rw [if_neg c2, if_neg c2, dU0 ha (by omega)]
        rfl
