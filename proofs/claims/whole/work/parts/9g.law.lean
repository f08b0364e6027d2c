/-! the law of the fee as it is read -/
def putD (D : Tm) (s v : Int) : Tm := up (up (up D 13 (1300 + D 15 0) s) 12 (1300 + D 15 0) v) 15 0 (D 15 0 + 1)
def whS (T : Tm) (f : Int) : Int := if cdS T f = ownL.getD 11 0 then 0 else if cdS T f = ownL.getD 16 0 then 1 else if cdS T f = ownL.getD 17 0 then 2 else if cdS T f = ownL.getD 18 0 then 3 else if cdS T f = ownL.getD 19 0 then 4 else if cdS T f = ownL.getD 20 0 then 5 else if cdS T f = ownL.getD 21 0 then 6 else if cdS T f = ownL.getD 22 0 then 7 else -1
def sgE (T : Tm) (f s : Int) : Int := if sgS T f = s then 0 else 1
def atomR (T : Tm) (sub : Tm → Int → PR) (D : Tm) (f : Int) : PR :=
  if nuS T f ≠ -1 then .ok (putD D 0 (nuS T f), nx T f) else if whS T f ≠ -1 then .ok (putD D 1 (whS T f), nx T f) else ck (sgE T f 40) f (sub D f)
def chR (T : Tm) (item : Tm → Int → PR) (o1 o2 : Int) : Nat → Tm → Int → PR
  | 0, D, f => .ok (D, f)
  | m + 1, D, f => if sgS T f = o1 ∨ sgS T f = o2 then
      match item D (nx T f) with
        | .error e => .error e
        | .ok p => chR T item o1 o2 m (putD p.1 (sgS T f) 0) p.2
    else .ok (D, f)
def seqR (T : Tm) (item : Tm → Int → PR) (o1 o2 : Int) (D : Tm) (f : Int) : PR := match item D f with
  | .error e => .error e
  | .ok p => chR T item o1 o2 1300 p.1 p.2
def subR (T : Tm) (sum : Tm → Int → PR) (D : Tm) (f : Int) : PR := match sum D (nx T f) with
  | .error e => .error e
  | .ok p => ck (sgE T p.2 41) p.2 (.ok (p.1, nx T p.2))
def sumR (T : Tm) : Nat → Tm → Int → PR
  | 0 => seqR T (seqR T (atomR T (fun _ f => .error (5, f))) 42 47) 43 45
  | d + 1 => seqR T (seqR T (atomR T (subR T (sumR T d))) 42 47) 43 45
def feeR (T D : Tm) (f : Int) : PR := ck (if D 11 13 = 1 then 4 else 0) f (sumR T 4 (up D 11 13 1) (nx T f))
theorem se_0 {T : Tm} {f s : Int} (h : sgS T f = s) : sgE T f s = 0 := if_pos h
theorem se_1 {T : Tm} {f s : Int} (h : sgS T f ≠ s) : sgE T f s = 1 := if_neg h
/-- how many wait -/
def dd (D : Tm) : Nat → Int
  | 0 => 0
  | n + 1 => if D 13 (1300 + n) ≤ 1 then dd D n + 1 else dd D n - 1
def stp (D : Tm) (k : Nat) : Prop := (D 13 (1300 + k) = 0 ∧ (0 ≤ D 12 (1300 + k) ∧ D 12 (1300 + k) ≤ 9999) ∧ dd D k ≤ 15) ∨ (D 13 (1300 + k) = 1 ∧ (0 ≤ D 12 (1300 + k) ∧ D 12 (1300 + k) ≤ 7) ∧ dd D k ≤ 15) ∨ ((D 13 (1300 + k) = 43 ∨ D 13 (1300 + k) = 45 ∨ D 13 (1300 + k) = 42 ∨ D 13 (1300 + k) = 47) ∧ 2 ≤ dd D k)
def LI (D : Tm) : Prop := 0 ≤ D 15 0 ∧ ∀ k : Nat, (k : Int) < D 15 0 → stp D k
def LR (D : Tm) (f : Int) (p : Tm × Int) : Prop := LI p.1 ∧ dd p.1 (p.1 15 0).toNat = dd D (D 15 0).toNat + 1 ∧ D 15 0 < p.1 15 0 ∧ p.1 15 0 - D 15 0 ≤ p.2 - f ∧ p.2 ≤ 1201 ∧ ∀ k, k ≠ 12 → k ≠ 13 → k ≠ 15 → p.1 k = D k
theorem pt_13 {D : Tm} {s v i : Int} : putD D s v 13 i = if i = 1300 + D 15 0 then s else D 13 i := by
  unfold putD
  rw [up_nf (by decide), up_nf (by decide), up_at]
theorem pt_12 {D : Tm} {s v i : Int} : putD D s v 12 i = if i = 1300 + D 15 0 then v else D 12 i := by
  unfold putD
  rw [up_nf (by decide), up_at, up_nf (by decide)]
theorem pt_15 {D : Tm} {s v : Int} : putD D s v 15 0 = D 15 0 + 1 := by
  unfold putD
  rw [up_eq]
theorem pt_k {D : Tm} {s v : Int} {k : Nat} (h2 : k ≠ 12) (h3 : k ≠ 13) (h5 : k ≠ 15) : putD D s v k = D k := by
  unfold putD
  rw [up_f h5, up_f h2, up_f h3]
theorem pt_dd {D : Tm} {s v : Int} (h0 : 0 ≤ D 15 0) : ∀ n : Nat, (n : Int) ≤ D 15 0 → dd (putD D s v) n = dd D n := by
  intro n
  induction n with
  | zero => intro _; rfl
  | succ n ih =>
    intro h
    have e : putD D s v 13 (1300 + (n : Int)) = D 13 (1300 + (n : Int)) := by rw [pt_13, if_neg (by omega)]
    unfold dd
    rw [e, ih (by omega)]
theorem pt_LI {D : Tm} {s v : Int} (h : LI D) (hs : (s = 0 ∧ (0 ≤ v ∧ v ≤ 9999) ∧ dd D (D 15 0).toNat ≤ 15) ∨ (s = 1 ∧ (0 ≤ v ∧ v ≤ 7) ∧ dd D (D 15 0).toNat ≤ 15) ∨ ((s = 43 ∨ s = 45 ∨ s = 42 ∨ s = 47) ∧ 2 ≤ dd D (D 15 0).toNat)) : LI (putD D s v) ∧ dd (putD D s v) (putD D s v 15 0).toNat = (if s ≤ 1 then dd D (D 15 0).toNat + 1 else dd D (D 15 0).toNat - 1) := by
  obtain ⟨h0, h1⟩ := h
  have en : (((D 15 0).toNat : Nat) : Int) = D 15 0 := Int.toNat_of_nonneg h0
  refine ⟨⟨by rw [pt_15]; omega, fun k hk => ?_⟩, ?_⟩
  · rw [pt_15] at hk
    unfold stp
    rw [pt_13, pt_12, pt_dd h0 k (by omega)]
    by_cases c : (k : Int) = D 15 0
    · have ek : k = (D 15 0).toNat := by omega
      rw [if_pos (by omega), if_pos (by omega), ek]
      exact hs
    · rw [if_neg (by omega), if_neg (by omega)]
      exact h1 k (by omega)
  · rw [pt_15, show (D 15 0 + 1).toNat = (D 15 0).toNat + 1 by omega]
    show (if putD D s v 13 (1300 + (((D 15 0).toNat : Nat) : Int)) ≤ 1 then dd (putD D s v) (D 15 0).toNat + 1 else dd (putD D s v) (D 15 0).toNat - 1) = _
    have e : putD D s v 13 (1300 + (((D 15 0).toNat : Nat) : Int)) = s := by rw [pt_13, if_pos (by omega)]
    rw [e, pt_dd h0 _ (by omega)]
/-- a piece that keeps the law in order -/
def itOk (T : Tm) (item : Tm → Int → PR) (b : Int) : Prop := ∀ (D : Tm) (f : Int) (p : Tm × Int), 0 ≤ f → f ≤ 1201 → LI D → dd D (D 15 0).toNat ≤ b → item D f = .ok p → LR D f p
theorem wh_b {T : Tm} {f : Int} : -1 ≤ whS T f ∧ whS T f ≤ 7 := by
  unfold whS
  repeat' split
  all_goals omega
theorem nu_t {T : Tm} {f : Int} (h : nuS T f ≠ -1) : tkS T f = 2 := by
  unfold nuS at h
  by_cases c : tkS T f = 2 ∧ teS T f - f ≤ 4
  · exact c.1
  · rw [if_neg c] at h; exact absurd rfl h
theorem wh_t {T : Tm} {f : Int} (h : whS T f ≠ -1) : tkS T f = 1 := by
  unfold whS at h
  by_cases c : cdS T f = -1
  · rw [c] at h
    exact absurd rfl h
  · unfold cdS at c
    by_cases q : tkS T f = 1 ∧ teS T f - f ≤ 6
    · exact q.1
    · rw [if_neg q] at c; exact absurd rfl c
theorem sg_t {T : Tm} {f s : Int} (h : sgS T f = s) (hs : 0 ≤ s) : tkS T f = 3 := by
  unfold sgS at h
  by_cases c : tkS T f = 3
  · exact c
  · rw [if_neg c] at h; omega
theorem atom_ok {T : Tm} (ht : It T) {sub : Tm → Int → PR} {b : Int} (hb : b ≤ 15) (hs : ∀ (D : Tm) (f : Int) (p : Tm × Int), 0 ≤ f → f ≤ 1201 → tkS T f ≠ 0 → LI D → dd D (D 15 0).toNat ≤ b → sub D f = .ok p → LR D f p) : itOk T (atomR T sub) b := by
  intro D f p f0 f1 hL hd h
  have nb := nx_b ht f0 f1
  have nu := nu_b ht f0 f1
  have wb := wh_b (T := T) (f := f)
  unfold atomR at h
  by_cases c : nuS T f ≠ -1
  · rw [if_pos c] at h
    have nc := nb.2.2 (by rw [nu_t c]; decide)
    injection h with h
    subst h
    obtain ⟨a, e⟩ := pt_LI (s := 0) (v := nuS T f) hL (Or.inl ⟨rfl, by omega, by omega⟩)
    rw [if_pos (by decide)] at e
    exact ⟨a, e, by show D 15 0 < putD D 0 (nuS T f) 15 0; rw [pt_15]; omega, by show putD D 0 (nuS T f) 15 0 - D 15 0 ≤ nx T f - f; rw [pt_15]; show D 15 0 + 1 - D 15 0 ≤ nx T f - f; omega, nb.2.1, fun k a b c => pt_k a b c⟩
  rw [if_neg c] at h
  by_cases c2 : whS T f ≠ -1
  · rw [if_pos c2] at h
    have nc := nb.2.2 (by rw [wh_t c2]; decide)
    injection h with h
    subst h
    obtain ⟨a, e⟩ := pt_LI (s := 1) (v := whS T f) hL (Or.inr (Or.inl ⟨rfl, by omega, by omega⟩))
    rw [if_pos (by decide)] at e
    exact ⟨a, e, by show D 15 0 < putD D 1 (whS T f) 15 0; rw [pt_15]; omega, by show putD D 1 (whS T f) 15 0 - D 15 0 ≤ nx T f - f; rw [pt_15]; show D 15 0 + 1 - D 15 0 ≤ nx T f - f; omega, nb.2.1, fun k a b c => pt_k a b c⟩
  rw [if_neg c2] at h
  by_cases c3 : sgS T f = 40
  · rw [se_0 c3, ck_0 rfl] at h
    exact hs D f p f0 f1 (by rw [sg_t c3 (by decide)]; decide) hL hd h
  · rw [se_1 c3, ck_1 (by decide)] at h
    cases h
theorem ch_ok {T : Tm} (ht : It T) {item : Tm → Int → PR} {b o1 o2 : Int} (hi : itOk T item (b + 1)) (ho : (o1 = 43 ∧ o2 = 45) ∨ (o1 = 42 ∧ o2 = 47)) {D0 : Tm} {f0 : Int} (z0 : 0 ≤ f0) (hd : 0 ≤ dd D0 (D0 15 0).toNat ∧ dd D0 (D0 15 0).toNat ≤ b) : ∀ (m : Nat) (D : Tm) (f : Int) (p : Tm × Int), LR D0 f0 (D, f) → f0 ≤ f → chR T item o1 o2 m D f = .ok p → LR D0 f0 p := by
  intro m
  induction m with
  | zero => intro D f p h _ e; injection e with e; subst e; exact h
  | succ m ih =>
    intro D f p h hf e
    unfold chR at e
    by_cases c : sgS T f = o1 ∨ sgS T f = o2
    · rw [if_pos c] at e
      obtain ⟨a1, a2, a3, a4, a5, a6⟩ := h
      dsimp only at a1 a2 a3 a4 a5 a6
      have nb := nx_b ht (f := f) (by omega) a5
      have t3 : tkS T f ≠ 0 := by
        rcases c with c | c
        · rw [sg_t c (by omega)]; decide
        · rw [sg_t c (by omega)]; decide
      have nc := nb.2.2 t3
      cases hx : item D (nx T f) with
      | error q => rw [hx] at e; cases e
      | ok q =>
        rw [hx] at e
        obtain ⟨b1, b2, b3, b4, b5, b6⟩ := hi D (nx T f) q (by omega) nb.2.1 a1 (by omega) hx
        have hs : (sgS T f = 43 ∨ sgS T f = 45 ∨ sgS T f = 42 ∨ sgS T f = 47) := by omega
        obtain ⟨g1, g2⟩ := pt_LI (s := sgS T f) (v := 0) b1 (Or.inr (Or.inr ⟨hs, by omega⟩))
        rw [if_neg (by omega)] at g2
        refine ih (putD q.1 (sgS T f) 0) q.2 p ⟨g1, ?_, ?_, ?_, b5, fun k x y z => ?_⟩ (by omega) e
        · show dd (putD q.1 (sgS T f) 0) (putD q.1 (sgS T f) 0 15 0).toNat = _
          rw [g2]; omega
        · show D0 15 0 < putD q.1 (sgS T f) 0 15 0
          rw [pt_15]; omega
        · show putD q.1 (sgS T f) 0 15 0 - D0 15 0 ≤ q.2 - f0
          rw [pt_15]; show q.1 15 0 + 1 - D0 15 0 ≤ q.2 - f0; omega
        · show putD q.1 (sgS T f) 0 k = D0 k
          rw [pt_k x y z, b6 k x y z]
          exact a6 k x y z
    · rw [if_neg c] at e
      injection e with e
      subst e
      exact h
theorem dd_pos {D : Tm} (h : LI D) : ∀ n : Nat, (n : Int) ≤ D 15 0 → 0 ≤ dd D n := by
  intro n
  induction n with
  | zero => intro _; exact Int.le_refl 0
  | succ n ih =>
    intro hn
    have := ih (by omega)
    have s := h.2 n (by omega)
    unfold dd
    unfold stp at s
    by_cases c : D 13 (1300 + n) ≤ 1
    · rw [if_pos c]; omega
    · rw [if_neg c]
      omega
theorem seq_ok {T : Tm} (ht : It T) {item : Tm → Int → PR} {b o1 o2 : Int} (hi : itOk T item (b + 1)) (ho : (o1 = 43 ∧ o2 = 45) ∨ (o1 = 42 ∧ o2 = 47)) : itOk T (seqR T item o1 o2) b := by
  intro D f p f0 f1 hL hd h
  unfold seqR at h
  cases hx : item D f with
  | error q => rw [hx] at h; cases h
  | ok q =>
    rw [hx] at h
    have r := hi D f q f0 f1 hL (by omega) hx
    have rr := r
    obtain ⟨_, _, a3, a4, _⟩ := rr
    exact ch_ok ht hi ho f0 ⟨dd_pos hL _ (by rw [Int.toNat_of_nonneg hL.1]; omega), hd⟩ 1300 q.1 q.2 p r (by omega) h
theorem sub_ok {T : Tm} (ht : It T) {sum : Tm → Int → PR} {b : Int} (hs : itOk T sum b) (D : Tm) (f : Int) (p : Tm × Int) (f0 : 0 ≤ f) (f1 : f ≤ 1201) (tk : tkS T f ≠ 0) (hL : LI D) (hd : dd D (D 15 0).toNat ≤ b) (h : subR T sum D f = .ok p) : LR D f p := by
  unfold subR at h
  have nb := nx_b ht f0 f1
  have nc := nb.2.2 tk
  cases hx : sum D (nx T f) with
  | error q => rw [hx] at h; cases h
  | ok q =>
    rw [hx] at h
    obtain ⟨a1, a2, a3, a4, a5, a6⟩ := hs D (nx T f) q (by omega) nb.2.1 hL hd hx
    have nq := nx_b ht (f := q.2) (by omega) a5
    dsimp only at h
    by_cases c : sgS T q.2 = 41
    · rw [se_0 c, ck_0 rfl] at h
      injection h with h
      subst h
      exact ⟨a1, a2, a3, by show q.1 15 0 - D 15 0 ≤ nx T q.2 - f; omega, nq.2.1, a6⟩
    · rw [se_1 c, ck_1 (by decide)] at h
      cases h
theorem sum_ok {T : Tm} (ht : It T) : ∀ d : Nat, d ≤ 4 → itOk T (sumR T d) (2 * (4 - (d : Int))) := by
  intro d
  induction d with
  | zero =>
    intro _
    refine seq_ok ht (seq_ok ht (atom_ok ht (by omega) (fun D f p _ _ _ _ _ h => by cases h)) (Or.inr ⟨rfl, rfl⟩)) (Or.inl ⟨rfl, rfl⟩)
  | succ d ih =>
    intro hd
    have := ih (by omega)
    refine seq_ok ht (seq_ok ht (atom_ok ht (by omega) (fun D f p a b c d' e h => sub_ok ht this D f p a b c d' (by omega) h)) (Or.inr ⟨rfl, rfl⟩)) (Or.inl ⟨rfl, rfl⟩)
