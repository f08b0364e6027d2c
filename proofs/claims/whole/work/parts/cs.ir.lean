/-! no roads but between fields that are named -/
def IR (D : Tm) : Prop := ∀ a b : Int, 0 ≤ a → a < 6 → 0 ≤ b → b < 6 → (D 11 7 ≤ a ∨ D 11 7 ≤ b) → D 2 (36 + 6 * a + b) = 0
theorem IR_k {D E : Tm} (h2 : E 2 = D 2) (h7 : D 11 7 ≤ E 11 7) (h : IR D) : IR E := fun a b a0 a1 b0 b1 q => by
  rw [h2]
  exact h a b a0 a1 b0 b1 (by omega)
theorem field_ir {T D : Tm} {f : Int} {p : Tm × Int} (e : fieldR T D f = .ok p) (h : IR D) : IR p.1 := by
  unfold fieldR at e
  obtain ⟨_, e⟩ := ck_e e
  obtain ⟨_, e⟩ := ck_e e
  injection e with e
  subst e
  refine IR_k (D := D) ?_ ?_ h
  · show up (up D 1 (6 + D 11 7) (cdS T (nx T f))) 11 7 (D 11 7 + 1) 2 = D 2
    rw [up_f (by decide), up_f (by decide)]
  · show D 11 7 ≤ up (up D 1 (6 + D 11 7) (cdS T (nx T f))) 11 7 (D 11 7 + 1) 11 7
    rw [up_eq]
    omega
theorem club_ir {T D : Tm} {f : Int} {p : Tm × Int} (e : clubR T D f = .ok p) (h : IR D) : IR p.1 := by
  unfold clubR at e
  obtain ⟨_, e⟩ := ck_e e
  obtain ⟨_, e⟩ := ck_e e
  injection e with e
  subst e
  refine IR_k (D := D) ?_ ?_ h
  · show up (up D 4 (8 + D 11 8) (cdS T (nx T f))) 11 8 (D 11 8 + 1) 2 = D 2
    rw [up_f (by decide), up_f (by decide)]
  · show D 11 7 ≤ up (up D 4 (8 + D 11 8) (cdS T (nx T f))) 11 8 (D 11 8 + 1) 11 7
    rw [up_ne (by decide), up_nf (by decide)]
    exact Int.le_refl _
theorem kept_ir {T D : Tm} {f k lo hi : Int} {p : Tm × Int} (hk : k = 4 ∨ k = 5) (e : keptR T D k lo hi f = .ok p) (h : IR D) : IR p.1 := by
  unfold keptR at e
  obtain ⟨_, e⟩ := ck_e e
  injection e with e
  subst e
  refine IR_k (D := D) ?_ ?_ h
  · show up D 11 (7 + k) (nuS T (nx T f)) 2 = D 2
    rw [up_f (by decide)]
  · show D 11 7 ≤ up D 11 (7 + k) (nuS T (nx T f)) 11 7
    rw [up_ne (by omega)]
    exact Int.le_refl _
theorem road_up {D : Tm} {x y v : Int} (h : IR D) (hx : 0 ≤ x ∧ x < D 11 7) (hy : 0 ≤ y ∧ y < D 11 7) : IR (up (up D 2 (36 + 6 * x + y) v) 2 (36 + 6 * y + x) v) := by
  intro i j i0 i1 j0 j1 q
  rw [up_nf (f := 11) (by decide), up_nf (f := 11) (by decide)] at q
  rw [up_ne (by omega), up_ne (by omega)]
  exact h i j i0 i1 j0 j1 q
theorem road_ir {T D : Tm} {f : Int} {p : Tm × Int} (e : roadR T D f = .ok p) (h : IR D) : IR p.1 := by
  unfold roadR at e
  obtain ⟨e1, e⟩ := ck_e e
  obtain ⟨e2, e⟩ := ck_e e
  have a := com_e (by decide) e1
  have b := com_e (by decide) e2
  have a1 : plK T D 0 (nx T f) < D 11 7 := a.2
  have b1 : plK T D 0 (nx T (nx T f)) < D 11 7 := b.2
  generalize plK T D 0 (nx T f) = x at *
  generalize plK T D 0 (nx T (nx T f)) = y at *
  by_cases c : x = y ∨ 0 < D 2 (36 + 6 * x + y)
  · rw [if_pos c] at e; cases e
  rw [if_neg c] at e
  obtain ⟨_, e⟩ := ck_e e
  injection e with e
  subst e
  exact road_up h ⟨a.1, a1⟩ ⟨b.1, b1⟩
theorem off_ir {T D : Tm} {f : Int} {p : Tm × Int} (e : offR T D f = .ok p) (h : IR D) : IR p.1 := by
  have k : ∀ {x f2 b g : Int}, offD T D x f2 b g = .ok p → IR p.1 := fun {x f2 b g} e => by
    unfold offD at e
    injection e with e
    subst e
    exact IR_k (D := D) (offN_k (by decide) _ _ _) (by show D 11 7 ≤ offN _ _ _ D 11 7; rw [offN_k (by decide)]; exact Int.le_refl _) h
  unfold offR at e
  obtain ⟨_, e⟩ := ck_e e
  obtain ⟨_, e⟩ := ck_e e
  split at e
  · obtain ⟨_, e⟩ := ck_e e
    exact k e
  · exact k e
theorem one_ir {T D : Tm} (ht : It T) {f : Int} {p : Tm × Int} (hf : 0 ≤ f ∧ f ≤ 1201) (e : oneR T D f = .ok p) (h : IR D) : IR p.1 := by
  unfold oneR at e
  obtain ⟨_, e⟩ := ck_e e
  obtain ⟨_, e⟩ := ck_e e
  obtain ⟨_, e⟩ := ck_e e
  obtain ⟨_, e⟩ := ck_e e
  obtain ⟨_, e⟩ := ck_e e
  have n1 := nx_ge ht hf
  have n2 := nx_ge ht n1.2
  have n3 := nx_ge ht n2.2
  have n4 := nx_ge ht n3.2
  have n5 := nx_ge ht n4.2
  split at e
  · cases e
  · rename_i q hq
    injection e with e
    subst e
    obtain ⟨m1, _⟩ := noN_i ht _ _ _ _ n5.2 hq
    refine IR_k (D := D) ?_ ?_ h
    · show up q.1 11 9 (q.1 11 9 + 1) 2 = D 2
      rw [up_f (by decide), m1 2 (by decide), up_f (by decide), up_f (by decide), up_f (by decide), up_f (by decide), up_f (by decide)]
    · show D 11 7 ≤ up q.1 11 9 (q.1 11 9 + 1) 11 7
      rw [up_ne (by decide), m1 11 (by decide), up_nf (by decide), up_nf (by decide), up_nf (by decide), up_nf (by decide), up_nf (by decide)]
      exact Int.le_refl _
theorem game_ir {T D : Tm} {f : Int} {p : Tm × Int} (e : gameR T D f = .ok p) (h : IR D) : IR p.1 := by
  have k : ∀ {E : Tm} {g : Int}, gameZ E g = .ok p → E 2 = D 2 → E 11 = D 11 → IR p.1 := fun {E g} e h2 h11 => by
    unfold gameZ at e
    injection e with e
    subst e
    refine IR_k (D := D) ?_ ?_ h
    · show up E 11 10 (E 11 10 + 1) 2 = D 2
      rw [up_f (by decide), h2]
    · show D 11 7 ≤ up E 11 10 (E 11 10 + 1) 11 7
      rw [up_ne (by decide), h11]
      exact Int.le_refl _
  rw [gameR_e] at e
  obtain ⟨_, e⟩ := ck_e e
  obtain ⟨_, e⟩ := ck_e e
  obtain ⟨_, e⟩ := ck_e e
  obtain ⟨_, e⟩ := ck_e e
  obtain ⟨_, e⟩ := ck_e e
  obtain ⟨_, e⟩ := ck_e e
  unfold timeR at e
  obtain ⟨_, e⟩ := ck_e e
  obtain ⟨_, e⟩ := ck_e e
  obtain ⟨_, e⟩ := ck_e e
  obtain ⟨_, e⟩ := ck_e e
  obtain ⟨_, e⟩ := ck_e e
  obtain ⟨_, e⟩ := ck_e e
  obtain ⟨_, e⟩ := ck_e e
  split at e
  · obtain ⟨_, e⟩ := ck_e e
    exact k e (by rw [up_f (by decide), gB_k (by decide)]) (by rw [up_f (by decide), gB_k (by decide)])
  · exact k e (gB_k (by decide)) (gB_k (by decide))
theorem fee_ir {T D : Tm} (ht : It T) {f : Int} {p : Tm × Int} (hf : 0 ≤ f ∧ f ≤ 1201) (hD : ID D f) (e : feeR T D f = .ok p) (h : IR D) : IR p.1 := by
  unfold feeR at e
  obtain ⟨e0, e⟩ := ck_e e
  obtain ⟨hL, hn, w1, _⟩ := hD.2.2.2.2.2
  have c : D 11 13 ≠ 1 := fun c => by rw [if_pos c] at e0; omega
  have z0 := w1 c
  have n1 := nx_ge ht hf
  have e15 : up D 11 13 1 15 0 = 0 := by rw [up_nf (by decide)]; exact z0
  have hL2 : LI (up D 11 13 1) := ⟨by rw [e15]; exact Int.le_refl 0, fun k hk => by rw [e15] at hk; omega⟩
  have lr := sum_ok ht 4 (by decide) (up D 11 13 1) (nx T f) p n1.2.1 n1.2.2 hL2 (by rw [e15]; show (0 : Int) ≤ 2 * (4 - ((4 : Nat) : Int)); decide) e
  have k := lr.2.2.2.2.2
  refine IR_k (D := D) ?_ ?_ h
  · rw [k 2 (by decide) (by decide) (by decide), up_f (by decide)]
  · rw [k 11 (by decide) (by decide) (by decide), up_ne (by decide)]
    exact Int.le_refl _
theorem disp_ir {T D : Tm} (ht : It T) {f : Int} {p : Tm × Int} (hf : 0 ≤ f ∧ f ≤ 1201) (hD : ID D f) (e : dispR T D f = .ok p) (h : IR D) : IR p.1 := by
  unfold dispR at e
  split at e
  · exact field_ir e h
  split at e
  · exact road_ir e h
  split at e
  · exact club_ir e h
  split at e
  · exact one_ir ht hf e h
  split at e
  · exact off_ir e h
  split at e
  · exact game_ir e h
  split at e
  · exact kept_ir (Or.inl rfl) e h
  split at e
  · exact kept_ir (Or.inr rfl) e h
  split at e
  · exact fee_ir ht hf hD e h
  · cases e
theorem line_ir {T D : Tm} (ht : It T) {f : Int} {p : Tm × Int} (hf : 0 ≤ f ∧ f ≤ 1201) (hD : ID D f) (e : lineR T D f = .ok p) (h : IR D) : IR p.1 := by
  unfold lineR at e
  split at e
  · cases e
  · rename_i q hq
    obtain ⟨_, e⟩ := ck_e e
    injection e with e
    subst e
    exact disp_ir (p := q) ht hf hD hq h
theorem lines_ir {T : Tm} (ht : It T) : ∀ (m : Nat) (D : Tm) (f : Int) (p : Tm × Int), 0 ≤ f ∧ f ≤ 1201 → ID D f → linesR T m D f = .ok p → IR D → IR p.1 := by
  intro m
  induction m with
  | zero => intro D f p _ _ e h; injection e with e; subst e; exact h
  | succ m ih =>
    intro D f p hf hD e h
    unfold linesR at e
    split at e
    · injection e with e
      subst e
      exact h
    · split at e
      · cases e
      · rename_i q hq
        obtain ⟨d1, d2, d3⟩ := line_i ht hf hD hq
        exact ih q.1 q.2 p ⟨by omega, d3⟩ d1 e (line_ir ht hf hD hq h)
theorem IR_0 {D : Tm} (h : emptyD D) : IR D := fun a b a0 a1 b0 b1 _ => h.2.1 _ (by omega) (by omega)
