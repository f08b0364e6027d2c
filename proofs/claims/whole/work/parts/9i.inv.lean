/-! what the draft keeps, line by line -/
def gD (D : Tm) (g k : Int) : Int := D 10 (8 * (16 + g) + k)
def gOkD (D : Tm) (g : Int) : Prop := (0 ≤ gD D g 0 ∧ gD D g 0 < D 11 8) ∧ (0 ≤ gD D g 1 ∧ gD D g 1 < D 11 8) ∧ (0 ≤ gD D g 2 ∧ gD D g 2 < D 11 7) ∧ (0 ≤ gD D g 3 ∧ gD D g 3 ≤ 6) ∧ (0 ≤ gD D g 4 ∧ gD D g 4 ≤ 1299) ∧ (10 ≤ gD D g 5 ∧ gD D g 5 ≤ 140) ∧ (1 ≤ gD D g 6 ∧ gD D g 6 ≤ 5) ∧ (1 ≤ gD D g 7 ∧ gD D g 7 ≤ 3)
def oOkD (D : Tm) (o : Int) : Prop := (0 ≤ D 6 (10 + o) ∧ D 6 (10 + o) < D 11 7) ∧ r32 (D 7 (10 + o)) ∧ r32 (D 8 (10 + o)) ∧ 1 ≤ D 9 (10 + o) ∧ D 9 (10 + o) ≤ 5
def IC (D : Tm) : Prop := (0 ≤ D 11 11 ∧ D 11 11 ≤ 120) ∧ (1 ≤ D 11 12 ∧ D 11 12 ≤ 4) ∧ 0 ≤ D 11 13 ∧ D 11 13 ≤ 1
def IW (D : Tm) (f : Int) : Prop := LI D ∧ D 15 0 ≤ f ∧ (D 11 13 ≠ 1 → D 15 0 = 0) ∧ (D 11 13 = 1 → dd D (D 15 0).toNat = 1)
def ID (D : Tm) (f : Int) : Prop := IN D ∧ IC D ∧ (∀ i, 36 ≤ i → i < 72 → 0 ≤ D 2 i ∧ D 2 i ≤ 240) ∧ (∀ g, 0 ≤ g → g < D 11 10 → gOkD D g) ∧ (∀ o, 0 ≤ o → o < D 11 9 → oOkD D o) ∧ IW D f
theorem nx_ge {T : Tm} (ht : It T) {f : Int} (h : 0 ≤ f ∧ f ≤ 1201) : f ≤ nx T f ∧ 0 ≤ nx T f ∧ nx T f ≤ 1201 := by
  have := nx_b ht h.1 h.2
  omega
theorem dd_c {D D2 : Tm} (h : D2 13 = D 13) : ∀ n, dd D2 n = dd D n := by
  intro n
  induction n with
  | zero => rfl
  | succ n ih => simp only [dd, h, ih]
theorem LI_c {D D2 : Tm} (h2 : D2 12 = D 12) (h3 : D2 13 = D 13) (h5 : D2 15 = D 15) (h : LI D) : LI D2 := by
  unfold LI stp
  rw [h5, h2, h3]
  exact ⟨h.1, fun k hk => by rw [dd_c h3]; exact h.2 k hk⟩
theorem IW_c {D D2 : Tm} {f f2 : Int} (h2 : D2 12 = D 12) (h3 : D2 13 = D 13) (h5 : D2 15 = D 15) (h13 : D2 11 13 = D 11 13) (hf : f ≤ f2) (h : IW D f) : IW D2 f2 := by
  obtain ⟨a, b, c, d⟩ := h
  refine ⟨LI_c h2 h3 h5 a, by rw [h5]; omega, fun q => ?_, fun q => ?_⟩
  · rw [h5]; exact c (by rw [← h13]; exact q)
  · rw [dd_c h3, h5]; exact d (by rw [← h13]; exact q)
theorem ck_e {k f : Int} {r : PR} {p : Tm × Int} (h : ck k f r = .ok p) : k = 0 ∧ r = .ok p := by
  unfold ck at h
  by_cases c : k = 0
  · rw [if_pos c] at h; exact ⟨c, h⟩
  · rw [if_neg c] at h; cases h
theorem fu_e {D : Tm} {k m : Int} (h : fuE D k m = 0) : D 11 (7 + k) < m := by
  unfold fuE at h
  by_cases c : m ≤ D 11 (7 + k)
  · rw [if_pos c] at h; omega
  · omega
theorem new_e {T D : Tm} {f : Int} (h : newE T D f = 0) : nameOk T f := by
  unfold newE at h
  by_cases c : nameOk T f
  · exact c
  · rw [if_pos c] at h; omega
theorem com_e {T D : Tm} {k f : Int} (hk : 0 ≤ k ∧ k ≤ 2) (h : comE T D k f = 0) : 0 ≤ plK T D k f ∧ plK T D k f < D 11 (7 + k) := by
  unfold comE at h
  by_cases c : nameOk T f
  · rw [if_neg (fun q => q c)] at h
    by_cases c2 : plK T D k f = -1
    · rw [if_pos c2] at h; omega
    · have := plK_b (T := T) (D := D) (f := f) hk
      omega
  · rw [if_pos c] at h; omega
theorem nmE_e {T : Tm} {f lo hi : Int} (h : nmE T f lo hi = 0) : lo ≤ nuS T f ∧ nuS T f ≤ hi := by
  unfold nmE at h
  by_cases c : nuS T f = -1
  · rw [if_pos c] at h; omega
  · rw [if_neg c] at h
    by_cases c2 : lo ≤ nuS T f ∧ nuS T f ≤ hi
    · exact c2
    · rw [if_neg c2] at h; omega
theorem nm_pos {T : Tm} (ht : It T) {f : Int} (h0 : 0 ≤ f ∧ f ≤ 1201) (ok : nameOk T f) : 0 < cdS T f ∧ cdS T f < 387420489 := by
  have := cd_b ht h0.1 h0.2
  have := ok.1
  omega
theorem field_i {T D : Tm} (ht : It T) {f : Int} {p : Tm × Int} (hf : 0 ≤ f ∧ f ≤ 1201) (h : ID D f) (e : fieldR T D f = .ok p) : ID p.1 p.2 ∧ f ≤ p.2 ∧ p.2 ≤ 1201 := by
  unfold fieldR at e
  obtain ⟨e1, e⟩ := ck_e e
  obtain ⟨e2, e⟩ := ck_e e
  injection e with e
  subst e
  have c : D 11 7 < 6 := fu_e e1
  have n1 := nx_ge ht hf
  have n2 := nx_ge ht n1.2
  have nm := nm_pos ht n1.2 (new_e e2)
  obtain ⟨⟨hn, hA, hB, hC⟩, hc, hr, hg, ho, hw⟩ := h
  refine ⟨?_, by show f ≤ nx T (nx T f); omega, n2.2.2⟩
  show ID (up (up D 1 (6 + D 11 7) (cdS T (nx T f))) 11 7 (D 11 7 + 1)) (nx T (nx T f))
  have k1 : up (up D 1 (6 + D 11 7) (cdS T (nx T f))) 11 7 (D 11 7 + 1) 11 7 = D 11 7 + 1 := up_eq
  have kn : ∀ i, i ≠ 7 → up (up D 1 (6 + D 11 7) (cdS T (nx T f))) 11 7 (D 11 7 + 1) 11 i = D 11 i := fun i hi => by rw [up_ne (by omega), up_nf (by decide)]
  have ko : ∀ k, k ≠ 1 → k ≠ 11 → up (up D 1 (6 + D 11 7) (cdS T (nx T f))) 11 7 (D 11 7 + 1) k = D k := fun k a b => by rw [up_f b, up_f a]
  have k6 : ∀ i, up (up D 1 (6 + D 11 7) (cdS T (nx T f))) 11 7 (D 11 7 + 1) 1 i = if i = 6 + D 11 7 then cdS T (nx T f) else D 1 i := fun i => by rw [up_nf (by decide), up_at]
  generalize up (up D 1 (6 + D 11 7) (cdS T (nx T f))) 11 7 (D 11 7 + 1) = D2 at *
  refine ⟨⟨?_, ?_, ?_, ?_⟩, ?_, ?_, ?_, ?_, ?_⟩
  · rw [k1, kn 8 (by decide), kn 9 (by decide), kn 10 (by decide)]; omega
  · intro i a b
    rw [k6]
    rw [k1] at b
    by_cases q : i = D 11 7
    · rw [if_pos (by omega)]; exact nm
    · rw [if_neg (by omega)]; exact hA i a (by omega)
  · rw [kn 8 (by decide), ko 4 (by decide) (by decide)]; exact hB
  · rw [kn 9 (by decide), ko 5 (by decide) (by decide)]; exact hC
  · unfold IC; rw [kn 11 (by decide), kn 12 (by decide), kn 13 (by decide)]; exact hc
  · rw [ko 2 (by decide) (by decide)]; exact hr
  · intro g a b
    rw [kn 10 (by decide)] at b
    have z := hg g a b
    unfold gOkD gD at z ⊢
    rw [ko 10 (by decide) (by decide), k1, kn 8 (by decide)]
    omega
  · intro o a b
    rw [kn 9 (by decide)] at b
    have z := ho o a b
    unfold oOkD at z ⊢
    rw [ko 6 (by decide) (by decide), ko 7 (by decide) (by decide), ko 8 (by decide) (by decide), ko 9 (by decide) (by decide), k1]
    exact ⟨by omega, z.2⟩
  · exact IW_c (ko 12 (by decide) (by decide)) (ko 13 (by decide) (by decide)) (ko 15 (by decide) (by decide)) (kn 13 (by decide)) (by omega) hw
theorem club_i {T D : Tm} (ht : It T) {f : Int} {p : Tm × Int} (hf : 0 ≤ f ∧ f ≤ 1201) (h : ID D f) (e : clubR T D f = .ok p) : ID p.1 p.2 ∧ f ≤ p.2 ∧ p.2 ≤ 1201 := by
  unfold clubR at e
  obtain ⟨e1, e⟩ := ck_e e
  obtain ⟨e2, e⟩ := ck_e e
  injection e with e
  subst e
  have c : D 11 8 < 8 := fu_e e1
  have n1 := nx_ge ht hf
  have n2 := nx_ge ht n1.2
  have nm := nm_pos ht n1.2 (new_e e2)
  obtain ⟨⟨hn, hA, hB, hC⟩, hc, hr, hg, ho, hw⟩ := h
  refine ⟨?_, by show f ≤ nx T (nx T f); omega, n2.2.2⟩
  show ID (up (up D 4 (8 + D 11 8) (cdS T (nx T f))) 11 8 (D 11 8 + 1)) (nx T (nx T f))
  have k1 : up (up D 4 (8 + D 11 8) (cdS T (nx T f))) 11 8 (D 11 8 + 1) 11 8 = D 11 8 + 1 := up_eq
  have kn : ∀ i, i ≠ 8 → up (up D 4 (8 + D 11 8) (cdS T (nx T f))) 11 8 (D 11 8 + 1) 11 i = D 11 i := fun i hi => by rw [up_ne (by omega), up_nf (by decide)]
  have ko : ∀ k, k ≠ 4 → k ≠ 11 → up (up D 4 (8 + D 11 8) (cdS T (nx T f))) 11 8 (D 11 8 + 1) k = D k := fun k a b => by rw [up_f b, up_f a]
  have k6 : ∀ i, up (up D 4 (8 + D 11 8) (cdS T (nx T f))) 11 8 (D 11 8 + 1) 4 i = if i = 8 + D 11 8 then cdS T (nx T f) else D 4 i := fun i => by rw [up_nf (by decide), up_at]
  generalize up (up D 4 (8 + D 11 8) (cdS T (nx T f))) 11 8 (D 11 8 + 1) = D2 at *
  refine ⟨⟨?_, ?_, ?_, ?_⟩, ?_, ?_, ?_, ?_, ?_⟩
  · rw [k1, kn 7 (by decide), kn 9 (by decide), kn 10 (by decide)]; omega
  · rw [kn 7 (by decide), ko 1 (by decide) (by decide)]; exact hA
  · intro i a b
    rw [k6]
    rw [k1] at b
    by_cases q : i = D 11 8
    · rw [if_pos (by omega)]; exact nm
    · rw [if_neg (by omega)]; exact hB i a (by omega)
  · rw [kn 9 (by decide), ko 5 (by decide) (by decide)]; exact hC
  · unfold IC; rw [kn 11 (by decide), kn 12 (by decide), kn 13 (by decide)]; exact hc
  · rw [ko 2 (by decide) (by decide)]; exact hr
  · intro g a b
    rw [kn 10 (by decide)] at b
    have z := hg g a b
    unfold gOkD gD at z ⊢
    rw [ko 10 (by decide) (by decide), k1, kn 7 (by decide)]
    omega
  · intro o a b
    rw [kn 9 (by decide)] at b
    have z := ho o a b
    unfold oOkD at z ⊢
    rw [ko 6 (by decide) (by decide), ko 7 (by decide) (by decide), ko 8 (by decide) (by decide), ko 9 (by decide) (by decide), kn 7 (by decide)]
    exact z
  · exact IW_c (ko 12 (by decide) (by decide)) (ko 13 (by decide) (by decide)) (ko 15 (by decide) (by decide)) (kn 13 (by decide)) (by omega) hw
theorem kept_i {T D : Tm} (ht : It T) {f k lo hi : Int} {p : Tm × Int} (hf : 0 ≤ f ∧ f ≤ 1201) (hk : (k = 4 ∧ 0 ≤ lo ∧ hi ≤ 120) ∨ (k = 5 ∧ 1 ≤ lo ∧ hi ≤ 4)) (h : ID D f) (e : keptR T D k lo hi f = .ok p) : ID p.1 p.2 ∧ f ≤ p.2 ∧ p.2 ≤ 1201 := by
  unfold keptR at e
  obtain ⟨e1, e⟩ := ck_e e
  injection e with e
  subst e
  have n1 := nx_ge ht hf
  have n2 := nx_ge ht n1.2
  have nb := nmE_e e1
  obtain ⟨⟨hn, hA, hB, hC⟩, hc, hr, hg, ho, hw⟩ := h
  refine ⟨?_, by show f ≤ nx T (nx T f); omega, n2.2.2⟩
  show ID (up D 11 (7 + k) (nuS T (nx T f))) (nx T (nx T f))
  have k1 : ∀ i, up D 11 (7 + k) (nuS T (nx T f)) 11 i = if i = 7 + k then nuS T (nx T f) else D 11 i := fun i => up_at
  have kn : ∀ i, i ≠ 7 + k → up D 11 (7 + k) (nuS T (nx T f)) 11 i = D 11 i := fun i hi => by rw [up_ne (by omega)]
  have ko : ∀ j, j ≠ 11 → up D 11 (7 + k) (nuS T (nx T f)) j = D j := fun j a => up_f a
  generalize up D 11 (7 + k) (nuS T (nx T f)) = D2 at *
  refine ⟨⟨?_, ?_, ?_, ?_⟩, ?_, ?_, ?_, ?_, ?_⟩
  · rw [kn 7 (by omega), kn 8 (by omega), kn 9 (by omega), kn 10 (by omega)]; exact hn
  · rw [kn 7 (by omega), ko 1 (by decide)]; exact hA
  · rw [kn 8 (by omega), ko 4 (by decide)]; exact hB
  · rw [kn 9 (by omega), ko 5 (by decide)]; exact hC
  · unfold IC at hc ⊢
    rw [k1, k1, kn 13 (by omega)]
    rcases hk with q | q
    · rw [if_pos (by omega), if_neg (by omega)]; omega
    · rw [if_neg (by omega), if_pos (by omega)]; omega
  · rw [ko 2 (by decide)]; exact hr
  · intro g a b
    rw [kn 10 (by omega)] at b
    have z := hg g a b
    unfold gOkD gD at z ⊢
    rw [ko 10 (by decide), kn 7 (by omega), kn 8 (by omega)]
    exact z
  · intro o a b
    rw [kn 9 (by omega)] at b
    have z := ho o a b
    unfold oOkD at z ⊢
    rw [ko 6 (by decide), ko 7 (by decide), ko 8 (by decide), ko 9 (by decide), kn 7 (by omega)]
    exact z
  · exact IW_c (ko 12 (by decide)) (ko 13 (by decide)) (ko 15 (by decide)) (kn 13 (by omega)) (by omega) hw
theorem road_i {T D : Tm} (ht : It T) {f : Int} {p : Tm × Int} (hf : 0 ≤ f ∧ f ≤ 1201) (h : ID D f) (e : roadR T D f = .ok p) : ID p.1 p.2 ∧ f ≤ p.2 ∧ p.2 ≤ 1201 := by
  unfold roadR at e
  obtain ⟨e1, e⟩ := ck_e e
  obtain ⟨e2, e⟩ := ck_e e
  have n1 := nx_ge ht hf
  have n2 := nx_ge ht n1.2
  have n3 := nx_ge ht n2.2
  have n4 := nx_ge ht n3.2
  generalize plK T D 0 (nx T f) = x at *
  generalize plK T D 0 (nx T (nx T f)) = y at *
  generalize nx T (nx T (nx T f)) = f3 at *
  by_cases c : x = y ∨ 0 < D 2 (36 + 6 * x + y)
  · rw [if_pos c] at e; cases e
  rw [if_neg c] at e
  obtain ⟨e3, e⟩ := ck_e e
  injection e with e
  subst e
  have nb := nmE_e e3
  obtain ⟨⟨hn, hA, hB, hC⟩, hc, hr, hg, ho, hw⟩ := h
  refine ⟨?_, by show f ≤ nx T f3; omega, n4.2.2⟩
  show ID (up (up D 2 (36 + 6 * x + y) (nuS T f3)) 2 (36 + 6 * y + x) (nuS T f3)) (nx T f3)
  have ko : ∀ k, k ≠ 2 → up (up D 2 (36 + 6 * x + y) (nuS T f3)) 2 (36 + 6 * y + x) (nuS T f3) k = D k := fun k a => by rw [up_f a, up_f a]
  have k2 : ∀ i, up (up D 2 (36 + 6 * x + y) (nuS T f3)) 2 (36 + 6 * y + x) (nuS T f3) 2 i = if i = 36 + 6 * y + x then nuS T f3 else if i = 36 + 6 * x + y then nuS T f3 else D 2 i := fun i => by rw [up_at, up_at]
  generalize up (up D 2 (36 + 6 * x + y) (nuS T f3)) 2 (36 + 6 * y + x) (nuS T f3) = D2 at *
  refine ⟨⟨?_, ?_, ?_, ?_⟩, ?_, ?_, ?_, ?_, ?_⟩
  · rw [ko 11 (by decide)]; exact hn
  · rw [ko 11 (by decide), ko 1 (by decide)]; exact hA
  · rw [ko 11 (by decide), ko 4 (by decide)]; exact hB
  · rw [ko 11 (by decide), ko 5 (by decide)]; exact hC
  · unfold IC; rw [ko 11 (by decide)]; exact hc
  · intro i a b
    rw [k2]
    by_cases q : i = 36 + 6 * y + x
    · rw [if_pos q]; omega
    · rw [if_neg q]
      by_cases q2 : i = 36 + 6 * x + y
      · rw [if_pos q2]; omega
      · rw [if_neg q2]; exact hr i a b
  · unfold gOkD gD; rw [ko 10 (by decide), ko 11 (by decide)]; exact hg
  · unfold oOkD; rw [ko 6 (by decide), ko 7 (by decide), ko 8 (by decide), ko 9 (by decide), ko 11 (by decide)]; exact ho
  · exact IW_c (ko 12 (by decide)) (ko 13 (by decide)) (ko 15 (by decide)) (by rw [ko 11 (by decide)]) (by omega) hw
