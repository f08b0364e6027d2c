/-! the reference, small methods -/
set_option maxHeartbeats 8000000 in
theorem s_X12_isIn {U : Um} {a1 : Int64} {a : Int} {a2 : Int64} {lo : Int} {a3 : Int64} {hi : Int} (e_a1 : a1 = jL a) (e_a2 : a2 = jL lo) (e_a3 : a3 = jL hi) (p0 : r64 a) (p1 : r64 lo) (p2 : r64 hi) {post : Int32 → Um → Prop} (h1 : (lo ≤ a ∧ a ≤ hi) → post 1 U) (h0 : ¬ (lo ≤ a ∧ a ≤ hi) → post 0 U) : w_X12_isIn  a1 a2 a3 U post := by
  unfold w_X12_isIn
  subst e_a1
  subst e_a2
  subst e_a3
  refine br_lg (a) (lo) rfl rfl ⟨by omega, by omega⟩ ⟨by omega, by omega⟩ (fun c1 => ?_) (fun c1 => ?_)
  · skip
    exact h0 (by first | assumption | omega | grind)
  · skip
    refine br_gg (a) (hi) rfl rfl ⟨by omega, by omega⟩ ⟨by omega, by omega⟩ (fun c2 => ?_) (fun c2 => ?_)
    · skip
      exact h0 (by first | assumption | omega | grind)
    · skip
      exact h1 (by first | assumption | omega | grind)
set_option maxHeartbeats 8000000 in
theorem s_X12_at {U : Um} {a1 : Int32} {g : Int} {a2 : Int32} {s : Int} (e_a1 : a1 = jI g) (e_a2 : a2 = jI s)  {post : Int32 → Um → Prop} (h : post (jI ((3 * g + s))) U) : w_X12_at  a1 a2 U post := by
  unfold w_X12_at
  subst e_a1
  subst e_a2
  have q : ((3 * g + s) : Int) = ((3 * g) + s) := by first | assumption | omega | grind
  rw [q] at h
  exact pst (jadd (jmul rfl rfl) rfl) h
set_option maxHeartbeats 8000000 in
theorem s_X12_of {U : Um} {T : Tm} (hM : M U T) (hI : I1 T) (h2 : I2 T) {a1 : Int32} {g : Int} {a2 : Int32} {k : Int} (e_a1 : a1 = jI g) (e_a2 : a2 = jI k) (p0 : 0 ≤ g) (p1 : g < 16) (p2 : 0 ≤ k) (p3 : k < 8) {post : Int32 → Um → Prop} (h : post (jI (gm T g k)) U) : w_X12_of 55 a1 a2 U post := by
  unfold w_X12_of
  subst e_a1
  subst e_a2
  have hn := I_n hI
  refine ⟨jvp (((8 * g) + k)) (jadd (jmul rfl rfl) rfl) (by omega) (by omega) (by decide), ?_⟩
  have q : (gm T g k : Int) = (T 10 (((8 * g) + k))) := by rfl
  rw [q] at h
  exact pst (rdA (M_A hM 10 128) (((8 * g) + k)) (jadd (jmul rfl rfl) rfl) (by omega) (by omega)) h
set_option maxHeartbeats 8000000 in
theorem s_X12_isGame {U : Um} {T : Tm} (hM : M U T) (hI : I1 T) (h2 : I2 T) {a1 : Int32} {g : Int} (e_a1 : a1 = jI g) (p0 : r32 g) {post : Int32 → Um → Prop} (h1 : isGame T g → post 1 U) (h0 : ¬ isGame T g → post 0 U) : w_X12_isGame 55 a1 U post := by
  unfold w_X12_isGame
  subst e_a1
  have hn := I_n hI
  refine ⟨jvp (3) rfl (by omega) (by omega) (by decide), ?_⟩
  refine s_X12_isIn (a := g) (lo := 0) (hi := ((T 11 (3)) - 1)) (by exact (jlong rfl ⟨by omega, by omega⟩)) (by exact rfl) (by exact (jlong (jsub (rdA (M_A hM 11 7) (3) rfl (by omega) (by omega)) rfl) ⟨by omega, by omega⟩)) (by omega) (by omega) (by omega) (fun c1 => ?_) (fun c1 => ?_)
  · skip
    refine ⟨by decide, ?_⟩
    exact h1 (by omega)
  · skip
    refine ⟨by decide, ?_⟩
    exact h0 (by omega)
set_option maxHeartbeats 8000000 in
theorem s_X12_isOne {U : Um} {T : Tm} (hM : M U T) (hI : I1 T) (h2 : I2 T) {a1 : Int32} {o : Int} (e_a1 : a1 = jI o) (p0 : r32 o) {post : Int32 → Um → Prop} (h1 : isOne T o → post 1 U) (h0 : ¬ isOne T o → post 0 U) : w_X12_isOne 55 a1 U post := by
  unfold w_X12_isOne
  subst e_a1
  have hn := I_n hI
  refine ⟨jvp (2) rfl (by omega) (by omega) (by decide), ?_⟩
  refine s_X12_isIn (a := o) (lo := 0) (hi := ((T 11 (2)) - 1)) (by exact (jlong rfl ⟨by omega, by omega⟩)) (by exact rfl) (by exact (jlong (jsub (rdA (M_A hM 11 7) (2) rfl (by omega) (by omega)) rfl) ⟨by omega, by omega⟩)) (by omega) (by omega) (by omega) (fun c1 => ?_) (fun c1 => ?_)
  · skip
    refine ⟨by decide, ?_⟩
    exact h1 (by omega)
  · skip
    refine ⟨by decide, ?_⟩
    exact h0 (by omega)
set_option maxHeartbeats 8000000 in
theorem s_X12_isField {U : Um} {T : Tm} (hM : M U T) (hI : I1 T) (h2 : I2 T) {a1 : Int32} {f : Int} (e_a1 : a1 = jI f) (p0 : r32 f) {post : Int32 → Um → Prop} (h1 : isField T f → post 1 U) (h0 : ¬ isField T f → post 0 U) : w_X12_isField 55 a1 U post := by
  unfold w_X12_isField
  subst e_a1
  have hn := I_n hI
  refine ⟨jvp (0) rfl (by omega) (by omega) (by decide), ?_⟩
  refine s_X12_isIn (a := f) (lo := 0) (hi := ((T 11 (0)) - 1)) (by exact (jlong rfl ⟨by omega, by omega⟩)) (by exact rfl) (by exact (jlong (jsub (rdA (M_A hM 11 7) (0) rfl (by omega) (by omega)) rfl) ⟨by omega, by omega⟩)) (by omega) (by omega) (by omega) (fun c1 => ?_) (fun c1 => ?_)
  · skip
    refine ⟨by decide, ?_⟩
    exact h1 (by omega)
  · skip
    refine ⟨by decide, ?_⟩
    exact h0 (by omega)
set_option maxHeartbeats 8000000 in
theorem s_X12_isSeat {U : Um} {T : Tm} (hM : M U T) (hI : I1 T) (h2 : I2 T) {a1 : Int32} {g : Int} {a2 : Int32} {s : Int} (e_a1 : a1 = jI g) (e_a2 : a2 = jI s) (p0 : r32 g) (p1 : r32 s) {post : Int32 → Um → Prop} (h1 : isSeat T g s → post 1 U) (h0 : ¬ isSeat T g s → post 0 U) : w_X12_isSeat 55 a1 a2 U post := by
  unfold w_X12_isSeat
  subst e_a1
  subst e_a2
  have hn := I_n hI
  refine s_X12_isGame hM hI h2 (g := g) (by exact rfl) (by omega) (fun c1 => ?_) (fun c1 => ?_)
  · skip
    refine br_1 ?_
    have f2 := I_g hI (g) (by omega) (by omega)
    unfold gOk at f2
    refine s_X12_of hM hI h2 (g := g) (k := 7) (by exact rfl) (by exact rfl) (by omega) (by omega) (by omega) (by omega) ?_
    refine s_X12_isIn (a := s) (lo := 0) (hi := (gm T g 7 - 1)) (by exact (jlong rfl ⟨by omega, by omega⟩)) (by exact rfl) (by exact (jlong (jsub rfl rfl) ⟨by omega, by omega⟩)) (by omega) (by omega) (by omega) (fun c3 => ?_) (fun c3 => ?_)
    · skip
      refine br_1 ?_
      exact h1 (by omega)
    · skip
      refine br_0 ?_
      exact h0 (by omega)
  · skip
    refine br_0 ?_
    exact h0 (by omega)
set_option maxHeartbeats 8000000 in
theorem s_X12_isPlayed {U : Um} {T : Tm} (hM : M U T) (hI : I1 T) (h2 : I2 T) {a1 : Int32} {g : Int} (e_a1 : a1 = jI g) (p0 : 0 ≤ g) (p1 : g < T 11 3) {post : Int32 → Um → Prop} (h1 : (gm T g 3 < T 35 0) → post 1 U) (h0 : ¬ (gm T g 3 < T 35 0) → post 0 U) : w_X12_isPlayed 55 a1 U post := by
  unfold w_X12_isPlayed
  subst e_a1
  have hn := I_n hI
  have ht := I_t h2
  have f1 := I_g hI (g) (by omega) (by omega)
  unfold gOk at f1
  refine s_X12_of hM hI h2 (g := g) (k := 3) (by exact rfl) (by exact rfl) (by omega) (by omega) (by omega) (by omega) ?_
  refine br_le ((T 35 0)) (gm T g 3) (M_S hM 35) rfl ⟨by omega, by omega⟩ ⟨by omega, by omega⟩ (fun c2 => ?_) (fun c2 => ?_)
  · skip
    exact h0 (by omega)
  · skip
    exact h1 (by omega)
set_option maxHeartbeats 8000000 in
theorem s_X12_isLate {U : Um} {T : Tm} (hM : M U T) (hI : I1 T) (h2 : I2 T) {a1 : Int32} {g : Int} (e_a1 : a1 = jI g) (p0 : 0 ≤ g) (p1 : g < T 11 3) {post : Int32 → Um → Prop} (h1 : (gm T g 3 = T 35 0) → post 1 U) (h0 : ¬ (gm T g 3 = T 35 0) → post 0 U) : w_X12_isLate 55 a1 U post := by
  unfold w_X12_isLate
  subst e_a1
  have hn := I_n hI
  have ht := I_t h2
  have f1 := I_g hI (g) (by omega) (by omega)
  unfold gOk at f1
  refine s_X12_of hM hI h2 (g := g) (k := 3) (by exact rfl) (by exact rfl) (by omega) (by omega) (by omega) (by omega) ?_
  refine br_eq (gm T g 3) ((T 35 0)) rfl (M_S hM 35) ⟨by omega, by omega⟩ ⟨by omega, by omega⟩ (fun c2 => ?_) (fun c2 => ?_)
  · skip
    exact h1 (by omega)
  · skip
    exact h0 (by omega)
set_option maxHeartbeats 8000000 in
theorem s_X12_wayOf {U : Um} {T : Tm} (hM : M U T) (hI : I1 T) (h2 : I2 T) {a1 : Int32} {a : Int} {a2 : Int32} {b : Int} (e_a1 : a1 = jI a) (e_a2 : a2 = jI b) (p0 : 0 ≤ a) (p1 : a < 6) (p2 : 0 ≤ b) (p3 : b < 6) {post : Int32 → Um → Prop} (h : post (jI (wayS T a b)) U) : w_X12_wayOf 55 a1 a2 U post := by
  unfold w_X12_wayOf
  subst e_a1
  subst e_a2
  have hn := I_n hI
  refine ⟨jvp (((6 * a) + b)) (jadd (jmul rfl rfl) rfl) (by omega) (by omega) (by decide), ?_⟩
  have f1 := I_w hI (((6 * a) + b)) (by omega) (by omega)
  have q : (wayS T a b : Int) = (T 3 (((6 * a) + b))) := by rfl
  rw [q] at h
  exact pst (rdA (M_A hM 3 36) (((6 * a) + b)) (jadd (jmul rfl rfl) rfl) (by omega) (by omega)) h
set_option maxHeartbeats 8000000 in
theorem s_X12_endOf {U : Um} {T : Tm} (hM : M U T) (hI : I1 T) (h2 : I2 T) {a1 : Int32} {g : Int} (e_a1 : a1 = jI g) (p0 : 0 ≤ g) (p1 : g < T 11 3) {post : Int32 → Um → Prop} (h : post (jI (endS T g)) U) : w_X12_endOf 55 a1 U post := by
  unfold w_X12_endOf
  subst e_a1
  have hn := I_n hI
  have f1 := I_g hI (g) (by omega) (by omega)
  unfold gOk at f1
  refine s_X12_of hM hI h2 (g := g) (k := 4) (by exact rfl) (by exact rfl) (by omega) (by omega) (by omega) (by omega) ?_
  refine s_X12_of hM hI h2 (g := g) (k := 5) (by exact rfl) (by exact rfl) (by omega) (by omega) (by omega) (by omega) ?_
  have q : (endS T g : Int) = (gm T g 4 + gm T g 5) := by rfl
  rw [q] at h
  exact pst (jadd rfl rfl) h
set_option maxHeartbeats 8000000 in
theorem s_X12_between {U : Um} {T : Tm} (hM : M U T) (hI : I1 T) (h2 : I2 T) {a1 : Int32} {g : Int} {a2 : Int32} {k : Int} (e_a1 : a1 = jI g) (e_a2 : a2 = jI k) (p0 : 0 ≤ g) (p1 : g < T 11 3) (p2 : 0 ≤ k) (p3 : k < T 11 3) {post : Int32 → Um → Prop} (h : post (jI (betw T g k)) U) : w_X12_between 55 a1 a2 U post := by
  unfold w_X12_between
  subst e_a1
  subst e_a2
  have hn := I_n hI
  have f1 := I_g hI (g) (by omega) (by omega)
  unfold gOk at f1
  have f2 := I_g hI (k) (by omega) (by omega)
  unfold gOk at f2
  refine s_X12_of hM hI h2 (g := g) (k := 4) (by exact rfl) (by exact rfl) (by omega) (by omega) (by omega) (by omega) ?_
  refine s_X12_of hM hI h2 (g := k) (k := 4) (by exact rfl) (by exact rfl) (by omega) (by omega) (by omega) (by omega) ?_
  refine br_le (gm T k 4) (gm T g 4) rfl rfl ⟨by omega, by omega⟩ ⟨by omega, by omega⟩ (fun c3 => ?_) (fun c3 => ?_)
  · skip
    refine s_X12_of hM hI h2 (g := g) (k := 4) (by exact rfl) (by exact rfl) (by omega) (by omega) (by omega) (by omega) ?_
    refine s_X12_endOf hM hI h2 (g := k) (by exact rfl) (by omega) (by omega) ?_
    have f4 := endS_e T (k)
    have q : (betw T g k : Int) = (gm T g 4 - endS T k) := by simp [betw, *]; try omega
    rw [q] at h
    exact pst (jsub rfl rfl) h
  · skip
    refine s_X12_of hM hI h2 (g := k) (k := 4) (by exact rfl) (by exact rfl) (by omega) (by omega) (by omega) (by omega) ?_
    refine s_X12_endOf hM hI h2 (g := g) (by exact rfl) (by omega) (by omega) ?_
    have f5 := endS_e T (g)
    have q : (betw T g k : Int) = (gm T k 4 - endS T g) := by simp [betw, *]; try omega
    rw [q] at h
    exact pst (jsub rfl rfl) h
set_option maxHeartbeats 8000000 in
theorem s_X12_areAtOnce {U : Um} {T : Tm} (hM : M U T) (hI : I1 T) (h2 : I2 T) {a1 : Int32} {g : Int} {a2 : Int32} {k : Int} (e_a1 : a1 = jI g) (e_a2 : a2 = jI k) (p0 : 0 ≤ g) (p1 : g < T 11 3) (p2 : 0 ≤ k) (p3 : k < T 11 3) {post : Int32 → Um → Prop} (h1 : atOnce T g k → post 1 U) (h0 : ¬ atOnce T g k → post 0 U) : w_X12_areAtOnce 55 a1 a2 U post := by
  unfold w_X12_areAtOnce
  subst e_a1
  subst e_a2
  have hn := I_n hI
  have f1 := I_g hI (g) (by omega) (by omega)
  unfold gOk at f1
  have f2 := I_g hI (k) (by omega) (by omega)
  unfold gOk at f2
  refine s_X12_of hM hI h2 (g := g) (k := 4) (by exact rfl) (by exact rfl) (by omega) (by omega) (by omega) (by omega) ?_
  refine s_X12_endOf hM hI h2 (g := k) (by exact rfl) (by omega) (by omega) ?_
  have f3 := endS_e T (k)
  refine br_le (endS T k) (gm T g 4) rfl rfl ⟨by omega, by omega⟩ ⟨by omega, by omega⟩ (fun c4 => ?_) (fun c4 => ?_)
  · skip
    exact h0 (by omega)
  · skip
    refine s_X12_of hM hI h2 (g := k) (k := 4) (by exact rfl) (by exact rfl) (by omega) (by omega) (by omega) (by omega) ?_
    refine s_X12_endOf hM hI h2 (g := g) (by exact rfl) (by omega) (by omega) ?_
    have f5 := endS_e T (g)
    refine br_le (endS T g) (gm T k 4) rfl rfl ⟨by omega, by omega⟩ ⟨by omega, by omega⟩ (fun c6 => ?_) (fun c6 => ?_)
    · skip
      exact h0 (by omega)
    · skip
      exact h1 (by omega)
set_option maxHeartbeats 8000000 in
theorem s_J9_max_7cf53 {U : Um} {a1 : Int32} {a : Int} {a2 : Int32} {b : Int} (e_a1 : a1 = jI a) (e_a2 : a2 = jI b) (p0 : r32 a) (p1 : r32 b) {post : Int32 → Um → Prop} (h : post (jI ((if b ≤ a then a else b))) U) : w_J9_max_7cf53  a1 a2 U post := by
  unfold w_J9_max_7cf53
  subst e_a1
  subst e_a2
  refine br_lt (a) (b) rfl rfl ⟨by omega, by omega⟩ ⟨by omega, by omega⟩ (fun c1 => ?_) (fun c1 => ?_)
  · skip
    have q : ((if b ≤ a then a else b) : Int) = b := by simp [*]; try omega
    rw [q] at h
    exact pst rfl h
  · skip
    have q : ((if b ≤ a then a else b) : Int) = a := by simp [*]; try omega
    rw [q] at h
    exact pst rfl h
set_option maxHeartbeats 8000000 in
theorem s_X12_needOf {U : Um} {T : Tm} (hM : M U T) (hI : I1 T) (h2 : I2 T) {a1 : Int32} {g : Int} {a2 : Int32} {s : Int} (e_a1 : a1 = jI g) (e_a2 : a2 = jI s) (p0 : 0 ≤ g) (p1 : g < T 11 3) (p2 : r32 s) {post : Int32 → Um → Prop} (h : post (jI (needS T g s)) U) : w_X12_needOf 55 a1 a2 U post := by
  unfold w_X12_needOf
  subst e_a1
  subst e_a2
  have hn := I_n hI
  have f1 := I_g hI (g) (by omega) (by omega)
  unfold gOk at f1
  refine br_eq (s) (0) rfl rfl ⟨by omega, by omega⟩ ⟨by omega, by omega⟩ (fun c2 => ?_) (fun c2 => ?_)
  · skip
    refine s_X12_of hM hI h2 (g := g) (k := 6) (by exact rfl) (by exact rfl) (by omega) (by omega) (by omega) (by omega) ?_
    have q : (needS T g s : Int) = gm T g 6 := by unfold needS; split <;> (try split) <;> omega
    rw [q] at h
    exact pst rfl h
  · skip
    refine s_X12_of hM hI h2 (g := g) (k := 6) (by exact rfl) (by exact rfl) (by omega) (by omega) (by omega) (by omega) ?_
    refine s_J9_max_7cf53 (a := 1) (b := (gm T g 6 - 1)) (by exact rfl) (by exact (jsub rfl rfl)) (by omega) (by omega) ?_
    have q : (needS T g s : Int) = (if ((gm T g 6 - 1)) ≤ 1 then 1 else ((gm T g 6 - 1))) := by unfold needS; split <;> (try split) <;> omega
    rw [q] at h
    exact pst rfl h
set_option maxHeartbeats 8000000 in
theorem l_X12_isInGame_L2 {U : Um} {T : Tm} (hM : M U T) (hI : I1 T) (h2 : I2 T) {x1 : Int32} {o : Int} {x2 : Int32} {g : Int} (e_x1 : x1 = jI o) (e_x2 : x2 = jI g) (p0 : 0 ≤ g) (p1 : g < T 11 3) (p2 : r32 o) {post : Int32 → Um → Prop} {k_35 : Um → Prop} (hk : (¬ inGame T o g) → k_35 U) (r0 : (inGame T o g) → post 1 U) : ∀ (fu : Nat) (i : Int), (0 ≤ i) → (i ≤ gm T g 7) → (∀ j, 0 ≤ j → j < i → T 30 (3 * g + j) ≠ o) → (gm T g 7 - i : Int).toNat < fu → w_X12_isInGame_L2 55 x1 x2 post k_35 fu (jI i) U := by
  have hn := I_n hI
  subst e_x2
  subst e_x1
  intro fu
  induction fu with
  | zero => intro i i0 i1 i2 hm; exact absurd hm (Nat.not_lt_zero _)
  | succ fu ih =>
    intro i i0 i1 i2 hm
    show b_X12_isInGame_L2 55 (jI o) (jI g) post k_35 (w_X12_isInGame_L2 55 (jI o) (jI g) post k_35 fu) (jI i) U
    unfold b_X12_isInGame_L2
    have hg := I_g hI g (by omega) (by omega)
    have f1 := I_g hI (g) (by omega) (by omega)
    unfold gOk at f1
    refine s_X12_of hM hI h2 (g := g) (k := 7) (by exact rfl) (by exact rfl) (by omega) (by omega) (by omega) (by omega) ?_
    refine br_le (gm T g 7) (i) rfl rfl ⟨by omega, by omega⟩ ⟨by omega, by omega⟩ (fun c2 => ?_) (fun c2 => ?_)
    · skip
      exact hk  (by intro ⟨j, j0, j1, j2⟩; exact i2 j j0 (by omega) j2)
    · skip
      refine s_X12_at (g := g) (s := i) (by exact rfl) (by exact rfl)  ?_
      refine ⟨jvp ((3 * g + i)) rfl (by omega) (by omega) (by decide), ?_⟩
      have f3 := I_k h2 ((3 * g + i)) (by omega) (by omega)
      refine br_eq ((T 30 ((3 * g + i)))) (o) (rdA (M_A hM 30 48) ((3 * g + i)) rfl (by omega) (by omega)) rfl ⟨by omega, by omega⟩ ⟨by omega, by omega⟩ (fun c4 => ?_) (fun c4 => ?_)
      · skip
        exact r0 (by exact ⟨i, by omega, by omega, by assumption⟩)
      · skip
        refine al_i ((i + 1)) (jadd rfl rfl) ?_
        refine ih ((i + 1)) (by first | omega | (intro j j0 j1; by_cases c : j = i; (rw [c]; assumption); exact i2 j j0 (by omega))) (by first | omega | (intro j j0 j1; by_cases c : j = i; (rw [c]; assumption); exact i2 j j0 (by omega))) (by first | omega | (intro j j0 j1; by_cases c : j = i; (rw [c]; assumption); exact i2 j j0 (by omega))) (by omega)
set_option maxHeartbeats 8000000 in
theorem s_X12_isInGame {U : Um} {T : Tm} (hM : M U T) (hI : I1 T) (h2 : I2 T) {a1 : Int32} {o : Int} {a2 : Int32} {g : Int} (e_a1 : a1 = jI o) (e_a2 : a2 = jI g) (p0 : 0 ≤ g) (p1 : g < T 11 3) (p2 : r32 o) {post : Int32 → Um → Prop} (h1 : inGame T o g → post 1 U) (h0 : ¬ inGame T o g → post 0 U) : w_X12_isInGame 55 a1 a2 U post := by
  unfold w_X12_isInGame
  subst e_a1
  subst e_a2
  have hn := I_n hI
  have f1 := I_g hI (g) (by omega) (by omega)
  unfold gOk at f1
  refine ⟨(gm T g 7 - 0 : Int).toNat + 1, l_X12_isInGame_L2 hM hI h2 (o := o) (g := g) (by exact rfl) (by exact rfl) (by omega) (by omega) (by omega) (fun c2 => ?_) (fun c6 => ?_) _ (0) (by omega) (by omega) (by omega) (by omega)⟩
  · skip
    exact h0 (by assumption)
  · skip
    exact h1 (by assumption)
set_option maxHeartbeats 8000000 in
theorem s_X12_isOther {U : Um} {T : Tm} (hM : M U T) (hI : I1 T) (h2 : I2 T) {a1 : Int32} {o : Int} {a2 : Int32} {g : Int} {a3 : Int32} {k : Int} (e_a1 : a1 = jI o) (e_a2 : a2 = jI g) (e_a3 : a3 = jI k) (p0 : 0 ≤ g) (p1 : g < T 11 3) (p2 : 0 ≤ k) (p3 : k < T 11 3) (p4 : r32 o) {post : Int32 → Um → Prop} (h1 : otherS T (inGame T o) g k → post 1 U) (h0 : ¬ otherS T (inGame T o) g k → post 0 U) : w_X12_isOther 55 a1 a2 a3 U post := by
  unfold w_X12_isOther
  subst e_a1
  subst e_a2
  subst e_a3
  have hn := I_n hI
  have f1 := I_g hI (g) (by omega) (by omega)
  unfold gOk at f1
  have f2 := I_g hI (k) (by omega) (by omega)
  unfold gOk at f2
  refine br_eq (k) (g) rfl rfl ⟨by omega, by omega⟩ ⟨by omega, by omega⟩ (fun c3 => ?_) (fun c3 => ?_)
  · skip
    exact h0 (by first | assumption | grind)
  · skip
    refine s_X12_of hM hI h2 (g := k) (k := 3) (by exact rfl) (by exact rfl) (by omega) (by omega) (by omega) (by omega) ?_
    refine s_X12_of hM hI h2 (g := g) (k := 3) (by exact rfl) (by exact rfl) (by omega) (by omega) (by omega) (by omega) ?_
    refine br_eq (gm T k 3) (gm T g 3) rfl rfl ⟨by omega, by omega⟩ ⟨by omega, by omega⟩ (fun c4 => ?_) (fun c4 => ?_)
    · skip
      refine s_X12_isInGame hM hI h2 (o := o) (g := k) (by exact rfl) (by exact rfl) (by omega) (by omega) (by omega) (fun c5 => ?_) (fun c5 => ?_)
      · skip
        refine br_1 ?_
        exact h1 (by first | assumption | grind)
      · skip
        refine br_0 ?_
        exact h0 (by first | assumption | grind)
    · skip
      exact h0 (by first | assumption | grind)
