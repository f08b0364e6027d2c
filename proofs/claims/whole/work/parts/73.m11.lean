/-! the reference, ranks -/
set_option maxHeartbeats 8000000 in
theorem s_X12_one_ {U : Um} {T : Tm} (hM : M U T) (hI : I1 T) (h2 : I2 T) {a1 : Int32} {o : Int} {a2 : Int32} {w : Int} (e_a1 : a1 = jI o) (e_a2 : a2 = jI w) (p0 : r32 o) (p1 : r32 w) {post : Int32 → Um → Prop} (h : ∀ U2 : Um, M U2 T → fM U U2 → post (jI (oneS T o w)) U2) : w_X12_one_ 55 a1 a2 U post := by
  unfold w_X12_one_
  subst e_a1
  subst e_a2
  have hn := I_n hI
  intro U_1 hU_1
  have m1 : M U_1 T := by rw [hU_1]; exact M_xI hM
  have fr2 : fM U U_1 := by rw [hU_1]; exact fM_trans fM_rfl fM_sI
  refine s_X12_isOne m1 hI h2 (o := o) (by exact rfl) (by omega) (fun c3 => ?_) (fun c3 => ?_)
  · skip
    refine br_1 ?_
    refine ⟨fun d4 d5 d6 d7 d8 d9 d10 => ?_, fun d11 => ?_, fun d12 => ?_, fun d13 => ?_, fun d14 => ?_, fun d15 => ?_, fun d16 => ?_, fun d17 => ?_⟩
    · skip
      have d4 := jne (0) d4 rfl
      have d5 := jne (1) d5 rfl
      have d6 := jne (2) d6 rfl
      have d7 := jne (3) d7 rfl
      have d8 := jne (4) d8 rfl
      have d9 := jne (5) d9 rfl
      have d10 := jne (6) d10 rfl
      have q : (oneS T o w : Int) = (-2) := by (unfold oneS; (repeat (first | rw [cif_t (by first | assumption | omega)] | rw [cif_f (by first | assumption | omega)])); try (simp only [*]; first | rfl | simp))
      have h := h _ m1 fr2
      rw [q] at h
      exact pst rfl h
    · skip
      have d11 := jeq (0) d11 rfl ⟨by omega, by omega⟩ ⟨by omega, by omega⟩
      refine ⟨jvp (o) rfl (by omega) (by omega) (by decide), ?_⟩
      have f18 := I_r h2 (o) (by omega) (by omega)
      unfold r32 at f18
      have q : (oneS T o w : Int) = (T 32 (o)) := by (unfold oneS; (repeat (first | rw [cif_t (by first | assumption | omega)] | rw [cif_f (by first | assumption | omega)])); try (simp only [*]; first | rfl | simp))
      have h := h _ m1 fr2
      rw [q] at h
      exact pst (rdA (M_A m1 32 10) (o) rfl (by omega) (by omega)) h
    · skip
      have d12 := jeq (1) d12 rfl ⟨by omega, by omega⟩ ⟨by omega, by omega⟩
      refine ⟨jvp (o) rfl (by omega) (by omega) (by decide), ?_⟩
      have f19 := I_o hI (o) (by omega) (by omega)
      unfold r32 at f19
      have q : (oneS T o w : Int) = (T 6 (o)) := by (unfold oneS; (repeat (first | rw [cif_t (by first | assumption | omega)] | rw [cif_f (by first | assumption | omega)])); try (simp only [*]; first | rfl | simp))
      have h := h _ m1 fr2
      rw [q] at h
      exact pst (rdA (M_A m1 6 10) (o) rfl (by omega) (by omega)) h
    · skip
      have d13 := jeq (2) d13 rfl ⟨by omega, by omega⟩ ⟨by omega, by omega⟩
      refine ⟨jvp (o) rfl (by omega) (by omega) (by decide), ?_⟩
      have f20 := I_o hI (o) (by omega) (by omega)
      unfold r32 at f20
      have q : (oneS T o w : Int) = (T 7 (o)) := by (unfold oneS; (repeat (first | rw [cif_t (by first | assumption | omega)] | rw [cif_f (by first | assumption | omega)])); try (simp only [*]; first | rfl | simp))
      have h := h _ m1 fr2
      rw [q] at h
      exact pst (rdA (M_A m1 7 10) (o) rfl (by omega) (by omega)) h
    · skip
      have d14 := jeq (3) d14 rfl ⟨by omega, by omega⟩ ⟨by omega, by omega⟩
      refine ⟨jvp (o) rfl (by omega) (by omega) (by decide), ?_⟩
      have f21 := I_o hI (o) (by omega) (by omega)
      unfold r32 at f21
      have q : (oneS T o w : Int) = (T 8 (o)) := by (unfold oneS; (repeat (first | rw [cif_t (by first | assumption | omega)] | rw [cif_f (by first | assumption | omega)])); try (simp only [*]; first | rfl | simp))
      have h := h _ m1 fr2
      rw [q] at h
      exact pst (rdA (M_A m1 8 10) (o) rfl (by omega) (by omega)) h
    · skip
      have d15 := jeq (4) d15 rfl ⟨by omega, by omega⟩ ⟨by omega, by omega⟩
      refine ⟨jvp (o) rfl (by omega) (by omega) (by decide), ?_⟩
      have f22 := I_r h2 (o) (by omega) (by omega)
      unfold r32 at f22
      have q : (oneS T o w : Int) = (T 33 (o)) := by (unfold oneS; (repeat (first | rw [cif_t (by first | assumption | omega)] | rw [cif_f (by first | assumption | omega)])); try (simp only [*]; first | rfl | simp))
      have h := h _ m1 fr2
      rw [q] at h
      exact pst (rdA (M_A m1 33 10) (o) rfl (by omega) (by omega)) h
    · skip
      have d16 := jeq (5) d16 rfl ⟨by omega, by omega⟩ ⟨by omega, by omega⟩
      refine ⟨jvp (o) rfl (by omega) (by omega) (by decide), ?_⟩
      have q : (oneS T o w : Int) = (FP.f2i (jF (T 34 (o)))).toInt := by (unfold oneS; (repeat (first | rw [cif_t (by first | assumption | omega)] | rw [cif_f (by first | assumption | omega)])); try (simp only [*]; first | rfl | simp))
      have h := h _ m1 fr2
      rw [q] at h
      exact pst ((congrArg FP.f2i (rdF (M_F m1 34 10) (o) rfl (by omega) (by omega))).trans (jI_of _).symm) h
    · skip
      have d17 := jeq (6) d17 rfl ⟨by omega, by omega⟩ ⟨by omega, by omega⟩
      refine s_X12_seatsOf m1 hI h2 (o := o) (by exact rfl) (by omega) ?_
      have f23 := seatsS_b (T := T) (o)
      have q : (oneS T o w : Int) = seatsS T o := by (unfold oneS; (repeat (first | rw [cif_t (by first | assumption | omega)] | rw [cif_f (by first | assumption | omega)])); try (simp only [*]; first | rfl | simp))
      have h := h _ m1 fr2
      rw [q] at h
      exact pst rfl h
  · skip
    refine br_0 ?_
    have q : (oneS T o w : Int) = (-2) := by (unfold oneS; (repeat (first | rw [cif_t (by first | assumption | omega)] | rw [cif_f (by first | assumption | omega)])); try (simp only [*]; first | rfl | simp))
    have h := h _ m1 fr2
    rw [q] at h
    exact pst rfl h
set_option maxHeartbeats 8000000 in
theorem s_X12_isAhead {U : Um} {T : Tm} (hM : M U T) (hI : I1 T) (h2 : I2 T) {a1 : Int32} {p : Int} {a2 : Int32} {q : Int} (e_a1 : a1 = jI p) (e_a2 : a2 = jI q) (p0 : 0 ≤ p) (p1 : p < T 11 2) (p2 : 0 ≤ q) (p3 : q < T 11 2) {post : Int32 → Um → Prop} (h1 : aheadS T p q → post 1 U) (h0 : ¬ aheadS T p q → post 0 U) : w_X12_isAhead 55 a1 a2 U post := by
  unfold w_X12_isAhead
  subst e_a1
  subst e_a2
  have hn := I_n hI
  refine ⟨jvp (p) rfl (by omega) (by omega) (by decide), ?_⟩
  refine ⟨jvp (q) rfl (by omega) (by omega) (by decide), ?_⟩
  refine br_fe (fcl (jF (T 34 (p))) (jF (T 34 (q)))) (jfcl (rdF (M_F hM 34 10) (p) rfl (by omega) (by omega)) (rdF (M_F hM 34 10) (q) rfl (by omega) (by omega))) (fun c1 => ?_) (fun c1 => ?_)
  · skip
    refine ⟨jvp (p) rfl (by omega) (by omega) (by decide), ?_⟩
    refine ⟨jvp (q) rfl (by omega) (by omega) (by decide), ?_⟩
    have f2 := I_r h2 (p) (by omega) (by omega)
    unfold r32 at f2
    have f3 := I_r h2 (q) (by omega) (by omega)
    unfold r32 at f3
    refine br_eq ((T 33 (p))) ((T 33 (q))) (rdA (M_A hM 33 10) (p) rfl (by omega) (by omega)) (rdA (M_A hM 33 10) (q) rfl (by omega) (by omega)) ⟨by omega, by omega⟩ ⟨by omega, by omega⟩ (fun c4 => ?_) (fun c4 => ?_)
    · skip
      refine br_le (q) (p) rfl rfl ⟨by omega, by omega⟩ ⟨by omega, by omega⟩ (fun c5 => ?_) (fun c5 => ?_)
      · skip
        exact h0 (by (unfold aheadS; first | omega | (simp only [*]; simp; try omega) | grind))
      · skip
        exact h1 (by (unfold aheadS; first | omega | (simp only [*]; simp; try omega) | grind))
    · skip
      refine ⟨jvp (p) rfl (by omega) (by omega) (by decide), ?_⟩
      refine ⟨jvp (q) rfl (by omega) (by omega) (by decide), ?_⟩
      refine br_le ((T 33 (p))) ((T 33 (q))) (rdA (M_A hM 33 10) (p) rfl (by omega) (by omega)) (rdA (M_A hM 33 10) (q) rfl (by omega) (by omega)) ⟨by omega, by omega⟩ ⟨by omega, by omega⟩ (fun c6 => ?_) (fun c6 => ?_)
      · skip
        exact h0 (by (unfold aheadS; first | omega | (simp only [*]; simp; try omega) | grind))
      · skip
        exact h1 (by (unfold aheadS; first | omega | (simp only [*]; simp; try omega) | grind))
  · skip
    refine ⟨jvp (p) rfl (by omega) (by omega) (by decide), ?_⟩
    refine ⟨jvp (q) rfl (by omega) (by omega) (by decide), ?_⟩
    refine br_fle (fcl (jF (T 34 (p))) (jF (T 34 (q)))) (jfcl (rdF (M_F hM 34 10) (p) rfl (by omega) (by omega)) (rdF (M_F hM 34 10) (q) rfl (by omega) (by omega))) (fun c7 => ?_) (fun c7 => ?_)
    · skip
      exact h0 (by (unfold aheadS; first | omega | (simp only [*]; simp; try omega) | grind))
    · skip
      exact h1 (by (unfold aheadS; first | omega | (simp only [*]; simp; try omega) | grind))
set_option maxHeartbeats 8000000 in
theorem s_X12_goesUp {U : Um} {T : Tm} (hM : M U T) (hI : I1 T) (h2 : I2 T) {a1 : Int32} {o : Int} (e_a1 : a1 = jI o) (p0 : 0 ≤ o) (p1 : o < T 11 2) {post : Int32 → Um → Prop} (h1 : upS T o → post 1 U) (h0 : ¬ upS T o → post 0 U) : w_X12_goesUp 55 a1 U post := by
  unfold w_X12_goesUp
  subst e_a1
  have hn := I_n hI
  refine ⟨jvp (o) rfl (by omega) (by omega) (by decide), ?_⟩
  have f1 := I_r h2 (o) (by omega) (by omega)
  unfold r32 at f1
  refine br_le (5) ((T 32 (o))) rfl (rdA (M_A hM 32 10) (o) rfl (by omega) (by omega)) ⟨by omega, by omega⟩ ⟨by omega, by omega⟩ (fun c2 => ?_) (fun c2 => ?_)
  · skip
    exact h0 (by (unfold upS; first | exact ⟨by omega, by omega, by assumption⟩ | (intro q; first | omega | exact q.2.2 (by assumption))))
  · skip
    refine ⟨jvp (o) rfl (by omega) (by omega) (by decide), ?_⟩
    refine br_lt ((T 33 (o))) (2) (rdA (M_A hM 33 10) (o) rfl (by omega) (by omega)) rfl ⟨by omega, by omega⟩ ⟨by omega, by omega⟩ (fun c3 => ?_) (fun c3 => ?_)
    · skip
      exact h0 (by (unfold upS; first | exact ⟨by omega, by omega, by assumption⟩ | (intro q; first | omega | exact q.2.2 (by assumption))))
    · skip
      refine ⟨jvp (o) rfl (by omega) (by omega) (by decide), ?_⟩
      refine br_flt (fcl (jF (T 34 (o))) (1114636288 : UInt32)) (jfcl (rdF (M_F hM 34 10) (o) rfl (by omega) (by omega)) rfl) (fun c4 => ?_) (fun c4 => ?_)
      · skip
        exact h0 (by (unfold upS; first | exact ⟨by omega, by omega, by assumption⟩ | (intro q; first | omega | exact q.2.2 (by assumption))))
      · skip
        exact h1 (by (unfold upS; first | exact ⟨by omega, by omega, by assumption⟩ | (intro q; first | omega | exact q.2.2 (by assumption))))
set_option maxHeartbeats 8000000 in
theorem s_X12_goesDown {U : Um} {T : Tm} (hM : M U T) (hI : I1 T) (h2 : I2 T) {a1 : Int32} {o : Int} (e_a1 : a1 = jI o) (p0 : 0 ≤ o) (p1 : o < T 11 2) {post : Int32 → Um → Prop} (h1 : dnS T o → post 1 U) (h0 : ¬ dnS T o → post 0 U) : w_X12_goesDown 55 a1 U post := by
  unfold w_X12_goesDown
  subst e_a1
  have hn := I_n hI
  refine ⟨jvp (o) rfl (by omega) (by omega) (by decide), ?_⟩
  have f1 := I_r h2 (o) (by omega) (by omega)
  unfold r32 at f1
  refine br_le ((T 32 (o))) (1) (rdA (M_A hM 32 10) (o) rfl (by omega) (by omega)) rfl ⟨by omega, by omega⟩ ⟨by omega, by omega⟩ (fun c2 => ?_) (fun c2 => ?_)
  · skip
    exact h0 (by (unfold dnS; first | exact ⟨by omega, by omega, by assumption⟩ | (intro q; first | omega | exact q.2.2 (by assumption))))
  · skip
    refine ⟨jvp (o) rfl (by omega) (by omega) (by decide), ?_⟩
    refine br_lt ((T 33 (o))) (2) (rdA (M_A hM 33 10) (o) rfl (by omega) (by omega)) rfl ⟨by omega, by omega⟩ ⟨by omega, by omega⟩ (fun c3 => ?_) (fun c3 => ?_)
    · skip
      exact h0 (by (unfold dnS; first | exact ⟨by omega, by omega, by assumption⟩ | (intro q; first | omega | exact q.2.2 (by assumption))))
    · skip
      refine ⟨jvp (o) rfl (by omega) (by omega) (by decide), ?_⟩
      refine br_fler (fcg (jF (T 34 (o))) (1109393408 : UInt32)) (jfcg (rdF (M_F hM 34 10) (o) rfl (by omega) (by omega)) rfl) (fun c4 => ?_) (fun c4 => ?_)
      · skip
        exact h0 (by (unfold dnS; first | exact ⟨by omega, by omega, by assumption⟩ | (intro q; first | omega | exact q.2.2 (by assumption))))
      · skip
        exact h1 (by (unfold dnS; first | exact ⟨by omega, by omega, by assumption⟩ | (intro q; first | omega | exact q.2.2 (by assumption))))
set_option maxHeartbeats 8000000 in
theorem l_X12_rank_L22 {U : Um} {T : Tm} (hM : M U T) (hI : I1 T) (h2 : I2 T) {x1 : Int32} {i : Int} {x2 : Int32} {o : Int} (e_x1 : x1 = jI i) (e_x2 : x2 = jI o) (p0 : 0 ≤ o) (p1 : o < T 11 2) {post : Int32 → Um → Prop} {k_66 : Int32 → Um → Prop} (hk : ∀ (x : Int) , (x = cnt (ahdP T o) (T 11 2)) → k_66 (jI x) U) : ∀ (fu : Nat) (x : Int) (k : Int), (0 ≤ k) → (k ≤ T 11 2) → (x = cnt (ahdP T o) k) → (T 11 2 - k : Int).toNat < fu → w_X12_rank_L22 55 x1 x2 post k_66 fu (jI x) (jI k) U := by
  have hn := I_n hI
  subst e_x2
  subst e_x1
  intro fu
  induction fu with
  | zero => intro x k i0 i1 i2 hm; exact absurd hm (Nat.not_lt_zero _)
  | succ fu ih =>
    intro x k i0 i1 i2 hm
    show b_X12_rank_L22 55 (jI i) (jI o) post k_66 (w_X12_rank_L22 55 (jI i) (jI o) post k_66 fu) (jI x) (jI k) U
    unfold b_X12_rank_L22
    have hcb := cnt_b (p := ahdP T o) i0
    refine ⟨jvp (2) rfl (by omega) (by omega) (by decide), ?_⟩
    refine br_le ((T 11 (2))) (k) (rdA (M_A hM 11 7) (2) rfl (by omega) (by omega)) rfl ⟨by omega, by omega⟩ ⟨by omega, by omega⟩ (fun c1 => ?_) (fun c1 => ?_)
    · skip
      exact hk (x) (by (rw [i2, show T 11 2 = k by omega]))
    · skip
      intro K_2 hK_2
      refine br_eq (k) (o) rfl rfl ⟨by omega, by omega⟩ ⟨by omega, by omega⟩ (fun c2 => ?_) (fun c2 => ?_)
      · skip
        refine hK_2 _ _ ?_
        refine s_one0 ?_
        refine al_i ((x + 0)) (jadd rfl rfl) ?_
        refine al_i ((k + 1)) (jadd rfl rfl) ?_
        refine ih ((x + 0)) ((k + 1)) (by omega) (by omega) (by first | (rw [cnt_f i0 (fun q => by first | exact q.1 (by assumption) | exact absurd q.2 (by assumption))]; omega) | (rw [cnt_t i0 ⟨by assumption, by assumption⟩]; omega)) (by omega)
      · skip
        refine s_X12_isAhead hM hI h2 (p := k) (q := o) (by exact rfl) (by exact rfl) (by omega) (by omega) (by omega) (by omega) (fun c3 => ?_) (fun c3 => ?_)
        · skip
          refine br_1 ?_
          refine hK_2 _ _ ?_
          refine s_one1 ?_
          refine al_i ((x + 1)) (jadd rfl rfl) ?_
          refine al_i ((k + 1)) (jadd rfl rfl) ?_
          refine ih ((x + 1)) ((k + 1)) (by omega) (by omega) (by first | (rw [cnt_f i0 (fun q => by first | exact q.1 (by assumption) | exact absurd q.2 (by assumption))]; omega) | (rw [cnt_t i0 ⟨by assumption, by assumption⟩]; omega)) (by omega)
        · skip
          refine br_0 ?_
          refine hK_2 _ _ ?_
          refine s_one0 ?_
          refine al_i ((x + 0)) (jadd rfl rfl) ?_
          refine al_i ((k + 1)) (jadd rfl rfl) ?_
          refine ih ((x + 0)) ((k + 1)) (by omega) (by omega) (by first | (rw [cnt_f i0 (fun q => by first | exact q.1 (by assumption) | exact absurd q.2 (by assumption))]; omega) | (rw [cnt_t i0 ⟨by assumption, by assumption⟩]; omega)) (by omega)
set_option maxHeartbeats 8000000 in
theorem l_X12_rank_L7 {U : Um} {T : Tm} (hM : M U T) (hI : I1 T) (h2 : I2 T) {x1 : Int32} {i : Int} (e_x1 : x1 = jI i) (p0 : r32 i) {post : Int32 → Um → Prop} {k_79 : Um → Prop} (hk : (rankS T i = -1) → k_79 U) (r0 : ∀ z : Int, (rankS T i = z) → post (jI (z)) U) : ∀ (fu : Nat) (o : Int), (0 ≤ o) → (o ≤ T 11 2) → (∀ j, 0 ≤ j → j < o → ¬ cnt (ahdP T j) (T 11 2) = i) → (T 11 2 - o : Int).toNat < fu → w_X12_rank_L7 55 x1 post k_79 fu (jI o) U := by
  have hn := I_n hI
  subst e_x1
  intro fu
  induction fu with
  | zero => intro o i0 i1 i2 hm; exact absurd hm (Nat.not_lt_zero _)
  | succ fu ih =>
    intro o i0 i1 i2 hm
    show b_X12_rank_L7 55 (jI i) post k_79 (w_X12_rank_L7 55 (jI i) post k_79 fu) (jI o) U
    unfold b_X12_rank_L7
    have hcb := fun j => cnt_b (p := ahdP T j) (n := T 11 2) (by omega)
    have hcb2 := hcb o
    refine ⟨jvp (2) rfl (by omega) (by omega) (by decide), ?_⟩
    refine br_le ((T 11 (2))) (o) (rdA (M_A hM 11 7) (2) rfl (by omega) (by omega)) rfl ⟨by omega, by omega⟩ ⟨by omega, by omega⟩ (fun c1 => ?_) (fun c1 => ?_)
    · skip
      exact hk  (by exact fst_no (by omega) (fun j a b => i2 j a (by omega)))
    · skip
      refine ⟨(T 11 2 - 0 : Int).toNat + 1, l_X12_rank_L22 hM hI h2 (i := i) (o := o) (by exact rfl) (by exact rfl) (by omega) (by omega) (fun y2 c3 => ?_)  _ (0) (0) (by omega) (by omega) (by rw [cnt_0 (by decide)]) (by omega)⟩
      · skip
        refine br_eq (y2) (i) rfl rfl ⟨by omega, by omega⟩ ⟨by omega, by omega⟩ (fun c7 => ?_) (fun c7 => ?_)
        · skip
          exact pst rfl (r0 (o) (by exact fst_is i0 (by omega) (by omega) i2))
        · skip
          refine al_i ((o + 1)) (jadd rfl rfl) ?_
          refine ih ((o + 1)) (by omega) (by omega) (by (intro j j0 j1; by_cases c : j = o; (rw [c]; omega); exact i2 j j0 (by omega))) (by omega)
set_option maxHeartbeats 8000000 in
theorem s_X12_rank {U : Um} {T : Tm} (hM : M U T) (hI : I1 T) (h2 : I2 T) {a1 : Int32} {i : Int} (e_a1 : a1 = jI i) (p0 : r32 i) {post : Int32 → Um → Prop} (h : ∀ U2 : Um, M U2 T → fM U U2 → post (jI (rankS T i)) U2) : w_X12_rank 55 a1 U post := by
  unfold w_X12_rank
  subst e_a1
  have hn := I_n hI
  intro U_1 hU_1
  have m1 : M U_1 T := by rw [hU_1]; exact M_xI hM
  have fr2 : fM U U_1 := by rw [hU_1]; exact fM_trans fM_rfl fM_sI
  refine ⟨(T 11 2 - 0 : Int).toNat + 1, l_X12_rank_L7 m1 hI h2 (i := i) (by exact rfl) (by omega) (fun c3 => ?_) (fun z_c7 c7 => ?_) _ (0) (by omega) (by omega) (by intro j j0 j1; omega) (by omega)⟩
  · skip
    have q : (rankS T i : Int) = (-1) := by omega
    have h := h _ m1 fr2
    rw [q] at h
    exact pst rfl h
  · skip
    have q : (rankS T i : Int) = z_c7 := by omega
    have h := h _ m1 fr2
    rw [q] at h
    exact pst rfl h
set_option maxHeartbeats 8000000 in
theorem l_X12_review_L60 {U : Um} {T : Tm} (hM : M U T) (hI : I1 T) (h2 : I2 T) {x1 : Int32} {u : Int} {x2 : Int32} {d : Int} {x3 : Int32} {n : Int} {x4 : Int32} {o : Int} (e_x1 : x1 = jI u) (e_x2 : x2 = jI d) (e_x3 : x3 = jI n) (e_x4 : x4 = jI o) (p0 : 0 ≤ o) (p1 : o < T 11 2) {post : Int32 → Um → Prop} {k_170 : Int32 → Int32 → Um → Prop} (hk : ∀ (x : Int) (y : Int) , (x = cnt (upP T o) (T 11 2)) → (y = cnt (dnP T o) (T 11 2)) → k_170 (jI x) (jI y) U) : ∀ (fu : Nat) (x : Int) (y : Int) (p : Int), (0 ≤ p) → (p ≤ T 11 2) → (x = cnt (upP T o) p) → (y = cnt (dnP T o) p) → (T 11 2 - p : Int).toNat < fu → w_X12_review_L60 55 x1 x2 x3 x4 post k_170 fu (jI x) (jI y) (jI p) U := by
  have hn := I_n hI
  subst e_x4
  subst e_x3
  subst e_x2
  subst e_x1
  intro fu
  induction fu with
  | zero => intro x y p i0 i1 i2 i3 hm; exact absurd hm (Nat.not_lt_zero _)
  | succ fu ih =>
    intro x y p i0 i1 i2 i3 hm
    show b_X12_review_L60 55 (jI u) (jI d) (jI n) (jI o) post k_170 (w_X12_review_L60 55 (jI u) (jI d) (jI n) (jI o) post k_170 fu) (jI x) (jI y) (jI p) U
    unfold b_X12_review_L60
    have hc1 := cnt_b (p := upP T o) i0
    have hc2 := cnt_b (p := dnP T o) i0
    have hf1 := fun q : ¬ upP T o p => cnt_f i0 q
    have ht1 := fun q : upP T o p => cnt_t i0 q
    have hf2 := fun q : ¬ dnP T o p => cnt_f i0 q
    have ht2 := fun q : dnP T o p => cnt_t i0 q
    refine ⟨jvp (2) rfl (by omega) (by omega) (by decide), ?_⟩
    refine br_le ((T 11 (2))) (p) (rdA (M_A hM 11 7) (2) rfl (by omega) (by omega)) rfl ⟨by omega, by omega⟩ ⟨by omega, by omega⟩ (fun c1 => ?_) (fun c1 => ?_)
    · skip
      exact hk (x) (y) (by (rw [i2, show T 11 2 = p by omega])) (by (rw [i3, show T 11 2 = p by omega]))
    · skip
      refine br_eq (p) (o) rfl rfl ⟨by omega, by omega⟩ ⟨by omega, by omega⟩ (fun c2 => ?_) (fun c2 => ?_)
      · skip
        refine al_i ((p + 1)) (jadd rfl rfl) ?_
        refine ih (x) (y) ((p + 1)) (by omega) (by omega) (by first | (rw [hf1 (fun q => by first | exact q.1 (by assumption) | exact absurd q.2.1 (by assumption) | exact absurd q.2.2.1 (by assumption) | exact absurd q.2.2.2 (by assumption))]; omega) | (rw [ht1 ⟨by assumption, by assumption, by assumption, by assumption⟩]; omega)) (by first | (rw [hf2 (fun q => by first | exact q.1 (by assumption) | exact absurd q.2.1 (by assumption) | exact absurd q.2.2.1 (by assumption) | exact absurd q.2.2.2 (by assumption))]; omega) | (rw [ht2 ⟨by assumption, by assumption, by assumption, by assumption⟩]; omega)) (by omega)
      · skip
        refine ⟨jvp (p) rfl (by omega) (by omega) (by decide), ?_⟩
        refine ⟨jvp (o) rfl (by omega) (by omega) (by decide), ?_⟩
        have f3 := I_r h2 (p) (by omega) (by omega)
        unfold r32 at f3
        have f4 := I_r h2 (o) (by omega) (by omega)
        unfold r32 at f4
        refine br_eq ((T 32 (p))) ((T 32 (o))) (rdA (M_A hM 32 10) (p) rfl (by omega) (by omega)) (rdA (M_A hM 32 10) (o) rfl (by omega) (by omega)) ⟨by omega, by omega⟩ ⟨by omega, by omega⟩ (fun c5 => ?_) (fun c5 => ?_)
        · skip
          refine s_X12_goesUp hM hI h2 (o := p) (by exact rfl) (by omega) (by omega) (fun c6 => ?_) (fun c6 => ?_)
          · skip
            intro K_11 hK_11
            refine br_1 ?_
            refine s_X12_isAhead hM hI h2 (p := p) (q := o) (by exact rfl) (by exact rfl) (by omega) (by omega) (by omega) (by omega) (fun c7 => ?_) (fun c7 => ?_)
            · skip
              refine br_1 ?_
              refine hK_11 _ _ ?_
              refine s_one1 ?_
              refine al_i ((x + 1)) (jadd rfl rfl) ?_
              refine s_X12_goesDown hM hI h2 (o := p) (by exact rfl) (by omega) (by omega) (fun c8 => ?_) (fun c8 => ?_)
              · skip
                intro K_19 hK_19
                refine br_1 ?_
                refine s_X12_isAhead hM hI h2 (p := o) (q := p) (by exact rfl) (by exact rfl) (by omega) (by omega) (by omega) (by omega) (fun c9 => ?_) (fun c9 => ?_)
                · skip
                  refine br_1 ?_
                  refine hK_19 _ _ ?_
                  refine s_one1 ?_
                  refine al_i ((y + 1)) (jadd rfl rfl) ?_
                  refine al_i ((p + 1)) (jadd rfl rfl) ?_
                  refine ih ((x + 1)) ((y + 1)) ((p + 1)) (by omega) (by omega) (by first | (rw [hf1 (fun q => by first | exact q.1 (by assumption) | exact absurd q.2.1 (by assumption) | exact absurd q.2.2.1 (by assumption) | exact absurd q.2.2.2 (by assumption))]; omega) | (rw [ht1 ⟨by assumption, by assumption, by assumption, by assumption⟩]; omega)) (by first | (rw [hf2 (fun q => by first | exact q.1 (by assumption) | exact absurd q.2.1 (by assumption) | exact absurd q.2.2.1 (by assumption) | exact absurd q.2.2.2 (by assumption))]; omega) | (rw [ht2 ⟨by assumption, by assumption, by assumption, by assumption⟩]; omega)) (by omega)
                · skip
                  refine br_0 ?_
                  refine hK_19 _ _ ?_
                  refine s_one0 ?_
                  refine al_i ((y + 0)) (jadd rfl rfl) ?_
                  refine al_i ((p + 1)) (jadd rfl rfl) ?_
                  refine ih ((x + 1)) ((y + 0)) ((p + 1)) (by omega) (by omega) (by first | (rw [hf1 (fun q => by first | exact q.1 (by assumption) | exact absurd q.2.1 (by assumption) | exact absurd q.2.2.1 (by assumption) | exact absurd q.2.2.2 (by assumption))]; omega) | (rw [ht1 ⟨by assumption, by assumption, by assumption, by assumption⟩]; omega)) (by first | (rw [hf2 (fun q => by first | exact q.1 (by assumption) | exact absurd q.2.1 (by assumption) | exact absurd q.2.2.1 (by assumption) | exact absurd q.2.2.2 (by assumption))]; omega) | (rw [ht2 ⟨by assumption, by assumption, by assumption, by assumption⟩]; omega)) (by omega)
              · skip
                intro K_19 hK_19
                refine br_0 ?_
                refine hK_19 _ _ ?_
                refine s_one0 ?_
                refine al_i ((y + 0)) (jadd rfl rfl) ?_
                refine al_i ((p + 1)) (jadd rfl rfl) ?_
                refine ih ((x + 1)) ((y + 0)) ((p + 1)) (by omega) (by omega) (by first | (rw [hf1 (fun q => by first | exact q.1 (by assumption) | exact absurd q.2.1 (by assumption) | exact absurd q.2.2.1 (by assumption) | exact absurd q.2.2.2 (by assumption))]; omega) | (rw [ht1 ⟨by assumption, by assumption, by assumption, by assumption⟩]; omega)) (by first | (rw [hf2 (fun q => by first | exact q.1 (by assumption) | exact absurd q.2.1 (by assumption) | exact absurd q.2.2.1 (by assumption) | exact absurd q.2.2.2 (by assumption))]; omega) | (rw [ht2 ⟨by assumption, by assumption, by assumption, by assumption⟩]; omega)) (by omega)
            · skip
              refine br_0 ?_
              refine hK_11 _ _ ?_
              refine s_one0 ?_
              refine al_i ((x + 0)) (jadd rfl rfl) ?_
              refine s_X12_goesDown hM hI h2 (o := p) (by exact rfl) (by omega) (by omega) (fun c10 => ?_) (fun c10 => ?_)
              · skip
                intro K_19 hK_19
                refine br_1 ?_
                refine s_X12_isAhead hM hI h2 (p := o) (q := p) (by exact rfl) (by exact rfl) (by omega) (by omega) (by omega) (by omega) (fun c11 => ?_) (fun c11 => ?_)
                · skip
                  refine br_1 ?_
                  refine hK_19 _ _ ?_
                  refine s_one1 ?_
                  refine al_i ((y + 1)) (jadd rfl rfl) ?_
                  refine al_i ((p + 1)) (jadd rfl rfl) ?_
                  refine ih ((x + 0)) ((y + 1)) ((p + 1)) (by omega) (by omega) (by first | (rw [hf1 (fun q => by first | exact q.1 (by assumption) | exact absurd q.2.1 (by assumption) | exact absurd q.2.2.1 (by assumption) | exact absurd q.2.2.2 (by assumption))]; omega) | (rw [ht1 ⟨by assumption, by assumption, by assumption, by assumption⟩]; omega)) (by first | (rw [hf2 (fun q => by first | exact q.1 (by assumption) | exact absurd q.2.1 (by assumption) | exact absurd q.2.2.1 (by assumption) | exact absurd q.2.2.2 (by assumption))]; omega) | (rw [ht2 ⟨by assumption, by assumption, by assumption, by assumption⟩]; omega)) (by omega)
                · skip
                  refine br_0 ?_
                  refine hK_19 _ _ ?_
                  refine s_one0 ?_
                  refine al_i ((y + 0)) (jadd rfl rfl) ?_
                  refine al_i ((p + 1)) (jadd rfl rfl) ?_
                  refine ih ((x + 0)) ((y + 0)) ((p + 1)) (by omega) (by omega) (by first | (rw [hf1 (fun q => by first | exact q.1 (by assumption) | exact absurd q.2.1 (by assumption) | exact absurd q.2.2.1 (by assumption) | exact absurd q.2.2.2 (by assumption))]; omega) | (rw [ht1 ⟨by assumption, by assumption, by assumption, by assumption⟩]; omega)) (by first | (rw [hf2 (fun q => by first | exact q.1 (by assumption) | exact absurd q.2.1 (by assumption) | exact absurd q.2.2.1 (by assumption) | exact absurd q.2.2.2 (by assumption))]; omega) | (rw [ht2 ⟨by assumption, by assumption, by assumption, by assumption⟩]; omega)) (by omega)
              · skip
                intro K_19 hK_19
                refine br_0 ?_
                refine hK_19 _ _ ?_
                refine s_one0 ?_
                refine al_i ((y + 0)) (jadd rfl rfl) ?_
                refine al_i ((p + 1)) (jadd rfl rfl) ?_
                refine ih ((x + 0)) ((y + 0)) ((p + 1)) (by omega) (by omega) (by first | (rw [hf1 (fun q => by first | exact q.1 (by assumption) | exact absurd q.2.1 (by assumption) | exact absurd q.2.2.1 (by assumption) | exact absurd q.2.2.2 (by assumption))]; omega) | (rw [ht1 ⟨by assumption, by assumption, by assumption, by assumption⟩]; omega)) (by first | (rw [hf2 (fun q => by first | exact q.1 (by assumption) | exact absurd q.2.1 (by assumption) | exact absurd q.2.2.1 (by assumption) | exact absurd q.2.2.2 (by assumption))]; omega) | (rw [ht2 ⟨by assumption, by assumption, by assumption, by assumption⟩]; omega)) (by omega)
          · skip
            intro K_11 hK_11
            refine br_0 ?_
            refine hK_11 _ _ ?_
            refine s_one0 ?_
            refine al_i ((x + 0)) (jadd rfl rfl) ?_
            refine s_X12_goesDown hM hI h2 (o := p) (by exact rfl) (by omega) (by omega) (fun c12 => ?_) (fun c12 => ?_)
            · skip
              intro K_19 hK_19
              refine br_1 ?_
              refine s_X12_isAhead hM hI h2 (p := o) (q := p) (by exact rfl) (by exact rfl) (by omega) (by omega) (by omega) (by omega) (fun c13 => ?_) (fun c13 => ?_)
              · skip
                refine br_1 ?_
                refine hK_19 _ _ ?_
                refine s_one1 ?_
                refine al_i ((y + 1)) (jadd rfl rfl) ?_
                refine al_i ((p + 1)) (jadd rfl rfl) ?_
                refine ih ((x + 0)) ((y + 1)) ((p + 1)) (by omega) (by omega) (by first | (rw [hf1 (fun q => by first | exact q.1 (by assumption) | exact absurd q.2.1 (by assumption) | exact absurd q.2.2.1 (by assumption) | exact absurd q.2.2.2 (by assumption))]; omega) | (rw [ht1 ⟨by assumption, by assumption, by assumption, by assumption⟩]; omega)) (by first | (rw [hf2 (fun q => by first | exact q.1 (by assumption) | exact absurd q.2.1 (by assumption) | exact absurd q.2.2.1 (by assumption) | exact absurd q.2.2.2 (by assumption))]; omega) | (rw [ht2 ⟨by assumption, by assumption, by assumption, by assumption⟩]; omega)) (by omega)
              · skip
                refine br_0 ?_
                refine hK_19 _ _ ?_
                refine s_one0 ?_
                refine al_i ((y + 0)) (jadd rfl rfl) ?_
                refine al_i ((p + 1)) (jadd rfl rfl) ?_
                refine ih ((x + 0)) ((y + 0)) ((p + 1)) (by omega) (by omega) (by first | (rw [hf1 (fun q => by first | exact q.1 (by assumption) | exact absurd q.2.1 (by assumption) | exact absurd q.2.2.1 (by assumption) | exact absurd q.2.2.2 (by assumption))]; omega) | (rw [ht1 ⟨by assumption, by assumption, by assumption, by assumption⟩]; omega)) (by first | (rw [hf2 (fun q => by first | exact q.1 (by assumption) | exact absurd q.2.1 (by assumption) | exact absurd q.2.2.1 (by assumption) | exact absurd q.2.2.2 (by assumption))]; omega) | (rw [ht2 ⟨by assumption, by assumption, by assumption, by assumption⟩]; omega)) (by omega)
            · skip
              intro K_19 hK_19
              refine br_0 ?_
              refine hK_19 _ _ ?_
              refine s_one0 ?_
              refine al_i ((y + 0)) (jadd rfl rfl) ?_
              refine al_i ((p + 1)) (jadd rfl rfl) ?_
              refine ih ((x + 0)) ((y + 0)) ((p + 1)) (by omega) (by omega) (by first | (rw [hf1 (fun q => by first | exact q.1 (by assumption) | exact absurd q.2.1 (by assumption) | exact absurd q.2.2.1 (by assumption) | exact absurd q.2.2.2 (by assumption))]; omega) | (rw [ht1 ⟨by assumption, by assumption, by assumption, by assumption⟩]; omega)) (by first | (rw [hf2 (fun q => by first | exact q.1 (by assumption) | exact absurd q.2.1 (by assumption) | exact absurd q.2.2.1 (by assumption) | exact absurd q.2.2.2 (by assumption))]; omega) | (rw [ht2 ⟨by assumption, by assumption, by assumption, by assumption⟩]; omega)) (by omega)
        · skip
          refine al_i ((p + 1)) (jadd rfl rfl) ?_
          refine ih (x) (y) ((p + 1)) (by omega) (by omega) (by first | (rw [hf1 (fun q => by first | exact q.1 (by assumption) | exact absurd q.2.1 (by assumption) | exact absurd q.2.2.1 (by assumption) | exact absurd q.2.2.2 (by assumption))]; omega) | (rw [ht1 ⟨by assumption, by assumption, by assumption, by assumption⟩]; omega)) (by first | (rw [hf2 (fun q => by first | exact q.1 (by assumption) | exact absurd q.2.1 (by assumption) | exact absurd q.2.2.1 (by assumption) | exact absurd q.2.2.2 (by assumption))]; omega) | (rw [ht2 ⟨by assumption, by assumption, by assumption, by assumption⟩]; omega)) (by omega)
