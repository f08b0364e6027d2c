/-! the reference, one seat -/
set_option maxHeartbeats 8000000 in
theorem l_X12_bits_L4 {U : Um} {w : Int} {post : Int32 → Um → Prop} {k_21 : Int32 → Um → Prop} (hk : ∀ (n : Int) , (n = w) → k_21 (jI n) U) : ∀ (fu : Nat) (n : Int) (v : Int), (0 ≤ v) → (v < 64) → (n + pcI v = w) → (v : Int).toNat < fu → w_X12_bits_L4 post k_21 fu (jI n) (jI v) U := by
  intro fu
  induction fu with
  | zero => intro n v i0 i1 i2 hm; exact absurd hm (Nat.not_lt_zero _)
  | succ fu ih =>
    intro n v i0 i1 i2 hm
    show b_X12_bits_L4 post k_21 (w_X12_bits_L4 post k_21 fu) (jI n) (jI v) U
    unfold b_X12_bits_L4
    refine br_le (v) (0) rfl rfl ⟨by omega, by omega⟩ ⟨by omega, by omega⟩ (fun c1 => ?_) (fun c1 => ?_)
    · skip
      exact hk (n) (by (have z := i2; rw [show v = 0 by omega, pcI_0] at z; omega))
    · skip
      refine al_i ((n + (v % 2))) (jadd rfl (jrem rfl rfl ⟨by omega, by omega⟩ ⟨by omega, by omega⟩ (by omega) (by omega))) ?_
      refine al_i ((v / 2)) (jdiv rfl rfl ⟨by omega, by omega⟩ ⟨by omega, by omega⟩ (by omega) (by omega)) ?_
      refine ih ((n + (v % 2))) ((v / 2)) (by first | omega | (rw [← i2, pcI_s i0 i1]; omega)) (by first | omega | (rw [← i2, pcI_s i0 i1]; omega)) (by first | omega | (rw [← i2, pcI_s i0 i1]; omega)) (by omega)
set_option maxHeartbeats 8000000 in
theorem s_X12_bits {U : Um} {a1 : Int32} {v : Int} (e_a1 : a1 = jI v) (p0 : 0 ≤ v) (p1 : v < 64) {post : Int32 → Um → Prop} (h : post (jI (pcI v)) U) : w_X12_bits  a1 U post := by
  unfold w_X12_bits
  subst e_a1
  refine al_i (v) rfl ?_
  refine ⟨(v : Int).toNat + 1, l_X12_bits_L4  (w := pcI v)   (fun y1 c2 => ?_)  _ (0) (v) (by first | assumption | omega | grind) (by first | assumption | omega | grind) (by first | assumption | omega | grind) (by omega)⟩
  · skip
    have q : (pcI v : Int) = y1 := by omega
    rw [q] at h
    exact pst rfl h
set_option maxHeartbeats 8000000 in
theorem l_X12_whyNot_L153 {U : Um} {T : Tm} (hM : M U T) (hI : I1 T) (h2 : I2 T) {x1 : Int32} {g : Int} {x3 : Int32} {o : Int} (e_x1 : x1 = jI g) (e_x3 : x3 = jI o) (p0 : 0 ≤ g) (p1 : g < T 11 3) (p2 : 0 ≤ o) (p3 : o < T 11 2) {post : Int32 → Um → Prop} {k_279 : Int32 → Int32 → Int32 → Int32 → Um → Prop} (hk : ∀ (n : Int) (b : Int32) (m : Int) (l : Int) , (n = cnt (otherS T (inGame T o) g) (T 11 3)) → (0 ≤ n ∧ n ≤ 16) → (∀ f, 0 ≤ f → f < 32 → (bt b f ↔ fldS T (inGame T o) g (T 11 3) f)) → (((m = 0 ∧ ¬ meetS T (inGame T o) g (T 11 3)) ∨ (m = 1 ∧ meetS T (inGame T o) g (T 11 3)))) → (((l = 0 ∧ ¬ lateS T (inGame T o) g o (T 11 3)) ∨ (l = 1 ∧ lateS T (inGame T o) g o (T 11 3)))) → k_279 (jI n) b (jI m) (jI l) U) : ∀ (fu : Nat) (n : Int) (b : Int32) (m : Int) (l : Int) (k : Int), (0 ≤ k) → (k ≤ T 11 3) → (n = cnt (otherS T (inGame T o) g) k) → (∀ f, 0 ≤ f → f < 32 → (bt b f ↔ fldS T (inGame T o) g k f)) → (((m = 0 ∧ ¬ meetS T (inGame T o) g k) ∨ (m = 1 ∧ meetS T (inGame T o) g k))) → (((l = 0 ∧ ¬ lateS T (inGame T o) g o k) ∨ (l = 1 ∧ lateS T (inGame T o) g o k))) → (T 11 3 - k : Int).toNat < fu → w_X12_whyNot_L153 55 x1 x3 post k_279 fu (jI n) b (jI m) (jI l) (jI k) U := by
  have hn := I_n hI
  subst e_x3
  subst e_x1
  intro fu
  induction fu with
  | zero => intro n b m l k i0 i1 i2 i3 i4 i5 hm; exact absurd hm (Nat.not_lt_zero _)
  | succ fu ih =>
    intro n b m l k i0 i1 i2 i3 i4 i5 hm
    show b_X12_whyNot_L153 55 (jI g) (jI o) post k_279 (w_X12_whyNot_L153 55 (jI g) (jI o) post k_279 fu) (jI n) b (jI m) (jI l) (jI k) U
    unfold b_X12_whyNot_L153
    have hg := I_g hI g (by omega) (by omega)
    have ho := I_o hI o (by omega) (by omega)
    have hcb := cnt_b (p := otherS T (inGame T o) g) i0
    refine ⟨jvp (3) rfl (by omega) (by omega) (by decide), ?_⟩
    refine br_le ((T 11 (3))) (k) (rdA (M_A hM 11 7) (3) rfl (by omega) (by omega)) rfl ⟨by omega, by omega⟩ ⟨by omega, by omega⟩ (fun c1 => ?_) (fun c1 => ?_)
    · skip
      exact hk (n) (b) (m) (l) (by rw [show T 11 3 = k by omega]; exact i2) (by omega) (by rw [show T 11 3 = k by omega]; exact i3) (by rw [show T 11 3 = k by omega]; exact i4) (by rw [show T 11 3 = k by omega]; exact i5)
    · skip
      refine s_X12_isOther hM hI h2 (o := o) (g := g) (k := k) (by exact rfl) (by exact rfl) (by exact rfl) (by omega) (by omega) (by omega) (by omega) (by omega) (fun c2 => ?_) (fun c2 => ?_)
      · skip
        refine br_1 ?_
        refine al_i ((n + 1)) (jadd rfl rfl) ?_
        have f3 := I_g hI (k) (by omega) (by omega)
        unfold gOk at f3
        refine s_X12_of hM hI h2 (g := k) (k := 2) (by exact rfl) (by exact rfl) (by omega) (by omega) (by omega) (by omega) ?_
        intro x5_27 hx5_27
        intro K_28 hK_28
        refine br_eq (m) (0) rfl rfl ⟨by omega, by omega⟩ ⟨by omega, by omega⟩ (fun c4 => ?_) (fun c4 => ?_)
        · skip
          refine s_X12_areAtOnce hM hI h2 (g := g) (k := k) (by exact rfl) (by exact rfl) (by omega) (by omega) (by omega) (by omega) (fun c5 => ?_) (fun c5 => ?_)
          · skip
            refine br_1 ?_
            refine hK_28 _ _ ?_
            have f6 := I_g hI (g) (by omega) (by omega)
            unfold gOk at f6
            refine s_X12_of hM hI h2 (g := g) (k := 2) (by exact rfl) (by exact rfl) (by omega) (by omega) (by omega) (by omega) ?_
            refine s_X12_of hM hI h2 (g := k) (k := 2) (by exact rfl) (by exact rfl) (by omega) (by omega) (by omega) (by omega) ?_
            refine s_X12_wayOf hM hI h2 (a := gm T g 2) (b := gm T k 2) (by exact rfl) (by exact rfl) (by omega) (by omega) (by omega) (by omega) ?_
            have f7 := I_wS hI ((gm T g 2)) ((gm T k 2)) (by omega) (by omega) (by omega) (by omega)
            refine br_eq (l) (0) rfl rfl ⟨by omega, by omega⟩ ⟨by omega, by omega⟩ (fun c8 => ?_) (fun c8 => ?_)
            · skip
              refine br_eq (wayS T (gm T g 2) (gm T k 2)) ((-1)) rfl rfl ⟨by omega, by omega⟩ ⟨by omega, by omega⟩ (fun c9 => ?_) (fun c9 => ?_)
              · skip
                refine al_i ((k + 1)) (jadd rfl rfl) ?_
                refine ih ((n + 1)) (x5_27) (1) (1) ((k + 1)) (by omega) (by omega) (by first | (rw [cnt_t i0 c2, ← i2]) | (rw [cnt_f i0 c2]; exact i2)) (by first | exact fld_t i0 (by omega) (by omega) i3 c2 hx5_27 | exact fld_f i0 i3 c2) (by rw [meet_s i0]; grind) (by rw [late_s i0]; grind) (by omega)
              · skip
                refine s_X12_between hM hI h2 (g := g) (k := k) (by exact rfl) (by exact rfl) (by omega) (by omega) (by omega) (by omega) ?_
                have f10 := I_b hI (g) (k) (by omega) (by omega) (by omega) (by omega)
                refine ⟨jvp (4) rfl (by omega) (by omega) (by decide), ?_⟩
                refine br_le ((wayS T (gm T g 2) (gm T k 2) + (T 11 (4)))) (betw T g k) (jadd rfl (rdA (M_A hM 11 7) (4) rfl (by omega) (by omega))) rfl ⟨by omega, by omega⟩ ⟨by omega, by omega⟩ (fun c11 => ?_) (fun c11 => ?_)
                · skip
                  refine al_i ((k + 1)) (jadd rfl rfl) ?_
                  refine ih ((n + 1)) (x5_27) (1) (0) ((k + 1)) (by omega) (by omega) (by first | (rw [cnt_t i0 c2, ← i2]) | (rw [cnt_f i0 c2]; exact i2)) (by first | exact fld_t i0 (by omega) (by omega) i3 c2 hx5_27 | exact fld_f i0 i3 c2) (by rw [meet_s i0]; grind) (by rw [late_s i0]; grind) (by omega)
                · skip
                  refine al_i ((k + 1)) (jadd rfl rfl) ?_
                  refine ih ((n + 1)) (x5_27) (1) (1) ((k + 1)) (by omega) (by omega) (by first | (rw [cnt_t i0 c2, ← i2]) | (rw [cnt_f i0 c2]; exact i2)) (by first | exact fld_t i0 (by omega) (by omega) i3 c2 hx5_27 | exact fld_f i0 i3 c2) (by rw [meet_s i0]; grind) (by rw [late_s i0]; grind) (by omega)
            · skip
              refine al_i ((k + 1)) (jadd rfl rfl) ?_
              refine ih ((n + 1)) (x5_27) (1) (1) ((k + 1)) (by omega) (by omega) (by first | (rw [cnt_t i0 c2, ← i2]) | (rw [cnt_f i0 c2]; exact i2)) (by first | exact fld_t i0 (by omega) (by omega) i3 c2 hx5_27 | exact fld_f i0 i3 c2) (by rw [meet_s i0]; grind) (by rw [late_s i0]; grind) (by omega)
          · skip
            refine br_0 ?_
            refine hK_28 _ _ ?_
            have f12 := I_g hI (g) (by omega) (by omega)
            unfold gOk at f12
            refine s_X12_of hM hI h2 (g := g) (k := 2) (by exact rfl) (by exact rfl) (by omega) (by omega) (by omega) (by omega) ?_
            refine s_X12_of hM hI h2 (g := k) (k := 2) (by exact rfl) (by exact rfl) (by omega) (by omega) (by omega) (by omega) ?_
            refine s_X12_wayOf hM hI h2 (a := gm T g 2) (b := gm T k 2) (by exact rfl) (by exact rfl) (by omega) (by omega) (by omega) (by omega) ?_
            have f13 := I_wS hI ((gm T g 2)) ((gm T k 2)) (by omega) (by omega) (by omega) (by omega)
            refine br_eq (l) (0) rfl rfl ⟨by omega, by omega⟩ ⟨by omega, by omega⟩ (fun c14 => ?_) (fun c14 => ?_)
            · skip
              refine br_eq (wayS T (gm T g 2) (gm T k 2)) ((-1)) rfl rfl ⟨by omega, by omega⟩ ⟨by omega, by omega⟩ (fun c15 => ?_) (fun c15 => ?_)
              · skip
                refine al_i ((k + 1)) (jadd rfl rfl) ?_
                refine ih ((n + 1)) (x5_27) (0) (1) ((k + 1)) (by omega) (by omega) (by first | (rw [cnt_t i0 c2, ← i2]) | (rw [cnt_f i0 c2]; exact i2)) (by first | exact fld_t i0 (by omega) (by omega) i3 c2 hx5_27 | exact fld_f i0 i3 c2) (by rw [meet_s i0]; grind) (by rw [late_s i0]; grind) (by omega)
              · skip
                refine s_X12_between hM hI h2 (g := g) (k := k) (by exact rfl) (by exact rfl) (by omega) (by omega) (by omega) (by omega) ?_
                have f16 := I_b hI (g) (k) (by omega) (by omega) (by omega) (by omega)
                refine ⟨jvp (4) rfl (by omega) (by omega) (by decide), ?_⟩
                refine br_le ((wayS T (gm T g 2) (gm T k 2) + (T 11 (4)))) (betw T g k) (jadd rfl (rdA (M_A hM 11 7) (4) rfl (by omega) (by omega))) rfl ⟨by omega, by omega⟩ ⟨by omega, by omega⟩ (fun c17 => ?_) (fun c17 => ?_)
                · skip
                  refine al_i ((k + 1)) (jadd rfl rfl) ?_
                  refine ih ((n + 1)) (x5_27) (0) (0) ((k + 1)) (by omega) (by omega) (by first | (rw [cnt_t i0 c2, ← i2]) | (rw [cnt_f i0 c2]; exact i2)) (by first | exact fld_t i0 (by omega) (by omega) i3 c2 hx5_27 | exact fld_f i0 i3 c2) (by rw [meet_s i0]; grind) (by rw [late_s i0]; grind) (by omega)
                · skip
                  refine al_i ((k + 1)) (jadd rfl rfl) ?_
                  refine ih ((n + 1)) (x5_27) (0) (1) ((k + 1)) (by omega) (by omega) (by first | (rw [cnt_t i0 c2, ← i2]) | (rw [cnt_f i0 c2]; exact i2)) (by first | exact fld_t i0 (by omega) (by omega) i3 c2 hx5_27 | exact fld_f i0 i3 c2) (by rw [meet_s i0]; grind) (by rw [late_s i0]; grind) (by omega)
            · skip
              refine al_i ((k + 1)) (jadd rfl rfl) ?_
              refine ih ((n + 1)) (x5_27) (0) (1) ((k + 1)) (by omega) (by omega) (by first | (rw [cnt_t i0 c2, ← i2]) | (rw [cnt_f i0 c2]; exact i2)) (by first | exact fld_t i0 (by omega) (by omega) i3 c2 hx5_27 | exact fld_f i0 i3 c2) (by rw [meet_s i0]; grind) (by rw [late_s i0]; grind) (by omega)
        · skip
          refine hK_28 _ _ ?_
          have f18 := I_g hI (g) (by omega) (by omega)
          unfold gOk at f18
          refine s_X12_of hM hI h2 (g := g) (k := 2) (by exact rfl) (by exact rfl) (by omega) (by omega) (by omega) (by omega) ?_
          refine s_X12_of hM hI h2 (g := k) (k := 2) (by exact rfl) (by exact rfl) (by omega) (by omega) (by omega) (by omega) ?_
          refine s_X12_wayOf hM hI h2 (a := gm T g 2) (b := gm T k 2) (by exact rfl) (by exact rfl) (by omega) (by omega) (by omega) (by omega) ?_
          have f19 := I_wS hI ((gm T g 2)) ((gm T k 2)) (by omega) (by omega) (by omega) (by omega)
          refine br_eq (l) (0) rfl rfl ⟨by omega, by omega⟩ ⟨by omega, by omega⟩ (fun c20 => ?_) (fun c20 => ?_)
          · skip
            refine br_eq (wayS T (gm T g 2) (gm T k 2)) ((-1)) rfl rfl ⟨by omega, by omega⟩ ⟨by omega, by omega⟩ (fun c21 => ?_) (fun c21 => ?_)
            · skip
              refine al_i ((k + 1)) (jadd rfl rfl) ?_
              refine ih ((n + 1)) (x5_27) (1) (1) ((k + 1)) (by omega) (by omega) (by first | (rw [cnt_t i0 c2, ← i2]) | (rw [cnt_f i0 c2]; exact i2)) (by first | exact fld_t i0 (by omega) (by omega) i3 c2 hx5_27 | exact fld_f i0 i3 c2) (by rw [meet_s i0]; grind) (by rw [late_s i0]; grind) (by omega)
            · skip
              refine s_X12_between hM hI h2 (g := g) (k := k) (by exact rfl) (by exact rfl) (by omega) (by omega) (by omega) (by omega) ?_
              have f22 := I_b hI (g) (k) (by omega) (by omega) (by omega) (by omega)
              refine ⟨jvp (4) rfl (by omega) (by omega) (by decide), ?_⟩
              refine br_le ((wayS T (gm T g 2) (gm T k 2) + (T 11 (4)))) (betw T g k) (jadd rfl (rdA (M_A hM 11 7) (4) rfl (by omega) (by omega))) rfl ⟨by omega, by omega⟩ ⟨by omega, by omega⟩ (fun c23 => ?_) (fun c23 => ?_)
              · skip
                refine al_i ((k + 1)) (jadd rfl rfl) ?_
                refine ih ((n + 1)) (x5_27) (1) (0) ((k + 1)) (by omega) (by omega) (by first | (rw [cnt_t i0 c2, ← i2]) | (rw [cnt_f i0 c2]; exact i2)) (by first | exact fld_t i0 (by omega) (by omega) i3 c2 hx5_27 | exact fld_f i0 i3 c2) (by rw [meet_s i0]; grind) (by rw [late_s i0]; grind) (by omega)
              · skip
                refine al_i ((k + 1)) (jadd rfl rfl) ?_
                refine ih ((n + 1)) (x5_27) (1) (1) ((k + 1)) (by omega) (by omega) (by first | (rw [cnt_t i0 c2, ← i2]) | (rw [cnt_f i0 c2]; exact i2)) (by first | exact fld_t i0 (by omega) (by omega) i3 c2 hx5_27 | exact fld_f i0 i3 c2) (by rw [meet_s i0]; grind) (by rw [late_s i0]; grind) (by omega)
          · skip
            refine al_i ((k + 1)) (jadd rfl rfl) ?_
            refine ih ((n + 1)) (x5_27) (1) (1) ((k + 1)) (by omega) (by omega) (by first | (rw [cnt_t i0 c2, ← i2]) | (rw [cnt_f i0 c2]; exact i2)) (by first | exact fld_t i0 (by omega) (by omega) i3 c2 hx5_27 | exact fld_f i0 i3 c2) (by rw [meet_s i0]; grind) (by rw [late_s i0]; grind) (by omega)
      · skip
        refine br_0 ?_
        refine al_i ((k + 1)) (jadd rfl rfl) ?_
        refine ih (n) (b) (m) (l) ((k + 1)) (by omega) (by omega) (by first | (rw [cnt_t i0 c2, ← i2]) | (rw [cnt_f i0 c2]; exact i2)) (by first | exact fld_t i0 (by omega) (by omega) i3 c2 hx5_27 | exact fld_f i0 i3 c2) (by rw [meet_s i0]; grind) (by rw [late_s i0]; grind) (by omega)
set_option maxHeartbeats 8000000 in
theorem s_X12_whyNot {U : Um} {T : Tm} (hM : M U T) (hI : I1 T) (h2 : I2 T) {a1 : Int32} {g : Int} {a2 : Int32} {s : Int} {a3 : Int32} {o : Int} (e_a1 : a1 = jI g) (e_a2 : a2 = jI s) (e_a3 : a3 = jI o) (p0 : 0 ≤ g) (p1 : g < T 11 3) (p2 : 0 ≤ s) (p3 : s < gm T g 7) (p4 : 0 ≤ o) (p5 : o < T 11 2) {post : Int32 → Um → Prop} (h : post (jI (whyS T g s o)) U) : w_X12_whyNot 55 a1 a2 a3 U post := by
  unfold w_X12_whyNot
  subst e_a1
  subst e_a2
  subst e_a3
  have hn := I_n hI
  have f1 := I_g hI (g) (by omega) (by omega)
  unfold gOk at f1
  refine s_X12_at (g := g) (s := s) (by exact rfl) (by exact rfl)  ?_
  refine ⟨jvp ((3 * g + s)) rfl (by omega) (by omega) (by decide), ?_⟩
  have f2 := I_k h2 ((3 * g + s)) (by omega) (by omega)
  refine br_eq ((T 30 ((3 * g + s)))) ((-1)) (rdA (M_A hM 30 48) ((3 * g + s)) rfl (by omega) (by omega)) rfl ⟨by omega, by omega⟩ ⟨by omega, by omega⟩ (fun c3 => ?_) (fun c3 => ?_)
  · skip
    refine s_X12_isInGame hM hI h2 (o := o) (g := g) (by exact rfl) (by exact rfl) (by omega) (by omega) (by omega) (fun c4 => ?_) (fun c4 => ?_)
    · skip
      refine br_1 ?_
      have q : (whyS T g s o : Int) = 4 := by unfold whyS hind; (repeat (first | rw [cif_t (by first | assumption | omega)] | rw [cif_f (by first | assumption | omega)] | rw [cif_t (by grind)] | rw [cif_f (by grind)]))
      rw [q] at h
      exact pst rfl h
    · skip
      refine br_0 ?_
      refine ⟨jvp (o) rfl (by omega) (by omega) (by decide), ?_⟩
      refine s_X12_needOf hM hI h2 (g := g) (s := s) (by exact rfl) (by exact rfl) (by omega) (by omega) (by omega) ?_
      have f5 := I_need hI (g) (s) (by omega) (by omega)
      have f6 := I_r h2 (o) (by omega) (by omega)
      unfold r32 at f6
      refine br_le (needS T g s) ((T 32 (o))) rfl (rdA (M_A hM 32 10) (o) rfl (by omega) (by omega)) ⟨by omega, by omega⟩ ⟨by omega, by omega⟩ (fun c7 => ?_) (fun c7 => ?_)
      · skip
        refine ⟨jvp (o) rfl (by omega) (by omega) (by decide), ?_⟩
        refine s_X12_of hM hI h2 (g := g) (k := 0) (by exact rfl) (by exact rfl) (by omega) (by omega) (by omega) (by omega) ?_
        have f8 := I_o hI (o) (by omega) (by omega)
        unfold r32 at f8
        refine br_bt1 (B2 := (jI ((T 7 (o))))) (gm T g 0) (rdA (M_A hM 7 10) (o) rfl (by omega) (by omega)) rfl (by omega) (by omega) (fun c9 => ?_) (fun c9 => ?_)
        · skip
          have q : (whyS T g s o : Int) = 6 := by unfold whyS hind; (repeat (first | rw [cif_t (by first | assumption | omega)] | rw [cif_f (by first | assumption | omega)] | rw [cif_t (by grind)] | rw [cif_f (by grind)]))
          rw [q] at h
          exact pst rfl h
        · skip
          refine ⟨jvp (o) rfl (by omega) (by omega) (by decide), ?_⟩
          refine s_X12_of hM hI h2 (g := g) (k := 1) (by exact rfl) (by exact rfl) (by omega) (by omega) (by omega) (by omega) ?_
          refine br_bt1 (B2 := (jI ((T 7 (o))))) (gm T g 1) (rdA (M_A hM 7 10) (o) rfl (by omega) (by omega)) rfl (by omega) (by omega) (fun c10 => ?_) (fun c10 => ?_)
          · skip
            have q : (whyS T g s o : Int) = 6 := by unfold whyS hind; (repeat (first | rw [cif_t (by first | assumption | omega)] | rw [cif_f (by first | assumption | omega)] | rw [cif_t (by grind)] | rw [cif_f (by grind)]))
            rw [q] at h
            exact pst rfl h
          · skip
            refine ⟨jvp (o) rfl (by omega) (by omega) (by decide), ?_⟩
            refine s_X12_of hM hI h2 (g := g) (k := 3) (by exact rfl) (by exact rfl) (by omega) (by omega) (by omega) (by omega) ?_
            refine br_bt1 (B2 := (jI ((T 8 (o))))) (gm T g 3) (rdA (M_A hM 8 10) (o) rfl (by omega) (by omega)) rfl (by omega) (by omega) (fun c11 => ?_) (fun c11 => ?_)
            · skip
              have q : (whyS T g s o : Int) = 7 := by unfold whyS hind; (repeat (first | rw [cif_t (by first | assumption | omega)] | rw [cif_f (by first | assumption | omega)] | rw [cif_t (by grind)] | rw [cif_f (by grind)]))
              rw [q] at h
              exact pst rfl h
            · skip
              refine s_X12_of hM hI h2 (g := g) (k := 2) (by exact rfl) (by exact rfl) (by omega) (by omega) (by omega) (by omega) ?_
              intro x5_15 hx5_15
              refine ⟨jvp (o) rfl (by omega) (by omega) (by decide), ?_⟩
              refine s_X12_of hM hI h2 (g := g) (k := 2) (by exact rfl) (by exact rfl) (by omega) (by omega) (by omega) (by omega) ?_
              refine s_X12_wayOf hM hI h2 (a := (T 6 (o))) (b := gm T g 2) (by exact (rdA (M_A hM 6 10) (o) rfl (by omega) (by omega))) (by exact rfl) (by omega) (by omega) (by omega) (by omega) ?_
              have f12 := I_wS hI (((T 6 (o)))) ((gm T g 2)) (by omega) (by omega) (by omega) (by omega)
              refine al_if (wayS T ((T 6 (o))) (gm T g 2)) ((-1)) rfl rfl ⟨by omega, by omega⟩ ⟨by omega, by omega⟩ (fun c13 => ?_) (fun c13 => ?_)
              · skip
                refine ⟨(T 11 3 - 0 : Int).toNat + 1, l_X12_whyNot_L153 hM hI h2 (g := g) (o := o) (by exact rfl) (by exact rfl) (by omega) (by omega) (by omega) (by omega) (fun y14 y15 y16 y17 c18 c19 c20 c21 c22 => ?_)  _ (0) (x5_15) (0) (1) (0) (by omega) (by omega) (by rw [cnt_0 (by decide)]) (by exact fld_0 (by omega) (by omega) hx5_15) (by exact Or.inl ⟨rfl, meet_0⟩) (by rw [late_0]; first | exact Or.inr ⟨rfl, by assumption⟩ | exact Or.inl ⟨rfl, by assumption⟩) (by omega)⟩
                · skip
                  have fb := fld_cnt hI p0 p1 c20
                  refine ⟨jvp (5) rfl (by omega) (by omega) (by decide), ?_⟩
                  refine br_lt (y14) ((T 11 (5))) rfl (rdA (M_A hM 11 7) (5) rfl (by omega) (by omega)) ⟨by omega, by omega⟩ ⟨by omega, by omega⟩ (fun c26 => ?_) (fun c26 => ?_)
                  · skip
                    refine br_eq (y16) (0) rfl rfl ⟨by omega, by omega⟩ ⟨by omega, by omega⟩ (fun c27 => ?_) (fun c27 => ?_)
                    · skip
                      refine br_eq (y17) (0) rfl rfl ⟨by omega, by omega⟩ ⟨by omega, by omega⟩ (fun c28 => ?_) (fun c28 => ?_)
                      · skip
                        refine s_X12_bits (v := (y15.toInt)) (by exact (jI_of y15).symm) (by omega) (by omega) ?_
                        have f29 := pcI_b (((y15.toInt)))
                        refine br_le (pcI ((y15.toInt))) (2) rfl rfl ⟨by omega, by omega⟩ ⟨by omega, by omega⟩ (fun c30 => ?_) (fun c30 => ?_)
                        · skip
                          have q : (whyS T g s o : Int) = 0 := by unfold whyS hind; (repeat (first | rw [cif_t (by first | assumption | omega)] | rw [cif_f (by first | assumption | omega)] | rw [cif_t (by grind)] | rw [cif_f (by grind)]))
                          rw [q] at h
                          exact pst rfl h
                        · skip
                          have q : (whyS T g s o : Int) = 11 := by unfold whyS hind; (repeat (first | rw [cif_t (by first | assumption | omega)] | rw [cif_f (by first | assumption | omega)] | rw [cif_t (by grind)] | rw [cif_f (by grind)]))
                          rw [q] at h
                          exact pst rfl h
                      · skip
                        have q : (whyS T g s o : Int) = 10 := by unfold whyS hind; (repeat (first | rw [cif_t (by first | assumption | omega)] | rw [cif_f (by first | assumption | omega)] | rw [cif_t (by grind)] | rw [cif_f (by grind)]))
                        rw [q] at h
                        exact pst rfl h
                    · skip
                      have q : (whyS T g s o : Int) = 9 := by unfold whyS hind; (repeat (first | rw [cif_t (by first | assumption | omega)] | rw [cif_f (by first | assumption | omega)] | rw [cif_t (by grind)] | rw [cif_f (by grind)]))
                      rw [q] at h
                      exact pst rfl h
                  · skip
                    have q : (whyS T g s o : Int) = 8 := by unfold whyS hind; (repeat (first | rw [cif_t (by first | assumption | omega)] | rw [cif_f (by first | assumption | omega)] | rw [cif_t (by grind)] | rw [cif_f (by grind)]))
                    rw [q] at h
                    exact pst rfl h
              · skip
                refine ⟨(T 11 3 - 0 : Int).toNat + 1, l_X12_whyNot_L153 hM hI h2 (g := g) (o := o) (by exact rfl) (by exact rfl) (by omega) (by omega) (by omega) (by omega) (fun y31 y32 y33 y34 c35 c36 c37 c38 c39 => ?_)  _ (0) (x5_15) (0) (0) (0) (by omega) (by omega) (by rw [cnt_0 (by decide)]) (by exact fld_0 (by omega) (by omega) hx5_15) (by exact Or.inl ⟨rfl, meet_0⟩) (by rw [late_0]; first | exact Or.inr ⟨rfl, by assumption⟩ | exact Or.inl ⟨rfl, by assumption⟩) (by omega)⟩
                · skip
                  have fb := fld_cnt hI p0 p1 c37
                  refine ⟨jvp (5) rfl (by omega) (by omega) (by decide), ?_⟩
                  refine br_lt (y31) ((T 11 (5))) rfl (rdA (M_A hM 11 7) (5) rfl (by omega) (by omega)) ⟨by omega, by omega⟩ ⟨by omega, by omega⟩ (fun c43 => ?_) (fun c43 => ?_)
                  · skip
                    refine br_eq (y33) (0) rfl rfl ⟨by omega, by omega⟩ ⟨by omega, by omega⟩ (fun c44 => ?_) (fun c44 => ?_)
                    · skip
                      refine br_eq (y34) (0) rfl rfl ⟨by omega, by omega⟩ ⟨by omega, by omega⟩ (fun c45 => ?_) (fun c45 => ?_)
                      · skip
                        refine s_X12_bits (v := (y32.toInt)) (by exact (jI_of y32).symm) (by omega) (by omega) ?_
                        have f46 := pcI_b (((y32.toInt)))
                        refine br_le (pcI ((y32.toInt))) (2) rfl rfl ⟨by omega, by omega⟩ ⟨by omega, by omega⟩ (fun c47 => ?_) (fun c47 => ?_)
                        · skip
                          have q : (whyS T g s o : Int) = 0 := by unfold whyS hind; (repeat (first | rw [cif_t (by first | assumption | omega)] | rw [cif_f (by first | assumption | omega)] | rw [cif_t (by grind)] | rw [cif_f (by grind)]))
                          rw [q] at h
                          exact pst rfl h
                        · skip
                          have q : (whyS T g s o : Int) = 11 := by unfold whyS hind; (repeat (first | rw [cif_t (by first | assumption | omega)] | rw [cif_f (by first | assumption | omega)] | rw [cif_t (by grind)] | rw [cif_f (by grind)]))
                          rw [q] at h
                          exact pst rfl h
                      · skip
                        have q : (whyS T g s o : Int) = 10 := by unfold whyS hind; (repeat (first | rw [cif_t (by first | assumption | omega)] | rw [cif_f (by first | assumption | omega)] | rw [cif_t (by grind)] | rw [cif_f (by grind)]))
                        rw [q] at h
                        exact pst rfl h
                    · skip
                      have q : (whyS T g s o : Int) = 9 := by unfold whyS hind; (repeat (first | rw [cif_t (by first | assumption | omega)] | rw [cif_f (by first | assumption | omega)] | rw [cif_t (by grind)] | rw [cif_f (by grind)]))
                      rw [q] at h
                      exact pst rfl h
                  · skip
                    have q : (whyS T g s o : Int) = 8 := by unfold whyS hind; (repeat (first | rw [cif_t (by first | assumption | omega)] | rw [cif_f (by first | assumption | omega)] | rw [cif_t (by grind)] | rw [cif_f (by grind)]))
                    rw [q] at h
                    exact pst rfl h
      · skip
        have q : (whyS T g s o : Int) = 5 := by unfold whyS hind; (repeat (first | rw [cif_t (by first | assumption | omega)] | rw [cif_f (by first | assumption | omega)] | rw [cif_t (by grind)] | rw [cif_f (by grind)]))
        rw [q] at h
        exact pst rfl h
  · skip
    have q : (whyS T g s o : Int) = 3 := by unfold whyS hind; (repeat (first | rw [cif_t (by first | assumption | omega)] | rw [cif_f (by first | assumption | omega)] | rw [cif_t (by grind)] | rw [cif_f (by grind)]))
    rw [q] at h
    exact pst rfl h
