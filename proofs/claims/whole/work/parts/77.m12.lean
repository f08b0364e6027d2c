/-! the reference, shelves -/
set_option maxHeartbeats 8000000 in
theorem s_X12_isPlace {U : Um} {T : Tm} (hM : M U T) (hI : I1 T) (h2 : I2 T) {a1 : Int32} {s : Int} {a2 : Int32} {p : Int} (e_a1 : a1 = jI s) (e_a2 : a2 = jI p) (p0 : r32 s) (p1 : r32 p) (p2 : I5 T) {post : Int32 → Um → Prop} (h1 : isPl T s p → post 1 U) (h0 : ¬ isPl T s p → post 0 U) : w_X12_isPlace 55 a1 a2 U post := by
  unfold w_X12_isPlace
  subst e_a1
  subst e_a2
  have hn := I_n hI
  have h5 := fun c0 c1 => p2 s c0 c1
  refine s_X12_isIn (a := s) (lo := 0) (hi := 2) (by exact (jlong rfl ⟨by omega, by omega⟩)) (by exact rfl) (by exact rfl) (by omega) (by omega) (by omega) (fun c1 => ?_) (fun c1 => ?_)
  · skip
    refine br_1 ?_
    refine ⟨jvp (s) rfl (by omega) (by omega) (by decide), ?_⟩
    refine s_X12_isIn (a := p) (lo := 0) (hi := ((T 50 (s)) - 1)) (by exact (jlong rfl ⟨by omega, by omega⟩)) (by exact rfl) (by exact (jlong (jsub (rdA (M_A hM 50 3) (s) rfl (by omega) (by omega)) rfl) ⟨by omega, by omega⟩)) (by omega) (by omega) (by omega) (fun c2 => ?_) (fun c2 => ?_)
    · skip
      refine br_1 ?_
      exact h1 (by omega)
    · skip
      refine br_0 ?_
      exact h0 (by omega)
  · skip
    refine br_0 ?_
    exact h0 (by omega)
set_option maxHeartbeats 8000000 in
theorem l_X12_shelf_L78 {U : Um} {T : Tm} (hM : M U T) {x1 : Int32} {s : Int} {x3 : Int32} {n : Int} (e_x1 : x1 = jI s) (e_x3 : x3 = jI n) (p0 : 0 ≤ s) (p1 : s ≤ 2) {post : Int32 → Um → Prop} {k_104 : Um → Prop} (hk : ∀ (U2 : Um) , M U2 (blk T 53 (20 * s) 20 (fun _ => 0)) → fM U U2 → (uI U2 55 0 = 0) → k_104 U2) : ∀ (fu : Nat) (k : Int) (U2 : Um), M U2 (blk T 53 (20 * s) k (fun _ => 0)) → fM U U2 → (0 ≤ k) → (k ≤ 20) → (uI U2 55 0 = 0) → (20 - k : Int).toNat < fu → w_X12_shelf_L78 55 x1 x3 post k_104 fu (jI k) U2 := by
  subst e_x3
  subst e_x1
  intro fu
  induction fu with
  | zero => intro k V hM2 hF2 i0 i1 i2 hm; exact absurd hm (Nat.not_lt_zero _)
  | succ fu ih =>
    intro k V hM2 hF2 i0 i1 i2 hm
    show b_X12_shelf_L78 55 (jI s) (jI n) post k_104 (w_X12_shelf_L78 55 (jI s) (jI n) post k_104 fu) (jI k) V
    unfold b_X12_shelf_L78
    refine br_le (20) (k) rfl rfl ⟨by omega, by omega⟩ ⟨by omega, by omega⟩ (fun c1 => ?_) (fun c1 => ?_)
    · skip
      have q2 : (blk T 53 (20 * s) k (fun _ => 0)) = (blk T 53 (20 * s) 20 (fun _ => 0)) := by rw [show k = 20 by omega]
      have m3 : M V (blk T 53 (20 * s) 20 (fun _ => 0)) := by rw [q2] at hM2; exact hM2
      exact hk  _ m3 hF2 (by exact i2)
    · skip
      refine ⟨jvp (((20 * s) + k)) (jadd (jmul rfl rfl) rfl) (by omega) (by omega) (by decide), ?_⟩
      intro U_8 hU_8
      have m4 : M U_8 (up (blk T 53 (20 * s) k (fun _ => 0)) 53 (((20 * s) + k)) (0)) := by rw [hU_8]; exact M_sA hM2 (((20 * s) + k)) (0) (jadd (jmul rfl rfl) rfl) rfl (by omega) (by omega)
      have fr5 : fM U U_8 := by rw [hU_8]; exact fM_trans hF2 fM_sA
      refine al_i ((k + 1)) (jadd rfl rfl) ?_
      have q6 : (up (blk T 53 (20 * s) k (fun _ => 0)) 53 (((20 * s) + k)) (0)) = (blk T 53 (20 * s) ((k + 1)) (fun _ => 0)) := by exact blk_s (by omega)
      have m7 : M U_8 (blk T 53 (20 * s) ((k + 1)) (fun _ => 0)) := by rw [q6] at m4; exact m4
      refine ih ((k + 1)) _ m7 fr5 (by omega) (by omega) (by (rw [hU_8, uI_sA]; exact i2)) (by omega)
