/-! what the reference keeps stays sound, more -/
theorem srch_I2 : ∀ (l : List Int) (T : Tm) (n : Int) (T2 : Tm) (m : Int), srch l T n = (some T2, m) → I1 T → I2 T → (∀ x ∈ l, isSeat T (x / 3) (x % 3)) → I2 T2 := by
  intro l
  induction l with
  | nil =>
    intro T n T2 m h _ h2 _
    have : T = T2 := by
      have := (Prod.mk.inj h).1
      exact Option.some.inj this
    rw [← this]
    exact h2
  | cons p ps ih =>
    intro T n T2 m h hI h2 hl
    have hn := I_n hI
    have key : ∀ (f : Nat) (o q : Int), 0 ≤ o → o + f ≤ T 11 2 → tryN T p (srch ps) f o q = (some T2, m) → I2 T2 := by
      intro f
      induction f with
      | zero => intro o q _ _ e; exact absurd (Prod.mk.inj e).1 (by simp)
      | succ f ihf =>
        intro o q o0 o1 e
        have e2 : (if 20000 < q then ((none : Option Tm), q) else cif (whyS T (p / 3) (p % 3) o = 0) (if 20000 < q + 1 then (none, q + 1) else match srch ps (up T 30 p o) (q + 1) with
            | (some T2, k) => (some T2, k)
            | (none, k) => tryN T p (srch ps) f (o + 1) k) (tryN T p (srch ps) f (o + 1) q)) = (some T2, m) := e
        split at e2
        · exact absurd (Prod.mk.inj e2).1 (by simp)
        · by_cases c : whyS T (p / 3) (p % 3) o = 0
          · rw [cif_t c] at e2
            split at e2
            · exact absurd (Prod.mk.inj e2).1 (by simp)
            · split at e2
              · rename_i T3 k3 e3
                have z : T3 = T2 := Option.some.inj (Prod.mk.inj e2).1
                rw [z] at e3
                have hp := hl p List.mem_cons_self
                have i2 : I2 (up T 30 p o) := by
                  have := I2_put hI h2 (g := p / 3) (s := p % 3) (o := o) hp ⟨o0, by omega⟩ (whyS_0 c).2
                  rw [show 3 * (p / 3) + p % 3 = p by omega] at this
                  exact this
                exact ih _ _ _ _ e3 (I1_30 hI) i2 (fun x hx => hl x (List.mem_cons_of_mem _ hx))
              · exact ihf _ _ (by omega) (by omega) e2
          · rw [cif_f c] at e2
            exact ihf _ _ (by omega) (by omega) e2
    exact key _ _ _ (Int.le_refl 0) (by omega) h
theorem IA_fill {T : Tm} (h : IA T) : IA (fillT T) := by
  unfold fillT
  split
  · exact h
  · split
    · rename_i T2 n e
      have i2 := srch_I2 _ _ _ _ _ e h.1.1 h.2.1 (fun x hx => (opl_mem 48 0 x hx).2.1)
      have al := srch_al _ _ _ _ _ e
      have k := IA_keep h
      refine IA_r k (eT_blk (by decide)) (I2o_2 (I2o_c (T := T2) (wh := T2 30) (gi := T2 31) (gr := T2 32) (mk := T2 33) (td := T2 35 0) (I1_c (fun k j hk => al k j (by omega)) h.1.1) ?_ ?_ (fun k k0 k1 => ?_) (fun k k0 k1 => ?_) (fun k k0 k1 => ?_) (fun k k0 k1 => ?_) ?_ (I2o_i i2))) (If_c (funext fun j => blk_nf (by decide)) (funext fun j => blk_nf (by decide)) k.2.2.1)
      · funext j
        rw [blk_nf (by decide), keep_nf (by decide), al 10 j (by decide)]
      · funext j
        rw [blk_nf (by decide), keep_nf (by decide), al 11 j (by decide)]
      · rw [blk_in k0 (by omega), Int.sub_zero]
      · rw [blk_nf (by decide), keep_nf (by decide), al 31 k (by decide)]
      · rw [blk_nf (by decide), keep_nf (by decide), al 32 k (by decide)]
      · rw [blk_nf (by decide), keep_nf (by decide), al 33 k (by decide)]
      · rw [blk_nf (by decide), keep_nf (by decide), al 35 0 (by decide)]
    · exact h
theorem grd_b {T : Tm} (h2 : I2 T) {u d o : Int} (ho : isOne T o) : 1 ≤ grdS T u d o ∧ grdS T u d o ≤ 5 := by
  have r := (I_r h2 o ho.1 ho.2).1
  unfold grdS
  by_cases c : upS T o ∧ cnt (upP T o) (T 11 2) < u
  · rw [cif_t c]
    have := c.1.1
    omega
  · rw [cif_f c]
    by_cases c2 : dnS T o ∧ cnt (dnP T o) (T 11 2) < d
    · rw [cif_t c2]
      have := c2.1.1
      omega
    · rw [cif_f c2]
      exact r
theorem IA_rev {T : Tm} (h : IA T) {u d : Int} : IA (cif ((0 ≤ u ∧ u ≤ 9) ∧ 0 ≤ d ∧ d ≤ 9) (revT (keepT T) u d) T) := by
  by_cases c : (0 ≤ u ∧ u ≤ 9) ∧ 0 ≤ d ∧ d ≤ 9
  · rw [cif_t c]
    have k := IA_keep h
    generalize keepT T = T1 at k
    have h2 := k.2.1
    have e : ∀ f : Nat, f ≠ 32 → f ≠ 33 → revT T1 u d f = T1 f := fun f a b => funext fun j => by
      unfold revT
      rw [blk_nf b, blk_nf a]
    refine IA_r k (fun f hf => e f (by omega) (by omega)) ?_ (If_c (e 11 (by decide) (by decide)) (e 34 (by decide) (by decide)) k.2.2.1)
    obtain ⟨a, b, x, y, t⟩ := h2
    have eg : ∀ g k2, gm (revT T1 u d) g k2 = gm T1 g k2 := fun g k2 => by
      unfold gm
      rw [e 10 (by decide) (by decide)]
    have e11 := e 11 (by decide) (by decide)
    have e30 := e 30 (by decide) (by decide)
    have e31 := e 31 (by decide) (by decide)
    have e35 := e 35 (by decide) (by decide)
    unfold I2 isSeat isGame isOne
    simp only [eg, e11, e30, e31, e35]
    refine ⟨a, b, x, fun o ho => ?_, t⟩
    have e32 : revT T1 u d 32 o = grdS T1 u d o := by
      unfold revT
      rw [blk_nf (by decide), blk_in ho.1 (by have := ho.2; omega), Int.sub_zero]
    have e33 : revT T1 u d 33 o = 0 := by
      unfold revT
      rw [blk_in ho.1 (by have := ho.2; omega)]
    rw [e32, e33]
    exact ⟨grd_b k.2.1 ho, by decide, by decide⟩
  · rw [cif_f c]
    exact h
theorem IA_undo {T : Tm} (h : IA T) : IA (undoT T) := by
  unfold undoT
  by_cases c : T 38 0 = 0
  · rw [cif_t c]
    exact h
  · rw [cif_f c]
    obtain ⟨hB, h2, hf, ⟨n0, n1⟩, hp⟩ := h
    have hn := I_n hB.1
    generalize hm : T 38 0 - 1 = m
    have m0 : 0 ≤ m := by omega
    have ep := hp m m0 (by omega)
    have e : ∀ k : Nat, (k < 30 ∨ 35 < k) → k ≠ 38 → backT (up T 38 0 m) (117 * m) m k = T k := fun k a b => by
      rw [back_o a]
      exact funext fun j => up_nf b
    have e38 : backT (up T 38 0 m) (117 * m) m 38 0 = m := by
      rw [back_o (by decide), up_eq]
    have u36 : ∀ j, up T 38 0 m 36 j = T 36 j := fun j => up_nf (by decide)
    have u37 : ∀ j, up T 38 0 m 37 j = T 37 j := fun j => up_nf (by decide)
    refine ⟨IB_c (fun k hk => e k (by omega) (by omega)) hB, I2o_2 (I2o_c hB.1 (e 10 (by decide) (by decide)) (e 11 (by decide) (by decide)) (fun k k0 k1 => ?_) (fun k k0 k1 => ?_) (fun k k0 k1 => ?_) (fun k k0 k1 => ?_) ?_ ep.1), Ifo_2 (Ifo_c hB.1 (e 11 (by decide) (by decide)) (fun k k0 k1 => ?_) ep.2), ⟨by rw [e38]; omega, fun i i0 i1 => ?_⟩⟩
    · rw [back_30 k0 k1, u36]
    · rw [back_31 k0 k1, u36]
    · rw [back_32 k0 k1, u36]
    · rw [back_33 k0 k1, u36]
    · rw [back_35, u36]
    · rw [back_34 k0 k1, u37]
    · rw [e38] at i1
      exact EP_c hB.1 (e 10 (by decide) (by decide)) (e 11 (by decide) (by decide)) (fun k _ _ => by rw [e 36 (by decide) (by decide)]) (fun k _ _ => by rw [e 37 (by decide) (by decide)]) (hp i i0 (by omega))
theorem byS_b {v k : Int} : 0 ≤ byS v k ∧ byS v k ≤ 255 := by
  unfold byS
  generalize (jI v >>> (jI k &&& 31)) = x
  have e : (x &&& 255).toInt = ((x.toBitVec &&& 255#32).toNat : Int) := by
    rw [← Int32.toInt_toBitVec, Int32.toBitVec_and]
    have lt : (x.toBitVec &&& (255 : Int32).toBitVec).toNat < 256 := by
      rw [BitVec.toNat_and]
      exact Nat.lt_of_le_of_lt Nat.and_le_right (by decide)
    rw [BitVec.toInt_eq_toNat_of_lt (by omega)]
    rfl
  have lt : (x.toBitVec &&& 255#32).toNat ≤ 255 := by
    rw [BitVec.toNat_and]
    exact Nat.le_trans Nat.and_le_right (by decide)
  rw [e]
  omega
theorem It_feed {T : Tm} {v m : Int} (m0 : 0 ≤ m) (hm : T 17 0 + m ≤ 1200) (h : It T) : It (feedF T v m) := by
  obtain ⟨a, b⟩ := h
  refine ⟨by rw [feed_17]; omega, fun i i0 i1 => ?_⟩
  unfold feedF
  by_cases c : T 17 0 ≤ i ∧ i < T 17 0 + m
  · rw [blk_in c.1 c.2]
    exact byS_b
  · rw [blk_out (by omega), up_nf (by decide)]
    exact b i i0 i1
theorem IA_t {T T2 : Tm} (h : IA T) (e : ∀ k : Nat, k ≠ 16 → k ≠ 17 → k ≠ 18 → k ≠ 19 → T2 k = T k) (ht : It T2) : IA T2 := by
  obtain ⟨⟨a, b, c, d, f⟩, h2, hf, hh⟩ := h
  exact ⟨⟨I1_c (fun k j hk => congrFun (e k (by omega) (by omega) (by omega) (by omega)) j) a, I0_c (e 3 (by decide) (by decide) (by decide) (by decide)) (e 11 (by decide) (by decide) (by decide) (by decide)) b, ht, I5_c (e 50 (by decide) (by decide) (by decide) (by decide)) (e 51 (by decide) (by decide) (by decide) (by decide)) d, I53_c (e 52 (by decide) (by decide) (by decide) (by decide)) (e 53 (by decide) (by decide) (by decide) (by decide)) f⟩,
    I2_c (fun k j hk => congrFun (e k (by omega) (by omega) (by omega) (by omega)) j) h2, If_c (e 11 (by decide) (by decide) (by decide) (by decide)) (e 34 (by decide) (by decide) (by decide) (by decide)) hf,
    IH_c a (e 10 (by decide) (by decide) (by decide) (by decide)) (e 11 (by decide) (by decide) (by decide) (by decide)) (e 36 (by decide) (by decide) (by decide) (by decide)) (e 37 (by decide) (by decide) (by decide) (by decide)) (e 38 (by decide) (by decide) (by decide) (by decide)) hh⟩
theorem IA_feed {T : Tm} (h : IA T) {a b c d e : Int} : IA (cif (T 17 0 + 20 ≤ 1200) (feedT T a b c d e) T) := by
  by_cases q : T 17 0 + 20 ≤ 1200
  · rw [cif_t q]
    have t := h.1.2.2.1
    have t0 := t.1.1
    unfold feedT
    refine IA_t h (fun k k1 k2 _ _ => by rw [feed_nf k1 k2, feed_nf k1 k2, feed_nf k1 k2, feed_nf k1 k2, feed_nf k1 k2]) ?_
    refine It_feed (by decide) (by simp only [feed_17]; omega) (It_feed (by decide) (by simp only [feed_17]; omega) (It_feed (by decide) (by simp only [feed_17]; omega) (It_feed (by decide) (by simp only [feed_17]; omega) (It_feed (by decide) (by omega) t))))
  · rw [cif_f q]
    exact h
theorem IA_end {T : Tm} (h : IA T) {n : Int} : IA (cif (0 ≤ n ∧ n ≤ T 17 0) (up T 17 0 n) T) := by
  by_cases q : 0 ≤ n ∧ n ≤ T 17 0
  · rw [cif_t q]
    have t := h.1.2.2.1
    have t1 := t.1.2
    refine IA_t h (fun k _ k2 _ _ => up_f k2) ⟨by rw [up_eq]; omega, fun i i0 i1 => ?_⟩
    rw [up_nf (by decide)]
    exact t.2 i i0 i1
  · rw [cif_f q]
    exact h
theorem IA_wE {T : Tm} (h : IA T) {k p : Int} : IA (weekE T k p) := by
  have t := h.1.2.2.1
  refine IA_t h (fun k _ a b c => wk_e ⟨a, b, c⟩) ⟨by rw [wE_17]; decide, fun i i0 i1 => ?_⟩
  rw [wk_e (by decide)]
  exact t.2 i i0 i1
theorem IA_wK {T D : Tm} {f : Int} (h : IA T) (ho : Off T D) (iD : ID D f) (hl : D 15 0 ≤ 1200) : IA (weekK D) := by
  obtain ⟨⟨_, _, t, h5, h53⟩, _⟩ := h
  have i2 : ID (weekE D 0 (-1)) f := ID_e iD
  have e15 : weekE D 0 (-1) 15 = D 15 := wk_e (by decide)
  have hI : I1 (weekK D) := I1_new i2 (by rw [e15]; exact hl)
  have hn := I_n hI
  have e : ∀ (k : Nat) (i : Int), (k = 16 ∨ (50 ≤ k ∧ k ≤ 53)) → weekK D k i = T k i := fun k i a => by
    rw [wK_o (by omega), weekE_o (by omega)]
    exact ho k i (by unfold dft; omega)
  have e17 : weekK D 17 0 = 0 := (wK_o (by omega)).trans wE_17
  have e38 : weekK D 38 0 = 0 := newT_38
  refine ⟨⟨hI, I0_new i2.1.1.1.2, ⟨by rw [e17]; decide, fun i i0 i1 => by rw [e 16 i (by omega)]; exact t.2 i i0 i1⟩, fun s s0 s1 => by rw [e 50 s (by omega), e 51 s (by omega)]; exact h5 s s0 s1, fun k k0 k1 => by rw [e 53 k (by omega), e 52 k (by omega)]; exact h53 k k0 k1⟩, I2_new i2, fun o hq => ?_, ⟨by rw [e38]; decide, fun i i0 i1 => by rw [e38] at i1; omega⟩⟩
  have o1 := hq.2
  have r : weekK D 34 o = 1112014848 := newT_34 hq.1 (by omega)
  rw [r, show jF 1112014848 = (1112014848 : UInt32) from by decide]
  exact fo_50
theorem IA_sh {T : Tm} (h : IA T) {s w n : Int} : IA (shT T s w n) := by
  unfold shT
  by_cases c : shTh s w n = 0
  · rw [cif_t c]
    have z : (0 ≤ s ∧ s ≤ 2) ∧ (0 ≤ w ∧ w ≤ 1) ∧ 0 ≤ n ∧ n ≤ 20 := by
      unfold shTh at c
      split at c
      · rename_i a
        split at c
        · rename_i b
          exact ⟨a, b⟩
        · omega
      · omega
    obtain ⟨⟨a, b, t, h5, h53⟩, h2, hf, hh⟩ := h
    generalize hT : blk (up (up T 51 s w) 50 s n) 53 (20 * s) 20 (fun _ => 0) = T2
    have e : ∀ k : Nat, k ≠ 50 → k ≠ 51 → k ≠ 53 → T2 k = T k := fun k k0 k1 k3 => funext fun j => by
      rw [← hT, blk_nf k3, up_nf k0, up_nf k1]
    refine ⟨⟨I1_c (fun k j hk => congrFun (e k (by omega) (by omega) (by omega)) j) a, I0_c (e 3 (by decide) (by decide) (by decide)) (e 11 (by decide) (by decide) (by decide)) b, It_c (e 16 (by decide) (by decide) (by decide)) (e 17 (by decide) (by decide) (by decide)) t, fun q q0 q1 => ?_, fun k k0 k1 => ?_⟩, I2_c (fun k j hk => congrFun (e k (by omega) (by omega) (by omega)) j) h2, If_c (e 11 (by decide) (by decide) (by decide)) (e 34 (by decide) (by decide) (by decide)) hf, IH_c a (e 10 (by decide) (by decide) (by decide)) (e 11 (by decide) (by decide) (by decide)) (e 36 (by decide) (by decide) (by decide)) (e 37 (by decide) (by decide) (by decide)) (e 38 (by decide) (by decide) (by decide)) hh⟩
    · have r := h5 q q0 q1
      rw [← hT, blk_nf (by decide), blk_nf (by decide), up_at, up_nf (f := 51) (k := 50) (by decide), up_at, up_nf (f := 50) (k := 51) (by decide)]
      constructor
      · split <;> omega
      · split <;> omega
    · rw [← hT]
      by_cases d : 20 * s ≤ k ∧ k < 20 * s + 20
      · rw [blk_in d.1 d.2]
        exact ⟨⟨Int.le_refl 0, Int.le_of_lt Int.zero_lt_one⟩, fun q => absurd rfl q⟩
      · rw [blk_out (by omega), up_nf (f := 53) (k := 50) (by decide), up_nf (f := 53) (k := 51) (by decide), blk_nf (by decide), up_nf (f := 52) (k := 50) (by decide), up_nf (f := 52) (k := 51) (by decide)]
        exact h53 k k0 k1
  · rw [cif_f c]
    exact h
theorem IA_lay {T : Tm} (h : IA T) {s p o n : Int} : IA (layT T s p o n) := by
  unfold layT
  by_cases c : layA T s p o ∧ (T 51 s = 1 ↔ n ≠ 0)
  · rw [cif_t c]
    obtain ⟨⟨a, b, t, h5, h53⟩, h2, hf, hh⟩ := h
    generalize hT : up (up T 52 (20 * s + p) (layV T o n)) 53 (20 * s + p) 1 = T2
    have e : ∀ k : Nat, k ≠ 52 → k ≠ 53 → T2 k = T k := fun k k0 k1 => funext fun j => by
      rw [← hT, up_nf k1, up_nf k0]
    refine ⟨⟨I1_c (fun k j hk => congrFun (e k (by omega) (by omega)) j) a, I0_c (e 3 (by decide) (by decide)) (e 11 (by decide) (by decide)) b, It_c (e 16 (by decide) (by decide)) (e 17 (by decide) (by decide)) t, I5_c (e 50 (by decide) (by decide)) (e 51 (by decide) (by decide)) h5, fun k k0 k1 => ?_⟩, I2_c (fun k j hk => congrFun (e k (by omega) (by omega)) j) h2, If_c (e 11 (by decide) (by decide)) (e 34 (by decide) (by decide)) hf, IH_c a (e 10 (by decide) (by decide)) (e 11 (by decide) (by decide)) (e 36 (by decide) (by decide)) (e 37 (by decide) (by decide)) (e 38 (by decide) (by decide)) hh⟩
    have r := h53 k k0 k1
    have o1 := c.1.2
    have on := I_n a
    rw [← hT, up_at, up_nf (f := 52) (k := 53) (by decide), up_at]
    split
    · refine ⟨by decide, fun _ => ?_⟩
      unfold layV
      by_cases z : n = 0
      · rw [cif_t z]
        have := FE_pos (hf o o1)
        exact ⟨by omega, by omega⟩
      · rw [cif_f z]
        have := (I_nm a).2.2 o o1.1 o1.2
        exact ⟨by omega, by omega⟩
    · rw [up_nf (f := 53) (k := 52) (by decide)]
      exact r
  · rw [cif_f c]
    exact h
theorem IA_Rk {T : Tm} (h : IA T) : Rk T := Rk_is h.1.1 h.2.2.1
