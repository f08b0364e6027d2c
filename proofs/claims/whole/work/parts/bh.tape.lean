/-! the class: the tape, letters, shelves -/
theorem by_255 (B : Int32) : B.toInt8.toInt32.toInt8.toInt32 &&& 255 = B &&& 255 := by
  rw [← Int32.toBitVec_inj, Int32.toBitVec_and, Int32.toBitVec_and]
  apply BitVec.eq_of_getLsbD_eq
  intro i hi
  rw [BitVec.getLsbD_and, BitVec.getLsbD_and]
  by_cases c : i < 8
  · congr 1
    rw [Int8.toBitVec_toInt32, Int32.toBitVec_toInt8, Int8.toBitVec_toInt32, Int32.toBitVec_toInt8]
    simp only [BitVec.getLsbD_signExtend, c, hi, decide_true, Bool.true_and, if_true]
  · have z : (255 : Int32).toBitVec.getLsbD i = false := by
      show (255#32).getLsbD i = false
      rw [BitVec.getLsbD_ofNat]
      have : Nat.testBit 255 i = false := Nat.testBit_lt_two_pow (Nat.lt_of_lt_of_le (by decide : 255 < 2 ^ 8) (Nat.pow_le_pow_right (by decide) (by omega)))
      simp [this]
    rw [z, Bool.and_false, Bool.and_false]
/-- the tape and what was told of the latest text -/
def CTb (U : Um) (T : Tm) : Prop := uI U 1 1 = jI (T 17 0) ∧ ∀ i : Int, 0 ≤ i → i < T 17 0 → uA U 1 0 i.toNat &&& 255 = jI (T 16 i) ∧ -128 ≤ (uA U 1 0 i.toNat).toInt ∧ (uA U 1 0 i.toNat).toInt ≤ 127
def CTa (U : Um) (T : Tm) : Prop := CTb U T ∧ uI U 2 2 = jI (T 18 0) ∧ uI U 2 3 = jI (T 19 0)
abbrev P1 (o k : Nat) : Prop := o = 1 ∧ (k = 0 ∨ k = 1)
theorem xl_app {T : Tm} {v : Int} (h17 : 0 ≤ T 17 0 ∧ T 17 0 + 4 ≤ 1200) {U0 : Um} {post K : Um → Prop} (hK : ∀ V : Um, CTb V (feedF T v 4) → fX P1 U0 V → K V) : ∀ (fu : Nat) (m : Int) (V : Um), CTb V (feedF T v m) → fX P1 U0 V → 0 ≤ m → m ≤ 4 → (4 - m).toNat < fu → w_X8_append_L3 1 (jI v) post K fu (jI (24 - 8 * m)) V := by
  intro fu
  induction fu with
  | zero => intro m V _ _ _ _ h; exact absurd h (Nat.not_lt_zero _)
  | succ fu ih =>
    intro m V hT hF m0 m1 hf
    show b_X8_append_L3 1 (jI v) post K (w_X8_append_L3 1 (jI v) post K fu) (jI (24 - 8 * m)) V
    unfold b_X8_append_L3
    refine br_lt (24 - 8 * m) 0 rfl rfl ⟨by omega, by omega⟩ ⟨by omega, by omega⟩ (fun c => ?_) (fun c => ?_)
    · rw [show m = 4 by omega] at hT
      exact hK V hT hF
    obtain ⟨u1, u0⟩ := hT
    have e17 : feedF T v m 17 0 = T 17 0 + m := by
      unfold feedF
      rw [blk_nf (by decide), up_eq]
    rw [e17] at u1 u0
    refine br_le 1200 (T 17 0 + m) rfl u1 ⟨by omega, by omega⟩ ⟨by omega, by omega⟩ (fun q => absurd q (by omega)) (fun _ => ?_)
    refine ⟨jvp (T 17 0 + m) u1 (by omega) (by omega) (by decide), fun V2 e2 V3 e3 y hy => ?_⟩
    have fs := feedF_s (T := T) (v := v) (m := m) (k := 24 - 8 * m) m0 rfl
    have tn : Int32.toNatClampNeg (uI V 1 1) = (T 17 0 + m).toNat := by rw [u1, jI_nat (by omega) (by omega)]
    have b2 : uA V2 1 0 = va_up (uA V 1 0) (T 17 0 + m).toNat (((jI v >>> (jI (24 - 8 * m) &&& 31)).toInt8.toInt32).toInt8.toInt32) := by rw [e2, uA_sA, if_pos ⟨rfl, rfl⟩, tn]
    have b3 : uA V3 1 0 = uA V2 1 0 := by rw [e3]; rfl
    have l3 : uI V3 1 1 = jI (T 17 0 + m + 1) := by
      rw [e3, uI_sI, if_pos ⟨rfl, rfl⟩, e2, uI_sA, u1]
      exact jadd rfl rfl
    have f3 : fX P1 V V3 := by rw [e3, e2]; exact fX_trans (fX_sA ⟨rfl, Or.inl rfl⟩) (fX_sI ⟨rfl, Or.inr rfl⟩)
    rw [hy, show jI (24 - 8 * m) + -8 = jI (24 - 8 * (m + 1)) from by rw [show 24 - 8 * (m + 1) = 24 - 8 * m + (-8) by omega]; exact jadd rfl rfl]
    refine ih (m + 1) V3 ?_ (fX_trans hF f3) (by omega) (by omega) (by omega)
    rw [← fs]
    refine ⟨?_, fun i i0 i1 => ?_⟩
    · rw [up_eq]
      exact l3
    · rw [up_eq] at i1
      rw [up_nf (by decide), b3, b2]
      unfold va_up
      rw [up_at]
      by_cases c2 : i = T 17 0 + m
      · rw [if_pos (by rw [c2]), if_pos c2, by_255]
        unfold byS
        rw [jI_of]
        refine ⟨rfl, ?_⟩
        rw [Int8.toInt_toInt32]
        have a := Int8.le_toInt ((jI v >>> (jI (24 - 8 * m) &&& 31)).toInt8.toInt32.toInt8)
        have b := Int8.toInt_lt ((jI v >>> (jI (24 - 8 * m) &&& 31)).toInt8.toInt32.toInt8)
        omega
      · rw [if_neg (by omega), if_neg c2]
        exact u0 i i0 (by omega)
theorem x_app {U : Um} {T : Tm} (hT : CTb U T) {ob : Nat} (eo : ob = 1) {a1 : Int32} {v : Int} (e1 : a1 = jI v) (h17 : 0 ≤ T 17 0 ∧ T 17 0 + 4 ≤ 1200) {post : Um → Prop} (h : ∀ V : Um, CTb V (feedF T v 4) → fX P1 U V → post V) : w_X8_append ob a1 U post := by
  rw [eo, e1]
  unfold w_X8_append
  exact ⟨5, xl_app h17 (U0 := U) h 5 0 U (by rw [feedF_0]; exact hT) fX_rfl (by decide) (by decide) (by decide)⟩
theorem dvS_le {w : Int} (h0 : 0 ≤ w) {n : Int} (hn : 0 ≤ n) : 0 ≤ dvS w n ∧ dvS w n ≤ w := by
  refine cnt_ind (P := fun n => 0 ≤ dvS w n ∧ dvS w n ≤ w) n hn ⟨h0, Int.le_refl _⟩ (fun k a b ih => ?_)
  show 0 ≤ dvS w (k + 1) ∧ dvS w (k + 1) ≤ w
  rw [dvS_s a]
  omega
def p27 (n : Int) : Int := if n = 0 then 1 else if n = 1 then 27 else if n = 2 then 729 else if n = 3 then 19683 else if n = 4 then 531441 else if n = 5 then 14348907 else 387420489
theorem lt_of_div {v q : Int} (v0 : 0 ≤ v) (q1 : 1 ≤ q) (h : v / q ≤ 0) : v < q := by
  have a := Int.emod_def v q
  have b := Int.emod_lt_of_pos v (show 0 < q by omega)
  have c : 0 ≤ v / q := Int.ediv_nonneg v0 (by omega)
  have d : v / q = 0 := by omega
  rw [d, Int.mul_zero, Int.sub_zero] at a
  omega
theorem le_of_div {v q : Int} (v0 : 0 ≤ v) (q1 : 1 ≤ q) (h : 0 < v / q) : q ≤ v := by
  refine Classical.byContradiction (fun z => ?_)
  have := Int.ediv_eq_zero_of_lt v0 (show v < q by omega)
  omega
theorem xl_let7 {U : Um} {v i : Int} (v0 : 0 ≤ v) (v1 : v < 387420489) {x1 : Int32} {post K : Int32 → Um → Prop} (hK : K (jI (ndig v)) U) : ∀ (fu : Nat) (n : Int), 0 ≤ n → n ≤ 6 → (0 < n → p27 (n - 1) ≤ v) → (6 - n).toNat < fu → w_X8_letterOf_L7 (jI v) x1 post K fu (jI n) (jI (p27 n)) (jI n) U := by
  intro fu
  induction fu with
  | zero => intro n _ _ _ h; exact absurd h (Nat.not_lt_zero _)
  | succ fu ih =>
    intro n n0 n1 hn hf
    have pb : 1 ≤ p27 n ∧ p27 n ≤ 387420489 := by
      unfold p27
      split
      · omega
      · split
        · omega
        · split
          · omega
          · split
            · omega
            · split
              · omega
              · split <;> omega
    show b_X8_letterOf_L7 (jI v) x1 post K (w_X8_letterOf_L7 (jI v) x1 post K fu) (jI n) (jI (p27 n)) (jI n) U
    unfold b_X8_letterOf_L7
    have h7 : n = 0 ∨ n = 1 ∨ n = 2 ∨ n = 3 ∨ n = 4 ∨ n = 5 ∨ n = 6 := by omega
    have fin : v < p27 n → ndig v = n := fun q => by
      rcases h7 with rfl | rfl | rfl | rfl | rfl | rfl | rfl
      · have : p27 0 = 1 := rfl
        rw [this] at q
        unfold ndig; rw [if_pos (by omega)]
      · have a : p27 1 = 27 := rfl
        have b := hn (by decide)
        have c : p27 (1 - 1) = 1 := rfl
        unfold ndig; rw [if_neg (by omega), if_pos (by omega)]
      · have a : p27 2 = 729 := rfl
        have b := hn (by decide)
        have c : p27 (2 - 1) = 27 := rfl
        unfold ndig; rw [if_neg (by omega), if_neg (by omega), if_pos (by omega)]
      · have a : p27 3 = 19683 := rfl
        have b := hn (by decide)
        have c : p27 (3 - 1) = 729 := rfl
        unfold ndig; rw [if_neg (by omega), if_neg (by omega), if_neg (by omega), if_pos (by omega)]
      · have a : p27 4 = 531441 := rfl
        have b := hn (by decide)
        have c : p27 (4 - 1) = 19683 := rfl
        unfold ndig; rw [if_neg (by omega), if_neg (by omega), if_neg (by omega), if_neg (by omega), if_pos (by omega)]
      · have a : p27 5 = 14348907 := rfl
        have b := hn (by decide)
        have c : p27 (5 - 1) = 531441 := rfl
        unfold ndig; rw [if_neg (by omega), if_neg (by omega), if_neg (by omega), if_neg (by omega), if_neg (by omega), if_pos (by omega)]
      · have b := hn (by decide)
        have c : p27 (6 - 1) = 14348907 := rfl
        unfold ndig; rw [if_neg (by omega), if_neg (by omega), if_neg (by omega), if_neg (by omega), if_neg (by omega), if_neg (by omega)]
    refine br_le 6 n rfl rfl ⟨by omega, by omega⟩ ⟨by omega, by omega⟩ (fun c => ?_) (fun c => ?_)
    · have e : n = 6 := by omega
      have : p27 n = 387420489 := by rw [e]; rfl
      rw [fin (by omega)] at hK
      exact hK
    refine ⟨fun q => ?_, ?_⟩
    · have := (jI_inj (b := 0) ⟨by omega, by omega⟩ ⟨by omega, by omega⟩).mp q
      omega
    have dz : v / p27 n ≤ v := Int.ediv_le_self _ v0
    have d0 : 0 ≤ v / p27 n := Int.ediv_nonneg v0 (by omega)
    refine br_le (v / p27 n) 0 (jdiv rfl rfl ⟨by omega, by omega⟩ ⟨by omega, by omega⟩ v0 (by omega)) rfl ⟨by omega, by omega⟩ ⟨by omega, by omega⟩ (fun c2 => ?_) (fun c2 => ?_)
    · have z : v < p27 n := lt_of_div v0 pb.1 c2
      rw [fin z] at hK
      exact hK
    · have z : p27 n ≤ v := le_of_div v0 pb.1 c2
      have ep : p27 n * 27 = p27 (n + 1) := by
        rcases (show n = 0 ∨ n = 1 ∨ n = 2 ∨ n = 3 ∨ n = 4 ∨ n = 5 by omega) with rfl | rfl | rfl | rfl | rfl | rfl <;> rfl
      have nn : jI n + 1 = jI (n + 1) := jadd rfl rfl
      intro x hx y hy k hk
      rw [hx, hy, hk, nn, show jI (p27 n) * 27 = jI (p27 (n + 1)) from by rw [← ep]; exact jmul rfl rfl]
      exact ih (n + 1) (by omega) (by omega) (fun _ => by rw [show n + 1 - 1 = n by omega]; exact z) (by omega)
theorem xl_let53 {U : Um} {v i : Int} (v0 : 0 ≤ v) (v1 : v < 387420489) (i0 : 0 ≤ i) (i1 : i < ndig v) {post K : Int32 → Um → Prop} (hK : K (jI (dvS v (ndig v - 1 - i))) U) : ∀ (fu : Nat) (n : Int), 0 ≤ n → n ≤ ndig v - 1 - i → (ndig v - 1 - i - n).toNat < fu → w_X8_letterOf_L53 (jI i) post K fu (jI (dvS v n)) (jI (ndig v - 1 - n)) U := by
  have nb := ndig_b v
  intro fu
  induction fu with
  | zero => intro n _ _ h; exact absurd h (Nat.not_lt_zero _)
  | succ fu ih =>
    intro n n0 n1 hf
    have db := dvS_b v0 v1 n0
    show b_X8_letterOf_L53 (jI i) post K (w_X8_letterOf_L53 (jI i) post K fu) (jI (dvS v n)) (jI (ndig v - 1 - n)) U
    unfold b_X8_letterOf_L53
    refine br_le (ndig v - 1 - n) i rfl rfl ⟨by omega, by omega⟩ ⟨by omega, by omega⟩ (fun c => ?_) (fun c x hx y hy => ?_)
    · rw [show n = ndig v - 1 - i by omega]
      exact hK
    · rw [hx, hy, show jI (dvS v n) / 27 = jI (dvS v (n + 1)) from by rw [dvS_s n0]; exact jdiv (x := dvS v n) (y := 27) rfl rfl ⟨by omega, by omega⟩ ⟨by omega, by omega⟩ db.1 (by decide), show jI (ndig v - 1 - n) + -1 = jI (ndig v - 1 - (n + 1)) from by rw [show ndig v - 1 - (n + 1) = ndig v - 1 - n + (-1) by omega]; exact jadd rfl rfl]
      exact ih (n + 1) (by omega) (by omega) (by omega)
theorem x_letterOf {U : Um} {a1 a2 : Int32} {v i : Int} (e1 : a1 = jI v) (e2 : a2 = jI i) (v0 : 0 ≤ v) (v1 : v < 387420489) (ri : r32 i) {post : Int32 → Um → Prop} (h : post (jI (letS v i)) U) : w_X8_letterOf a1 a2 U post := by
  subst e1 e2
  have nb := ndig_b v
  unfold w_X8_letterOf
  unfold letS at h
  refine ⟨7, xl_let7 (i := i) v0 v1 ?_ 7 0 (by decide) (by decide) (fun q => absurd q (by decide)) (by decide)⟩
  refine br_lt i 0 rfl rfl ri ⟨by omega, by omega⟩ (fun c => ?_) (fun c => ?_)
  · rw [cif_f (by omega)] at h
    exact h
  refine br_lt i (ndig v) rfl rfl ri ⟨by omega, by omega⟩ (fun c2 => ?_) (fun c2 => ?_)
  · rw [cif_t ⟨c, c2⟩] at h
    refine al_i v rfl (al_i (ndig v - 1) (jsub rfl rfl) ?_)
    have st := fun (K : Int32 → Um → Prop) (hK : K (jI (dvS v (ndig v - 1 - i))) U) => xl_let53 (U := U) (post := post) (K := K) v0 v1 c c2 hK ((ndig v - 1 - i - 0).toNat + 1) 0 (by decide) (by omega) (Nat.lt_succ_self _)
    have e0 : dvS v 0 = v := rfl
    simp only [e0, Int.sub_zero] at st
    refine ⟨_, st _ ?_⟩
    have db := dvS_b v0 v1 (n := ndig v - 1 - i) (by omega)
    have r := jrem (a := jI (dvS v (ndig v - 1 - i))) (b := 27) (x := dvS v (ndig v - 1 - i)) (y := 27) rfl rfl ⟨by omega, by omega⟩ ⟨by omega, by omega⟩ db.1 (by decide)
    exact pst (jsub r rfl) h
  · rw [cif_f (by omega)] at h
    exact h
/-- shelves -/
def CSa (U : Um) (T : Tm) : Prop := ∀ s : Int, 0 ≤ s → s < 3 → uI U (52 + s.toNat) 1 = jI (T 50 s) ∧ uI U (52 + s.toNat) 2 = jI (T 51 s) ∧ ∀ p : Int, 0 ≤ p → p < T 50 s → uA U (52 + s.toNat) 0 p.toNat = jI (if T 53 (20 * s + p) = 0 then -1 else T 52 (20 * s + p))
