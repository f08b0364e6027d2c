/-! ways, laid by the reference -/
def wz (R : Int → Int) : Wm := fun a b => if a = b then 0 else if ((0 ≤ a ∧ a < 6) ∧ 0 ≤ b ∧ b < 6) ∧ 0 < R (6 * a + b) then R (6 * a + b) else -1
def mw (D : Tm) (w : Wm) : Tm := fun f i => if f = 3 ∧ 0 ≤ i ∧ i < 36 then w (i / 6) (i % 6) else D f i
theorem mw_r {D : Tm} {w : Wm} {a b : Int} (ha : 0 ≤ a ∧ a < 6) (hb : 0 ≤ b ∧ b < 6) : mw D w 3 (6 * a + b) = w a b := by
  unfold mw
  rw [if_pos ⟨rfl, by omega, by omega⟩, show (6 * a + b) / 6 = a by omega, show (6 * a + b) % 6 = b by omega]
theorem mw_nf {D : Tm} {w : Wm} {f : Nat} {i : Int} (h : f ≠ 3) : mw D w f i = D f i := if_neg (fun q => h q.1)
theorem mw_s {D : Tm} {w : Wm} {a b v : Int} (ha : 0 ≤ a ∧ a < 6) (hb : 0 ≤ b ∧ b < 6) : up (mw D w) 3 (6 * a + b) v = mw D (fun i j => if i = a ∧ j = b then v else w i j) := by
  funext f i
  unfold up mw
  by_cases c : f = 3 ∧ i = 6 * a + b
  · rw [if_pos c, if_pos ⟨c.1, by omega, by omega⟩]
    exact (if_pos ⟨by omega, by omega⟩).symm
  · rw [if_neg c]
    by_cases c2 : f = 3 ∧ 0 ≤ i ∧ i < 36
    · rw [if_pos c2, if_pos c2]
      exact (if_neg (fun q => c ⟨c2.1, by omega⟩)).symm
    · rw [if_neg c2, if_neg c2]
theorem mw_0 {D : Tm} {R : Int → Int} : blk D 3 0 36 (fun i => wz R (i / 6) (i % 6)) = mw D (wz R) := by
  funext f i
  unfold blk mw
  by_cases c : f = 3 ∧ 0 ≤ i ∧ i < 36
  · rw [if_pos ⟨c.1, c.2.1, by omega⟩, if_pos c, Int.sub_zero]
  · rw [if_neg (fun q => c ⟨q.1, q.2.1, by omega⟩), if_neg c]
theorem l_lw10 {D : Tm} {U0 : Um} {R : Int → Int} (hR : ∀ i, 0 ≤ i → i < 36 → D 2 i = R i ∧ 0 ≤ R i ∧ R i ≤ 240) {a : Int} (ha : 0 ≤ a ∧ a < 6) {post K : Um → Prop} (hK : ∀ V : Um, P2 V (blk D 3 0 (6 * (a + 1)) (fun i => wz R (i / 6) (i % 6))) → fM U0 V → K V) : ∀ (fu : Nat) (b : Int) (V : Um), P2 V (blk D 3 0 (6 * a + b) (fun i => wz R (i / 6) (i % 6))) → fM U0 V → 0 ≤ b → b ≤ 6 → (6 - b).toNat < fu → w_X12_laysWays_L10 55 (jI a) post K fu (jI b) V := by
  intro fu
  induction fu with
  | zero => intro b V _ _ _ _ h; exact absurd h (Nat.not_lt_zero _)
  | succ fu ih =>
    intro b V hP hF b0 b1 hf
    show b_X12_laysWays_L10 55 (jI a) post K (w_X12_laysWays_L10 55 (jI a) post K fu) (jI b) V
    unfold b_X12_laysWays_L10
    have q := blk_s (T := D) (k := 3) (lo := 0) (n := 6 * a + b) (F := fun i => wz R (i / 6) (i % 6)) (by omega)
    rw [Int.zero_add] at q
    have e6 : (6 * jI a) + jI b = jI (6 * a + b) := jadd (jmul rfl rfl) rfl
    refine br_le 6 b rfl rfl ⟨by omega, by omega⟩ ⟨by omega, by omega⟩ (fun c => ?_) (fun c => ?_)
    · rw [show 6 * a + b = 6 * (a + 1) by omega] at hP
      exact hK V hP hF
    have vi : vp_in ((6 * jI a) + jI b) 36 := jvp (6 * a + b) e6 (by omega) (by omega) (by decide)
    have v2 : vp_in ((6 * jI a) + jI b) 72 := jvp (6 * a + b) e6 (by omega) (by omega) (by decide)
    have hi := hR (6 * a + b) (by omega) (by omega)
    have step : ∀ (v : Int) (E : Int32), E = jI v → wz R ((6 * a + b) / 6) ((6 * a + b) % 6) = v → ∀ W : Um, W = sA V 55 3 (va_up (uA V 55 3) (Int32.toNatClampNeg ((6 * jI a) + jI b)) E) → ∀ y : Int32, y = jI b + 1 → w_X12_laysWays_L10 55 (jI a) post K fu y W := by
      intro v E hE hv W hW y hy
      have z := P2_sA hP (k := 3) (E := (6 * jI a) + jI b) (6 * a + b) v e6 hE (by omega) (by omega)
      rw [← hv, q, ← hW] at z
      rw [hy, show jI b + 1 = jI (b + 1) from jadd rfl rfl]
      exact ih (b + 1) W (by rw [show 6 * a + (b + 1) = 6 * a + b + 1 by omega]; exact z) (by rw [hW]; exact fM_trans hF fM_sA) (by omega) (by omega) (by omega)
    have ew : wz R ((6 * a + b) / 6) ((6 * a + b) % 6) = wz R a b := by rw [show (6 * a + b) / 6 = a by omega, show (6 * a + b) % 6 = b by omega]
    refine br_eq a b rfl rfl ⟨by omega, by omega⟩ ⟨by omega, by omega⟩ (fun c2 => ?_) (fun c2 => ?_)
    · exact ⟨vi, step 0 0 rfl (by rw [ew]; exact if_pos c2)⟩
    refine ⟨v2, ?_⟩
    have r := rdA (MD_A hP.2 2 72) (E := (6 * jI a) + jI b) (6 * a + b) e6 (by omega) (by omega)
    rw [blk_nf (by decide), hi.1] at r
    refine br_le (R (6 * a + b)) 0 r rfl ⟨by omega, by omega⟩ ⟨by omega, by omega⟩ (fun c3 => ?_) (fun c3 => ?_)
    · exact ⟨vi, step (-1) (-1) rfl (by rw [ew]; unfold wz; rw [if_neg c2, if_neg (by omega)])⟩
    · exact ⟨v2, vi, step (R (6 * a + b)) _ r (by rw [ew]; unfold wz; rw [if_neg c2, if_pos (by omega)])⟩
theorem l_lw2 {D : Tm} {U0 : Um} {R : Int → Int} (hR : ∀ i, 0 ≤ i → i < 36 → D 2 i = R i ∧ 0 ≤ R i ∧ R i ≤ 240) {post K : Um → Prop} (hK : ∀ V : Um, P2 V (mw D (wz R)) → fM U0 V → K V) : ∀ (fu : Nat) (a : Int) (V : Um), P2 V (blk D 3 0 (6 * a) (fun i => wz R (i / 6) (i % 6))) → fM U0 V → 0 ≤ a → a ≤ 6 → (6 - a).toNat < fu → w_X12_laysWays_L2 55 post K fu (jI a) V := by
  intro fu
  induction fu with
  | zero => intro a V _ _ _ _ h; exact absurd h (Nat.not_lt_zero _)
  | succ fu ih =>
    intro a V hP hF a0 a1 hf
    show b_X12_laysWays_L2 55 post K (w_X12_laysWays_L2 55 post K fu) (jI a) V
    unfold b_X12_laysWays_L2
    refine br_le 6 a rfl rfl ⟨by omega, by omega⟩ ⟨by omega, by omega⟩ (fun c => ?_) (fun c => ?_)
    · rw [show 6 * a = 36 by omega, mw_0] at hP
      exact hK V hP hF
    exact ⟨7, l_lw10 hR ⟨a0, by omega⟩ (fun W hW hF2 y hy => by
      rw [hy, show jI a + 1 = jI (a + 1) from jadd rfl rfl]
      exact ih (a + 1) W hW hF2 (by omega) (by omega) (by omega)) 7 0 V (by rw [Int.add_zero]; exact hP) hF (by decide) (by decide) (by decide)⟩
theorem l_lw95 {D : Tm} {U0 : Um} {k a B : Int} (hk : 0 ≤ k ∧ k < 6) (ha : 0 ≤ a ∧ a < 6) (hB : 0 ≤ B ∧ B ≤ 7680) {wf : Wm} {post K : Um → Prop} (hK : ∀ V : Um, P2 V (mw D wf) → fM U0 V → K V) : ∀ (fu : Nat) (b : Int) (w : Wm) (V : Um), P2 V (mw D w) → fM U0 V → 0 ≤ b → b ≤ 6 → wLe B k w → itr (fun b w => wst k a b w) (6 - b).toNat b w = wf → (6 - b).toNat < fu → w_X12_laysWays_L95 55 (jI k) (jI a) post K fu (jI b) V := by
  intro fu
  induction fu with
  | zero => intro b w V _ _ _ _ _ _ h; exact absurd h (Nat.not_lt_zero _)
  | succ fu ih =>
    intro b w V hP hF b0 b1 hw he hf
    show b_X12_laysWays_L95 55 (jI k) (jI a) post K (w_X12_laysWays_L95 55 (jI k) (jI a) post K fu) (jI b) V
    unfold b_X12_laysWays_L95
    refine br_le 6 b rfl rfl ⟨by omega, by omega⟩ ⟨by omega, by omega⟩ (fun c => ?_) (fun c => ?_)
    · have e : (6 - b).toNat = 0 := by omega
      rw [e] at he
      have he2 : w = wf := he
      rw [he2] at hP
      exact hK V hP hF
    have es : (6 - b).toNat = (6 - (b + 1)).toNat + 1 := by omega
    rw [es] at he
    have he2 : itr (fun b w => wst k a b w) (6 - (b + 1)).toNat (b + 1) (wst k a b w) = wf := he
    have e1 : (6 * jI a) + jI k = jI (6 * a + k) := jadd (jmul rfl rfl) rfl
    have e2 : (6 * jI k) + jI b = jI (6 * k + b) := jadd (jmul rfl rfl) rfl
    have e3 : (6 * jI a) + jI b = jI (6 * a + b) := jadd (jmul rfl rfl) rfl
    have r1 := rdA (M_A hP.1 3 36) (E := (6 * jI a) + jI k) (6 * a + k) e1 (by omega) (by omega)
    rw [mw_r ha hk] at r1
    have r2 := rdA (M_A hP.1 3 36) (E := (6 * jI k) + jI b) (6 * k + b) e2 (by omega) (by omega)
    rw [mw_r hk ⟨b0, by omega⟩] at r2
    have r3 := rdA (M_A hP.1 3 36) (E := (6 * jI a) + jI b) (6 * a + b) e3 (by omega) (by omega)
    rw [mw_r ha ⟨b0, by omega⟩] at r3
    have v3 : vp_in ((6 * jI a) + jI b) 36 := jvp (6 * a + b) e3 (by omega) (by omega) (by decide)
    have p1 := hw.2.1 a k
    have p2 := hw.2.1 k b
    have p3 := hw.2.1 a b
    refine ⟨jvp (6 * a + k) e1 (by omega) (by omega) (by decide), al_i (w a k) r1 ⟨jvp (6 * k + b) e2 (by omega) (by omega) (by decide), al_i (w k b) r2 ?_⟩⟩
    have skip : wst k a b w = w → ∀ y : Int32, y = jI b + 1 → w_X12_laysWays_L95 55 (jI k) (jI a) post K fu y V := by
      intro e y hy
      rw [hy, show jI b + 1 = jI (b + 1) from jadd rfl rfl]
      rw [e] at he2
      exact ih (b + 1) w V hP hF (by omega) (by omega) hw he2 (by omega)
    refine br_eq (w a k) (-1) rfl rfl ⟨by omega, by omega⟩ ⟨by omega, by omega⟩ (fun c1 => skip (if_neg (fun q => q.1 c1))) (fun c1 => ?_)
    refine br_eq (w k b) (-1) rfl rfl ⟨by omega, by omega⟩ ⟨by omega, by omega⟩ (fun c2 => skip (if_neg (fun q => q.2.1 c2))) (fun c2 => ?_)
    have put : (w a b = -1 ∨ w a k + w k b < w a b) → (vp_in ((6 * jI a) + jI b) 36 ∧ ∀ W : Um, W = sA V 55 3 (va_up (uA V 55 3) (Int32.toNatClampNeg ((6 * jI a) + jI b)) (jI (w a k) + jI (w k b))) → ∀ y : Int32, y = jI b + 1 → w_X12_laysWays_L95 55 (jI k) (jI a) post K fu y W) := by
      intro c3
      refine ⟨v3, fun W hW y hy => ?_⟩
      have z := P2_sA hP (k := 3) (E := (6 * jI a) + jI b) (V := jI (w a k) + jI (w k b)) (6 * a + b) (w a k + w k b) e3 (jadd rfl rfl) (by omega) (by omega)
      rw [mw_s ha ⟨b0, by omega⟩, ← hW] at z
      have e4 : wst k a b w = fun i j => if i = a ∧ j = b then w a k + w k b else w i j := if_pos ⟨c1, c2, c3⟩
      rw [← e4] at z
      rw [hy, show jI b + 1 = jI (b + 1) from jadd rfl rfl]
      exact ih (b + 1) _ W z (by rw [hW]; exact fM_trans hF fM_sA) (by omega) (by omega) (wst_le hw) he2 (by omega)
    refine ⟨v3, fun KK hKK => br_eq (w a b) (-1) r3 rfl ⟨by omega, by omega⟩ ⟨by omega, by omega⟩ (fun c3 => hKK (put (Or.inl c3))) (fun c3 => ⟨v3, br_le (w a b) (w a k + w k b) r3 (jadd rfl rfl) ⟨by omega, by omega⟩ ⟨by omega, by omega⟩ (fun c4 => skip (if_neg (fun q => by omega))) (fun c4 => hKK (put (Or.inr c4)))⟩)⟩
theorem l_lw87 {D : Tm} {U0 : Um} {k B : Int} (hk : 0 ≤ k ∧ k < 6) (hB : 0 ≤ B ∧ B ≤ 7680) {wf : Wm} {post K : Um → Prop} (hK : ∀ V : Um, P2 V (mw D wf) → fM U0 V → K V) : ∀ (fu : Nat) (a : Int) (w : Wm) (V : Um), P2 V (mw D w) → fM U0 V → 0 ≤ a → a ≤ 6 → wLe B k w → itr (fun a w => wB 6 k a w) (6 - a).toNat a w = wf → (6 - a).toNat < fu → w_X12_laysWays_L87 55 (jI k) post K fu (jI a) V := by
  intro fu
  induction fu with
  | zero => intro a w V _ _ _ _ _ _ h; exact absurd h (Nat.not_lt_zero _)
  | succ fu ih =>
    intro a w V hP hF a0 a1 hw he hf
    show b_X12_laysWays_L87 55 (jI k) post K (w_X12_laysWays_L87 55 (jI k) post K fu) (jI a) V
    unfold b_X12_laysWays_L87
    refine br_le 6 a rfl rfl ⟨by omega, by omega⟩ ⟨by omega, by omega⟩ (fun c => ?_) (fun c => ?_)
    · have e : (6 - a).toNat = 0 := by omega
      rw [e] at he
      have he2 : w = wf := he
      rw [he2] at hP
      exact hK V hP hF
    have es : (6 - a).toNat = (6 - (a + 1)).toNat + 1 := by omega
    rw [es] at he
    have he2 : itr (fun a w => wB 6 k a w) (6 - (a + 1)).toNat (a + 1) (wB 6 k a w) = wf := he
    have hw2 : wLe B k (wB 6 k a w) := itr_inv (n := 6) (P := wLe B k) (fun b y _ _ q => wst_le q) 6 0 w (by omega) (by omega) hw
    exact ⟨7, l_lw95 hk ⟨a0, by omega⟩ hB (wf := wB 6 k a w) (fun W hW hF2 y hy => by
      rw [hy, show jI a + 1 = jI (a + 1) from jadd rfl rfl]
      exact ih (a + 1) (wB 6 k a w) W hW hF2 (by omega) (by omega) hw2 he2 (by omega)) 7 0 w V hP hF (by decide) (by decide) hw rfl (by decide)⟩
def pw2 : Nat → Int
  | 0 => 240
  | n + 1 => 2 * pw2 n
theorem pw2_b : ∀ n : Fin 6, 0 ≤ pw2 n.val ∧ pw2 n.val ≤ 7680 := by decide
theorem l_lw79 {D : Tm} {U0 : Um} {wf : Wm} {post K : Um → Prop} (hK : ∀ V : Um, P2 V (mw D wf) → fM U0 V → K V) : ∀ (fu : Nat) (k : Int) (w : Wm) (V : Um), P2 V (mw D w) → fM U0 V → 0 ≤ k → k ≤ 6 → ((∀ i, w i i = 0) ∧ ∀ i j, -1 ≤ w i j ∧ w i j ≤ pw2 k.toNat) → itr (fun k w => wA 6 k w) (6 - k).toNat k w = wf → (6 - k).toNat < fu → w_X12_laysWays_L79 55 post K fu (jI k) V := by
  intro fu
  induction fu with
  | zero => intro k w V _ _ _ _ _ _ h; exact absurd h (Nat.not_lt_zero _)
  | succ fu ih =>
    intro k w V hP hF k0 k1 hw he hf
    show b_X12_laysWays_L79 55 post K (w_X12_laysWays_L79 55 post K fu) (jI k) V
    unfold b_X12_laysWays_L79
    refine br_le 6 k rfl rfl ⟨by omega, by omega⟩ ⟨by omega, by omega⟩ (fun c => ?_) (fun c => ?_)
    · have e : (6 - k).toNat = 0 := by omega
      rw [e] at he
      have he2 : w = wf := he
      rw [he2] at hP
      exact hK V hP hF
    have es : (6 - k).toNat = (6 - (k + 1)).toNat + 1 := by omega
    rw [es] at he
    have he2 : itr (fun k w => wA 6 k w) (6 - (k + 1)).toNat (k + 1) (wA 6 k w) = wf := he
    have hB := pw2_b ⟨k.toNat, by omega⟩
    dsimp only at hB
    have s : wLe (pw2 k.toNat) k w := ⟨hw.1, fun i j => by have := hw.2 i j; omega, fun i => (hw.2 i k).2, fun j => (hw.2 k j).2⟩
    have hw2 := wA_le (N := 6) (k := k) hB.1 hw
    have ep : pw2 (k + 1).toNat = 2 * pw2 k.toNat := by
      rw [show (k + 1).toNat = k.toNat + 1 by omega]
      rfl
    exact ⟨7, l_lw87 ⟨k0, by omega⟩ hB (wf := wA 6 k w) (fun W hW hF2 y hy => by
      rw [hy, show jI k + 1 = jI (k + 1) from jadd rfl rfl]
      exact ih (k + 1) (wA 6 k w) W hW hF2 (by omega) (by omega) (by rw [ep]; exact hw2) he2 (by omega)) 7 0 w V hP hF (by decide) (by decide) s rfl (by decide)⟩
theorem wz_b {R : Int → Int} (hR : ∀ i, 0 ≤ i → i < 36 → 0 ≤ R i ∧ R i ≤ 240) : (∀ i, wz R i i = 0) ∧ ∀ i j, -1 ≤ wz R i j ∧ wz R i j ≤ 240 := by
  refine ⟨fun i => if_pos rfl, fun i j => ?_⟩
  unfold wz
  by_cases c : i = j
  · rw [if_pos c]; omega
  · rw [if_neg c]
    by_cases c2 : ((0 ≤ i ∧ i < 6) ∧ 0 ≤ j ∧ j < 6) ∧ 0 < R (6 * i + j)
    · rw [if_pos c2]
      have := hR (6 * i + j) (by omega) (by omega)
      omega
    · rw [if_neg c2]; omega
theorem s_X12_laysWays {U : Um} {D : Tm} (hP : P2 U D) (hR : ∀ i, 0 ≤ i → i < 36 → 0 ≤ D 2 i ∧ D 2 i ≤ 240) {post : Um → Prop} (h : ∀ V : Um, P2 V (mw D (wK 6 (wz (D 2)))) → fM U V → post V) : w_X12_laysWays 55 U post := by
  unfold w_X12_laysWays
  exact ⟨7, l_lw2 (D := D) (U0 := U) (R := D 2) (fun i a b => ⟨rfl, hR i a b⟩) (fun V hV hF => ⟨7, l_lw79 (D := D) (U0 := U) (wf := wK 6 (wz (D 2))) (fun W hW hF2 => h W hW hF2) 7 0 (wz (D 2)) V hV hF (by decide) (by decide) (wz_b hR) rfl (by decide)⟩) 7 0 U (by rw [show (6 : Int) * 0 = 0 from rfl, blk_0]; exact hP) fM_rfl (by decide) (by decide) (by decide)⟩
