/-! the class: ways -/
def WM (U : Um) (o : Nat) (n : Int) (w : Wm) : Prop := ∀ a b : Int, 0 ≤ a → a < n → 0 ≤ b → b < n → uA U o (ki 2 a.toNat) b.toNat = jI (w a b)
theorem ki2_x {s s2 : Nat} (h : ki 2 s = ki 2 s2) : s = s2 := (ki_inj (by decide) (by decide) h).2
theorem ki12 {s s2 : Nat} : ki 1 s ≠ ki 2 s2 := fun h => absurd (ki_inj (by decide) (by decide) h).1 (by decide)
abbrev Pki (o p k : Nat) : Prop := p = o ∧ ∃ s, k = ki 2 s
theorem WM_s {U V : Um} {o : Nat} {n a b v : Int} {w w2 : Wm} {E : Int32} (ha : 0 ≤ a ∧ a < n) (hb : 0 ≤ b ∧ b < n) (he : E = jI v) (hV : V = sA U o (ki 2 a.toNat) (va_up (uA U o (ki 2 a.toNat)) b.toNat E)) (hw : ∀ i j, w2 i j = if i = a ∧ j = b then v else w i j) (h : WM U o n w) : WM V o n w2 := by
  intro i j i0 i1 j0 j1
  rw [hV, uA_sA, hw]
  by_cases c : i = a
  · rw [if_pos ⟨rfl, by rw [c]⟩]
    unfold va_up
    by_cases c2 : j = b
    · rw [if_pos (by rw [c2]), if_pos ⟨c, c2⟩, he]
    · rw [if_neg (by omega), if_neg (fun z => c2 z.2), ← c]
      exact h i j i0 i1 j0 j1
  · rw [if_neg (fun z => by have := ki2_x z.2; omega), if_neg (fun z => c z.1)]
    exact h i j i0 i1 j0 j1
theorem fX_k {U V : Um} {o : Nat} {a : Nat} {f : Nat → Int32} (hV : V = sA U o (ki 2 a) f) : fX (Pki o) U V := by rw [hV]; exact fX_sA ⟨rfl, a, rfl⟩
theorem itr_s {X : Type} {f : Int → X → X} {n b : Int} {w : X} (h : b < n) : itr f (n - b).toNat b w = itr f (n - (b + 1)).toNat (b + 1) (f b w) := by
  rw [show (n - b).toNat = (n - (b + 1)).toNat + 1 by omega]
  rfl
theorem itr_0 {X : Type} {f : Int → X → X} {n b : Int} {w : X} (h : n ≤ b) : itr f (n - b).toNat b w = w := by
  rw [show (n - b).toNat = 0 by omega]
  rfl
theorem xl_sh12 {o : Nat} {n k a B : Int} (hn : 0 ≤ n ∧ n ≤ 6) (hk : 0 ≤ k ∧ k < n) (ha : 0 ≤ a ∧ a < n) (hB : 0 ≤ B ∧ B ≤ 100000) {U0 : Um} {post K : Um → Prop} (W : Wm) (hK : ∀ V : Um, fX (Pki o) U0 V → uI V o 0 = jI n → WM V o n W → wLe B k W → K V) : ∀ (fu : Nat) (b : Int) (w : Wm) (U : Um), fX (Pki o) U0 U → uI U o 0 = jI n → WM U o n w → wLe B k w → 0 ≤ b → b ≤ n → W = itr (fun b w => wst k a b w) (n - b).toNat b w → (n - b).toNat < fu → w_X5_shorten_L12 o (jI k) (jI a) post K fu (jI b) U := by
  intro fu
  induction fu with
  | zero => intro b w U _ _ _ _ _ _ _ h; exact absurd h (Nat.not_lt_zero _)
  | succ fu ih =>
    intro b w U hF hn0 hw hl b0 b1 hW hf
    show b_X5_shorten_L12 o (jI k) (jI a) post K (w_X5_shorten_L12 o (jI k) (jI a) post K fu) (jI b) U
    unfold b_X5_shorten_L12
    refine br_le n b hn0 rfl ⟨by omega, by omega⟩ ⟨by omega, by omega⟩ (fun q => ?_) (fun q => ?_)
    · rw [itr_0 q] at hW
      rw [hW] at hK
      exact hK U hF hn0 hw hl
    rw [itr_s q] at hW
    have va : vp_in (jI a) 6 := jvp a rfl ha.1 (by omega) (by decide)
    have vk : vp_in (jI k) 6 := jvp k rfl hk.1 (by omega) (by decide)
    have vb : vp_in (jI b) 6 := jvp b rfl b0 (by omega) (by decide)
    have ta : Int32.toNatClampNeg (jI a) = a.toNat := jI_nat ha.1 (by omega)
    have tk : Int32.toNatClampNeg (jI k) = k.toNat := jI_nat hk.1 (by omega)
    have tb : Int32.toNatClampNeg (jI b) = b.toNat := jI_nat b0 (by omega)
    rw [ta, tk, tb]
    have r1 := hw a k ha.1 ha.2 hk.1 hk.2
    have r2 := hw k b hk.1 hk.2 b0 q
    have r3 := hw a b ha.1 ha.2 b0 q
    have l1 := hl.2.1 a k
    have l2 := hl.2.1 k b
    have l3 := hl.2.1 a b
    have nx1 : jI b + 1 = jI (b + 1) := jadd rfl rfl
    have skip : ¬ (w a k ≠ -1 ∧ w k b ≠ -1 ∧ (w a b = -1 ∨ w a k + w k b < w a b)) → ∀ y : Int32, y = jI b + 1 → w_X5_shorten_L12 o (jI k) (jI a) post K fu y U := fun z y hy => by
      rw [hy, nx1]
      have e : wst k a b w = w := if_neg z
      have hW : W = itr (fun b w => wst k a b w) (n - (b + 1)).toNat (b + 1) (wst k a b w) := hW
      rw [e] at hW
      exact ih (b + 1) w U hF hn0 hw hl (by omega) (by omega) hW (by omega)
    refine ⟨va, vk, fun x4 hx4 => ⟨vk, vb, fun x5 hx5 => ?_⟩⟩
    rw [hx4, hx5, r1, r2]
    refine br_eq (w a k) (-1) rfl rfl ⟨by omega, by omega⟩ ⟨by decide, by decide⟩ (fun z => skip (fun y => y.1 z)) (fun z1 => br_eq (w k b) (-1) rfl rfl ⟨by omega, by omega⟩ ⟨by decide, by decide⟩ (fun z => skip (fun y => y.2.1 z)) (fun z2 => ⟨va, vb, fun K8 hK8 => ?_⟩))
    have take : (w a b = -1 ∨ w a k + w k b < w a b) → K8 := fun z => hK8 ⟨va, vb, fun V eV y hy => by
      rw [hy, nx1]
      have hv : jI (w a k) + jI (w k b) = jI (w a k + w k b) := jadd rfl rfl
      have e : ∀ i j, wst k a b w i j = if i = a ∧ j = b then w a k + w k b else w i j := fun i j => by
        unfold wst
        rw [if_pos ⟨z1, z2, z⟩]
      have fV := fX_k eV
      refine ih (b + 1) (wst k a b w) V (fX_trans hF fV) (by rw [eV]; exact hn0) (WM_s ha ⟨b0, q⟩ hv eV e hw) (wst_le hl) (by omega) (by omega) hW (by omega)⟩
    refine br_eq (w a b) (-1) r3 rfl ⟨by omega, by omega⟩ ⟨by decide, by decide⟩ (fun z => take (Or.inl z)) (fun z => ⟨va, vb, br_le (w a b) (w a k + w k b) r3 (jadd rfl rfl) ⟨by omega, by omega⟩ ⟨by omega, by omega⟩ (fun y => skip (fun v => v.2.2.elim z (fun u => by omega))) (fun y => take (Or.inr y))⟩)
theorem xl_sh2 {o : Nat} {n k B : Int} (hn : 0 ≤ n ∧ n ≤ 6) (hk : 0 ≤ k ∧ k < n) (hB : 0 ≤ B ∧ B ≤ 100000) {U0 : Um} {post K : Um → Prop} (W : Wm) (hK : ∀ V : Um, fX (Pki o) U0 V → uI V o 0 = jI n → WM V o n W → wLe B k W → K V) : ∀ (fu : Nat) (a : Int) (w : Wm) (U : Um), fX (Pki o) U0 U → uI U o 0 = jI n → WM U o n w → wLe B k w → 0 ≤ a → a ≤ n → W = itr (fun a w => wB n.toNat k a w) (n - a).toNat a w → (n - a).toNat < fu → w_X5_shorten_L2 o (jI k) post K fu (jI a) U := by
  intro fu
  induction fu with
  | zero => intro a w U _ _ _ _ _ _ _ h; exact absurd h (Nat.not_lt_zero _)
  | succ fu ih =>
    intro a w U hF hn0 hw hl a0 a1 hW hf
    show b_X5_shorten_L2 o (jI k) post K (w_X5_shorten_L2 o (jI k) post K fu) (jI a) U
    unfold b_X5_shorten_L2
    refine br_le n a hn0 rfl ⟨by omega, by omega⟩ ⟨by omega, by omega⟩ (fun q => ?_) (fun q => ?_)
    · rw [itr_0 q] at hW
      rw [hW] at hK
      exact hK U hF hn0 hw hl
    rw [itr_s q] at hW
    refine ⟨(n - 0).toNat + 1, xl_sh12 hn hk ⟨a0, q⟩ hB (U0 := U) (wB n.toNat k a w) (fun V fV n0 wV lV y hy => ?_) _ 0 w U fX_rfl hn0 hw hl (Int.le_refl 0) hn.1 (by rw [Int.sub_zero]; rfl) (Nat.lt_succ_self _)⟩
    rw [hy, show jI a + 1 = jI (a + 1) from jadd rfl rfl]
    exact ih (a + 1) (wB n.toNat k a w) V (fX_trans hF fV) n0 wV lV (by omega) (by omega) hW (by omega)
theorem x_shorten {U : Um} {o : Nat} {n k B : Int} (hn : 0 ≤ n ∧ n ≤ 6) (hk : 0 ≤ k ∧ k < n) (hB : 0 ≤ B ∧ B ≤ 100000) (hn0 : uI U o 0 = jI n) {w : Wm} (hw : WM U o n w) (hl : wLe B k w) {post : Um → Prop} (h : ∀ V : Um, fX (Pki o) U V → uI V o 0 = jI n → WM V o n (wA n.toNat k w) → post V) : w_X5_shorten o (jI k) U post := ⟨(n - 0).toNat + 1, xl_sh2 hn hk hB (U0 := U) (wA n.toNat k w) (fun V fV n0 wV _ => h V fV n0 wV) _ 0 w U fX_rfl hn0 hw hl (Int.le_refl 0) hn.1 (by rw [Int.sub_zero]; rfl) (Nat.lt_succ_self _)⟩
def p2w : Nat → Int
  | 0 => 1
  | n + 1 => 2 * p2w n
theorem p2w_1 : ∀ n : Nat, 1 ≤ p2w n := by
  intro n
  induction n with
  | zero => exact Int.le_refl 1
  | succ n ih => show 1 ≤ 2 * p2w n; omega
theorem p2w_6 : ∀ n, n < 7 → p2w n ≤ 64 := by decide
theorem xl_set79 {o : Nat} {n : Int} (hn : 0 ≤ n ∧ n ≤ 6) {U0 : Um} {post K : Um → Prop} (W : Wm) (hK : ∀ V : Um, fX (Pki o) U0 V → uI V o 0 = jI n → WM V o n W → K V) : ∀ (fu : Nat) (k : Int) (w : Wm) (B : Int) (U : Um), fX (Pki o) U0 U → uI U o 0 = jI n → WM U o n w → ((∀ i, w i i = 0) ∧ ∀ i j, -1 ≤ w i j ∧ w i j ≤ B) → (0 ≤ B ∧ B * p2w (n - k).toNat ≤ 100000) → 0 ≤ k → k ≤ n → W = itr (fun k w => wA n.toNat k w) (n - k).toNat k w → (n - k).toNat < fu → w_X5_settle_L79 o post K fu (jI k) U := by
  intro fu
  induction fu with
  | zero => intro k w B U _ _ _ _ _ _ _ _ h; exact absurd h (Nat.not_lt_zero _)
  | succ fu ih =>
    intro k w B U hF hn0 hw hl hB k0 k1 hW hf
    show b_X5_settle_L79 o post K (w_X5_settle_L79 o post K fu) (jI k) U
    unfold b_X5_settle_L79
    refine br_le n k hn0 rfl ⟨by omega, by omega⟩ ⟨by omega, by omega⟩ (fun q => ?_) (fun q => ?_)
    · rw [itr_0 q] at hW
      rw [hW] at hK
      exact hK U hF hn0 hw
    rw [itr_s q] at hW
    have e2 : p2w (n - k).toNat = 2 * p2w (n - (k + 1)).toNat := by
      rw [show (n - k).toNat = (n - (k + 1)).toNat + 1 by omega]
      rfl
    have p1 : 1 ≤ p2w (n - (k + 1)).toNat := p2w_1 _
    rw [e2] at hB
    have B2 : 0 ≤ B ∧ B ≤ 100000 := by
      refine ⟨hB.1, ?_⟩
      have : B * 1 ≤ B * (2 * p2w (n - (k + 1)).toNat) := Int.mul_le_mul_of_nonneg_left (by omega) hB.1
      omega
    refine x_shorten hn ⟨k0, q⟩ B2 hn0 hw (B := B) ⟨hl.1, fun i j => by have := hl.2 i j; omega, fun i => (hl.2 i k).2, fun j => (hl.2 k j).2⟩ (fun V fV n0 wV y hy => ?_)
    rw [hy, show jI k + 1 = jI (k + 1) from jadd rfl rfl]
    refine ih (k + 1) (wA n.toNat k w) (2 * B) V (fX_trans hF fV) n0 wV (wA_le hB.1 hl) ⟨by omega, ?_⟩ (by omega) (by omega) hW (by omega)
    rw [Int.mul_comm 2 B, Int.mul_assoc]
    exact hB.2
theorem xl_set17 {o : Nat} {n a : Int} {R : Int → Int} (hn : 0 ≤ n ∧ n ≤ 6) (ha : 0 ≤ a ∧ a < n) (hRb : ∀ i, 0 ≤ i → i < 36 → 0 ≤ R i ∧ R i ≤ 240) {U0 : Um} {post K : Um → Prop} (hK : ∀ V : Um, fX (Pki o) U0 V → uI V o 0 = jI n → (∀ i b : Int, 0 ≤ i → i < n → 0 ≤ b → b < n → uA V o (ki 2 i.toNat) b.toNat = if i = a then jI (w0 R a b) else uA U0 o (ki 2 i.toNat) b.toNat) → K V) : ∀ (fu : Nat) (b : Int) (U : Um), fX (Pki o) U0 U → uI U o 0 = jI n → (∀ i j : Int, 0 ≤ i → i < 6 → 0 ≤ j → j < 6 → uA U o (ki 1 i.toNat) j.toNat = jI (R (6 * i + j))) → (∀ i j : Int, 0 ≤ i → i < n → 0 ≤ j → j < n → uA U o (ki 2 i.toNat) j.toNat = if i = a ∧ j < b then jI (w0 R a j) else uA U0 o (ki 2 i.toNat) j.toNat) → 0 ≤ b → b ≤ n → (n - b).toNat < fu → w_X5_settle_L17 o (jI a) post K fu (jI b) U := by
  intro fu
  induction fu with
  | zero => intro b U _ _ _ _ _ _ h; exact absurd h (Nat.not_lt_zero _)
  | succ fu ih =>
    intro b U hF hn0 hR hw b0 b1 hf
    show b_X5_settle_L17 o (jI a) post K (w_X5_settle_L17 o (jI a) post K fu) (jI b) U
    unfold b_X5_settle_L17
    refine br_le n b hn0 rfl ⟨by omega, by omega⟩ ⟨by omega, by omega⟩ (fun q => hK U hF hn0 (fun i j i0 i1 j0 j1 => ?_)) (fun q => ?_)
    · rw [hw i j i0 i1 j0 j1]
      by_cases c : i = a
      · rw [if_pos ⟨c, by omega⟩, if_pos c]
      · rw [if_neg (fun z => c z.1), if_neg c]
    have va : vp_in (jI a) 6 := jvp a rfl ha.1 (by omega) (by decide)
    have vb : vp_in (jI b) 6 := jvp b rfl b0 (by omega) (by decide)
    have ta : Int32.toNatClampNeg (jI a) = a.toNat := jI_nat ha.1 (by omega)
    have tb : Int32.toNatClampNeg (jI b) = b.toNat := jI_nat b0 (by omega)
    rw [ta, tb]
    have r1 := hR a b ha.1 (by omega) b0 (by omega)
    have rb := hRb (6 * a + b) (by omega) (by omega)
    have go : ∀ (V : Um) (E : Int32), E = jI (w0 R a b) → V = sA U o (ki 2 a.toNat) (va_up (uA U o (ki 2 a.toNat)) b.toNat E) → ∀ y : Int32, y = jI b + 1 → w_X5_settle_L17 o (jI a) post K fu y V := fun V E hE eV y hy => by
      rw [hy, show jI b + 1 = jI (b + 1) from jadd rfl rfl]
      have fV := fX_k eV
      refine ih (b + 1) V (fX_trans hF fV) (by rw [eV]; exact hn0) (fun i j i0 i1 j0 j1 => ?_) (fun i j i0 i1 j0 j1 => ?_) (by omega) (by omega) (by omega)
      · rw [eV, uA_sA, if_neg (fun z => ki12 z.2)]
        exact hR i j i0 i1 j0 j1
      · rw [eV, uA_sA]
        by_cases c : i = a
        · rw [if_pos ⟨rfl, by rw [c]⟩]
          unfold va_up
          by_cases c2 : j = b
          · rw [if_pos (by rw [c2]), if_pos ⟨c, by omega⟩, hE, c2]
          · rw [if_neg (by omega)]
            have := hw i j i0 i1 j0 j1
            rw [c] at this ⊢
            rw [this]
            by_cases c3 : j < b
            · rw [if_pos ⟨rfl, c3⟩, if_pos ⟨rfl, by omega⟩]
            · rw [if_neg (fun z => c3 z.2), if_neg (fun z => by have := z.2; omega)]
        · rw [if_neg (fun z => by have := ki2_x z.2; omega), if_neg (fun z => c z.1)]
          have := hw i j i0 i1 j0 j1
          rw [if_neg (fun z => c z.1)] at this
          exact this
    refine ⟨va, br_eq a b rfl rfl ⟨by omega, by omega⟩ ⟨by omega, by omega⟩ (fun c => ⟨vb, fun V eV y hy => go V 0 (by unfold w0; rw [if_pos c]; rfl) eV y hy⟩) (fun c => ⟨va, vb, br_le (R (6 * a + b)) 0 r1 rfl ⟨by omega, by omega⟩ ⟨by decide, by decide⟩ (fun z => ⟨vb, fun V eV y hy => go V (-1) (by unfold w0; rw [if_neg c, if_neg (by omega)]; rfl) eV y hy⟩) (fun z => ⟨va, vb, vb, fun V eV y hy => go V _ (by unfold w0; rw [if_neg c, if_pos z]; exact r1) eV y hy⟩)⟩)⟩
theorem xl_set7 {o : Nat} {n : Int} {R : Int → Int} (hn : 0 ≤ n ∧ n ≤ 6) (hRb : ∀ i, 0 ≤ i → i < 36 → 0 ≤ R i ∧ R i ≤ 240) {U0 : Um} {post K : Um → Prop} (hK : ∀ V : Um, fX (Pki o) U0 V → uI V o 0 = jI n → WM V o n (w0 R) → K V) : ∀ (fu : Nat) (a : Int) (U : Um), fX (Pki o) U0 U → uI U o 0 = jI n → (∀ i j : Int, 0 ≤ i → i < 6 → 0 ≤ j → j < 6 → uA U o (ki 1 i.toNat) j.toNat = jI (R (6 * i + j))) → (∀ i j : Int, 0 ≤ i → i < a → 0 ≤ j → j < n → uA U o (ki 2 i.toNat) j.toNat = jI (w0 R i j)) → 0 ≤ a → a ≤ n → (n - a).toNat < fu → w_X5_settle_L7 o post K fu (jI a) U := by
  intro fu
  induction fu with
  | zero => intro a U _ _ _ _ _ _ h; exact absurd h (Nat.not_lt_zero _)
  | succ fu ih =>
    intro a U hF hn0 hR hw a0 a1 hf
    show b_X5_settle_L7 o post K (w_X5_settle_L7 o post K fu) (jI a) U
    unfold b_X5_settle_L7
    refine br_le n a hn0 rfl ⟨by omega, by omega⟩ ⟨by omega, by omega⟩ (fun q => hK U hF hn0 (fun i j i0 i1 j0 j1 => hw i j i0 (by omega) j0 j1)) (fun q => ⟨(n - 0).toNat + 1, ?_⟩)
    refine xl_set17 hn ⟨a0, q⟩ hRb (U0 := U) (fun V fV n0 rV y hy => ?_) _ 0 U fX_rfl hn0 hR (fun i j i0 i1 j0 j1 => by rw [if_neg (fun z => by have := z.2; omega)]) (Int.le_refl 0) hn.1 (Nat.lt_succ_self _)
    rw [hy, show jI a + 1 = jI (a + 1) from jadd rfl rfl]
    refine ih (a + 1) V (fX_trans hF fV) n0 (fun i j i0 i1 j0 j1 => ?_) (fun i j i0 i1 j0 j1 => ?_) (by omega) (by omega) (by omega)
    · rw [(fV.2.2 o _ (fun z => by obtain ⟨_, s, e⟩ := z; exact ki12 e)).2.2.1]
      exact hR i j i0 i1 j0 j1
    · rw [rV i j i0 (by omega) j0 j1]
      by_cases c : i = a
      · rw [if_pos c, c]
      · rw [if_neg c]
        exact hw i j i0 (by omega) j0 j1
theorem w0_b {R : Int → Int} (h : ∀ i, 0 ≤ i → i < 36 → 0 ≤ R i ∧ R i ≤ 240) : ∀ i j, 0 ≤ i → i < 6 → 0 ≤ j → j < 6 → -1 ≤ w0 R i j ∧ w0 R i j ≤ 240 := fun i j i0 i1 j0 j1 => by
  have := h (6 * i + j) (by omega) (by omega)
  unfold w0
  split
  · omega
  · split <;> omega
theorem wz_b2 {R : Int → Int} (h : ∀ i, 0 ≤ i → i < 36 → 0 ≤ R i ∧ R i ≤ 240) : (∀ i, wz R i i = 0) ∧ ∀ i j, -1 ≤ wz R i j ∧ wz R i j ≤ 240 := ⟨fun i => if_pos rfl, fun i j => by
  unfold wz
  split
  · omega
  · split
    · rename_i c
      have := h (6 * i + j) (by omega) (by omega)
      omega
    · omega⟩
theorem x_ways {U : Um} {o : Nat} {n : Int} {R : Int → Int} (hn : 0 ≤ n ∧ n ≤ 6) (hRb : ∀ i, 0 ≤ i → i < 36 → 0 ≤ R i ∧ R i ≤ 240) (hR : ∀ i j : Int, 0 ≤ i → i < 6 → 0 ≤ j → j < 6 → uA U o (ki 1 i.toNat) j.toNat = jI (R (6 * i + j))) {ob : Nat} (eo : ob = o) {a1 : Int32} (e1 : a1 = jI n) {post : Um → Prop} (h : ∀ V : Um, fX (fun p k => p = o ∧ (k = 0 ∨ ∃ s, k = ki 2 s)) U V → uI V o 0 = jI n → (∀ i j : Int, 0 ≤ i → i < 6 → 0 ≤ j → j < 6 → uA V o (ki 1 i.toNat) j.toNat = jI (R (6 * i + j))) → WM V o n (wK n.toNat (wz R)) → post V) : w_X5_settle ob a1 U post := by
  rw [eo]
  unfold w_X5_settle
  intro U1 e
  rw [e1] at e
  have n1 : uI U1 o 0 = jI n := by rw [e, uI_sI, if_pos ⟨rfl, rfl⟩]
  have f1 : fX (fun p k => p = o ∧ (k = 0 ∨ ∃ s, k = ki 2 s)) U U1 := by rw [e]; exact fX_sI ⟨rfl, Or.inl rfl⟩
  have R1 : ∀ i j : Int, 0 ≤ i → i < 6 → 0 ≤ j → j < 6 → uA U1 o (ki 1 i.toNat) j.toNat = jI (R (6 * i + j)) := fun i j i0 i1 j0 j1 => by rw [e]; exact hR i j i0 i1 j0 j1
  refine ⟨(n - 0).toNat + 1, xl_set7 hn hRb (U0 := U1) (fun V fV n0 wV => ⟨(n - 0).toNat + 1, ?_⟩) _ 0 U1 fX_rfl n1 R1 (fun i j i0 i1 => by omega) (Int.le_refl 0) hn.1 (Nat.lt_succ_self _)⟩
  have wV : WM V o n (wz R) := fun i j i0 i1 j0 j1 => by
    rw [wV i j i0 i1 j0 j1]
    congr 1
    unfold w0 wz
    by_cases c : i = j
    · rw [if_pos c, if_pos c]
    · rw [if_neg c, if_neg c]
      by_cases c2 : 0 < R (6 * i + j)
      · rw [if_pos c2, if_pos ⟨⟨⟨i0, by omega⟩, j0, by omega⟩, c2⟩]
      · rw [if_neg c2, if_neg (fun z => c2 z.2)]
  have p6 := p2w_6 (n - 0).toNat (by omega)
  refine xl_set79 hn (U0 := V) (wK n.toNat (wz R)) (fun W fW m0 wW => ?_) _ 0 (wz R) 240 V fX_rfl n0 wV (wz_b2 hRb) ⟨by decide, by omega⟩ (Int.le_refl 0) hn.1 (by rw [Int.sub_zero]; rfl) (Nat.lt_succ_self _)
  have fVW : fX (Pki o) U1 W := fX_trans fV fW
  refine h W (fX_trans f1 (fX_w (fun p k q => ⟨q.1, Or.inr q.2⟩) fVW)) m0 (fun i j i0 i1 j0 j1 => ?_) wW
  rw [(fVW.2.2 o _ (fun z => by obtain ⟨_, s, e⟩ := z; exact ki12 e)).2.2.1]
  exact R1 i j i0 i1 j0 j1
