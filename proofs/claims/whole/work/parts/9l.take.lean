/-! what was read is taken over -/
def P2 (U : Um) (D : Tm) : Prop := M U D ∧ MD U D
theorem P2_sA {U : Um} {D : Tm} (h : P2 U D) {k : Nat} {E V : Int32} (e v : Int) (he : E = jI e) (hv : V = jI v) (h0 : 0 ≤ e) (h1 : e < 3000) (hJ : ∀ q ∈ mLJ, q.1 ≠ k := by decide) (hF : ∀ q ∈ mLF, q.1 ≠ k := by decide) (hS : ∀ s ∈ mLS, s ≠ k := by decide) (dJ : ∀ q ∈ dLJ, q.1 ≠ k := by decide) (dS : ∀ s ∈ dLS, s ≠ k := by decide) : P2 (sA U 55 k (va_up (uA U 55 k) (Int32.toNatClampNeg E) V)) (up D k e v) :=
  ⟨M_sA h.1 e v he hv h0 h1 hJ hF hS, MD_sA h.2 e v he hv h0 h1 dJ (fun q hq => absurd hq (by intro z; cases z)) dS⟩
theorem P2_sJ {U : Um} {D : Tm} (h : P2 U D) {k : Nat} {E : Int32} {V : Int64} (e v : Int) (he : E = jI e) (hv : V = jL v) (h0 : 0 ≤ e) (h1 : e < 3000) (hA : ∀ q ∈ mLA, q.1 ≠ k := by decide) (hF : ∀ q ∈ mLF, q.1 ≠ k := by decide) (hS : ∀ s ∈ mLS, s ≠ k := by decide) (dA : ∀ q ∈ dLA, q.1 ≠ k := by decide) (dS : ∀ s ∈ dLS, s ≠ k := by decide) : P2 (sJ U 55 k (va_up (uJ U 55 k) (Int32.toNatClampNeg E) V)) (up D k e v) :=
  ⟨M_sJ h.1 e v he hv h0 h1 hA hF hS, MD_sJ h.2 e v he hv h0 h1 dA (fun q hq => absurd hq (by intro z; cases z)) dS⟩
theorem P2_sF34 {U : Um} {D : Tm} (h : P2 U D) {E : Int32} {V : UInt32} (e v : Int) (he : E = jI e) (hv : V = jF v) (h0 : 0 ≤ e) (h1 : e < 3000) : P2 (sF U 55 34 (va_up (uF U 55 34) (Int32.toNatClampNeg E) V)) (up D 34 e v) := by
  refine ⟨M_sF h.1 e v he hv h0 h1, fun q hq i i0 i1 => ?_, fun q hq i i0 i1 => ?_, fun q hq => absurd hq (by intro z; cases z), fun s hs => ?_⟩
  · have c : q.1 ≠ 34 := (by decide : ∀ q ∈ dLA, q.1 ≠ 34) q hq
    rw [up_nf c]
    exact h.2.1 q hq i i0 i1
  · have c : q.1 ≠ 34 := (by decide : ∀ q ∈ dLJ, q.1 ≠ 34) q hq
    rw [up_nf c]
    exact h.2.2.1 q hq i i0 i1
  · have c : s ≠ 34 := (by decide : ∀ s ∈ dLS, s ≠ 34) s hs
    rw [up_nf c]
    exact h.2.2.2.2 s hs
theorem P2_sI {U : Um} {D : Tm} (h : P2 U D) {k : Nat} {V : Int32} (v : Int) (hv : V = jI v) (hA : ∀ q ∈ mLA, q.1 ≠ k := by decide) (hJ : ∀ q ∈ mLJ, q.1 ≠ k := by decide) (hF : ∀ q ∈ mLF, q.1 ≠ k := by decide) (dA : ∀ q ∈ dLA, q.1 ≠ k := by decide) (dJ : ∀ q ∈ dLJ, q.1 ≠ k := by decide) : P2 (sI U 55 k V) (up D k 0 v) :=
  ⟨M_sI h.1 v hv hA hJ hF, MD_sI h.2 v hv dA dJ (fun q hq => absurd hq (by intro z; cases z))⟩
theorem P2_xI {U : Um} {D : Tm} (h : P2 U D) {k : Nat} {V : Int32} (hS : ∀ s ∈ mLS, s ≠ k := by decide) (dS : ∀ s ∈ dLS, s ≠ k := by decide) : P2 (sI U 55 k V) D := ⟨M_xI h.1 hS, MD_xI h.2 dS⟩
theorem l_to2 {D : Tm} {U0 : Um} {post K : Um → Prop} (hK : ∀ V : Um, P2 V (blk D 11 0 7 (fun j => D 11 (7 + j))) → fM U0 V → K V) : ∀ (fu : Nat) (x : Int) (V : Um), P2 V (blk D 11 0 x (fun j => D 11 (7 + j))) → fM U0 V → 0 ≤ x → x ≤ 7 → (7 - x).toNat < fu → w_X12_takesOver_L2 55 post K fu (jI x) V := by
  intro fu
  induction fu with
  | zero => intro x V _ _ _ _ h; exact absurd h (Nat.not_lt_zero _)
  | succ fu ih =>
    intro x V hP hF x0 x1 hf
    show b_X12_takesOver_L2 55 post K (w_X12_takesOver_L2 55 post K fu) (jI x) V
    unfold b_X12_takesOver_L2
    refine br_le 7 x rfl rfl ⟨by omega, by omega⟩ ⟨by omega, by omega⟩ (fun c => ?_) (fun c => ?_)
    · rw [show x = 7 by omega] at hP
      exact hK V hP hF
    refine ⟨jvp (7 + x) (jadd rfl rfl) (by omega) (by omega) (by decide), jvp x rfl (by omega) (by omega) (by decide), ?_⟩
    intro W hW y hy
    rw [hy, show jI x + 1 = jI (x + 1) from jadd rfl rfl]
    have r := rdA (MD_A hP.2 11 14) (E := 7 + jI x) (7 + x) (jadd rfl rfl) (by omega) (by omega)
    rw [blk_out (by omega)] at r
    have z := P2_sA hP (k := 11) (E := jI x) x (D 11 (7 + x)) rfl r (by omega) (by omega)
    have q := blk_s (T := D) (k := 11) (lo := 0) (n := x) (F := fun j => D 11 (7 + j)) x0
    rw [Int.zero_add] at q
    rw [q] at z
    exact ih (x + 1) W (by rw [hW]; exact z) (by rw [hW]; exact fM_trans hF fM_sA) (by omega) (by omega) (by omega)
theorem l_to31 {D : Tm} {U0 : Um} {post K : Um → Prop} (hK : ∀ V : Um, P2 V (blk D 1 0 6 (fun j => D 1 (6 + j))) → fM U0 V → K V) : ∀ (fu : Nat) (x : Int) (V : Um), P2 V (blk D 1 0 x (fun j => D 1 (6 + j))) → fM U0 V → 0 ≤ x → x ≤ 6 → (6 - x).toNat < fu → w_X12_takesOver_L31 55 post K fu (jI x) V := by
  intro fu
  induction fu with
  | zero => intro x V _ _ _ _ h; exact absurd h (Nat.not_lt_zero _)
  | succ fu ih =>
    intro x V hP hF x0 x1 hf
    show b_X12_takesOver_L31 55 post K (w_X12_takesOver_L31 55 post K fu) (jI x) V
    unfold b_X12_takesOver_L31
    refine br_le 6 x rfl rfl ⟨by omega, by omega⟩ ⟨by omega, by omega⟩ (fun c => ?_) (fun c => ?_)
    · rw [show x = 6 by omega] at hP
      exact hK V hP hF
    refine ⟨jvp (6 + x) (jadd rfl rfl) (by omega) (by omega) (by decide), jvp x rfl (by omega) (by omega) (by decide), ?_⟩
    intro W hW y hy
    rw [hy, show jI x + 1 = jI (x + 1) from jadd rfl rfl]
    have r := rdJ (MD_J hP.2 1 12) (E := 6 + jI x) (6 + x) (jadd rfl rfl) (by omega) (by omega)
    rw [blk_out (by omega)] at r
    have z := P2_sJ hP (k := 1) (E := jI x) x (D 1 (6 + x)) rfl r (by omega) (by omega)
    have q := blk_s (T := D) (k := 1) (lo := 0) (n := x) (F := fun j => D 1 (6 + j)) x0
    rw [Int.zero_add] at q
    rw [q] at z
    exact ih (x + 1) W (by rw [hW]; exact z) (by rw [hW]; exact fM_trans hF fM_sJ) (by omega) (by omega) (by omega)
theorem l_to60 {D : Tm} {U0 : Um} {post K : Um → Prop} (hK : ∀ V : Um, P2 V (blk D 2 0 36 (fun j => D 2 (36 + j))) → fM U0 V → K V) : ∀ (fu : Nat) (x : Int) (V : Um), P2 V (blk D 2 0 x (fun j => D 2 (36 + j))) → fM U0 V → 0 ≤ x → x ≤ 36 → (36 - x).toNat < fu → w_X12_takesOver_L60 55 post K fu (jI x) V := by
  intro fu
  induction fu with
  | zero => intro x V _ _ _ _ h; exact absurd h (Nat.not_lt_zero _)
  | succ fu ih =>
    intro x V hP hF x0 x1 hf
    show b_X12_takesOver_L60 55 post K (w_X12_takesOver_L60 55 post K fu) (jI x) V
    unfold b_X12_takesOver_L60
    refine br_le 36 x rfl rfl ⟨by omega, by omega⟩ ⟨by omega, by omega⟩ (fun c => ?_) (fun c => ?_)
    · rw [show x = 36 by omega] at hP
      exact hK V hP hF
    refine ⟨jvp (36 + x) (jadd rfl rfl) (by omega) (by omega) (by decide), jvp x rfl (by omega) (by omega) (by decide), ?_⟩
    intro W hW y hy
    rw [hy, show jI x + 1 = jI (x + 1) from jadd rfl rfl]
    have r := rdA (MD_A hP.2 2 72) (E := 36 + jI x) (36 + x) (jadd rfl rfl) (by omega) (by omega)
    rw [blk_out (by omega)] at r
    have z := P2_sA hP (k := 2) (E := jI x) x (D 2 (36 + x)) rfl r (by omega) (by omega)
    have q := blk_s (T := D) (k := 2) (lo := 0) (n := x) (F := fun j => D 2 (36 + j)) x0
    rw [Int.zero_add] at q
    rw [q] at z
    exact ih (x + 1) W (by rw [hW]; exact z) (by rw [hW]; exact fM_trans hF fM_sA) (by omega) (by omega) (by omega)
theorem l_to89 {D : Tm} {U0 : Um} {post K : Um → Prop} (hK : ∀ V : Um, P2 V (blk D 4 0 8 (fun j => D 4 (8 + j))) → fM U0 V → K V) : ∀ (fu : Nat) (x : Int) (V : Um), P2 V (blk D 4 0 x (fun j => D 4 (8 + j))) → fM U0 V → 0 ≤ x → x ≤ 8 → (8 - x).toNat < fu → w_X12_takesOver_L89 55 post K fu (jI x) V := by
  intro fu
  induction fu with
  | zero => intro x V _ _ _ _ h; exact absurd h (Nat.not_lt_zero _)
  | succ fu ih =>
    intro x V hP hF x0 x1 hf
    show b_X12_takesOver_L89 55 post K (w_X12_takesOver_L89 55 post K fu) (jI x) V
    unfold b_X12_takesOver_L89
    refine br_le 8 x rfl rfl ⟨by omega, by omega⟩ ⟨by omega, by omega⟩ (fun c => ?_) (fun c => ?_)
    · rw [show x = 8 by omega] at hP
      exact hK V hP hF
    refine ⟨jvp (8 + x) (jadd rfl rfl) (by omega) (by omega) (by decide), jvp x rfl (by omega) (by omega) (by decide), ?_⟩
    intro W hW y hy
    rw [hy, show jI x + 1 = jI (x + 1) from jadd rfl rfl]
    have r := rdJ (MD_J hP.2 4 16) (E := 8 + jI x) (8 + x) (jadd rfl rfl) (by omega) (by omega)
    rw [blk_out (by omega)] at r
    have z := P2_sJ hP (k := 4) (E := jI x) x (D 4 (8 + x)) rfl r (by omega) (by omega)
    have q := blk_s (T := D) (k := 4) (lo := 0) (n := x) (F := fun j => D 4 (8 + j)) x0
    rw [Int.zero_add] at q
    rw [q] at z
    exact ih (x + 1) W (by rw [hW]; exact z) (by rw [hW]; exact fM_trans hF fM_sJ) (by omega) (by omega) (by omega)
theorem l_to118 {D : Tm} {U0 : Um} {post K : Um → Prop} (hK : ∀ V : Um, P2 V (blk D 10 0 128 (fun j => D 10 (128 + j))) → fM U0 V → K V) : ∀ (fu : Nat) (x : Int) (V : Um), P2 V (blk D 10 0 x (fun j => D 10 (128 + j))) → fM U0 V → 0 ≤ x → x ≤ 128 → (128 - x).toNat < fu → w_X12_takesOver_L118 55 post K fu (jI x) V := by
  intro fu
  induction fu with
  | zero => intro x V _ _ _ _ h; exact absurd h (Nat.not_lt_zero _)
  | succ fu ih =>
    intro x V hP hF x0 x1 hf
    show b_X12_takesOver_L118 55 post K (w_X12_takesOver_L118 55 post K fu) (jI x) V
    unfold b_X12_takesOver_L118
    refine br_le 128 x rfl rfl ⟨by omega, by omega⟩ ⟨by omega, by omega⟩ (fun c => ?_) (fun c => ?_)
    · rw [show x = 128 by omega] at hP
      exact hK V hP hF
    refine ⟨jvp (128 + x) (jadd rfl rfl) (by omega) (by omega) (by decide), jvp x rfl (by omega) (by omega) (by decide), ?_⟩
    intro W hW y hy
    rw [hy, show jI x + 1 = jI (x + 1) from jadd rfl rfl]
    have r := rdA (MD_A hP.2 10 256) (E := 128 + jI x) (128 + x) (jadd rfl rfl) (by omega) (by omega)
    rw [blk_out (by omega)] at r
    have z := P2_sA hP (k := 10) (E := jI x) x (D 10 (128 + x)) rfl r (by omega) (by omega)
    have q := blk_s (T := D) (k := 10) (lo := 0) (n := x) (F := fun j => D 10 (128 + j)) x0
    rw [Int.zero_add] at q
    rw [q] at z
    exact ih (x + 1) W (by rw [hW]; exact z) (by rw [hW]; exact fM_trans hF fM_sA) (by omega) (by omega) (by omega)
def tkL (D : Tm) (x : Int) : Tm := blk (blk D 12 0 x (fun j => D 12 (1300 + j))) 13 0 x (fun j => D 13 (1300 + j))
theorem l_to157 {D : Tm} {U0 : Um} {n : Int} (h14 : D 14 0 = n) (hn : 0 ≤ n ∧ n ≤ 1201) {post K : Um → Prop} (hK : ∀ V : Um, P2 V (tkL D n) → fM U0 V → K V) : ∀ (fu : Nat) (x : Int) (V : Um), P2 V (tkL D x) → fM U0 V → 0 ≤ x → x ≤ n → (n - x).toNat < fu → w_X12_takesOver_L157 55 post K fu (jI x) V := by
  intro fu
  induction fu with
  | zero => intro x V _ _ _ _ h; exact absurd h (Nat.not_lt_zero _)
  | succ fu ih =>
    intro x V hP hF x0 x1 hf
    show b_X12_takesOver_L157 55 post K (w_X12_takesOver_L157 55 post K fu) (jI x) V
    unfold b_X12_takesOver_L157
    have r14 : uI V 55 14 = jI n := by
      rw [M_S hP.1 14]
      unfold tkL
      rw [blk_nf (by decide), blk_nf (by decide), h14]
    refine br_le n x r14 rfl ⟨by omega, by omega⟩ ⟨by omega, by omega⟩ (fun c => ?_) (fun c => ?_)
    · rw [show x = n by omega] at hP
      exact hK V hP hF
    have vo : vp_in (1300 + jI x) 2600 := jvp (1300 + x) (jadd rfl rfl) (by omega) (by omega) (by decide)
    have vx : vp_in (jI x) 2600 := jvp x rfl (by omega) (by omega) (by decide)
    refine ⟨vo, vx, ?_⟩
    intro W hW
    have r := rdA (MD_A hP.2 12 2600) (E := 1300 + jI x) (1300 + x) (jadd rfl rfl) (by omega) (by omega)
    have e1 : tkL D x 12 (1300 + x) = D 12 (1300 + x) := by unfold tkL; rw [blk_nf (by decide), blk_out (by omega)]
    rw [e1] at r
    have z := P2_sA hP (k := 12) (E := jI x) x (D 12 (1300 + x)) rfl r (by omega) (by omega)
    rw [← hW] at z
    refine ⟨vo, vx, ?_⟩
    intro W2 hW2 y hy
    rw [hy, show jI x + 1 = jI (x + 1) from jadd rfl rfl]
    have r2 := rdA (MD_A z.2 13 2600) (E := 1300 + jI x) (1300 + x) (jadd rfl rfl) (by omega) (by omega)
    have e2 : up (tkL D x) 12 x (D 12 (1300 + x)) 13 (1300 + x) = D 13 (1300 + x) := by unfold tkL; rw [up_nf (by decide), blk_out (by omega), blk_nf (by decide)]
    rw [e2] at r2
    have z2 := P2_sA z (k := 13) (E := jI x) x (D 13 (1300 + x)) rfl r2 (by omega) (by omega)
    have q := blk_2 (T := D) (k := 12) (k2 := 13) (lo := 0) (lo2 := 0) (n := x) (F := fun j => D 12 (1300 + j)) (G := fun j => D 13 (1300 + j)) x0 (Or.inl (by decide))
    rw [Int.zero_add] at q
    unfold tkL at z2
    rw [q] at z2
    have o1 : fM V W := by rw [hW]; exact fM_sA
    exact ih (x + 1) W2 (by rw [hW2]; exact z2) (by rw [hW2]; exact fM_trans (fM_trans hF o1) fM_sA) (by omega) (by omega) (by omega)
def tkO (D : Tm) (x : Int) : Tm := fun f i => if 0 ≤ i ∧ i < x then (if f = 5 ∨ f = 6 ∨ f = 7 ∨ f = 8 then D f (10 + i) else if f = 32 then D 9 (10 + i) else if f = 33 then 0 else if f = 34 then 1112014848 else D f i) else D f i
theorem tkO_s {D : Tm} {x : Int} (h : 0 ≤ x) : up (up (up (up (up (up (up (tkO D x) 5 x (D 5 (10 + x))) 6 x (D 6 (10 + x))) 7 x (D 7 (10 + x))) 8 x (D 8 (10 + x))) 32 x (D 9 (10 + x))) 33 x 0) 34 x 1112014848 = tkO D (x + 1) := by
  funext f i
  by_cases c : i = x
  · subst c
    simp only [up, tkO, and_true]
    by_cases h34 : f = 34
    · subst h34; simp; omega
    by_cases h33 : f = 33
    · subst h33; simp; omega
    by_cases h32 : f = 32
    · subst h32; simp; omega
    by_cases h8 : f = 8
    · subst h8; simp; omega
    by_cases h7 : f = 7
    · subst h7; simp; omega
    by_cases h6 : f = 6
    · subst h6; simp; omega
    by_cases h5 : f = 5
    · subst h5; simp; omega
    simp [h34, h33, h32, h8, h7, h6, h5]
  · rw [up_ne (fun q => c q.2), up_ne (fun q => c q.2), up_ne (fun q => c q.2), up_ne (fun q => c q.2), up_ne (fun q => c q.2), up_ne (fun q => c q.2), up_ne (fun q => c q.2)]
    unfold tkO
    by_cases z : 0 ≤ i ∧ i < x
    · rw [if_pos z, if_pos (show 0 ≤ i ∧ i < x + 1 by omega)]
    · rw [if_neg z, if_neg (show ¬ (0 ≤ i ∧ i < x + 1) by omega)]
theorem tkO_o {D : Tm} {x : Int} {f : Nat} (h0 : 0 ≤ x) (h : x < 10) : tkO D x f (10 + x) = D f (10 + x) := by
  unfold tkO
  rw [if_neg (show ¬ (0 ≤ 10 + x ∧ 10 + x < x) by omega)]
set_option maxHeartbeats 4000000 in
theorem l_to205 {D : Tm} {U0 : Um} {post K : Um → Prop} (hK : ∀ V : Um, P2 V (tkO D 10) → fM U0 V → K V) : ∀ (fu : Nat) (x : Int) (V : Um), P2 V (tkO D x) → fM U0 V → 0 ≤ x → x ≤ 10 → (10 - x).toNat < fu → w_X12_takesOver_L205 55 post K fu (jI x) V := by
  intro fu
  induction fu with
  | zero => intro x V _ _ _ _ h; exact absurd h (Nat.not_lt_zero _)
  | succ fu ih =>
    intro x V hP hF x0 x1 hf
    show b_X12_takesOver_L205 55 post K (w_X12_takesOver_L205 55 post K fu) (jI x) V
    unfold b_X12_takesOver_L205
    refine br_le 10 x rfl rfl ⟨by omega, by omega⟩ ⟨by omega, by omega⟩ (fun c => ?_) (fun c => ?_)
    · rw [show x = 10 by omega] at hP
      exact hK V hP hF
    have vo : vp_in (10 + jI x) 20 := jvp (10 + x) (jadd rfl rfl) (by omega) (by omega) (by decide)
    have vx : vp_in (jI x) 20 := jvp x rfl (by omega) (by omega) (by decide)
    have v1 : vp_in (jI x) 10 := jvp x rfl (by omega) (by omega) (by decide)
    refine ⟨vo, vx, ?_⟩
    intro W0 hW0
    have r0 := rdJ (MD_J hP.2 5 20) (E := 10 + jI x) (10 + x) (jadd rfl rfl) (by omega) (by omega)
    rw [tkO_o x0 c] at r0
    have z0 := P2_sJ hP (k := 5) (E := jI x) x (D 5 (10 + x)) rfl r0 (by omega) (by omega)
    rw [← hW0] at z0
    have o0 : fM U0 W0 := by rw [hW0]; exact fM_trans hF fM_sJ
    refine ⟨vo, vx, ?_⟩
    intro W1 hW1
    have r1 := rdA (MD_A z0.2 6 20) (E := 10 + jI x) (10 + x) (jadd rfl rfl) (by omega) (by omega)
    rw [up_nf (by decide), tkO_o x0 c] at r1
    have z1 := P2_sA z0 (k := 6) (E := jI x) x (D 6 (10 + x)) rfl r1 (by omega) (by omega)
    rw [← hW1] at z1
    have o1 : fM U0 W1 := by rw [hW1]; exact fM_trans o0 fM_sA
    refine ⟨vo, vx, ?_⟩
    intro W2 hW2
    have r2 := rdA (MD_A z1.2 7 20) (E := 10 + jI x) (10 + x) (jadd rfl rfl) (by omega) (by omega)
    rw [up_nf (by decide), up_nf (by decide), tkO_o x0 c] at r2
    have z2 := P2_sA z1 (k := 7) (E := jI x) x (D 7 (10 + x)) rfl r2 (by omega) (by omega)
    rw [← hW2] at z2
    have o2 : fM U0 W2 := by rw [hW2]; exact fM_trans o1 fM_sA
    refine ⟨vo, vx, ?_⟩
    intro W3 hW3
    have r3 := rdA (MD_A z2.2 8 20) (E := 10 + jI x) (10 + x) (jadd rfl rfl) (by omega) (by omega)
    rw [up_nf (by decide), up_nf (by decide), up_nf (by decide), tkO_o x0 c] at r3
    have z3 := P2_sA z2 (k := 8) (E := jI x) x (D 8 (10 + x)) rfl r3 (by omega) (by omega)
    rw [← hW3] at z3
    have o3 : fM U0 W3 := by rw [hW3]; exact fM_trans o2 fM_sA
    refine ⟨vo, v1, ?_⟩
    intro W4 hW4
    have r4 := rdA (MD_A z3.2 9 20) (E := 10 + jI x) (10 + x) (jadd rfl rfl) (by omega) (by omega)
    rw [up_nf (by decide), up_nf (by decide), up_nf (by decide), up_nf (by decide), tkO_o x0 c] at r4
    have z4 := P2_sA z3 (k := 32) (E := jI x) x (D 9 (10 + x)) rfl r4 (by omega) (by omega)
    rw [← hW4] at z4
    have o4 : fM U0 W4 := by rw [hW4]; exact fM_trans o3 fM_sA
    refine ⟨v1, ?_⟩
    intro W5 h5
    have z5 := P2_sA z4 (k := 33) (E := jI x) (V := 0) x 0 rfl rfl (by omega) (by omega)
    rw [← h5] at z5
    have o5 : fM U0 W5 := by rw [h5]; exact fM_trans o4 fM_sA
    refine ⟨v1, ?_⟩
    intro W6 h6 y hy
    have z6 := P2_sF34 z5 (E := jI x) (V := 1112014848) x 1112014848 rfl (by decide) (by omega) (by omega)
    rw [← h6, tkO_s x0] at z6
    rw [hy, show jI x + 1 = jI (x + 1) from jadd rfl rfl]
    exact ih (x + 1) W6 z6 (by rw [h6]; exact fM_trans o5 fM_sF) (by omega) (by omega) (by omega)
def tkW (D : Tm) (x : Int) : Tm := blk (blk D 30 0 x (fun _ => -1)) 31 0 x (fun _ => -1)
theorem l_to310 {D : Tm} {U0 : Um} {post K : Um → Prop} (hK : ∀ V : Um, P2 V (tkW D 48) → fM U0 V → K V) : ∀ (fu : Nat) (x : Int) (V : Um), P2 V (tkW D x) → fM U0 V → 0 ≤ x → x ≤ 48 → (48 - x).toNat < fu → w_X12_takesOver_L310 55 post K fu (jI x) V := by
  intro fu
  induction fu with
  | zero => intro x V _ _ _ _ h; exact absurd h (Nat.not_lt_zero _)
  | succ fu ih =>
    intro x V hP hF x0 x1 hf
    show b_X12_takesOver_L310 55 post K (w_X12_takesOver_L310 55 post K fu) (jI x) V
    unfold b_X12_takesOver_L310
    refine br_le 48 x rfl rfl ⟨by omega, by omega⟩ ⟨by omega, by omega⟩ (fun c => ?_) (fun c => ?_)
    · rw [show x = 48 by omega] at hP
      exact hK V hP hF
    have vx : vp_in (jI x) 48 := jvp x rfl (by omega) (by omega) (by decide)
    refine ⟨vx, ?_⟩
    intro W hW
    have z := P2_sA hP (k := 30) (E := jI x) (V := -1) x (-1) rfl rfl (by omega) (by omega)
    rw [← hW] at z
    have o1 : fM U0 W := by rw [hW]; exact fM_trans hF fM_sA
    refine ⟨vx, ?_⟩
    intro W2 hW2 y hy
    have z2 := P2_sA z (k := 31) (E := jI x) (V := -1) x (-1) rfl rfl (by omega) (by omega)
    have q := blk_2 (T := D) (k := 30) (k2 := 31) (lo := 0) (lo2 := 0) (n := x) (F := fun _ => -1) (G := fun _ => -1) x0 (Or.inl (by decide))
    rw [Int.zero_add] at q
    unfold tkW at z2
    rw [q] at z2
    rw [hy, show jI x + 1 = jI (x + 1) from jadd rfl rfl]
    exact ih (x + 1) W2 (by rw [hW2]; exact z2) (by rw [hW2]; exact fM_trans o1 fM_sA) (by omega) (by omega) (by omega)
