/-! pieces of the tape -/
def seeS (T : Tm) (i : Int) : Int := if i < T 17 0 then T 16 i else -1
def It (T : Tm) : Prop := (0 ≤ T 17 0 ∧ T 17 0 ≤ 1200) ∧ ∀ i, 0 ≤ i → i < 1200 → 0 ≤ T 16 i ∧ T 16 i ≤ 255
theorem see_b {T : Tm} (h : It T) {i : Int} (h0 : 0 ≤ i) : -1 ≤ seeS T i ∧ seeS T i ≤ 255 := by
  unfold seeS
  split
  · have := h.2 i h0 (by have := h.1; omega)
    omega
  · omega
theorem see_in {T : Tm} (h : It T) {i : Int} (h0 : 0 ≤ i) (hs : seeS T i ≠ -1) : i < T 17 0 := by
  unfold seeS at hs
  by_cases c : i < T 17 0
  · exact c
  · rw [if_neg c] at hs
    exact absurd rfl hs
abbrev isBl (T : Tm) (p : Int) : Prop := seeS T p = 32 ∨ seeS T p = 10
def skN (T : Tm) : Nat → Int → Int
  | 0, p => p
  | m + 1, p => if isBl T p then skN T m (p + 1) else p
def skS (T : Tm) (p : Int) : Int := skN T (T 17 0 - p).toNat p
theorem sk_s {T : Tm} (h : It T) {p : Int} (h0 : 0 ≤ p) (c : isBl T p) : skS T p = skS T (p + 1) := by
  have := see_in h h0 (i := p) (by omega)
  unfold skS
  rw [show (T 17 0 - p).toNat = (T 17 0 - (p + 1)).toNat + 1 by omega]
  exact if_pos c
theorem sk_e {T : Tm} {p : Int} (c : ¬ isBl T p) : skS T p = p := by
  unfold skS
  cases (T 17 0 - p).toNat with
  | zero => rfl
  | succ m => exact if_neg c
abbrev inR (T : Tm) (lo hi p : Int) : Prop := lo ≤ seeS T p ∧ seeS T p ≤ hi
def spN (T : Tm) (lo hi : Int) : Nat → Int → Int
  | 0, p => p
  | m + 1, p => if inR T lo hi p then spN T lo hi m (p + 1) else p
def spS (T : Tm) (lo hi p : Int) : Int := spN T lo hi (T 17 0 - p).toNat p
theorem sp_s {T : Tm} (h : It T) {lo hi p : Int} (hl : 0 ≤ lo) (h0 : 0 ≤ p) (c : inR T lo hi p) : spS T lo hi p = spS T lo hi (p + 1) := by
  have := see_in h h0 (i := p) (by omega)
  unfold spS
  rw [show (T 17 0 - p).toNat = (T 17 0 - (p + 1)).toNat + 1 by omega]
  exact if_pos c
theorem sp_e {T : Tm} {lo hi p : Int} (c : ¬ inR T lo hi p) : spS T lo hi p = p := by
  unfold spS
  cases (T 17 0 - p).toNat with
  | zero => rfl
  | succ m => exact if_neg c
/-- what sort of piece begins there -/
def tkS (T : Tm) (f : Int) : Int := if seeS T f = -1 then 0 else if inR T 97 122 f then 1 else if inR T 48 57 f then 2 else 3
def teS (T : Tm) (f : Int) : Int := if tkS T f = 0 then f else if tkS T f = 1 then spS T 97 122 f else if tkS T f = 2 then spS T 48 57 f else f + 1
def wcN (T : Tm) (f : Int) : Nat → Int
  | 0 => 0
  | m + 1 => if (m : Int) < 6 then 27 * wcN T f m + seeS T (f + m) - 96 else wcN T f m
def nmN (T : Tm) (f : Int) : Nat → Int
  | 0 => 0
  | m + 1 => if (m : Int) < 4 then 10 * nmN T f m + seeS T (f + m) - 48 else nmN T f m
def twS (T : Tm) (f : Int) : Int := if tkS T f = 1 then wcN T f (teS T f - f).toNat else 0
def tnS (T : Tm) (f : Int) : Int := if tkS T f = 2 then nmN T f (teS T f - f).toNat else 0
def tsS (T : Tm) (f : Int) : Int := if tkS T f = 3 then seeS T f else 0
/-- the piece at hand -/
def TK (U : Um) (T : Tm) (f : Int) : Prop := uI U 55 23 = jI f ∧ uI U 55 24 = jI (teS T f) ∧ uI U 55 22 = jI (tkS T f) ∧ uL U 55 25 = jL (twS T f) ∧ uI U 55 26 = jI (tnS T f) ∧ uI U 55 27 = jI (tsS T f)
/-- all but the piece at hand stays -/
def fP (U V : Um) : Prop := fM U V ∧ (∀ k, (k < 22 ∨ 27 < k) → uI V 55 k = uI U 55 k) ∧ (∀ k, uA V 55 k = uA U 55 k) ∧ (∀ k, uJ V 55 k = uJ U 55 k) ∧ ∀ k, uF V 55 k = uF U 55 k
theorem fP_rfl {U : Um} : fP U U := ⟨fM_rfl, fun _ _ => rfl, fun _ => rfl, fun _ => rfl, fun _ => rfl⟩
theorem fP_trans {U V Wm : Um} (h : fP U V) (h2 : fP V Wm) : fP U Wm := ⟨fM_trans h.1 h2.1, fun k hk => (h2.2.1 k hk).trans (h.2.1 k hk), fun k => (h2.2.2.1 k).trans (h.2.2.1 k), fun k => (h2.2.2.2.1 k).trans (h.2.2.2.1 k), fun k => (h2.2.2.2.2 k).trans (h.2.2.2.2 k)⟩
theorem fP_sI {U : Um} {k : Nat} {f : Int32} (hk : 22 ≤ k ∧ k ≤ 27 := by decide) : fP U (sI U 55 k f) := ⟨fM_sI, fun k2 h2 => by rw [uI_sI, if_neg (by omega)], fun _ => rfl, fun _ => rfl, fun _ => rfl⟩
theorem fM_sL2 {U : Um} {k : Nat} {f : Int64} : fM U (sL U 55 k f) := fM_sL
theorem fP_sL {U : Um} {k : Nat} {f : Int64} : fP U (sL U 55 k f) := ⟨fM_sL, fun _ _ => rfl, fun _ => rfl, fun _ => rfl, fun _ => rfl⟩
theorem s_X12_see {U : Um} {T : Tm} (hM : M U T) (ht : It T) {a1 : Int32} {i : Int} (e1 : a1 = jI i) (h0 : 0 ≤ i) (h1 : i ≤ 100000) {post : Int32 → Um → Prop} (h : post (jI (seeS T i)) U) : w_X12_see 55 a1 U post := by
  unfold w_X12_see
  subst e1
  have hb := ht.1
  unfold seeS at h
  refine br_le (T 17 0) i (M_S hM 17) rfl ⟨by omega, by omega⟩ ⟨by omega, by omega⟩ (fun c => ?_) (fun c => ?_)
  · rw [if_neg (by omega)] at h
    exact h
  · rw [if_pos c] at h
    refine ⟨jvp i rfl h0 (by omega) (by decide), ?_⟩
    exact pst (rdA (M_A hM 16 1200) i rfl h0 (by omega)) h
theorem l_next0 {T : Tm} (ht : It T) {post : Um → Prop} {k_39 : Um → Prop} {U0 : Um} {p0 : Int} (hk : ∀ V : Um, M V T → fP U0 V → uI V 55 24 = jI (skS T p0) → 0 ≤ skS T p0 → skS T p0 ≤ 1201 → k_39 V) : ∀ (fu : Nat) (p : Int) (U : Um), M U T → fP U0 U → uI U 55 24 = jI p → 0 ≤ p → p ≤ 1201 → skS T p0 = skS T p → (T 17 0 - p).toNat < fu → w_X12_next_L0 55 post k_39 fu U := by
  intro fu
  have hb := ht.1
  induction fu with
  | zero => intro p U a b c d e f g; exact absurd g (Nat.not_lt_zero _)
  | succ fu ih =>
    intro p U hM hF hu p1 p2 hs hm
    show b_X12_next_L0 55 post k_39 (w_X12_next_L0 55 post k_39 fu) U
    unfold b_X12_next_L0
    have sb := see_b ht p1
    have go : isBl T p → ∀ U_3 : Um, U_3 = sI U 55 24 ((uI U 55 24) + 1) → w_X12_next_L0 55 post k_39 fu U_3 := by
      intro c V hV
      have hin := see_in ht p1 (i := p) (by omega)
      refine ih (p + 1) V (by rw [hV]; exact M_xI hM) (by rw [hV]; exact fP_trans hF fP_sI) ?_ (by omega) (by omega) (by rw [hs, sk_s ht p1 c]) (by omega)
      rw [hV, uI_sI, if_pos ⟨rfl, rfl⟩]
      exact jadd hu rfl
    refine s_X12_see hM ht (i := p) hu p1 (by omega) ?_
    refine br_eq (seeS T p) 32 rfl rfl ⟨by omega, by omega⟩ ⟨by omega, by omega⟩ (fun c => go (Or.inl c)) (fun c => ?_)
    refine s_X12_see hM ht (i := p) hu p1 (by omega) ?_
    refine br_eq (seeS T p) 10 rfl rfl ⟨by omega, by omega⟩ ⟨by omega, by omega⟩ (fun c2 => go (Or.inr c2)) (fun c2 => ?_)
    have e : skS T p0 = p := by rw [hs, sk_e (fun q => q.elim c c2)]
    exact hk U hM hF (by rw [e]; exact hu) (by omega) (by omega)
theorem l_next103 {T : Tm} (ht : It T) {f : Int} (f0 : 0 ≤ f) {post : Um → Prop} {k_286 : Um → Prop} {U0 : Um} (hk : ∀ V : Um, M V T → fP U0 V → uI V 55 23 = jI f → uI V 55 22 = jI 1 → uI V 55 26 = jI 0 → uI V 55 27 = jI 0 → uI V 55 24 = jI (spS T 97 122 f) → uL V 55 25 = jL (wcN T f (spS T 97 122 f - f).toNat) → k_286 V) : ∀ (fu : Nat) (q : Int) (U : Um), M U T → fP U0 U → uI U 55 23 = jI f → uI U 55 22 = jI 1 → uI U 55 26 = jI 0 → uI U 55 27 = jI 0 → uI U 55 24 = jI q → uL U 55 25 = jL (wcN T f (q - f).toNat) → f ≤ q → q ≤ 1200 → spS T 97 122 f = spS T 97 122 q → (T 17 0 - q).toNat < fu → w_X12_next_L103 55 post k_286 fu U := by
  intro fu
  have hb := ht.1
  induction fu with
  | zero => intro q U a b c d e f g h i j k l; exact absurd l (Nat.not_lt_zero _)
  | succ fu ih =>
    intro q U hM hF h23 h22 h26 h27 h24 h25 fq q1 hs hm
    show b_X12_next_L103 55 post k_286 (w_X12_next_L103 55 post k_286 fu) U
    unfold b_X12_next_L103
    have sb := see_b ht (i := q) (by omega)
    refine s_X12_see hM ht (i := q) h24 (by omega) (by omega) ?_
    refine s_X12_isIn (a := seeS T q) (lo := 97) (hi := 122) (by exact jlong rfl ⟨by omega, by omega⟩) (by exact rfl) (by exact rfl) ⟨by omega, by omega⟩ ⟨by omega, by omega⟩ ⟨by omega, by omega⟩ (fun c => ?_) (fun c => ?_)
    · refine br_1 ?_
      have hin := see_in ht (i := q) (by omega) (by omega)
      have e1 : (q + 1 - f).toNat = (q - f).toNat + 1 := by omega
      have e2 : (((q - f).toNat : Nat) : Int) = q - f := Int.toNat_of_nonneg (by omega)
      refine br_le 6 (q - f) rfl (jsub h24 h23) ⟨by omega, by omega⟩ ⟨by omega, by omega⟩ (fun c2 => ?_) (fun c2 => ?_)
      · intro V hV
        refine ih (q + 1) V (by rw [hV]; exact M_xI hM) (by rw [hV]; exact fP_trans hF fP_sI) ?_ ?_ ?_ ?_ ?_ ?_ (by omega) (by omega) (by rw [hs, sp_s ht (by omega) (by omega) c]) (by omega)
        · rw [hV, uI_sI, if_neg (by omega)]; exact h23
        · rw [hV, uI_sI, if_neg (by omega)]; exact h22
        · rw [hV, uI_sI, if_neg (by omega)]; exact h26
        · rw [hV, uI_sI, if_neg (by omega)]; exact h27
        · rw [hV, uI_sI, if_pos ⟨rfl, rfl⟩]; exact jadd h24 rfl
        · rw [hV, uL_sI, e1]
          show uL U 55 25 = jL (if (((q - f).toNat : Nat) : Int) < 6 then _ else wcN T f (q - f).toNat)
          rw [if_neg (by omega)]
          exact h25
      · refine s_X12_see hM ht (i := q) h24 (by omega) (by omega) ?_
        intro V hV
        intro W hW
        refine ih (q + 1) W (by rw [hW, hV]; exact M_xI (M_xL hM)) (by rw [hW, hV]; exact fP_trans (fP_trans hF fP_sL) fP_sI) ?_ ?_ ?_ ?_ ?_ ?_ (by omega) (by omega) (by rw [hs, sp_s ht (by omega) (by omega) c]) (by omega)
        · rw [hW, uI_sI, if_neg (by omega), hV, uI_sL]; exact h23
        · rw [hW, uI_sI, if_neg (by omega), hV, uI_sL]; exact h22
        · rw [hW, uI_sI, if_neg (by omega), hV, uI_sL]; exact h26
        · rw [hW, uI_sI, if_neg (by omega), hV, uI_sL]; exact h27
        · rw [hW, uI_sI, if_pos ⟨rfl, rfl⟩, hV, uI_sL]; exact jadd h24 rfl
        · rw [hW, uL_sI, hV, uL_sL, if_pos ⟨rfl, rfl⟩, e1]
          show _ = jL (if (((q - f).toNat : Nat) : Int) < 6 then 27 * wcN T f (q - f).toNat + seeS T (f + (((q - f).toNat : Nat) : Int)) - 96 else _)
          rw [if_pos (by omega), e2, show f + (q - f) = q by omega]
          exact jLsub (jLadd (jLmul rfl h25) (jlong rfl ⟨by omega, by omega⟩)) rfl
    · refine br_0 ?_
      have e : spS T 97 122 f = q := by rw [hs, sp_e c]
      exact hk U hM hF h23 h22 h26 h27 (by rw [e]; exact h24) (by rw [e]; exact h25)
theorem l_next196 {T : Tm} (ht : It T) {f : Int} (f0 : 0 ≤ f) {post : Um → Prop} {k_286 : Um → Prop} {U0 : Um} (hk : ∀ V : Um, M V T → fP U0 V → uI V 55 23 = jI f → uI V 55 22 = jI 2 → uL V 55 25 = jL 0 → uI V 55 27 = jI 0 → uI V 55 24 = jI (spS T 48 57 f) → uI V 55 26 = jI (nmN T f (spS T 48 57 f - f).toNat) → k_286 V) : ∀ (fu : Nat) (q : Int) (U : Um), M U T → fP U0 U → uI U 55 23 = jI f → uI U 55 22 = jI 2 → uL U 55 25 = jL 0 → uI U 55 27 = jI 0 → uI U 55 24 = jI q → uI U 55 26 = jI (nmN T f (q - f).toNat) → f ≤ q → q ≤ 1200 → spS T 48 57 f = spS T 48 57 q → (T 17 0 - q).toNat < fu → w_X12_next_L196 55 post k_286 fu U := by
  intro fu
  have hb := ht.1
  induction fu with
  | zero => intro q U a b c d e f g h i j k l; exact absurd l (Nat.not_lt_zero _)
  | succ fu ih =>
    intro q U hM hF h23 h22 h25 h27 h24 h26 fq q1 hs hm
    show b_X12_next_L196 55 post k_286 (w_X12_next_L196 55 post k_286 fu) U
    unfold b_X12_next_L196
    have sb := see_b ht (i := q) (by omega)
    refine s_X12_see hM ht (i := q) h24 (by omega) (by omega) ?_
    refine s_X12_isIn (a := seeS T q) (lo := 48) (hi := 57) (by exact jlong rfl ⟨by omega, by omega⟩) (by exact rfl) (by exact rfl) ⟨by omega, by omega⟩ ⟨by omega, by omega⟩ ⟨by omega, by omega⟩ (fun c => ?_) (fun c => ?_)
    · refine br_1 ?_
      have hin := see_in ht (i := q) (by omega) (by omega)
      have e1 : (q + 1 - f).toNat = (q - f).toNat + 1 := by omega
      have e2 : (((q - f).toNat : Nat) : Int) = q - f := Int.toNat_of_nonneg (by omega)
      refine br_le 4 (q - f) rfl (jsub h24 h23) ⟨by omega, by omega⟩ ⟨by omega, by omega⟩ (fun c2 => ?_) (fun c2 => ?_)
      · intro V hV
        refine ih (q + 1) V (by rw [hV]; exact M_xI hM) (by rw [hV]; exact fP_trans hF fP_sI) ?_ ?_ ?_ ?_ ?_ ?_ (by omega) (by omega) (by rw [hs, sp_s ht (by omega) (by omega) c]) (by omega)
        · rw [hV, uI_sI, if_neg (by omega)]; exact h23
        · rw [hV, uI_sI, if_neg (by omega)]; exact h22
        · rw [hV, uL_sI]; exact h25
        · rw [hV, uI_sI, if_neg (by omega)]; exact h27
        · rw [hV, uI_sI, if_pos ⟨rfl, rfl⟩]; exact jadd h24 rfl
        · rw [hV, uI_sI, if_neg (by omega), e1]
          show uI U 55 26 = jI (if (((q - f).toNat : Nat) : Int) < 4 then _ else nmN T f (q - f).toNat)
          rw [if_neg (by omega)]
          exact h26
      · refine s_X12_see hM ht (i := q) h24 (by omega) (by omega) ?_
        intro V hV
        intro W hW
        refine ih (q + 1) W (by rw [hW, hV]; exact M_xI (M_xI hM)) (by rw [hW, hV]; exact fP_trans (fP_trans hF fP_sI) fP_sI) ?_ ?_ ?_ ?_ ?_ ?_ (by omega) (by omega) (by rw [hs, sp_s ht (by omega) (by omega) c]) (by omega)
        · rw [hW, uI_sI, if_neg (by omega), hV, uI_sI, if_neg (by omega)]; exact h23
        · rw [hW, uI_sI, if_neg (by omega), hV, uI_sI, if_neg (by omega)]; exact h22
        · rw [hW, uL_sI, hV, uL_sI]; exact h25
        · rw [hW, uI_sI, if_neg (by omega), hV, uI_sI, if_neg (by omega)]; exact h27
        · rw [hW, uI_sI, if_pos ⟨rfl, rfl⟩, hV, uI_sI, if_neg (by omega)]; exact jadd h24 rfl
        · rw [hW, uI_sI, if_neg (by omega), hV, uI_sI, if_pos ⟨rfl, rfl⟩, e1]
          show _ = jI (if (((q - f).toNat : Nat) : Int) < 4 then 10 * nmN T f (q - f).toNat + seeS T (f + (((q - f).toNat : Nat) : Int)) - 48 else _)
          rw [if_pos (by omega), e2, show f + (q - f) = q by omega]
          exact jsub (jadd (jmul rfl h26) rfl) rfl
    · refine br_0 ?_
      have e : spS T 48 57 f = q := by rw [hs, sp_e c]
      exact hk U hM hF h23 h22 h25 h27 (by rw [e]; exact h24) (by rw [e]; exact h26)
theorem s_X12_next {U : Um} {T : Tm} (hM : M U T) (ht : It T) {p : Int} (hu : uI U 55 24 = jI p) (p0 : 0 ≤ p) (p1 : p ≤ 1201) {post : Um → Prop} (h : ∀ V : Um, M V T → fP U V → TK V T (skS T p) → 0 ≤ skS T p → skS T p ≤ 1201 → post V) : w_X12_next 55 U post := by
  unfold w_X12_next
  have hb := ht.1
  refine ⟨(T 17 0 - p).toNat + 1, l_next0 ht (U0 := U) (p0 := p) (fun V hV fV uV f0 f1 => ?_) _ p U hM fP_rfl hu p0 p1 rfl (by omega)⟩
  generalize skS T p = f at *
  intro V1 hV1
  have m1 : M V1 T := by rw [hV1]; exact M_xI hV
  have u1 : uI V1 55 24 = jI f := by rw [hV1, uI_sI, if_neg (by omega)]; exact uV
  have sb := see_b ht f0
  refine s_X12_see m1 ht (i := f) u1 f0 (by omega) ?_
  intro V2 hV2 V3 hV3 V4 hV4
  have m4 : M V4 T := by rw [hV4, hV3, hV2]; exact M_xI (M_xI (M_xL m1))
  have f4 : fP U V4 := by rw [hV4, hV3, hV2, hV1]; exact fP_trans (fP_trans (fP_trans (fP_trans fV fP_sI) fP_sL) fP_sI) fP_sI
  have a23 : uI V4 55 23 = jI f := by
    rw [hV4, uI_sI, if_neg (by omega), hV3, uI_sI, if_neg (by omega), hV2, uI_sL, hV1, uI_sI, if_pos ⟨rfl, rfl⟩]
    exact uV
  have a24 : uI V4 55 24 = jI f := by
    rw [hV4, uI_sI, if_neg (by omega), hV3, uI_sI, if_neg (by omega), hV2, uI_sL]
    exact u1
  have a25 : uL V4 55 25 = jL 0 := by
    rw [hV4, uL_sI, hV3, uL_sI, hV2, uL_sL, if_pos ⟨rfl, rfl⟩]
    rfl
  have a26 : uI V4 55 26 = jI 0 := by
    rw [hV4, uI_sI, if_neg (by omega), hV3, uI_sI, if_pos ⟨rfl, rfl⟩]
    rfl
  have a27 : uI V4 55 27 = jI 0 := by
    rw [hV4, uI_sI, if_pos ⟨rfl, rfl⟩]
    rfl
  refine br_eq (seeS T f) (-1) rfl rfl ⟨by omega, by omega⟩ ⟨by omega, by omega⟩ (fun c => ?_) (fun c => ?_)
  · intro V5 hV5
    have k0 : tkS T f = 0 := if_pos c
    refine h V5 (by rw [hV5]; exact M_xI m4) (by rw [hV5]; exact fP_trans f4 fP_sI) ⟨?_, ?_, ?_, ?_, ?_, ?_⟩ f0 f1
    · rw [hV5, uI_sI, if_neg (by omega)]; exact a23
    · rw [hV5, uI_sI, if_neg (by omega)]; unfold teS; rw [if_pos k0]; exact a24
    · rw [hV5, uI_sI, if_pos ⟨rfl, rfl⟩, k0]; rfl
    · rw [hV5, uL_sI]; unfold twS; rw [if_neg (by omega)]; exact a25
    · rw [hV5, uI_sI, if_neg (by omega)]; unfold tnS; rw [if_neg (by omega)]; exact a26
    · rw [hV5, uI_sI, if_neg (by omega)]; unfold tsS; rw [if_neg (by omega)]; exact a27
  have hin := see_in ht f0 c
  refine s_X12_isIn (a := seeS T f) (lo := 97) (hi := 122) (by exact jlong rfl ⟨by omega, by omega⟩) (by exact rfl) (by exact rfl) ⟨by omega, by omega⟩ ⟨by omega, by omega⟩ ⟨by omega, by omega⟩ (fun c1 => ?_) (fun c1 => ?_)
  · refine br_1 ?_
    intro V5 hV5
    have k1 : tkS T f = 1 := by unfold tkS; rw [if_neg c, if_pos c1]
    refine ⟨(T 17 0 - f).toNat + 1, l_next103 ht f0 (U0 := U) (fun W mW fW b23 b22 b26 b27 b24 b25 => ?_) _ f V5 (by rw [hV5]; exact M_xI m4) (by rw [hV5]; exact fP_trans f4 fP_sI) ?_ ?_ ?_ ?_ ?_ ?_ (Int.le_refl _) (by omega) rfl (by omega)⟩
    · have te : teS T f = spS T 97 122 f := by unfold teS; rw [if_neg (by omega), if_pos k1]
      refine h W mW fW ⟨b23, by rw [te]; exact b24, by rw [k1]; exact b22, ?_, ?_, ?_⟩ f0 f1
      · unfold twS; rw [if_pos k1, te]; exact b25
      · unfold tnS; rw [if_neg (by omega)]; exact b26
      · unfold tsS; rw [if_neg (by omega)]; exact b27
    · rw [hV5, uI_sI, if_neg (by omega)]; exact a23
    · rw [hV5, uI_sI, if_pos ⟨rfl, rfl⟩]; rfl
    · rw [hV5, uI_sI, if_neg (by omega)]; exact a26
    · rw [hV5, uI_sI, if_neg (by omega)]; exact a27
    · rw [hV5, uI_sI, if_neg (by omega)]; exact a24
    · rw [hV5, uL_sI, show (f - f).toNat = 0 by omega]; exact a25
  refine br_0 ?_
  refine s_X12_isIn (a := seeS T f) (lo := 48) (hi := 57) (by exact jlong rfl ⟨by omega, by omega⟩) (by exact rfl) (by exact rfl) ⟨by omega, by omega⟩ ⟨by omega, by omega⟩ ⟨by omega, by omega⟩ (fun c2 => ?_) (fun c2 => ?_)
  · refine br_1 ?_
    intro V5 hV5
    have k2 : tkS T f = 2 := by unfold tkS; rw [if_neg c, if_neg c1, if_pos c2]
    refine ⟨(T 17 0 - f).toNat + 1, l_next196 ht f0 (U0 := U) (fun W mW fW b23 b22 b25 b27 b24 b26 => ?_) _ f V5 (by rw [hV5]; exact M_xI m4) (by rw [hV5]; exact fP_trans f4 fP_sI) ?_ ?_ ?_ ?_ ?_ ?_ (Int.le_refl _) (by omega) rfl (by omega)⟩
    · have te : teS T f = spS T 48 57 f := by unfold teS; rw [if_neg (by omega), if_neg (by omega), if_pos k2]
      refine h W mW fW ⟨b23, by rw [te]; exact b24, by rw [k2]; exact b22, ?_, ?_, ?_⟩ f0 f1
      · unfold twS; rw [if_neg (by omega)]; exact b25
      · unfold tnS; rw [if_pos k2, te]; exact b26
      · unfold tsS; rw [if_neg (by omega)]; exact b27
    · rw [hV5, uI_sI, if_neg (by omega)]; exact a23
    · rw [hV5, uI_sI, if_pos ⟨rfl, rfl⟩]; rfl
    · rw [hV5, uL_sI]; exact a25
    · rw [hV5, uI_sI, if_neg (by omega)]; exact a27
    · rw [hV5, uI_sI, if_neg (by omega)]; exact a24
    · rw [hV5, uI_sI, if_neg (by omega), show (f - f).toNat = 0 by omega]; exact a26
  refine br_0 ?_
  intro V5 hV5 V6 hV6 V7 hV7
  have k3 : tkS T f = 3 := by unfold tkS; rw [if_neg c, if_neg c1, if_neg c2]
  refine h V7 (by rw [hV7, hV6, hV5]; exact M_xI (M_xI (M_xI m4))) (by rw [hV7, hV6, hV5]; exact fP_trans (fP_trans (fP_trans f4 fP_sI) fP_sI) fP_sI) ⟨?_, ?_, ?_, ?_, ?_, ?_⟩ f0 f1
  · rw [hV7, uI_sI, if_neg (by omega), hV6, uI_sI, if_neg (by omega), hV5, uI_sI, if_neg (by omega)]; exact a23
  · rw [hV7, uI_sI, if_pos ⟨rfl, rfl⟩, hV6, uI_sI, if_neg (by omega), hV5, uI_sI, if_neg (by omega)]
    unfold teS
    rw [if_neg (by omega), if_neg (by omega), if_neg (by omega)]
    exact jadd a24 rfl
  · rw [hV7, uI_sI, if_neg (by omega), hV6, uI_sI, if_neg (by omega), hV5, uI_sI, if_pos ⟨rfl, rfl⟩, k3]; rfl
  · rw [hV7, uL_sI, hV6, uL_sI, hV5, uL_sI]; unfold twS; rw [if_neg (by omega)]; exact a25
  · rw [hV7, uI_sI, if_neg (by omega), hV6, uI_sI, if_neg (by omega), hV5, uI_sI, if_neg (by omega)]; unfold tnS; rw [if_neg (by omega)]; exact a26
  · rw [hV7, uI_sI, if_neg (by omega), hV6, uI_sI, if_pos ⟨rfl, rfl⟩]; unfold tsS; rw [if_pos k3]
