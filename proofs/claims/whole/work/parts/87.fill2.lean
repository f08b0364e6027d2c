theorem opl_len {T : Tm} : ∀ (n : Nat) (k : Int), 0 ≤ k → ((opl T n k).length : Int) + cnt (opnS T) k = cnt (opnS T) (k + n) := by
  intro n
  induction n with
  | zero => intro k k0; rw [show k + ((0 : Nat) : Int) = k by omega]; show ((([] : List Int).length : Nat) : Int) + _ = _; simp
  | succ n ih =>
    intro k k0
    have := ih (k + 1) (by omega)
    rw [show k + ((n + 1 : Nat) : Int) = k + 1 + n by omega, ← this]
    show ((cif (opnS T k) (k :: opl T n (k + 1)) (opl T n (k + 1))).length : Int) + _ = _
    by_cases c : opnS T k
    · rw [cif_t c, cnt_t k0 c, List.length_cons]
      omega
    · rw [cif_f c, cnt_f k0 c]
theorem opl_48 {T : Tm} : ((opl T 48 0).length : Int) = cnt (opnS T) 48 := by
  have := opl_len (T := T) 48 0 (by omega)
  rw [cnt_0 (by decide)] at this
  simpa using this
/-- alike but for who sits where -/
def al30 (T T2 : Tm) : Prop := ∀ (k : Nat) (j : Int), k ≠ 30 → T2 k j = T k j
theorem al30_up {T T2 : Tm} {i v : Int} (h : al30 (up T 30 i v) T2) : al30 T T2 := fun k j hk => (h k j hk).trans (up_nf hk)
theorem srch_al : ∀ (l : List Int) (T : Tm) (n : Int) (T2 : Tm) (m : Int), srch l T n = (some T2, m) → al30 T T2 := by
  intro l
  induction l with
  | nil =>
    intro T n T2 m h
    have : T = T2 := by
      have := (Prod.mk.inj h).1
      exact Option.some.inj this
    rw [this]
    exact fun _ _ _ => rfl
  | cons p ps ih =>
    intro T n T2 m h
    have key : ∀ (f : Nat) (o q : Int), tryN T p (srch ps) f o q = (some T2, m) → al30 T T2 := by
      intro f
      induction f with
      | zero => intro o q e; exact absurd (Prod.mk.inj e).1 (by simp)
      | succ f ihf =>
        intro o q e
        have e2 : (if 20000 < q then ((none : Option Tm), q) else cif (whyS T (p / 3) (p % 3) o = 0) (if 20000 < q + 1 then (none, q + 1) else match srch ps (up T 30 p o) (q + 1) with
            | (some T2, k) => (some T2, k)
            | (none, k) => tryN T p (srch ps) f (o + 1) k) (tryN T p (srch ps) f (o + 1) q)) = (some T2, m) := e
        split at e2
        · exact absurd (Prod.mk.inj e2).1 (by simp)
        · by_cases c : whyS T (p / 3) (p % 3) o = 0
          · rw [cif_t c] at e2
            split at e2
            · exact absurd (Prod.mk.inj e2).1 (by simp)
            · split at e2
              · rename_i T3 k3 e3
                have z : T3 = T2 := Option.some.inj (Prod.mk.inj e2).1
                rw [z] at e3
                exact al30_up (ih _ _ _ _ e3)
              · exact ihf _ _ e2
          · rw [cif_f c] at e2
            exact ihf _ _ e2
    exact key _ _ _ h
theorem M_30 {U : Um} {T T2 : Tm} (h : M U T2) (ha : al30 T T2) (hb : ∀ j, 0 ≤ j → j < 48 → T2 30 j = T 30 j) : M U T := by
  have e : ∀ (k : Nat) (n i : Int), (k = 30 → n ≤ 48) → 0 ≤ i → i < n → T2 k i = T k i := by
    intro k n i hn i0 i1
    by_cases c : k = 30
    · subst c
      exact hb i i0 (by have := hn rfl; omega)
    · exact ha k i c
  refine ⟨fun q hq i i0 i1 => ?_, fun q hq i i0 i1 => ?_, fun q hq i i0 i1 => ?_, fun s hs => ?_⟩
  · rw [h.1 q hq i i0 i1, e q.1 q.2 i ((by decide : ∀ q ∈ mLA, q.1 = 30 → q.2 ≤ 48) q hq) i0 i1]
  · rw [h.2.1 q hq i i0 i1, ha q.1 i ((by decide : ∀ q ∈ mLJ, q.1 ≠ 30) q hq)]
  · rw [h.2.2.1 q hq i i0 i1, ha q.1 i ((by decide : ∀ q ∈ mLF, q.1 ≠ 30) q hq)]
  · rw [h.2.2.2 s hs, ha s 0 ((by decide : ∀ s ∈ mLS, s ≠ 30) s hs)]
noncomputable def fillS (T : Tm) : Int := if (opl T 48 0).length = 0 then 0 else match srch (opl T 48 0) T 0 with
  | (some _, _) => ((opl T 48 0).length : Int)
  | (none, n) => if n ≤ 20000 then -1 else -2
noncomputable def fillT (T : Tm) : Tm := if (opl T 48 0).length = 0 then T else match srch (opl T 48 0) T 0 with
  | (some T2, _) => blk (keepT T) 30 0 48 (T2 30)
  | (none, _) => T
def rowI (U : Um) (k : Nat) (F : Int → Int) (n : Int) : Prop := ∀ j : Int, 0 ≤ j → j < n → uA U 55 k j.toNat = jI (F j)
theorem l_fill9 {T : Tm} (hI : I1 T) (h2 : I2 T) {post : Int32 → Um → Prop} {k_44 : Int32 → Um → Prop} {U0 : Um} (hk : ∀ V : Um, M V T → fM U0 V → rowI V 46 (T 30) 48 → k_44 (jI (cnt (opnS T) 48)) V) : ∀ (fu : Nat) (k : Int) (U : Um), M U T → fM U0 U → 0 ≤ k → k ≤ 48 → rowI U 46 (T 30) k → (48 - k).toNat < fu → w_X12_fill_L9 55 post k_44 fu (jI (cnt (opnS T) k)) (jI k) U := by
  intro fu
  induction fu with
  | zero => intro k U hM hF h3 h4 h5 h6; exact absurd h6 (Nat.not_lt_zero _)
  | succ fu ih =>
    intro k U hM hF h3 h4 h5 h6
    show b_X12_fill_L9 55 post k_44 (w_X12_fill_L9 55 post k_44 fu) (jI (cnt (opnS T) k)) (jI k) U
    unfold b_X12_fill_L9
    refine br_le 48 k rfl rfl ⟨by omega, by omega⟩ ⟨by omega, by omega⟩ (fun c => ?_) (fun c => ?_)
    · rw [show k = 48 by omega] at h5 ⊢
      exact hk U hM hF h5
    have step : ∀ n, n = cnt (opnS T) (k + 1) → vp_in (jI k) 48 ∧ vp_in (jI k) 48 ∧ ∀ (U_7 : Um), U_7 = sA U 55 46 (va_up (uA U 55 46) (Int32.toNatClampNeg (jI k)) (uA U 55 30 (Int32.toNatClampNeg (jI k)))) → ∀ (x2_8 : Int32), x2_8 = jI k + 1 → w_X12_fill_L9 55 post k_44 fu (jI n) x2_8 U_7 := by
      intro n hn
      refine ⟨jvp k rfl h3 (by omega) (by decide), jvp k rfl h3 (by omega) (by decide), ?_⟩
      intro V hV
      refine al_i (k + 1) (jadd rfl rfl) ?_
      rw [hn]
      refine ih (k + 1) V (by rw [hV]; exact M_xA hM) (by rw [hV]; exact fM_trans hF fM_sA) (by omega) (by omega) (fun j j0 j1 => ?_) (by omega)
      rw [hV, uA_sA, if_pos ⟨rfl, rfl⟩, jI_nat h3 (by omega)]
      unfold va_up
      by_cases z : j = k
      · rw [if_pos (by rw [z]), z]
        exact (M_A hM 30 48) k h3 c
      · rw [if_neg (by omega)]
        exact h5 j j0 (by omega)
    refine s_X12_isOpen hM hI h2 (k := k) rfl h3 c (fun c1 => ?_) (fun c1 => ?_)
    · refine s_one1 ?_
      refine al_i (cnt (opnS T) k + 1) (jadd rfl rfl) ?_
      exact step _ (cnt_t h3 c1).symm
    · refine s_one0 ?_
      refine al_i (cnt (opnS T) k) ((jadd (y := 0) rfl rfl).trans (congrArg jI (by omega))) ?_
      exact step _ (cnt_f h3 c1).symm
theorem l_fill149 {T T2 : Tm} {post : Int32 → Um → Prop} {k_173 : Um → Prop} {U0 : Um} (hk : ∀ V : Um, M V (blk T2 30 0 48 (T 30)) → fM U0 V → uI V 55 45 = uI U0 55 45 → k_173 V) : ∀ (fu : Nat) (k : Int) (U : Um), M U (blk T2 30 0 k (T 30)) → fM U0 U → uI U 55 45 = uI U0 55 45 → 0 ≤ k → k ≤ 48 → rowI U 46 (T 30) 48 → (48 - k).toNat < fu → w_X12_fill_L149 55 post k_173 fu (jI k) U := by
  intro fu
  induction fu with
  | zero => intro k U hM hF hu h3 h4 h5 h6; exact absurd h6 (Nat.not_lt_zero _)
  | succ fu ih =>
    intro k U hM hF hu h3 h4 h5 h6
    show b_X12_fill_L149 55 post k_173 (w_X12_fill_L149 55 post k_173 fu) (jI k) U
    unfold b_X12_fill_L149
    refine br_le 48 k rfl rfl ⟨by omega, by omega⟩ ⟨by omega, by omega⟩ (fun c => ?_) (fun c => ?_)
    · rw [show k = 48 by omega] at hM
      exact hk U hM hF hu
    refine ⟨jvp k rfl h3 (by omega) (by decide), jvp k rfl h3 (by omega) (by decide), ?_⟩
    intro V hV
    have tn : Int32.toNatClampNeg (jI k) = k.toNat := jI_nat h3 (by omega)
    refine al_i (k + 1) (jadd rfl rfl) ?_
    have m := M_sA hM (E := jI k) (V := uA U 55 46 (Int32.toNatClampNeg (jI k))) (k := 30) k (T 30 k) rfl (by rw [tn]; exact h5 k h3 c) h3 (by omega)
    have z := blk_s (T := T2) (k := 30) (lo := 0) (n := k) (F := T 30) h3
    rw [Int.zero_add] at z
    rw [← hV, z] at m
    refine ih (k + 1) V m (by rw [hV]; exact fM_trans hF fM_sA) (by rw [hV]; exact hu) (by omega) (by omega) (fun j j0 j1 => ?_) (by omega)
    rw [hV, uA_sA, if_neg (by omega)]
    exact h5 j j0 j1
theorem l_fill91 {T T2 : Tm} {x1 : Int32} {post : Int32 → Um → Prop} {k_115 : Um → Prop} {U0 : Um} (hk : ∀ V : Um, M V (blk T2 30 0 48 (T 30)) → fK U0 V → k_115 V) : ∀ (fu : Nat) (k : Int) (U : Um), M U (blk T2 30 0 k (T 30)) → fK U0 U → 0 ≤ k → k ≤ 48 → rowI U 46 (T 30) 48 → (48 - k).toNat < fu → w_X12_fill_L91 55 x1 post k_115 fu (jI k) U := by
  intro fu
  induction fu with
  | zero => intro k U hM hF h3 h4 h5 h6; exact absurd h6 (Nat.not_lt_zero _)
  | succ fu ih =>
    intro k U hM hF h3 h4 h5 h6
    show b_X12_fill_L91 55 x1 post k_115 (w_X12_fill_L91 55 x1 post k_115 fu) (jI k) U
    unfold b_X12_fill_L91
    refine br_le 48 k rfl rfl ⟨by omega, by omega⟩ ⟨by omega, by omega⟩ (fun c => ?_) (fun c => ?_)
    · rw [show k = 48 by omega] at hM
      exact hk U hM hF
    refine ⟨jvp k rfl h3 (by omega) (by decide), jvp k rfl h3 (by omega) (by decide), ?_⟩
    intro V hV
    have tn : Int32.toNatClampNeg (jI k) = k.toNat := jI_nat h3 (by omega)
    refine al_i (k + 1) (jadd rfl rfl) ?_
    have m := M_sA hM (E := jI k) (V := uA U 55 46 (Int32.toNatClampNeg (jI k))) (k := 30) k (T 30 k) rfl (by rw [tn]; exact h5 k h3 c) h3 (by omega)
    have z := blk_s (T := T2) (k := 30) (lo := 0) (n := k) (F := T 30) h3
    rw [Int.zero_add] at z
    rw [← hV, z] at m
    refine ih (k + 1) V m (by rw [hV]; exact fK_trans hF fK_sA) (by omega) (by omega) (fun j j0 j1 => ?_) (by omega)
    rw [hV, uA_sA, if_neg (by omega)]
    exact h5 j j0 j1
theorem l_fill65 {T T2 : Tm} {x1 : Int32} {post : Int32 → Um → Prop} {k_89 : Um → Prop} {U0 : Um} (hk : ∀ V : Um, M V T2 → fM U0 V → rowI V 46 (T 30) 48 → rowI V 47 (T2 30) 48 → k_89 V) : ∀ (fu : Nat) (k : Int) (U : Um), M U T2 → fM U0 U → 0 ≤ k → k ≤ 48 → rowI U 46 (T 30) 48 → rowI U 47 (T2 30) k → (48 - k).toNat < fu → w_X12_fill_L65 55 x1 post k_89 fu (jI k) U := by
  intro fu
  induction fu with
  | zero => intro k U hM hF h3 h4 h5 h7 h6; exact absurd h6 (Nat.not_lt_zero _)
  | succ fu ih =>
    intro k U hM hF h3 h4 h5 h7 h6
    show b_X12_fill_L65 55 x1 post k_89 (w_X12_fill_L65 55 x1 post k_89 fu) (jI k) U
    unfold b_X12_fill_L65
    refine br_le 48 k rfl rfl ⟨by omega, by omega⟩ ⟨by omega, by omega⟩ (fun c => ?_) (fun c => ?_)
    · rw [show k = 48 by omega] at h7
      exact hk U hM hF h5 h7
    refine ⟨jvp k rfl h3 (by omega) (by decide), jvp k rfl h3 (by omega) (by decide), ?_⟩
    intro V hV
    refine al_i (k + 1) (jadd rfl rfl) ?_
    refine ih (k + 1) V (by rw [hV]; exact M_xA hM) (by rw [hV]; exact fM_trans hF fM_sA) (by omega) (by omega) (fun j j0 j1 => ?_) (fun j j0 j1 => ?_) (by omega)
    · rw [hV, uA_sA, if_neg (by omega)]
      exact h5 j j0 j1
    · rw [hV, uA_sA, if_pos ⟨rfl, rfl⟩, jI_nat h3 (by omega)]
      unfold va_up
      by_cases z : j = k
      · rw [if_pos (by rw [z]), z]
        exact (M_A hM 30 48) k h3 c
      · rw [if_neg (by omega)]
        exact h7 j j0 (by omega)
theorem l_fill121 {T : Tm} {F : Int → Int} {x1 : Int32} {post : Int32 → Um → Prop} {k_145 : Um → Prop} {U0 : Um} (hk : ∀ V : Um, M V (blk T 30 0 48 F) → fM U0 V → k_145 V) : ∀ (fu : Nat) (k : Int) (U : Um), M U (blk T 30 0 k F) → fM U0 U → 0 ≤ k → k ≤ 48 → rowI U 47 F 48 → (48 - k).toNat < fu → w_X12_fill_L121 55 x1 post k_145 fu (jI k) U := by
  intro fu
  induction fu with
  | zero => intro k U hM hF h3 h4 h5 h6; exact absurd h6 (Nat.not_lt_zero _)
  | succ fu ih =>
    intro k U hM hF h3 h4 h5 h6
    show b_X12_fill_L121 55 x1 post k_145 (w_X12_fill_L121 55 x1 post k_145 fu) (jI k) U
    unfold b_X12_fill_L121
    refine br_le 48 k rfl rfl ⟨by omega, by omega⟩ ⟨by omega, by omega⟩ (fun c => ?_) (fun c => ?_)
    · rw [show k = 48 by omega] at hM
      exact hk U hM hF
    refine ⟨jvp k rfl h3 (by omega) (by decide), jvp k rfl h3 (by omega) (by decide), ?_⟩
    intro V hV
    have tn : Int32.toNatClampNeg (jI k) = k.toNat := jI_nat h3 (by omega)
    refine al_i (k + 1) (jadd rfl rfl) ?_
    have m := M_sA hM (E := jI k) (V := uA U 55 47 (Int32.toNatClampNeg (jI k))) (k := 30) k (F k) rfl (by rw [tn]; exact h5 k h3 c) h3 (by omega)
    have z := blk_s (T := T) (k := 30) (lo := 0) (n := k) (F := F) h3
    rw [Int.zero_add] at z
    rw [← hV, z] at m
    refine ih (k + 1) V m (by rw [hV]; exact fM_trans hF fM_sA) (by omega) (by omega) (fun j j0 j1 => ?_) (by omega)
    rw [hV, uA_sA, if_neg (by omega)]
    exact h5 j j0 j1
theorem s_X12_fill {U : Um} {T : Tm} (hM : M U T) (hI : I1 T) (h2 : I2 T) (p0 : 0 ≤ T 38 0) (p1 : T 38 0 ≤ 8) {post : Int32 → Um → Prop} (h : ∀ U2 : Um, M U2 (fillT T) → fM U U2 → post (jI (fillS T)) U2) : w_X12_fill 55 U post := by
  unfold w_X12_fill
  intro V hV
  have hMV : M V T := by rw [hV]; exact M_xI hM
  have hFV : fM U V := by rw [hV]; exact fM_sI
  have h48 := opl_48 (T := T)
  have hcb := cnt_b (p := opnS T) (n := 48) (by decide)
  refine ⟨(48 - 0 : Int).toNat + 1, ?_⟩
  have L := l_fill9 hI h2 (post := post) (U0 := U) (k_44 := fun x1_9 U_10 => (x1_9 = 0 → post 0 U_10) ∧ (¬ x1_9 = 0 → ∀ (U_11 : Um), U_11 = sI U_10 55 45 0 → w_X12_fills 49 55 0 U_11 (fun r_13 U_12 => (r_13 = 0 → (∃ n_17, w_X12_fill_L149 55 post (fun U_16 => ((uI U_16 55 45) ≤ 20000 → post (-1) U_16) ∧ (¬ (uI U_16 55 45) ≤ 20000 → post (-2) U_16)) n_17 0 U_12)) ∧ (¬ r_13 = 0 → (∃ n_31, w_X12_fill_L65 55 x1_9 post (fun U_20 => (∃ n_30, w_X12_fill_L91 55 x1_9 post (fun U_23 => w_X12_keeps 55 U_23 (fun U_24 => (∃ n_29, w_X12_fill_L121 55 x1_9 post (fun U_28 => post x1_9 U_28) n_29 0 U_24))) n_30 0 U_20)) n_31 0 U_12))))) ?_ ((48 - 0 : Int).toNat + 1) 0 V hMV hFV (by omega) (by omega) (fun j a b => by omega) (by omega)
  · rw [cnt_0 (by decide)] at L
    exact L
  intro V1 m1 f1 k1
  refine br_eq (cnt (opnS T) 48) 0 rfl rfl ⟨by omega, by omega⟩ ⟨by omega, by omega⟩ (fun c => ?_) (fun c => ?_)
  · have hl : (opl T 48 0).length = 0 := by omega
    have := h V1 (by unfold fillT; rw [if_pos hl]; exact m1) f1
    unfold fillS at this
    rw [if_pos hl] at this
    exact this
  have hl : ¬ (opl T 48 0).length = 0 := by omega
  intro V2 hV2
  have m2 : M V2 T := by rw [hV2]; exact M_xI m1
  have f2 : fM U V2 := by rw [hV2]; exact fM_trans f1 fM_sI
  have k2 : rowI V2 46 (T 30) 48 := by rw [hV2]; exact k1
  refine l_fills (opl T 48 0) 49 (by omega) T 0 0 48 V2 _ m2 hI h2 (by omega) (by omega) rfl (by rw [hV2, uI_sI, if_pos ⟨rfl, rfl⟩]; rfl) (by omega) (by omega) (fun V3 T3 n3 m3 f3 s3 u3 => ?_) (fun V3 n3 m3 f3 s3 u3 b3 => ?_)
  · refine br_1 ?_
    have k3 : rowI V3 46 (T 30) 48 := fun j a b => by rw [f3.2]; exact k2 j a b
    have ha := srch_al _ _ _ _ _ s3
    refine ⟨(48 - 0 : Int).toNat + 1, l_fill65 (T := T) (T2 := T3) (U0 := U) (fun V4 m4 f4 k4 e4 => ?_) _ 0 V3 m3 (fM_trans f2 f3.1) (by omega) (by omega) k3 (fun j a b => by omega) (by omega)⟩
    refine ⟨(48 - 0 : Int).toNat + 1, l_fill91 (T := T) (T2 := T3) (U0 := V4) (fun V5 m5 f5 => ?_) _ 0 V4 (by rw [blk_0]; exact m4) fK_rfl (by omega) (by omega) k4 (by omega)⟩
    have m5' : M V5 T := M_30 m5 (fun k j hk => (blk_nf hk).trans (ha k j hk)) (fun j j0 j1 => by rw [blk_in j0 (by omega), show j - 0 = j by omega])
    refine sk_X12_keeps m5' p0 p1 (fun V6 m6 f6 => ?_)
    have e6 : rowI V6 47 (T3 30) 48 := fun j a b => by rw [f6.2, f5.2]; exact e4 j a b
    refine ⟨(48 - 0 : Int).toNat + 1, l_fill121 (T := keepT T) (F := T3 30) (U0 := U) (fun V7 m7 f7 => ?_) _ 0 V6 (by rw [blk_0]; exact m6) (fM_trans (fM_trans f4 f5.1) f6.1) (by omega) (by omega) e6 (by omega)⟩
    have := h V7 (by unfold fillT; rw [if_neg hl, s3]; exact m7) f7
    unfold fillS at this
    rw [if_neg hl, s3, h48] at this
    exact this
  · refine br_0 ?_
    have k3 : rowI V3 46 (T 30) 48 := fun j a b => by rw [f3.2]; exact k2 j a b
    refine ⟨(48 - 0 : Int).toNat + 1, l_fill149 (T := T) (T2 := T) (U0 := V3) (fun V4 m4 f4 u4 => ?_) _ 0 V3 (by rw [blk_0]; exact m3) fM_rfl rfl (by omega) (by omega) k3 (by omega)⟩
    have m4' : M V4 T := M_30 m4 (fun k j hk => blk_nf hk) (fun j j0 j1 => by rw [blk_in j0 (by omega), show j - 0 = j by omega])
    have := h V4 (by unfold fillT; rw [if_neg hl, s3]; exact m4') (fM_trans (fM_trans f2 f3.1) f4)
    unfold fillS at this
    rw [if_neg hl, s3] at this
    refine br_le n3 20000 (by rw [u4]; exact u3) rfl ⟨by omega, by omega⟩ ⟨by omega, by omega⟩ (fun c2 => ?_) (fun c2 => ?_)
    · rw [show (match ((none : Option Tm), n3) with
        | (some _, _) => ((opl T 48 0).length : Int)
        | (none, n) => if n ≤ 20000 then -1 else -2) = -1 from if_pos c2] at this
      exact this
    · rw [show (match ((none : Option Tm), n3) with
        | (some _, _) => ((opl T 48 0).length : Int)
        | (none, n) => if n ≤ 20000 then -1 else -2) = -2 from if_neg (by omega)] at this
      exact this
