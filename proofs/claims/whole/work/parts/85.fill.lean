/-! filling all seats -/
abbrev opnS (T : Tm) (k : Int) : Prop := isSeat T (k / 3) (k % 3) ∧ T 30 k = -1 ∧ ¬ gm T (k / 3) 3 < T 35 0 ∧ gm T (k / 3) 3 ≠ T 35 0
noncomputable def opl (T : Tm) : Nat → Int → List Int
  | 0, _ => []
  | n + 1, k => cif (opnS T k) (k :: opl T n (k + 1)) (opl T n (k + 1))
noncomputable def tryN (T : Tm) (p : Int) (f : Tm → Int → Option Tm × Int) : Nat → Int → Int → Option Tm × Int
  | 0, _, n => (none, n)
  | m + 1, o, n => if 20000 < n then (none, n) else cif (whyS T (p / 3) (p % 3) o = 0) (if 20000 < n + 1 then (none, n + 1) else match f (up T 30 p o) (n + 1) with
    | (some T2, k) => (some T2, k)
    | (none, k) => tryN T p f m (o + 1) k) (tryN T p f m (o + 1) n)
noncomputable def srch : List Int → Tm → Int → Option Tm × Int
  | [], T, n => (some T, n)
  | p :: ps, T, n => tryN T p (srch ps) (T 11 2).toNat 0 n
theorem opl_up {T : Tm} {j o : Int} : ∀ (n : Nat) (k : Int), j < k → opl (up T 30 j o) n k = opl T n k := by
  intro n
  induction n with
  | zero => intro k _; rfl
  | succ n ih =>
    intro k hk
    have e : opnS (up T 30 j o) k ↔ opnS T k := by
      have e1 : up T 30 j o 30 k = T 30 k := up_ne (by omega)
      show (isSeat T (k / 3) (k % 3) ∧ up T 30 j o 30 k = -1 ∧ ¬ gm T (k / 3) 3 < T 35 0 ∧ gm T (k / 3) 3 ≠ T 35 0) ↔ _
      rw [e1]
    show cif (opnS (up T 30 j o) k) (k :: opl (up T 30 j o) n (k + 1)) (opl (up T 30 j o) n (k + 1)) = cif (opnS T k) (k :: opl T n (k + 1)) (opl T n (k + 1))
    rw [ih (k + 1) (by omega), propext e]
theorem s_X12_isOpen {U : Um} {T : Tm} (hM : M U T) (hI : I1 T) (h2 : I2 T) {a1 : Int32} {k : Int} (e1 : a1 = jI k) (p0 : 0 ≤ k) (p1 : k < 48) {post : Int32 → Um → Prop} (h1 : opnS T k → post 1 U) (h0 : ¬ opnS T k → post 0 U) : w_X12_isOpen 55 a1 U post := by
  unfold w_X12_isOpen
  subst e1
  have hn := I_n hI
  have dv : jI k / 3 = jI (k / 3) := jdiv rfl rfl ⟨by omega, by omega⟩ ⟨by omega, by omega⟩ (by omega) (by omega)
  have rm : jI k - jI k / 3 * 3 = jI (k % 3) := jrem rfl rfl ⟨by omega, by omega⟩ ⟨by omega, by omega⟩ (by omega) (by omega)
  have hk := I_k h2 k p0 p1
  refine s_X12_isSeat hM hI h2 (g := k / 3) (s := k % 3) dv rm ⟨by omega, by omega⟩ ⟨by omega, by omega⟩ (fun c1 => ?_) (fun c1 => br_0 (h0 (fun q => c1 q.1)))
  refine br_1 ?_
  refine ⟨jvp k rfl p0 (by omega) (by decide), ?_⟩
  refine br_eq (T 30 k) (-1) (rdA (M_A hM 30 48) k rfl p0 (by omega)) rfl ⟨by omega, by omega⟩ ⟨by omega, by omega⟩ (fun c2 => ?_) (fun c2 => h0 (fun q => c2 q.2.1))
  refine s_X12_isPlayed hM hI h2 (g := k / 3) dv c1.1.1 c1.1.2 (fun c3 => br_1 (h0 (fun q => q.2.2.1 c3))) (fun c3 => br_0 ?_)
  refine s_X12_isLate hM hI h2 (g := k / 3) dv c1.1.1 c1.1.2 (fun c4 => br_1 (h0 (fun q => q.2.2.2 c4))) (fun c4 => br_0 ?_)
  exact h1 ⟨c1, c2, c3, c4⟩
/-- who was noted stays -/
def fFl (U V : Um) : Prop := fM U V ∧ uA V 55 46 = uA U 55 46
theorem fFl_rfl {U : Um} : fFl U U := ⟨fM_rfl, rfl⟩
theorem fFl_trans {U V Wm : Um} (h : fFl U V) (h2 : fFl V Wm) : fFl U Wm := ⟨fM_trans h.1 h2.1, h2.2.trans h.2⟩
theorem fFl_sA {U : Um} {f : Nat → Int32} : fFl U (sA U 55 30 f) := ⟨fM_sA, by rw [uA_sA, if_neg (by omega)]⟩
theorem fFl_sI {U : Um} {k : Nat} {f : Int32} : fFl U (sI U 55 k f) := ⟨fM_sI, rfl⟩
theorem l_fills2 {T : Tm} (hI : I1 T) (h2 : I2 T) {rec : Nat → Int32 → Um → (Int32 → Um → Prop) → Prop} {post : Int32 → Um → Prop} {k_22 : Int32 → Um → Prop} {U : Um} (hM : M U T) {l : List Int} (h48 : l = [] → k_22 (jI 48) U) (hj : ∀ (j : Int) (n : Nat) (ps : List Int), 0 ≤ j → j < 48 → opnS T j → l = j :: ps → ps = opl T n (j + 1) → (n : Int) = 48 - (j + 1) → k_22 (jI j) U) : ∀ (n : Nat) (k : Int), 0 ≤ k → (n : Int) = 48 - k → l = opl T n k → w_X12_fills_L2 rec 55 post k_22 (n + 1) (jI k) U := by
  intro n
  induction n with
  | zero =>
    intro k k0 kn hl
    show b_X12_fills_L2 rec 55 post k_22 (w_X12_fills_L2 rec 55 post k_22 0) (jI k) U
    unfold b_X12_fills_L2
    refine br_le 48 k rfl rfl ⟨by omega, by omega⟩ ⟨by omega, by omega⟩ (fun c => ?_) (fun c => by omega)
    rw [show k = 48 by omega]
    exact h48 hl
  | succ n ih =>
    intro k k0 kn hl
    show b_X12_fills_L2 rec 55 post k_22 (w_X12_fills_L2 rec 55 post k_22 (n + 1)) (jI k) U
    unfold b_X12_fills_L2
    refine br_le 48 k rfl rfl ⟨by omega, by omega⟩ ⟨by omega, by omega⟩ (fun c => by omega) (fun c => ?_)
    have hl2 : l = cif (opnS T k) (k :: opl T n (k + 1)) (opl T n (k + 1)) := hl
    refine s_X12_isOpen hM hI h2 (k := k) rfl k0 (by omega) (fun c1 => ?_) (fun c1 => ?_)
    · refine br_1 ?_
      rw [cif_t c1] at hl2
      exact hj k n _ k0 (by omega) c1 hl2 rfl (by omega)
    · refine br_0 ?_
      refine al_i (k + 1) (jadd rfl rfl) ?_
      rw [cif_f c1] at hl2
      exact ih (k + 1) (by omega) (by omega) hl2
theorem l_fills : ∀ (l : List Int) (d : Nat), l.length < d → ∀ (T : Tm) (k n : Int) (m : Nat) (U : Um) (post : Int32 → Um → Prop), M U T → I1 T → I2 T → 0 ≤ k → (m : Int) = 48 - k → l = opl T m k → uI U 55 45 = jI n → 0 ≤ n → n ≤ 20001 → (∀ (V : Um) (T2 : Tm) (n2 : Int), M V T2 → fFl U V → srch l T n = (some T2, n2) → uI V 55 45 = jI n2 → post 1 V) → (∀ (V : Um) (n2 : Int), M V T → fFl U V → srch l T n = (none, n2) → uI V 55 45 = jI n2 → (0 ≤ n2 ∧ n2 ≤ 20001) → post 0 V) → w_X12_fills d 55 (jI k) U post := by
  intro l
  induction l with
  | nil =>
    intro d hd T k n m U post hM hI h2 k0 km hl hu n0 n1 h1 h0
    match d, hd with
    | d + 1, hd =>
      show b_X12_fills (w_X12_fills d) 55 (jI k) U post
      unfold b_X12_fills
      refine al_i k rfl ?_
      refine ⟨m + 1, l_fills2 hI h2 hM (l := []) (fun _ => ?_) (fun j n2 ps _ _ _ e _ _ => absurd e (by simp)) m k k0 km hl⟩
      refine br_eq 48 48 rfl rfl ⟨by omega, by omega⟩ ⟨by omega, by omega⟩ (fun _ => h1 U T n hM fFl_rfl rfl hu) (fun q => absurd rfl q)
  | cons p ps ihl =>
    intro d hd T k n m U post hM hI h2 k0 km hl hu n0 n1 h1 h0
    match d, hd with
    | d + 1, hd =>
      show b_X12_fills (w_X12_fills d) 55 (jI k) U post
      unfold b_X12_fills
      refine al_i k rfl ?_
      refine ⟨m + 1, l_fills2 hI h2 hM (l := p :: ps) (fun e => absurd e (by simp)) (fun j mN ps2 j0 j1 oj e e2 em => ?_) m k k0 km hl⟩
      have ep : j = p := by
        have := List.cons.inj e
        exact this.1.symm
      have eps : ps2 = ps := (List.cons.inj e).2.symm
      subst ep
      rw [eps] at e2
      refine br_eq j 48 rfl rfl ⟨by omega, by omega⟩ ⟨by omega, by omega⟩ (fun q => by omega) (fun _ => ?_)
      have hn := I_n hI
      have ek : 3 * (j / 3) + j % 3 = j := by omega
      have dv : jI j / 3 = jI (j / 3) := jdiv rfl rfl ⟨by omega, by omega⟩ ⟨by omega, by omega⟩ (by omega) (by omega)
      have rm : jI j - jI j / 3 * 3 = jI (j % 3) := jrem rfl rfl ⟨by omega, by omega⟩ ⟨by omega, by omega⟩ (by omega) (by omega)
      have lp : ∀ (f : Nat) (o q : Int) (V : Um), M V T → fFl U V → 0 ≤ o → (f : Int) = T 11 2 - o → uI V 55 45 = jI q → 0 ≤ q → q ≤ 20001 → tryN T j (srch ps) f o q = srch (j :: ps) T n → w_X12_fills_L32 (w_X12_fills d) 55 (jI j) post (fun U_16 => post 0 U_16) (f + 1) (jI o) V := by
        intro f
        induction f with
        | zero =>
          intro o q V hV hF o0 fo hq q0 q1 ht
          show b_X12_fills_L32 (w_X12_fills d) 55 (jI j) post (fun U_16 => post 0 U_16) (w_X12_fills_L32 (w_X12_fills d) 55 (jI j) post (fun U_16 => post 0 U_16) 0) (jI o) V
          unfold b_X12_fills_L32
          refine ⟨jvp (2) rfl (by omega) (by omega) (by decide), ?_⟩
          refine br_le (T 11 2) o (rdA (M_A hV 11 7) (2) rfl (by omega) (by omega)) rfl ⟨by omega, by omega⟩ ⟨by omega, by omega⟩ (fun c => ?_) (fun c => by omega)
          exact h0 V q hV hF ht.symm hq ⟨q0, q1⟩
        | succ f ih =>
          intro o q V hV hF o0 fo hq q0 q1 ht
          show b_X12_fills_L32 (w_X12_fills d) 55 (jI j) post (fun U_16 => post 0 U_16) (w_X12_fills_L32 (w_X12_fills d) 55 (jI j) post (fun U_16 => post 0 U_16) (f + 1)) (jI o) V
          unfold b_X12_fills_L32
          refine ⟨jvp (2) rfl (by omega) (by omega) (by decide), ?_⟩
          refine br_le (T 11 2) o (rdA (M_A hV 11 7) (2) rfl (by omega) (by omega)) rfl ⟨by omega, by omega⟩ ⟨by omega, by omega⟩ (fun c => by omega) (fun c => ?_)
          have ht2 : (if 20000 < q then ((none : Option Tm), q) else cif (whyS T (j / 3) (j % 3) o = 0) (if 20000 < q + 1 then (none, q + 1) else match srch ps (up T 30 j o) (q + 1) with
            | (some T2, k) => (some T2, k)
            | (none, k) => tryN T j (srch ps) f (o + 1) k) (tryN T j (srch ps) f (o + 1) q)) = srch (j :: ps) T n := ht
          refine br_lt 20000 q rfl hq ⟨by omega, by omega⟩ ⟨by omega, by omega⟩ (fun c1 => ?_) (fun c1 => ?_)
          · rw [if_pos c1] at ht2
            exact h0 V q hV hF ht2.symm hq ⟨q0, q1⟩
          rw [if_neg (by omega)] at ht2
          have hwb := whyS_bb T (j / 3) (j % 3) o
          refine s_X12_whyNot hV hI h2 (g := j / 3) (s := j % 3) (o := o) dv rm rfl oj.1.1.1 oj.1.1.2 oj.1.2.1 oj.1.2.2 o0 c ?_
          refine br_eq (whyS T (j / 3) (j % 3) o) 0 rfl rfl ⟨by omega, by omega⟩ ⟨by omega, by omega⟩ (fun c2 => ?_) (fun c2 => ?_)
          · rw [cif_t c2] at ht2
            intro V1 hV1
            have u1 : uI V1 55 45 = jI (q + 1) := by
              rw [hV1, uI_sI, if_pos ⟨rfl, rfl⟩]
              exact jadd hq rfl
            have m1 : M V1 T := by rw [hV1]; exact M_xI hV
            have f1 : fFl U V1 := fFl_trans hF (by rw [hV1]; exact fFl_sI)
            refine br_le (q + 1) 20000 u1 rfl ⟨by omega, by omega⟩ ⟨by omega, by omega⟩ (fun c3 => ?_) (fun c3 => ?_)
            · rw [if_neg (by omega)] at ht2
              refine ⟨jvp j rfl j0 (by omega) (by decide), ?_⟩
              intro V2 hV2
              have m2 : M V2 (up T 30 j o) := by rw [hV2]; exact M_sA m1 j o rfl rfl j0 (by omega)
              have f2 : fFl U V2 := fFl_trans f1 (by rw [hV2]; exact fFl_sA)
              have hw := whyS_0 c2
              have I2p : I2 (up T 30 j o) := by
                have := I2_put hI h2 (g := j / 3) (s := j % 3) (o := o) oj.1 ⟨o0, c⟩ hw.2
                rw [ek] at this
                exact this
              rw [show jI j + 1 = jI (j + 1) from jadd rfl rfl]
              refine ihl d (by simp at hd; omega) (up T 30 j o) (j + 1) (q + 1) mN V2 _ m2 (I1_30 hI) I2p (by omega) (by omega) (by rw [opl_up mN (j + 1) (by omega)]; exact e2) (by rw [hV2, uI_sA]; exact u1) (by omega) (by omega) (fun V3 T3 n3 m3 f3 s3 u3 => ?_) (fun V3 n3 m3 f3 s3 u3 b3 => ?_)
              · rw [s3] at ht2
                refine br_1 ?_
                exact h1 V3 T3 n3 m3 (fFl_trans f2 f3) ht2.symm u3
              · rw [s3] at ht2
                refine br_0 ?_
                refine ⟨jvp j rfl j0 (by omega) (by decide), ?_⟩
                intro V4 hV4
                have m4 := M_sA m3 (E := jI j) (V := -1) (k := 30) j (-1) rfl rfl j0 (by omega)
                rw [← hV4, up_up, up_id oj.2.1] at m4
                refine al_i (o + 1) (jadd rfl rfl) ?_
                exact ih (o + 1) n3 V4 m4 (fFl_trans (fFl_trans f2 f3) (by rw [hV4]; exact fFl_sA)) (by omega) (by omega) (by rw [hV4]; exact u3) b3.1 b3.2 ht2
            · rw [if_pos (by omega)] at ht2
              exact h0 V1 (q + 1) m1 f1 ht2.symm u1 ⟨by omega, by omega⟩
          · rw [cif_f c2] at ht2
            refine al_i (o + 1) (jadd rfl rfl) ?_
            exact ih (o + 1) q V hV hF (by omega) (by omega) hq q0 q1 ht2
      refine ⟨(T 11 2).toNat + 1, lp _ 0 n U hM fFl_rfl (by omega) (by omega) hu n0 n1 rfl⟩
