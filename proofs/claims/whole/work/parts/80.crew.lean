/-! crews -/
abbrev Cw : Type := Int × Int × (Int → Int)
def foN {α : Type} (f : Int → α → α) : Nat → α → α
  | 0, x => x
  | n + 1, x => f n (foN f n x)
noncomputable def crwN (g : Int) : Nat → Tm → Int → Int → Cw → Cw
  | 0, T, s, sum, st => if st.1 ≠ 0 ∧ st.2.1 ≤ sum then st else (1, sum, fun k => T 30 (3 * g + k))
  | n + 1, T, s, sum, st => cif (T 30 (3 * g + s) ≠ -1) (crwN g n T (s + 1) sum st) (foN (fun o x => cif (whyS T g s o = 0) (crwN g n (up T 30 (3 * g + s) o) (s + 1) (sum + extS T g s o) x) x) (T 11 2).toNat st)
noncomputable def crw0 (T : Tm) (g : Int) : Cw := crwN g (gm T g 7).toNat T 0 0 (0, 0, fun _ => 0)
noncomputable def crewS (T : Tm) (g w : Int) : Int := cif (isGame T g ∧ ¬ gm T g 3 < T 35 0 ∧ 0 ≤ w ∧ w ≤ gm T g 7) (if (crw0 T g).1 = 0 then -1 else if w = 0 then (crw0 T g).2.1 else (crw0 T g).2.2 (w - 1)) (-1)
theorem whyS_0 {T : Tm} {g s o : Int} (h : whyS T g s o = 0) : T 30 (3 * g + s) = -1 ∧ ¬ inGame T o g := by
  unfold whyS at h
  by_cases c : T 30 (3 * g + s) ≠ -1
  · rw [cif_t c] at h
    omega
  · rw [cif_f c] at h
    refine ⟨Classical.not_not.mp c, fun q => ?_⟩
    unfold hind at h
    rw [cif_t q] at h
    omega
def cwOk (U : Um) (n : Int) (st : Cw) : Prop := (st.1 = 0 ∨ st.1 = 1) ∧ uI U 55 44 = jI st.1 ∧ (st.1 ≠ 0 → uI U 55 43 = jI st.2.1 ∧ (-2000000 ≤ st.2.1 ∧ st.2.1 ≤ 2000000) ∧ ∀ k : Int, 0 ≤ k → k < n → uA U 55 41 k.toNat = jI (st.2.2 k))
def trOk (U : Um) (T : Tm) (g s : Int) : Prop := ∀ k : Int, 0 ≤ k → k < s → uA U 55 42 k.toNat = jI (T 30 (3 * g + k))
theorem cwOk_sA {U : Um} {n : Int} {st : Cw} {k : Nat} {f : Nat → Int32} (hk : k ≠ 41) (h : cwOk U n st) : cwOk (sA U 55 k f) n st := by
  refine ⟨h.1, h.2.1, fun q => ⟨(h.2.2 q).1, (h.2.2 q).2.1, fun j a b => ?_⟩⟩
  rw [uA_sA, if_neg (by omega)]
  exact (h.2.2 q).2.2 j a b
theorem l_crews40 {T : Tm} {g n : Int} {rec : Nat → Int32 → Int32 → Int32 → Um → (Um → Prop) → Prop} {post : Um → Prop} {k_66 : Um → Prop} {U0 : Um} {sum : Int} (hs : -2000000 ≤ sum ∧ sum ≤ 2000000) (hn3 : n ≤ 3) (hk : ∀ U : Um, M U T → fM U0 U → cwOk U n (1, sum, fun k => T 30 (3 * g + k)) → trOk U T g n → k_66 U) : ∀ (fu : Nat) (k : Int) (U : Um), M U T → fM U0 U → 0 ≤ k → k ≤ 3 → uI U 55 44 = jI 1 → uI U 55 43 = jI sum → trOk U T g n → (∀ j : Int, 0 ≤ j → j < k → j < n → uA U 55 41 j.toNat = jI (T 30 (3 * g + j))) → (3 - k).toNat < fu → w_X12_crews_L40 rec 55 post k_66 fu (jI k) U := by
  intro fu
  induction fu with
  | zero => intro k U hM hF h3 h4 h5 h6 h7 h8 h9; exact absurd h9 (Nat.not_lt_zero _)
  | succ fu ih =>
    intro k U hM hF h3 h4 h5 h6 h7 h8 h9
    show b_X12_crews_L40 rec 55 post k_66 (w_X12_crews_L40 rec 55 post k_66 fu) (jI k) U
    unfold b_X12_crews_L40
    refine br_le 3 k rfl rfl ⟨by omega, by omega⟩ ⟨by omega, by omega⟩ (fun c => ?_) (fun c => ?_)
    · exact hk U hM hF ⟨Or.inr rfl, h5, fun _ => ⟨h6, hs, fun j a b => h8 j a (by omega) b⟩⟩ h7
    refine ⟨jvp k rfl h3 (by omega) (by decide), jvp k rfl h3 (by omega) (by decide), ?_⟩
    intro V hV
    have tn : Int32.toNatClampNeg (jI k) = k.toNat := jI_nat h3 (by omega)
    refine al_i (k + 1) (jadd rfl rfl) ?_
    refine ih (k + 1) V (by rw [hV]; exact M_xA hM) (by rw [hV]; exact fM_trans hF fM_sA) (by omega) (by omega) (by rw [hV]; exact h5) (by rw [hV]; exact h6) (fun j a b => by rw [hV, uA_sA, if_neg (by omega)]; exact h7 j a b) (fun j a b c2 => ?_) (by omega)
    rw [hV, uA_sA, if_pos ⟨rfl, rfl⟩, tn]
    unfold va_up
    by_cases z : j = k
    · rw [if_pos (by rw [z]), ← z]
      exact h7 j a c2
    · rw [if_neg (by omega)]
      exact h8 j a (by omega) c2
theorem l_crews (g : Int) : ∀ (n : Nat) (d : Nat), n < d → ∀ (T : Tm) (s sum : Int) (U : Um) (st : Cw) (post : Um → Prop), M U T → I1 T → I2 T → isGame T g → 0 ≤ s → s + n = gm T g 7 → (-340000 * s ≤ sum ∧ sum ≤ 340000 * s) → cwOk U (gm T g 7) st → trOk U T g s → (∀ V : Um, M V T → fM U V → cwOk V (gm T g 7) (crwN g n T s sum st) → trOk V T g s → post V) → w_X12_crews d 55 (jI g) (jI s) (jI sum) U post := by
  intro n
  induction n with
  | zero =>
    intro d hd T s sum U st post hM hI h2 hg s0 sn hsum hc ht h
    have hgk := I_g hI g hg.1 hg.2
    unfold gOk at hgk
    have hn := I_n hI
    match d, hd with
    | d + 1, hd =>
      show b_X12_crews (w_X12_crews d) 55 (jI g) (jI s) (jI sum) U post
      unfold b_X12_crews
      refine s_X12_of hM hI h2 (g := g) (k := 7) rfl rfl (by omega) (by omega) (by omega) (by omega) ?_
      refine br_eq s (gm T g 7) rfl rfl ⟨by omega, by omega⟩ ⟨by omega, by omega⟩ (fun c => ?_) (fun c => absurd (by omega) c)
      intro K hK
      have new : ¬ (st.1 ≠ 0 ∧ st.2.1 ≤ sum) → K := by
        intro q
        refine hK ?_
        intro V hV W hW
        refine ⟨(3 - 0 : Int).toNat + 1, l_crews40 (T := T) (g := g) (n := gm T g 7) (U0 := U) (sum := sum) (by omega) (by omega) (fun V2 m2 f2 c2 t2 => ?_) _ 0 W (by rw [hW, hV]; exact M_xI (M_xI hM)) (by rw [hW, hV]; exact fM_trans fM_sI fM_sI) (by omega) (by omega) ?_ ?_ ?_ (fun j a b => by omega) (by omega)⟩
        · refine h V2 m2 f2 ?_ (fun j a b => t2 j a (by omega))
          show cwOk V2 (gm T g 7) (if st.1 ≠ 0 ∧ st.2.1 ≤ sum then st else (1, sum, fun k => T 30 (3 * g + k)))
          rw [if_neg q]
          exact c2
        · rw [hW, uI_sI, if_neg (by omega), hV, uI_sI, if_pos ⟨rfl, rfl⟩]
          rfl
        · rw [hW, uI_sI, if_pos ⟨rfl, rfl⟩]
        · intro j a b
          rw [hW, uA_sI, hV, uA_sI]
          exact ht j a (by omega)
      refine br_eq st.1 0 hc.2.1 rfl (by rcases hc.1 with z | z <;> rw [z] <;> exact ⟨by omega, by omega⟩) ⟨by omega, by omega⟩ (fun q => new (fun z => z.1 q)) (fun q => ?_)
      have hb := hc.2.2 q
      refine br_lt sum st.2.1 rfl hb.1 ⟨by omega, by omega⟩ ⟨by omega, by omega⟩ (fun c3 => new (fun z => by omega)) (fun c3 => ?_)
      refine h U hM fM_rfl ?_ ht
      show cwOk U (gm T g 7) (if st.1 ≠ 0 ∧ st.2.1 ≤ sum then st else (1, sum, fun k => T 30 (3 * g + k)))
      rw [if_pos ⟨q, c3⟩]
      exact hc
  | succ n ihn =>
    intro d hd T s sum U st post hM hI h2 hg s0 sn hsum hc ht h
    have hgk := I_g hI g hg.1 hg.2
    unfold gOk at hgk
    have hn := I_n hI
    match d, hd with
    | d + 1, hd =>
      show b_X12_crews (w_X12_crews d) 55 (jI g) (jI s) (jI sum) U post
      unfold b_X12_crews
      refine s_X12_of hM hI h2 (g := g) (k := 7) rfl rfl (by omega) (by omega) (by omega) (by omega) ?_
      refine br_eq s (gm T g 7) rfl rfl ⟨by omega, by omega⟩ ⟨by omega, by omega⟩ (fun c => by omega) (fun c => ?_)
      refine s_X12_at (g := g) (s := s) rfl rfl ?_
      have hkk := I_k h2 (3 * g + s) (by omega) (by omega)
      refine ⟨jvp (3 * g + s) rfl (by omega) (by omega) (by decide), ?_⟩
      have r30 : uA U 55 30 (Int32.toNatClampNeg (jI (3 * g + s))) = jI (T 30 (3 * g + s)) := rdA (M_A hM 30 48) (3 * g + s) rfl (by omega) (by omega)
      have tn : Int32.toNatClampNeg (jI s) = s.toNat := jI_nat s0 (by omega)
      refine br_eq (T 30 (3 * g + s)) (-1) r30 rfl ⟨by omega, by omega⟩ ⟨by omega, by omega⟩ (fun c1 => ?_) (fun c1 => ?_)
      · have hseat : isSeat T g s := ⟨hg, s0, by omega⟩
        have lp : ∀ (fu : Nat) (o : Int) (V : Um), M V T → fM U V → 0 ≤ o → o ≤ T 11 2 → cwOk V (gm T g 7) (foN (fun o x => cif (whyS T g s o = 0) (crwN g n (up T 30 (3 * g + s) o) (s + 1) (sum + extS T g s o) x) x) o.toNat st) → trOk V T g s → (T 11 2 - o).toNat < fu → w_X12_crews_L111 (w_X12_crews d) 55 (jI g) (jI s) (jI sum) (jI (3 * g + s)) post (fun U_23 => post U_23) fu (jI o) V := by
          intro fu
          induction fu with
          | zero => intro o V hV hF o0 o1 hcw htr hm; exact absurd hm (Nat.not_lt_zero _)
          | succ fu ih =>
            intro o V hV hF o0 o1 hcw htr hm
            show b_X12_crews_L111 (w_X12_crews d) 55 (jI g) (jI s) (jI sum) (jI (3 * g + s)) post (fun U_23 => post U_23) (w_X12_crews_L111 (w_X12_crews d) 55 (jI g) (jI s) (jI sum) (jI (3 * g + s)) post (fun U_23 => post U_23) fu) (jI o) V
            unfold b_X12_crews_L111
            refine ⟨jvp (2) rfl (by omega) (by omega) (by decide), ?_⟩
            refine br_le (T 11 2) o (rdA (M_A hV 11 7) (2) rfl (by omega) (by omega)) rfl ⟨by omega, by omega⟩ ⟨by omega, by omega⟩ (fun c2 => ?_) (fun c2 => ?_)
            · refine h V hV hF ?_ htr
              have e : o = T 11 2 := by omega
              show cwOk V (gm T g 7) (cif (T 30 (3 * g + s) ≠ -1) (crwN g n T (s + 1) sum st) (foN (fun o x => cif (whyS T g s o = 0) (crwN g n (up T 30 (3 * g + s) o) (s + 1) (sum + extS T g s o) x) x) (T 11 2).toNat st))
              rw [cif_f (fun q => q c1), ← e]
              exact hcw
            have es : (o + 1).toNat = o.toNat + 1 := by omega
            have eo : ((o.toNat : Nat) : Int) = o := Int.toNat_of_nonneg o0
            have hwb := whyS_bb T g s o
            refine s_X12_whyNot hV hI h2 (g := g) (s := s) (o := o) rfl rfl rfl hg.1 hg.2 s0 (by omega) o0 c2 ?_
            refine br_eq (whyS T g s o) 0 rfl rfl ⟨by omega, by omega⟩ ⟨by omega, by omega⟩ (fun c3 => ?_) (fun c3 => ?_)
            · have hw := whyS_0 c3
              have hx := extS_b hI g s o o0 c2
              refine s2_X12_extraOf hV hI h2 (g := g) (s := s) (o := o) rfl rfl rfl hg.1 hg.2 s0 (by omega) o0 c2 (fun V1 m1 f1 => ?_)
              refine ⟨jvp (3 * g + s) rfl (by omega) (by omega) (by decide), ?_⟩
              intro V2 hV2
              have m2 : M V2 (up T 30 (3 * g + s) o) := by rw [hV2]; exact M_sA m1 (3 * g + s) o rfl rfl (by omega) (by omega)
              refine ⟨jvp s rfl s0 (by omega) (by decide), ?_⟩
              intro V3 hV3
              have m3 : M V3 (up T 30 (3 * g + s) o) := by rw [hV3]; exact M_xA m2
              have f3 : fM U V3 := by rw [hV3, hV2]; exact fM_trans (fM_trans (fM_trans hF f1.1) fM_sA) fM_sA
              rw [show jI s + 1 = jI (s + 1) from jadd rfl rfl, jI_add]
              have cw1 : cwOk V1 (gm T g 7) (foN (fun o x => cif (whyS T g s o = 0) (crwN g n (up T 30 (3 * g + s) o) (s + 1) (sum + extS T g s o) x) x) o.toNat st) := by
                refine ⟨hcw.1, (f1.2.1 44).trans hcw.2.1, fun q => ⟨(f1.2.1 43).trans (hcw.2.2 q).1, (hcw.2.2 q).2.1, fun j a b => ?_⟩⟩
                rw [f1.2.2 41 (by omega)]
                exact (hcw.2.2 q).2.2 j a b
              refine ihn d (by omega) (up T 30 (3 * g + s) o) (s + 1) (sum + extS T g s o) V3 _ _ m3 (I1_30 hI) (I2_put hI h2 hseat ⟨o0, c2⟩ hw.2) hg (by omega) (show s + 1 + n = gm T g 7 by omega) (by omega) (by rw [hV3, hV2]; exact cwOk_sA (by omega) (cwOk_sA (by omega) cw1)) (fun j a b => ?_) (fun V4 m4 f4 c4 t4 => ?_)
              · rw [hV3, uA_sA, if_pos ⟨rfl, rfl⟩, tn]
                unfold va_up
                by_cases z : j = s
                · rw [if_pos (by rw [z]), z, up_eq]
                · rw [if_neg (by omega), hV2, uA_sA, if_neg (by omega), f1.2.2 42 (by omega), up_ne (by omega)]
                  exact htr j a (by omega)
              · refine ⟨jvp (3 * g + s) rfl (by omega) (by omega) (by decide), ?_⟩
                intro V5 hV5
                have m5 : M V5 T := by
                  have : M V5 (up (up T 30 (3 * g + s) o) 30 (3 * g + s) (-1)) := by rw [hV5]; exact M_sA m4 (3 * g + s) (-1) rfl rfl (by omega) (by omega)
                  rw [up_up, up_id hw.1] at this
                  exact this
                refine al_i (o + 1) (jadd rfl rfl) ?_
                refine ih (o + 1) V5 m5 (by rw [hV5]; exact fM_trans (fM_trans f3 f4) fM_sA) (by omega) (by omega) ?_ (fun j a b => ?_) (by omega)
                · rw [es]
                  show cwOk V5 (gm T g 7) (cif (whyS T g s ((o.toNat : Nat) : Int) = 0) _ _)
                  rw [eo, cif_t c3, hV5]
                  exact cwOk_sA (by omega) c4
                · rw [hV5, uA_sA, if_neg (by omega)]
                  have := t4 j a (by omega)
                  rw [up_ne (by omega)] at this
                  exact this
            · refine al_i (o + 1) (jadd rfl rfl) ?_
              refine ih (o + 1) V hV hF (by omega) (by omega) ?_ htr (by omega)
              rw [es]
              show cwOk V (gm T g 7) (cif (whyS T g s ((o.toNat : Nat) : Int) = 0) _ _)
              rw [eo, cif_f c3]
              exact hcw
        exact ⟨(T 11 2 - 0 : Int).toNat + 1, lp _ 0 U hM fM_rfl (by omega) (by omega) hc ht (by omega)⟩
      · refine ⟨jvp (3 * g + s) rfl (by omega) (by omega) (by decide), jvp s rfl s0 (by omega) (by decide), ?_⟩
        intro V hV
        rw [show jI s + 1 = jI (s + 1) from jadd rfl rfl]
        have := ihn d (by omega) T (s + 1) sum V st post (by rw [hV]; exact M_xA hM) hI h2 hg (by omega) (by omega) (by omega) (by rw [hV]; exact cwOk_sA (by omega) hc) (fun j a b => ?_) (fun V2 m2 f2 c2 t2 => ?_)
        · exact this
        · rw [hV, uA_sA, if_pos ⟨rfl, rfl⟩, tn, r30]
          unfold va_up
          by_cases z : j = s
          · rw [if_pos (by rw [z]), z]
          · rw [if_neg (by omega)]
            exact ht j a (by omega)
        · refine h V2 m2 (fM_trans (by rw [hV]; exact fM_sA) f2) ?_ (fun j a b => t2 j a (by omega))
          show cwOk V2 (gm T g 7) (cif (T 30 (3 * g + s) ≠ -1) (crwN g n T (s + 1) sum st) _)
          rw [cif_t c1]
          exact c2
