/-! the class: all seats of a week -/
theorem I1_al {T T2 : Tm} (h : al30 T T2) (hI : I1 T) : I1 T2 := I1_c (fun k j hk => h k j (by omega)) hI
theorem I0_al {T T2 : Tm} (h : al30 T T2) (hz : I0 T) : I0 T2 := fun a ha => by
  unfold wayS
  rw [h 3 _ (by decide)]
  exact hz a (by
    have e := h 11 0 (by decide)
    unfold isField at ha ⊢
    rw [← e]
    exact ha)
theorem al_gm {T T2 : Tm} (h : al30 T T2) (g k : Int) : gm T2 g k = gm T g k := h 10 _ (by decide)
theorem al_seat {T T2 : Tm} (h : al30 T T2) {g s : Int} (hs : isSeat T g s) : isSeat T2 g s := by
  unfold isSeat isGame at hs ⊢
  rw [al_gm h, h 11 3 (by decide)]
  exact hs
theorem opl_b {T : Tm} : (opl T 48 0).length ≤ 48 := by
  have := opl_len (T := T) 48 0 (by decide)
  rw [cnt_0 (Int.le_refl _)] at this
  have b := cnt_b (p := opnS T) (n := 0 + ((48 : Nat) : Int)) (by decide)
  omega
def Fin3 (T : Tm) (l : List Int) (w : Nat) (Rz : Option Tm × Int) (K : Int32 → Int32 → Um → Prop) (U0 : Um) : Prop :=
  (∀ (n : Int) (T2 : Tm) (V : Um), 0 ≤ n → n ≤ 20000 → Rz = (some T2, n) → CC V T2 w → I2 T2 → al30 T T2 → fX PD U0 V → K (jI n) (jI (l.length : Int)) V) ∧
  (∀ (n : Int) (V : Um), 0 ≤ n → n ≤ 20000 → Rz = (none, n) → CC V T w → fX PD U0 V → K (jI n) (jI (-1)) V) ∧
  (∀ (s : Sk) (T2 : Tm) (ps : List Int) (V : Um), Rz = (none, 20001) → CC V T2 w → I2 T2 → SO T l w V s T2 ps → opIs V l → fX PD U0 V → K (jI 20001) (jI (s.length : Int)) V)
theorem xl_dead {T : Tm} {l : List Int} {w : Nat} {Rz : Option Tm × Int} {U0 : Um} {post : Int32 → Um → Prop} {K : Int32 → Int32 → Um → Prop} (hK : Fin3 T l w Rz K U0) {n f i : Int} {V : Um} (n0 : 0 ≤ n) (n1 : n ≤ 20000) (i0 : 0 ≤ i) (i1 : i ≤ 50000) (hR : Rz = (none, n)) (hC : CC V T w) (hF : fX PD U0 V) {x1 : Int32} (fu : Nat) : w_X1_fillAll_L15 3 x1 post K (fu + 1) (jI n) (jI (-1)) (jI f) (jI i) V := by
  show b_X1_fillAll_L15 3 x1 post K (w_X1_fillAll_L15 3 x1 post K fu) (jI n) (jI (-1)) (jI f) (jI i) V
  unfold b_X1_fillAll_L15
  refine br_le 1000000 i rfl rfl ⟨by omega, by omega⟩ ⟨by omega, by omega⟩ (fun c => absurd c (by omega)) (fun _ => ?_)
  refine br_lt (-1) 0 rfl rfl ⟨by omega, by omega⟩ ⟨by omega, by omega⟩ (fun _ => ?_) (fun c => absurd c (by decide))
  exact hK.2.1 n V n0 n1 hR hC hF
set_option maxHeartbeats 8000000 in
theorem xl_fill {T : Tm} {w : Nat} (hI : I1 T) (hz : I0 T) {Rz : Option Tm × Int} {U0 : Um} {post : Int32 → Um → Prop} {K : Int32 → Int32 → Um → Prop} (hK : Fin3 T (opl T 48 0) w Rz K U0) : ∀ (fu : Nat) (s : Sk) (T2 : Tm) (ps : List Int) (f n : Int) (V : Um), CC V T2 w → I2 T2 → SO T (opl T 48 0) w V s T2 ps → opIs V (opl T 48 0) → fX PD U0 V → 0 ≤ f → f ≤ T 11 2 → (s.length : Int) ≤ n → n ≤ 20001 → ((n ≤ 20000 ∧ Rz = cmb (curS T2 ps f n) s) ∨ (n = 20001 ∧ Rz = (none, 20001))) → (40100 - (2 * n - (s.length : Int))).toNat + 1 < fu → w_X1_fillAll_L15 3 (jI ((opl T 48 0).length : Int)) post K fu (jI n) (jI (s.length : Int)) (jI f) (jI (2 * n - (s.length : Int))) V := by
  have hn := I_n hI
  have lb := opl_b (T := T)
  intro fu
  induction fu with
  | zero => intro s T2 ps f n V _ _ _ _ _ _ _ _ _ _ h; exact absurd h (Nat.not_lt_zero _)
  | succ fu ih =>
    intro s T2 ps f n V hC h2 hS hO hF f0 f1 hsn n1 hInv hf
    obtain ⟨sl, sd, al⟩ := SO_len s T2 ps hS
    have hI2 := I1_al al hI
    have hz2 := I0_al al hz
    have e11 : T2 11 2 = T 11 2 := al 11 2 (by decide)
    show b_X1_fillAll_L15 3 (jI ((opl T 48 0).length : Int)) post K (w_X1_fillAll_L15 3 (jI ((opl T 48 0).length : Int)) post K fu) (jI n) (jI (s.length : Int)) (jI f) (jI (2 * n - (s.length : Int))) V
    unfold b_X1_fillAll_L15
    have endC : n = 20001 → Rz = (none, 20001) → K (jI n) (jI (s.length : Int)) V := fun e r => by
      rw [e]
      exact hK.2.2 s T2 ps V r hC h2 hS hO hF
    refine br_le 1000000 (2 * n - (s.length : Int)) rfl rfl ⟨by omega, by omega⟩ ⟨by omega, by omega⟩ (fun c => absurd c (by omega)) (fun _ => ?_)
    refine br_lt (s.length : Int) 0 rfl rfl ⟨by omega, by omega⟩ ⟨by omega, by omega⟩ (fun c => absurd c (by omega)) (fun _ => ?_)
    refine br_le ((opl T 48 0).length : Int) (s.length : Int) rfl rfl ⟨by omega, by omega⟩ ⟨by omega, by omega⟩ (fun c => ?_) (fun c => ?_)
    · rcases hInv with ⟨a, b⟩ | ⟨a, b⟩
      · have e : ps = [] := List.eq_nil_of_length_eq_zero (by omega)
        rw [e] at b
        rw [show (s.length : Int) = ((opl T 48 0).length : Int) by omega]
        exact hK.1 n T2 V (by omega) a b hC h2 al hF
      · exact endC a b
    refine br_lt 20000 n rfl rfl ⟨by omega, by omega⟩ ⟨by omega, by omega⟩ (fun c2 => ?_) (fun c2 => ?_)
    · rcases hInv with ⟨a, b⟩ | ⟨a, b⟩
      · exact absurd c2 (by omega)
      · exact endC a b
    have hR : Rz = cmb (curS T2 ps f n) s := by
      rcases hInv with ⟨a, b⟩ | ⟨a, b⟩
      · exact b
      · exact absurd a (by omega)
    match ps, hS, sl, sd, hR with
    | [], _, sl, _, _ => exact absurd sl (by simp; omega)
    | p :: ps, hS, sl, sd, hR =>
      have pn : nth (opl T 48 0) (s.length : Int) = p := drop_nd sd
      have pm := opl_mem 48 0 p (List.mem_of_mem_drop (i := s.length) (by rw [← sd]; exact List.mem_cons_self))
      have p0 : 0 ≤ p ∧ p < 48 := by omega
      have po := pm.2
      have rp : uA V 3 1 (Int32.toNatClampNeg (jI (s.length : Int))) = jI p := by
        rw [rd_nat (by omega), hO s.length (by omega), ← pn]
        unfold nth
        rw [Int.toNat_natCast]
      have vk : vp_in (jI (s.length : Int)) 48 := jvp (s.length : Int) rfl (by omega) (by omega) (by decide)
      have hseat : isSeat T2 (p / 3) (p % 3) := al_seat al po.1
      have hnp : ¬ gm T2 (p / 3) 3 < T2 35 0 := by rw [al_gm al, al 35 0 (by decide)]; exact po.2.2.1
      have hne := fun o (a : 0 ≤ o) (b : o < T2 11 2) => whyF_S (T := T2) hseat (o := o) ⟨a, b⟩ hnp
      have ep : 3 * (p / 3) + p % 3 = p := by omega
      have sk : ∀ o, f ≤ o → o ≤ T2 11 2 → (∀ j, f ≤ j → j < o → whyF T2 (p / 3) (p % 3) j ≠ 0) → tf T2 p ps f n = tf T2 p ps o n := fun o a b hj => by
        have z := tf_skip (T := T2) (p := p) (ps := ps) (n := n) (by omega) (o - f).toNat f (by omega) (fun j c d => by
          rw [← hne j (by omega) (by omega)]
          exact hj j c (by omega))
        rw [z, show f + ((o - f).toNat : Int) = o by omega]
      have q3 := r_3 hC (x := 3) rfl
      have o3 := oc_of q3 (show oc 42 = 5 from rfl)
      have kk : jI (2 * n - (s.length : Int)) + 1 = jI (2 * n - (s.length : Int) + 1) := jadd rfl rfl
      refine ⟨vk, x_first hC hI2 h2 rfl rp rfl p0.1 p0.2 f0 (by omega) (fun o fo o1 ho hj => ?_) (fun hj => ?_)⟩
      · have ho2 : whyS T2 (p / 3) (p % 3) o = 0 := by rw [← hne o (by omega) o1]; exact ho
        have hw0 := whyS_0 ho2
        rw [ep] at hw0
        have hcur : curS T2 (p :: ps) f n = tf T2 p ps f n := rfl
        rw [hcur, sk o fo (by omega) hj, tf_s o1, if_neg (by omega), cif_t ho2] at hR
        have no1 : ¬ jI o = (-1 : Int32) := fun q => by
          have := (jI_inj (b := -1) ⟨by omega, by omega⟩ ⟨by omega, by omega⟩).mp q
          omega
        refine ⟨fun q => absurd q no1, fun _ => ⟨o3, vk, vk, ?_⟩⟩
        rw [rp]
        have hone : isOne T2 o := ⟨by omega, o1⟩
        refine x_sit hC hI2 (eo := q3) (j3 p0.1 (by omega)).1 (j3 p0.1 (by omega)).2 rfl hseat hone (by rw [ep]; exact hw0.1) (fun V1 c1 g1 => ?_)
        rw [ep] at c1
        refine ⟨vk, fun V2 e2 x hx y hy i hi => ?_⟩
        have g2 : fX (fun o _ => o = 3) V1 V2 := by rw [e2]; exact fX_sA rfl
        have I1a : I1 (up T2 30 p o) := I1_30 hI2
        have I2a : I2 (up T2 30 p o) := by
          have z := I2_put hI2 h2 hseat hone hw0.2
          rw [ep] at z
          exact z
        have u1 : uA V1 3 2 = uA V 3 2 := (g1.2.2 3 2 (by omega)).2.2.1
        have u2 : uA V2 3 2 = va_up (uA V 3 2) s.length (jI o) := by rw [e2, uA_sA, if_pos ⟨rfl, rfl⟩, u1, rd_nat (by omega)]
        have u3 : uA V2 3 1 = uA V 3 1 := by
          rw [e2, uA_sA, if_neg (by decide)]
          exact (g1.2.2 3 1 (by omega)).2.2.1
        rw [hx, hy, hi, kk, show jI n + 1 = jI (n + 1) from jadd rfl rfl, show jI (s.length : Int) + 1 = jI ((s.length : Int) + 1) from jadd rfl rfl]
        have st := ih ((p, o, ps, T2) :: s) (up T2 30 p o) ps 0 (n + 1) V2 (CC_x I1a g2 P3_Z c1) I2a ⟨rfl, rfl, hw0.1, by rw [u2]; exact if_pos rfl, hone, hseat, h2, SO_x s T2 (p :: ps) (fun j hj => by rw [u2]; exact if_neg (by omega)) hS⟩ (fun j hj => by rw [u3]; exact hO j hj) (fX_trans hF (fX_trans (fX_w PS_D g1) (fX_w P3_D g2))) (Int.le_refl _) (by omega) (by simp; omega) (by omega) ?_ (by simp; omega)
        · have el : (((p, o, ps, T2) :: s).length : Int) = (s.length : Int) + 1 := by simp
          rw [el, show 2 * (n + 1) - ((s.length : Int) + 1) = 2 * n - (s.length : Int) + 1 by omega] at st
          exact st
        · by_cases c3 : 20000 < n + 1
          · rw [if_pos c3] at hR
            refine Or.inr ⟨by omega, ?_⟩
            rw [hR]
            show bk s (n + 1) = _
            rw [bk_big c3, show n + 1 = 20001 by omega]
          · rw [if_neg c3, srch_cur] at hR
            refine Or.inl ⟨by omega, ?_⟩
            rw [hR]
            cases hc : curS (up T2 30 p o) ps 0 (n + 1) with
            | mk a b =>
              cases a with
              | some T3 => rfl
              | none => rfl
      · have hcur : curS T2 (p :: ps) f n = tf T2 p ps f n := rfl
        rw [hcur, sk (T2 11 2) (by omega) (Int.le_refl _) hj, tf_e (Int.le_refl _)] at hR
        have hR2 : Rz = bk s n := hR
        refine ⟨fun _ x hx => ?_, fun q => absurd rfl q⟩
        have hx2 : x = jI ((s.length : Int) - 1) := by rw [hx, show (s.length : Int) - 1 = (s.length : Int) + (-1) by omega]; exact jadd rfl rfl
        rw [hx2]
        clear hInv hR
        cases s with
        | nil =>
          refine ⟨fun _ i hi => ?_, fun q => absurd (show jI ((([] : Sk).length : Int) - 1) < 0 from (by decide)) q⟩
          rw [hi, kk]
          obtain ⟨fu2, rfl⟩ : ∃ m, fu = m + 1 := ⟨fu - 1, by omega⟩
          have eT : T2 = T := hS.1
          rw [eT] at hC
          exact xl_dead hK (by simp at hsn; omega) (by omega) (by simp at hsn ⊢; omega) (by simp; omega) hR2 hC hF fu2
        | cons a s =>
          obtain ⟨q, o, ps1, Tp⟩ := a
          obtain ⟨a1, a2, a3, a4, a5, a6, a7, a8⟩ := hS
          obtain ⟨bl, bd, bal⟩ := SO_len s Tp (q :: p :: ps) a8
          have el : (((q, o, ps1, Tp) :: s).length : Int) = (s.length : Int) + 1 := by simp
          have qn : nth (opl T 48 0) (s.length : Int) = q := drop_nd bd
          have qm := opl_mem 48 0 q (List.mem_of_mem_drop (i := s.length) (by rw [← bd]; exact List.mem_cons_self))
          have slen : s.length < (opl T 48 0).length := by simp at bl; omega
          rw [el] at hsn hf kk ⊢
          rw [show (s.length : Int) + 1 - 1 = (s.length : Int) by omega]
          have rq : uA V 3 1 (Int32.toNatClampNeg (jI (s.length : Int))) = jI q := by
            rw [rd_nat (by omega), hO s.length slen, ← qn]
            unfold nth
            rw [Int.toNat_natCast]
          have vq : vp_in (jI (s.length : Int)) 48 := jvp (s.length : Int) rfl (by omega) (by omega) (by decide)
          refine br_lt (s.length : Int) 0 rfl rfl ⟨by omega, by omega⟩ ⟨by omega, by omega⟩ (fun c => absurd c (by omega)) (fun _ => ⟨o3, vq, vq, ?_⟩)
          rw [rq]
          have eq : 3 * (q / 3) + q % 3 = q := by omega
          refine x_rise hC hI2 h2 (eo := q3) (j3 (by omega) (by omega)).1 (j3 (by omega) (by omega)).2 (al_seat al qm.2.1) (fun V1 c1 g1 => ⟨vq, ?_⟩)
          have back : up T2 30 (3 * (q / 3) + q % 3) (-1) = Tp := by rw [eq, a2, up_up, up_id a3]
          rw [back] at c1
          have u1 : uA V1 3 2 = uA V 3 2 := (g1.2.2 3 2 (by omega)).2.2.1
          have u3 : uA V1 3 1 = uA V 3 1 := (g1.2.2 3 1 (by omega)).2.2.1
          have e11p : Tp 11 2 = T 11 2 := bal 11 2 (by decide)
          refine al_i (o + 1) (by rw [rd_nat (by omega), u1, a4]; exact jadd rfl rfl) (fun i hi => ?_)
          rw [hi, kk]
          have st := ih s Tp (q :: p :: ps) (o + 1) n V1 c1 a7 (SO_x s Tp (q :: p :: ps) (fun j _ => by rw [u1]) a8) (fun j hj => by rw [u3]; exact hO j hj) (fX_trans hF (fX_w PS_D g1)) (by have := a5.1; omega) (by have := a5.2; omega) (by omega) n1 (Or.inl ⟨by omega, ?_⟩) (by omega)
          · rw [show 2 * n - ((s.length : Int) + 1) + 1 = 2 * n - (s.length : Int) by omega]
            exact st
          · rw [hR2, a1]
            rfl
theorem SO_out {T : Tm} {l : List Int} {w : Nat} {V : Um} : ∀ (s : Sk) (T2 : Tm) (ps : List Int), SO T l w V s T2 ps → ∀ i, i ∉ l.take s.length → T2 30 i = T 30 i := by
  intro s
  induction s with
  | nil => intro T2 ps h i _; rw [h.1]
  | cons a s ih =>
    intro T2 ps h i hi
    obtain ⟨p, o, ps1, Tp⟩ := a
    obtain ⟨a1, a2, a3, a4, a5, a6, a7, a8⟩ := h
    obtain ⟨bl, bd, bal⟩ := SO_len s Tp (p :: ps) a8
    have hlt : s.length < l.length := by simp at bl; omega
    have et : l.take (s.length + 1) = l.take s.length ++ [p] := by
      rw [List.take_succ]
      congr 1
      have : l[s.length]? = (l.drop s.length)[0]? := by rw [List.getElem?_drop]; rfl
      rw [this, ← bd]
      rfl
    have hi2 : i ∉ l.take s.length ++ [p] := by rw [← et]; exact hi
    have h1 : i ∉ l.take s.length := fun z => hi2 (List.mem_append_left _ z)
    have h3 : i ≠ p := fun z => hi2 (List.mem_append_right _ (by rw [z]; simp))
    rw [a2, up_ne (fun z => h3 z.2)]
    exact ih Tp (p :: ps) a8 i h1
noncomputable def clr (T : Tm) (l : List Int) (j : Nat) : Tm := fun f i => cif (f = 30 ∧ i ∈ l.take j) (-1) (T f i)
theorem clr_s {T : Tm} {l : List Int} {j : Nat} (h : j < l.length) : up (clr T l j) 30 (l.getD j 0) (-1) = clr T l (j + 1) := by
  have et : l.take (j + 1) = l.take j ++ [l.getD j 0] := by
    rw [List.take_succ]
    congr 1
    rw [List.getElem?_eq_getElem h, List.getD_eq_getElem?_getD, List.getElem?_eq_getElem h]
    rfl
  funext f i
  unfold up clr
  rw [et]
  by_cases c : f = 30 ∧ i = l.getD j 0
  · rw [if_pos c, cif_t ⟨c.1, List.mem_append_right _ (by rw [c.2]; simp)⟩]
  · rw [if_neg c]
    by_cases c2 : f = 30 ∧ i ∈ l.take j
    · rw [cif_t c2, cif_t ⟨c2.1, List.mem_append_left _ c2.2⟩]
    · rw [cif_f c2, cif_f (fun q => by
        rcases List.mem_append.mp q.2 with z | z
        · exact c2 ⟨q.1, z⟩
        · exact c ⟨q.1, by simpa using z⟩)]
theorem clr_al {T : Tm} {l : List Int} {j : Nat} : al30 T (clr T l j) := fun k i hk => cif_f (fun q => hk q.1)
theorem xl_empty {T T2 : Tm} {w : Nat} {l : List Int} (hI : I1 T2) {n : Nat} (hn : n ≤ l.length) (hl : ∀ j, j < n → (0 ≤ l.getD j 0 ∧ l.getD j 0 < 48) ∧ isSeat T2 (l.getD j 0 / 3) (l.getD j 0 % 3)) (hn48 : n ≤ 48) {U0 : Um} {post K : Um → Prop} (hK : ∀ V : Um, CC V (clr T2 l n) w → fX PS U0 V → K V) : ∀ (fu j : Nat) (V : Um), CC V (clr T2 l j) w → I2 (clr T2 l j) → opIs V l → fX PS U0 V → j ≤ n → n - j < fu → w_X1_emptyFirst_L2 3 (jI (n : Int)) post K fu (jI (j : Int)) V := by
  intro fu
  induction fu with
  | zero => intro j V _ _ _ _ _ h; exact absurd h (Nat.not_lt_zero _)
  | succ fu ih =>
    intro j V hC h2 hO hF hj hf
    have hIc := I1_al (clr_al (l := l) (j := j)) hI
    have q3 := r_3 hC (x := 3) rfl
    show b_X1_emptyFirst_L2 3 (jI (n : Int)) post K (w_X1_emptyFirst_L2 3 (jI (n : Int)) post K fu) (jI (j : Int)) V
    unfold b_X1_emptyFirst_L2
    refine br_le (n : Int) (j : Int) rfl rfl ⟨by omega, by omega⟩ ⟨by omega, by omega⟩ (fun c => ?_) (fun c => ?_)
    · rw [show j = n by omega] at hC
      exact hK V hC hF
    have vj : vp_in (jI (j : Int)) 48 := jvp (j : Int) rfl (by omega) (by omega) (by decide)
    have hp := hl j (by omega)
    have hs := clr_s (T := T2) (l := l) (j := j) (by omega)
    refine ⟨oc_of q3 rfl, vj, vj, ?_⟩
    rw [rd_nat (by omega), hO j (by omega)]
    generalize l.getD j 0 = p at hp hs ⊢
    have ep : 3 * (p / 3) + p % 3 = p := by omega
    refine x_rise hC hIc h2 (eo := q3) (j3 hp.1.1 (by omega)).1 (j3 hp.1.1 (by omega)).2 (al_seat clr_al hp.2) (fun V1 c1 g1 y hy => ?_)
    rw [ep, hs] at c1
    have h2c := I2_del h2 p
    rw [hs] at h2c
    have u3 : uA V1 3 1 = uA V 3 1 := (g1.2.2 3 1 (by omega)).2.2.1
    rw [hy, show jI (j : Int) + 1 = jI (((j + 1 : Nat)) : Int) from jn_add j 1]
    exact ih (j + 1) V1 c1 h2c (fun i hi => by rw [u3]; exact hO i hi) (fX_trans hF g1) (by omega) (by omega)
theorem clr_0 {T : Tm} {l : List Int} : clr T l 0 = T := by
  funext f i
  exact cif_f (fun q => by simp at q)
theorem x_fillAll {U : Um} {T : Tm} {w : Nat} (hC : CC U T w) (hI : I1 T) (h2 : I2 T) (hz : I0 T) {ob : Nat} (eo : ob = 3) {post : Int32 → Um → Prop} (h : ∀ V T2 : _, (((opl T 48 0).length = 0 ∧ T2 = T) ∨ (srch (opl T 48 0) T 0).1 = some T2 ∨ ((srch (opl T 48 0) T 0).1 = none ∧ T2 = T)) → CC V T2 w → I2 T2 → al30 T T2 → fX PD U V → post (jI (fillS T)) V) : w_X1_fillAll ob U post := by
  rw [eo]
  have hn := I_n hI
  have lb := opl_b (T := T)
  unfold w_X1_fillAll
  refine x_lo hC hI h2 rfl (fun V1 c1 f1 o1 => ?_)
  have st := xl_fill (post := post) (K := fun x2_19 x3_20 U_21 => (x2_19 ≤ 20000 → ((0 : Int32) ≤ x3_20 → post (jI ((opl T 48 0).length : Int)) U_21) ∧ (¬ (0 : Int32) ≤ x3_20 → post (-1) U_21)) ∧ (¬ x2_19 ≤ 20000 → w_X1_emptyFirst 3 x3_20 U_21 (fun U_22 => post (-2) U_22))) hI hz (Rz := srch (opl T 48 0) T 0) (U0 := U) ⟨fun n T2 V n0 n1 hR cV iV aV fV => ?_, fun n V n0 n1 hR cV fV => ?_, fun s T2 ps V hR cV iV sV oV fV => ?_⟩ 40200 [] T (opl T 48 0) 0 0 V1 c1 h2 ⟨rfl, rfl⟩ o1 (fX_w P3_D f1) (Int.le_refl _) (by omega) (by decide) (by decide) (Or.inl ⟨by decide, by
    rw [srch_cur]
    cases hc : curS T (opl T 48 0) 0 0 with
    | mk a b =>
      cases a with
      | some T3 => rfl
      | none => rfl⟩) (by decide)
  · exact ⟨40200, st⟩
  · refine br_le n 20000 rfl rfl ⟨by omega, by omega⟩ ⟨by omega, by omega⟩ (fun _ => ?_) (fun c => absurd c (by omega))
    refine br_le 0 ((opl T 48 0).length : Int) rfl rfl ⟨by omega, by omega⟩ ⟨by omega, by omega⟩ (fun _ => ?_) (fun c => absurd c (by omega))
    have := h V T2 (Or.inr (Or.inl (by rw [hR]))) cV iV aV fV
    unfold fillS at this
    rw [hR] at this
    by_cases z : (opl T 48 0).length = 0
    · rw [if_pos z] at this
      rw [z]
      exact this
    · rw [if_neg z] at this
      exact this
  · refine br_le n 20000 rfl rfl ⟨by omega, by omega⟩ ⟨by omega, by omega⟩ (fun _ => ?_) (fun c => absurd c (by omega))
    refine br_le 0 (-1) rfl rfl ⟨by omega, by omega⟩ ⟨by omega, by omega⟩ (fun c => absurd c (by decide)) (fun _ => ?_)
    have := h V T (Or.inr (Or.inr ⟨by rw [hR], rfl⟩)) cV h2 (fun _ _ _ => rfl) fV
    unfold fillS at this
    rw [hR] at this
    have z : ¬ (opl T 48 0).length = 0 := fun z => by
      have e : opl T 48 0 = [] := List.eq_nil_of_length_eq_zero z
      rw [e] at hR
      exact absurd (congrArg Prod.fst hR) (by show ¬ (some T = none); intro q; cases q)
    rw [if_neg z] at this
    dsimp only at this
    rw [if_pos n1] at this
    exact this
  · refine br_le 20001 20000 rfl rfl ⟨by omega, by omega⟩ ⟨by omega, by omega⟩ (fun c => absurd c (by decide)) (fun _ => ?_)
    obtain ⟨sl, sd, al⟩ := SO_len s T2 ps sV
    have hI2 := I1_al al hI
    unfold w_X1_emptyFirst
    have mem : ∀ j, j < s.length → (opl T 48 0).getD j 0 ∈ opl T 48 0 := fun j hj => by
      rw [List.getD_eq_getElem?_getD, List.getElem?_eq_getElem (by omega)]
      exact List.getElem_mem _
    have eT : clr T2 (opl T 48 0) s.length = T := by
      funext f i
      unfold clr
      by_cases c : f = 30 ∧ i ∈ (opl T 48 0).take s.length
      · have m := opl_mem 48 0 i (List.mem_of_mem_take c.2)
        rw [cif_t c, c.1, m.2.2.1]
      · rw [cif_f c]
        by_cases c2 : f = 30
        · rw [c2]
          exact SO_out s T2 ps sV i (fun q => c ⟨c2, q⟩)
        · exact al f i c2
    refine ⟨s.length + 1, xl_empty (T := T) (T2 := T2) (l := opl T 48 0) (n := s.length) (U0 := V) hI2 (by omega) (fun j hj => ?_) (by omega) (fun Z cZ fZ => ?_) _ 0 V (by rw [clr_0]; exact cV) (by rw [clr_0]; exact iV) oV fX_rfl (Nat.zero_le _) (by omega)⟩
    · have m := opl_mem 48 0 _ (mem j hj)
      exact ⟨by omega, al_seat al m.2.1⟩
    · rw [eT] at cZ
      have := h Z T (Or.inr (Or.inr ⟨by rw [hR], rfl⟩)) cZ h2 (fun _ _ _ => rfl) (fX_trans fV (fX_w PS_D fZ))
      unfold fillS at this
      rw [hR] at this
      have z : ¬ (opl T 48 0).length = 0 := fun z => by
        have e : opl T 48 0 = [] := List.eq_nil_of_length_eq_zero z
        rw [e] at hR
        exact absurd (congrArg Prod.fst hR) (by show ¬ (some T = none); intro q; cases q)
      rw [if_neg z] at this
      exact this
