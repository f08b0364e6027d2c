/-! the class: which swap is best -/
noncomputable def rnP (T : Tm) (p d : Int) (P : Int → Prop) : Int := rndL T (T 6 p) (T 6 p) (dayI T (fun g => gm T g 3 = d ∧ P g) (T 11 3))
theorem rndL_c {T T2 : Tm} (h : al30 T T2) {e : Int} : ∀ (l : List Int) (a : Int), rndL T2 e a l = rndL T e a l := by
  have hs : stepS T2 = stepS T := by
    funext a b
    unfold stepS wayS
    rw [h 3 _ (by decide)]
  intro l
  induction l with
  | nil =>
    intro a
    show stepS T2 a e = stepS T a e
    rw [hs]
  | cons g l ih =>
    intro a
    show stepS T2 a (gm T2 g 2) + rndL T2 e (gm T2 g 2) l = stepS T a (gm T g 2) + rndL T e (gm T g 2) l
    rw [hs, al_gm h, ih]
theorem rnP_al {T T2 : Tm} (h : al30 T T2) {p d : Int} {P : Int → Prop} : rnP T2 p d P = rnP T p d P := by
  have eg : gm T2 = gm T := funext fun g => funext fun k => al_gm h g k
  unfold rnP dayI
  rw [rndL_c h, h 6 _ (by decide), h 11 _ (by decide), dayN_c eg, eg]
theorem rnP_c {T : Tm} (hI : I1 T) {p d : Int} {P Q : Int → Prop} (h : ∀ k, isGame T k → gm T k 3 = d → (P k ↔ Q k)) : rnP T p d P = rnP T p d Q := by
  have hn := I_n hI
  unfold rnP
  have e := dayI_c (T := T) (P := fun g => gm T g 3 = d ∧ P g) (Q := fun g => gm T g 3 = d ∧ Q g) (n := T 11 3) (by omega) (fun k k0 k1 => ⟨fun q => ⟨q.1, (h k ⟨k0, k1⟩ q.1).mp q.2⟩, fun q => ⟨q.1, (h k ⟨k0, k1⟩ q.1).mpr q.2⟩⟩)
  rw [e]
theorem rnP_S {T : Tm} (hI : I1 T) {p d : Int} : rndS T p d (-1) (-1) = rnP T p d (inGame T p) := by
  have e : rndS T p d (-1) (-1) = rnP T p d (fun k => k ≠ -1 ∧ (k = -1 ∨ inGame T p k)) := rfl
  rw [e]
  exact rnP_c hI (fun k hk _ => ⟨fun q => q.2.resolve_left (by omega), fun q => ⟨by omega, Or.inr q⟩⟩)
theorem rnP_b {T : Tm} (hI : I1 T) {p d : Int} (p0 : 0 ≤ p) (p1 : p < T 11 2) {P : Int → Prop} : 0 ≤ rnP T p d P ∧ rnP T p d P ≤ 340000 := by
  have hn := I_n hI
  have ho := I_o hI p p0 p1
  unfold rnP
  have l := dayI_len (T := T) (P := fun g => gm T g 3 = d ∧ P g) (n := T 11 3) (by omega)
  have b := cnt_b (p := fun g => gm T g 3 = d ∧ P g) (n := T 11 3) (by omega)
  have r := rnd_b hI (h := T 6 p) (by omega) (by omega) (l := dayI T (fun g => gm T g 3 = d ∧ P g) (T 11 3)) (fun x hx => ((dayI_mem (by omega)).mp hx).1) (a := T 6 p) (by omega) (by omega)
  omega
theorem sm_two {F : Int → Int} {n d e : Int} (hn : 0 ≤ n) (hd : 0 ≤ d ∧ d < n) (he : 0 ≤ e ∧ e < n) (h : ∀ x, 0 ≤ x → x < n → x ≠ d → x ≠ e → F x = 0) : sm F n = F d + (if e = d then 0 else F e) := by
  have H : ∀ m : Int, 0 ≤ m → m ≤ n → sm F m = (if d < m then F d else 0) + (if e = d then 0 else if e < m then F e else 0) := by
    intro m m0 m1
    refine cnt_ind (P := fun m => m ≤ n → sm F m = (if d < m then F d else 0) + (if e = d then 0 else if e < m then F e else 0)) m m0 (fun _ => ?_) (fun k k0 _ ih hk => ?_) m1
    · rw [sm_0, if_neg (by omega)]
      split
      · rfl
      · rw [if_neg (by omega)]; rfl
    · have i := ih (by omega)
      rw [sm_s k0, i]
      by_cases c : k = d
      · rw [c, if_neg (show ¬ d < d by omega), if_pos (show d < d + 1 by omega)]
        by_cases c2 : e = d
        · simp only [if_pos c2]; omega
        · simp only [if_neg c2]
          by_cases c3 : e < d
          · rw [if_pos c3, if_pos (by omega)]; omega
          · rw [if_neg c3, if_neg (by omega)]; omega
      · by_cases c2 : k = e
        · have n1 : ¬ e = d := by omega
          rw [c2]
          simp only [if_neg n1, if_neg (show ¬ e < e by omega), if_pos (show e < e + 1 by omega)]
          by_cases c3 : d < e
          · rw [if_pos c3, if_pos (by omega)]; omega
          · rw [if_neg c3, if_neg (by omega)]; omega
        · rw [h k k0 (by omega) c c2]
          have a : (d < k) ↔ (d < k + 1) := by omega
          have b : (e < k) ↔ (e < k + 1) := by omega
          simp only [a, b]
          omega
  rw [H n hn (Int.le_refl _), if_pos hd.2]
  split
  · rfl
  · rw [if_pos he.2]
theorem sm_sub {F G : Int → Int} {n : Int} (hn : 0 ≤ n) : sm F n - sm G n = sm (fun d => F d - G d) n := by
  refine cnt_ind (P := fun n => sm F n - sm G n = sm (fun d => F d - G d) n) n hn rfl (fun k k0 _ ih => ?_)
  show sm F (k + 1) - sm G (k + 1) = sm (fun d => F d - G d) (k + 1)
  rw [sm_s k0, sm_s k0, sm_s k0, ← ih]
  omega
/-- what one of both wins -/
noncomputable def gnS (T : Tm) (p g h : Int) : Int := (rnP T p (gm T g 3) (inGame T p) - rnP T p (gm T g 3) (fun k => (inGame T p k ∧ k ≠ g) ∨ k = h)) + (if gm T h 3 = gm T g 3 then 0 else rnP T p (gm T h 3) (inGame T p) - rnP T p (gm T h 3) (fun k => (inGame T p k ∧ k ≠ g) ∨ k = h))
theorem gnS_e {T T2 : Tm} (hI : I1 T) (hal : al30 T T2) {p g h : Int} (hg : isGame T g) (hh : isGame T h) (hP : ∀ k, isGame T k → (inGame T2 p k ↔ (inGame T p k ∧ k ≠ g) ∨ k = h)) : rndsS T p - rndsS T2 p = gnS T p g h := by
  have hn := I_n hI
  have h2 := I1_al hal hI
  have g1 := I_g hI g hg.1 hg.2
  have g2 := I_g hI h hh.1 hh.2
  unfold gOk at g1 g2
  unfold rndsS rndsN
  rw [sm_sub (by decide)]
  have e : ∀ d, rndS T p d (-1) (-1) - rndS T2 p d (-1) (-1) = rnP T p d (inGame T p) - rnP T p d (fun k => (inGame T p k ∧ k ≠ g) ∨ k = h) := fun d => by
    rw [rnP_S hI, rnP_S h2, rnP_al hal]
    congr 1
    exact rnP_c hI (fun k hk _ => hP k hk)
  have e2 : (fun d => rndS T p d (-1) (-1) - rndS T2 p d (-1) (-1)) = fun d => rnP T p d (inGame T p) - rnP T p d (fun k => (inGame T p k ∧ k ≠ g) ∨ k = h) := funext e
  rw [e2, sm_two (d := gm T g 3) (e := gm T h 3) (by decide) (by omega) (by omega) (fun x x0 x1 n1 n2 => by
    rw [rnP_c hI (Q := fun k => (inGame T p k ∧ k ≠ g) ∨ k = h) (fun k hk hd => ⟨fun q => Or.inl ⟨q, fun z => n1 (by rw [← hd, z])⟩, fun q => by
      rcases q with q | q
      · exact q.1
      · exact absurd (by rw [← hd, q]) n2⟩)]
    omega)]
  rfl
theorem x_gain {U : Um} {T : Tm} {w : Nat} (hC : CC U T w) (hI : I1 T) (h2 : I2 T) (hz : I0 T) {ob : Nat} (eo : ob = 3) {a1 a2 a3 : Int32} {p g h : Int} (e1 : a1 = jI p) (e2 : a2 = jI g) (e3 : a3 = jI h) (hp : isOne T p) (hg : isGame T g) (hh : isGame T h) {post : Int32 → Um → Prop} (hr : post (jI (gnS T p g h)) U) : w_X1_gain ob a1 a2 a3 U post := by
  subst e1 e2 e3
  rw [eo]
  have hn := I_n hI
  have hw := hC.1.1
  have g1 := I_g hI g hg.1 hg.2
  have g2 := I_g hI h hh.1 hh.2
  unfold gOk at g1 g2
  have q3 := r_3 hC (x := 3) rfl
  have q0 := r_42 hC q3
  have o3 := oc_of q3 (show oc 42 = 5 from rfl)
  have ow := oc_of q0 (oc_w hw)
  have qg := r_g hC q0 (E := jI g) g rfl hg.1 (by omega)
  have qh := r_g hC q0 (E := jI h) h rfl hh.1 (by omega)
  have he := c_he hI hC q3 (E := jI p) p rfl hp.1 hp.2
  unfold w_X1_gain
  refine ⟨o3, jvp p rfl hp.1 (by omega) (by decide), fun x4 hx4 x5 hx5 => ⟨o3, ow, jvp g rfl hg.1 (by omega) (by decide), oc_of qg (oc_g hw (by omega)), al_i (gm T g 3) (c_g hC qg 3 hg.1 hg.2 (by decide)) ⟨o3, ow, jvp h rfl hh.1 (by omega) (by decide), oc_of qh (oc_g hw (by omega)), al_i (gm T h 3) (c_g hC qh 3 hh.1 hh.2 (by decide)) ?_⟩⟩⟩
  have b4 : ∀ k : Int, 0 ≤ k → k < 32 → (bt x4 k ↔ isGame T k ∧ inGame T p k) := fun k k0 k1 => by rw [hx4]; exact he k k0 k1
  have b5 : ∀ k : Int, 0 ≤ k → k < 32 → (bt x5 k ↔ isGame T k ∧ ((inGame T p k ∧ k ≠ g) ∨ k = h)) := fun k k0 k1 => by
    rw [hx5, bt_or rfl hh.1 (by omega) k0 k1, bt_del rfl hg.1 (by omega) k0 k1, b4 k k0 k1]
    constructor
    · rintro (q | q)
      · exact ⟨q.1.1, Or.inl ⟨q.1.2, q.2⟩⟩
      · exact ⟨by omega, Or.inr q⟩
    · rintro ⟨a, q | q⟩
      · exact Or.inl ⟨⟨a, q.1⟩, q.2⟩
      · exact Or.inr q
  have r := fun d P => rnP_b (d := d) (P := P) hI hp.1 hp.2
  unfold gnS at hr
  refine ⟨o3, x_round hC hI h2 hz q3 rfl rfl b4 hp.1 hp.2 (by omega) (by omega) ⟨o3, x_round hC hI h2 hz q3 rfl rfl b5 hp.1 hp.2 (by omega) (by omega) ?_⟩⟩
  refine al_i (rnP T p (gm T g 3) (inGame T p) - rnP T p (gm T g 3) (fun k => (inGame T p k ∧ k ≠ g) ∨ k = h)) (jsub rfl rfl) ?_
  refine br_eq (gm T h 3) (gm T g 3) rfl rfl ⟨by omega, by omega⟩ ⟨by omega, by omega⟩ (fun c => ?_) (fun c => ?_)
  · rw [if_pos c, Int.add_zero] at hr
    exact hr
  · rw [if_neg c] at hr
    refine ⟨o3, x_round hC hI h2 hz q3 rfl rfl b4 hp.1 hp.2 (by omega) (by omega) ⟨o3, x_round hC hI h2 hz q3 rfl rfl b5 hp.1 hp.2 (by omega) (by omega) ?_⟩⟩
    exact al_i _ (jadd rfl (jsub rfl rfl)) hr
theorem ex_in {T : Tm} (hI : I1 T) (h2 : I2 T) {g s h t : Int} (hs : swapS T g s h t = 0) {o : Int} (ho : 0 ≤ o) {k : Int} (hk : isGame T k) : inGame (exT T (3 * g + s) (3 * h + t)) o k ↔ (if T 30 (3 * g + s) = o then ((inGame T o k ∧ k ≠ g) ∨ k = h) else if T 30 (3 * h + t) = o then ((inGame T o k ∧ k ≠ h) ∨ k = g) else inGame T o k) := by
  obtain ⟨a1, a2, a3, a4, a5⟩ := swapS_seat hs
  have b1 := seat3 hI a1
  have b2 := seat3 hI a2
  have nab : T 30 (3 * g + s) ≠ T 30 (3 * h + t) := by
    intro q
    unfold swapS at hs
    rw [cif_f (fun z => z ⟨a1, a2⟩)] at hs
    by_cases c : gm T g 3 < T 35 0 ∨ gm T h 3 < T 35 0
    · rw [cif_t c] at hs; omega
    · rw [cif_f c, cif_f (fun z => by rcases z with z | z; exact a3 z; exact a4 z), cif_t (Or.inr q)] at hs
      omega
  have kj : 3 * g + s ≠ 3 * h + t := by omega
  have I1a : I1 (up T 30 (3 * g + s) (-1)) := I1_30 hI
  have I2a : I2 (up T 30 (3 * g + s) (-1)) := I2_del h2 _
  have I1b : I1 (up (up T 30 (3 * g + s) (-1)) 30 (3 * h + t) (-1)) := I1_30 I1a
  rw [← exT_4 kj rfl rfl]
  generalize ea : T 30 (3 * g + s) = a at *
  generalize eb : T 30 (3 * h + t) = b at *
  rw [inGame_put (I1_30 I1b) (h := g) (t := s) (a := b) (o := o) (g := k) a1 hk (by rw [up_ne (by omega), up_ne (by omega), up_eq]) ho, inGame_put I1b (h := h) (t := t) (a := a) (o := o) (g := k) a2 hk up_eq ho]
  have d2 := inGame_del I1a I2a (h := h) (t := t) (o := o) (g := k) a2 hk ho
  rw [up_ne (by omega), eb] at d2
  have d1 := inGame_del hI h2 (h := g) (t := s) (o := o) (g := k) a1 hk ho
  rw [ea] at d1
  rw [d2]
  unfold woG
  by_cases c1 : a = o
  · have c2 : ¬ b = o := fun z => nab (c1.trans z.symm)
    rw [if_neg c2, if_pos c1, d1, if_pos c1]
    constructor
    · rintro ((q | q) | q)
      · exact Or.inl q
      · exact Or.inr q.2
      · exact absurd q.1.symm c2
    · rintro (q | q)
      · exact Or.inl (Or.inl q)
      · exact Or.inl (Or.inr ⟨c1.symm, q⟩)
  · rw [if_neg c1]
    by_cases c2 : b = o
    · rw [if_pos c2, if_pos c2, d1, if_neg c1]
      constructor
      · rintro ((q | q) | q)
        · exact Or.inl q
        · exact absurd q.1.symm c1
        · exact Or.inr q.2
      · rintro (q | q)
        · exact Or.inl (Or.inl q)
        · exact Or.inr ⟨c2.symm, q⟩
    · rw [if_neg c2, if_neg c2, d1, if_neg c1]
      constructor
      · rintro ((q | q) | q)
        · exact q
        · exact absurd q.1.symm c1
        · exact absurd q.1.symm c2
      · exact fun q => Or.inl (Or.inl q)
theorem gain_e {T : Tm} (hI : I1 T) (h2 : I2 T) {g s h t : Int} (hs : swapS T g s h t = 0) : gainS T (3 * g + s) (3 * h + t) = gnS T (T 30 (3 * g + s)) g h + gnS T (T 30 (3 * h + t)) h g := by
  obtain ⟨a1, a2, a3, a4, a5⟩ := swapS_seat hs
  have b1 := seat3 hI a1
  have b2 := seat3 hI a2
  have ik := (I_k h2 (3 * g + s) (by omega) (by omega)).resolve_left a3
  have ij := (I_k h2 (3 * h + t) (by omega) (by omega)).resolve_left a4
  have hal : al30 T (exT T (3 * g + s) (3 * h + t)) := fun k j hk => by
    unfold exT
    rw [up_nf hk, up_nf hk]
  have nab : T 30 (3 * g + s) ≠ T 30 (3 * h + t) := by
    intro q
    unfold swapS at hs
    rw [cif_f (fun z => z ⟨a1, a2⟩)] at hs
    by_cases c : gm T g 3 < T 35 0 ∨ gm T h 3 < T 35 0
    · rw [cif_t c] at hs; omega
    · rw [cif_f c, cif_f (fun z => by rcases z with z | z; exact a3 z; exact a4 z), cif_t (Or.inr q)] at hs
      omega
  have e1 := gnS_e hI hal (p := T 30 (3 * g + s)) a1.1 a2.1 (fun k hk => by rw [ex_in hI h2 hs ik.1 hk, if_pos rfl])
  have e2 := gnS_e hI hal (p := T 30 (3 * h + t)) a2.1 a1.1 (fun k hk => by rw [ex_in hI h2 hs ij.1 hk, if_neg nab, if_pos rfl])
  unfold gainS
  omega
/-- what has been found of swaps -/
def exR (T : Tm) (V : Um) (N : Int) : Prop := ∃ best one other : Int, exI T N best one other ∧ fdIs V (if one = -1 then n5 best (-1) (-1) (-1) (-1) else n5 best (one / 3) (one % 3) (other / 3) (other % 3))
theorem gnS_b {T : Tm} (hI : I1 T) {p g h : Int} (hp : isOne T p) : -700000 ≤ gnS T p g h ∧ gnS T p g h ≤ 700000 := by
  have r := fun d P => rnP_b (d := d) (P := P) hI hp.1 hp.2
  have a := r (gm T g 3) (inGame T p)
  have b := r (gm T g 3) (fun k => (inGame T p k ∧ k ≠ g) ∨ k = h)
  have c := r (gm T h 3) (inGame T p)
  have d := r (gm T h 3) (fun k => (inGame T p k ∧ k ≠ g) ∨ k = h)
  unfold gnS
  split <;> omega
theorem x_weigh {U : Um} {T : Tm} {w : Nat} (hC : CC U T w) (hI : I1 T) (h2 : I2 T) (hz : I0 T) {ob : Nat} (eo : ob = 3) {a1 a2 a3 a4 : Int32} {k j : Int} (e1 : a1 = jI (k / 3)) (e2 : a2 = jI (k % 3)) (e3 : a3 = jI (j / 3)) (e4 : a4 = jI (j % 3)) (k0 : 0 ≤ k) (kj : k < j) (j1 : j < 48) (hk : T 30 k ≠ -1) (hR : exR T U (48 * k + j)) {post : Um → Prop} (h : ∀ V : Um, CC V T w → fX (fun o _ => o = 3) U V → exR T V (48 * k + (j + 1)) → post V) : w_X1_weigh ob a1 a2 a3 a4 U post := by
  subst e1 e2 e3 e4
  rw [eo]
  have hn := I_n hI
  have q3 := r_3 hC (x := 3) rfl
  have o3 := oc_of q3 (show oc 42 = 5 from rfl)
  obtain ⟨best, one, other, hx, hf⟩ := hR
  have hb := exI_bb hI h2 hx (by omega)
  have ek : 3 * (k / 3) + k % 3 = k := by omega
  have ej : 3 * (j / 3) + j % 3 = j := by omega
  have sb := swapS_b T (k / 3) (k % 3) (j / 3) (j % 3)
  unfold w_X1_weigh
  refine ⟨o3, x_exchangeable hC hI h2 (eo := q3) rfl rfl rfl rfl ⟨by omega, by omega⟩ ⟨by omega, by omega⟩ ⟨by omega, by omega⟩ ⟨by omega, by omega⟩ ?_⟩
  refine br_eq (swapS T (k / 3) (k % 3) (j / 3) (j % 3)) 0 rfl rfl ⟨by omega, by omega⟩ ⟨by omega, by omega⟩ (fun c => ?_) (fun c => ?_)
  case refine_2 =>
    exact h U hC fX_rfl ⟨best, one, other, exI_no (by omega) j1 hx (Or.inr (Or.inr (Or.inl c))), hf⟩
  obtain ⟨a1, a2, a3, a4, a5⟩ := swapS_seat c
  have ge := gain_e hI h2 c
  rw [ek, ej] at ge
  have ik := (I_k h2 k k0 (by omega)).resolve_left hk
  have hj : T 30 j ≠ -1 := by rw [ej] at a4; exact a4
  have ij := (I_k h2 j (by omega) j1).resolve_left hj
  have b1 := gnS_b hI (p := T 30 k) (g := k / 3) (h := j / 3) ik
  have b2 := gnS_b hI (p := T 30 j) (g := j / 3) (h := k / 3) ij
  refine ⟨o3, x_X9_placeOf (g := k / 3) (s := k % 3) rfl rfl ?_⟩
  rw [ek]
  refine ⟨jvp k rfl k0 (by omega) (by decide), al_i (T 30 k) (c_h hC q3 k rfl k0 (by omega)) ⟨o3, x_X9_placeOf (g := j / 3) (s := j % 3) rfl rfl ?_⟩⟩
  rw [ej]
  refine ⟨jvp j rfl (by omega) (by omega) (by decide), al_i (T 30 j) (c_h hC q3 j rfl (by omega) (by omega)) ?_⟩
  refine x_gain hC hI h2 hz rfl rfl rfl rfl ik a1.1 a2.1 (x_gain hC hI h2 hz rfl rfl rfl rfl ij a2.1 a1.1 ?_)
  refine al_i (gainS T k j) (by rw [ge]; exact jadd rfl rfl) ⟨jvp 0 rfl (by decide) (by decide) (by decide), ?_⟩
  have f0 := hf 0 (by decide) (by decide)
  have fe : (if one = -1 then n5 best (-1) (-1) (-1) (-1) else n5 best (one / 3) (one % 3) (other / 3) (other % 3)) 0 = best := by split <;> rfl
  rw [fe] at f0
  refine br_le (gainS T k j) best rfl f0 ⟨by omega, by omega⟩ ⟨by omega, by omega⟩ (fun c2 => ?_) (fun c2 => ?_)
  · exact h U hC fX_rfl ⟨best, one, other, exI_no (by omega) j1 hx (Or.inr (Or.inr (Or.inr c2))), hf⟩
  · refine x_note hC hI rfl (a := gainS T k j) (b := k / 3) (c := k % 3) (d := j / 3) (e := j % 3) rfl rfl rfl rfl rfl (fun V cV fV dV => h V cV fV ⟨gainS T k j, k, j, exI_new k0 kj j1 hx hk hj c c2, ?_⟩)
    rw [if_neg (by omega)]
    exact dV
theorem exR_x {T : Tm} {V : Um} {N M : Int} (h : exR T V N) (hNM : N ≤ M) (hs : ∀ p, N ≤ p → p < M → ¬ pairOk T p) : exR T V M := by
  obtain ⟨best, one, other, hx, hf⟩ := h
  exact ⟨best, one, other, exI_skip hx hNM (fun p a b q => absurd q (hs p a b)), hf⟩
theorem x_exch {U : Um} {T : Tm} {w : Nat} (hC : CC U T w) (hI : I1 T) (h2 : I2 T) (hz : I0 T) {ob : Nat} (eo : ob = 3) {a1 : Int32} {v : Int} (e1 : a1 = jI v) (hv : 0 ≤ v ∧ v ≤ 4) {post : Int32 → Um → Prop} (h : ∀ V : Um, CC V T w → fX (fun o _ => o = 3) U V → post (jI (exS T v)) V) : w_X1_findExchange ob a1 U post := by
  subst e1
  rw [eo]
  have hn := I_n hI
  unfold w_X1_findExchange
  refine x_note hC hI rfl (a := 0) (b := -1) (c := -1) (d := -1) (e := -1) rfl rfl rfl rfl rfl (fun V1 c1 f1 d1 => ?_)
  have hw := c1.1.1
  have v3 := r_3 c1 (x := 3) rfl
  have v0 := r_42 c1 v3
  refine ⟨oc_of v3 rfl, oc_of v0 (oc_w hw), al_i (3 * T 11 3) (jmul rfl (c_n7 c1 v0)) ?_⟩
  have none : ∀ p, 48 * (3 * T 11 3) ≤ p → p < 2304 → ¬ pairOk T p := fun p p0 p1 q => by
    have z := seat_k h2 (k := p / 48) (by omega) (by omega) q.2.1
    omega
  have fin : ∀ V : Um, CC V T w → fX (fun o _ => o = 3) U V → exR T V 2304 → vp_in (jI v) 5 ∧ post (uA V 3 6 (Int32.toNatClampNeg (jI v))) V := fun V cV fV hR => by
    obtain ⟨best, one, other, hx, hf⟩ := hR
    obtain ⟨eb, ea⟩ := ex_end hx
    refine ⟨jvp v rfl hv.1 (by omega) (by decide), pst (x := exS T v) ?_ (h V cV fV)⟩
    rw [jI_nat hv.1 (by omega), hf v hv.1 (by omega)]
    congr 1
    unfold exS
    rw [cif_t hv]
    rcases ea with ⟨a, b⟩ | ⟨a, b, c⟩
    · rw [if_pos b]
      by_cases z : v = 0
      · rw [cif_t z, z, eb]; rfl
      · rw [cif_f z, cif_t a]
        unfold n5
        rw [if_neg z]
        split
        · rfl
        · split
          · rfl
          · split <;> rfl
    · rw [if_neg (by omega), b, c]
      unfold n5
      by_cases z : v = 0
      · rw [cif_t z, if_pos z, eb]
      · rw [cif_f z, if_neg z, cif_f (by omega)]
        by_cases z1 : v = 1
        · rw [cif_t z1, if_pos z1]
        · rw [cif_f z1, if_neg z1]
          by_cases z2 : v = 2
          · rw [cif_t z2, if_pos z2]
          · rw [cif_f z2, if_neg z2]
            by_cases z3 : v = 3
            · rw [cif_t z3, if_pos z3]
            · rw [cif_f z3, if_neg z3]
  have inn : ∀ (k : Int), 0 ≤ k → k < 3 * T 11 3 → ∀ (K : Um → Prop), (∀ V : Um, CC V T w → fX (fun o _ => o = 3) U V → exR T V (48 * (k + 1)) → K V) → ∀ (fu : Nat) (j : Int) (V : Um), CC V T w → fX (fun o _ => o = 3) U V → k < j → j ≤ 3 * T 11 3 → exR T V (48 * k + j) → (3 * T 11 3 - j).toNat < fu → w_X1_findExchange_L34 3 (jI v) (jI (3 * T 11 3)) (jI k) post K fu (jI j) V := by
    intro k k0 k1 K hK fu
    induction fu with
    | zero => intro j V _ _ _ _ _ h; exact absurd h (Nat.not_lt_zero _)
    | succ fu ih =>
      intro j V cV fV kj j1 hR hf
      have z3 := r_3 cV (x := 3) rfl
      show b_X1_findExchange_L34 3 (jI v) (jI (3 * T 11 3)) (jI k) post K (w_X1_findExchange_L34 3 (jI v) (jI (3 * T 11 3)) (jI k) post K fu) (jI j) V
      unfold b_X1_findExchange_L34
      refine br_le (3 * T 11 3) j rfl rfl ⟨by omega, by omega⟩ ⟨by omega, by omega⟩ (fun c => ?_) (fun c => ?_)
      · refine hK V cV fV (exR_x hR (by omega) (fun p p0 p1 q => ?_))
        have e : p / 48 = k ∧ p % 48 = p - 48 * k := by omega
        have q3 := q.2.2.1
        rw [e.2] at q3
        have z := seat_k h2 (k := p - 48 * k) (by omega) (by omega) q3
        omega
      have ik := I_k h2 k k0 (by omega)
      refine ⟨oc_of z3 rfl, jvp k rfl k0 (by omega) (by decide), br_eq (T 30 k) (-1) (c_h cV z3 k rfl k0 (by omega)) rfl ⟨by omega, by omega⟩ ⟨by omega, by omega⟩ (fun c2 => ?_) (fun c2 => ?_)⟩
      · refine hK V cV fV (exR_x hR (by omega) (fun p p0 p1 q => q.2.1 ?_))
        rw [show p / 48 = k by omega]
        exact c2
      · refine x_weigh cV hI h2 hz rfl (j3 k0 (by omega)).1 (j3 k0 (by omega)).2 (j3 (by omega) (by omega)).1 (j3 (by omega) (by omega)).2 k0 kj (by omega) c2 hR (fun Z cZ fZ hZ y hy => ?_)
        rw [hy, show jI j + 1 = jI (j + 1) from jadd rfl rfl]
        exact ih (j + 1) Z cZ (fX_trans fV fZ) (by omega) (by omega) hZ (by omega)
  have out : ∀ (fu : Nat) (k : Int) (V : Um), CC V T w → fX (fun o _ => o = 3) U V → 0 ≤ k → k ≤ 3 * T 11 3 → exR T V (48 * k) → (3 * T 11 3 - k).toNat < fu → w_X1_findExchange_L24 3 (jI v) (jI (3 * T 11 3)) post (fun U_14 => vp_in (jI v) 5 ∧ post (uA U_14 3 6 (Int32.toNatClampNeg (jI v))) U_14) fu (jI k) V := by
    intro fu
    induction fu with
    | zero => intro k V _ _ _ _ _ h; exact absurd h (Nat.not_lt_zero _)
    | succ fu ih =>
      intro k V cV fV k0 k1 hR hf
      show b_X1_findExchange_L24 3 (jI v) (jI (3 * T 11 3)) post (fun U_14 => vp_in (jI v) 5 ∧ post (uA U_14 3 6 (Int32.toNatClampNeg (jI v))) U_14) (w_X1_findExchange_L24 3 (jI v) (jI (3 * T 11 3)) post (fun U_14 => vp_in (jI v) 5 ∧ post (uA U_14 3 6 (Int32.toNatClampNeg (jI v))) U_14) fu) (jI k) V
      unfold b_X1_findExchange_L24
      refine br_le (3 * T 11 3) k rfl rfl ⟨by omega, by omega⟩ ⟨by omega, by omega⟩ (fun c => ?_) (fun c => ?_)
      · exact fin V cV fV (exR_x hR (by omega) (fun p a b => none p (by omega) b))
      · refine al_i (k + 1) (jadd rfl rfl) ⟨(3 * T 11 3 - (k + 1)).toNat + 1, inn k k0 c _ (fun Z cZ fZ hZ y hy => ?_) _ (k + 1) V cV fV (by omega) (by omega) (exR_x hR (by omega) (fun p p0 p1 q => by have := q.1; omega)) (Nat.lt_succ_self _)⟩
        rw [hy, show jI k + 1 = jI (k + 1) from jadd rfl rfl]
        exact ih (k + 1) Z cZ fZ (by omega) (by omega) hZ (by omega)
  exact ⟨(3 * T 11 3 - 0).toNat + 1, out _ 0 V1 c1 f1 (by decide) (by omega) ⟨0, -1, -1, ⟨-1, mx_0, Or.inl ⟨rfl, rfl, rfl⟩⟩, d1⟩ (Nat.lt_succ_self _)⟩
