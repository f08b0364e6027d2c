/-! the class: to sit and to rise -/
theorem insL_c {T T2 : Tm} (h : gm T2 = gm T) (g : Int) : ∀ l, insL T2 g l = insL T g l := by
  intro l
  induction l with
  | nil => rfl
  | cons a l ih => simp only [insL, h, ih]
theorem dayN_c {T T2 : Tm} (h : gm T2 = gm T) {P : Int → Prop} : ∀ n, dayN T2 P n = dayN T P n := by
  intro n
  induction n with
  | zero => rfl
  | succ n ih =>
    show cif (P n) (insL T2 n (dayN T2 P n)) (dayN T2 P n) = cif (P n) (insL T n (dayN T P n)) (dayN T P n)
    rw [ih, insL_c h]
theorem CW_c {U : Um} {T T2 : Tm} {w : Nat} (e : ∀ k, k ≤ 14 → T2 k = T k) (h : CW U T w) : CW U T2 w := by
  have eg : gm T2 = gm T := by funext g k; unfold gm; rw [e 10 (by decide)]
  have ew : wayS T2 = wayS T := by funext a b; unfold wayS; rw [e 3 (by decide)]
  have es : endS T2 = endS T := by funext g; unfold endS; rw [eg]
  have eb : betw T2 = betw T := by funext a b; unfold betw; rw [eg, es]
  have en : encS T2 = encS T := by funext k; unfold encS; rw [e 12 (by decide), e 13 (by decide)]
  have em : nmS T2 = nmS T := by funext s i; unfold nmS; rw [e 1 (by decide), e 4 (by decide), e 5 (by decide)]
  have eo : ordS T2 = ordS T := by unfold ordS dayI; rw [e 11 (by decide), dayN_c eg]
  unfold CW CWn CWa CWo CWg CWr CWl CWd at h ⊢
  simp only [isGame, isField, isOne, clashP, tightP, nearS, atOnce, eg, ew, es, eb, en, em, eo, e 11 (by decide), e 2 (by decide), e 6 (by decide), e 7 (by decide), e 8 (by decide), e 14 (by decide)] at h ⊢
  exact h
theorem CRo_c {U : Um} {r : Nat} {T T2 : Tm} {td : Int} {wh gi gr mk fo : Int → Int} (e : ∀ k, k ≤ 14 → T2 k = T k) (h : CRo U r T td wh gi gr mk fo) : CRo U r T2 td wh gi gr mk fo := by
  have eg : gm T2 = gm T := by funext g k; unfold gm; rw [e 10 (by decide)]
  unfold CRo at h ⊢
  simp only [isGame, isOne, sitS, eg, e 11 (by decide)] at h ⊢
  exact h
theorem e_up {T : Tm} {f : Nat} {i v : Int} (h : 15 ≤ f) : ∀ k, k ≤ 14 → up T f i v k = T k := fun k hk => funext fun j => up_nf (by omega)
abbrev PS (o k : Nat) : Prop := o = 42 ∧ (k = 2 ∨ k = 7)
theorem x_sit {U : Um} {T : Tm} {w : Nat} (hC : CC U T w) (hI : I1 T) {ob : Nat} (eo : ob = 42) {a1 a2 a3 : Int32} {g s p : Int} (e1 : a1 = jI g) (e2 : a2 = jI s) (e3 : a3 = jI p) (hs : isSeat T g s) (hp : isOne T p) (hf : T 30 (3 * g + s) = -1) {post : Um → Prop} (h : ∀ V : Um, CC V (up T 30 (3 * g + s) p) w → fX PS U V → post V) : w_X6_sit ob a1 a2 a3 U post := by
  subst e1 e2 e3
  rw [eo]
  have hw := hC.1.1
  have hn := I_n hI
  obtain ⟨⟨g0, g1⟩, s0, s1⟩ := hs
  have hg := I_g hI g g0 g1
  unfold gOk at hg
  unfold w_X6_sit
  refine x_X9_placeOf (g := g) (s := s) rfl rfl ⟨jvp (3 * g + s) rfl (by omega) (by omega) (by decide), fun U3 e3 => ?_⟩
  refine ⟨jvp p rfl hp.1 (by omega) (by decide), jvp p rfl hp.1 (by omega) (by decide), fun U4 e4 => ?_⟩
  have f3 : fX PS U U3 := by rw [e3]; exact fX_sA ⟨rfl, Or.inl rfl⟩
  have f4 : fX PS U U4 := by rw [e4]; exact fX_trans f3 (fX_sA ⟨rfl, Or.inr rfl⟩)
  have ne : ∀ k, k ≠ 2 → k ≠ 7 → uI U4 42 k = uI U 42 k ∧ uL U4 42 k = uL U 42 k ∧ uA U4 42 k = uA U 42 k ∧ uJ U4 42 k = uJ U 42 k ∧ uF U4 42 k = uF U 42 k := fun k k2 k7 => f4.2.2 42 k (by omega)
  have u2 : uA U4 42 2 = va_up (uA U 42 2) (3 * g + s).toNat (jI p) := by
    rw [e4, uA_sA, if_neg (by decide), e3, uA_sA, if_pos ⟨rfl, rfl⟩, jI_nat (by omega) (by omega)]
  have u7 : uA U4 42 7 = va_up (uA U 42 7) p.toNat (uA U 42 7 p.toNat ||| ((1 : Int32) <<< (jI g &&& 31))) := by
    rw [e4, uA_sA, if_pos ⟨rfl, rfl⟩, jI_nat hp.1 (by omega)]
    have z : uA U3 42 7 = uA U 42 7 := by rw [e3, uA_sA, if_neg (by decide)]
    rw [z]
  refine h U4 ⟨PT_x f4 hC.1, CW_c (e_up (by decide)) (CW_x hI hw f4 (fun o k q => Or.inr q.1) hC.2.1), CRo_c (e_up (by decide)) ?_⟩ f4
  obtain ⟨r1, r2, r3⟩ := hC.2.2
  refine ⟨?_, fun k k0 k1 => ?_, fun o ho => ?_⟩
  · rw [(ne 1 (by decide) (by decide)).1, up_nf (by decide)]
    exact r1
  · rw [(ne 3 (by decide) (by decide)).2.2.1, u2, up_nf (f := 31) (by decide)]
    refine ⟨?_, (r2 k k0 k1).2⟩
    unfold va_up
    rw [up_at]
    by_cases z : k = 3 * g + s
    · rw [if_pos (by rw [z]), if_pos z]
    · rw [if_neg (by omega), if_neg z]
      exact (r2 k k0 k1).1
  · rw [(ne 4 (by decide) (by decide)).2.2.1, (ne 5 (by decide) (by decide)).2.2.2.2, (ne 6 (by decide) (by decide)).2.2.1, u7, up_nf (by decide), up_nf (by decide), up_nf (by decide)]
    refine ⟨(r3 o ho).1, fun k k0 k1 => ?_⟩
    have ig : isGame T k → ((∃ t, 0 ≤ t ∧ t < gm T k 7 ∧ up T 30 (3 * g + s) p 30 (3 * k + t) = o) ↔ inGame T o k ∨ (o = p ∧ k = g)) := fun hk => inGame_put hI (h := g) (t := s) (a := p) (o := o) (g := k) ⟨⟨g0, g1⟩, s0, s1⟩ hk hf ho.1
    unfold va_up
    by_cases z : o = p
    · subst z
      rw [if_pos rfl, bt_or rfl g0 (by omega) k0 k1, (r3 o ho).2 k k0 k1]
      constructor
      · rintro (q | q)
        · exact ⟨q.1, (ig q.1).mpr (Or.inl q.2)⟩
        · have hk : isGame T k := by omega
          exact ⟨hk, (ig hk).mpr (Or.inr ⟨rfl, q⟩)⟩
      · rintro ⟨hk, q⟩
        rcases (ig hk).mp q with q | q
        · exact Or.inl ⟨hk, q⟩
        · exact Or.inr q.2
    · rw [if_neg (by omega), (r3 o ho).2 k k0 k1]
      constructor
      · exact fun q => ⟨q.1, (ig q.1).mpr (Or.inl q.2)⟩
      · rintro ⟨hk, q⟩
        exact ⟨hk, ((ig hk).mp q).resolve_right (fun y => z y.1)⟩
theorem x_rise {U : Um} {T : Tm} {w : Nat} (hC : CC U T w) (hI : I1 T) (h2 : I2 T) {ob : Nat} (eo : ob = 42) {a1 a2 : Int32} {g s : Int} (e1 : a1 = jI g) (e2 : a2 = jI s) (hs : isSeat T g s) {post : Um → Prop} (h : ∀ V : Um, CC V (up T 30 (3 * g + s) (-1)) w → fX PS U V → post V) : w_X6_rise ob a1 a2 U post := by
  subst e1 e2
  rw [eo]
  have hw := hC.1.1
  have hn := I_n hI
  obtain ⟨⟨g0, g1⟩, s0, s1⟩ := hs
  have hg := I_g hI g g0 g1
  unfold gOk at hg
  have ik := I_k h2 (3 * g + s) (by omega) (by omega)
  unfold w_X6_rise
  have vk : vp_in (jI (3 * g + s)) 48 := jvp (3 * g + s) rfl (by omega) (by omega) (by decide)
  refine x_X9_placeOf (g := g) (s := s) rfl rfl ⟨vk, al_i (T 30 (3 * g + s)) (c_h hC rfl (3 * g + s) rfl (by omega) (by omega)) ?_⟩
  refine br_eq (T 30 (3 * g + s)) (-1) rfl rfl ⟨by omega, by omega⟩ ⟨by omega, by omega⟩ (fun c => ?_) (fun c => ?_)
  · have e : up T 30 (3 * g + s) (-1) = T := up_id c
    rw [e] at h
    exact h U hC fX_rfl
  generalize hp : T 30 (3 * g + s) = p at ik c ⊢
  have vp : vp_in (jI p) 10 := jvp p rfl (by omega) (by omega) (by decide)
  refine ⟨vp, vp, fun U3 e3 => ⟨vk, fun U4 e4 => ?_⟩⟩
  have f3 : fX PS U U3 := by rw [e3]; exact fX_sA ⟨rfl, Or.inr rfl⟩
  have f4 : fX PS U U4 := by rw [e4]; exact fX_trans f3 (fX_sA ⟨rfl, Or.inl rfl⟩)
  have ne : ∀ k, k ≠ 2 → k ≠ 7 → uI U4 42 k = uI U 42 k ∧ uL U4 42 k = uL U 42 k ∧ uA U4 42 k = uA U 42 k ∧ uJ U4 42 k = uJ U 42 k ∧ uF U4 42 k = uF U 42 k := fun k k2 k7 => f4.2.2 42 k (by omega)
  have u2 : uA U4 42 2 = va_up (uA U 42 2) (3 * g + s).toNat (jI (-1)) := by
    rw [e4, uA_sA, if_pos ⟨rfl, rfl⟩, jI_nat (by omega) (by omega)]
    have z : uA U3 42 2 = uA U 42 2 := by rw [e3, uA_sA, if_neg (by decide)]
    rw [z]
    rfl
  have u7 : uA U4 42 7 = va_up (uA U 42 7) p.toNat (uA U 42 7 p.toNat &&& (((1 : Int32) <<< (jI g &&& 31)) ^^^ (-1))) := by
    rw [e4, uA_sA, if_neg (by decide), e3, uA_sA, if_pos ⟨rfl, rfl⟩, jI_nat (by omega) (by omega)]
  refine h U4 ⟨PT_x f4 hC.1, CW_c (e_up (by decide)) (CW_x hI hw f4 (fun o k q => Or.inr q.1) hC.2.1), CRo_c (e_up (by decide)) ?_⟩ f4
  obtain ⟨r1, r2, r3⟩ := hC.2.2
  refine ⟨?_, fun k k0 k1 => ?_, fun o ho => ?_⟩
  · rw [(ne 1 (by decide) (by decide)).1, up_nf (by decide)]
    exact r1
  · rw [(ne 3 (by decide) (by decide)).2.2.1, u2, up_nf (f := 31) (by decide)]
    refine ⟨?_, (r2 k k0 k1).2⟩
    unfold va_up
    rw [up_at]
    by_cases z : k = 3 * g + s
    · rw [if_pos (by rw [z]), if_pos z]
    · rw [if_neg (by omega), if_neg z]
      exact (r2 k k0 k1).1
  · rw [(ne 4 (by decide) (by decide)).2.2.1, (ne 5 (by decide) (by decide)).2.2.2.2, (ne 6 (by decide) (by decide)).2.2.1, u7, up_nf (by decide), up_nf (by decide), up_nf (by decide)]
    refine ⟨(r3 o ho).1, fun k k0 k1 => ?_⟩
    have ig : isGame T k → ((∃ t, 0 ≤ t ∧ t < gm T k 7 ∧ up T 30 (3 * g + s) (-1) 30 (3 * k + t) = o) ↔ (if T 30 (3 * g + s) = o then woG T o g k else inGame T o k)) := fun hk => inGame_del hI h2 (h := g) (t := s) (o := o) (g := k) ⟨⟨g0, g1⟩, s0, s1⟩ hk ho.1
    rw [hp] at ig
    unfold va_up
    by_cases z : o = p
    · subst z
      rw [if_pos rfl, bt_del rfl g0 (by omega) k0 k1, (r3 o ho).2 k k0 k1]
      rw [if_pos rfl] at ig
      constructor
      · exact fun q => ⟨q.1.1, (ig q.1.1).mpr ⟨q.1.2, q.2⟩⟩
      · rintro ⟨hk, q⟩
        have := (ig hk).mp q
        exact ⟨⟨hk, this.1⟩, this.2⟩
    · rw [if_neg (by omega), (r3 o ho).2 k k0 k1]
      rw [if_neg (fun q => z q.symm)] at ig
      exact ⟨fun q => ⟨q.1, (ig q.1).mpr q.2⟩, fun q => ⟨q.1, (ig q.1).mp q.2⟩⟩
theorem exT_4 {T : Tm} {k j a b : Int} (h : k ≠ j) (ha : T 30 k = a) (hb : T 30 j = b) : up (up (up (up T 30 k (-1)) 30 j (-1)) 30 j a) 30 k b = exT T k j := by
  unfold exT
  rw [ha, hb]
  funext f i
  unfold up
  by_cases c1 : f = 30 ∧ i = k
  · rw [if_pos c1, if_neg (fun q => h (c1.2.symm.trans q.2)), if_pos c1]
  · rw [if_neg c1]
    by_cases c2 : f = 30 ∧ i = j
    · rw [if_pos c2, if_pos c2]
    · rw [if_neg c2, if_neg c2, if_neg c1, if_neg c2, if_neg c1]
theorem x_trade {U : Um} {T : Tm} {w : Nat} (hC : CC U T w) (hI : I1 T) (h2 : I2 T) {ob : Nat} (eo : ob = 42) {a1 a2 a3 a4 : Int32} {g s h t : Int} (e1 : a1 = jI g) (e2 : a2 = jI s) (e3 : a3 = jI h) (e4 : a4 = jI t) (hs : isSeat T g s) (ht : isSeat T h t) (hgh : g ≠ h) (n1 : T 30 (3 * g + s) ≠ -1) (n2 : T 30 (3 * h + t) ≠ -1) {post : Um → Prop} (hh : ∀ V : Um, CC V (exT T (3 * g + s) (3 * h + t)) w → fX PS U V → post V) : w_X6_trade ob a1 a2 a3 a4 U post := by
  subst e1 e2 e3 e4
  rw [eo]
  have hn := I_n hI
  have b1 := seat3 hI hs
  have b2 := seat3 hI ht
  have ik := I_k h2 (3 * g + s) (by omega) (by omega)
  have ij := I_k h2 (3 * h + t) (by omega) (by omega)
  have kj : 3 * g + s ≠ 3 * h + t := by omega
  unfold w_X6_trade
  refine x_X9_placeOf (g := g) (s := s) rfl rfl ⟨jvp (3 * g + s) rfl (by omega) (by omega) (by decide), al_i (T 30 (3 * g + s)) (c_h hC rfl (3 * g + s) rfl (by omega) (by omega)) ?_⟩
  refine x_X9_placeOf (g := h) (s := t) rfl rfl ⟨jvp (3 * h + t) rfl (by omega) (by omega) (by decide), al_i (T 30 (3 * h + t)) (c_h hC rfl (3 * h + t) rfl (by omega) (by omega)) ?_⟩
  have I1a : I1 (up T 30 (3 * g + s) (-1)) := I1_30 hI
  have I2a : I2 (up T 30 (3 * g + s) (-1)) := I2_del h2 _
  have I1b : I1 (up (up T 30 (3 * g + s) (-1)) 30 (3 * h + t) (-1)) := I1_30 I1a
  refine x_rise hC hI h2 rfl rfl rfl hs (fun V1 c1 f1 => ?_)
  refine x_rise c1 I1a I2a rfl rfl rfl ht (fun V2 c2 f2 => ?_)
  refine x_sit c2 I1b rfl rfl rfl rfl ht (show isOne T _ by omega) up_eq (fun V3 c3 f3 => ?_)
  refine x_sit c3 (I1_30 I1b) rfl rfl rfl rfl hs (show isOne T _ by omega) (by rw [up_ne (by omega), up_ne (by omega), up_eq]) (fun V4 c4 f4 => ?_)
  rw [exT_4 kj rfl rfl] at c4
  exact hh V4 c4 (fX_trans f1 (fX_trans f2 (fX_trans f3 f4)))
theorem hind_bb (T : Tm) (P : Int → Prop) (g s o : Int) : 0 ≤ hind T P g s o ∧ hind T P g s o ≤ 11 := by
  unfold hind
  repeat' (first | (rw [cif]; split) | omega)
theorem br_60 {A B : Prop} (h : A) : ((0 : Int32) = 0 → A) ∧ (¬ (0 : Int32) = 0 → B) := ⟨fun _ => h, fun q => absurd rfl q⟩
set_option maxHeartbeats 4000000 in
theorem x_exchangeable {U : Um} {T : Tm} {w : Nat} (hC : CC U T w) (hI : I1 T) (h2 : I2 T) {ob : Nat} (eo : ob = 42) {a1 a2 a3 a4 : Int32} {g s h t : Int} (e1 : a1 = jI g) (e2 : a2 = jI s) (e3 : a3 = jI h) (e4 : a4 = jI t) (rg : r32 g) (rs : r32 s) (rh : r32 h) (rt : r32 t) {post : Int32 → Um → Prop} (hh : post (jI (swapS T g s h t)) U) : w_X6_exchangeable ob a1 a2 a3 a4 U post := by
  subst e1 e2 e3 e4
  rw [eo]
  have hw := hC.1.1
  have hn := I_n hI
  have q0 := r_42 hC (x := 42) rfl
  have ow := oc_of q0 (oc_w hw)
  unfold w_X6_exchangeable
  unfold swapS at hh
  refine ⟨ow, x_X9_isSeat hC hI h2 (eo := q0) rfl rfl rg rs (fun hs => ?_) (fun c => ?_)⟩
  case refine_2 =>
    rw [cif_t (fun q => c q.1)] at hh
    exact br_0 hh
  refine br_1 ⟨ow, x_X9_isSeat hC hI h2 (eo := q0) rfl rfl rh rt (fun ht => ?_) (fun c => ?_)⟩
  case refine_2 =>
    rw [cif_t (fun q => c q.2)] at hh
    exact br_0 hh
  rw [cif_f (fun q => q ⟨hs, ht⟩)] at hh
  have b1 := seat3 hI hs
  have b2 := seat3 hI ht
  have ik := I_k h2 (3 * g + s) (by omega) (by omega)
  have ij := I_k h2 (3 * h + t) (by omega) (by omega)
  refine br_1 (x_X6_isPlayed hC hI h2 (eo := rfl) rfl hs.1.1 hs.1.2 (fun c => ?_) (fun c1 => ?_))
  · rw [cif_t (Or.inl c)] at hh
    exact br_1 hh
  refine br_0 (x_X6_isPlayed hC hI h2 (eo := rfl) rfl ht.1.1 ht.1.2 (fun c => ?_) (fun c2 => ?_))
  · rw [cif_t (Or.inr c)] at hh
    exact br_1 hh
  rw [cif_f (fun q => by rcases q with q | q; exact c1 q; exact c2 q)] at hh
  refine br_0 (x_X9_placeOf (g := g) (s := s) rfl rfl ⟨jvp (3 * g + s) rfl (by omega) (by omega) (by decide), al_i (T 30 (3 * g + s)) (c_h hC rfl (3 * g + s) rfl (by omega) (by omega)) ?_⟩)
  refine x_X9_placeOf (g := h) (s := t) rfl rfl ⟨jvp (3 * h + t) rfl (by omega) (by omega) (by decide), al_i (T 30 (3 * h + t)) (c_h hC rfl (3 * h + t) rfl (by omega) (by omega)) ?_⟩
  generalize ha : T 30 (3 * g + s) = a at ik hh ⊢
  generalize hb : T 30 (3 * h + t) = b at ij hh ⊢
  refine br_eq a (-1) rfl rfl ⟨by omega, by omega⟩ ⟨by omega, by omega⟩ (fun c => ?_) (fun c3 => ?_)
  · rw [cif_t (Or.inl c)] at hh
    exact hh
  refine br_eq b (-1) rfl rfl ⟨by omega, by omega⟩ ⟨by omega, by omega⟩ (fun c => ?_) (fun c4 => ?_)
  · rw [cif_t (Or.inr c)] at hh
    exact hh
  rw [cif_f (show ¬ (a = -1 ∨ b = -1) by omega)] at hh
  refine br_eq g h rfl rfl rg rh (fun c => ?_) (fun c5 => ?_)
  · rw [cif_t (Or.inl c)] at hh
    exact hh
  refine br_eq a b rfl rfl ⟨by omega, by omega⟩ ⟨by omega, by omega⟩ (fun c => ?_) (fun c6 => ?_)
  · rw [cif_t (Or.inr c)] at hh
    exact hh
  rw [cif_f (show ¬ (g = h ∨ a = b) by omega)] at hh
  have a0 : 0 ≤ a ∧ a < T 11 2 := by omega
  have b0 : 0 ≤ b ∧ b < T 11 2 := by omega
  have va : vp_in (jI a) 10 := jvp a rfl a0.1 (by omega) (by decide)
  have vb : vp_in (jI b) 10 := jvp b rfl b0.1 (by omega) (by decide)
  have ra := I_r h2 a a0.1 a0.2
  have rb := I_r h2 b b0.1 b0.2
  refine ⟨va, vb, br_eq (T 32 a) (T 32 b) (c_gr hI hC rfl a rfl a0.1 a0.2) (c_gr hI hC rfl b rfl b0.1 b0.2) ⟨by omega, by omega⟩ ⟨by omega, by omega⟩ (fun c7 => ?_) (fun c => ?_)⟩
  case refine_2 =>
    rw [cif_t c] at hh
    exact hh
  rw [cif_f (fun q => q c7)] at hh
  have hb1 := hind_bb T (woG T a g) h t a
  have hb2 := hind_bb T (woG T b h) g s b
  refine ⟨va, x_hind hC hI h2 rfl rfl rfl rfl (P := woG T a g) (fun k k0 k1 => ?_) ht.1.1 ht.1.2 rt a0.1 a0.2 ?_⟩
  · rw [bt_del rfl hs.1.1 (by omega) k0 k1, c_he hI hC rfl a rfl a0.1 a0.2 k k0 k1]
    exact ⟨fun q => ⟨q.1.1, q.1.2, q.2⟩, fun q => ⟨⟨q.1, q.2.1⟩, q.2.2⟩⟩
  refine br_eq (hind T (woG T a g) h t a) 0 rfl rfl ⟨by omega, by omega⟩ ⟨by omega, by omega⟩ (fun c8 => ?_) (fun c8 => ?_)
  · refine ⟨vb, x_hind hC hI h2 rfl rfl rfl rfl (P := woG T b h) (fun k k0 k1 => ?_) hs.1.1 hs.1.2 rs b0.1 b0.2 ?_⟩
    · rw [bt_del rfl ht.1.1 (by omega) k0 k1, c_he hI hC rfl b rfl b0.1 b0.2 k k0 k1]
      exact ⟨fun q => ⟨q.1.1, q.1.2, q.2⟩, fun q => ⟨⟨q.1, q.2.1⟩, q.2.2⟩⟩
    refine br_eq (hind T (woG T b h) g s b) 0 rfl rfl ⟨by omega, by omega⟩ ⟨by omega, by omega⟩ (fun c9 => ?_) (fun c9 => ?_)
    · rw [cif_t ⟨c9, c8⟩] at hh
      exact br_1 hh
    · rw [cif_f (fun q => c9 q.1)] at hh
      exact br_60 hh
  · rw [cif_f (fun q => c8 q.2)] at hh
    exact br_60 hh
