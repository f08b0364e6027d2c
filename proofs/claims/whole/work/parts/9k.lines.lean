/-! what the draft keeps: a game; a line; all lines -/
theorem gameZ_i {D D1 : Tm} {f g : Int} {p : Tm × Int} (hf : f ≤ g ∧ g ≤ 1201) (c : D 11 10 < 16) (h : ID D f) (ko : ∀ k, k ≠ 10 → D1 k = D k) (k10 : ∀ i, (i < 8 * (16 + D 11 10) ∨ 8 * (16 + D 11 10) + 7 < i) → D1 10 i = D 10 i) (hz : gOkD D1 (D 11 10)) (e : gameZ D1 g = .ok p) : ID p.1 p.2 ∧ f ≤ p.2 ∧ p.2 ≤ 1201 := by
  unfold gameZ at e
  injection e with e
  subst e
  obtain ⟨⟨hn, hA, hB, hC⟩, hc, hr, hg, ho, hw⟩ := h
  refine ⟨?_, hf.1, hf.2⟩
  show ID (up D1 11 10 (D1 11 10 + 1)) g
  have b11 := ko 11 (by decide)
  have k1 : up D1 11 10 (D1 11 10 + 1) 11 10 = D 11 10 + 1 := by rw [up_eq, b11]
  have kn : ∀ i, i ≠ 10 → up D1 11 10 (D1 11 10 + 1) 11 i = D 11 i := fun i hi => by rw [up_ne (by omega), b11]
  have kk : ∀ k, k ≠ 11 → up D1 11 10 (D1 11 10 + 1) k = D1 k := fun k a => up_f a
  generalize up D1 11 10 (D1 11 10 + 1) = D2 at *
  refine ⟨⟨?_, ?_, ?_, ?_⟩, ?_, ?_, ?_, ?_, ?_⟩
  · rw [k1, kn 8 (by decide), kn 7 (by decide), kn 9 (by decide)]; omega
  · rw [kn 7 (by decide), kk 1 (by decide), ko 1 (by decide)]; exact hA
  · rw [kn 8 (by decide), kk 4 (by decide), ko 4 (by decide)]; exact hB
  · rw [kn 9 (by decide), kk 5 (by decide), ko 5 (by decide)]; exact hC
  · unfold IC; rw [kn 11 (by decide), kn 12 (by decide), kn 13 (by decide)]; exact hc
  · rw [kk 2 (by decide), ko 2 (by decide)]; exact hr
  · intro x a b
    rw [k1] at b
    by_cases q : x = D 11 10
    · rw [q]
      unfold gOkD gD at hz ⊢
      rw [kk 10 (by decide), kn 7 (by decide), kn 8 (by decide)]
      rw [b11] at hz
      exact hz
    · have z := hg x a (by omega)
      unfold gOkD gD at z ⊢
      rw [kk 10 (by decide), kn 7 (by decide), kn 8 (by decide), k10 _ (Or.inl (by omega)), k10 _ (Or.inl (by omega)), k10 _ (Or.inl (by omega)), k10 _ (Or.inl (by omega)), k10 _ (Or.inl (by omega)), k10 _ (Or.inl (by omega)), k10 _ (Or.inl (by omega)), k10 _ (Or.inl (by omega))]
      exact z
  · intro o a b
    rw [kn 9 (by decide)] at b
    have z := ho o a b
    unfold oOkD at z ⊢
    rw [kk 6 (by decide), kk 7 (by decide), kk 8 (by decide), kk 9 (by decide), ko 6 (by decide), ko 7 (by decide), ko 8 (by decide), ko 9 (by decide), kn 7 (by decide)]
    exact z
  · exact IW_c (by rw [kk 12 (by decide), ko 12 (by decide)]) (by rw [kk 13 (by decide), ko 13 (by decide)]) (by rw [kk 15 (by decide), ko 15 (by decide)]) (kn 13 (by decide)) hf.1 hw
theorem gB_k {T D : Tm} {g x1 x2 x3 f6 f7 f9 f11 : Int} {k : Nat} (hk : k ≠ 10) : gameB T D g x1 x2 x3 f6 f7 f9 f11 k = D k := by
  unfold gameB
  rw [up_f hk, up_f hk, up_f hk, up_f hk, up_f hk, up_f hk, up_f hk, up_f hk]
theorem gB_10 {T D : Tm} {g x1 x2 x3 f6 f7 f9 f11 : Int} (i : Int) : gameB T D g x1 x2 x3 f6 f7 f9 f11 10 i = if i = g + 7 then 1 else if i = g + 6 then nuS T f11 else if i = g + 5 then nuS T f9 else if i = g + 4 then nuS T f7 else if i = g + 3 then nuS T f6 else if i = g + 2 then x3 else if i = g + 1 then x2 else if i = g + 0 then x1 else D 10 i := by
  unfold gameB
  rw [up_at, up_at, up_at, up_at, up_at, up_at, up_at, up_at]
theorem game_i {T D : Tm} (ht : It T) {f : Int} {p : Tm × Int} (hf : 0 ≤ f ∧ f ≤ 1201) (h : ID D f) (e : gameR T D f = .ok p) : ID p.1 p.2 ∧ f ≤ p.2 ∧ p.2 ≤ 1201 := by
  unfold gameR at e
  have n1 := nx_ge ht hf
  have n2 := nx_ge ht n1.2
  have n3 := nx_ge ht n2.2
  have n4 := nx_ge ht n3.2
  have n5 := nx_ge ht n4.2
  have n6 := nx_ge ht n5.2
  have n7 := nx_ge ht n6.2
  have n8 := nx_ge ht n7.2
  have n9 := nx_ge ht n8.2
  have n10 := nx_ge ht n9.2
  have n11 := nx_ge ht n10.2
  have n12 := nx_ge ht n11.2
  have n13 := nx_ge ht n12.2
  have n14 := nx_ge ht n13.2
  obtain ⟨e1, e⟩ := ck_e e
  obtain ⟨e2, e⟩ := ck_e e
  obtain ⟨e3, e⟩ := ck_e e
  obtain ⟨e4, e⟩ := ck_e e
  obtain ⟨e5, e⟩ := ck_e e
  obtain ⟨e6, e⟩ := ck_e e
  obtain ⟨e7, e⟩ := ck_e e
  obtain ⟨e8, e⟩ := ck_e e
  obtain ⟨e9, e⟩ := ck_e e
  obtain ⟨e10, e⟩ := ck_e e
  obtain ⟨e11, e⟩ := ck_e e
  obtain ⟨e12, e⟩ := ck_e e
  obtain ⟨e13, e⟩ := ck_e e
  have c : D 11 10 < 16 := fu_e e1
  have hb := h.1.1
  have p1 := com_e (by omega) e2
  have p2 := com_e (by omega) e3
  have p3 := com_e (by omega) e6
  have m8 := nmE_e e8
  have m9 := nmE_e e9
  have m11 := nmE_e e11
  have m13 := nmE_e e13
  simp only [show (7 : Int) + 1 = 8 from rfl] at p1 p2
  simp only [Int.add_zero] at p3
  have ok : ∀ s, 1 ≤ s ∧ s ≤ 3 → ∀ D1 : Tm, (∀ k, k ≠ 10 → D1 k = D k) → (∀ i, D1 10 i = if i = 8 * (16 + D 11 10) + 7 then s else gameB T D (8 * (16 + D 11 10)) (plK T D 1 (nx T f)) (plK T D 1 (nx T (nx T f))) (plK T D 0 (nx T (nx T (nx T (nx T f))))) (nx T (nx T (nx T (nx T (nx T (nx T f)))))) (nx T (nx T (nx T (nx T (nx T (nx T (nx T f))))))) (nx T (nx T (nx T (nx T (nx T (nx T (nx T (nx T (nx T f))))))))) (nx T (nx T (nx T (nx T (nx T (nx T (nx T (nx T (nx T (nx T (nx T f))))))))))) 10 i) → gOkD D1 (D 11 10) ∧ (∀ i, (i < 8 * (16 + D 11 10) ∨ 8 * (16 + D 11 10) + 7 < i) → D1 10 i = D 10 i) := by
    intro s hs D1 hk hv
    have hv2 : ∀ i, D1 10 i = if i = 8 * (16 + D 11 10) + 7 then s else if i = 8 * (16 + D 11 10) + 6 then nuS T (nx T (nx T (nx T (nx T (nx T (nx T (nx T (nx T (nx T (nx T (nx T f))))))))))) else if i = 8 * (16 + D 11 10) + 5 then nuS T (nx T (nx T (nx T (nx T (nx T (nx T (nx T (nx T (nx T f))))))))) else if i = 8 * (16 + D 11 10) + 4 then nuS T (nx T (nx T (nx T (nx T (nx T (nx T (nx T f))))))) else if i = 8 * (16 + D 11 10) + 3 then nuS T (nx T (nx T (nx T (nx T (nx T (nx T f)))))) else if i = 8 * (16 + D 11 10) + 2 then (plK T D 0 (nx T (nx T (nx T (nx T f))))) else if i = 8 * (16 + D 11 10) + 1 then (plK T D 1 (nx T (nx T f))) else if i = 8 * (16 + D 11 10) + 0 then (plK T D 1 (nx T f)) else D 10 i := by
      intro i
      rw [hv, gB_10]
      by_cases q : i = 8 * (16 + D 11 10) + 7
      · rw [if_pos q, if_pos q]
      · rw [if_neg q, if_neg q, if_neg q]
    refine ⟨?_, fun i hi => ?_⟩
    · have v : ∀ k : Int, gD D1 (D 11 10) k = D1 10 (8 * (16 + D 11 10) + k) := fun k => rfl
      unfold gOkD
      rw [v, v, v, v, v, v, v, v, hk 11 (by decide)]
      rw [hv2, hv2, hv2, hv2, hv2, hv2, hv2, hv2]
      generalize 8 * (16 + D 11 10) = z
      rw [if_neg (by omega), if_neg (by omega), if_neg (by omega), if_neg (by omega), if_neg (by omega), if_neg (by omega), if_neg (by omega), if_pos (by omega)]
      rw [if_neg (by omega), if_neg (by omega), if_neg (by omega), if_neg (by omega), if_neg (by omega), if_neg (by omega), if_pos (by omega)]
      rw [if_neg (by omega), if_neg (by omega), if_neg (by omega), if_neg (by omega), if_neg (by omega), if_pos (by omega)]
      rw [if_neg (by omega), if_neg (by omega), if_neg (by omega), if_neg (by omega), if_pos (by omega)]
      rw [if_neg (by omega), if_neg (by omega), if_neg (by omega), if_pos (by omega)]
      rw [if_neg (by omega), if_neg (by omega), if_pos (by omega)]
      rw [if_neg (by omega), if_pos (by omega)]
      rw [if_pos (by omega)]
      omega
    · rw [hv2, if_neg (by omega), if_neg (by omega), if_neg (by omega), if_neg (by omega), if_neg (by omega), if_neg (by omega), if_neg (by omega), if_neg (by omega)]
  by_cases cw : cdS T (nx T (nx T (nx T (nx T (nx T (nx T (nx T (nx T (nx T (nx T (nx T (nx T f)))))))))))) = ownL.getD 12 0
  · rw [if_pos cw] at e
    obtain ⟨e14, e⟩ := ck_e e
    have m14 := nmE_e e14
    obtain ⟨z1, z2⟩ := ok (nuS T (nx T (nx T (nx T (nx T (nx T (nx T (nx T (nx T (nx T (nx T (nx T (nx T (nx T f)))))))))))))) m14 _ (fun k hk => (up_f hk).trans (gB_k hk)) (fun i => up_at)
    exact gameZ_i (by omega) c h (fun k hk => (up_f hk).trans (gB_k hk)) z2 z1 e
  · rw [if_neg cw] at e
    obtain ⟨z1, z2⟩ := ok 1 (by omega) _ (fun k hk => gB_k hk) (fun i => by
      by_cases q : i = 8 * (16 + D 11 10) + 7
      · rw [if_pos q, gB_10, if_pos q]
      · rw [if_neg q])
    exact gameZ_i (by omega) c h (fun k hk => gB_k hk) z2 z1 e
def dispR (T D : Tm) (f : Int) : PR :=
  if cdS T f = ownL.getD 0 0 then fieldR T D f else if cdS T f = ownL.getD 1 0 then roadR T D f else if cdS T f = ownL.getD 2 0 then clubR T D f else if cdS T f = ownL.getD 3 0 then oneR T D f else if cdS T f = ownL.getD 6 0 then offR T D f else if cdS T f = ownL.getD 8 0 then gameR T D f else if cdS T f = ownL.getD 13 0 then keptR T D 4 0 120 f else if cdS T f = ownL.getD 14 0 then keptR T D 5 1 4 f else if cdS T f = ownL.getD 15 0 then feeR T D f else .error (1, f)
def lineR (T D : Tm) (f : Int) : PR := match dispR T D f with
  | .error e => .error e
  | .ok p => ck (sgE T p.2 59) p.2 (.ok (p.1, nx T p.2))
def linesR (T : Tm) : Nat → Tm → Int → PR
  | 0, D, f => .ok (D, f)
  | m + 1, D, f => if tkS T f = 0 then .ok (D, f) else match lineR T D f with
    | .error e => .error e
    | .ok p => linesR T m p.1 p.2
theorem disp_i {T D : Tm} (ht : It T) {f : Int} {p : Tm × Int} (hf : 0 ≤ f ∧ f ≤ 1201) (h : ID D f) (e : dispR T D f = .ok p) : ID p.1 p.2 ∧ f ≤ p.2 ∧ p.2 ≤ 1201 := by
  unfold dispR at e
  by_cases c0 : cdS T f = ownL.getD 0 0
  · rw [if_pos c0] at e
    exact field_i ht hf h e
  rw [if_neg c0] at e
  by_cases c1 : cdS T f = ownL.getD 1 0
  · rw [if_pos c1] at e
    exact road_i ht hf h e
  rw [if_neg c1] at e
  by_cases c2 : cdS T f = ownL.getD 2 0
  · rw [if_pos c2] at e
    exact club_i ht hf h e
  rw [if_neg c2] at e
  by_cases c3 : cdS T f = ownL.getD 3 0
  · rw [if_pos c3] at e
    exact one_i ht hf h e
  rw [if_neg c3] at e
  by_cases c6 : cdS T f = ownL.getD 6 0
  · rw [if_pos c6] at e
    exact off_i ht hf h e
  rw [if_neg c6] at e
  by_cases c8 : cdS T f = ownL.getD 8 0
  · rw [if_pos c8] at e
    exact game_i ht hf h e
  rw [if_neg c8] at e
  by_cases c13 : cdS T f = ownL.getD 13 0
  · rw [if_pos c13] at e
    exact kept_i ht hf (Or.inl ⟨rfl, by decide, by decide⟩) h e
  rw [if_neg c13] at e
  by_cases c14 : cdS T f = ownL.getD 14 0
  · rw [if_pos c14] at e
    exact kept_i ht hf (Or.inr ⟨rfl, by decide, by decide⟩) h e
  rw [if_neg c14] at e
  by_cases c15 : cdS T f = ownL.getD 15 0
  · rw [if_pos c15] at e
    exact fee_i ht hf h e
  rw [if_neg c15] at e
  cases e
theorem ID_f {D : Tm} {f g : Int} (h : ID D f) (hg : f ≤ g) : ID D g := by
  obtain ⟨a, b, c, d, e, w1, w2, w3, w4⟩ := h
  exact ⟨a, b, c, d, e, w1, by omega, w3, w4⟩
theorem line_i {T D : Tm} (ht : It T) {f : Int} {p : Tm × Int} (hf : 0 ≤ f ∧ f ≤ 1201) (h : ID D f) (e : lineR T D f = .ok p) : ID p.1 p.2 ∧ f < p.2 ∧ p.2 ≤ 1201 := by
  unfold lineR at e
  cases hx : dispR T D f with
  | error q => rw [hx] at e; cases e
  | ok q =>
    rw [hx] at e
    obtain ⟨a, b, c⟩ := disp_i ht hf h hx
    dsimp only at e
    have nb := nx_b ht (f := q.2) (by omega) c
    by_cases s : sgS T q.2 = 59
    · rw [se_0 s, ck_0 rfl] at e
      injection e with e
      subst e
      have nc := nb.2.2 (by rw [sg_t s (by decide)]; decide)
      exact ⟨ID_f a (by show q.2 ≤ nx T q.2; omega), by show f < nx T q.2; omega, by show nx T q.2 ≤ 1201; omega⟩
    · rw [se_1 s, ck_1 (by decide)] at e
      cases e
theorem lines_i {T : Tm} (ht : It T) : ∀ (m : Nat) (D : Tm) (f : Int) (p : Tm × Int), 0 ≤ f ∧ f ≤ 1201 → ID D f → linesR T m D f = .ok p → ID p.1 p.2 ∧ p.2 ≤ 1201 := by
  intro m
  induction m with
  | zero => intro D f p hf h e; injection e with e; subst e; exact ⟨h, hf.2⟩
  | succ m ih =>
    intro D f p hf h e
    unfold linesR at e
    by_cases c : tkS T f = 0
    · rw [if_pos c] at e
      injection e with e; subst e; exact ⟨h, hf.2⟩
    · rw [if_neg c] at e
      cases hx : lineR T D f with
      | error q => rw [hx] at e; cases e
      | ok q =>
        rw [hx] at e
        obtain ⟨a, b, c⟩ := line_i ht hf h hx
        exact ih q.1 q.2 p ⟨by omega, c⟩ a e
theorem s_X12_readLine {U : Um} {T D : Tm} {f : Int} (hQ : Q U T D f) (hD : ID D f) {post : Int32 → Um → Prop} (h : Res U T (lineR T D f) post) : w_X12_readLine 55 U post := by
  unfold w_X12_readLine
  unfold lineR at h
  have hN := hD.1
  have fin : ∀ K : Int32 → Um → Prop, (∀ (xs_4 : Int32) (U_5 : Um), ((xs_4 = 0 → post 0 U_5) ∧ (¬ xs_4 = 0 → w_X12_isSign 55 59 U_5 (fun r_7 U_6 => (r_7 = 0 → w_X12_fails 55 1 U_6 (fun r_9 U_8 => (r_9 = 0 ∨ r_9 = 1) ∧ post r_9 U_8)) ∧ (¬ r_7 = 0 → w_X12_next 55 U_6 (fun U_10 => post 1 U_10))))) → K xs_4 U_5) → ∀ r, dispR T D f = r → Res U T r K := by
    intro K hK r hr
    rw [hr] at h
    cases r with
    | error e => exact fun V v o => hK 0 V (br_0 (h V v o))
    | ok p =>
      intro V v o
      dsimp only at h
      refine hK 1 V (br_1 (p_isSign v 59 rfl (by omega) (fun c => br_1 ?_) (fun c => br_0 ?_)))
      · rw [se_0 c, ck_0 rfl] at h
        exact p_next v (fun W w o2 _ => h W w (fM_trans o o2.1))
      · rw [se_1 c, ck_1 (by decide)] at h
        exact s_X12_fails v 1 rfl ⟨by omega, by omega⟩ (fun W w o2 => ⟨Or.inl rfl, h W w (fM_trans o o2.1)⟩)
  clear h
  have fin2 : ∀ K : Int32 → Um → Prop, (∀ (xs_4 : Int32) (U_5 : Um), ((xs_4 = 0 → post 0 U_5) ∧ (¬ xs_4 = 0 → w_X12_isSign 55 59 U_5 (fun r_7 U_6 => (r_7 = 0 → w_X12_fails 55 1 U_6 (fun r_9 U_8 => (r_9 = 0 ∨ r_9 = 1) ∧ post r_9 U_8)) ∧ (¬ r_7 = 0 → w_X12_next 55 U_6 (fun U_10 => post 1 U_10))))) → K xs_4 U_5) → Res U T (dispR T D f) K := fun K hK => fin K hK _ rfl
  unfold dispR at fin2
  refine p_isWord hQ (a := 0) (by decide) (fun c => ?_) (fun c => ?_)
  · rw [if_pos c] at fin2
    intro K hK
    exact br_1 (s_X12_readField hQ hN (fin2 K hK))
  rw [if_neg c] at fin2
  intro K hK
  refine br_0 ?_
  refine p_isWord hQ (a := 1) (by decide) (fun c => br_1 (by rw [if_pos c] at fin2; exact s_X12_readRoad hQ hN hD.2.2.1 (fin2 K hK))) (fun c => br_0 ?_)
  rw [if_neg c] at fin2
  refine p_isWord hQ (a := 2) (by decide) (fun c => br_1 (by rw [if_pos c] at fin2; exact s_X12_readClub hQ hN (fin2 K hK))) (fun c => br_0 ?_)
  rw [if_neg c] at fin2
  refine p_isWord hQ (a := 3) (by decide) (fun c => br_1 (by rw [if_pos c] at fin2; exact s_X12_readOfficial hQ hN (fin2 K hK))) (fun c => br_0 ?_)
  rw [if_neg c] at fin2
  refine p_isWord hQ (a := 6) (by decide) (fun c => br_1 (by rw [if_pos c] at fin2; exact s_X12_readOff hQ hN (fin2 K hK))) (fun c => br_0 ?_)
  rw [if_neg c] at fin2
  refine p_isWord hQ (a := 8) (by decide) (fun c => br_1 (by rw [if_pos c] at fin2; exact s_X12_readGame hQ hN (fin2 K hK))) (fun c => br_0 ?_)
  rw [if_neg c] at fin2
  refine p_isWord hQ (a := 13) (by decide) (fun c => br_1 (by rw [if_pos c] at fin2; exact s_X12_readKept hQ (k := 4) (lo := 0) (hi := 120) rfl rfl rfl (by omega) (by omega) (by omega) (fin2 K hK))) (fun c => br_0 ?_)
  rw [if_neg c] at fin2
  refine p_isWord hQ (a := 14) (by decide) (fun c => br_1 (by rw [if_pos c] at fin2; exact s_X12_readKept hQ (k := 5) (lo := 1) (hi := 4) rfl rfl rfl (by omega) (by omega) (by omega) (fin2 K hK))) (fun c => br_0 ?_)
  rw [if_neg c] at fin2
  refine p_isWord hQ (a := 15) (by decide) (fun c => br_1 (by rw [if_pos c] at fin2; exact s_X12_readFee hQ hD.2.2.2.2.2.1 hD.2.2.2.2.2.2.1 hD.2.2.2.2.2.2.2.1 ⟨by have := hD.2.1.2.2; omega, by have := hD.2.1.2.2; omega⟩ (fin2 K hK))) (fun c => br_0 ?_)
  rw [if_neg c] at fin2
  exact s_X12_fails hQ 1 rfl ⟨by omega, by omega⟩ (fun V v o => fin2 K hK V v o.1)
