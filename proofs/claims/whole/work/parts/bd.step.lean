/-! the class: who steps in -/
theorem fst_c {p q : Int → Prop} {n : Int} (hn : 0 ≤ n) (h : ∀ k, 0 ≤ k → k < n → (p k ↔ q k)) : fst_ p n = fst_ q n := by
  rcases fst_spec (p := q) hn with ⟨a, b⟩ | ⟨a, b, c, d⟩
  · rw [a]
    exact fst_no hn (fun j j0 j1 z => b j j0 j1 ((h j j0 j1).mp z))
  · exact fst_is a b ((h _ a b).mpr c) (fun j j0 j1 z => d j j0 j1 ((h j j0 (by omega)).mp z))
def fdIs (V : Um) (f : Int → Int) : Prop := ∀ v : Int, 0 ≤ v → v < 5 → uA V 3 6 v.toNat = jI (f v)
def n5 (a b c d e : Int) (v : Int) : Int := if v = 0 then a else if v = 1 then b else if v = 2 then c else if v = 3 then d else e
theorem x_note {U : Um} {T : Tm} {w : Nat} (hC : CC U T w) (hI : I1 T) {ob : Nat} (eo : ob = 3) {a1 a2 a3 a4 a5 : Int32} {a b c d e : Int} (e1 : a1 = jI a) (e2 : a2 = jI b) (e3 : a3 = jI c) (e4 : a4 = jI d) (e5 : a5 = jI e) {post : Um → Prop} (h : ∀ V : Um, CC V T w → fX (fun o _ => o = 3) U V → fdIs V (n5 a b c d e) → post V) : w_X1_note ob a1 a2 a3 a4 a5 U post := by
  subst e1 e2 e3 e4 e5
  rw [eo]
  unfold w_X1_note
  refine ⟨jvp 0 rfl (by decide) (by decide) (by decide), fun U1 h1 => ⟨jvp 1 rfl (by decide) (by decide) (by decide), fun U2 h2 => ⟨jvp 2 rfl (by decide) (by decide) (by decide), fun U3 h3 => ⟨jvp 3 rfl (by decide) (by decide) (by decide), fun U4 h4 => ⟨jvp 4 rfl (by decide) (by decide) (by decide), fun U5 h5 => ?_⟩⟩⟩⟩⟩
  have f5 : fX (fun o _ => o = 3) U U5 := by rw [h5, h4, h3, h2, h1]; exact fX_trans (fX_sA rfl) (fX_trans (fX_sA rfl) (fX_trans (fX_sA rfl) (fX_trans (fX_sA rfl) (fX_sA rfl))))
  refine h U5 (CC_x hI f5 P3_Z hC) f5 (fun v v0 v1 => ?_)
  have u1 : uA U1 3 6 = va_up (uA U 3 6) 0 (jI a) := by rw [h1, uA_sA, if_pos ⟨rfl, rfl⟩]; rfl
  have u2 : uA U2 3 6 = va_up (uA U1 3 6) 1 (jI b) := by rw [h2, uA_sA, if_pos ⟨rfl, rfl⟩]; rfl
  have u3 : uA U3 3 6 = va_up (uA U2 3 6) 2 (jI c) := by rw [h3, uA_sA, if_pos ⟨rfl, rfl⟩]; rfl
  have u4 : uA U4 3 6 = va_up (uA U3 3 6) 3 (jI d) := by rw [h4, uA_sA, if_pos ⟨rfl, rfl⟩]; rfl
  have u5 : uA U5 3 6 = va_up (uA U4 3 6) 4 (jI e) := by rw [h5, uA_sA, if_pos ⟨rfl, rfl⟩]; rfl
  rw [u5, u4, u3, u2, u1]
  rcases (show v = 0 ∨ v = 1 ∨ v = 2 ∨ v = 3 ∨ v = 4 by omega) with rfl | rfl | rfl | rfl | rfl <;> rfl
theorem stpV_0 {T : Tm} {g s own v : Int} (h1 : st1 T g s own = -1) (h2 : st2 T g s own = -1) : stpV T g s own v = -1 := by
  unfold stpV
  rw [if_neg (fun q => q h1), if_pos h2]
theorem stpV_1 {T : Tm} {g s own v : Int} (h1 : st1 T g s own ≠ -1) : stpV T g s own v = n5 1 (st1 T g s own) (-1) (-1) (-1) v := by
  unfold stpV n5
  rw [if_pos h1]
  split
  · rfl
  · split
    · rfl
    · split
      · rfl
      · split <;> rfl
theorem stpV_2 {T : Tm} {g s own v o k : Int} (h1 : st1 T g s own = -1) (h2 : st2 T g s own = o) (h3 : o ≠ -1) (hk : stK T g s own o = k) : stpV T g s own v = n5 2 o (k / 3) (k % 3) (folS T own o k) v := by
  unfold stpV n5
  rw [if_neg (fun q => q h1), h2, if_neg h3, hk]
theorem n5_m {v : Int} : n5 (-1) (-1) (-1) (-1) (-1) v = -1 := by
  unfold n5
  split
  · rfl
  · split
    · rfl
    · split
      · rfl
      · split <;> rfl
abbrev otP (T : Tm) (g s x y o : Int) : Prop := o ≠ x ∧ o ≠ y ∧ hind T (inGame T o) g s o = 0
theorem xl_other {U : Um} {T : Tm} {w : Nat} (hC : CC U T w) (hI : I1 T) (h2 : I2 T) {g s x y : Int} (g0 : 0 ≤ g) (g1 : g < T 11 3) (rs : r32 s) (rx : r32 x) (ry : r32 y) {post : Int32 → Um → Prop} {K : Um → Prop} (hR : ∀ o : Int, fst_ (otP T g s x y) (T 11 2) = o → post (jI o) U) (hK : fst_ (otP T g s x y) (T 11 2) = -1 → K U) : ∀ (fu : Nat) (o : Int), 0 ≤ o → o ≤ T 11 2 → (∀ j, 0 ≤ j → j < o → ¬ otP T g s x y j) → (T 11 2 - o).toNat < fu → w_X1_otherFor_L3 3 (jI g) (jI s) (jI x) (jI y) post K fu (jI o) U := by
  have hn := I_n hI
  have q3 := r_3 hC (x := 3) rfl
  have o3 := oc_of q3 (show oc 42 = 5 from rfl)
  intro fu
  induction fu with
  | zero => intro o _ _ _ h; exact absurd h (Nat.not_lt_zero _)
  | succ fu ih =>
    intro o o0 o1 hj hf
    show b_X1_otherFor_L3 3 (jI g) (jI s) (jI x) (jI y) post K (w_X1_otherFor_L3 3 (jI g) (jI s) (jI x) (jI y) post K fu) (jI o) U
    unfold b_X1_otherFor_L3
    have pass : ¬ otP T g s x y o → ∀ z : Int32, z = jI o + 1 → o < T 11 2 → w_X1_otherFor_L3 3 (jI g) (jI s) (jI x) (jI y) post K fu z U := fun q z hz c => by
      rw [hz, show jI o + 1 = jI (o + 1) from jadd rfl rfl]
      refine ih (o + 1) (by omega) (by omega) (fun j a b => ?_) (by omega)
      by_cases e : j = o
      · rw [e]; exact q
      · exact hj j a (by omega)
    refine ⟨o3, x_X6_officials hC hI h2 (eo := q3) (br_le (T 11 2) o rfl rfl ⟨by omega, by omega⟩ ⟨by omega, by omega⟩ (fun c => ?_) (fun c => ?_))⟩
    · exact hK (fst_no (by omega) (fun j a b => hj j a (by omega)))
    refine br_eq o x rfl rfl ⟨by omega, by omega⟩ rx (fun c1 z hz => pass (fun q => q.1 c1) z hz c) (fun c1 => ?_)
    refine br_eq o y rfl rfl ⟨by omega, by omega⟩ ry (fun c2 z hz => pass (fun q => q.2.1 c2) z hz c) (fun c2 => ?_)
    have hb := hind_bb T (inGame T o) g s o
    refine ⟨o3, o3, jvp o rfl o0 (by omega) (by decide), x_hind hC hI h2 q3 rfl rfl rfl (c_he hI hC q3 o rfl o0 c) g0 g1 rs o0 c ?_⟩
    refine br_eq (hind T (inGame T o) g s o) 0 rfl rfl ⟨by omega, by omega⟩ ⟨by omega, by omega⟩ (fun c3 => ?_) (fun c3 z hz => pass (fun q => c3 q.2.2) z hz c)
    exact hR o (fst_is o0 c ⟨c1, c2, c3⟩ hj)
theorem x_other {U : Um} {T : Tm} {w : Nat} (hC : CC U T w) (hI : I1 T) (h2 : I2 T) {ob : Nat} (eo : ob = 3) {a1 a2 a3 a4 : Int32} {g s x y : Int} (e1 : a1 = jI g) (e2 : a2 = jI s) (e3 : a3 = jI x) (e4 : a4 = jI y) (g0 : 0 ≤ g) (g1 : g < T 11 3) (rs : r32 s) (rx : r32 x) (ry : r32 y) {post : Int32 → Um → Prop} (h : post (jI (fst_ (otP T g s x y) (T 11 2))) U) : w_X1_otherFor ob a1 a2 a3 a4 U post := by
  subst e1 e2 e3 e4
  rw [eo]
  have hn := I_n hI
  unfold w_X1_otherFor
  exact ⟨(T 11 2 - 0).toNat + 1, xl_other hC hI h2 g0 g1 rs rx ry (fun o e => by rw [e] at h; exact h) (fun e => by rw [e] at h; exact h) _ 0 (by decide) (by omega) (fun j a b => by omega) (Nat.lt_succ_self _)⟩
theorem x_seatIn {U : Um} {T : Tm} {w : Nat} (hC : CC U T w) (hI : I1 T) (h2 : I2 T) {ob : Nat} (eo : ob = 3) {a1 a2 : Int32} {g p : Int} (e1 : a1 = jI g) (e2 : a2 = jI p) (g0 : 0 ≤ g) (g1 : g < T 11 3) (rp : r32 p) (hp : inGame T p g) {post : Int32 → Um → Prop} (h : ∀ t : Int, 0 ≤ t → t < gm T g 7 → T 30 (3 * g + t) = p → post (jI t) U) : w_X1_seatIn ob a1 a2 U post := by
  subst e1 e2
  rw [eo]
  have hn := I_n hI
  have hw := hC.1.1
  have hg := I_g hI g g0 g1
  unfold gOk at hg
  have q3 := r_3 hC (x := 3) rfl
  have q0 := r_42 hC q3
  have qg := r_g hC q0 (E := jI g) g rfl g0 (by omega)
  unfold w_X1_seatIn
  refine ⟨oc_of q3 rfl, oc_of q0 (oc_w hw), jvp g rfl g0 (by omega) (by decide), oc_of qg (oc_g hw (by omega)), al_i (gm T g 7) (c_g hC qg 7 g0 g1 (by decide)) ?_⟩
  have lp : ∀ (fu : Nat) (t : Int), 0 ≤ t → t < gm T g 7 → (∀ j, 0 ≤ j → j < t → T 30 (3 * g + j) ≠ p) → (gm T g 7 - t).toNat < fu → w_X1_seatIn_L19 3 (jI g) (jI p) (jI (gm T g 7)) post (fun x4_10 U_11 => post x4_10 U_11) fu (jI t) U := by
    intro fu
    induction fu with
    | zero => intro t _ _ _ h; exact absurd h (Nat.not_lt_zero _)
    | succ fu ih =>
      intro t t0 t1 hj hf
      show b_X1_seatIn_L19 3 (jI g) (jI p) (jI (gm T g 7)) post (fun x4_10 U_11 => post x4_10 U_11) (w_X1_seatIn_L19 3 (jI g) (jI p) (jI (gm T g 7)) post (fun x4_10 U_11 => post x4_10 U_11) fu) (jI t) U
      unfold b_X1_seatIn_L19
      refine br_le (gm T g 7 - 1) t (jsub rfl rfl) rfl ⟨by omega, by omega⟩ ⟨by omega, by omega⟩ (fun c => ?_) (fun c => ?_)
      · refine h t t0 t1 ?_
        obtain ⟨u, u0, u1, ue⟩ := hp
        by_cases z : u = t
        · rw [← z]; exact ue
        · exact absurd ue (hj u u0 (by omega))
      have ik := I_k h2 (3 * g + t) (by omega) (by omega)
      refine ⟨oc_of q3 rfl, x_X9_placeOf (g := g) (s := t) rfl rfl ⟨jvp (3 * g + t) rfl (by omega) (by omega) (by decide), ?_⟩⟩
      refine br_eq (T 30 (3 * g + t)) p (c_h hC q3 (3 * g + t) rfl (by omega) (by omega)) rfl ⟨by omega, by omega⟩ rp (fun c2 => h t t0 t1 c2) (fun c2 y hy => ?_)
      rw [hy, show jI t + 1 = jI (t + 1) from jadd rfl rfl]
      refine ih (t + 1) (by omega) (by omega) (fun j a b => ?_) (by omega)
      by_cases z : j = t
      · rw [z]; exact c2
      · exact hj j a (by omega)
  exact ⟨(gm T g 7 - 0).toNat + 1, lp _ 0 (by decide) (by omega) (fun j a b => by omega) (Nat.lt_succ_self _)⟩
theorem x_follow {U : Um} {T : Tm} {w : Nat} (hC : CC U T w) (hI : I1 T) (h2 : I2 T) {ob : Nat} (eo : ob = 3) {a1 a2 a3 a4 : Int32} {g s own p : Int} (e1 : a1 = jI g) (e2 : a2 = jI s) (e3 : a3 = jI own) (e4 : a4 = jI p) (hs : isSeat T g s) (ro : r32 own) (p0 : 0 ≤ p) (p1 : p < T 11 2) {post : Um → Prop} (hN : (∀ k, 0 ≤ k → k < 48 → ¬ okS T g s own p k) → post U) (hY : ∀ (k : Int) (V : Um), 0 ≤ k → k < 48 → okS T g s own p k → (∀ j, 0 ≤ j → j < k → ¬ okS T g s own p j) → CC V T w → fX (fun o _ => o = 3) U V → fdIs V (n5 2 p (k / 3) (k % 3) (folS T own p k)) → post V) : w_X1_followUp ob a1 a2 a3 a4 U post := by
  subst e1 e2 e3 e4
  rw [eo]
  obtain ⟨⟨g0, g1⟩, s0, s1⟩ := hs
  have hn := I_n hI
  have hw := hC.1.1
  have hg := I_g hI g g0 g1
  unfold gOk at hg
  have q3 := r_3 hC (x := 3) rfl
  have q0 := r_42 hC q3
  have o3 := oc_of q3 (show oc 42 = 5 from rfl)
  have vp : vp_in (jI p) 10 := jvp p rfl p0 (by omega) (by decide)
  unfold w_X1_followUp
  have lp : ∀ (fu : Nat) (x : Int), 0 ≤ x → x ≤ T 11 3 → (∀ k, 0 ≤ k → k < 3 * x → ¬ okS T g s own p k) → (T 11 3 - x).toNat < fu → w_X1_followUp_L3 3 (jI g) (jI s) (jI own) (jI p) post (fun x5_21 x7_22 x8_23 U_24 => w_X1_note 3 2 (jI p) x5_21 x7_22 x8_23 U_24 (fun U_25 => post U_25)) fu (jI x) U := by
    intro fu
    induction fu with
    | zero => intro x _ _ _ h; exact absurd h (Nat.not_lt_zero _)
    | succ fu ih =>
      intro x x0 x1 hj hf
      show b_X1_followUp_L3 3 (jI g) (jI s) (jI own) (jI p) post (fun x5_21 x7_22 x8_23 U_24 => w_X1_note 3 2 (jI p) x5_21 x7_22 x8_23 U_24 (fun U_25 => post U_25)) (w_X1_followUp_L3 3 (jI g) (jI s) (jI own) (jI p) post (fun x5_21 x7_22 x8_23 U_24 => w_X1_note 3 2 (jI p) x5_21 x7_22 x8_23 U_24 (fun U_25 => post U_25)) fu) (jI x) U
      unfold b_X1_followUp_L3
      refine ⟨o3, oc_of q0 (oc_w hw), br_le (T 11 3) x (c_n7 hC q0) rfl ⟨by omega, by omega⟩ ⟨by omega, by omega⟩ (fun c => ?_) (fun c => ?_)⟩
      · refine hN (fun k k0 k1 q => ?_)
        by_cases z : k < 3 * x
        · exact hj k k0 z q
        · have a := seat_k h2 k0 k1 (by rw [q.1]; omega)
          omega
      have hx := I_g hI x x0 c
      unfold gOk at hx
      have xx : jI x + 1 = jI (x + 1) := jadd rfl rfl
      have pass : (∀ t, 0 ≤ t → t < 3 → ¬ okS T g s own p (3 * x + t)) → ∀ y : Int32, y = jI x + 1 → w_X1_followUp_L3 3 (jI g) (jI s) (jI own) (jI p) post (fun x5_21 x7_22 x8_23 U_24 => w_X1_note 3 2 (jI p) x5_21 x7_22 x8_23 U_24 (fun U_25 => post U_25)) fu y U := fun q y hy => by
        rw [hy, xx]
        refine ih (x + 1) (by omega) (by omega) (fun k k0 k1 => ?_) (by omega)
        by_cases z : k < 3 * x
        · exact hj k k0 z
        · rw [show k = 3 * x + (k - 3 * x) by omega]
          exact q (k - 3 * x) (by omega) (by omega)
      have dv : ∀ t, 0 ≤ t → t < 3 → (3 * x + t) / 3 = x ∧ (3 * x + t) % 3 = t := fun t a b => by omega
      intro K3 hK3
      have zero : (∀ t, 0 ≤ t → t < 3 → ¬ okS T g s own p (3 * x + t)) → K3 0 U := fun q => hK3 0 U ⟨fun _ => pass q, fun z => absurd rfl z⟩
      refine br_eq x g rfl rfl ⟨by omega, by omega⟩ ⟨by omega, by omega⟩ (fun c1 => zero (fun t a b q => q.2.1 (by rw [(dv t a b).1]; exact c1))) (fun c1 => ?_)
      refine ⟨o3, x_X6_isPlayed hC hI h2 (eo := q3) rfl x0 c (fun c2 => br_1 (zero (fun t a b q => q.2.2.1 (by rw [(dv t a b).1]; exact c2)))) (fun c2 => br_0 ⟨o3, vp, ?_⟩)⟩
      have he := c_he hI hC q3 (E := jI p) p rfl p0 p1
      refine br_bt0 (B2 := uA U (uR U 3 0) 7 (Int32.toNatClampNeg (jI p))) x rfl rfl x0 (by omega) (fun c3 => zero (fun t a b q => ?_)) (fun c3 => ?_)
      · exact c3 ((he x x0 (by omega)).mpr ⟨⟨x0, c⟩, t, a, by
          have z := at_seat h2 x0 (by omega) a b (by omega) q.1
          exact z.2.2, q.1⟩)
      have hin := ((he x x0 (by omega)).mp c3).2
      refine hK3 1 U ⟨fun z => absurd z (by decide), fun _ => ⟨o3, o3, vp, ?_⟩⟩
      have hb := hind_bb T (woG T p x) g s p
      refine x_hind hC hI h2 q3 rfl rfl rfl (P := woG T p x) (fun k k0 k1 => ?_) g0 g1 ⟨by omega, by omega⟩ p0 p1 ?_
      · rw [bt_del rfl x0 (by omega) k0 k1, he k k0 k1]
        exact ⟨fun q => ⟨q.1.1, q.1.2, q.2⟩, fun q => ⟨⟨q.1, q.2.1⟩, q.2.2⟩⟩
      refine br_eq (hind T (woG T p x) g s p) 0 rfl rfl ⟨by omega, by omega⟩ ⟨by omega, by omega⟩ (fun c4 => ?_) (fun c4 => pass (fun t a b q => c4 (by have := q.2.2.2.1; rw [(dv t a b).1] at this; exact this)))
      refine x_seatIn hC hI h2 rfl rfl rfl x0 c ⟨by omega, by omega⟩ hin (fun t t0 t1 te => ?_)
      have d := dv t t0 (by omega)
      have eq : fst_ (otP T x t own p) (T 11 2) = folS T own p (3 * x + t) := by
        unfold folS folP
        rw [d.1, d.2]
      have only : ∀ u, 0 ≤ u → u < 3 → T 30 (3 * x + u) = p → u = t := fun u a b q => (h2.2.1 x u t (at_seat h2 x0 (by omega) a b (by omega) q) ⟨⟨x0, c⟩, t0, t1⟩ (q.trans te.symm)).resolve_left (fun z => by rw [q] at z; omega)
      refine x_other hC hI h2 rfl rfl rfl rfl rfl x0 c ⟨by omega, by omega⟩ ro ⟨by omega, by omega⟩ ?_
      rw [eq]
      have fs := fst_spec (p := folP T own p (3 * x + t)) (n := T 11 2) (by omega)
      have fb : -1 ≤ folS T own p (3 * x + t) ∧ folS T own p (3 * x + t) ≤ 10 := by
        unfold folS
        rcases fs with z | z <;> omega
      refine br_eq (folS T own p (3 * x + t)) (-1) rfl rfl ⟨by omega, by omega⟩ ⟨by omega, by omega⟩ (fun c5 => pass (fun u a b q => ?_)) (fun c5 => ?_)
      · have e := only u a b q.1
        rw [e] at q
        exact q.2.2.2.2 c5
      · show w_X1_note 3 2 (jI p) (jI x) (jI t) (jI (folS T own p (3 * x + t))) U (fun U_25 => post U_25)
        refine x_note hC hI rfl (a := 2) (b := p) (c := x) (d := t) (e := folS T own p (3 * x + t)) rfl rfl rfl rfl rfl (fun V cV fV dV => ?_)
        have ok : okS T g s own p (3 * x + t) := ⟨te, by rw [d.1]; exact c1, by rw [d.1]; exact c2, by rw [d.1]; exact c4, c5⟩
        refine hY (3 * x + t) V (by omega) (by omega) ok (fun j j0 j1 q => ?_) cV fV (by rw [d.1, d.2]; exact dV)
        by_cases z : j < 3 * x
        · exact hj j j0 z q
        · have e := only (j - 3 * x) (by omega) (by omega) (by rw [show 3 * x + (j - 3 * x) = j by omega]; exact q.1)
          omega
  exact ⟨(T 11 3 - 0).toNat + 1, lp _ 0 (by decide) (by omega) (fun j a b => by omega) (Nat.lt_succ_self _)⟩
theorem x_findStep {U : Um} {T : Tm} {w : Nat} (hC : CC U T w) (hI : I1 T) (h2 : I2 T) {ob : Nat} (eo : ob = 3) {a1 a2 a3 : Int32} {g s v : Int} (e1 : a1 = jI g) (e2 : a2 = jI s) (e3 : a3 = jI v) (hs : isSeat T g s) (hp : ¬ gm T g 3 < T 35 0) (hv : 0 ≤ v ∧ v ≤ 4) {post : Int32 → Um → Prop} (h : ∀ V : Um, CC V T w → fX PD U V → post (jI (stepsS T g s v)) V) : w_X1_findStep ob a1 a2 a3 U post := by
  subst e1 e2 e3
  rw [eo]
  have hs' := hs
  obtain ⟨⟨g0, g1⟩, s0, s1⟩ := hs
  have hn := I_n hI
  have hg := I_g hI g g0 g1
  unfold gOk at hg
  have q3 := r_3 hC (x := 3) rfl
  have ik := I_k h2 (3 * g + s) (by omega) (by omega)
  unfold w_X1_findStep
  refine ⟨oc_of q3 rfl, x_X9_placeOf (g := g) (s := s) rfl rfl ⟨jvp (3 * g + s) rfl (by omega) (by omega) (by decide), al_i (T 30 (3 * g + s)) (c_h hC q3 (3 * g + s) rfl (by omega) (by omega)) ?_⟩⟩
  refine x_note hC hI rfl (a := -1) (b := -1) (c := -1) (d := -1) (e := -1) rfl rfl rfl rfl rfl (fun V1 c1 f1 d1 => ?_)
  unfold stepsS at h
  generalize ho : T 30 (3 * g + s) = own at ik h ⊢
  refine br_eq own (-1) rfl rfl ⟨by omega, by omega⟩ ⟨by omega, by omega⟩ (fun c => ?_) (fun c => ?_)
  · have := h V1 c1 (fX_w P3_D f1)
    rw [cif_f (fun q => q.2.2.2 c)] at this
    exact this
  rw [cif_t ⟨hs', hv, hp, c⟩] at h
  have es1 : fst_ (otP T g s own (-1)) (T 11 2) = st1 T g s own := by
    unfold st1
    exact fst_c (by omega) (fun k k0 k1 => ⟨fun q => ⟨q.1, q.2.2⟩, fun q => ⟨q.1, by omega, q.2⟩⟩)
  have sb : -1 ≤ st1 T g s own ∧ st1 T g s own < T 11 2 := by
    unfold st1
    rcases fst_spec (p := fun p => p ≠ own ∧ hind T (inGame T p) g s p = 0) (n := T 11 2) (by omega) with z | z <;> omega
  have vv : vp_in (jI v) 5 := jvp v rfl hv.1 (by omega) (by decide)
  -- the end: a row that is full
  have done : ∀ (f : Int → Int) (V : Um), CC V T w → fX (fun o _ => o = 3) U V → fdIs V f → f v = stpV T g s own v → vp_in (jI v) 5 ∧ post (uA V 3 6 (Int32.toNatClampNeg (jI v))) V := fun f V cV fV dV ev => by
    refine ⟨vv, pst (x := stpV T g s own v) ?_ (h V cV (fX_w P3_D fV))⟩
    rw [jI_nat hv.1 (by omega), dV v hv.1 (by omega), ev]
  have lp0 : ∀ (fu : Nat) (o : Int) (f : Int → Int) (V : Um), CC V T w → fX (fun o _ => o = 3) U V → fdIs V f → f 0 ≠ -1 → r32 (f 0) → f v = stpV T g s own v → r32 o → w_X1_findStep_L62 3 (jI g) (jI s) (jI v) (jI own) post (fun U_18 => vp_in (jI v) 5 ∧ post (uA U_18 3 6 (Int32.toNatClampNeg (jI v))) U_18) (fu + 1) (jI o) V := by
    intro fu o f V cV fV dV f0 r0 ev ro
    show b_X1_findStep_L62 3 (jI g) (jI s) (jI v) (jI own) post (fun U_18 => vp_in (jI v) 5 ∧ post (uA U_18 3 6 (Int32.toNatClampNeg (jI v))) U_18) (w_X1_findStep_L62 3 (jI g) (jI s) (jI v) (jI own) post (fun U_18 => vp_in (jI v) 5 ∧ post (uA U_18 3 6 (Int32.toNatClampNeg (jI v))) U_18) fu) (jI o) V
    unfold b_X1_findStep_L62
    have v3 := r_3 cV (x := 3) rfl
    refine ⟨oc_of v3 rfl, x_X6_officials cV hI h2 (eo := v3) (br_le (T 11 2) o rfl rfl ⟨by omega, by omega⟩ ro (fun _ => done f V cV fV dV ev) (fun _ => ?_))⟩
    refine ⟨jvp 0 rfl (by decide) (by decide) (by decide), br_eq (f 0) (-1) (dV 0 (by decide) (by decide)) rfl r0 ⟨by omega, by omega⟩ (fun q => absurd q f0) (fun _ => done f V cV fV dV ev)⟩
  have lp : ∀ (fu : Nat) (o : Int) (V : Um), CC V T w → fX (fun o _ => o = 3) U V → fdIs V (n5 (-1) (-1) (-1) (-1) (-1)) → st1 T g s own = -1 → 0 ≤ o → o ≤ T 11 2 → (∀ j, 0 ≤ j → j < o → ¬ stQ T g s own j) → (T 11 2 - o).toNat + 1 < fu → w_X1_findStep_L62 3 (jI g) (jI s) (jI v) (jI own) post (fun U_18 => vp_in (jI v) 5 ∧ post (uA U_18 3 6 (Int32.toNatClampNeg (jI v))) U_18) fu (jI o) V := by
    intro fu
    induction fu with
    | zero => intro o V _ _ _ _ _ _ _ h; exact absurd h (Nat.not_lt_zero _)
    | succ fu ih =>
      intro o V cV fV dV e1 o0 o1 hj hf
      have v3 := r_3 cV (x := 3) rfl
      show b_X1_findStep_L62 3 (jI g) (jI s) (jI v) (jI own) post (fun U_18 => vp_in (jI v) 5 ∧ post (uA U_18 3 6 (Int32.toNatClampNeg (jI v))) U_18) (w_X1_findStep_L62 3 (jI g) (jI s) (jI v) (jI own) post (fun U_18 => vp_in (jI v) 5 ∧ post (uA U_18 3 6 (Int32.toNatClampNeg (jI v))) U_18) fu) (jI o) V
      unfold b_X1_findStep_L62
      refine ⟨oc_of v3 rfl, x_X6_officials cV hI h2 (eo := v3) (br_le (T 11 2) o rfl rfl ⟨by omega, by omega⟩ ⟨by omega, by omega⟩ (fun c2 => ?_) (fun c2 => ?_))⟩
      · refine done _ V cV fV dV ?_
        have e2 : st2 T g s own = -1 := fst_no (by omega) (fun j a b => hj j a (by omega))
        rw [n5_m, stpV_0 e1 e2]
      refine ⟨jvp 0 rfl (by decide) (by decide) (by decide), br_eq (-1) (-1) (dV 0 (by decide) (by decide)) rfl ⟨by omega, by omega⟩ ⟨by omega, by omega⟩ (fun _ => ?_) (fun q => absurd rfl q)⟩
      have oo : jI o + 1 = jI (o + 1) := jadd rfl rfl
      have next : ∀ Z : Um, CC Z T w → fX (fun o _ => o = 3) V Z → fdIs Z (n5 (-1) (-1) (-1) (-1) (-1)) → ¬ stQ T g s own o → ∀ y : Int32, y = jI o + 1 → w_X1_findStep_L62 3 (jI g) (jI s) (jI v) (jI own) post (fun U_18 => vp_in (jI v) 5 ∧ post (uA U_18 3 6 (Int32.toNatClampNeg (jI v))) U_18) fu y Z := fun Z cZ fZ dZ q y hy => by
        rw [hy, oo]
        refine ih (o + 1) Z cZ (fX_trans fV fZ) dZ e1 (by omega) (by omega) (fun j a b => ?_) (by omega)
        by_cases z : j = o
        · rw [z]; exact q
        · exact hj j a (by omega)
      refine br_eq o own rfl rfl ⟨by omega, by omega⟩ ⟨by omega, by omega⟩ (fun c3 => next V cV fX_rfl dV (fun q => q.1 c3)) (fun c3 => ?_)
      refine x_follow cV hI h2 rfl rfl rfl rfl rfl hs' ⟨by omega, by omega⟩ o0 c2 (fun hno => next V cV fX_rfl dV (fun q => ?_)) (fun k Z k0 k1 ok fk cZ fZ dZ y hy => ?_)
      · obtain ⟨_, k, k0, k1, z⟩ := q
        exact hno k k0 k1 z
      · rw [hy, oo]
        obtain ⟨fu, rfl⟩ : ∃ m, fu = m + 1 := ⟨fu - 1, by omega⟩
        have e2 : st2 T g s own = o := fst_is o0 c2 ⟨c3, k, k0, k1, ok⟩ hj
        have eK : stK T g s own o = k := fst_is k0 k1 ok fk
        refine lp0 fu (o + 1) _ Z cZ (fX_trans fV fZ) dZ (by show ¬ (2 : Int) = -1; decide) (by show r32 2; exact ⟨by decide, by decide⟩) ?_ ⟨by omega, by omega⟩
        exact (stpV_2 e1 e2 (by omega) eK).symm
  refine x_other c1 hI h2 (g := g) (s := s) (x := own) (y := -1) rfl rfl rfl rfl rfl g0 g1 ⟨by omega, by omega⟩ ⟨by omega, by omega⟩ ⟨by omega, by omega⟩ ?_
  rw [es1]
  intro K9 hK9
  refine br_eq (st1 T g s own) (-1) rfl rfl ⟨by omega, by omega⟩ ⟨by omega, by omega⟩ (fun c2 => ?_) (fun c2 => ?_)
  · exact hK9 V1 ⟨(T 11 2 - 0).toNat + 2, lp _ 0 V1 c1 f1 d1 c2 (by decide) (by omega) (fun j a b => by omega) (by omega)⟩
  · refine x_note c1 hI rfl (a := 1) (b := st1 T g s own) (c := -1) (d := -1) (e := -1) rfl rfl rfl rfl rfl (fun V2 c3 f3 d3 => hK9 V2 ⟨1, ?_⟩)
    refine lp0 0 0 _ V2 c3 (fX_trans f1 f3) d3 (by show ¬ (1 : Int) = -1; decide) (by show r32 1; exact ⟨by decide, by decide⟩) ?_ ⟨by omega, by omega⟩
    exact (stpV_1 c2).symm
