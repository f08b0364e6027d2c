/-! the class: rounds -/
theorem cnt_all {n : Int} (h : 0 ≤ n) : cnt (fun _ => True) n = n := by
  refine cnt_ind (P := fun n => cnt (fun _ => True) n = n) n h (cnt_0 (Int.le_refl _)) (fun k k0 _ e => ?_)
  show cnt _ (k + 1) = k + 1
  rw [cnt_t k0 trivial]
  omega
theorem ord_len {T : Tm} (hI : I1 T) : ((ordS T).length : Int) = T 11 3 := by
  have hn := I_n hI
  unfold ordS
  rw [dayI_len (by omega), cnt_all (by omega)]
theorem ord_mem {T : Tm} (hI : I1 T) {i : Int} (i0 : 0 ≤ i) (i1 : i < T 11 3) : 0 ≤ nth (ordS T) i ∧ nth (ordS T) i < T 11 3 := by
  have hn := I_n hI
  have m := nth_mem (l := ordS T) i0 (by rw [ord_len hI]; exact i1)
  exact ((dayI_mem (by omega)).mp m).1
theorem flt_t {Q : Int → Prop} {a : Int} {l : List Int} (h : Q a) : flt Q (a :: l) = a :: flt Q l := cif_t h
theorem flt_f {Q : Int → Prop} {a : Int} {l : List Int} (h : ¬ Q a) : flt Q (a :: l) = flt Q l := cif_f h
/-- a way from a field to itself takes no time -/
def I0 (T : Tm) : Prop := ∀ a, isField T a → wayS T a a = 0
theorem step_0 {T : Tm} (hz : I0 T) {a : Int} (ha : isField T a) : stepS T a a = 0 := by
  unfold stepS
  rw [hz a ha]
  rfl
theorem xl_roundOn {U : Um} {T : Tm} {w : Nat} (hC : CC U T w) (hI : I1 T) (h2 : I2 T) {x1 x4 : Int32} {h R : Int} {Q : Int → Prop} (hQ : ∀ k : Int, 0 ≤ k → k < 32 → (bt x4 k ↔ isGame T k ∧ Q k)) {post : Int32 → Um → Prop} {K : Int32 → Int32 → Um → Prop} (hK : ∀ a sum : Int, isField T a → (0 ≤ sum ∧ sum ≤ 320000) → sum + stepS T a h = R → K (jI sum) (jI a) U) : ∀ (fu : Nat) (sum a k : Int), 0 ≤ k → k ≤ T 11 3 → isField T a → (0 ≤ sum ∧ sum ≤ 20000 * k) → sum + rndL T h a (flt Q ((ordS T).drop k.toNat)) = R → (T 11 3 - k).toNat < fu → w_X6_roundOn_L37 42 x1 x4 post K fu (jI sum) (jI a) (jI k) U := by
  have hw := hC.1.1
  have hn := I_n hI
  have q0 := r_42 hC (x := 42) rfl
  have ow := oc_of q0 (oc_w hw)
  intro fu
  induction fu with
  | zero => intro sum a k _ _ _ _ _ h; exact absurd h (Nat.not_lt_zero _)
  | succ fu ih =>
    intro sum a k k0 k1 ha hs hr hf
    show b_X6_roundOn_L37 42 x1 x4 post K (w_X6_roundOn_L37 42 x1 x4 post K fu) (jI sum) (jI a) (jI k) U
    unfold b_X6_roundOn_L37
    refine ⟨ow, br_le (T 11 3) k (c_n7 hC q0) rfl ⟨by omega, by omega⟩ ⟨by omega, by omega⟩ (fun c => ?_) (fun c => ?_)⟩
    · have e : (ordS T).drop k.toNat = [] := List.drop_eq_nil_of_le (by have := ord_len hI; omega)
      rw [e] at hr
      exact hK a sum ha ⟨hs.1, by omega⟩ hr
    have om := ord_mem hI k0 c
    have og := I_g hI _ om.1 om.2
    unfold gOk at og
    have ed := drop_nth (l := ordS T) k0 (by rw [ord_len hI]; exact c)
    rw [ed] at hr
    have es : jI k + 1 = jI (k + 1) := jadd rfl rfl
    refine ⟨ow, jvp k rfl (by omega) (by omega) (by decide), al_i (nth (ordS T) k) (c_d12 hI hC q0 k rfl k0 c) ?_⟩
    generalize hgm : nth (ordS T) k = g at *
    have qg := r_g hC q0 (E := jI g) g rfl om.1 (by omega)
    refine br_bt0 (B2 := x4) g rfl rfl om.1 (by omega) (fun c2 => ?_) (fun c2 => ?_)
    · intro y hy
      rw [hy, es]
      have nq : ¬ Q g := fun q => c2 ((hQ g om.1 (by omega)).mpr ⟨om, q⟩)
      rw [flt_f nq] at hr
      exact ih sum a (k + 1) (by omega) (by omega) ha ⟨hs.1, by omega⟩ hr (by omega)
    · have yq : Q g := ((hQ g om.1 (by omega)).mp c2).2
      rw [flt_t yq] at hr
      have sb := stepS_b hI a (gm T g 2) (by omega) (by omega) (by omega) (by omega)
      refine ⟨ow, jvp g rfl (by omega) (by omega) (by decide), oc_of qg (oc_g hw (by omega)), al_i (gm T g 2) (c_g hC qg 2 om.1 om.2 (by decide)) ⟨ow, oc_of (r_wr hC q0) (oc_r hw), x_X5_stretch hC hI h2 (eo := r_wr hC q0) rfl rfl ha ⟨by omega, by omega⟩ ?_⟩⟩
      refine al_i (sum + stepS T a (gm T g 2)) (jadd rfl rfl) (fun y hy => ?_)
      rw [hy, es]
      have hr2 : sum + (stepS T a (gm T g 2) + rndL T h (gm T g 2) (flt Q ((ordS T).drop (k + 1).toNat))) = R := hr
      exact ih (sum + stepS T a (gm T g 2)) (gm T g 2) (k + 1) (by omega) (by omega) ⟨by omega, by omega⟩ ⟨by omega, by omega⟩ (by omega) (by omega)
theorem x_round {U : Um} {T : Tm} {w : Nat} (hC : CC U T w) (hI : I1 T) (h2 : I2 T) (hz : I0 T) {ob : Nat} (eo : ob = 42) {a1 a2 a3 : Int32} {p day : Int} (e1 : a1 = jI p) (e3 : a3 = jI day) {P : Int → Prop} (hP : ∀ h : Int, 0 ≤ h → h < 32 → (bt a2 h ↔ isGame T h ∧ P h)) (p0 : 0 ≤ p) (p1 : p < T 11 2) (d0 : 0 ≤ day) (d1 : day < 7) {post : Int32 → Um → Prop} (h : post (jI (rndL T (T 6 p) (T 6 p) (dayI T (fun g => gm T g 3 = day ∧ P g) (T 11 3)))) U) : w_X6_roundOn ob a1 a2 a3 U post := by
  subst e1 e3
  rw [eo]
  have hw := hC.1.1
  have hn := I_n hI
  have ho := I_o hI p p0 p1
  have q0 := r_42 hC (x := 42) rfl
  have ow := oc_of q0 (oc_w hw)
  have vp : vp_in (jI p) 10 := jvp p rfl (by omega) (by omega) (by decide)
  unfold w_X6_roundOn
  refine ⟨ow, jvp day rfl (by omega) (by omega) (by decide), fun x4 hx4 => ?_⟩
  have hQ : ∀ k : Int, 0 ≤ k → k < 32 → (bt x4 k ↔ isGame T k ∧ (gm T k 3 = day ∧ P k)) := fun k a b => by
    rw [hx4, bt_and, hP k a b, c_d13 hC q0 day rfl d0 d1 k a b]
    exact ⟨fun q => ⟨q.1.1, q.2.2, q.1.2⟩, fun q => ⟨⟨q.1, q.2.2⟩, q.1, q.2.1⟩⟩
  have ef := flt_day (T := T) (Q := fun g => gm T g 3 = day ∧ P g) (n := T 11 3) (by omega)
  refine ⟨fun c => ?_, fun c => ?_⟩
  · have e : dayI T (fun g => gm T g 3 = day ∧ P g) (T 11 3) = [] := List.eq_nil_iff_forall_not_mem.mpr (fun x hx => by
      have m := (dayI_mem (by omega)).mp hx
      exact bz.mp c x m.1.1 (by omega) ((hQ x m.1.1 (by omega)).mpr m))
    rw [e] at h
    have s0 : rndL T (T 6 p) (T 6 p) [] = 0 := step_0 hz ⟨ho.1.1, ho.1.2⟩
    rw [s0] at h
    exact h
  · have c6 := c_o3 hI hC q0 (E := jI p) p rfl p0 p1
    refine ⟨ow, vp, al_i (T 6 p) c6 ⟨_, xl_roundOn hC hI h2 (h := T 6 p) (R := rndL T (T 6 p) (T 6 p) (dayI T (fun g => gm T g 3 = day ∧ P g) (T 11 3))) hQ (fun a sum ha hs hr => ?_) ((T 11 3 - 0).toNat + 1) 0 (T 6 p) 0 (by decide) (by omega) ⟨ho.1.1, ho.1.2⟩ (by decide) ?_ (Nat.lt_succ_self _)⟩⟩
    · have sb := stepS_b hI a (T 6 p) (by omega) (by omega) (by omega) (by omega)
      refine ⟨ow, oc_of (r_wr hC q0) (oc_r hw), ow, vp, x_X5_stretch hC hI h2 (eo := r_wr hC q0) (a := a) (b := T 6 p) rfl c6 ha ⟨ho.1.1, ho.1.2⟩ ?_⟩
      rw [← hr] at h
      exact pst (jadd rfl rfl) h
    · rw [Int.zero_add]
      show rndL T (T 6 p) (T 6 p) (flt _ (ordS T)) = _
      unfold ordS
      rw [ef]
theorem bt_del {B E : Int32} {g k : Int} (he : E = jI g) (g0 : 0 ≤ g) (g1 : g < 32) (k0 : 0 ≤ k) (k1 : k < 32) : bt (B &&& (((1 : Int32) <<< (E &&& 31)) ^^^ (-1))) k ↔ bt B k ∧ k ≠ g := by
  rw [bt_and, bt_not k0 k1, bt_1 he g0 g1 k0 k1]
theorem dayF_P {T : Tm} {o day less more : Int} {P : Int → Prop} (hI : I1 T) (h : ∀ k, isGame T k → (P k ↔ (k ≠ less ∧ (k = more ∨ inGame T o k)))) : dayI T (fun g => gm T g 3 = day ∧ P g) (T 11 3) = dayF T o day less more := by
  have hn := I_n hI
  unfold dayF
  exact dayI_c (by omega) (fun k k0 k1 => ⟨fun q => ⟨q.1, (h k ⟨k0, k1⟩).mp q.2⟩, fun q => ⟨q.1, (h k ⟨k0, k1⟩).mpr q.2⟩⟩)
theorem x_roundP {U : Um} {T : Tm} {w : Nat} (hC : CC U T w) (hI : I1 T) (h2 : I2 T) (hz : I0 T) {ob : Nat} (eo : ob = 42) {a1 a2 a3 : Int32} {p day less more : Int} (e1 : a1 = jI p) (e3 : a3 = jI day) {P : Int → Prop} (hP : ∀ h : Int, 0 ≤ h → h < 32 → (bt a2 h ↔ isGame T h ∧ P h)) (hPP : ∀ k, isGame T k → (P k ↔ (k ≠ less ∧ (k = more ∨ inGame T p k)))) (p0 : 0 ≤ p) (p1 : p < T 11 2) (d0 : 0 ≤ day) (d1 : day < 7) {post : Int32 → Um → Prop} (h : post (jI (rndS T p day less more)) U) : w_X6_roundOn ob a1 a2 a3 U post := by
  refine x_round hC hI h2 hz eo e1 e3 hP p0 p1 d0 d1 ?_
  rw [dayF_P hI hPP]
  exact h
theorem x_detour {U : Um} {T : Tm} {w : Nat} (hC : CC U T w) (hI : I1 T) (h2 : I2 T) (hz : I0 T) {ob : Nat} (eo : ob = 42) {a1 a2 a3 : Int32} {g s p : Int} (e1 : a1 = jI g) (e2 : a2 = jI s) (e3 : a3 = jI p) (hs : isSeat T g s) (p0 : 0 ≤ p) (p1 : p < T 11 2) {post : Int32 → Um → Prop} (h : post (jI (extS T g s p)) U) : w_X6_detour ob a1 a2 a3 U post := by
  subst e1 e2 e3
  rw [eo]
  obtain ⟨⟨g0, g1⟩, s0, s1⟩ := hs
  have hw := hC.1.1
  have hn := I_n hI
  have hg := I_g hI g g0 g1
  unfold gOk at hg
  have q0 := r_42 hC (x := 42) rfl
  have ow := oc_of q0 (oc_w hw)
  have qg := r_g hC q0 (E := jI g) g rfl g0 (by omega)
  have he := c_he hI hC (x := 42) rfl (E := jI p) p rfl p0 p1
  have hh := c_h hC (x := 42) rfl (E := jI (3 * g + s)) (3 * g + s) rfl (by omega) (by omega)
  unfold w_X6_detour
  intro x4 hx4
  refine ⟨ow, jvp g rfl (by omega) (by omega) (by decide), oc_of qg (oc_g hw (by omega)), al_i (gm T g 3) (c_g hC qg 3 g0 g1 (by decide)) ⟨jvp p rfl (by omega) (by omega) (by decide), ?_⟩⟩
  intro x6 hx6
  refine x_X9_placeOf (g := g) (s := s) rfl rfl ⟨jvp (3 * g + s) rfl (by omega) (by omega) (by decide), ?_⟩
  have ik := I_k h2 (3 * g + s) (by omega) (by omega)
  intro x7 hx7
  have rb := rndS_b hI p (gm T g 3) (-1) (-1) p0 p1
  have rb2 := rndS_b hI p (gm T g 3) g (-1) p0 p1
  have rb3 := rndS_b hI p (gm T g 3) (-1) g p0 p1
  by_cases c : T 30 (3 * g + s) = p
  · have hin : inGame T p g := ⟨s, s0, s1, c⟩
    have e7 : x7 = x6 &&& (x4 ^^^ (-1)) := by rw [hx7, if_pos (by rw [hh, c])]
    have b7 : ∀ k : Int, 0 ≤ k → k < 32 → (bt x7 k ↔ isGame T k ∧ (inGame T p k ∧ k ≠ g)) := fun k k0 k1 => by
      rw [e7, hx4, bt_del rfl g0 (by omega) k0 k1, hx6, he k k0 k1]
      exact ⟨fun q => ⟨q.1.1, q.1.2, q.2⟩, fun q => ⟨⟨q.1, q.2.1⟩, q.2.2⟩⟩
    unfold extS at h
    rw [cif_t c] at h
    refine x_roundP hC hI h2 hz (less := -1) (more := -1) rfl rfl rfl (P := fun k => inGame T p k) (fun k k0 k1 => ?_) (fun k hk => ⟨fun q => ⟨by omega, Or.inr q⟩, fun q => q.2.resolve_left (by omega)⟩) p0 p1 (by omega) (by omega) ?_
    · rw [hx4, bt_or rfl g0 (by omega) k0 k1, b7 k k0 k1]
      constructor
      · rintro (q | q)
        · exact ⟨q.1, q.2.1⟩
        · rw [q]
          exact ⟨⟨g0, g1⟩, hin⟩
      · intro q
        by_cases z : k = g
        · exact Or.inr z
        · exact Or.inl ⟨q.1, q.2, z⟩
    refine x_roundP hC hI h2 hz (less := g) (more := -1) rfl rfl rfl b7 (fun k hk => ⟨fun q => ⟨q.2, Or.inr q.1⟩, fun q => ⟨q.2.resolve_left (by omega), q.1⟩⟩) p0 p1 (by omega) (by omega) ?_
    exact pst (jsub rfl rfl) h
  · have e7 : x7 = x6 := by rw [hx7, if_neg (by rw [hh, jI_inj ⟨by omega, by omega⟩ ⟨by omega, by omega⟩]; exact c)]
    unfold extS at h
    rw [cif_f c] at h
    refine x_roundP hC hI h2 hz (less := -1) (more := g) rfl rfl rfl (P := fun k => k = g ∨ inGame T p k) (fun k k0 k1 => ?_) (fun k hk => ⟨fun q => ⟨by omega, q⟩, fun q => q.2⟩) p0 p1 (by omega) (by omega) ?_
    · rw [hx4, bt_or rfl g0 (by omega) k0 k1, e7, hx6, he k k0 k1]
      constructor
      · rintro (q | q)
        · exact ⟨q.1, Or.inr q.2⟩
        · exact ⟨by omega, Or.inl q⟩
      · rintro ⟨a, q | q⟩
        · exact Or.inr q
        · exact Or.inl ⟨a, q⟩
    refine x_roundP hC hI h2 hz (less := -1) (more := -1) rfl rfl rfl (P := fun k => inGame T p k) (fun k k0 k1 => by rw [e7, hx6]; exact he k k0 k1) (fun k hk => ⟨fun q => ⟨by omega, Or.inr q⟩, fun q => q.2.resolve_left (by omega)⟩) p0 p1 (by omega) (by omega) ?_
    exact pst (jsub rfl rfl) h
