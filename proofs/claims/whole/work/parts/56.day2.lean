def nth (l : List Int) (e : Int) : Int := l.getD e.toNat 0
theorem rdO {U : Um} {k : Nat} {l : List Int} {E : Int32} (h : rowIs (uA U 55 k) l) (e : Int) (he : E = jI e) (h0 : 0 ≤ e) (h1 : e < l.length ∧ e < 3000) : uA U 55 k (Int32.toNatClampNeg E) = jI (nth l e) := by
  subst he
  rw [jI_nat h0 (by omega)]
  exact h e.toNat (by omega)
theorem nth_mem {l : List Int} {e : Int} (h0 : 0 ≤ e) (h1 : e < l.length) : nth l e ∈ l := by
  unfold nth
  rw [List.getD_eq_getElem?_getD, List.getElem?_eq_getElem (by omega)]
  exact List.getElem_mem _
noncomputable def dayF (T : Tm) (o day less more : Int) : List Int := dayI T (dayP T o day less more) (T 11 3)
noncomputable def dayC (T : Tm) (o day less more : Int) : Int := cnt (dayP T o day less more) (T 11 3)
theorem dayC_b {T : Tm} (hI : I1 T) (o day less more : Int) : (0 ≤ dayC T o day less more ∧ dayC T o day less more ≤ 16) ∧ ((dayF T o day less more).length : Int) = dayC T o day less more := by
  have hn := I_n hI
  have := cnt_b (p := dayP T o day less more) (n := T 11 3) (by omega)
  unfold dayC dayF
  exact ⟨by omega, dayI_len (by omega)⟩
theorem dayF_mem {T : Tm} (hI : I1 T) {o day less more x : Int} : x ∈ dayF T o day less more ↔ (0 ≤ x ∧ x < T 11 3) ∧ dayP T o day less more x := dayI_mem (by have := I_n hI; omega)
theorem dayF_g {T : Tm} (hI : I1 T) {o day less more : Int} : ∀ x ∈ dayF T o day less more, 0 ≤ x ∧ x < T 11 3 := fun x hx => ((dayF_mem hI).mp hx).1
def stepS (T : Tm) (a b : Int) : Int := if wayS T a b = -1 then 999 else wayS T a b
theorem stepS_b {T : Tm} (hI : I1 T) (a b : Int) (h0 : 0 ≤ a) (h1 : a < 6) (h2 : 0 ≤ b) (h3 : b < 6) : 0 ≤ stepS T a b ∧ stepS T a b ≤ 20000 := by
  have := I_wS hI a b h0 h1 h2 h3
  unfold stepS
  split <;> omega
/-- the way from a by the games of l to h -/
def rndL (T : Tm) (h : Int) : Int → List Int → Int
  | a, [] => stepS T a h
  | a, g :: l => stepS T a (gm T g 2) + rndL T h (gm T g 2) l
theorem drop_nth {l : List Int} {k : Int} (h0 : 0 ≤ k) (h1 : k < l.length) : l.drop k.toNat = nth l k :: l.drop (k + 1).toNat := by
  unfold nth
  rw [List.drop_eq_getElem_cons (by omega), List.getD_eq_getElem?_getD, List.getElem?_eq_getElem (by omega), Int.toNat_add h0 (by decide)]
  rfl
theorem rnd_s {T : Tm} {h a : Int} {l : List Int} {k : Int} (h0 : 0 ≤ k) (h1 : k < l.length) : rndL T h a (l.drop k.toNat) = stepS T a (gm T (nth l k) 2) + rndL T h (gm T (nth l k) 2) (l.drop (k + 1).toNat) := by
  rw [drop_nth h0 h1]
  rfl
theorem rnd_e {T : Tm} {h a : Int} {l : List Int} {k : Int} (h1 : (l.length : Int) ≤ k) : rndL T h a (l.drop k.toNat) = stepS T a h := by
  rw [List.drop_eq_nil_of_le (by omega)]
  rfl
theorem rnd_b {T : Tm} (hI : I1 T) {h : Int} (hh0 : 0 ≤ h) (hh1 : h < 6) {l : List Int} (hl : ∀ x ∈ l, 0 ≤ x ∧ x < T 11 3) {a : Int} (a0 : 0 ≤ a) (a1 : a < 6) : 0 ≤ rndL T h a l ∧ rndL T h a l ≤ 20000 * (l.length + 1) := by
  have hn := I_n hI
  induction l generalizing a with
  | nil =>
    have := stepS_b hI a h a0 a1 hh0 hh1
    show 0 ≤ stepS T a h ∧ stepS T a h ≤ 20000 * ((([] : List Int).length : Int) + 1)
    simp
    omega
  | cons g l ih =>
    have hg := hl g (by simp)
    have f := I_g hI g hg.1 hg.2
    unfold gOk at f
    have := stepS_b hI a (gm T g 2) a0 a1 (by omega) (by omega)
    have := ih (fun x hx => hl x (by simp [hx])) (a := gm T g 2) (by omega) (by omega)
    show 0 ≤ stepS T a (gm T g 2) + rndL T h (gm T g 2) l ∧ stepS T a (gm T g 2) + rndL T h (gm T g 2) l ≤ 20000 * (((g :: l).length : Int) + 1)
    rw [List.length_cons]
    omega
/-- the round of an official on a day -/
noncomputable def rndS (T : Tm) (o day less more : Int) : Int := rndL T (T 6 o) (T 6 o) (dayF T o day less more)
theorem rndS_b {T : Tm} (hI : I1 T) (o day less more : Int) (h0 : 0 ≤ o) (h1 : o < T 11 2) : 0 ≤ rndS T o day less more ∧ rndS T o day less more ≤ 340000 := by
  have hn := I_n hI
  have ho := I_o hI o h0 h1
  have hb := dayC_b hI o day less more
  have := rnd_b hI (h := T 6 o) (by omega) (by omega) (dayF_g hI (o := o) (day := day) (less := less) (more := more)) (a := T 6 o) (by omega) (by omega)
  unfold rndS
  omega
noncomputable def extS (T : Tm) (g s o : Int) : Int := cif (T 30 (3 * g + s) = o) (rndS T o (gm T g 3) (-1) (-1) - rndS T o (gm T g 3) g (-1)) (rndS T o (gm T g 3) (-1) g - rndS T o (gm T g 3) (-1) (-1))
theorem extS_b {T : Tm} (hI : I1 T) (g s o : Int) (h0 : 0 ≤ o) (h1 : o < T 11 2) : -340000 ≤ extS T g s o ∧ extS T g s o ≤ 340000 := by
  have a := rndS_b hI o (gm T g 3) (-1) (-1) h0 h1
  have b := rndS_b hI o (gm T g 3) g (-1) h0 h1
  have c := rndS_b hI o (gm T g 3) (-1) g h0 h1
  unfold extS cif
  split <;> omega
theorem s_lays {U : Um} {T : Tm} (hM : M U T) (hI : I1 T) (h2 : I2 T) {a1 a2 a3 a4 : Int32} {o day less more : Int} (e1 : a1 = jI o) (e2 : a2 = jI day) (e3 : a3 = jI less) (e4 : a4 = jI more) (p0 : r32 o) (p1 : r32 day) (p2 : r32 less) (p3 : r32 more) {post : Int32 → Um → Prop} (h : ∀ U2 : Um, M U2 T → fM U U2 → rowIs (uA U2 55 39) (dayF T o day less more) → post (jI (dayC T o day less more)) U2) : w_X12_laysDay 55 a1 a2 a3 a4 U post := s_X12_laysDay hM hI h2 e1 e2 e3 e4 p0 p1 p2 p3 h
noncomputable def tripG (T : Tm) (o day w : Int) : Int := nth (dayF T o day (-1) (-1)) (cif (w = 0) 0 (dayC T o day (-1) (-1) - 1))
noncomputable def fldsS (T : Tm) (o day : Int) (l : List Int) (f : Int) : Prop := ∃ g, g ∈ l ∧ f = gm T g 2
/-- the bits of p below n -/
noncomputable def mkN (p : Int → Prop) : Nat → Int32
  | 0 => 0
  | n + 1 => cif (p n) (mkN p n ||| ((1 : Int32) <<< (jI n &&& 31))) (mkN p n)
noncomputable def mkB (p : Int → Prop) (n : Int) : Int32 := mkN p n.toNat
theorem mkB_bt {p : Int → Prop} {n : Int} (hn : 0 ≤ n) (h : n ≤ 32) : ∀ f, 0 ≤ f → f < 32 → (bt (mkB p n) f ↔ f < n ∧ p f) := by
  have H : ∀ m, 0 ≤ m → m ≤ n → ∀ f, 0 ≤ f → f < 32 → (bt (mkB p m) f ↔ f < m ∧ p f) := by
    intro m hm
    refine cnt_ind (P := fun m => m ≤ n → ∀ f, 0 ≤ f → f < 32 → (bt (mkB p m) f ↔ f < m ∧ p f)) m hm (fun _ f f0 f1 => ?_) (fun k h0 h1 ih hk f f0 f1 => ?_)
    · exact ⟨fun q => absurd q bt_0, fun q => by omega⟩
    · have e : mkB p (k + 1) = cif (p k) (mkB p k ||| ((1 : Int32) <<< (jI k &&& 31))) (mkB p k) := by
        unfold mkB
        rw [Int.toNat_add h0 (by decide)]
        show cif (p (k.toNat : Int)) (mkN p k.toNat ||| ((1 : Int32) <<< (jI (k.toNat : Int) &&& 31))) (mkN p k.toNat) = _
        rw [Int.toNat_of_nonneg h0]
      show bt (mkB p (k + 1)) f ↔ f < k + 1 ∧ p f
      rw [e]
      have ih := ih (by omega) f f0 f1
      by_cases c : p k
      · rw [cif_t c, bt_or rfl h0 (by omega) f0 f1, ih]
        constructor
        · rintro (q | q)
          · exact ⟨by omega, q.2⟩
          · rw [q]
            exact ⟨by omega, c⟩
        · intro q
          by_cases z : f = k
          · exact Or.inr z
          · exact Or.inl ⟨by omega, q.2⟩
      · rw [cif_f c, ih]
        constructor
        · exact fun q => ⟨by omega, q.2⟩
        · intro q
          have : f ≠ k := fun z => c (z ▸ q.2)
          exact ⟨by omega, q.2⟩
  exact H n hn (Int.le_refl n)
theorem mkB_is {p : Int → Prop} {n : Int} {B : Int32} (hn : 0 ≤ n) (h : n ≤ 32) (hB : ∀ f, 0 ≤ f → f < 32 → (bt B f ↔ f < n ∧ p f)) : mkB p n = B := bt_ext (fun f f0 f1 => (mkB_bt hn h f f0 f1).trans (hB f f0 f1).symm)
abbrev dayB (T : Tm) (l : List Int) (k f : Int) : Prop := ∃ j, 0 ≤ j ∧ j < k ∧ f = gm T (nth l j) 2
theorem dayB_s {T : Tm} {l : List Int} {k f : Int} (h : 0 ≤ k) : dayB T l (k + 1) f ↔ dayB T l k f ∨ f = gm T (nth l k) 2 := by
  constructor
  · rintro ⟨j, j0, j1, j2⟩
    by_cases c : j = k
    · subst c
      exact Or.inr j2
    · exact Or.inl ⟨j, j0, by omega, j2⟩
  · rintro (⟨j, j0, j1, j2⟩ | q)
    · exact ⟨j, j0, by omega, j2⟩
    · exact ⟨k, h, by omega, q⟩
theorem dayB_all {T : Tm} {l : List Int} {f : Int} : dayB T l l.length f ↔ ∃ g, g ∈ l ∧ f = gm T g 2 := by
  constructor
  · rintro ⟨j, j0, j1, j2⟩
    exact ⟨nth l j, nth_mem j0 j1, j2⟩
  · rintro ⟨g, g0, g1⟩
    obtain ⟨i, i0, i1⟩ := List.mem_iff_getElem.mp g0
    refine ⟨(i : Int), by omega, by omega, ?_⟩
    unfold nth
    rw [Int.toNat_natCast, List.getD_eq_getElem?_getD, List.getElem?_eq_getElem i0]
    show f = gm T (l[i]) 2
    rw [i1]
    exact g1
noncomputable def fldM (T : Tm) (o day : Int) : Int32 := mkB (fun f => ∃ g, g ∈ dayF T o day (-1) (-1) ∧ f = gm T g 2) 6
theorem fldM_is {T : Tm} (hI : I1 T) {o day : Int} {B : Int32} (hB : ∀ f, 0 ≤ f → f < 32 → (bt B f ↔ dayB T (dayF T o day (-1) (-1)) (dayC T o day (-1) (-1)) f)) : (fldM T o day).toInt = B.toInt := by
  have hb := dayC_b hI o day (-1) (-1)
  have hn := I_n hI
  unfold fldM
  rw [mkB_is (by decide) (by decide) (fun f f0 f1 => ?_)]
  rw [hB f f0 f1, ← hb.2, dayB_all]
  refine ⟨fun q => ⟨?_, q⟩, fun q => q.2⟩
  obtain ⟨g, g0, g1⟩ := q
  have := dayF_g hI g g0
  have := I_g hI g this.1 this.2
  unfold gOk at this
  omega
noncomputable def tripS (T : Tm) (o day w : Int) : Int := cif (isOne T o ∧ (0 ≤ day ∧ day ≤ 6) ∧ 0 ≤ w ∧ w ≤ 3) (cif (w = 2) (fldM T o day).toInt (cif (w = 3) (dayC T o day (-1) (-1)) (cif (dayC T o day (-1) (-1) = 0) (-10000) (cif (wayS T (T 6 o) (gm T (tripG T o day w) 2) = -1) (-10000) (cif (w = 0) (gm T (tripG T o day w) 4 - T 11 4 - wayS T (T 6 o) (gm T (tripG T o day w) 2)) (endS T (tripG T o day w) + wayS T (T 6 o) (gm T (tripG T o day w) 2))))))) (-10000)
noncomputable def ableM (T : Tm) (g s : Int) : Int32 := mkB (fun o => isOne T o ∧ whyF T g s o = 0) 10
