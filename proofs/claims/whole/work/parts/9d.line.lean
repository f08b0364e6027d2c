/-! lines of a text, as functions: a fault and its place, or the draft and the piece behind -/
abbrev PR : Type := Except (Int × Int) (Tm × Int)
def Res (U : Um) (T : Tm) (r : PR) (post : Int32 → Um → Prop) : Prop := match r with
  | .error e => ∀ V : Um, Qb V T e.1 e.2 → fM U V → post 0 V
  | .ok p => ∀ V : Um, Q V T p.1 p.2 → fM U V → post 1 V
theorem Res_m {U V : Um} {T : Tm} {r : PR} {post : Int32 → Um → Prop} (o : fM U V) (h : Res U T r post) : Res V T r post := by
  unfold Res at h ⊢
  cases r with
  | error e => exact fun W q o2 => h W q (fM_trans o o2)
  | ok p => exact fun W q o2 => h W q (fM_trans o o2)
def ck (k f : Int) (r : PR) : PR := if k = 0 then r else .error (k, f)
theorem ck_0 {k f : Int} {r : PR} (h : k = 0) : ck k f r = r := if_pos h
theorem ck_1 {k f : Int} {r : PR} (h : k ≠ 0) : ck k f r = .error (k, f) := if_neg h
def woE (T : Tm) (f : Int) (a : Nat) : Int := if cdS T f = ownL.getD a 0 then 0 else 1
theorem wo_0 {T : Tm} {f : Int} {a : Nat} (h : cdS T f = ownL.getD a 0) : woE T f a = 0 := if_pos h
theorem wo_1 {T : Tm} {f : Int} {a : Nat} (h : cdS T f ≠ ownL.getD a 0) : woE T f a = 1 := if_neg h
def fuE (D : Tm) (k m : Int) : Int := if m ≤ D 11 (7 + k) then 4 else 0
theorem fu_4 {D : Tm} {k m : Int} (h : m ≤ D 11 (7 + k)) : fuE D k m = 4 := if_pos h
theorem fu_0 {D : Tm} {k m : Int} (h : D 11 (7 + k) < m) : fuE D k m = 0 := if_neg (by omega)
def fieldR (T D : Tm) (f : Int) : PR := ck (fuE D 0 6) f (ck (newE T D (nx T f)) (nx T f) (.ok (up (up D 1 (6 + D 11 7) (cdS T (nx T f))) 11 7 (D 11 7 + 1), nx T (nx T f))))
def clubR (T D : Tm) (f : Int) : PR := ck (fuE D 1 8) f (ck (newE T D (nx T f)) (nx T f) (.ok (up (up D 4 (8 + D 11 8) (cdS T (nx T f))) 11 8 (D 11 8 + 1), nx T (nx T f))))
theorem s_X12_readField {U : Um} {T D : Tm} {f : Int} (hQ : Q U T D f) (hN : IN D) {post : Int32 → Um → Prop} (h : Res U T (fieldR T D f) post) : w_X12_readField 55 U post := by
  unfold w_X12_readField
  unfold fieldR at h
  refine p_isFull hQ hN 0 6 rfl rfl (by omega) (by omega) (fun c V v o => br_1 ?_) (fun c => br_0 ?_)
  · rw [fu_4 c, ck_1 (by omega)] at h
    exact h V v o.1
  rw [fu_0 c, ck_0 rfl] at h
  refine p_next hQ (fun V hV o _ => ?_)
  have h := Res_m o.1 h
  refine p_isNew hV hN (fun c2 ok => br_1 ?_) (fun c2 W w o2 => br_0 ?_)
  · rw [ck_0 c2] at h
    have c' : D 11 7 < 6 := c
    have hn := hN.1
    have r7 := rdA (MD_A hV.2.1 11 14) (E := 7) 7 rfl (by omega) (by omega)
    have wd : uL V 55 25 = jL (cdS T (nx T f)) := by rw [hV.2.2.2.2.2.2.1.2.2.2.1, tw_cd ok]
    refine ⟨jvp 7 rfl (by omega) (by omega) (by decide), jvp (6 + D 11 7) (jadd rfl r7) (by omega) (by omega) (by decide), ?_⟩
    intro V2 h2
    have q2 : Q V2 T (up D 1 (6 + D 11 7) (cdS T (nx T f))) (nx T f) := by rw [h2]; exact Q_sJ hV (6 + D 11 7) _ (jadd rfl r7) wd (by omega) (by omega) (by unfold dft; omega)
    have o2 : fM V V2 := by rw [h2]; exact fM_sJ
    have r8 := rdA (MD_A q2.2.1 11 14) (E := 7) 7 rfl (by omega) (by omega)
    rw [up_nf (by decide)] at r8
    refine ⟨jvp 7 rfl (by omega) (by omega) (by decide), jvp 7 rfl (by omega) (by omega) (by decide), ?_⟩
    intro V3 h3
    have q3 := Q_sA q2 (k := 11) 7 (D 11 7 + 1) (E := 7) rfl (jadd r8 rfl) (by omega) (by omega) (by unfold dft; omega)
    have o3 : fM V2 V3 := by rw [h3]; exact fM_sA
    refine p_next (by rw [h3]; exact q3) (fun W w o4 _ => h W w (fM_trans (fM_trans o2 o3) o4.1))
  · rw [ck_1 c2] at h
    exact h W w o2.1
theorem s_X12_readClub {U : Um} {T D : Tm} {f : Int} (hQ : Q U T D f) (hN : IN D) {post : Int32 → Um → Prop} (h : Res U T (clubR T D f) post) : w_X12_readClub 55 U post := by
  unfold w_X12_readClub
  unfold clubR at h
  refine p_isFull hQ hN 1 8 rfl rfl (by omega) (by omega) (fun c V v o => br_1 ?_) (fun c => br_0 ?_)
  · rw [fu_4 c, ck_1 (by omega)] at h
    exact h V v o.1
  rw [fu_0 c, ck_0 rfl] at h
  refine p_next hQ (fun V hV o _ => ?_)
  have h := Res_m o.1 h
  refine p_isNew hV hN (fun c2 ok => br_1 ?_) (fun c2 W w o2 => br_0 ?_)
  · rw [ck_0 c2] at h
    have c' : D 11 8 < 8 := c
    have hn := hN.1
    have r7 := rdA (MD_A hV.2.1 11 14) (E := 8) 8 rfl (by omega) (by omega)
    have wd : uL V 55 25 = jL (cdS T (nx T f)) := by rw [hV.2.2.2.2.2.2.1.2.2.2.1, tw_cd ok]
    refine ⟨jvp 8 rfl (by omega) (by omega) (by decide), jvp (8 + D 11 8) (jadd rfl r7) (by omega) (by omega) (by decide), ?_⟩
    intro V2 h2
    have q2 : Q V2 T (up D 4 (8 + D 11 8) (cdS T (nx T f))) (nx T f) := by rw [h2]; exact Q_sJ hV (8 + D 11 8) _ (jadd rfl r7) wd (by omega) (by omega) (by unfold dft; omega)
    have o2 : fM V V2 := by rw [h2]; exact fM_sJ
    have r8 := rdA (MD_A q2.2.1 11 14) (E := 8) 8 rfl (by omega) (by omega)
    rw [up_nf (by decide)] at r8
    refine ⟨jvp 8 rfl (by omega) (by omega) (by decide), jvp 8 rfl (by omega) (by omega) (by decide), ?_⟩
    intro V3 h3
    have q3 := Q_sA q2 (k := 11) 8 (D 11 8 + 1) (E := 8) rfl (jadd r8 rfl) (by omega) (by omega) (by unfold dft; omega)
    have o3 : fM V2 V3 := by rw [h3]; exact fM_sA
    refine p_next (by rw [h3]; exact q3) (fun W w o4 _ => h W w (fM_trans (fM_trans o2 o3) o4.1))
  · rw [ck_1 c2] at h
    exact h W w o2.1
def keptR (T D : Tm) (k lo hi f : Int) : PR := ck (nmE T (nx T f) lo hi) (nx T f) (.ok (up D 11 (7 + k) (nuS T (nx T f)), nx T (nx T f)))
theorem s_X12_readKept {U : Um} {T D : Tm} {f : Int} (hQ : Q U T D f) {a1 a2 a3 : Int32} {k lo hi : Int} (e1 : a1 = jI k) (e2 : a2 = jI lo) (e3 : a3 = jI hi) (hk : 0 ≤ k ∧ k ≤ 6) (hl : 0 ≤ lo ∧ lo ≤ 9999) (hh : 0 ≤ hi ∧ hi ≤ 9999) {post : Int32 → Um → Prop} (h : Res U T (keptR T D k lo hi f) post) : w_X12_readKept 55 a1 a2 a3 U post := by
  unfold w_X12_readKept
  unfold keptR at h
  refine p_next hQ (fun V hV o _ => ?_)
  have h := Res_m o.1 h
  refine p_readNumber hV e2 e3 hl hh (fun c W w o2 w28 l1 l2 => br_1 ?_) (fun c W w o2 => br_0 ?_)
  · rw [ck_0 c] at h
    refine ⟨jvp (7 + k) (jadd rfl e1) (by omega) (by omega) (by decide), ?_⟩
    intro V2 h2
    exact h V2 (by rw [h2]; exact Q_sA w (7 + k) _ (jadd rfl e1) w28 (by omega) (by omega) (by unfold dft; omega)) (fM_trans o2.1 (by rw [h2]; exact fM_sA))
  · rw [ck_1 c] at h
    exact h W w o2.1
/-- a road -/
def roadR (T D : Tm) (f : Int) : PR :=
  ck (comE T D 0 (nx T f)) (nx T f) (ck (comE T D 0 (nx T (nx T f))) (nx T (nx T f))
    (if plK T D 0 (nx T f) = plK T D 0 (nx T (nx T f)) ∨ 0 < D 2 (36 + 6 * plK T D 0 (nx T f) + plK T D 0 (nx T (nx T f))) then .error (3, nx T (nx T f))
    else ck (nmE T (nx T (nx T (nx T f))) 1 240) (nx T (nx T (nx T f)))
      (.ok (up (up D 2 (36 + 6 * plK T D 0 (nx T f) + plK T D 0 (nx T (nx T f))) (nuS T (nx T (nx T (nx T f))))) 2 (36 + 6 * plK T D 0 (nx T (nx T f)) + plK T D 0 (nx T f)) (nuS T (nx T (nx T (nx T f)))), nx T (nx T (nx T (nx T f)))))))
theorem s_X12_readRoad {U : Um} {T D : Tm} {f : Int} (hQ : Q U T D f) (hN : IN D) (hR : ∀ i, 36 ≤ i → i < 72 → 0 ≤ D 2 i ∧ D 2 i ≤ 240) {post : Int32 → Um → Prop} (h : Res U T (roadR T D f) post) : w_X12_readRoad 55 U post := by
  unfold w_X12_readRoad
  unfold roadR at h
  have hn := hN.1
  refine p_next hQ (fun V hV o _ => ?_)
  have h := Res_m o.1 h
  refine p_readOne hV hN 0 rfl (by omega) (fun c pb W w o2 w28 => br_1 ?_) (fun c W w o2 => br_0 ?_)
  rotate_left
  · rw [ck_1 c] at h
    exact h W w o2.1
  rw [ck_0 c] at h
  have h := Res_m o2.1 h
  generalize nx T f = f1 at *
  generalize plK T D 0 f1 = x at *
  simp only [Int.add_zero] at pb
  intro X hX
  rw [w28] at hX
  subst hX
  refine p_comesTo w hN 0 rfl (by omega) (fun c2 pb2 V2 q2 o3 v28 => br_1 ?_) (fun c2 V2 q2 o3 => br_0 ?_)
  rotate_left
  · rw [ck_1 c2] at h
    exact h V2 q2 o3.1
  rw [ck_0 c2] at h
  have h := Res_m o3.1 h
  generalize nx T f1 = f2 at *
  generalize plK T D 0 f2 = y at *
  simp only [Int.add_zero] at pb2
  intro Y hY
  rw [v28] at hY
  subst hY
  intro K hK
  have bad : (x = y ∨ 0 < D 2 (36 + 6 * x + y)) → K := fun c => by
    rw [if_pos c] at h
    exact hK (s_X12_fails q2 3 rfl ⟨by omega, by omega⟩ (fun V v w => ⟨Or.inl rfl, h V v w.1⟩))
  have ix : (36 : Int32) + 6 * jI x + jI y = jI (36 + 6 * x + y) := jadd (jadd rfl (jmul rfl rfl)) rfl
  have iy : (36 : Int32) + 6 * jI y + jI x = jI (36 + 6 * y + x) := jadd (jadd rfl (jmul rfl rfl)) rfl
  have rx := hR (36 + 6 * x + y) (by omega) (by omega)
  refine br_eq x y rfl rfl ⟨by omega, by omega⟩ ⟨by omega, by omega⟩ (fun c3 => bad (Or.inl c3)) (fun c3 => ⟨jvp (36 + 6 * x + y) ix (by omega) (by omega) (by decide), ?_⟩)
  refine br_le (D 2 (36 + 6 * x + y)) 0 (rdA (MD_A q2.2.1 2 72) (36 + 6 * x + y) ix (by omega) (by omega)) rfl ⟨by omega, by omega⟩ ⟨by omega, by omega⟩ (fun c4 => ?_) (fun c4 => bad (Or.inr c4))
  rw [if_neg (by omega)] at h
  refine p_next q2 (fun V3 q3 o4 _ => ?_)
  have h := Res_m o4.1 h
  refine p_readNumber q3 (lo := 1) (hi := 240) rfl rfl (by omega) (by omega) (fun c5 V4 q4 o5 v4 l1 l2 => br_1 ?_) (fun c5 V4 q4 o5 => br_0 ?_)
  rotate_left
  · rw [ck_1 c5] at h
    exact h V4 q4 o5.1
  rw [ck_0 c5] at h
  refine ⟨jvp (36 + 6 * x + y) ix (by omega) (by omega) (by decide), ?_⟩
  intro V5 h5
  have q5 : Q V5 T (up D 2 (36 + 6 * x + y) (nuS T (nx T f2))) (nx T (nx T f2)) := by rw [h5]; exact Q_sA q4 (36 + 6 * x + y) _ ix v4 (by omega) (by omega) (by unfold dft; omega)
  have o6 : fM V4 V5 := by rw [h5]; exact fM_sA
  have v5 : uI V5 55 28 = jI (nuS T (nx T f2)) := by rw [h5]; exact v4
  refine ⟨jvp (36 + 6 * y + x) iy (by omega) (by omega) (by decide), ?_⟩
  intro V6 h6
  exact h V6 (by rw [h6]; exact Q_sA q5 (36 + 6 * y + x) _ iy v5 (by omega) (by omega) (by unfold dft; omega)) (fM_trans (fM_trans o5.1 o6) (by rw [h6]; exact fM_sA))
