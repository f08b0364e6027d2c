/-! the tape, names by letters, shelves -/
theorem jb2 (op : Int32 → Int32 → Int32) {a b c d : Int32} (h : a = c) (h2 : b = d) : op a b = op c d := by rw [h, h2]
def byS (v k : Int) : Int := (((jI v) >>> ((jI k) &&& (31 : Int32))) &&& (255 : Int32)).toInt
def feedF (T : Tm) (v m : Int) : Tm := blk (up T 17 0 (T 17 0 + m)) 16 (T 17 0) m (fun j => byS v (24 - 8 * j))
theorem feedF_0 {T : Tm} {v : Int} : feedF T v 0 = T := by
  unfold feedF
  rw [blk_0, Int.add_zero, up_id rfl]
theorem feedF_s {T : Tm} {v m k : Int} (h : 0 ≤ m) (hk : k = 24 - 8 * m) : up (up (feedF T v m) 16 (T 17 0 + m) (byS v k)) 17 0 (T 17 0 + m + 1) = feedF T v (m + 1) := by
  subst hk
  unfold feedF
  funext f i
  simp only [up, blk]
  repeat' split
  all_goals first | rfl | omega | (congr 1; omega)
def feedT (T : Tm) (a b c d e : Int) : Tm := feedF (feedF (feedF (feedF (feedF T a 4) b 4) c 4) d 4) e 4
/-- how many letters a name has -/
def ndig (w : Int) : Int := if w ≤ 0 then 0 else if w < 27 then 1 else if w < 729 then 2 else if w < 19683 then 3 else if w < 531441 then 4 else if w < 14348907 then 5 else 6
theorem ndig_s {w : Int} (h0 : 0 < w) (h1 : w < 387420489) : ndig w = ndig (w / 27) + 1 := by
  unfold ndig
  repeat' split
  all_goals omega
theorem ndig_b (w : Int) : 0 ≤ ndig w ∧ ndig w ≤ 6 := by
  unfold ndig
  repeat' split
  all_goals omega
def dvN (w : Int) : Nat → Int
  | 0 => w
  | n + 1 => dvN w n / 27
def dvS (w n : Int) : Int := dvN w n.toNat
theorem dvS_s {w n : Int} (h : 0 ≤ n) : dvS w (n + 1) = dvS w n / 27 := by
  unfold dvS
  rw [Int.toNat_add h (by decide)]
  rfl
theorem dvS_b {w : Int} (h0 : 0 ≤ w) (h1 : w < 387420489) {n : Int} (hn : 0 ≤ n) : 0 ≤ dvS w n ∧ dvS w n < 387420489 := by
  refine cnt_ind (P := fun n => 0 ≤ dvS w n ∧ dvS w n < 387420489) n hn ⟨h0, h1⟩ (fun k a b ih => ?_)
  show 0 ≤ dvS w (k + 1) ∧ dvS w (k + 1) < 387420489
  rw [dvS_s a]
  omega
noncomputable def letS (w i : Int) : Int := cif (0 ≤ i ∧ i < ndig w) (dvS w (ndig w - 1 - i) % 27 - 1) (-1)
theorem br_ll {a b : Int64} {A B : Prop} (x y : Int) (hx : a = jL x) (hy : b = jL y) (rx : r64 x) (ry : r64 y) (h1 : x ≤ y → A) (h2 : y < x → B) : (lg_cmp a b ≤ 0 → A) ∧ (¬ lg_cmp a b ≤ 0 → B) := by
  subst hx; subst hy
  rw [lg_jL rx ry]
  by_cases q : y < x
  · rw [if_pos q]
    exact ⟨fun q2 => absurd q2 (by decide), fun _ => h2 q⟩
  · rw [if_neg q]
    by_cases q2 : x = y
    · rw [if_pos q2]
      exact ⟨fun _ => h1 (by omega), fun q3 => absurd (by decide) q3⟩
    · rw [if_neg q2]
      exact ⟨fun _ => h1 (by omega), fun q3 => absurd (by decide) q3⟩
theorem jLdivn {a b : Int64} {x y : Int} (ha : a = jL x) (hb : b = jL y) (hx : 0 ≤ x ∧ x ≤ 2147483648) (hy : r64 y) : a / b = jL (x / y) := by
  rw [jLdiv ha hb ⟨by omega, hx.2⟩ hy, Int.tdiv_eq_ediv_of_nonneg hx.1]
theorem jLremn {a b : Int64} {x y : Int} (ha : a = jL x) (hb : b = jL y) (hx : 0 ≤ x ∧ x ≤ 2147483648) (hy : r64 y) : a - a / b * b = jL (x % y) := by
  rw [jLrem ha hb ⟨by omega, hx.2⟩ hy, Int.tmod_eq_emod_of_nonneg hx.1]
theorem jtoI {a : Int64} {x : Int} (ha : a = jL x) (hx : r32 x) : Int64.toInt32 a = jI x := by
  subst ha
  rw [← Int32.toInt_inj, Int64.toInt_toInt32, jL_toInt ⟨by omega, by omega⟩, jI_toInt hx]
  exact Int.bmod_eq_of_le (by omega) (by omega)
noncomputable def letF (T : Tm) (sort which i : Int) : Int := cif (0 ≤ sort ∧ sort ≤ 2 ∧ 0 ≤ which ∧ which < T 11 sort) (letS (if sort = 0 then T 1 which else if sort = 1 then T 4 which else T 5 which) i) (-1)
theorem I_nm {T : Tm} (h : I1 T) : (∀ i, 0 ≤ i → i < T 11 0 → 0 < T 1 i ∧ T 1 i < 387420489) ∧ (∀ i, 0 ≤ i → i < T 11 1 → 0 < T 4 i ∧ T 4 i < 387420489) ∧ ∀ i, 0 ≤ i → i < T 11 2 → 0 < T 5 i ∧ T 5 i < 387420489 := h.2.2.2.2.1
theorem I_11 {T : Tm} (h : I1 T) (i : Int) (h0 : 0 ≤ i) (h1 : i < 7) : 0 ≤ T 11 i ∧ T 11 i ≤ 120 := by
  have hn := I_n h
  have : i = 0 ∨ i = 1 ∨ i = 2 ∨ i = 3 ∨ i = 4 ∨ i = 5 ∨ i = 6 := by omega
  rcases this with q | q | q | q | q | q | q <;> subst q <;> omega
theorem nm_b {T : Tm} (hI : I1 T) {k : Int} {which : Int} (h0 : 0 ≤ which) (h1 : which < T 11 k) : (k = 0 → 0 ≤ T 1 which ∧ T 1 which < 387420489) ∧ (k = 1 → 0 ≤ T 4 which ∧ T 4 which < 387420489) ∧ (k = 2 → 0 ≤ T 5 which ∧ T 5 which < 387420489) := by
  have hnm := I_nm hI
  refine ⟨fun q => ?_, fun q => ?_, fun q => ?_⟩
  · subst q
    have := hnm.1 which h0 h1
    omega
  · subst q
    have := hnm.2.1 which h0 h1
    omega
  · subst q
    have := hnm.2.2 which h0 h1
    omega
