/-! games of a day, as they begin -/
def insL (T : Tm) (g : Int) : List Int → List Int
  | [] => [g]
  | a :: l => if gm T g 4 < gm T a 4 then g :: a :: l else a :: insL T g l
noncomputable def dayN (T : Tm) (P : Int → Prop) : Nat → List Int
  | 0 => []
  | n + 1 => cif (P n) (insL T n (dayN T P n)) (dayN T P n)
noncomputable def dayI (T : Tm) (P : Int → Prop) (n : Int) : List Int := dayN T P n.toNat
theorem dayI_0 {T : Tm} {P : Int → Prop} : dayI T P 0 = [] := rfl
theorem dayI_s {T : Tm} {P : Int → Prop} {n : Int} (h : 0 ≤ n) : dayI T P (n + 1) = cif (P n) (insL T n (dayI T P n)) (dayI T P n) := by
  unfold dayI
  rw [Int.toNat_add h (by decide)]
  show cif (P (n.toNat : Int)) (insL T (n.toNat : Int) (dayN T P n.toNat)) (dayN T P n.toNat) = _
  rw [Int.toNat_of_nonneg h]
theorem insL_len {T : Tm} {g : Int} {l : List Int} : (insL T g l).length = l.length + 1 := by
  induction l with
  | nil => rfl
  | cons a l ih =>
    unfold insL
    split
    · rfl
    · rw [List.length_cons, ih]
      rfl
theorem insL_mem {T : Tm} {g x : Int} {l : List Int} : x ∈ insL T g l ↔ x = g ∨ x ∈ l := by
  induction l with
  | nil => simp [insL]
  | cons a l ih =>
    unfold insL
    split
    · simp
    · rw [List.mem_cons, ih, List.mem_cons]
      grind
/-- sorted by begin -/
def srt (T : Tm) (l : List Int) : Prop := l.Pairwise (fun a b => gm T a 4 ≤ gm T b 4)
theorem insL_srt {T : Tm} {g : Int} {l : List Int} (h : srt T l) : srt T (insL T g l) := by
  induction l with
  | nil => simp [insL, srt]
  | cons a l ih =>
    have h1 : (∀ b ∈ l, gm T a 4 ≤ gm T b 4) ∧ srt T l := List.pairwise_cons.mp h
    unfold insL
    split
    · refine List.pairwise_cons.mpr ⟨fun b hb => ?_, h⟩
      rcases List.mem_cons.mp hb with q | q
      · rw [q]
        omega
      · have := h1.1 b q
        omega
    · refine List.pairwise_cons.mpr ⟨fun b hb => ?_, ih h1.2⟩
      rcases insL_mem.mp hb with q | q
      · rw [q]
        omega
      · exact h1.1 b q
theorem dayI_mem {T : Tm} {P : Int → Prop} {n x : Int} (h : 0 ≤ n) : x ∈ dayI T P n ↔ (0 ≤ x ∧ x < n) ∧ P x := by
  refine cnt_ind (P := fun n => x ∈ dayI T P n ↔ (0 ≤ x ∧ x < n) ∧ P x) n h ?_ (fun k h0 h1 ih => ?_)
  · rw [dayI_0]
    simp
    intro a b
    omega
  · show x ∈ dayI T P (k + 1) ↔ _
    rw [dayI_s h0]
    by_cases c : P k
    · rw [cif_t c, insL_mem, ih]
      constructor
      · rintro (q | q)
        · rw [q]
          exact ⟨by omega, c⟩
        · exact ⟨by omega, q.2⟩
      · intro q
        by_cases z : x = k
        · exact Or.inl z
        · exact Or.inr ⟨by omega, q.2⟩
    · rw [cif_f c, ih]
      constructor
      · intro q
        exact ⟨by omega, q.2⟩
      · intro q
        have : x ≠ k := fun z => c (z ▸ q.2)
        exact ⟨by omega, q.2⟩
theorem dayI_len {T : Tm} {P : Int → Prop} {n : Int} (h : 0 ≤ n) : ((dayI T P n).length : Int) = cnt P n := by
  refine cnt_ind (P := fun n => ((dayI T P n).length : Int) = cnt P n) n h ?_ (fun k h0 h1 ih => ?_)
  · rw [dayI_0, cnt_0 (by decide)]
    rfl
  · show ((dayI T P (k + 1)).length : Int) = _
    rw [dayI_s h0]
    by_cases c : P k
    · rw [cif_t c, cnt_t h0 c, insL_len]
      omega
    · rw [cif_f c, cnt_f h0 c, ih]
theorem dayI_srt {T : Tm} {P : Int → Prop} {n : Int} (h : 0 ≤ n) : srt T (dayI T P n) := by
  refine cnt_ind (P := fun n => srt T (dayI T P n)) n h ?_ (fun k h0 h1 ih => ?_)
  · rw [dayI_0]
    exact List.Pairwise.nil
  · show srt T (dayI T P (k + 1))
    rw [dayI_s h0]
    by_cases c : P k
    · rw [cif_t c]
      exact insL_srt ih
    · rw [cif_f c]
      exact ih
theorem dayI_c {T : Tm} {P Q : Int → Prop} {n : Int} (hn : 0 ≤ n) (h : ∀ k, 0 ≤ k → k < n → (P k ↔ Q k)) : dayI T P n = dayI T Q n := by
  have H : ∀ m, 0 ≤ m → m ≤ n → dayI T P m = dayI T Q m := by
    intro m hm
    refine cnt_ind (P := fun m => m ≤ n → dayI T P m = dayI T Q m) m hm (fun _ => rfl) (fun k h0 h1 ih hk => ?_)
    show dayI T P (k + 1) = dayI T Q (k + 1)
    rw [dayI_s h0, dayI_s h0, ih (by omega)]
    by_cases c : P k
    · rw [cif_t c, cif_t ((h k h0 (by omega)).mp c)]
    · rw [cif_f c, cif_f (fun z => c ((h k h0 (by omega)).mpr z))]
  exact H n hn (Int.le_refl n)
/-- inserted behind the k that do not begin later -/
theorem insL_at {T : Tm} {g : Int} {l : List Int} {k : Nat} (hk : k ≤ l.length) (h1 : ∀ j, j < k → gm T (l.getD j 0) 4 ≤ gm T g 4) (h2 : ∀ j, k ≤ j → j < l.length → gm T g 4 < gm T (l.getD j 0) 4) : insL T g l = l.take k ++ g :: l.drop k := by
  induction l generalizing k with
  | nil => simp [insL]
  | cons a l ih =>
    unfold insL
    cases k with
    | zero =>
      have := h2 0 (by omega) (by simp)
      simp at this
      rw [if_pos this]
      rfl
    | succ k =>
      have := h1 0 (by omega)
      simp at this
      rw [if_neg (by omega), ih (k := k) (by simpa using hk) (fun j hj => by simpa using h1 (j + 1) (by omega)) (fun j hj hj2 => by simpa using h2 (j + 1) (by omega) (by simpa using hj2))]
      rfl
theorem getD_ins {l : List Int} {g : Int} {k j : Nat} (hk : k ≤ l.length) : (l.take k ++ g :: l.drop k).getD j 0 = if j < k then l.getD j 0 else if j = k then g else l.getD (j - 1) 0 := by
  rw [List.getD_eq_getElem?_getD, List.getElem?_append]
  have hl : (l.take k).length = k := by rw [List.length_take]; omega
  rw [hl]
  by_cases c : j < k
  · rw [if_pos c, if_pos c, List.getElem?_take, if_pos c, List.getD_eq_getElem?_getD]
  · rw [if_neg c, if_neg c]
    by_cases c2 : j = k
    · rw [if_pos c2, c2, Nat.sub_self]
      rfl
    · rw [if_neg c2, show j - k = (j - 1 - k) + 1 by omega, List.getElem?_cons_succ, List.getElem?_drop, show k + (j - 1 - k) = j - 1 by omega, List.getD_eq_getElem?_getD]
theorem srt_getD {T : Tm} {l : List Int} (h : srt T l) {i j : Nat} (hij : i ≤ j) (hj : j < l.length) : gm T (l.getD i 0) 4 ≤ gm T (l.getD j 0) 4 := by
  by_cases c : i = j
  · rw [c]
    exact Int.le_refl _
  · have := List.pairwise_iff_getElem.mp h i j (by omega) hj (by omega)
    rw [List.getD_eq_getElem?_getD, List.getD_eq_getElem?_getD, List.getElem?_eq_getElem (by omega), List.getElem?_eq_getElem hj]
    exact this
/-- those of l for which Q holds -/
noncomputable def flt (Q : Int → Prop) : List Int → List Int
  | [] => []
  | a :: l => cif (Q a) (a :: flt Q l) (flt Q l)
theorem flt_mem {Q : Int → Prop} {x : Int} {l : List Int} : x ∈ flt Q l ↔ x ∈ l ∧ Q x := by
  induction l with
  | nil => simp [flt]
  | cons a l ih =>
    unfold flt
    by_cases c : Q a
    · rw [cif_t c, List.mem_cons, List.mem_cons, ih]
      grind
    · rw [cif_f c, List.mem_cons, ih]
      grind
theorem insL_first {T : Tm} {g : Int} {l : List Int} (h : ∀ x ∈ l, gm T g 4 < gm T x 4) : insL T g l = g :: l := by
  cases l with
  | nil => rfl
  | cons a l =>
    unfold insL
    rw [if_pos (h a (by simp))]
theorem flt_ins {T : Tm} {Q : Int → Prop} {g : Int} {l : List Int} (h : srt T l) : flt Q (insL T g l) = cif (Q g) (insL T g (flt Q l)) (flt Q l) := by
  induction l with
  | nil =>
    unfold insL flt
    by_cases c : Q g
    · rw [cif_t c, cif_t c]
      rfl
    · rw [cif_f c, cif_f c]
      rfl
  | cons a l ih =>
    have h1 : (∀ b ∈ l, gm T a 4 ≤ gm T b 4) ∧ srt T l := List.pairwise_cons.mp h
    by_cases z : gm T g 4 < gm T a 4
    · have e : insL T g (a :: l) = g :: a :: l := by
        unfold insL
        rw [if_pos z]
      rw [e]
      by_cases c : Q g
      · rw [cif_t c, insL_first (fun x hx => by
          rcases List.mem_cons.mp (flt_mem.mp hx).1 with q | q
          · rw [q]
            exact z
          · have := h1.1 x q
            omega)]
        show cif (Q g) (g :: flt Q (a :: l)) (flt Q (a :: l)) = _
        rw [cif_t c]
      · rw [cif_f c]
        show cif (Q g) (g :: flt Q (a :: l)) (flt Q (a :: l)) = _
        rw [cif_f c]
    · have e : insL T g (a :: l) = a :: insL T g l := by
        conv => lhs; unfold insL
        rw [if_neg z]
      rw [e]
      show cif (Q a) (a :: flt Q (insL T g l)) (flt Q (insL T g l)) = cif (Q g) (insL T g (cif (Q a) (a :: flt Q l) (flt Q l))) (cif (Q a) (a :: flt Q l) (flt Q l))
      rw [ih h1.2]
      by_cases c : Q a
      · rw [cif_t c, cif_t c]
        by_cases c2 : Q g
        · rw [cif_t c2, cif_t c2]
          conv => rhs; unfold insL
          rw [if_neg z]
        · rw [cif_f c2, cif_f c2]
      · rw [cif_f c, cif_f c]
theorem flt_day {T : Tm} {Q : Int → Prop} {n : Int} (hn : 0 ≤ n) : flt Q (dayI T (fun _ => True) n) = dayI T Q n := by
  refine cnt_ind (P := fun n => flt Q (dayI T (fun _ => True) n) = dayI T Q n) n hn rfl (fun k h0 h1 ih => ?_)
  show flt Q (dayI T (fun _ => True) (k + 1)) = dayI T Q (k + 1)
  rw [dayI_s h0, cif_t trivial, dayI_s h0, flt_ins (dayI_srt h0), ih]
