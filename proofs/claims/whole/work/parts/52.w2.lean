/-! more words -/
def smN (f : Int → Int) : Nat → Int
  | 0 => 0
  | n + 1 => smN f n + f n
def sm (f : Int → Int) (n : Int) : Int := smN f n.toNat
theorem sm_0 {f : Int → Int} : sm f 0 = 0 := rfl
theorem sm_s {f : Int → Int} {n : Int} (h : 0 ≤ n) : sm f (n + 1) = sm f n + f n := by
  unfold sm
  rw [Int.toNat_add h (by decide)]
  show smN f n.toNat + f (n.toNat : Int) = _
  rw [Int.toNat_of_nonneg h]
theorem sm_b {f : Int → Int} {n : Int} (B : Int) (hn : 0 ≤ n) (h : ∀ k, 0 ≤ k → k < n → 0 ≤ f k ∧ f k ≤ B) : 0 ≤ sm f n ∧ sm f n ≤ n * B := by
  have H : ∀ m, 0 ≤ m → m ≤ n → 0 ≤ sm f m ∧ sm f m ≤ m * B := by
    intro m hm
    refine cnt_ind (P := fun m => m ≤ n → 0 ≤ sm f m ∧ sm f m ≤ m * B) m hm (fun _ => ?_) (fun k h0 h1 ih hk => ?_)
    · rw [sm_0, Int.zero_mul]
      omega
    · have ih := ih (by omega)
      have := h k h0 (by omega)
      show 0 ≤ sm f (k + 1) ∧ sm f (k + 1) ≤ (k + 1) * B
      rw [sm_s h0, Int.add_mul, Int.one_mul]
      omega
  exact H n hn (Int.le_refl n)
theorem sm_c {f f2 : Int → Int} {n : Int} (hn : 0 ≤ n) (h : ∀ k, 0 ≤ k → k < n → f k = f2 k) : sm f n = sm f2 n := by
  have H : ∀ m, 0 ≤ m → m ≤ n → sm f m = sm f2 m := by
    intro m hm
    refine cnt_ind (P := fun m => m ≤ n → sm f m = sm f2 m) m hm (fun _ => rfl) (fun k h0 h1 ih hk => ?_)
    show sm f (k + 1) = sm f2 (k + 1)
    rw [sm_s h0, sm_s h0, ih (by omega), h k h0 (by omega)]
  exact H n hn (Int.le_refl n)
noncomputable def seatsS (T : Tm) (o : Int) : Int := cnt (fun k => T 30 k = o) 48
theorem seatsS_b {T : Tm} (o : Int) : 0 ≤ seatsS T o ∧ seatsS T o ≤ 48 := cnt_b (by decide)
def allSeats (T : Tm) (n : Int) : Int := sm (fun g => gm T g 7) n
noncomputable def takenG (T : Tm) (g n : Int) : Int := cnt (fun s => T 30 (3 * g + s) ≠ -1) n
noncomputable def taken (T : Tm) (n : Int) : Int := sm (fun g => takenG T g (gm T g 7)) n
theorem seats_s {T : Tm} {g : Int} (h : 0 ≤ g) : allSeats T (g + 1) = allSeats T g + gm T g 7 := sm_s h
theorem taken_s {T : Tm} {g : Int} (h : 0 ≤ g) : taken T (g + 1) = taken T g + takenG T g (gm T g 7) := sm_s h
theorem takenG_t {T : Tm} {g s : Int} (h : 0 ≤ s) (c : T 30 (3 * g + s) ≠ -1) : takenG T g (s + 1) = takenG T g s + 1 := cnt_t h c
theorem takenG_f {T : Tm} {g s : Int} (h : 0 ≤ s) (c : T 30 (3 * g + s) = -1) : takenG T g (s + 1) = takenG T g s := cnt_f h (fun z => z c)
theorem seats_b {T : Tm} (hI : I1 T) {n : Int} (h0 : 0 ≤ n) (h1 : n ≤ T 11 3) : 0 ≤ allSeats T n ∧ allSeats T n ≤ 48 := by
  have := sm_b (f := fun g => gm T g 7) (n := n) 3 h0 (fun k k0 k1 => by
    have := I_g hI k k0 (by omega)
    unfold gOk at this
    omega)
  have hn := I_n hI
  unfold allSeats
  omega
theorem taken_b {T : Tm} (hI : I1 T) {n : Int} (h0 : 0 ≤ n) (h1 : n ≤ T 11 3) : 0 ≤ taken T n ∧ taken T n ≤ 48 := by
  have := sm_b (f := fun g => takenG T g (gm T g 7)) (n := n) 3 h0 (fun k k0 k1 => by
    have a := I_g hI k k0 (by omega)
    unfold gOk at a
    have b := cnt_b (p := fun s => T 30 (3 * k + s) ≠ -1) (n := gm T k 7) (by omega)
    unfold takenG
    omega)
  have hn := I_n hI
  unfold taken
  omega
noncomputable def hasS (T : Tm) (w : Int) : Int := if 0 ≤ w ∧ w ≤ 5 then T 11 w else if w = 6 then T 35 0 else if w = 7 then allSeats T (T 11 3) else if w = 8 then taken T (T 11 3) else if w = 9 then T 38 0 else if w = 10 then T 17 0 else -2
def bI (p : Prop) [Decidable p] : Int := if p then 1 else 0
noncomputable def able (T : Tm) (g s o : Int) : Prop := isOne T o ∧ whyF T g s o = 0
theorem whyS_b {T : Tm} {g s o : Int} : 0 ≤ whyS T g s o ∧ whyS T g s o ≤ 11 := by
  unfold whyS hind cif
  split
  · omega
  · split
    · omega
    · split
      · omega
      · split
        · omega
        · split
          · omega
          · split
            · omega
            · split
              · omega
              · split
                · omega
                · split <;> omega
theorem whyF_b (T : Tm) (g s o : Int) : 0 ≤ whyF T g s o ∧ whyF T g s o ≤ 11 := by
  have := whyS_b (T := T) (g := g) (s := s) (o := o)
  unfold whyF cif
  split
  · split <;> omega
  · omega
noncomputable def gameS (T : Tm) (g w : Int) : Int := cif (isGame T g ∧ 0 ≤ w ∧ w ≤ 8) (cif (w < 8) (gm T g w) (cif (gm T g 3 < T 35 0) 2 (cif (gm T g 3 = T 35 0) 1 0))) (-1)
noncomputable def seatS (T : Tm) (g s w : Int) : Int := cif (isSeat T g s ∧ 0 ≤ w ∧ w ≤ 1) (cif (w = 0) (T 30 (3 * g + s)) (T 31 (3 * g + s))) (-2)
abbrev onway (T : Tm) (a b k : Int) : Prop := 0 < T 2 (6 * a + k) ∧ wayS T k b ≠ -1 ∧ T 2 (6 * a + k) + wayS T k b = wayS T a b
/-- the first below n, else -1 -/
noncomputable def fstN (p : Int → Prop) : Nat → Int
  | 0 => -1
  | n + 1 => cif (fstN p n = -1 ∧ p n) (n : Int) (fstN p n)
noncomputable def fst_ (p : Int → Prop) (n : Int) : Int := fstN p n.toNat
theorem fst_spec {p : Int → Prop} {n : Int} (hn : 0 ≤ n) : (fst_ p n = -1 ∧ ∀ j, 0 ≤ j → j < n → ¬ p j) ∨ (0 ≤ fst_ p n ∧ fst_ p n < n ∧ p (fst_ p n) ∧ ∀ j, 0 ≤ j → j < fst_ p n → ¬ p j) := by
  refine cnt_ind (P := fun n => (fst_ p n = -1 ∧ ∀ j, 0 ≤ j → j < n → ¬ p j) ∨ (0 ≤ fst_ p n ∧ fst_ p n < n ∧ p (fst_ p n) ∧ ∀ j, 0 ≤ j → j < fst_ p n → ¬ p j)) n hn (Or.inl ⟨rfl, fun j a b => by omega⟩) (fun k h0 h1 ih => ?_)
  have e : fst_ p (k + 1) = cif (fst_ p k = -1 ∧ p k) k (fst_ p k) := by
    unfold fst_
    rw [Int.toNat_add h0 (by decide)]
    show cif (fstN p k.toNat = -1 ∧ p (k.toNat : Int)) (k.toNat : Int) (fstN p k.toNat) = _
    rw [Int.toNat_of_nonneg h0]
  show (fst_ p (k + 1) = -1 ∧ ∀ j, 0 ≤ j → j < k + 1 → ¬ p j) ∨ _
  rcases ih with ⟨a, b⟩ | ⟨a, b, c, d⟩
  · by_cases q : p k
    · rw [e, cif_t ⟨a, q⟩]
      exact Or.inr ⟨h0, by omega, q, b⟩
    · rw [e, cif_f (fun z => q z.2), a]
      refine Or.inl ⟨rfl, fun j j0 j1 => ?_⟩
      by_cases z : j = k
      · rw [z]
        exact q
      · exact b j j0 (by omega)
  · rw [e, cif_f (fun z => by omega)]
    exact Or.inr ⟨a, by omega, c, d⟩
theorem fst_is {p : Int → Prop} {n k : Int} (h0 : 0 ≤ k) (h1 : k < n) (hp : p k) (h : ∀ j, 0 ≤ j → j < k → ¬ p j) : fst_ p n = k := by
  rcases fst_spec (p := p) (n := n) (by omega) with ⟨a, b⟩ | ⟨a, b, c, d⟩
  · exact absurd hp (b k h0 h1)
  · rcases Int.lt_trichotomy (fst_ p n) k with q | q | q
    · exact absurd c (h _ a q)
    · exact q
    · exact absurd hp (d k h0 q)
theorem fst_no {p : Int → Prop} {n : Int} (hn : 0 ≤ n) (h : ∀ j, 0 ≤ j → j < n → ¬ p j) : fst_ p n = -1 := by
  rcases fst_spec (p := p) (n := n) hn with ⟨a, b⟩ | ⟨a, b, c, d⟩
  · exact a
  · exact absurd c (h _ a b)
noncomputable def towS (T : Tm) (a b : Int) : Int := cif (isField T a ∧ isField T b ∧ a ≠ b ∧ wayS T a b ≠ -1) (fst_ (onway T a b) (T 11 0)) (-1)
def hubN (T : Tm) (f : Int) : Int := sm (fun k => if wayS T f k = -1 then 999 else wayS T f k) (T 11 0)
theorem hub_b {T : Tm} (hI : I1 T) {f k : Int} (f0 : 0 ≤ f) (f1 : f < T 11 0) (h0 : 0 ≤ k) (h1 : k ≤ T 11 0) : 0 ≤ sm (fun k => if wayS T f k = -1 then 999 else wayS T f k) k ∧ sm (fun k => if wayS T f k = -1 then 999 else wayS T f k) k ≤ 120000 := by
  have hn := I_n hI
  have := sm_b (f := fun k => if wayS T f k = -1 then 999 else wayS T f k) 20000 h0 (fun j j0 j1 => by
    have := I_wS hI f j f0 (by omega) j0 (by omega)
    show 0 ≤ (if wayS T f j = -1 then 999 else wayS T f j) ∧ (if wayS T f j = -1 then 999 else wayS T f j) ≤ 20000
    split <;> omega)
  omega
theorem hub_nb {T : Tm} (hI : I1 T) {f : Int} (f0 : 0 ≤ f) (f1 : f < T 11 0) : 0 ≤ hubN T f ∧ hubN T f ≤ 120000 := hub_b hI f0 f1 (by omega) (Int.le_refl _)
/-- the first of the least, of the first f -/
def hubI (T : Tm) (f best least : Int) : Prop := (best = -1 ∧ least = 0 ∧ f = 0) ∨ (0 ≤ best ∧ best < f ∧ least = hubN T best ∧ (∀ j, 0 ≤ j → j < f → hubN T best ≤ hubN T j) ∧ ∀ j, 0 ≤ j → j < best → hubN T best < hubN T j)
def hubR (T : Tm) (best : Int) : Prop := hubI T (T 11 0) best 0 ∨ ∃ l, hubI T (T 11 0) best l
theorem hub_ib {T : Tm} (hI : I1 T) {f best least : Int} (h0 : 0 ≤ f) (h1 : f ≤ T 11 0) (h : hubI T f best least) : -1 ≤ best ∧ best < 6 ∧ 0 ≤ least ∧ least ≤ 120000 := by
  have hn := I_n hI
  rcases h with ⟨a, b, c⟩ | ⟨a, b, c, d, e⟩
  · omega
  · have := hub_nb hI a (by omega)
    omega
theorem hub_0 {T : Tm} : hubI T 0 (-1) 0 := Or.inl ⟨rfl, rfl, rfl⟩
theorem hub_t {T : Tm} {f best least x : Int} (h0 : 0 ≤ f) (h : hubI T f best least) (hx : x = hubN T f) (c : best = -1 ∨ x < least) : hubI T (f + 1) f x := by
  refine Or.inr ⟨h0, by omega, hx, ?_, ?_⟩
  · intro j j0 j1
    rcases h with ⟨a, b, c2⟩ | ⟨a, b, c2, d, e⟩
    · rw [show j = f by omega]
      exact Int.le_refl _
    · by_cases z : j = f
      · rw [z]
        exact Int.le_refl _
      · have := d j j0 (by omega)
        omega
  · intro j j0 j1
    rcases h with ⟨a, b, c2⟩ | ⟨a, b, c2, d, e⟩
    · omega
    · have := d j j0 (by omega)
      omega
theorem hub_f {T : Tm} {f best least x : Int} (h0 : 0 ≤ f) (h : hubI T f best least) (hx : x = hubN T f) (c : best ≠ -1) (c2 : least ≤ x) : hubI T (f + 1) best least := by
  rcases h with ⟨a, b, c2⟩ | ⟨a, b, c3, d, e⟩
  · exact absurd a c
  · refine Or.inr ⟨a, by omega, c3, fun j j0 j1 => ?_, e⟩
    by_cases z : j = f
    · rw [z]
      omega
    · exact d j j0 (by omega)
theorem hub_r {T : Tm} {f best least : Int} (h0 : f ≤ T 11 0) (h1 : T 11 0 ≤ f) (h : hubI T f best least) : hubR T best := by
  rw [show f = T 11 0 by omega] at h
  exact Or.inr ⟨least, h⟩
/-- the hub -/
noncomputable def hubS (T : Tm) : Int := fst_ (fun b => ∀ j, 0 ≤ j → j < T 11 0 → hubN T b ≤ hubN T j) (T 11 0)
theorem hub_u {T : Tm} {best : Int} (h : hubR T best) : hubS T = best := by
  have key : ∀ l, hubI T (T 11 0) best l → hubS T = best := by
    intro l h
    rcases h with ⟨a, b, c⟩ | ⟨a, b, c, d, e⟩
    · rw [a]
      unfold hubS
      rw [c]
      rfl
    · refine fst_is a b d (fun j j0 j1 z => ?_)
      have := z best a b
      have := e j j0 j1
      omega
  rcases h with h | ⟨l, h⟩
  · exact key _ h
  · exact key _ h
