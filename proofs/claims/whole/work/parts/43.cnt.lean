noncomputable def cif {α : Type} (p : Prop) (a b : α) : α := @ite α p (Classical.propDecidable p) a b
theorem cif_t {α : Type} {p : Prop} {a b : α} (h : p) : cif p a b = a := if_pos h
theorem cif_f {α : Type} {p : Prop} {a b : α} (h : ¬ p) : cif p a b = b := if_neg h
/-- how many of 0 .. n-1 -/
noncomputable def cntN (p : Int → Prop) : Nat → Int
  | 0 => 0
  | n + 1 => cntN p n + cif (p n) 1 0
noncomputable def cnt (p : Int → Prop) (n : Int) : Int := cntN p n.toNat
theorem cnt_0 {p : Int → Prop} {n : Int} (h : n ≤ 0) : cnt p n = 0 := by
  unfold cnt
  rw [Int.toNat_of_nonpos h]
  rfl
theorem cnt_s {p : Int → Prop} {n : Int} (h : 0 ≤ n) : cnt p (n + 1) = cnt p n + cif (p n) 1 0 := by
  unfold cnt
  rw [Int.toNat_add h (by decide)]
  show cntN p n.toNat + cif (p (n.toNat : Int)) 1 0 = _
  rw [Int.toNat_of_nonneg h]
theorem cnt_t {p : Int → Prop} {n : Int} (h : 0 ≤ n) (hp : p n) : cnt p (n + 1) = cnt p n + 1 := by rw [cnt_s h, cif_t hp]
theorem cnt_f {p : Int → Prop} {n : Int} (h : 0 ≤ n) (hp : ¬ p n) : cnt p (n + 1) = cnt p n := by rw [cnt_s h, cif_f hp, Int.add_zero]
theorem cnt_ind {P : Int → Prop} (n : Int) (hn : 0 ≤ n) (h0 : P 0) (hs : ∀ k, 0 ≤ k → k < n → P k → P (k + 1)) : P n := by
  have H : ∀ m : Nat, (m : Int) ≤ n → P m := by
    intro m
    induction m with
    | zero => intro _; exact h0
    | succ m ih =>
      intro hm
      have := hs m (by omega) (by omega) (ih (by omega))
      rw [show ((m + 1 : Nat) : Int) = (m : Int) + 1 by omega]
      exact this
  have := H n.toNat (by omega)
  rw [Int.toNat_of_nonneg hn] at this
  exact this
theorem cnt_b {p : Int → Prop} {n : Int} (hn : 0 ≤ n) : 0 ≤ cnt p n ∧ cnt p n ≤ n := by
  refine cnt_ind (P := fun n => 0 ≤ cnt p n ∧ cnt p n ≤ n) n hn ?_ (fun k h0 h1 ih => ?_)
  · show 0 ≤ cnt p 0 ∧ cnt p 0 ≤ 0
    rw [cnt_0 (by decide)]
    omega
  · show 0 ≤ cnt p (k + 1) ∧ cnt p (k + 1) ≤ k + 1
    by_cases c : p k
    · rw [cnt_t h0 c]
      omega
    · rw [cnt_f h0 c]
      omega
theorem cnt_c {p q : Int → Prop} {n : Int} (hn : 0 ≤ n) (h : ∀ k, 0 ≤ k → k < n → (p k ↔ q k)) : cnt p n = cnt q n := by
  have H : ∀ m, 0 ≤ m → m ≤ n → cnt p m = cnt q m := by
    intro m hm
    refine cnt_ind (P := fun m => m ≤ n → cnt p m = cnt q m) m hm (fun _ => ?_) (fun k h0 h1 ih hk => ?_)
    · rw [cnt_0 (by decide), cnt_0 (by decide)]
    · have ih := ih (by omega)
      by_cases c : p k
      · rw [cnt_t h0 c, cnt_t h0 ((h k h0 (by omega)).mp c), ih]
      · rw [cnt_f h0 c, cnt_f h0 (fun z => c ((h k h0 (by omega)).mpr z)), ih]
  exact H n hn (Int.le_refl n)
/-- places beyond which there is none -/
theorem cnt_x {p : Int → Prop} {n m : Int} (hn : 0 ≤ n) (hm : n ≤ m) (h : ∀ k, n ≤ k → k < m → ¬ p k) : cnt p m = cnt p n := by
  have H : ∀ d : Nat, n + d ≤ m → cnt p (n + d) = cnt p n := by
    intro d
    induction d with
    | zero => intro _; rw [show n + ((0 : Nat) : Int) = n by omega]
    | succ d ih =>
      intro hd
      rw [show n + ((d + 1 : Nat) : Int) = (n + d) + 1 by omega, cnt_f (by omega) (h _ (by omega) (by omega)), ih (by omega)]
  have := H (m - n).toNat (by omega)
  rw [show n + (((m - n).toNat : Nat) : Int) = m by omega] at this
  exact this
theorem bt_or {B E : Int32} {k f : Int} (he : E = jI k) (h0 : 0 ≤ k) (h1 : k < 32) (f0 : 0 ≤ f) (f1 : f < 32) : bt (B ||| ((1 : Int32) <<< (E &&& 31))) f ↔ bt B f ∨ f = k := by
  subst he
  rw [j31 h0 h1]
  have e : ((k.toNat : Nat) : Int) = k := Int.toNat_of_nonneg h0
  have key : ((1 : Int32) <<< jI k).toBitVec = BitVec.twoPow 32 k.toNat := by
    have : ∀ n : Fin 32, ((1 : Int32) <<< jI (n.val : Int)).toBitVec = BitVec.twoPow 32 n.val := by decide
    have h := this ⟨k.toNat, by omega⟩
    simp only [e] at h
    exact h
  unfold bt
  rw [Int32.toBitVec_or, key, BitVec.getLsbD_or, BitVec.getLsbD_twoPow, Bool.or_eq_true]
  constructor
  · intro q
    rcases q with q | q
    · exact Or.inl q
    · simp at q
      exact Or.inr (by omega)
  · intro q
    rcases q with q | q
    · exact Or.inl q
    · right
      simp
      omega
theorem bt_and {B D : Int32} {f : Int} : bt (B &&& D) f ↔ bt B f ∧ bt D f := by
  unfold bt
  rw [Int32.toBitVec_and, BitVec.getLsbD_and, Bool.and_eq_true]
theorem bt_ori {B D : Int32} {f : Int} : bt (B ||| D) f ↔ bt B f ∨ bt D f := by
  unfold bt
  rw [Int32.toBitVec_or, BitVec.getLsbD_or, Bool.or_eq_true]
theorem bt_0 {f : Int} : ¬ bt 0 f := by
  unfold bt
  show ¬ ((0#32).getLsbD f.toNat = true)
  simp
theorem bt_1 {E : Int32} {k f : Int} (he : E = jI k) (h0 : 0 ≤ k) (h1 : k < 32) (f0 : 0 ≤ f) (f1 : f < 32) : bt ((1 : Int32) <<< (E &&& 31)) f ↔ f = k := by
  have := bt_or (B := 0) he h0 h1 f0 f1
  rw [show (0 : Int32) ||| ((1 : Int32) <<< (E &&& 31)) = (1 : Int32) <<< (E &&& 31) from Int32.zero_or] at this
  rw [this]
  exact ⟨fun q => q.resolve_left bt_0, Or.inr⟩
theorem bt_not {B : Int32} {f : Int} (f0 : 0 ≤ f) (f1 : f < 32) : bt (B ^^^ (-1)) f ↔ ¬ bt B f := by
  unfold bt
  rw [Int32.toBitVec_xor, BitVec.getLsbD_xor]
  have : ((-1 : Int32).toBitVec).getLsbD f.toNat = true := by
    show (BitVec.allOnes 32).getLsbD f.toNat = true
    rw [BitVec.getLsbD_allOnes]
    simp
    omega
  rw [this]
  simp
theorem bt_ext {B D : Int32} (h : ∀ f, 0 ≤ f → f < 32 → (bt B f ↔ bt D f)) : B = D := by
  rw [← Int32.toBitVec_inj]
  apply BitVec.eq_of_getLsbD_eq
  intro i hi
  have := h i (by omega) (by omega)
  unfold bt at this
  simp only [Int.toNat_natCast] at this
  exact Bool.eq_iff_iff.mpr this
