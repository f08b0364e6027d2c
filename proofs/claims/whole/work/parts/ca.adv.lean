/-! the class: pieces of the tape -/
theorem by_and {b : Int32} : (b &&& 255).toBitVec.toNat = b.toBitVec.toNat % 256 := by
  rw [Int32.toBitVec_and, BitVec.toNat_and]
  exact Nat.and_two_pow_sub_one_eq_mod b.toBitVec.toNat 8
theorem by_sg {b : Int32} {v : Int} (h : b &&& 255 = jI v) (v0 : 0 ≤ v) (v1 : v ≤ 255) (b0 : -128 ≤ b.toInt) (b1 : b.toInt ≤ 127) : b = jI (if v < 128 then v else v - 256) := by
  have a := by_and (b := b)
  rw [h] at a
  have c : ((jI v).toBitVec.toNat : Int) = v := by
    have d : (jI v).toInt = v := jI_toInt ⟨by omega, by omega⟩
    have e : (jI v).toInt = (jI v).toBitVec.toInt := rfl
    rw [e, BitVec.toInt_eq_toNat_cond] at d
    split at d <;> omega
  have f : b.toInt = b.toBitVec.toInt := rfl
  rw [BitVec.toInt_eq_toNat_cond] at f
  rw [← jI_of b]
  congr 1
  split at f <;> split <;> omega
/-- the byte at hand, with its sign -/
def sbS (T : Tm) (i : Int) : Int := if T 16 i < 128 then T 16 i else T 16 i - 256
theorem sby_b {T : Tm} (ht : It T) {i : Int} (i0 : 0 ≤ i) (i1 : i < T 17 0) : (-128 ≤ sbS T i ∧ sbS T i ≤ 127) ∧ ((0 ≤ sbS T i ∧ seeS T i = sbS T i) ∨ (sbS T i < 0 ∧ 128 ≤ seeS T i)) := by
  have := ht.2 i i0 (by have := ht.1; omega)
  unfold sbS seeS
  rw [if_pos i1]
  split <;> omega
theorem c_by {U : Um} {T : Tm} (hT : CTb U T) (ht : It T) {E : Int32} (i : Int) (he : E = jI i) (i0 : 0 ≤ i) (i1 : i < T 17 0) : uA U 1 0 (Int32.toNatClampNeg E) = jI (sbS T i) := by
  have t := ht.1
  rw [he, jI_nat i0 (by omega)]
  have b := ht.2 i i0 (by omega)
  obtain ⟨a1, a2, a3⟩ := hT.2 i i0 i1
  exact by_sg a1 b.1 b.2 a2 a3
theorem see_end {T : Tm} {i : Int} (h : T 17 0 ≤ i) : seeS T i = -1 := if_neg (by omega)
theorem nbl {T : Tm} {i : Int} (h : T 17 0 ≤ i) : ¬ isBl T i := fun q => by
  have q : seeS T i = 32 ∨ seeS T i = 10 := q
  rw [see_end h] at q
  omega
abbrev PV (o k : Nat) : Prop := o = 1 ∧ 2 ≤ k
theorem CTb_f {P : Nat → Nat → Prop} {U V : Um} {T : Tm} (hf : fX P U V) (hP : ∀ o k, P o k → ¬ (o = 1 ∧ (k = 0 ∨ k = 1))) (h : CTb U T) : CTb V T := CTb_x (hf.2.2 1 0 (fun z => hP _ _ z ⟨rfl, Or.inl rfl⟩)).2.2.1 (hf.2.2 1 1 (fun z => hP _ _ z ⟨rfl, Or.inr rfl⟩)).1 rfl rfl h
theorem sk_le {T : Tm} (ht : It T) {p : Int} (p0 : 0 ≤ p) (p1 : p ≤ T 17 0) : p ≤ skS T p ∧ skS T p ≤ T 17 0 := by
  have H : ∀ (m : Nat) (p : Int), 0 ≤ p → p ≤ T 17 0 → (T 17 0 - p).toNat = m → p ≤ skS T p ∧ skS T p ≤ T 17 0 := by
    intro m
    induction m with
    | zero =>
      intro p p0 p1 e
      rw [sk_e (nbl (by omega))]
      omega
    | succ m ih =>
      intro p p0 p1 e
      by_cases c : isBl T p
      · rw [sk_s ht p0 c]
        have := ih (p + 1) (by omega) (by omega) (by omega)
        omega
      · rw [sk_e c]
        omega
  exact H _ p p0 p1 rfl
theorem xl_adv16 {T : Tm} (ht : It T) {U0 : Um} {p0 : Int} {post K : Um → Prop} (hK : ∀ V : Um, CTb V T → fX PV U0 V → (∀ k, k ≠ 2 → uI V 1 k = uI U0 1 k) → uI V 1 2 = jI (skS T p0) → K V) : ∀ (fu : Nat) (p : Int) (U : Um), CTb U T → fX PV U0 U → (∀ k, k ≠ 2 → uI U 1 k = uI U0 1 k) → uI U 1 2 = jI p → skS T p = skS T p0 → 0 ≤ p → p ≤ T 17 0 → (T 17 0 - p).toNat < fu → w_X8_advance_L16 1 post K fu U := by
  intro fu
  have t := ht.1
  induction fu with
  | zero => intro p U _ _ _ _ _ _ _ h; exact absurd h (Nat.not_lt_zero _)
  | succ fu ih =>
    intro p U hT hF hk h2 he p0 p1 hf
    show b_X8_advance_L16 1 post K (w_X8_advance_L16 1 post K fu) U
    unfold b_X8_advance_L16
    have out : ¬ isBl T p → K U := fun c => hK U hT hF hk (by rw [h2, ← he, sk_e c])
    refine br_le (T 17 0) p hT.1 h2 ⟨by omega, by omega⟩ ⟨by omega, by omega⟩ (fun c => out (nbl c)) (fun c => ?_)
    have vp : vp_in (uI U 1 2) 1200 := jvp p h2 p0 (by omega) (by decide)
    have rd := c_by hT ht p h2 p0 c
    have sb := sby_b ht p0 c
    have go : isBl T p → ∀ V : Um, V = sI U 1 2 (uI U 1 2 + 1) → w_X8_advance_L16 1 post K fu V := fun b V eV => by
      have fV : fX PV U V := by rw [eV]; exact fX_sI ⟨rfl, by decide⟩
      refine ih (p + 1) V (CTb_f fV (fun o k q => by omega) hT) (fX_trans hF fV) (fun k hk2 => by rw [eV, uI_sI, if_neg (fun z => hk2 z.2)]; exact hk k hk2) ?_ (by rw [← he, sk_s ht p0 b]) (by omega) (by omega) (by omega)
      rw [eV, uI_sI, if_pos ⟨rfl, rfl⟩, h2]
      exact jadd rfl rfl
    refine ⟨vp, br_eq (sbS T p) 32 rd rfl ⟨by omega, by omega⟩ ⟨by decide, by decide⟩ (fun c2 => go (Or.inl (by omega))) (fun c2 => ⟨vp, br_eq (sbS T p) 10 rd rfl ⟨by omega, by omega⟩ ⟨by decide, by decide⟩ (fun c3 => go (Or.inr (by omega))) (fun c3 => out (fun q => by have q : seeS T p = 32 ∨ seeS T p = 10 := q; omega))⟩)⟩
abbrev isLt (T : Tm) (p : Int) : Prop := inR T 97 122 p
abbrev isDg (T : Tm) (p : Int) : Prop := inR T 48 57 p
theorem nin {T : Tm} {lo hi i : Int} (l0 : 0 ≤ lo) (h : T 17 0 ≤ i) : ¬ inR T lo hi i := fun q => by
  have q : lo ≤ seeS T i ∧ seeS T i ≤ hi := q
  rw [see_end h] at q
  omega
/-- letters from f on -/
theorem xl_adv78 {T : Tm} (ht : It T) {f : Int} (f0 : 0 ≤ f) {U0 : Um} {post : Um → Prop} {K : Int32 → Um → Prop} (hK : ∀ (V : Um) (e : Int) (x : Int32), CTb V T → fX PV U0 V → (∀ k, k ≠ 3 → uI V 1 k = uI U0 1 k) → uI V 1 3 = jI e → f ≤ e → e ≤ T 17 0 → spS T 97 122 f = e → (e - f ≤ 6 → x = jI (wcN T f (e - f).toNat)) → K x V) : ∀ (fu : Nat) (n : Nat) (x : Int32) (U : Um), CTb U T → fX PV U0 U → (∀ k, k ≠ 3 → uI U 1 k = uI U0 1 k) → uI U 1 3 = jI (f + n) → spS T 97 122 (f + n) = spS T 97 122 f → f + n ≤ T 17 0 → (n ≤ 6 → x = jI (wcN T f n)) → (T 17 0 - (f + n)).toNat < fu → w_X8_advance_L78 1 post K fu x U := by
  intro fu
  have t := ht.1
  induction fu with
  | zero => intro n x U _ _ _ _ _ _ _ h; exact absurd h (Nat.not_lt_zero _)
  | succ fu ih =>
    intro n x U hT hF hk h3 he p1 hx hf
    show b_X8_advance_L78 1 post K (w_X8_advance_L78 1 post K fu) x U
    unfold b_X8_advance_L78
    have out : ¬ isLt T (f + n) → K x U := fun c => hK U (f + n) x hT hF hk h3 (by omega) p1 (by rw [← he, sp_e c]) (fun q => by rw [show (f + (n : Int) - f).toNat = n by omega]; exact hx (by omega))
    refine br_le (T 17 0) (f + n) hT.1 h3 ⟨by omega, by omega⟩ ⟨by omega, by omega⟩ (fun c => out (nin (by decide) c)) (fun c => ?_)
    have vp : vp_in (uI U 1 3) 1200 := jvp (f + n) h3 (by omega) (by omega) (by decide)
    have rd := c_by hT ht (f + n) h3 (by omega) c
    have sb := sby_b ht (i := f + n) (by omega) c
    refine ⟨vp, br_lt (sbS T (f + n)) 97 rd rfl ⟨by omega, by omega⟩ ⟨by decide, by decide⟩ (fun c2 => out (fun q => by have q : 97 ≤ seeS T (f + n) ∧ seeS T (f + n) ≤ 122 := q; omega)) (fun c2 => ⟨vp, br_lt 122 (sbS T (f + n)) rfl rd ⟨by decide, by decide⟩ ⟨by omega, by omega⟩ (fun c3 => out (fun q => by have q : 97 ≤ seeS T (f + n) ∧ seeS T (f + n) ≤ 122 := q; omega)) (fun c3 => ⟨vp, fun x1 hx1 V eV => ?_⟩)⟩)⟩
    have isl : isLt T (f + n) := (show 97 ≤ seeS T (f + n) ∧ seeS T (f + n) ≤ 122 from by omega)
    have fV : fX PV U V := by rw [eV]; exact fX_sI ⟨rfl, by decide⟩
    refine ih (n + 1) x1 V (CTb_f fV (fun o k q => by omega) hT) (fX_trans hF fV) (fun k hk2 => by rw [eV, uI_sI, if_neg (fun z => hk2 z.2)]; exact hk k hk2) ?_ ?_ (by omega) (fun q => ?_) (by omega)
    · rw [eV, uI_sI, if_pos ⟨rfl, rfl⟩, h3, show f + ((n + 1 : Nat) : Int) = f + n + 1 by omega]
      exact jadd rfl rfl
    · rw [← he, sp_s ht (by decide) (by omega) isl, show f + ((n + 1 : Nat) : Int) = f + n + 1 by omega]
    · rw [hx1, hx (by omega), rd]
      have e : wcN T f (n + 1) = 27 * wcN T f n + seeS T (f + n) - 96 := if_pos (by omega)
      rw [e, show 27 * wcN T f n + seeS T (f + n) - 96 = wcN T f n * 27 + sbS T (f + n) - 97 + 1 by omega]
      exact jadd (jsub (jadd (jmul rfl rfl) rfl) rfl) rfl
theorem xl_adv181 {T : Tm} (ht : It T) {f : Int} (f0 : 0 ≤ f) {U0 : Um} {post : Um → Prop} {K : Int32 → Um → Prop} (hK : ∀ (V : Um) (e : Int) (x : Int32), CTb V T → fX PV U0 V → (∀ k, k ≠ 3 → uI V 1 k = uI U0 1 k) → uI V 1 3 = jI e → f ≤ e → e ≤ T 17 0 → spS T 48 57 f = e → (e - f ≤ 4 → x = jI (nmN T f (e - f).toNat)) → K x V) : ∀ (fu : Nat) (n : Nat) (x : Int32) (U : Um), CTb U T → fX PV U0 U → (∀ k, k ≠ 3 → uI U 1 k = uI U0 1 k) → uI U 1 3 = jI (f + n) → spS T 48 57 (f + n) = spS T 48 57 f → f + n ≤ T 17 0 → (n ≤ 4 → x = jI (nmN T f n)) → (T 17 0 - (f + n)).toNat < fu → w_X8_advance_L181 1 0 post K fu x U := by
  intro fu
  have t := ht.1
  induction fu with
  | zero => intro n x U _ _ _ _ _ _ _ h; exact absurd h (Nat.not_lt_zero _)
  | succ fu ih =>
    intro n x U hT hF hk h3 he p1 hx hf
    show b_X8_advance_L181 1 0 post K (w_X8_advance_L181 1 0 post K fu) x U
    unfold b_X8_advance_L181
    have out : ¬ isDg T (f + n) → K x U := fun c => hK U (f + n) x hT hF hk h3 (by omega) p1 (by rw [← he, sp_e c]) (fun q => by rw [show (f + (n : Int) - f).toNat = n by omega]; exact hx (by omega))
    refine br_0 (br_le (T 17 0) (f + n) hT.1 h3 ⟨by omega, by omega⟩ ⟨by omega, by omega⟩ (fun c => out (nin (by decide) c)) (fun c => ?_))
    have vp : vp_in (uI U 1 3) 1200 := jvp (f + n) h3 (by omega) (by omega) (by decide)
    have rd := c_by hT ht (f + n) h3 (by omega) c
    have sb := sby_b ht (i := f + n) (by omega) c
    refine ⟨vp, br_lt (sbS T (f + n)) 48 rd rfl ⟨by omega, by omega⟩ ⟨by decide, by decide⟩ (fun c2 => out (fun q => by have q : 48 ≤ seeS T (f + n) ∧ seeS T (f + n) ≤ 57 := q; omega)) (fun c2 => ⟨vp, br_lt 57 (sbS T (f + n)) rfl rd ⟨by decide, by decide⟩ ⟨by omega, by omega⟩ (fun c3 => out (fun q => by have q : 48 ≤ seeS T (f + n) ∧ seeS T (f + n) ≤ 57 := q; omega)) (fun c3 => ⟨vp, fun x1 hx1 V eV => ?_⟩)⟩)⟩
    have isl : isDg T (f + n) := (show 48 ≤ seeS T (f + n) ∧ seeS T (f + n) ≤ 57 from by omega)
    have fV : fX PV U V := by rw [eV]; exact fX_sI ⟨rfl, by decide⟩
    refine ih (n + 1) x1 V (CTb_f fV (fun o k q => by omega) hT) (fX_trans hF fV) (fun k hk2 => by rw [eV, uI_sI, if_neg (fun z => hk2 z.2)]; exact hk k hk2) ?_ ?_ (by omega) (fun q => ?_) (by omega)
    · rw [eV, uI_sI, if_pos ⟨rfl, rfl⟩, h3, show f + ((n + 1 : Nat) : Int) = f + n + 1 by omega]
      exact jadd rfl rfl
    · rw [← he, sp_s ht (by decide) (by omega) isl, show f + ((n + 1 : Nat) : Int) = f + n + 1 by omega]
    · rw [hx1, hx (by omega), rd]
      have e : nmN T f (n + 1) = 10 * nmN T f n + seeS T (f + n) - 48 := if_pos (by omega)
      rw [e, show 10 * nmN T f n + seeS T (f + n) - 48 = nmN T f n * 10 + sbS T (f + n) - 48 by omega]
      exact jsub (jadd (jmul rfl rfl) rfl) rfl
