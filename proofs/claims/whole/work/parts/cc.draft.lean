/-! the class: own words, the draft -/
def wpm (j : Nat) : Nat := if j ≤ 10 then j else if j ≤ 14 then j + 1 else if j = 15 then 11 else j
theorem wcode_e : ∀ j, j < 23 → wcode j = jI (ownL.getD (wpm j) 0) := by decide
theorem wpm_in : ∀ j, j < 23 → ownL.getD (wpm j) 0 ∈ ownL := by decide
theorem wpm_on : ∀ v ∈ ownL, ∃ j, j < 23 ∧ v = ownL.getD (wpm j) 0 := by decide
theorem own_r : ∀ j, j < 23 → 0 < ownL.getD (wpm j) 0 ∧ ownL.getD (wpm j) 0 < 387420489 := by decide
theorem xl_of {U : Um} {c : Int32} {post : Nat → Um → Prop} {K : Um → Prop} (hN : (∀ j, j < 23 → wcode j ≠ c) → K U) (hY : ∀ j, j < 23 → wcode j = c → post j U) : ∀ (fu : Nat) (i : Nat), i ≤ 23 → (∀ j, j < i → wcode j ≠ c) → 23 - i < fu → w_X10_of_L2 c post K fu (jI (i : Int)) U := by
  intro fu
  induction fu with
  | zero => intro i _ _ h; exact absurd h (Nat.not_lt_zero _)
  | succ fu ih =>
    intro i i1 hi hf
    show b_X10_of_L2 c post K (w_X10_of_L2 c post K fu) (jI (i : Int)) U
    unfold b_X10_of_L2
    refine br_le 23 (i : Int) rfl rfl ⟨by decide, by decide⟩ ⟨by omega, by omega⟩ (fun q => hN (fun j hj => hi j (by omega))) (fun q => ?_)
    have v : vp_in (jI (i : Int)) 23 := jvp (i : Int) rfl (by omega) (by omega) (by decide)
    have tn : Int32.toNatClampNeg (jI (i : Int)) = i := by rw [jI_nat (by omega) (by omega)]; rfl
    rw [tn]
    refine ⟨v, fun e => ⟨v, hY i (by omega) e⟩, fun e y hy => ?_⟩
    rw [hy, show jI (i : Int) + 1 = jI ((i + 1 : Nat) : Int) from by rw [show ((i + 1 : Nat) : Int) = (i : Int) + 1 by omega]; exact jadd rfl rfl]
    refine ih (i + 1) (by omega) (fun j hj => ?_) (by omega)
    by_cases z : j = i
    · rw [z]; exact e
    · exact hi j (by omega)
theorem x_ofA {U : Um} {c : Int32} {post : Nat → Um → Prop} (hN : (∀ j, j < 23 → wcode j ≠ c) → post 99 U) (hY : ∀ j, j < 23 → wcode j = c → post j U) : w_X10_of c U post := ⟨24, xl_of hN hY 24 0 (by decide) (fun j hj => absurd hj (Nat.not_lt_zero _)) (by decide)⟩
theorem x_of {U : Um} {T : Tm} (ht : It T) {f : Int} (f0 : 0 ≤ f ∧ f ≤ T 17 0) {c : Int32} (hc : c = jI (cdS T f)) {post : Nat → Um → Prop} (hN : cdS T f ∉ ownL → post 99 U) (hY : ∀ j, j < 23 → cdS T f = ownL.getD (wpm j) 0 → post j U) : w_X10_of c U post := by
  have t := ht.1
  have cb := cd_b ht (f := f) f0.1 (by omega)
  have eq : ∀ j, j < 23 → (wcode j = c ↔ cdS T f = ownL.getD (wpm j) 0) := fun j hj => by
    have r := own_r j hj
    rw [wcode_e j hj, hc, jI_inj ⟨by omega, by omega⟩ ⟨by omega, by omega⟩]
    exact ⟨fun e => e.symm, fun e => e.symm⟩
  refine x_ofA (fun h => hN (fun z => ?_)) (fun j hj e => hY j hj ((eq j hj).mp e))
  obtain ⟨j, hj, e⟩ := wpm_on _ z
  exact h j hj ((eq j hj).mpr e)
/-- the draft -/
def nmD (D : Tm) (s i : Int) : Int := if s = 0 then D 1 (6 + i) else if s = 1 then D 4 (8 + i) else D 5 (10 + i)
def encD (D : Tm) (k : Int) : Int := if D 13 (1300 + k) = 0 then D 12 (1300 + k) else if D 13 (1300 + k) = 1 then -1 - D 12 (1300 + k) else if D 13 (1300 + k) = 43 then -11 else if D 13 (1300 + k) = 45 then -12 else if D 13 (1300 + k) = 42 then -13 else -14
def CDn (U : Um) (D : Tm) (x : Nat) : Prop := (∀ k : Int, 0 ≤ k → k < 3 → uA U x 1 k.toNat = jI (D 11 (7 + k))) ∧ uI U x 7 = jI (D 11 10) ∧ uI U x 8 = jI (D 11 11) ∧ uI U x 9 = jI (D 11 12)
def CDa (U : Um) (D : Tm) (x : Nat) : Prop := ∀ s i : Int, 0 ≤ s → s < 3 → 0 ≤ i → i < D 11 (7 + s) → uA U x (ki 0 s.toNat) i.toNat = jI (nmD D s i)
def CDo (U : Um) (D : Tm) (x : Nat) : Prop := ∀ o : Int, 0 ≤ o → o < D 11 9 → uA U x 2 o.toNat = jI (D 9 (10 + o)) ∧ uA U x 3 o.toNat = jI (D 6 (10 + o)) ∧ uA U x 4 o.toNat = jI (D 7 (10 + o)) ∧ uA U x 5 o.toNat = jI (D 8 (10 + o))
def CDg (U : Um) (D : Tm) (x : Nat) : Prop := ∀ g : Int, 0 ≤ g → g < D 11 10 → ∀ k : Nat, k < 8 → uI U (gO x g) k = jI (gD D g k)
def CDr (U : Um) (D : Tm) (x : Nat) : Prop := ∀ a b : Int, 0 ≤ a → a < 6 → 0 ≤ b → b < 6 → uA U (x + 2) (ki 1 a.toNat) b.toNat = jI (D 2 (36 + 6 * a + b))
def CDl (U : Um) (D : Tm) (x : Nat) : Prop := uI U (x + 4) 1 = jI (D 15 0) ∧ ∀ k : Int, 0 ≤ k → k < D 15 0 → uA U (x + 4) 0 k.toNat = jI (encD D k)
def CD (U : Um) (D : Tm) (x : Nat) : Prop := CDn U D x ∧ CDa U D x ∧ CDo U D x ∧ CDg U D x ∧ CDr U D x ∧ CDl U D x
def CB0 (U : Um) (T : Tm) (x : Nat) : Prop := (x = 4 ∨ x = 5) ∧ uR U 2 0 = 1 ∧ uR U 2 1 = x ∧ PW U x ∧ CTb U T ∧ It T
/-- what reading may change -/
abbrev PX (x o k : Nat) : Prop := (o = 1 ∧ 2 ≤ k) ∨ (o = 2 ∧ (k = 2 ∨ k = 3)) ∨ o = x ∨ o = x + 2 ∨ (o = x + 4 ∧ k ≤ 1) ∨ (10 + 16 * (x - 4) ≤ o ∧ o < 26 + 16 * (x - 4))
/-- what reading the tape alone changes -/
abbrev PXt (o k : Nat) : Prop := (o = 1 ∧ 2 ≤ k) ∨ (o = 2 ∧ (k = 2 ∨ k = 3))
theorem PXt_X {x o k : Nat} (h : PXt o k) : PX x o k := by omega
theorem PV_t {o k : Nat} (h : PV o k) : PXt o k := Or.inl h
theorem CB0_x {P : Nat → Nat → Prop} {U V : Um} {T : Tm} {x : Nat} (hf : fX P U V) (hP : ∀ o k, P o k → ¬ (o = 1 ∧ (k = 0 ∨ k = 1))) (h : CB0 U T x) : CB0 V T x := by
  obtain ⟨a, b, c, d, e, g⟩ := h
  refine ⟨a, by rw [hf.1]; exact b, by rw [hf.1]; exact c, ?_, CTb_f hf hP e, g⟩
  unfold PW at d ⊢
  simp only [hf.1, hf.2.1]
  exact d
theorem gO_c {x : Nat} {g : Int} (hx : x = 4 ∨ x = 5) (g0 : 0 ≤ g) (g1 : g < 16) : 10 + 16 * (x - 4) ≤ gO x g ∧ gO x g < 26 + 16 * (x - 4) := by
  unfold gO
  omega
theorem CD_x {P : Nat → Nat → Prop} {U V : Um} {D : Tm} {x : Nat} (hx : x = 4 ∨ x = 5) (hN : IN D) (hf : fX P U V) (hP : ∀ o k, P o k → PXt o k) (h : CD U D x) : CD V D x := by
  obtain ⟨⟨a1, a2, a3, a4⟩, b, c, d, e, ⟨l1, l2⟩⟩ := h
  have n := hN.1
  have f := fun o (q : 4 ≤ o) k => hf.2.2 o k (fun z => by have := hP o k z; omega)
  refine ⟨⟨fun k k0 k1 => ?_, ?_, ?_, ?_⟩, fun s i s0 s1 i0 i1 => ?_, fun o o0 o1 => ?_, fun g g0 g1 k hk => ?_, fun p q p0 p1 q0 q1 => ?_, ?_, fun k k0 k1 => ?_⟩
  · rw [(f x (by omega) 1).2.2.1]; exact a1 k k0 k1
  · rw [(f x (by omega) 7).1]; exact a2
  · rw [(f x (by omega) 8).1]; exact a3
  · rw [(f x (by omega) 9).1]; exact a4
  · rw [(f x (by omega) _).2.2.1]; exact b s i s0 s1 i0 i1
  · rw [(f x (by omega) 2).2.2.1, (f x (by omega) 3).2.2.1, (f x (by omega) 4).2.2.1, (f x (by omega) 5).2.2.1]; exact c o o0 o1
  · rw [(f (gO x g) (by have := gO_c hx g0 (by omega); omega) k).1]; exact d g g0 g1 k hk
  · rw [(f (x + 2) (by omega) _).2.2.1]; exact e p q p0 p1 q0 q1
  · rw [(f (x + 4) (by omega) 1).1]; exact l1
  · rw [(f (x + 4) (by omega) 0).2.2.1]; exact l2 k k0 k1
/-- reading goes well: the draft D, the piece at f -/
def CQ (U : Um) (T D : Tm) (x : Nat) (f : Int) : Prop := CB0 U T x ∧ CD U D x ∧ PC U T f ∧ (0 ≤ f ∧ f ≤ T 17 0) ∧ uI U 2 2 = jI 0 ∧ uI U 2 3 = jI (-1)
/-- the bounds of the draft -/
def BD (D : Tm) : Prop := IN D ∧ 0 ≤ D 15 0 ∧ D 15 0 ≤ 1200
/-- reading met fault k at p -/
def CF (U : Um) (T : Tm) (x : Nat) (k p : Int) : Prop := CB0 U T x ∧ (∀ s : Int, 0 ≤ s → s < 3 → ∃ c, (0 ≤ c ∧ c ≤ 10) ∧ uA U x 1 s.toNat = jI c) ∧ (∃ c, (0 ≤ c ∧ c ≤ 1200) ∧ uI U (x + 4) 1 = jI c) ∧ uI U 2 2 = jI k ∧ uI U 2 3 = jI p ∧ (1 ≤ k ∧ k ≤ 5) ∧ 0 ≤ p ∧ p ≤ 1200
theorem CF_x {P : Nat → Nat → Prop} {U V : Um} {T : Tm} {x : Nat} {k p : Int} (hf : fX P U V) (hP : ∀ o j, P o j → (o = 1 ∧ 2 ≤ j) ∨ (10 ≤ o ∧ o ≤ 41)) (h : CF U T x k p) : CF V T x k p := by
  obtain ⟨a, b, c, d, e, g⟩ := h
  have hx := a.1
  have f := fun o j (q : ¬ ((o = 1 ∧ 2 ≤ j) ∨ (10 ≤ o ∧ o ≤ 41))) => hf.2.2 o j (fun z => q (hP o j z))
  refine ⟨CB0_x hf (fun o j z => by have := hP o j z; omega) a, ?_, ?_, ?_, ?_, g⟩
  · rw [(f x 1 (by omega)).2.2.1]; exact b
  · rw [(f (x + 4) 1 (by omega)).1]; exact c
  · rw [(f 2 2 (by omega)).1]; exact d
  · rw [(f 2 3 (by omega)).1]; exact e
/-- a failure noted -/
theorem x_failF {U : Um} {T : Tm} {x : Nat} {k p : Int} (h : CF U T x k p) {a1 a2 : Int32} {post : Um → Prop} (hp : post U) : w_X4_fail 2 a1 a2 U post := br_eq k 0 h.2.2.2.1 rfl ⟨by have := h.2.2.2.2.2; omega, by have := h.2.2.2.2.2; omega⟩ ⟨by decide, by decide⟩ (fun q => by have := h.2.2.2.2.2; omega) (fun _ => hp)
theorem x_fail {U : Um} {T D : Tm} {x : Nat} {f : Int} (h : CQ U T D x f) (hb : BD D) {a1 a2 : Int32} {k p : Int} (e1 : a1 = jI k) (e2 : a2 = jI p) (hk : 1 ≤ k ∧ k ≤ 5) (h0 : 0 ≤ p ∧ p ≤ 1200) {post : Um → Prop} (hp : ∀ V : Um, CF V T x k p → fX PXt U V → post V) : w_X4_fail 2 a1 a2 U post := by
  refine br_eq 0 0 h.2.2.2.2.1 rfl ⟨by decide, by decide⟩ ⟨by decide, by decide⟩ (fun _ V1 v1 V v2 => ?_) (fun q => absurd rfl q)
  have fV : fX PXt U V := by rw [v2, v1]; exact fX_trans (fX_sI (Or.inr ⟨rfl, Or.inl rfl⟩)) (fX_sI (Or.inr ⟨rfl, Or.inr rfl⟩))
  have hx := h.1.1
  have n := hb.1.1
  have cd := CD_x hx hb.1 fV (fun o k q => q) h.2.1
  refine hp V ⟨CB0_x fV (fun o k q => by omega) h.1, fun s s0 s1 => ⟨D 11 (7 + s), ?_, cd.1.1 s s0 s1⟩, ⟨D 15 0, hb.2, cd.2.2.2.2.2.1⟩, ?_, ?_, hk, h0⟩ fV
  · rcases (show s = 0 ∨ s = 1 ∨ s = 2 by omega) with rfl | rfl | rfl
    · show 0 ≤ D 11 7 ∧ D 11 7 ≤ 10; omega
    · show 0 ≤ D 11 8 ∧ D 11 8 ≤ 10; omega
    · exact ⟨n.2.2.1.1, n.2.2.1.2⟩
  · rw [v2, uI_sI, if_neg (by decide), v1, uI_sI, if_pos ⟨rfl, rfl⟩, e1]
  · rw [v2, uI_sI, if_pos ⟨rfl, rfl⟩, e2]
/-- the next piece -/
theorem x_next {U : Um} {T D : Tm} {x : Nat} {f : Int} (h : CQ U T D x f) (hb : BD D) {ob : Nat} (eo : ob = 1) {post : Um → Prop} (hp : ∀ V : Um, CQ V T D x (nx T f) → fX PV U V → uI V 1 4 = jI f → post V) : w_X8_advance ob U post := by
  obtain ⟨c, d, p, f0, e2, e3⟩ := h
  have ht := c.2.2.2.2.2
  have t := ht.1
  have te := te_b ht (f := f) f0.1 (by omega)
  have te1 : teS T f ≤ T 17 0 := by
    by_cases z : tkS T f = 0
    · rw [te.2.2.1 z]; exact f0.2
    · exact (te.2.2.2 z).2
  refine x_adv ht c.2.2.2.2.1 p.2.1 (by omega) te1 eo (fun V tV fV v4 pV => ?_)
  have sk := sk_le ht (p := teS T f) (by omega) te1
  have n0 : nx T f = skS T (teS T f) := rfl
  refine hp V ⟨CB0_x fV (fun o k q => by omega) c, CD_x c.1 hb.1 fV (fun o k q => PV_t q) d, pV, by rw [n0]; omega, ?_, ?_⟩ fV (by rw [v4, p.1])
  · rw [(fV.2.2 2 2 (by omega)).1]; exact e2
  · rw [(fV.2.2 2 3 (by omega)).1]; exact e3
