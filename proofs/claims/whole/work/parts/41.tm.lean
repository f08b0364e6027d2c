/-! what the reference keeps: T field place -/
abbrev Tm : Type := Nat → Int → Int
def jF (i : Int) : UInt32 := UInt32.ofNat i.toNat
def up (T : Tm) (k : Nat) (i v : Int) : Tm := fun f j => if f = k ∧ j = i then v else T f j
theorem up_eq {T : Tm} {k : Nat} {i v : Int} : up T k i v k i = v := if_pos ⟨rfl, rfl⟩
theorem up_ne {T : Tm} {k f : Nat} {i j v : Int} (h : ¬ (f = k ∧ j = i)) : up T k i v f j = T f j := if_neg h
theorem up_nf {T : Tm} {k f : Nat} {i j v : Int} (h : f ≠ k) : up T k i v f j = T f j := if_neg (fun q => h q.1)
theorem up_at {T : Tm} {k : Nat} {i j v : Int} : up T k i v k j = if j = i then v else T k j := by
  by_cases h : j = i
  · rw [if_pos h, h, up_eq]
  · rw [if_neg h, up_ne (fun q => h q.2)]
theorem up_id {T : Tm} {k : Nat} {i : Int} {v : Int} (h : T k i = v) : up T k i v = T := by
  funext f j
  unfold up
  by_cases q : f = k ∧ j = i
  · rw [if_pos q, q.1, q.2, h]
  · rw [if_neg q]
theorem up_up {T : Tm} {k : Nat} {i v w : Int} : up (up T k i v) k i w = up T k i w := by
  funext f j
  unfold up
  by_cases q : f = k ∧ j = i
  · rw [if_pos q, if_pos q]
  · rw [if_neg q, if_neg q, if_neg q]
theorem up_comm {T : Tm} {k k2 : Nat} {i i2 v w : Int} (h : ¬ (k = k2 ∧ i = i2)) : up (up T k i v) k2 i2 w = up (up T k2 i2 w) k i v := by
  funext f j
  unfold up
  by_cases q : f = k ∧ j = i
  · rw [if_pos q, if_pos q, if_neg (fun q2 => h ⟨q.1.symm.trans q2.1, q.2.symm.trans q2.2⟩)]
  · rw [if_neg q, if_neg q]
def mA (U : Um) (T : Tm) (k : Nat) (n : Int) : Prop := ∀ i : Int, 0 ≤ i → i < n → uA U 55 k i.toNat = jI (T k i)
def mJ (U : Um) (T : Tm) (k : Nat) (n : Int) : Prop := ∀ i : Int, 0 ≤ i → i < n → uJ U 55 k i.toNat = jL (T k i)
def mF (U : Um) (T : Tm) (k : Nat) (n : Int) : Prop := ∀ i : Int, 0 ≤ i → i < n → uF U 55 k i.toNat = jF (T k i)
def mLA : List (Nat × Int) := [(2, 36), (3, 36), (6, 10), (7, 10), (8, 10), (10, 128), (11, 7), (12, 1300), (13, 1300), (16, 1200), (30, 48), (31, 48), (32, 10), (33, 10), (36, 936), (50, 3), (51, 3), (53, 60)]
def mLJ : List (Nat × Int) := [(1, 6), (4, 8), (5, 10), (52, 60)]
def mLF : List (Nat × Int) := [(34, 10), (37, 80)]
def mLS : List Nat := [14, 17, 18, 19, 35, 38]
def M (U : Um) (T : Tm) : Prop := (∀ q ∈ mLA, mA U T q.1 q.2) ∧ (∀ q ∈ mLJ, mJ U T q.1 q.2) ∧ (∀ q ∈ mLF, mF U T q.1 q.2) ∧ ∀ k ∈ mLS, uI U 55 k = jI (T k 0)
/-- all objects but the reference are the same -/
def fM (U U2 : Um) : Prop := ∀ o, o ≠ 55 → (∀ k, uI U2 o k = uI U o k) ∧ (∀ k, uL U2 o k = uL U o k) ∧ (∀ k, uR U2 o k = uR U o k) ∧ (∀ k, uA U2 o k = uA U o k) ∧ (∀ k, uJ U2 o k = uJ U o k) ∧ (∀ k, uF U2 o k = uF U o k) ∧ ∀ k, uAR U2 o k = uAR U o k
theorem fM_rfl {U : Um} : fM U U := fun _ _ => ⟨fun _ => rfl, fun _ => rfl, fun _ => rfl, fun _ => rfl, fun _ => rfl, fun _ => rfl, fun _ => rfl⟩
theorem fM_trans {U V Wm : Um} (h : fM U V) (h2 : fM V Wm) : fM U Wm := fun o ho => by
  obtain ⟨a1, a2, a3, a4, a5, a6, a7⟩ := h o ho
  obtain ⟨b1, b2, b3, b4, b5, b6, b7⟩ := h2 o ho
  exact ⟨fun k => (b1 k).trans (a1 k), fun k => (b2 k).trans (a2 k), fun k => (b3 k).trans (a3 k), fun k => (b4 k).trans (a4 k), fun k => (b5 k).trans (a5 k), fun k => (b6 k).trans (a6 k), fun k => (b7 k).trans (a7 k)⟩
theorem fM_sA {U : Um} {k : Nat} {f : Nat → Int32} : fM U (sA U 55 k f) := fun o ho => ⟨fun _ => rfl, fun _ => rfl, fun _ => rfl, fun k2 => by rw [uA_sA, if_neg (fun q => ho q.1)], fun _ => rfl, fun _ => rfl, fun _ => rfl⟩
theorem fM_sJ {U : Um} {k : Nat} {f : Nat → Int64} : fM U (sJ U 55 k f) := fun o ho => ⟨fun _ => rfl, fun _ => rfl, fun _ => rfl, fun _ => rfl, fun k2 => by rw [uJ_sJ, if_neg (fun q => ho q.1)], fun _ => rfl, fun _ => rfl⟩
theorem fM_sF {U : Um} {k : Nat} {f : Nat → UInt32} : fM U (sF U 55 k f) := fun o ho => ⟨fun _ => rfl, fun _ => rfl, fun _ => rfl, fun _ => rfl, fun _ => rfl, fun k2 => by rw [uF_sF, if_neg (fun q => ho q.1)], fun _ => rfl⟩
theorem fM_sI {U : Um} {k : Nat} {f : Int32} : fM U (sI U 55 k f) := fun o ho => ⟨fun k2 => by rw [uI_sI, if_neg (fun q => ho q.1)], fun _ => rfl, fun _ => rfl, fun _ => rfl, fun _ => rfl, fun _ => rfl, fun _ => rfl⟩
theorem fM_sL {U : Um} {k : Nat} {f : Int64} : fM U (sL U 55 k f) := fun o ho => ⟨fun _ => rfl, fun k2 => by rw [uL_sL, if_neg (fun q => ho q.1)], fun _ => rfl, fun _ => rfl, fun _ => rfl, fun _ => rfl, fun _ => rfl⟩
theorem rdA {U : Um} {T : Tm} {k : Nat} {n : Int} {E : Int32} (h : mA U T k n) (e : Int) (he : E = jI e) (h0 : 0 ≤ e) (h1 : e < n) (h2 : n ≤ 3000 := by decide) : uA U 55 k (Int32.toNatClampNeg E) = jI (T k e) := by
  rw [he, jI_nat h0 (by omega)]
  exact h e h0 h1
theorem rdJ {U : Um} {T : Tm} {k : Nat} {n : Int} {E : Int32} (h : mJ U T k n) (e : Int) (he : E = jI e) (h0 : 0 ≤ e) (h1 : e < n) (h2 : n ≤ 3000 := by decide) : uJ U 55 k (Int32.toNatClampNeg E) = jL (T k e) := by
  rw [he, jI_nat h0 (by omega)]
  exact h e h0 h1
theorem rdF {U : Um} {T : Tm} {k : Nat} {n : Int} {E : Int32} (h : mF U T k n) (e : Int) (he : E = jI e) (h0 : 0 ≤ e) (h1 : e < n) (h2 : n ≤ 3000 := by decide) : uF U 55 k (Int32.toNatClampNeg E) = jF (T k e) := by
  rw [he, jI_nat h0 (by omega)]
  exact h e h0 h1
theorem M_A {U : Um} {T : Tm} (h : M U T) (k : Nat) (n : Int) (hk : (k, n) ∈ mLA := by decide) : mA U T k n := h.1 (k, n) hk
theorem M_J {U : Um} {T : Tm} (h : M U T) (k : Nat) (n : Int) (hk : (k, n) ∈ mLJ := by decide) : mJ U T k n := h.2.1 (k, n) hk
theorem M_F {U : Um} {T : Tm} (h : M U T) (k : Nat) (n : Int) (hk : (k, n) ∈ mLF := by decide) : mF U T k n := h.2.2.1 (k, n) hk
theorem M_S {U : Um} {T : Tm} (h : M U T) (k : Nat) (hk : k ∈ mLS := by decide) : uI U 55 k = jI (T k 0) := h.2.2.2 k hk
theorem M_sA {U : Um} {T : Tm} (h : M U T) {k : Nat} {E V : Int32} (e v : Int) (he : E = jI e) (hv : V = jI v) (h0 : 0 ≤ e) (h1 : e < 3000) (hJ : ∀ q ∈ mLJ, q.1 ≠ k := by decide) (hF : ∀ q ∈ mLF, q.1 ≠ k := by decide) (hS : ∀ s ∈ mLS, s ≠ k := by decide) : M (sA U 55 k (va_up (uA U 55 k) (Int32.toNatClampNeg E) V)) (up T k e v) := by
  refine ⟨fun q hq i i0 i1 => ?_, fun q hq i i0 i1 => ?_, fun q hq i i0 i1 => ?_, fun s hs => ?_⟩
  · rw [uA_sA]
    by_cases c : q.1 = k
    · rw [if_pos ⟨rfl, c⟩, he, jI_nat h0 (by omega)]
      unfold va_up up
      by_cases c2 : i = e
      · rw [if_pos (by rw [c2]), if_pos ⟨c, c2⟩, hv]
      · rw [if_neg (by omega), if_neg (fun z => c2 z.2), ← c]
        exact h.1 q hq i i0 i1
    · rw [if_neg (fun z => c z.2), up_nf c]
      exact h.1 q hq i i0 i1
  · rw [up_nf (hJ q hq)]
    exact h.2.1 q hq i i0 i1
  · rw [up_nf (hF q hq)]
    exact h.2.2.1 q hq i i0 i1
  · rw [up_nf (hS s hs)]
    exact h.2.2.2 s hs
theorem M_sJ {U : Um} {T : Tm} (h : M U T) {k : Nat} {E : Int32} {V : Int64} (e v : Int) (he : E = jI e) (hv : V = jL v) (h0 : 0 ≤ e) (h1 : e < 3000) (hA : ∀ q ∈ mLA, q.1 ≠ k := by decide) (hF : ∀ q ∈ mLF, q.1 ≠ k := by decide) (hS : ∀ s ∈ mLS, s ≠ k := by decide) : M (sJ U 55 k (va_up (uJ U 55 k) (Int32.toNatClampNeg E) V)) (up T k e v) := by
  refine ⟨fun q hq i i0 i1 => ?_, fun q hq i i0 i1 => ?_, fun q hq i i0 i1 => ?_, fun s hs => ?_⟩
  · rw [up_nf (hA q hq)]
    exact h.1 q hq i i0 i1
  · rw [uJ_sJ]
    by_cases c : q.1 = k
    · rw [if_pos ⟨rfl, c⟩, he, jI_nat h0 (by omega)]
      unfold va_up up
      by_cases c2 : i = e
      · rw [if_pos (by rw [c2]), if_pos ⟨c, c2⟩, hv]
      · rw [if_neg (by omega), if_neg (fun z => c2 z.2), ← c]
        exact h.2.1 q hq i i0 i1
    · rw [if_neg (fun z => c z.2), up_nf c]
      exact h.2.1 q hq i i0 i1
  · rw [up_nf (hF q hq)]
    exact h.2.2.1 q hq i i0 i1
  · rw [up_nf (hS s hs)]
    exact h.2.2.2 s hs
theorem M_sF {U : Um} {T : Tm} (h : M U T) {k : Nat} {E : Int32} {V : UInt32} (e v : Int) (he : E = jI e) (hv : V = jF v) (h0 : 0 ≤ e) (h1 : e < 3000) (hA : ∀ q ∈ mLA, q.1 ≠ k := by decide) (hJ : ∀ q ∈ mLJ, q.1 ≠ k := by decide) (hS : ∀ s ∈ mLS, s ≠ k := by decide) : M (sF U 55 k (va_up (uF U 55 k) (Int32.toNatClampNeg E) V)) (up T k e v) := by
  refine ⟨fun q hq i i0 i1 => ?_, fun q hq i i0 i1 => ?_, fun q hq i i0 i1 => ?_, fun s hs => ?_⟩
  · rw [up_nf (hA q hq)]
    exact h.1 q hq i i0 i1
  · rw [up_nf (hJ q hq)]
    exact h.2.1 q hq i i0 i1
  · rw [uF_sF]
    by_cases c : q.1 = k
    · rw [if_pos ⟨rfl, c⟩, he, jI_nat h0 (by omega)]
      unfold va_up up
      by_cases c2 : i = e
      · rw [if_pos (by rw [c2]), if_pos ⟨c, c2⟩, hv]
      · rw [if_neg (by omega), if_neg (fun z => c2 z.2), ← c]
        exact h.2.2.1 q hq i i0 i1
    · rw [if_neg (fun z => c z.2), up_nf c]
      exact h.2.2.1 q hq i i0 i1
  · rw [up_nf (hS s hs)]
    exact h.2.2.2 s hs
theorem M_sI {U : Um} {T : Tm} (h : M U T) {k : Nat} {V : Int32} (v : Int) (hv : V = jI v) (hA : ∀ q ∈ mLA, q.1 ≠ k := by decide) (hJ : ∀ q ∈ mLJ, q.1 ≠ k := by decide) (hF : ∀ q ∈ mLF, q.1 ≠ k := by decide) : M (sI U 55 k V) (up T k 0 v) := by
  refine ⟨fun q hq i i0 i1 => ?_, fun q hq i i0 i1 => ?_, fun q hq i i0 i1 => ?_, fun s hs => ?_⟩
  · rw [up_nf (hA q hq)]
    exact h.1 q hq i i0 i1
  · rw [up_nf (hJ q hq)]
    exact h.2.1 q hq i i0 i1
  · rw [up_nf (hF q hq)]
    exact h.2.2.1 q hq i i0 i1
  · rw [uI_sI]
    by_cases c : s = k
    · rw [if_pos ⟨rfl, c⟩, c, up_eq, hv]
    · rw [if_neg (fun z => c z.2), up_nf c]
      exact h.2.2.2 s hs
/-- scratch -/
theorem M_xA {U : Um} {T : Tm} (h : M U T) {k : Nat} {f : Nat → Int32} (hA : ∀ q ∈ mLA, q.1 ≠ k := by decide) : M (sA U 55 k f) T := ⟨fun q hq i i0 i1 => by rw [uA_sA, if_neg (fun z => hA q hq z.2)]; exact h.1 q hq i i0 i1, h.2.1, h.2.2.1, h.2.2.2⟩
theorem M_xJ {U : Um} {T : Tm} (h : M U T) {k : Nat} {f : Nat → Int64} (hJ : ∀ q ∈ mLJ, q.1 ≠ k := by decide) : M (sJ U 55 k f) T := ⟨h.1, fun q hq i i0 i1 => by rw [uJ_sJ, if_neg (fun z => hJ q hq z.2)]; exact h.2.1 q hq i i0 i1, h.2.2.1, h.2.2.2⟩
theorem M_xI {U : Um} {T : Tm} (h : M U T) {k : Nat} {f : Int32} (hS : ∀ s ∈ mLS, s ≠ k := by decide) : M (sI U 55 k f) T := ⟨h.1, h.2.1, h.2.2.1, fun s hs => by rw [uI_sI, if_neg (fun z => hS s hs z.2)]; exact h.2.2.2 s hs⟩
theorem M_xL {U : Um} {T : Tm} (h : M U T) {k : Nat} {f : Int64} : M (sL U 55 k f) T := h
/-- numbers, from their parts -/
theorem jadd {a b : Int32} {x y : Int} (ha : a = jI x) (hb : b = jI y) : a + b = jI (x + y) := by rw [ha, hb, jI_add]
theorem jsub {a b : Int32} {x y : Int} (ha : a = jI x) (hb : b = jI y) : a - b = jI (x - y) := by rw [ha, hb, jI_sub]
theorem jmul {a b : Int32} {x y : Int} (ha : a = jI x) (hb : b = jI y) : a * b = jI (x * y) := by rw [ha, hb, jI_mul]
theorem jneg {a : Int32} {x : Int} (ha : a = jI x) : -a = jI (-x) := by rw [ha, jI_neg]
theorem jlong {a : Int32} {x : Int} (ha : a = jI x) (h : r32 x) : Int32.toInt64 a = jL x := by rw [ha, jI_L h]
theorem jLadd {a b : Int64} {x y : Int} (ha : a = jL x) (hb : b = jL y) : a + b = jL (x + y) := by rw [ha, hb, jL_add]
theorem jLsub {a b : Int64} {x y : Int} (ha : a = jL x) (hb : b = jL y) : a - b = jL (x - y) := by rw [ha, hb, jL_sub]
theorem jLmul {a b : Int64} {x y : Int} (ha : a = jL x) (hb : b = jL y) : a * b = jL (x * y) := by rw [ha, hb, jL_mul]
theorem jdiv {a b : Int32} {x y : Int} (ha : a = jI x) (hb : b = jI y) (rx : r32 x) (ry : r32 y) (x0 : 0 ≤ x) (y0 : 0 < y) : a / b = jI (x / y) := by
  obtain ⟨rx1, rx2⟩ := rx
  have e1 : x / y ≤ x := Int.ediv_le_self _ x0
  have e2 : 0 ≤ x / y := Int.ediv_nonneg x0 (by omega)
  rw [← Int32.toInt_inj, Int32.toInt_div, ha, hb, jI_toInt ⟨rx1, rx2⟩, jI_toInt ry, jI_toInt ⟨by omega, by omega⟩, Int.tdiv_eq_ediv_of_nonneg x0]
  exact Int.bmod_eq_of_le (by omega) (by omega)
theorem jvp {E : Int32} {n : Nat} (e : Int) (he : E = jI e) (h0 : 0 ≤ e) (h1 : e < n) (h2 : n ≤ 100000) : vp_in E n := by rw [he]; exact vp_jI h0 h1 h2
theorem al_ifr {P : Int32 → Prop} {a b : Int32} (x y : Int) (hx : a = jI x) (hy : b = jI y) (rx : r32 x) (ry : r32 y) (h1 : x = y → P 0) (h2 : x ≠ y → P 1) : ∀ z : Int32, z = (if a = b then 0 else 1) → P z := by
  intro z hz
  subst hx; subst hy
  rw [hz]
  by_cases c : x = y
  · rw [if_pos (by rw [c])]
    exact h1 c
  · rw [if_neg (fun q => c ((jI_inj rx ry).mp q))]
    exact h2 c
theorem jne {x : Int} {b : Int32} (y : Int) (h : ¬ jI x = b) (e : b = jI y) : x ≠ y := fun c => h (by rw [c, e])
theorem jeq {x : Int} {b : Int32} (y : Int) (h : jI x = b) (e : b = jI y) (rx : r32 x) (ry : r32 y) : x = y := (jI_inj rx ry).mp (h.trans e)
theorem al_ifg {P : Int32 → Prop} {a b A B : Int32} (x y : Int) (hx : a = jI x) (hy : b = jI y) (rx : r32 x) (ry : r32 y) (u v : Int) (hu : A = jI u) (hv : B = jI v) (h1 : x = y → P (jI u)) (h2 : x ≠ y → P (jI v)) : ∀ z : Int32, z = (if a = b then A else B) → P z := by
  intro z hz
  subst hx; subst hy; subst hu; subst hv
  rw [hz]
  by_cases c : x = y
  · rw [if_pos (by rw [c])]
    exact h1 c
  · rw [if_neg (fun q => c ((jI_inj rx ry).mp q))]
    exact h2 c
