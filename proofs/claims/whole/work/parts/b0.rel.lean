/-! the class: what its memory holds of T -/
def gO (w : Nat) (g : Int) : Nat := 10 + 16 * (w - 4) + g.toNat
def PW (U : Um) (w : Nat) : Prop := uR U w 10 = w + 2 ∧ uR U w 11 = w + 4 ∧ ∀ i, i < 16 → uAR U w 6 i = 10 + 16 * (w - 4) + i
def PT (U : Um) (w : Nat) : Prop := (w = 4 ∨ w = 5) ∧ (uR U 0 0 = 1 ∧ uR U 0 1 = 2 ∧ uR U 0 2 = w ∧ uR U 0 3 = 9 - w ∧ uR U 0 4 = 42 ∧ uR U 0 5 = 43 ∧ uR U 0 6 = 3) ∧ (∀ i, i < 8 → uAR U 0 7 i = 44 + i) ∧ (∀ i, i < 3 → uAR U 0 10 i = 52 + i) ∧ uR U 2 0 = 1 ∧ uR U 3 0 = 42 ∧ uR U 42 0 = w ∧ PW U 4 ∧ PW U 5
def nmS (T : Tm) (s i : Int) : Int := if s = 0 then T 1 i else if s = 1 then T 4 i else T 5 i
abbrev clashP (T : Tm) (g h : Int) : Prop := isGame T h ∧ (h ≠ g ∧ gm T h 3 = gm T g 3) ∧ atOnce T g h
abbrev tightP (T : Tm) (g h : Int) : Prop := isGame T h ∧ (h ≠ g ∧ gm T h 3 = gm T g 3) ∧ nearS T g h
def encS (T : Tm) (k : Int) : Int := if T 13 k = 0 then T 12 k else if T 13 k = 1 then -1 - T 12 k else if T 13 k = 43 then -11 else if T 13 k = 45 then -12 else if T 13 k = 42 then -13 else -14
def CWn (U : Um) (T : Tm) (w : Nat) : Prop := (∀ k : Int, 0 ≤ k → k < 3 → uA U w 1 k.toNat = jI (T 11 k)) ∧ uI U w 7 = jI (T 11 3) ∧ uI U w 8 = jI (T 11 4) ∧ uI U w 9 = jI (T 11 5)
def CWa (U : Um) (T : Tm) (w : Nat) : Prop := ∀ s i : Int, 0 ≤ s → s < 3 → 0 ≤ i → i < T 11 s → uA U w (ki 0 s.toNat) i.toNat = jI (nmS T s i)
def CWo (U : Um) (T : Tm) (w : Nat) : Prop := ∀ o : Int, isOne T o → uA U w 3 o.toNat = jI (T 6 o) ∧ uA U w 4 o.toNat = jI (T 7 o) ∧ uA U w 5 o.toNat = jI (T 8 o)
def CWg (U : Um) (T : Tm) (w : Nat) : Prop := ∀ g : Int, isGame T g → (∀ k : Nat, k < 8 → uI U (gO w g) k = jI (gm T g k)) ∧ ∀ h : Int, 0 ≤ h → h < 32 → (bt (uI U (gO w g) 8) h ↔ clashP T g h) ∧ (bt (uI U (gO w g) 9) h ↔ tightP T g h)
def CWr (U : Um) (T : Tm) (w : Nat) : Prop := uI U (w + 2) 0 = jI (T 11 0) ∧ ∀ a b : Int, isField T a → isField T b → uA U (w + 2) (ki 1 a.toNat) b.toNat = jI (T 2 (6 * a + b)) ∧ uA U (w + 2) (ki 2 a.toNat) b.toNat = jI (wayS T a b)
def CWl (U : Um) (T : Tm) (w : Nat) : Prop := uI U (w + 4) 1 = jI (T 14 0) ∧ ∀ k : Int, 0 ≤ k → k < T 14 0 → uA U (w + 4) 0 k.toNat = jI (encS T k)
noncomputable def ordS (T : Tm) : List Int := dayI T (fun _ => True) (T 11 3)
def CWd (U : Um) (T : Tm) (w : Nat) : Prop := (∀ i : Int, 0 ≤ i → i < T 11 3 → uA U w 12 i.toNat = jI (nth (ordS T) i)) ∧ (∀ d : Int, 0 ≤ d → d < 7 → ∀ h : Int, 0 ≤ h → h < 32 → (bt (uA U w 13 d.toNat) h ↔ isGame T h ∧ gm T h 3 = d)) ∧ ∀ f : Int, 0 ≤ f → f < 6 → ∀ h : Int, 0 ≤ h → h < 32 → (bt (uA U w 14 f.toNat) h ↔ isGame T h ∧ gm T h 2 = f)
def CW (U : Um) (T : Tm) (w : Nat) : Prop := CWn U T w ∧ CWa U T w ∧ CWo U T w ∧ CWg U T w ∧ CWr U T w ∧ CWl U T w ∧ CWd U T w
abbrev sitS (T : Tm) (wh : Int → Int) (o h : Int) : Prop := isGame T h ∧ ∃ s, 0 ≤ s ∧ s < gm T h 7 ∧ wh (3 * h + s) = o
def CRo (U : Um) (r : Nat) (T : Tm) (td : Int) (wh gi gr mk fo : Int → Int) : Prop := uI U r 1 = jI td ∧ (∀ k : Int, 0 ≤ k → k < 48 → uA U r 2 k.toNat = jI (wh k) ∧ uA U r 3 k.toNat = jI (gi k)) ∧ ∀ o : Int, isOne T o → (uA U r 4 o.toNat = jI (gr o) ∧ uF U r 5 o.toNat = jF (fo o) ∧ uA U r 6 o.toNat = jI (mk o)) ∧ ∀ h : Int, 0 ≤ h → h < 32 → (bt (uA U r 7 o.toNat) h ↔ sitS T wh o h)
def CR (U : Um) (T : Tm) : Prop := CRo U 42 T (T 35 0) (T 30) (T 31) (T 32) (T 33) (T 34)
def CC (U : Um) (T : Tm) (w : Nat) : Prop := PT U w ∧ CW U T w ∧ CR U T
/-- all but P is the same -/
def fX (P : Nat → Nat → Prop) (U V : Um) : Prop := (∀ o k, uR V o k = uR U o k) ∧ (∀ o k, uAR V o k = uAR U o k) ∧ ∀ o k, ¬ P o k → uI V o k = uI U o k ∧ uL V o k = uL U o k ∧ uA V o k = uA U o k ∧ uJ V o k = uJ U o k ∧ uF V o k = uF U o k
theorem fX_rfl {P : Nat → Nat → Prop} {U : Um} : fX P U U := ⟨fun _ _ => rfl, fun _ _ => rfl, fun _ _ _ => ⟨rfl, rfl, rfl, rfl, rfl⟩⟩
theorem fX_trans {P : Nat → Nat → Prop} {U V Z : Um} (h : fX P U V) (h2 : fX P V Z) : fX P U Z := ⟨fun o k => (h2.1 o k).trans (h.1 o k), fun o k => (h2.2.1 o k).trans (h.2.1 o k), fun o k q => by
  obtain ⟨a1, a2, a3, a4, a5⟩ := h.2.2 o k q
  obtain ⟨b1, b2, b3, b4, b5⟩ := h2.2.2 o k q
  exact ⟨b1.trans a1, b2.trans a2, b3.trans a3, b4.trans a4, b5.trans a5⟩⟩
theorem fX_w {P Q : Nat → Nat → Prop} {U V : Um} (hP : ∀ o k, P o k → Q o k) (h : fX P U V) : fX Q U V := ⟨h.1, h.2.1, fun o k q => h.2.2 o k (fun z => q (hP o k z))⟩
theorem fX_sA {P : Nat → Nat → Prop} {U : Um} {o k : Nat} {f : Nat → Int32} (hp : P o k) : fX P U (sA U o k f) := ⟨fun _ _ => rfl, fun _ _ => rfl, fun o2 k2 q => ⟨rfl, rfl, by rw [uA_sA, if_neg (fun z => q (by rw [z.1, z.2]; exact hp))], rfl, rfl⟩⟩
theorem fX_sJ {P : Nat → Nat → Prop} {U : Um} {o k : Nat} {f : Nat → Int64} (hp : P o k) : fX P U (sJ U o k f) := ⟨fun _ _ => rfl, fun _ _ => rfl, fun o2 k2 q => ⟨rfl, rfl, rfl, by rw [uJ_sJ, if_neg (fun z => q (by rw [z.1, z.2]; exact hp))], rfl⟩⟩
theorem fX_sF {P : Nat → Nat → Prop} {U : Um} {o k : Nat} {f : Nat → UInt32} (hp : P o k) : fX P U (sF U o k f) := ⟨fun _ _ => rfl, fun _ _ => rfl, fun o2 k2 q => ⟨rfl, rfl, rfl, rfl, by rw [uF_sF, if_neg (fun z => q (by rw [z.1, z.2]; exact hp))]⟩⟩
theorem fX_sI {P : Nat → Nat → Prop} {U : Um} {o k : Nat} {f : Int32} (hp : P o k) : fX P U (sI U o k f) := ⟨fun _ _ => rfl, fun _ _ => rfl, fun o2 k2 q => ⟨by rw [uI_sI, if_neg (fun z => q (by rw [z.1, z.2]; exact hp))], rfl, rfl, rfl, rfl⟩⟩
theorem PT_x {P : Nat → Nat → Prop} {U V : Um} {w : Nat} (hf : fX P U V) (h : PT U w) : PT V w := by
  obtain ⟨r, a, _⟩ := hf
  unfold PT PW at h ⊢
  simp only [r, a]
  exact h
/-- what may change without that what is held of T changes -/
abbrev PZ (o k : Nat) : Prop := o ≤ 3 ∨ 43 ≤ o ∨ ((o = 8 ∨ o = 9) ∧ (k = 2 ∨ k = 3 ∨ k = 4)) ∨ (o = 42 ∧ (k = 8 ∨ k = 9))
theorem gO_b {w : Nat} {g : Int} (hw : w = 4 ∨ w = 5) (g1 : g < 16) : 10 ≤ gO w g ∧ gO w g ≤ 41 := by
  unfold gO
  omega
theorem CW_x {P : Nat → Nat → Prop} {U V : Um} {T : Tm} {w : Nat} (hI : I1 T) (hw : w = 4 ∨ w = 5) (hf : fX P U V) (hP : ∀ o k, P o k → PZ o k ∨ o = 42) (h : CW U T w) : CW V T w := by
  have hn := I_n hI
  obtain ⟨⟨a1, a2, a3, a4⟩, b, c, d, ⟨e1, e2⟩, ⟨l1, l2⟩, d1, d2, d3⟩ := h
  have f := fun o k (q : ¬ (PZ o k ∨ o = 42)) => hf.2.2 o k (fun z => q (hP o k z))
  have fw : ∀ k, uI V w k = uI U w k ∧ uL V w k = uL U w k ∧ uA V w k = uA U w k ∧ uJ V w k = uJ U w k ∧ uF V w k = uF U w k := fun k => f w k (by omega)
  have fr : ∀ k, uI V (w + 2) k = uI U (w + 2) k ∧ uL V (w + 2) k = uL U (w + 2) k ∧ uA V (w + 2) k = uA U (w + 2) k ∧ uJ V (w + 2) k = uJ U (w + 2) k ∧ uF V (w + 2) k = uF U (w + 2) k := fun k => f (w + 2) k (by omega)
  have fl : ∀ k, k < 2 → uI V (w + 4) k = uI U (w + 4) k ∧ uL V (w + 4) k = uL U (w + 4) k ∧ uA V (w + 4) k = uA U (w + 4) k ∧ uJ V (w + 4) k = uJ U (w + 4) k ∧ uF V (w + 4) k = uF U (w + 4) k := fun k hk => f (w + 4) k (by omega)
  refine ⟨⟨fun k k0 k1 => ?_, ?_, ?_, ?_⟩, fun s i s0 s1 i0 i1 => ?_, fun o ho => ?_, fun g hg => ?_, ⟨?_, fun x y hx hy => ?_⟩, ⟨?_, fun k k0 k1 => ?_⟩, fun i i0 i1 => ?_, fun x x0 x1 h h0 h1 => ?_, fun x x0 x1 h h0 h1 => ?_⟩
  · rw [(fw 1).2.2.1]; exact a1 k k0 k1
  · rw [(fw 7).1]; exact a2
  · rw [(fw 8).1]; exact a3
  · rw [(fw 9).1]; exact a4
  · rw [(fw _).2.2.1]; exact b s i s0 s1 i0 i1
  · rw [(fw 3).2.2.1, (fw 4).2.2.1, (fw 5).2.2.1]; exact c o ho
  · have hb := gO_b (w := w) (g := g) hw (by omega)
    have fg : ∀ k, uI V (gO w g) k = uI U (gO w g) k := fun k => (f (gO w g) k (by omega)).1
    simp only [fg]
    exact d g hg
  · rw [(fr 0).1]; exact e1
  · rw [(fr _).2.2.1, (fr _).2.2.1]; exact e2 x y hx hy
  · rw [(fl 1 (by decide)).1]; exact l1
  · rw [(fl 0 (by decide)).2.2.1]; exact l2 k k0 k1
  · rw [(fw 12).2.2.1]; exact d1 i i0 i1
  · rw [(fw 13).2.2.1]; exact d2 x x0 x1 h h0 h1
  · rw [(fw 14).2.2.1]; exact d3 x x0 x1 h h0 h1
theorem CRo_x {U V : Um} {r : Nat} {T : Tm} {td : Int} {wh gi gr mk fo : Int → Int} (h1 : uI V r 1 = uI U r 1) (h2 : ∀ k, 2 ≤ k → k ≤ 7 → uA V r k = uA U r k) (h5 : uF V r 5 = uF U r 5) (h : CRo U r T td wh gi gr mk fo) : CRo V r T td wh gi gr mk fo := by
  unfold CRo at h ⊢
  rw [h1, h2 2 (by decide) (by decide), h2 3 (by decide) (by decide), h2 4 (by decide) (by decide), h2 6 (by decide) (by decide), h2 7 (by decide) (by decide), h5]
  exact h
theorem CC_x {P : Nat → Nat → Prop} {U V : Um} {T : Tm} {w : Nat} (hI : I1 T) (hf : fX P U V) (hP : ∀ o k, P o k → PZ o k) (h : CC U T w) : CC V T w := by
  refine ⟨PT_x hf h.1, CW_x hI h.1.1 hf (fun o k q => Or.inl (hP o k q)) h.2.1, ?_⟩
  have f := fun k (q : ¬ PZ 42 k) => hf.2.2 42 k (fun z => q (hP 42 k z))
  exact CRo_x (f 1 (by omega)).1 (fun k k0 k1 => (f k (by omega)).2.2.1) (f 5 (by omega)).2.2.2.2 h.2.2
/-- which object -/
theorem oc_of {x y n : Nat} (hx : x = y) (h : oc y = n) : oc x = n := by rw [hx]; exact h
theorem oc_w {w : Nat} (hw : w = 4 ∨ w = 5) : oc w = 8 := by rcases hw with rfl | rfl <;> rfl
theorem oc_r {w : Nat} (hw : w = 4 ∨ w = 5) : oc (w + 2) = 4 := by rcases hw with rfl | rfl <;> rfl
theorem oc_l {w : Nat} (hw : w = 4 ∨ w = 5) : oc (w + 4) = 2 := by rcases hw with rfl | rfl <;> rfl
theorem oc_g {w : Nat} {g : Int} (hw : w = 4 ∨ w = 5) (g1 : g < 16) : oc (gO w g) = 1 := by
  have hb := gO_b hw g1
  unfold oc
  rw [if_neg (by omega), if_neg (by omega), if_neg (by omega), if_neg (by omega), if_neg (by omega), if_neg (by omega), if_neg (by omega), if_pos (by omega)]
theorem pt_c {U : Um} {x y k z : Nat} (hx : x = y) (h : uR U y k = z) : uR U x k = z := by rw [hx]; exact h
theorem P_w {U : Um} {w : Nat} (h : PT U w) : PW U w := by
  rcases h.1 with rfl | rfl
  · exact h.2.2.2.2.2.2.2.1
  · exact h.2.2.2.2.2.2.2.2
theorem r_42 {U : Um} {T : Tm} {w x : Nat} (h : CC U T w) (hx : x = 42) : uR U x 0 = w := pt_c hx h.1.2.2.2.2.2.2.1
theorem r_3 {U : Um} {T : Tm} {w x : Nat} (h : CC U T w) (hx : x = 3) : uR U x 0 = 42 := pt_c hx h.1.2.2.2.2.2.1
theorem r_wr {U : Um} {T : Tm} {w x : Nat} (h : CC U T w) (hx : x = w) : uR U x 10 = w + 2 := pt_c hx (P_w h.1).1
theorem r_wl {U : Um} {T : Tm} {w x : Nat} (h : CC U T w) (hx : x = w) : uR U x 11 = w + 4 := pt_c hx (P_w h.1).2.1
theorem r_g {U : Um} {T : Tm} {w x : Nat} (h : CC U T w) (hx : x = w) {E : Int32} (g : Int) (he : E = jI g) (g0 : 0 ≤ g) (g1 : g < 16) : uAR U x 6 (Int32.toNatClampNeg E) = gO w g := by
  rw [hx, he, jI_nat g0 (by omega), (P_w h.1).2.2 g.toNat (by omega)]
  rfl
/-- reads -/
theorem c_n {U : Um} {T : Tm} {w x : Nat} (h : CC U T w) (hx : x = w) {E : Int32} (k : Int) (he : E = jI k) (k0 : 0 ≤ k) (k1 : k < 3) : uA U x 1 (Int32.toNatClampNeg E) = jI (T 11 k) := by
  rw [hx, he, jI_nat k0 (by omega)]
  exact h.2.1.1.1 k k0 k1
theorem c_n7 {U : Um} {T : Tm} {w x : Nat} (h : CC U T w) (hx : x = w) : uI U x 7 = jI (T 11 3) := by rw [hx]; exact h.2.1.1.2.1
theorem c_n8 {U : Um} {T : Tm} {w x : Nat} (h : CC U T w) (hx : x = w) : uI U x 8 = jI (T 11 4) := by rw [hx]; exact h.2.1.1.2.2.1
theorem c_n9 {U : Um} {T : Tm} {w x : Nat} (h : CC U T w) (hx : x = w) : uI U x 9 = jI (T 11 5) := by rw [hx]; exact h.2.1.1.2.2.2
theorem c_nm {U : Um} {T : Tm} {w x : Nat} (h : CC U T w) (hx : x = w) {E F : Int32} (s i : Int) (he : E = jI s) (hf : F = jI i) (s0 : 0 ≤ s) (s1 : s < 3) (i0 : 0 ≤ i) (i1 : i < T 11 s) (i2 : i < 100) : uA U x (ki 0 (Int32.toNatClampNeg E)) (Int32.toNatClampNeg F) = jI (nmS T s i) := by
  rw [hx, he, hf, jI_nat s0 (by omega), jI_nat i0 (by omega)]
  exact h.2.1.2.1 s i s0 s1 i0 i1
theorem c_o3 {U : Um} {T : Tm} {w x : Nat} (hI : I1 T) (h : CC U T w) (hx : x = w) {E : Int32} (o : Int) (he : E = jI o) (o0 : 0 ≤ o) (o1 : o < T 11 2) : uA U x 3 (Int32.toNatClampNeg E) = jI (T 6 o) := by
  have hn := I_n hI
  rw [hx, he, jI_nat o0 (by omega)]
  exact (h.2.1.2.2.1 o ⟨o0, o1⟩).1
theorem c_o4 {U : Um} {T : Tm} {w x : Nat} (hI : I1 T) (h : CC U T w) (hx : x = w) {E : Int32} (o : Int) (he : E = jI o) (o0 : 0 ≤ o) (o1 : o < T 11 2) : uA U x 4 (Int32.toNatClampNeg E) = jI (T 7 o) := by
  have hn := I_n hI
  rw [hx, he, jI_nat o0 (by omega)]
  exact (h.2.1.2.2.1 o ⟨o0, o1⟩).2.1
theorem c_o5 {U : Um} {T : Tm} {w x : Nat} (hI : I1 T) (h : CC U T w) (hx : x = w) {E : Int32} (o : Int) (he : E = jI o) (o0 : 0 ≤ o) (o1 : o < T 11 2) : uA U x 5 (Int32.toNatClampNeg E) = jI (T 8 o) := by
  have hn := I_n hI
  rw [hx, he, jI_nat o0 (by omega)]
  exact (h.2.1.2.2.1 o ⟨o0, o1⟩).2.2
theorem c_g {U : Um} {T : Tm} {w x : Nat} (h : CC U T w) {g : Int} (hx : x = gO w g) (k : Nat) (g0 : 0 ≤ g) (g1 : g < T 11 3) (hk : k < 8) : uI U x k = jI (gm T g k) := by
  rw [hx]
  exact (h.2.1.2.2.2.1 g ⟨g0, g1⟩).1 k hk
theorem c_g8 {U : Um} {T : Tm} {w x : Nat} (h : CC U T w) {g : Int} (hx : x = gO w g) (g0 : 0 ≤ g) (g1 : g < T 11 3) : ∀ k : Int, 0 ≤ k → k < 32 → (bt (uI U x 8) k ↔ clashP T g k) := by
  rw [hx]
  exact fun k k0 k1 => ((h.2.1.2.2.2.1 g ⟨g0, g1⟩).2 k k0 k1).1
theorem c_g9 {U : Um} {T : Tm} {w x : Nat} (h : CC U T w) {g : Int} (hx : x = gO w g) (g0 : 0 ≤ g) (g1 : g < T 11 3) : ∀ k : Int, 0 ≤ k → k < 32 → (bt (uI U x 9) k ↔ tightP T g k) := by
  rw [hx]
  exact fun k k0 k1 => ((h.2.1.2.2.2.1 g ⟨g0, g1⟩).2 k k0 k1).2
theorem c_r0 {U : Um} {T : Tm} {w x : Nat} (h : CC U T w) (hx : x = w + 2) : uI U x 0 = jI (T 11 0) := by rw [hx]; exact h.2.1.2.2.2.2.1.1
theorem c_r1 {U : Um} {T : Tm} {w x : Nat} (hI : I1 T) (h : CC U T w) (hx : x = w + 2) {E F : Int32} (a b : Int) (he : E = jI a) (hf : F = jI b) (a0 : 0 ≤ a) (a1 : a < T 11 0) (b0 : 0 ≤ b) (b1 : b < T 11 0) : uA U x (ki 1 (Int32.toNatClampNeg E)) (Int32.toNatClampNeg F) = jI (T 2 (6 * a + b)) := by
  have hn := I_n hI
  rw [hx, he, hf, jI_nat a0 (by omega), jI_nat b0 (by omega)]
  exact (h.2.1.2.2.2.2.1.2 a b ⟨a0, a1⟩ ⟨b0, b1⟩).1
theorem c_r2 {U : Um} {T : Tm} {w x : Nat} (hI : I1 T) (h : CC U T w) (hx : x = w + 2) {E F : Int32} (a b : Int) (he : E = jI a) (hf : F = jI b) (a0 : 0 ≤ a) (a1 : a < T 11 0) (b0 : 0 ≤ b) (b1 : b < T 11 0) : uA U x (ki 2 (Int32.toNatClampNeg E)) (Int32.toNatClampNeg F) = jI (wayS T a b) := by
  have hn := I_n hI
  rw [hx, he, hf, jI_nat a0 (by omega), jI_nat b0 (by omega)]
  exact (h.2.1.2.2.2.2.1.2 a b ⟨a0, a1⟩ ⟨b0, b1⟩).2
theorem c_l1 {U : Um} {T : Tm} {w x : Nat} (h : CC U T w) (hx : x = w + 4) : uI U x 1 = jI (T 14 0) := by rw [hx]; exact h.2.1.2.2.2.2.2.1.1
theorem c_l0 {U : Um} {T : Tm} {w x : Nat} (hI : I1 T) (h : CC U T w) (hx : x = w + 4) {E : Int32} (k : Int) (he : E = jI k) (k0 : 0 ≤ k) (k1 : k < T 14 0) : uA U x 0 (Int32.toNatClampNeg E) = jI (encS T k) := by
  have hn := hI.2.2.2.2.2.1
  rw [hx, he, jI_nat k0 (by omega)]
  exact h.2.1.2.2.2.2.2.1.2 k k0 k1
theorem c_d12 {U : Um} {T : Tm} {w x : Nat} (hI : I1 T) (h : CC U T w) (hx : x = w) {E : Int32} (i : Int) (he : E = jI i) (i0 : 0 ≤ i) (i1 : i < T 11 3) : uA U x 12 (Int32.toNatClampNeg E) = jI (nth (ordS T) i) := by
  have hn := I_n hI
  rw [hx, he, jI_nat i0 (by omega)]
  exact h.2.1.2.2.2.2.2.2.1 i i0 i1
theorem c_d13 {U : Um} {T : Tm} {w x : Nat} (h : CC U T w) (hx : x = w) {E : Int32} (d : Int) (he : E = jI d) (d0 : 0 ≤ d) (d1 : d < 7) : ∀ k : Int, 0 ≤ k → k < 32 → (bt (uA U x 13 (Int32.toNatClampNeg E)) k ↔ isGame T k ∧ gm T k 3 = d) := by
  rw [hx, he, jI_nat d0 (by omega)]
  exact h.2.1.2.2.2.2.2.2.2.1 d d0 d1
theorem c_d14 {U : Um} {T : Tm} {w x : Nat} (h : CC U T w) (hx : x = w) {E : Int32} (d : Int) (he : E = jI d) (d0 : 0 ≤ d) (d1 : d < 6) : ∀ k : Int, 0 ≤ k → k < 32 → (bt (uA U x 14 (Int32.toNatClampNeg E)) k ↔ isGame T k ∧ gm T k 2 = d) := by
  rw [hx, he, jI_nat d0 (by omega)]
  exact h.2.1.2.2.2.2.2.2.2.2 d d0 d1
theorem c_t {U : Um} {T : Tm} {w x : Nat} (h : CC U T w) (hx : x = 42) : uI U x 1 = jI (T 35 0) := by rw [hx]; exact h.2.2.1
theorem c_h {U : Um} {T : Tm} {w x : Nat} (h : CC U T w) (hx : x = 42) {E : Int32} (k : Int) (he : E = jI k) (k0 : 0 ≤ k) (k1 : k < 48) : uA U x 2 (Int32.toNatClampNeg E) = jI (T 30 k) := by
  rw [hx, he, jI_nat k0 (by omega)]
  exact (h.2.2.2.1 k k0 k1).1
theorem c_m {U : Um} {T : Tm} {w x : Nat} (h : CC U T w) (hx : x = 42) {E : Int32} (k : Int) (he : E = jI k) (k0 : 0 ≤ k) (k1 : k < 48) : uA U x 3 (Int32.toNatClampNeg E) = jI (T 31 k) := by
  rw [hx, he, jI_nat k0 (by omega)]
  exact (h.2.2.2.1 k k0 k1).2
theorem c_gr {U : Um} {T : Tm} {w x : Nat} (hI : I1 T) (h : CC U T w) (hx : x = 42) {E : Int32} (o : Int) (he : E = jI o) (o0 : 0 ≤ o) (o1 : o < T 11 2) : uA U x 4 (Int32.toNatClampNeg E) = jI (T 32 o) := by
  have hn := I_n hI
  rw [hx, he, jI_nat o0 (by omega)]
  exact (h.2.2.2.2 o ⟨o0, o1⟩).1.1
theorem c_fo {U : Um} {T : Tm} {w x : Nat} (hI : I1 T) (h : CC U T w) (hx : x = 42) {E : Int32} (o : Int) (he : E = jI o) (o0 : 0 ≤ o) (o1 : o < T 11 2) : uF U x 5 (Int32.toNatClampNeg E) = jF (T 34 o) := by
  have hn := I_n hI
  rw [hx, he, jI_nat o0 (by omega)]
  exact (h.2.2.2.2 o ⟨o0, o1⟩).1.2.1
theorem c_mk {U : Um} {T : Tm} {w x : Nat} (hI : I1 T) (h : CC U T w) (hx : x = 42) {E : Int32} (o : Int) (he : E = jI o) (o0 : 0 ≤ o) (o1 : o < T 11 2) : uA U x 6 (Int32.toNatClampNeg E) = jI (T 33 o) := by
  have hn := I_n hI
  rw [hx, he, jI_nat o0 (by omega)]
  exact (h.2.2.2.2 o ⟨o0, o1⟩).1.2.2
theorem c_he {U : Um} {T : Tm} {w x : Nat} (hI : I1 T) (h : CC U T w) (hx : x = 42) {E : Int32} (o : Int) (he : E = jI o) (o0 : 0 ≤ o) (o1 : o < T 11 2) : ∀ k : Int, 0 ≤ k → k < 32 → (bt (uA U x 7 (Int32.toNatClampNeg E)) k ↔ isGame T k ∧ inGame T o k) := by
  have hn := I_n hI
  rw [hx, he, jI_nat o0 (by omega)]
  exact (h.2.2.2.2 o ⟨o0, o1⟩).2
