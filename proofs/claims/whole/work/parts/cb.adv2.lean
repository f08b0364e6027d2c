/-! the class: the piece at hand -/
def PC (U : Um) (T : Tm) (f : Int) : Prop := uI U 1 2 = jI f ∧ uI U 1 3 = jI (teS T f) ∧ uI U 1 5 = jI (cdS T f) ∧ uI U 1 6 = jI (nuS T f) ∧ uI U 1 7 = jI (sgS T f)
theorem sp_b {T : Tm} {lo hi p : Int} : p ≤ spS T lo hi p := (spN_b (T := T) (lo := lo) (hi := hi) _ p).1
theorem sp_lt {T : Tm} (ht : It T) {lo hi p : Int} (l0 : 0 ≤ lo) (p0 : 0 ≤ p) : p < spS T lo hi p ↔ inR T lo hi p := by
  by_cases c : inR T lo hi p
  · rw [sp_s ht l0 p0 c]
    have := sp_b (T := T) (lo := lo) (hi := hi) (p := p + 1)
    exact ⟨fun _ => c, fun _ => by omega⟩
  · rw [sp_e c]
    exact ⟨fun q => by omega, fun q => absurd q c⟩
theorem if_two {z m v : Int} {M x : Int32} (rz : r32 z) (rm : r32 m) (hM : M = jI m) (hx : 0 < z → z ≤ m → x = jI v) : (if jI z ≤ 0 then (-1 : Int32) else if M < jI z then (-1) else x) = jI (if z ≤ 0 then -1 else if m < z then -1 else v) := by
  have a : jI z ≤ 0 ↔ z ≤ 0 := by
    rw [Int32.le_iff_toInt_le, jI_toInt rz]
    exact Iff.rfl
  have b : M < jI z ↔ m < z := by rw [hM, Int32.lt_iff_toInt_lt, jI_toInt rz, jI_toInt rm]
  by_cases q : z ≤ 0
  · rw [if_pos (a.mpr q), if_pos q]
    rfl
  · rw [if_neg (fun w => q (a.mp w)), if_neg q]
    by_cases q2 : m < z
    · rw [if_pos (b.mpr q2), if_pos q2]
      rfl
    · rw [if_neg (fun w => q2 (b.mp w)), if_neg q2]
      exact hx (by omega) (by omega)
theorem xl_adv181n {U : Um} {z : Int} (rz : r32 z) (c : z ≠ 0) {post : Um → Prop} {K : Int32 → Um → Prop} (h : K 0 U) : w_X8_advance_L181 1 (jI z) post K 1 0 U := by
  show b_X8_advance_L181 1 (jI z) post K (w_X8_advance_L181 1 (jI z) post K 0) 0 U
  unfold b_X8_advance_L181
  exact br_eq z 0 rfl rfl rz ⟨by decide, by decide⟩ (fun q => absurd q c) (fun _ => h)
theorem x_adv {U : Um} {T : Tm} (ht : It T) (hT : CTb U T) {p : Int} (h3 : uI U 1 3 = jI p) (p0 : 0 ≤ p) (p1 : p ≤ T 17 0) {ob : Nat} (eo : ob = 1) {post : Um → Prop} (h : ∀ V : Um, CTb V T → fX PV U V → uI V 1 4 = uI U 1 2 → PC V T (skS T p) → post V) : w_X8_advance ob U post := by
  rw [eo]
  unfold w_X8_advance
  have t := ht.1
  intro U1 e1 U2 e2
  have f2 : fX PV U U2 := by rw [e2, e1]; exact fX_trans (fX_sI ⟨rfl, by decide⟩) (fX_sI ⟨rfl, by decide⟩)
  have a2 : uI U2 1 2 = jI p := by rw [e2, uI_sI, if_pos ⟨rfl, rfl⟩, e1, uI_sI, if_neg (by decide), h3]
  have a4 : uI U2 1 4 = uI U 1 2 := by rw [e2, uI_sI, if_neg (by decide), e1, uI_sI, if_pos ⟨rfl, rfl⟩]
  have nP : ∀ o k, PV o k → ¬ (o = 1 ∧ (k = 0 ∨ k = 1)) := fun o k q => by omega
  refine ⟨(T 17 0 - p).toNat + 1, xl_adv16 ht (U0 := U2) (p0 := p) (fun V5 t5 f5 k5 b2 U6 e6 => ?_) _ p U2 (CTb_f f2 nP hT) fX_rfl (fun _ _ => rfl) a2 rfl p0 p1 (Nat.lt_succ_self _)⟩
  have sk := sk_le ht p0 p1
  generalize skS T p = f at h b2 sk
  have f6 : fX PV V5 U6 := by rw [e6]; exact fX_sI ⟨rfl, by decide⟩
  have c2 : uI U6 1 2 = jI f := by rw [e6, uI_sI, if_neg (by decide), b2]
  have c3 : uI U6 1 3 = jI (f + (0 : Nat)) := by rw [e6, uI_sI, if_pos ⟨rfl, rfl⟩, b2, show f + ((0 : Nat) : Int) = f by omega]
  have c4 : uI U6 1 4 = uI U 1 2 := by rw [e6, uI_sI, if_neg (by decide), k5 4 (by decide), a4]
  refine ⟨(T 17 0 - (f + (0 : Nat))).toNat + 1, xl_adv78 ht (f := f) (by omega) (U0 := U6) (fun V10 e x t10 f10 k10 d3 e0 e1 es ex => ?_) _ 0 0 U6 (CTb_f f6 nP t5) fX_rfl (fun _ _ => rfl) c3 (by rw [show f + ((0 : Nat) : Int) = f by omega]) (by omega) (fun _ => rfl) (Nat.lt_succ_self _)⟩
  have d2 : uI V10 1 2 = jI f := by rw [k10 2 (by decide), c2]
  have d4 : uI V10 1 4 = uI U 1 2 := by rw [k10 4 (by decide), c4]
  have lt := sp_lt ht (lo := 97) (hi := 122) (p := f) (by decide) (by omega)
  rw [es] at lt
  intro x2 hx2
  have ex2 : x2 = jI (e - f) := by rw [hx2, d3, d2]; exact jsub rfl rfl
  rw [ex2]
  intro xs hxs
  have exs : xs = jI (if e - f ≤ 0 then -1 else if 6 < e - f then -1 else wcN T f (e - f).toNat) := by
    rw [hxs]
    exact if_two ⟨by omega, by omega⟩ (m := 6) ⟨by decide, by decide⟩ rfl (fun _ q => ex q)
  intro U14 e14
  have f14 : fX PV V10 U14 := by rw [e14]; exact fX_sI ⟨rfl, by decide⟩
  have g2 : uI U14 1 2 = jI f := by rw [e14, uI_sI, if_neg (by decide), d2]
  have g3 : uI U14 1 3 = jI e := by rw [e14, uI_sI, if_neg (by decide), d3]
  have g4 : uI U14 1 4 = uI U 1 2 := by rw [e14, uI_sI, if_neg (by decide), d4]
  have g5 : uI U14 1 5 = xs := by rw [e14, uI_sI, if_pos ⟨rfl, rfl⟩]
  have t14 := CTb_f f14 nP t10
  have fU14 : fX PV U U14 := fX_trans f2 (fX_trans f5 (fX_trans f6 (fX_trans f10 f14)))
  have fin : ∀ (V : Um) (e2 : Int) (x1 : Int32), CTb V T → fX PV U14 V → (∀ k, k ≠ 3 → uI V 1 k = uI U14 1 k) → uI V 1 3 = jI e2 → e ≤ e2 → e2 ≤ T 17 0 → (0 < e - f → e2 = e) → (e = f → e2 = spS T 48 57 f) → (e = f → e2 - f ≤ 4 → x1 = jI (nmN T f (e2 - f).toNat)) → ∀ x3 : Int32, x3 = uI V 1 3 - uI V 1 2 - jI (e - f) → ∀ xs2 : Int32, xs2 = (if x3 ≤ 0 then (-1) else (if (4 : Int32) < x3 then (-1) else x1)) → ∀ U22 : Um, U22 = sI V 1 6 xs2 → ∀ U23 : Um, U23 = sI U22 1 7 (-1) → ((uI U23 1 3 = uI U23 1 2 → (uI U23 1 1 ≤ uI U23 1 2 → post U23) ∧ (¬ uI U23 1 1 ≤ uI U23 1 2 → vp_in (uI U23 1 2) 1200 ∧ ∀ U24 : Um, U24 = sI U23 1 7 (uA U23 1 0 (Int32.toNatClampNeg (uI U23 1 2)) &&& 255) → ∀ U25 : Um, U25 = sI U24 1 3 (uI U24 1 3 + 1) → post U25)) ∧ (¬ uI U23 1 3 = uI U23 1 2 → post U23)) := by
    intro V e2 x1 tV fV kV v3 l0 l1 le ld lx x3 hx3 xs2 hxs2 U22 e22 U23 e23
    have v2 : uI V 1 2 = jI f := by rw [kV 2 (by decide), g2]
    have ex3 : x3 = jI (e2 - e) := by
      rw [hx3, v3, v2, show e2 - e = e2 - f - (e - f) by omega]
      exact jsub (jsub rfl rfl) rfl
    have exs2 : xs2 = jI (if e2 - e ≤ 0 then -1 else if 4 < e2 - e then -1 else nmN T f (e2 - e).toNat) := by
      rw [hxs2, ex3]
      refine if_two ⟨by omega, by omega⟩ (m := 4) ⟨by decide, by decide⟩ rfl (fun q0 q => ?_)
      have ef : e = f := by omega
      rw [lx ef (by omega), ef]
    have f23 : fX PV V U23 := by rw [e23, e22]; exact fX_trans (fX_sI ⟨rfl, by decide⟩) (fX_sI ⟨rfl, by decide⟩)
    have w2 : uI U23 1 2 = jI f := by rw [e23, uI_sI, if_neg (by decide), e22, uI_sI, if_neg (by decide), v2]
    have w3 : uI U23 1 3 = jI e2 := by rw [e23, uI_sI, if_neg (by decide), e22, uI_sI, if_neg (by decide), v3]
    have w4 : uI U23 1 4 = uI U 1 2 := by rw [e23, uI_sI, if_neg (by decide), e22, uI_sI, if_neg (by decide), kV 4 (by decide), g4]
    have w5 : uI U23 1 5 = xs := by rw [e23, uI_sI, if_neg (by decide), e22, uI_sI, if_neg (by decide), kV 5 (by decide), g5]
    have w6 : uI U23 1 6 = xs2 := by rw [e23, uI_sI, if_neg (by decide), e22, uI_sI, if_pos ⟨rfl, rfl⟩]
    have w7 : uI U23 1 7 = jI (-1) := by rw [e23, uI_sI, if_pos ⟨rfl, rfl⟩]; rfl
    have t23 := CTb_f f23 nP tV
    have fU23 : fX PV U U23 := fX_trans fU14 (fX_trans fV f23)
    have dg := sp_lt ht (lo := 48) (hi := 57) (p := f) (by decide) (by omega)
    have noend : ∀ lo hi, 0 ≤ lo → inR T lo hi f → seeS T f ≠ -1 := fun lo hi l q z => by
      have q : lo ≤ seeS T f ∧ seeS T f ≤ hi := q
      omega
    refine br_eq e2 f w3 w2 ⟨by omega, by omega⟩ ⟨by omega, by omega⟩ (fun q => ?_) (fun q => ?_)
    · have ef : e = f := by omega
      have nl : ¬ inR T 97 122 f := fun z => by have := lt.mpr z; omega
      have nd : ¬ inR T 48 57 f := fun z => by have := dg.mpr z; have := ld ef; omega
      have x5 : xs = jI (-1) := by rw [exs, if_pos (by omega)]
      have x6 : xs2 = jI (-1) := by rw [exs2, if_pos (by omega)]
      refine br_le (T 17 0) f t23.1 w2 ⟨by omega, by omega⟩ ⟨by omega, by omega⟩ (fun z => ?_) (fun z => ⟨jvp f w2 (by omega) (by omega) (by decide), fun U24 e24 U25 e25 => ?_⟩)
      · have k0 : tkS T f = 0 := by unfold tkS; rw [if_pos (see_end z)]
        refine h U23 t23 fU23 w4 ⟨w2, ?_, ?_, ?_, ?_⟩
        · rw [w3, q]; unfold teS; rw [if_pos k0]
        · rw [w5, x5]; unfold cdS; rw [if_neg (by omega)]
        · rw [w6, x6]; unfold nuS; rw [if_neg (by omega)]
        · rw [w7]; unfold sgS; rw [if_neg (by omega)]
      · have sv : seeS T f = T 16 f := if_pos z
        have rb := ht.2 f (by omega) (by omega)
        have k3 : tkS T f = 3 := by unfold tkS; rw [if_neg (by omega), if_neg nl, if_neg nd]
        have f25 : fX PV U23 U25 := by rw [e25, e24]; exact fX_trans (fX_sI ⟨rfl, by decide⟩) (fX_sI ⟨rfl, by decide⟩)
        refine h U25 (CTb_f f25 nP t23) (fX_trans fU23 f25) (by rw [e25, uI_sI, if_neg (by decide), e24, uI_sI, if_neg (by decide), w4]) ⟨by rw [e25, uI_sI, if_neg (by decide), e24, uI_sI, if_neg (by decide), w2], ?_, ?_, ?_, ?_⟩
        · rw [e25, uI_sI, if_pos ⟨rfl, rfl⟩, e24, uI_sI, if_neg (by decide), w3, q]
          unfold teS
          rw [if_neg (by omega), if_neg (by omega), if_neg (by omega)]
          exact jadd rfl rfl
        · rw [e25, uI_sI, if_neg (by decide), e24, uI_sI, if_neg (by decide), w5, x5]; unfold cdS; rw [if_neg (by omega)]
        · rw [e25, uI_sI, if_neg (by decide), e24, uI_sI, if_neg (by decide), w6, x6]; unfold nuS; rw [if_neg (by omega)]
        · rw [e25, uI_sI, if_neg (by decide), e24, uI_sI, if_pos ⟨rfl, rfl⟩, w2, jI_nat (by omega) (by omega), (t23.2 f (by omega) z).1]
          unfold sgS tsS
          rw [if_pos k3, if_pos k3, sv]
    · by_cases z : 0 < e - f
      · have il := lt.mp (by omega)
        have k1 : tkS T f = 1 := by unfold tkS; rw [if_neg (noend 97 122 (by decide) il), if_pos il]
        have te : teS T f = e := by unfold teS; rw [if_neg (by omega), if_pos k1, es]
        have e2e := le z
        refine h U23 t23 fU23 w4 ⟨w2, by rw [w3, e2e, te], ?_, ?_, ?_⟩
        · rw [w5, exs, if_neg (by omega)]
          unfold cdS twS
          rw [te]
          by_cases q2 : 6 < e - f
          · rw [if_pos q2, if_neg (by omega)]
          · rw [if_neg q2, if_pos ⟨k1, by omega⟩, if_pos k1]
        · rw [w6, exs2, if_pos (by omega)]; unfold nuS; rw [if_neg (by omega)]
        · rw [w7]; unfold sgS; rw [if_neg (by omega)]
      · have ef : e = f := by omega
        have nl : ¬ inR T 97 122 f := fun y => by have := lt.mpr y; omega
        have e2s := ld ef
        have id := dg.mp (by omega)
        have k2 : tkS T f = 2 := by unfold tkS; rw [if_neg (noend 48 57 (by decide) id), if_neg nl, if_pos id]
        have te : teS T f = e2 := by unfold teS; rw [if_neg (by omega), if_neg (by omega), if_pos k2, e2s]
        refine h U23 t23 fU23 w4 ⟨w2, by rw [w3, te], ?_, ?_, ?_⟩
        · rw [w5, exs, if_pos (by omega)]; unfold cdS; rw [if_neg (by omega)]
        · rw [w6, exs2, if_neg (by omega)]
          unfold nuS tnS
          rw [te, ef]
          by_cases q2 : 4 < e2 - f
          · rw [if_pos q2, if_neg (by omega)]
          · rw [if_neg q2, if_pos ⟨k2, by omega⟩, if_pos k2]
        · rw [w7]; unfold sgS; rw [if_neg (by omega)]
  by_cases z : 0 < e - f
  · exact ⟨1, xl_adv181n ⟨by omega, by omega⟩ (by omega) (fin U14 e 0 t14 fX_rfl (fun _ _ => rfl) g3 (by omega) e1 (fun _ => rfl) (fun q => by omega) (fun q => by omega))⟩
  · have ef : e = f := by omega
    rw [show e - f = 0 by omega] at fin ⊢
    refine ⟨(T 17 0 - (f + (0 : Nat))).toNat + 1, xl_adv181 ht (f := f) (by omega) (U0 := U14) (fun V e2 x1 tV fV kV v3 l0 l1 l2 l3 => fin V e2 x1 tV fV kV v3 (by omega) l1 (fun q => absurd q (by decide)) (fun _ => l2.symm) (fun _ q => l3 q)) _ 0 0 U14 t14 fX_rfl (fun _ _ => rfl) (by rw [g3, ef, show f + ((0 : Nat) : Int) = f by omega]) (by rw [show f + ((0 : Nat) : Int) = f by omega]) (by omega) (fun _ => rfl) (Nat.lt_succ_self _)⟩
