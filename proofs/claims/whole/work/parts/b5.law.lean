/-! the class: the law -/
abbrev PL (o k : Nat) : Prop := (o = 8 ∨ o = 9) ∧ (k = 2 ∨ k = 3 ∨ k = 4)
theorem PL_w {w k : Nat} (hw : w = 4 ∨ w = 5) (hk : k = 2 ∨ k = 3 ∨ k = 4) : PL (w + 4) k := ⟨by omega, hk⟩
theorem PL_Z : ∀ o k, PL o k → PZ o k := fun o k q => Or.inr (Or.inr (Or.inl q))
theorem lx_neg {a b : Int} (ra : r64 a) (rb : r64 b) : (0 : Int32) ≤ lg_cmp (jL a ^^^ jL b) 0 ↔ (a < 0 ↔ b < 0) := by
  have h : (jL a ^^^ jL b) < 0 ↔ ¬ (a < 0 ↔ b < 0) := by
    have e : ∀ x : Int64, x < 0 ↔ x.toBitVec.msb = true := by
      intro x
      rw [Int64.lt_iff_toInt_lt]
      show x.toBitVec.toInt < 0 ↔ _
      rw [BitVec.msb_eq_toInt]
      simp
    rw [e, Int64.toBitVec_xor, BitVec.msb_xor]
    have ea := e (jL a)
    have eb := e (jL b)
    rw [Int64.lt_iff_toInt_lt, jL_toInt ra] at ea
    rw [Int64.lt_iff_toInt_lt, jL_toInt rb] at eb
    have ea : a < 0 ↔ (jL a).toBitVec.msb = true := ea
    have eb : b < 0 ↔ (jL b).toBitVec.msb = true := eb
    rw [ea, eb]
    cases (jL a).toBitVec.msb <;> cases (jL b).toBitVec.msb <;> simp
  have k : (0 : Int32) ≤ lg_cmp (jL a ^^^ jL b) 0 ↔ ¬ (jL a ^^^ jL b) < 0 := by
    generalize (jL a ^^^ jL b) = x
    rw [show x = jL x.toInt from (jL_of x).symm, show (0 : Int64) = jL 0 from rfl, lg_jL (r64_of x) ⟨by omega, by omega⟩, jL_lt (r64_of x) ⟨by omega, by omega⟩]
    by_cases c : 0 < x.toInt
    · rw [if_pos c]
      exact ⟨fun _ => by omega, fun _ => by decide⟩
    · rw [if_neg c]
      by_cases c2 : x.toInt = 0
      · rw [if_pos c2]
        exact ⟨fun _ => by omega, fun _ => by decide⟩
      · rw [if_neg c2]
        exact ⟨fun q => absurd q (by decide), fun q => absurd (show x.toInt < 0 by omega) q⟩
  rw [k, h]
  exact Classical.not_not
theorem x_floorDiv {U : Um} {a1 a2 : Int64} {a b : Int} (e1 : a1 = jL a) (e2 : a2 = jL b) (ha : -2147483648 ≤ a ∧ a ≤ 2147483647) (hb : -2147483648 ≤ b ∧ b ≤ 2147483647) (b0 : b ≠ 0) {post : Int64 → Um → Prop} (h : post (jL (flS a b)) U) : w_J9_floorDiv_f86c9 a1 a2 U post := by
  subst e1 e2
  unfold w_J9_floorDiv_f86c9
  have td := tdiv_b (a := a) (b := b) (by omega)
  have dm : a.tdiv b * b = a - a.tmod b := by
    have h1 := Int.tmod_def a b
    have h2 := Int.mul_comm b (a.tdiv b)
    omega
  refine ⟨fun q => b0 ((jL_inj ⟨by omega, by omega⟩ ⟨by omega, by omega⟩).mp (q : jL b = jL 0)), fun x hx => ?_⟩
  have hx2 : x = jL (a.tdiv b) := by rw [hx]; exact jLdiv rfl rfl (by omega) ⟨by omega, by omega⟩
  rw [hx2]
  rw [lx_neg (a := a) (b := b) ⟨by omega, by omega⟩ ⟨by omega, by omega⟩]
  unfold flS at h
  have hm : a.tdiv b * b = a ↔ a.tmod b = 0 := by
    omega
  have bm : -4611686018427387904 ≤ a.tdiv b * b ∧ a.tdiv b * b ≤ 4611686018427387904 := by
    have := tmod_b (a := a) (b := b) (by omega) (by omega) b0
    omega
  refine ⟨fun c => ?_, fun c => ?_⟩
  · rw [if_neg (fun q => q.2 c)] at h
    exact h
  · refine br_l0 (a.tdiv b * b) a (jLmul rfl rfl) rfl ⟨by omega, by omega⟩ ⟨by omega, by omega⟩ (fun c2 => ?_) (fun c2 => ?_)
    · rw [if_neg (fun q => q.1 (hm.mp c2))] at h
      exact h
    · rw [if_pos ⟨fun q => c2 (hm.mpr q), c⟩] at h
      exact psl (jLsub rfl rfl) h
def askI (f : Nat → Int32) (T : Tm) (g s p : Int) : Prop := ∀ c : Int, 0 ≤ c → c < 8 → f c.toNat = jI (wordS T g s p c)
/-- what waits in the law -/
def SK (V : Um) (T : Tm) (w : Nat) (g s p : Int) (l : List Int) : Prop := uI V (w + 4) 4 = jI (l.length : Int) ∧ pileIs (uJ V (w + 4) 3) l ∧ askI (uA V (w + 4) 2) T g s p ∧ small l
theorem SK_top {V Z : Um} {T : Tm} {w : Nat} {g s p : Int} {l : List Int} {E : Int32} {f : Nat → Int64} (hZ : Z = sI (sJ V (w + 4) 3 f) (w + 4) 4 E) (hE : E = jI (l.length : Int)) (hf : pileIs f l) (ha : askI (uA V (w + 4) 2) T g s p) (hs : small l) : SK Z T w g s p l := by
  rw [hZ]
  refine ⟨?_, ?_, ha, hs⟩
  · rw [uI_sI, if_pos ⟨rfl, rfl⟩, hE]
  · rw [uJ_sI, uJ_sJ, if_pos ⟨rfl, rfl⟩]
    exact hf
theorem x_push {U : Um} {T : Tm} {w : Nat} (hC : CC U T w) (hI : I1 T) (h2 : I2 T) {g s p k : Int} (g0 : 0 ≤ g) (g1 : g < T 11 3) (s0 : 0 ≤ s) (s1 : s < 3) (o0 : 0 ≤ p) (o1 : p < T 11 2) (k0 : 0 ≤ k) (k1 : k < T 14 0) (hc : T 13 k = 0 ∨ T 13 k = 1) {l : List Int} (hS : SK U T w g s p l) (hl : (l.length : Int) = dep T k) {a1 : Int32} (e1 : a1 = jI (encS T k)) {post : Int32 → Um → Prop} (hN : stpS T g s p k (some l) = none → post 0 U) (hY : ∀ l2, stpS T g s p k (some l) = some l2 → ∀ V : Um, CC V T w → fX PL U V → SK V T w g s p l2 → post 1 V) : w_X3_push (w + 4) a1 U post := by
  subst e1
  have hw := hC.1.1
  have hL := hI.2.2.2.2.2.2.1 k k0 k1
  obtain ⟨t4, pl, ask, sm⟩ := hS
  have hd : dep T k ≤ 15 := by rcases hL with a | a | a <;> omega
  unfold w_X3_push
  have key : ∀ (v : Int), r32 v → (stpS T g s p k (some l) = some (v :: l)) → vp_in (uI U (w + 4) 4) 16 ∧ ∀ U3 : Um, U3 = sJ U (w + 4) 3 (va_up (uJ U (w + 4) 3) (Int32.toNatClampNeg (uI U (w + 4) 4)) (Int32.toInt64 (jI v))) → ∀ U4 : Um, U4 = sI U3 (w + 4) 4 (uI U3 (w + 4) 4 + 1) → post 1 U4 := by
    intro v rv hev
    refine ⟨jvp (l.length : Int) t4 (by omega) (by omega) (by decide), fun U3 e3 U4 e4 => ?_⟩
    have f4 : fX PL U U4 := by rw [e4, e3]; exact fX_trans (fX_sJ (PL_w hw (Or.inr (Or.inl rfl)))) (fX_sI (PL_w hw (Or.inr (Or.inr rfl))))
    refine hY _ hev U4 (CC_x hI f4 PL_Z hC) f4 ?_
    refine SK_top (E := uI U3 (w + 4) 4 + 1) (f := va_up (uJ U (w + 4) 3) l.length (jL v)) (V := U) ?_ ?_ (pile_push pl rfl) ask (small_push sm rv)
    · rw [e4, e3, t4, rd_nat (by omega), jI_L rv]
    · rw [e3, uI_sJ, t4]
      exact (jadd rfl rfl : jI (l.length : Int) + 1 = jI ((l.length : Int) + 1)).trans (by simp)
  rcases hc with c | c
  · have ee : encS T k = T 12 k := if_pos c
    rw [ee]
    have hb : 0 ≤ T 12 k ∧ T 12 k ≤ 9999 := by rcases hL with a | a | a <;> omega
    have hev : stpS T g s p k (some l) = some (T 12 k :: l) := if_pos c
    have nl : ¬ jI (T 12 k) < 0 := fun q => by
      have q : jI (T 12 k) < jI 0 := q
      rw [jI_lt ⟨by omega, by omega⟩ ⟨by omega, by omega⟩] at q
      omega
    refine ⟨⟨fun q => absurd q nl, fun _ => trivial⟩, fun xs hxs => ?_⟩
    rw [if_neg nl] at hxs
    rw [hxs]
    refine br_le 16 (l.length : Int) rfl t4 ⟨by omega, by omega⟩ ⟨by omega, by omega⟩ (fun q => absurd q (by omega)) (fun _ => ?_)
    intro K hK
    refine br_eq (T 12 k) (-7) rfl rfl ⟨by omega, by omega⟩ ⟨by omega, by omega⟩ (fun q => absurd q (by omega)) (fun _ => ?_)
    exact hK (key (T 12 k) ⟨by omega, by omega⟩ hev)
  · have ee : encS T k = -1 - T 12 k := by unfold encS; rw [if_neg (by omega), if_pos c]
    rw [ee]
    have hb : 0 ≤ T 12 k ∧ T 12 k ≤ 7 := by rcases hL with a | a | a <;> omega
    have lt0 : jI (-1 - T 12 k) < 0 := (jI_lt (b := 0) ⟨by omega, by omega⟩ ⟨by omega, by omega⟩).mpr (by omega)
    have ei : (-1 : Int32) - jI (-1 - T 12 k) = jI (T 12 k) := by
      rw [show T 12 k = -1 - (-1 - T 12 k) by omega]
      exact jsub rfl (by congr 1; omega)
    have wb := wordS_b hI h2 (T 12 k) g s p g0 g1 s0 s1 o0 o1
    refine ⟨⟨fun _ => ⟨jvp (T 12 k) ei (by omega) (by omega) (by decide), trivial⟩, fun _ => trivial⟩, fun xs hxs => ?_⟩
    rw [if_pos lt0, ei, jI_nat (by omega) (by omega), ask (T 12 k) (by omega) (by omega)] at hxs
    rw [hxs]
    have es : stpS T g s p k (some l) = if T 12 k = 6 ∧ wordS T g s p 6 = -1 then none else some (wordS T g s p (T 12 k) :: l) := by
      unfold stpS
      simp only []
      rw [if_neg (by omega), if_pos c]
    refine br_le 16 (l.length : Int) rfl t4 ⟨by omega, by omega⟩ ⟨by omega, by omega⟩ (fun q => absurd q (by omega)) (fun _ => ?_)
    intro K hK
    refine br_eq (-1 - T 12 k) (-7) rfl rfl ⟨by omega, by omega⟩ ⟨by omega, by omega⟩ (fun q => ?_) (fun q => ?_)
    · have q6 : T 12 k = 6 := by omega
      refine br_eq (wordS T g s p (T 12 k)) (-1) rfl rfl wb ⟨by omega, by omega⟩ (fun z => ?_) (fun z => ?_)
      · exact hN (by rw [es, if_pos ⟨q6, by rw [← q6]; exact z⟩])
      · exact hK (key _ wb (by rw [es, if_neg (fun y => z (by rw [q6]; exact y.2))]))
    · exact hK (key _ wb (by rw [es, if_neg (fun y => q (by omega))]))
set_option maxHeartbeats 4000000 in
theorem x_join {U : Um} {T : Tm} {w : Nat} (hC : CC U T w) (hI : I1 T) (h2 : I2 T) {g s p k : Int} (k0 : 0 ≤ k) (k1 : k < T 14 0) (hc : T 13 k = 43 ∨ T 13 k = 45 ∨ T 13 k = 42 ∨ T 13 k = 47) {l : List Int} (hS : SK U T w g s p l) (hl : (l.length : Int) = dep T k) (hl2 : (l.length : Int) ≤ 16) {a1 : Int32} (e1 : a1 = jI (encS T k)) {post : Int32 → Um → Prop} (hN : stpS T g s p k (some l) = none → ∀ V : Um, CC V T w → fX PL U V → post 0 V) (hY : ∀ l2, stpS T g s p k (some l) = some l2 → ∀ V : Um, CC V T w → fX PL U V → SK V T w g s p l2 → post 1 V) : w_X3_join (w + 4) a1 U post := by
  subst e1
  have hw := hC.1.1
  have hL := hI.2.2.2.2.2.2.1 k k0 k1
  have hd : 2 ≤ dep T k := by rcases hL with a | a | a <;> omega
  obtain ⟨t4, pl, ask, sm⟩ := hS
  match l, hl, hl2, t4, pl, sm, hN, hY with
  | [], hl, _, _, _, _, _, _ => exact absurd hl (by simp; omega)
  | [x], hl, _, _, _, _, _, _ => exact absurd hl (by simp; omega)
  | b :: a :: r, hl, hl2, t4, pl, sm, hN, hY =>
    have ha := sm a (by simp)
    have hb := sm b (by simp)
    have hlen : ((b :: a :: r).length : Int) = (r.length : Int) + 2 := by simp; omega
    rw [hlen] at t4 hl hl2
    have es : stpS T g s p k (some (b :: a :: r)) = if (T 13 k = 47 ∧ b = 0) ∨ ¬ (-2147483648 ≤ opS (T 13 k) a b ∧ opS (T 13 k) a b ≤ 2147483647) then none else some (opS (T 13 k) a b :: r) := by
      unfold stpS
      simp only []
      rw [if_neg (by omega), if_neg (by omega)]
    unfold w_X3_join
    refine br_le 2 ((r.length : Int) + 2) rfl t4 ⟨by omega, by omega⟩ ⟨by omega, by omega⟩ (fun _ => ?_) (fun q => absurd q (by omega))
    intro U1 e1
    have f1 : fX PL U U1 := by rw [e1]; exact fX_sI (PL_w hw (Or.inr (Or.inr rfl)))
    have t1 : uI U1 (w + 4) 4 = jI ((r.length : Int) + 1) := by
      rw [e1, uI_sI, if_pos ⟨rfl, rfl⟩, t4, show (r.length : Int) + 1 = (r.length : Int) + 2 - 1 by omega]
      exact jsub rfl rfl
    have t1m : uI U1 (w + 4) 4 - 1 = jI (r.length : Int) := by
      rw [t1, show jI (r.length : Int) = jI ((r.length : Int) + 1 - 1) by congr 1; omega]
      exact jsub rfl rfl
    have j1 : uJ U1 (w + 4) 3 = uJ U (w + 4) 3 := by rw [e1]; rfl
    have a1' : uA U1 (w + 4) 2 = uA U (w + 4) 2 := by rw [e1]; rfl
    have ea : uJ U (w + 4) 3 r.length = jL a := by
      have := pl 1 (by simp)
      simpa using this
    have eb : uJ U (w + 4) 3 (r.length + 1) = jL b := by
      have := pl 0 (by simp)
      simpa using this
    have rn : Int32.toNatClampNeg (uI U1 (w + 4) 4 - 1) = r.length := by rw [t1m, rd_nat (by omega)]
    have rn1 : Int32.toNatClampNeg (uI U1 (w + 4) 4) = r.length + 1 := by
      rw [t1, jI_nat (by omega) (by omega)]
      omega
    refine ⟨jvp (r.length : Int) t1m (by omega) (by omega) (by decide), ?_⟩
    refine al_l a (by rw [rn, j1, ea]) ?_
    refine ⟨jvp ((r.length : Int) + 1) t1 (by omega) (by omega) (by decide), ?_⟩
    refine al_l b (by rw [rn1, j1, eb]) ?_
    have mb := mul_b ha hb
    have tail : ∀ (x6 : Int64) (v : Int), x6 = jL v → r64 v → ¬ (T 13 k = 47 ∧ b = 0) → opS (T 13 k) a b = v → vp_in (uI U1 (w + 4) 4 - 1) 16 ∧ ∀ U9 : Um, U9 = sJ U1 (w + 4) 3 (va_up (uJ U1 (w + 4) 3) (Int32.toNatClampNeg (uI U1 (w + 4) 4 - 1)) x6) → ((lg_cmp x6 (-2147483648)) < 0 → post 0 U9) ∧ (¬ (lg_cmp x6 (-2147483648)) < 0 → ((0 : Int32) < (lg_cmp x6 2147483647) → post 0 U9) ∧ (¬ (0 : Int32) < (lg_cmp x6 2147483647) → post 1 U9)) := by
      intro x6 v hx rv hz hv
      refine ⟨jvp (r.length : Int) t1m (by omega) (by omega) (by decide), fun U9 e9 => ?_⟩
      have f9 : fX PL U U9 := by rw [e9]; exact fX_trans f1 (fX_sJ (PL_w hw (Or.inr (Or.inl rfl))))
      have c9 := CC_x hI f9 PL_Z hC
      rw [hv] at es
      refine br_lg v (-2147483648) hx rfl rv ⟨by omega, by omega⟩ (fun c => ?_) (fun c => ?_)
      · exact hN (by rw [es, if_pos (Or.inr (by omega))]) U9 c9 f9
      · refine br_gg v 2147483647 hx rfl rv ⟨by omega, by omega⟩ (fun c2 => ?_) (fun c2 => ?_)
        · exact hN (by rw [es, if_pos (Or.inr (by omega))]) U9 c9 f9
        · refine hY _ (by rw [es, if_neg (fun q => by rcases q with q | q; exact hz q; omega)]) U9 c9 f9 ⟨?_, ?_, ?_, small_push (fun y hy => sm y (by simp [hy])) ⟨by omega, by omega⟩⟩
          · rw [e9, uI_sJ, t1]
            simp
          · rw [e9, uJ_sJ, if_pos ⟨rfl, rfl⟩, rn, j1, hx]
            exact pile_join pl rfl
          · rw [e9, uA_sJ, a1']
            exact ask
    have c1 := CC_x hI f1 PL_Z hC
    intro K hK
    rcases hc with c | c | c | c
    · have ee : encS T k = -11 := by unfold encS; rw [if_neg (by omega), if_neg (by omega), if_pos c]
      rw [ee] at hK ⊢
      refine ⟨fun q => absurd q (by decide), fun _ => hK ⟨fun _ _ q => absurd rfl q, fun q => absurd q (by decide), fun q => absurd q (by decide), fun _ => ?_⟩⟩
      refine al_l (a + b) (jLadd rfl rfl) ?_
      exact tail _ (a + b) rfl ⟨by omega, by omega⟩ (by omega) (opS_e (by omega))
    · have ee : encS T k = -12 := by unfold encS; rw [if_neg (by omega), if_neg (by omega), if_neg (by omega), if_pos c]
      rw [ee] at hK ⊢
      refine ⟨fun q => absurd q (by decide), fun _ => hK ⟨fun _ q => absurd rfl q, fun q => absurd q (by decide), fun _ => ?_, fun q => absurd q (by decide)⟩⟩
      refine al_l (a - b) (jLsub rfl rfl) ?_
      exact tail _ (a - b) rfl ⟨by omega, by omega⟩ (by omega) (opS_e (by omega))
    · have ee : encS T k = -13 := by unfold encS; rw [if_neg (by omega), if_neg (by omega), if_neg (by omega), if_neg (by omega), if_pos c]
      rw [ee] at hK ⊢
      refine ⟨fun q => absurd q (by decide), fun _ => hK ⟨fun q => absurd rfl q, fun _ => ?_, fun q => absurd q (by decide), fun q => absurd q (by decide)⟩⟩
      refine al_l (a * b) (jLmul rfl rfl) ?_
      exact tail _ (a * b) rfl ⟨by omega, by omega⟩ (by omega) (opS_e (by omega))
    · have ee : encS T k = -14 := by unfold encS; rw [if_neg (by omega), if_neg (by omega), if_neg (by omega), if_neg (by omega), if_neg (by omega)]
      rw [ee] at hK ⊢
      refine ⟨fun _ => br_l0 b 0 rfl rfl ⟨by omega, by omega⟩ ⟨by omega, by omega⟩ (fun z => ?_) (fun z => hK ⟨fun _ _ _ => ?_, fun q => absurd q (by decide), fun q => absurd q (by decide), fun q => absurd q (by decide)⟩), fun q => absurd rfl q⟩
      · exact hN (by rw [es, if_pos (Or.inl ⟨c, z⟩)]) U1 c1 f1
      · refine x_floorDiv rfl rfl ha hb z ?_
        have fb := flS_b (a := a) (b := b) (by omega)
        exact tail _ (flS a b) rfl ⟨by omega, by omega⟩ (fun q => z q.2) (opS_e (by omega))
