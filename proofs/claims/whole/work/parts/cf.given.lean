/-! the class: names given -/
def ResC (U0 : Um) (T : Tm) (x : Nat) (r : PR) (post : Um → Prop) : Prop := match r with
  | .error e => ∀ V : Um, CF V T x e.1 e.2 → fX (PX x) U0 V → post V
  | .ok p => ∀ V : Um, CQ V T p.1 x p.2 → fX (PX x) U0 V → post V
theorem ResC_m {U V : Um} {T : Tm} {x : Nat} {r : PR} {post : Um → Prop} (o : fX (PX x) U V) (h : ResC U T x r post) : ResC V T x r post := by
  unfold ResC at h ⊢
  cases r with
  | error e => exact fun W q o2 => h W q (fX_trans o o2)
  | ok p => exact fun W q o2 => h W q (fX_trans o o2)
theorem ResC_e {U V : Um} {T : Tm} {x : Nat} {k p : Int} {post : Um → Prop} (h : ResC U T x (.error (k, p)) post) (q : CF V T x k p) (o : fX (PX x) U V) : post V := h V q o
theorem ResC_k {U V : Um} {T D : Tm} {x : Nat} {f : Int} {post : Um → Prop} (h : ResC U T x (.ok (D, f)) post) (q : CQ V T D x f) (o : fX (PX x) U V) : post V := h V q o
theorem tX {x : Nat} {U V : Um} (h : fX PXt U V) : fX (PX x) U V := fX_w (fun o k q => PXt_X q) h
/-- what stands in object x alone has changed -/
theorem CD_up {P : Nat → Nat → Prop} {U V : Um} {D D2 : Tm} {x : Nat} (hx : x = 4 ∨ x = 5) (hN : IN D) (hf : fX P U V) (hP : ∀ o k, P o k → o = x) (hn : CDn V D2 x) (ha : CDa V D2 x) (ho : CDo V D2 x) (e2 : D2 2 = D 2) (e10 : D2 10 = D 10) (e12 : D2 12 = D 12) (e13 : D2 13 = D 13) (e15 : D2 15 = D 15) (eg : D2 11 10 = D 11 10) (h : CD U D x) : CD V D2 x := by
  obtain ⟨_, _, _, d, e, ⟨l1, l2⟩⟩ := h
  have n := hN.1
  have f := fun o (q : o ≠ x) k => hf.2.2 o k (fun z => q (hP o k z))
  refine ⟨hn, ha, ho, fun g g0 g1 k hk => ?_, fun p q p0 p1 q0 q1 => ?_, ?_, fun k k0 k1 => ?_⟩
  · rw [eg] at g1
    rw [(f (gO x g) (by have := gO_c hx g0 (by omega); omega) k).1]
    unfold gD
    rw [e10]
    exact d g g0 g1 k hk
  · rw [(f (x + 2) (by omega) _).2.2.1, e2]; exact e p q p0 p1 q0 q1
  · rw [(f (x + 4) (by omega) 1).1, e15]; exact l1
  · rw [e15] at k1
    rw [(f (x + 4) (by omega) 0).2.2.1]
    unfold encD
    rw [e12, e13]
    exact l2 k k0 k1
theorem CQ_up {P : Nat → Nat → Prop} {U V : Um} {T D D2 : Tm} {x : Nat} {f : Int} (h : CQ U T D x f) (hf : fX P U V) (hP : ∀ o k, P o k → 4 ≤ o) (hd : CD V D2 x) : CQ V T D2 x f := by
  obtain ⟨c, d, p, f0, e2, e3⟩ := h
  have g := fun o (q : o < 4) k => hf.2.2 o k (fun z => by have := hP o k z; omega)
  refine ⟨CB0_x hf (fun o k z => by have := hP o k z; omega) c, hd, ?_, f0, by rw [(g 2 (by decide) 2).1]; exact e2, by rw [(g 2 (by decide) 3).1]; exact e3⟩
  unfold PC at p ⊢
  rw [(g 1 (by decide) 2).1, (g 1 (by decide) 3).1, (g 1 (by decide) 5).1, (g 1 (by decide) 6).1, (g 1 (by decide) 7).1]
  exact p
theorem ki0_x {s s2 : Nat} (h : ki 0 s = ki 0 s2) : s = s2 := (ki_inj (by decide) (by decide) h).2
theorem ki0_1 {s : Nat} : ki 0 s ≠ 1 := fun h => ki_ne (k2 := 1) (k := 0) (i := s) (by decide) h.symm
/-- the name is added -/
theorem x_add {U : Um} {T D D2 : Tm} {x : Nat} {f : Int} (hQ : CQ U T D x f) (hb : BD D) {ob : Nat} (eo : ob = x) {a1 a2 : Int32} {s nm : Int} (e1 : a1 = jI s) (e2 : a2 = jI nm) (hs : 0 ≤ s ∧ s ≤ 2) (hl : 0 ≤ D 11 (7 + s) ∧ D 11 (7 + s) < 10) (k1 : D2 11 (7 + s) = D 11 (7 + s) + 1) (k2 : ∀ i, i ≠ 7 + s → D2 11 i = D 11 i) (n1 : nmD D2 s (D 11 (7 + s)) = nm) (n2 : ∀ t i, 0 ≤ t → t ≤ 2 → (t = s → i ≠ D 11 (7 + s)) → nmD D2 t i = nmD D t i) (ho : ∀ o, 0 ≤ o → o < D 11 9 → D2 9 (10 + o) = D 9 (10 + o) ∧ D2 6 (10 + o) = D 6 (10 + o) ∧ D2 7 (10 + o) = D 7 (10 + o) ∧ D2 8 (10 + o) = D 8 (10 + o)) (hz : s = 2 → uA U x 2 (D 11 9).toNat = jI (D2 9 (10 + D 11 9)) ∧ uA U x 3 (D 11 9).toNat = jI (D2 6 (10 + D 11 9)) ∧ uA U x 4 (D 11 9).toNat = jI (D2 7 (10 + D 11 9)) ∧ uA U x 5 (D 11 9).toNat = jI (D2 8 (10 + D 11 9))) (q2 : D2 2 = D 2) (q10 : D2 10 = D 10) (q12 : D2 12 = D 12) (q13 : D2 13 = D 13) (q15 : D2 15 = D 15) {post : Int32 → Um → Prop} (h : ∀ V : Um, CQ V T D2 x f → fX (fun o _ => o = x) U V → post (jI (D 11 (7 + s))) V) : w_X9_addName ob a1 a2 U post := by
  subst e1 e2
  rw [eo]
  have hx := hQ.1.1
  have d := hQ.2.1
  have ts : Int32.toNatClampNeg (jI s) = s.toNat := jI_nat hs.1 (by omega)
  have vs : vp_in (jI s) 3 := jvp s rfl hs.1 (by omega) (by decide)
  have rc := d.1.1 s hs.1 (by omega)
  refine ⟨vs, fun x3 hx3 => ⟨vs, ?_⟩⟩
  rw [hx3, ts, rc]
  refine ⟨jvp _ rfl hl.1 hl.2 (by decide), fun U3 e3 => ⟨vs, vs, fun V eV => ?_⟩⟩
  have tn : Int32.toNatClampNeg (jI (D 11 (7 + s))) = (D 11 (7 + s)).toNat := jI_nat hl.1 (by omega)
  rw [tn] at e3
  have f3 : fX (fun o _ => o = x) U U3 := by rw [e3]; exact fX_sA rfl
  have fV : fX (fun o _ => o = x) U V := fX_trans f3 (by rw [eV]; exact fX_sA rfl)
  have r1 : uA V x 1 = va_up (uA U x 1) s.toNat (jI (D 11 (7 + s) + 1)) := by
    have a : uA U3 x 1 = uA U x 1 := by rw [e3, uA_sA, if_neg (fun z => ki0_1 z.2.symm)]
    rw [eV, uA_sA, if_pos ⟨rfl, rfl⟩, a, rc]
    congr 1
    exact jadd rfl rfl
  have rk : ∀ t, uA V x (ki 0 t) = if t = s.toNat then va_up (uA U x (ki 0 s.toNat)) (D 11 (7 + s)).toNat (jI nm) else uA U x (ki 0 t) := fun t => by
    rw [eV, uA_sA, if_neg (fun z => ki0_1 z.2), e3, uA_sA]
    by_cases c : t = s.toNat
    · rw [if_pos ⟨rfl, by rw [c]⟩, if_pos c]
    · rw [if_neg (fun z => c (ki0_x z.2)), if_neg c]
  have ro : ∀ k, k ≠ 1 → k < 100 → uA V x k = uA U x k := fun k hk hk2 => by
    rw [eV, uA_sA, if_neg (fun z => hk z.2), e3, uA_sA, if_neg (fun z => ki_ne hk2 z.2)]
  have ri : ∀ k, uI V x k = uI U x k := fun k => by rw [eV, e3]; rfl
  refine h V (CQ_up hQ fV (fun o k q => by omega) (CD_up hx hb.1 fV (fun o k q => q) ⟨fun k k0 k1 => ?_, ?_, ?_, ?_⟩ (fun t i t0 t1 i0 i1 => ?_) (fun o o0 o1 => ?_) q2 q10 q12 q13 q15 (k2 10 (by omega)) d)) fV
  · rw [r1]
    unfold va_up
    by_cases c : k = s
    · rw [if_pos (by rw [c]), c]
      congr 1
      omega
    · rw [if_neg (by omega), k2 (7 + k) (by omega)]
      exact d.1.1 k k0 k1
  · rw [ri, k2 10 (by omega)]; exact d.1.2.1
  · rw [ri, k2 11 (by omega)]; exact d.1.2.2.1
  · rw [ri, k2 12 (by omega)]; exact d.1.2.2.2
  · rw [rk]
    by_cases c : t = s
    · subst c
      rw [if_pos rfl]
      unfold va_up
      by_cases c2 : i = D 11 (7 + t)
      · rw [if_pos (by rw [c2]), c2, n1]
      · rw [if_neg (by omega), n2 t i t0 (by omega) (fun _ => c2)]
        exact d.2.1 t i t0 t1 i0 (by omega)
    · rw [if_neg (by omega), n2 t i t0 (by omega) (fun z => absurd z c)]
      rw [k2 (7 + t) (by omega)] at i1
      exact d.2.1 t i t0 t1 i0 i1
  · rw [ro 2 (by decide) (by decide), ro 3 (by decide) (by decide), ro 4 (by decide) (by decide), ro 5 (by decide) (by decide)]
    by_cases c : s = 2
    · subst c
      by_cases c2 : o = D 11 9
      · rw [c2]
        exact hz rfl
      · have e9 : D2 11 9 = D 11 9 + 1 := k1
        have q := ho o o0 (by omega)
        rw [q.1, q.2.1, q.2.2.1, q.2.2.2]
        exact d.2.2.1 o o0 (by omega)
    · rw [k2 9 (by omega)] at o1
      have q := ho o o0 o1
      rw [q.1, q.2.1, q.2.2.1, q.2.2.2]
      exact d.2.2.1 o o0 o1
