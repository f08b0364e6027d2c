/-! the class: a game -/
theorem CD_gm {P : Nat → Nat → Prop} {U V : Um} {D : Tm} {x : Nat} (hx : x = 4 ∨ x = 5) (hN : IN D) (hl : D 11 10 < 16) (hf : fX P U V) (hP : ∀ o k, P o k → o = gO x (D 11 10)) (h : CD U D x) : CD V D x := by
  obtain ⟨⟨a1, a2, a3, a4⟩, b, c, d, e, ⟨l1, l2⟩⟩ := h
  have n := hN.1
  have hg := gO_c hx n.2.2.2.1 hl
  have f := fun o (q : o ≠ gO x (D 11 10)) k => hf.2.2 o k (fun z => q (hP o k z))
  refine ⟨⟨fun k k0 k1 => ?_, ?_, ?_, ?_⟩, CDa_c (fun s => (f x (by omega) _).2.2.1) (fun s i => rfl) (fun s _ _ => rfl) b, CDo_c (fun j _ _ => (f x (by omega) j).2.2.1) rfl rfl rfl rfl rfl c, fun g g0 g1 k hk => ?_, fun p q p0 p1 q0 q1 => ?_, ?_, fun k k0 k1 => ?_⟩
  · rw [(f x (by omega) 1).2.2.1]; exact a1 k k0 k1
  · rw [(f x (by omega) 7).1]; exact a2
  · rw [(f x (by omega) 8).1]; exact a3
  · rw [(f x (by omega) 9).1]; exact a4
  · rw [(f (gO x g) (by unfold gO; omega) k).1]
    exact d g g0 g1 k hk
  · rw [(f (x + 2) (by omega) _).2.2.1]; exact e p q p0 p1 q0 q1
  · rw [(f (x + 4) (by omega) 1).1]; exact l1
  · rw [(f (x + 4) (by omega) 0).2.2.1]; exact l2 k k0 k1
def GV (U : Um) (o m : Nat) (F : Nat → Int) : Prop := ∀ j, j < m → uI U o j = jI (F j)
theorem GV_f {U V : Um} {o m : Nat} {F : Nat → Int} (hf : fX PXt U V) (ho : 10 ≤ o) (h : GV U o m F) : GV V o m F := fun j hj => by
  rw [(hf.2.2 o j (by omega)).1]
  exact h j hj
theorem GV_s {U V : Um} {o m : Nat} {F G : Nat → Int} {v : Int32} (hV : V = sI U o m v) (hv : v = jI (G m)) (e : ∀ j, j < m → G j = F j) (h : GV U o m F) : GV V o (m + 1) G := fun j hj => by
  rw [hV, uI_sI]
  by_cases c : j = m
  · rw [if_pos ⟨rfl, c⟩, hv, c]
  · rw [if_neg (fun z => c z.2), e j (by omega)]
    exact h j (by omega)
theorem gq {U V : Um} {T D : Tm} {x : Nat} {f : Int} (h : CQ U T D x f) (hb : BD D) (hl : D 11 10 < 16) {j : Nat} {v : Int32} (hV : V = sI U (gO x (D 11 10)) j v) : CQ V T D x f := by
  have hg := gO_c h.1.1 hb.1.1.2.2.2.1 hl
  have fV : fX (fun o _ => o = gO x (D 11 10)) U V := by rw [hV]; exact fX_sI rfl
  exact CQ_up h fV (fun o k q => by omega) (CD_gm h.1.1 hb.1 hl fV (fun o k q => q) h.2.1)
theorem gcf {U V : Um} {T : Tm} {x : Nat} {k p : Int} {o : Nat} (ho : 10 ≤ o ∧ o ≤ 41) (h : CF U T x k p) {j : Nat} {v : Int32} (hV : V = sI U o j v) : CF V T x k p := CF_x (P := fun a _ => a = o) (by rw [hV]; exact fX_sI rfl) (fun a b q => Or.inr (by omega)) h
theorem gfr {U0 U V : Um} {x o : Nat} (ho : 10 + 16 * (x - 4) ≤ o ∧ o < 26 + 16 * (x - 4)) (h : fX (PX x) U0 U) {j : Nat} {v : Int32} (hV : V = sI U o j v) : fX (PX x) U0 V := fX_trans h (by rw [hV]; exact fX_sI (by omega))
def timeR (T D : Tm) (y1 y2 y3 p : Int) : PR := ck (woE T p 9) p (ck (nmE T (nx T p) 0 6) (nx T p) (ck (nmE T (nx T (nx T p)) 0 1299) (nx T (nx T p)) (ck (woE T (nx T (nx T (nx T p))) 10) (nx T (nx T (nx T p))) (ck (nmE T (nx T (nx T (nx T (nx T p)))) 10 140) (nx T (nx T (nx T (nx T p)))) (ck (woE T (nx T (nx T (nx T (nx T (nx T p))))) 11) (nx T (nx T (nx T (nx T (nx T p))))) (ck (nmE T (nx T (nx T (nx T (nx T (nx T (nx T p)))))) 1 5) (nx T (nx T (nx T (nx T (nx T (nx T p)))))) (if cdS T (nx T (nx T (nx T (nx T (nx T (nx T (nx T p))))))) = ownL.getD 12 0 then ck (nmE T (nx T (nx T (nx T (nx T (nx T (nx T (nx T (nx T p)))))))) 1 3) (nx T (nx T (nx T (nx T (nx T (nx T (nx T (nx T p)))))))) (gameZ (up (gameB T D (8 * (16 + D 11 10)) y1 y2 y3 (nx T p) (nx T (nx T p)) (nx T (nx T (nx T (nx T p)))) (nx T (nx T (nx T (nx T (nx T (nx T p))))))) 10 (8 * (16 + D 11 10) + 7) (nuS T (nx T (nx T (nx T (nx T (nx T (nx T (nx T (nx T p)))))))))) (nx T (nx T (nx T (nx T (nx T (nx T (nx T (nx T (nx T p)))))))))) else gameZ (gameB T D (8 * (16 + D 11 10)) y1 y2 y3 (nx T p) (nx T (nx T p)) (nx T (nx T (nx T (nx T p)))) (nx T (nx T (nx T (nx T (nx T (nx T p))))))) (nx T (nx T (nx T (nx T (nx T (nx T (nx T p))))))))))))))
abbrev gFd (T D : Tm) (y1 y2 y3 p : Int) (j : Nat) : Int := gameB T D (8 * (16 + D 11 10)) y1 y2 y3 (nx T p) (nx T (nx T p)) (nx T (nx T (nx T (nx T p)))) (nx T (nx T (nx T (nx T (nx T (nx T p)))))) 10 (8 * (16 + D 11 10) + j)
theorem gFd_0 {T D : Tm} {y1 y2 y3 p : Int} : gFd T D y1 y2 y3 p 0 = y1 := by
  show gameB T D (8 * (16 + D 11 10)) y1 y2 y3 (nx T p) (nx T (nx T p)) (nx T (nx T (nx T (nx T p)))) (nx T (nx T (nx T (nx T (nx T (nx T p)))))) 10 (8 * (16 + D 11 10) + ((0 : Nat) : Int)) = _
  rw [gB_10, if_neg (by omega), if_neg (by omega), if_neg (by omega), if_neg (by omega), if_neg (by omega), if_neg (by omega), if_neg (by omega), if_pos (by omega)]
theorem gFd_1 {T D : Tm} {y1 y2 y3 p : Int} : gFd T D y1 y2 y3 p 1 = y2 := by
  show gameB T D (8 * (16 + D 11 10)) y1 y2 y3 (nx T p) (nx T (nx T p)) (nx T (nx T (nx T (nx T p)))) (nx T (nx T (nx T (nx T (nx T (nx T p)))))) 10 (8 * (16 + D 11 10) + ((1 : Nat) : Int)) = _
  rw [gB_10, if_neg (by omega), if_neg (by omega), if_neg (by omega), if_neg (by omega), if_neg (by omega), if_neg (by omega), if_pos (by omega)]
theorem gFd_2 {T D : Tm} {y1 y2 y3 p : Int} : gFd T D y1 y2 y3 p 2 = y3 := by
  show gameB T D (8 * (16 + D 11 10)) y1 y2 y3 (nx T p) (nx T (nx T p)) (nx T (nx T (nx T (nx T p)))) (nx T (nx T (nx T (nx T (nx T (nx T p)))))) 10 (8 * (16 + D 11 10) + ((2 : Nat) : Int)) = _
  rw [gB_10, if_neg (by omega), if_neg (by omega), if_neg (by omega), if_neg (by omega), if_neg (by omega), if_pos (by omega)]
theorem gFd_3 {T D : Tm} {y1 y2 y3 p : Int} : gFd T D y1 y2 y3 p 3 = nuS T (nx T p) := by
  show gameB T D (8 * (16 + D 11 10)) y1 y2 y3 (nx T p) (nx T (nx T p)) (nx T (nx T (nx T (nx T p)))) (nx T (nx T (nx T (nx T (nx T (nx T p)))))) 10 (8 * (16 + D 11 10) + ((3 : Nat) : Int)) = _
  rw [gB_10, if_neg (by omega), if_neg (by omega), if_neg (by omega), if_neg (by omega), if_pos (by omega)]
theorem gFd_4 {T D : Tm} {y1 y2 y3 p : Int} : gFd T D y1 y2 y3 p 4 = nuS T (nx T (nx T p)) := by
  show gameB T D (8 * (16 + D 11 10)) y1 y2 y3 (nx T p) (nx T (nx T p)) (nx T (nx T (nx T (nx T p)))) (nx T (nx T (nx T (nx T (nx T (nx T p)))))) 10 (8 * (16 + D 11 10) + ((4 : Nat) : Int)) = _
  rw [gB_10, if_neg (by omega), if_neg (by omega), if_neg (by omega), if_pos (by omega)]
theorem gFd_5 {T D : Tm} {y1 y2 y3 p : Int} : gFd T D y1 y2 y3 p 5 = nuS T (nx T (nx T (nx T (nx T p)))) := by
  show gameB T D (8 * (16 + D 11 10)) y1 y2 y3 (nx T p) (nx T (nx T p)) (nx T (nx T (nx T (nx T p)))) (nx T (nx T (nx T (nx T (nx T (nx T p)))))) 10 (8 * (16 + D 11 10) + ((5 : Nat) : Int)) = _
  rw [gB_10, if_neg (by omega), if_neg (by omega), if_pos (by omega)]
theorem gFd_6 {T D : Tm} {y1 y2 y3 p : Int} : gFd T D y1 y2 y3 p 6 = nuS T (nx T (nx T (nx T (nx T (nx T (nx T p)))))) := by
  show gameB T D (8 * (16 + D 11 10)) y1 y2 y3 (nx T p) (nx T (nx T p)) (nx T (nx T (nx T (nx T p)))) (nx T (nx T (nx T (nx T (nx T (nx T p)))))) 10 (8 * (16 + D 11 10) + ((6 : Nat) : Int)) = _
  rw [gB_10, if_neg (by omega), if_pos (by omega)]
theorem gFd_7 {T D : Tm} {y1 y2 y3 p : Int} : gFd T D y1 y2 y3 p 7 = 1 := by
  show gameB T D (8 * (16 + D 11 10)) y1 y2 y3 (nx T p) (nx T (nx T p)) (nx T (nx T (nx T (nx T p)))) (nx T (nx T (nx T (nx T (nx T (nx T p)))))) 10 (8 * (16 + D 11 10) + ((7 : Nat) : Int)) = _
  rw [gB_10, if_pos (by omega)]
set_option maxHeartbeats 1000000 in
theorem x_time {U U0 : Um} {T D : Tm} {x : Nat} {p y1 y2 y3 : Int} (hQ : CQ U T D x p) (hb : BD D) (hl : D 11 10 < 16) (h3 : GV U (gO x (D 11 10)) 3 (gFd T D y1 y2 y3 p)) (fr : fX (PX x) U0 U) {R : PR} (hr : R = timeR T D y1 y2 y3 p) {post : Um → Prop} (fin : ∀ (V : Um) (k q : Int), R = .error (k, q) → CF V T x k q → fX (PX x) U0 V → post V) (good : ∀ (V : Um) (E : Tm) (g : Int), R = gameZ E g → CQ V T D x g → fX (PX x) U0 V → (∀ k, k ≠ 10 → E k = D k) → (∀ i, (i < 8 * (16 + D 11 10) ∨ 8 * (16 + D 11 10) + 7 < i) → E 10 i = D 10 i) → GV V (gO x (D 11 10)) 8 (fun j => E 10 (8 * (16 + D 11 10) + j)) → post V) : w_X4_readTimeOf 2 (gO x (D 11 10)) U post := by
  have n := hb.1.1
  have ho1 := gO_c hQ.1.1 n.2.2.2.1 hl
  have ho2 : 10 ≤ gO x (D 11 10) ∧ gO x (D 11 10) ≤ 41 := by have := hQ.1.1; omega
  unfold timeR at hr
  refine x_expW hQ hb (j := 9) (by decide) (fun e0 V0 q0 f0 => ?_) (fun e0 V0 f0 p0 => ?_)
  case refine_2 =>
    rw [show wpm 9 = 9 from rfl] at e0 f0
    rw [ck_1 e0] at hr
    exact (f_num f0 (fun r1 => (fun Z2 z3 => (f_num (gcf ho2 f0 z3) (fun r4 => (fun Z5 z6 => (f_expW (gcf ho2 (gcf ho2 f0 z3) z6) (f_num (gcf ho2 (gcf ho2 f0 z3) z6) (fun r7 => (fun Z8 z9 => (f_expW (gcf ho2 (gcf ho2 (gcf ho2 f0 z3) z6) z9) (f_num (gcf ho2 (gcf ho2 (gcf ho2 f0 z3) z6) z9) (fun r10 => (fun Z11 z12 Z13 z14 => fl_F (gcf ho2 (gcf ho2 (gcf ho2 (gcf ho2 (gcf ho2 f0 z3) z6) z9) z12) z14) (fin _ _ _ hr (gcf ho2 (gcf ho2 (gcf ho2 (gcf ho2 (gcf ho2 f0 z3) z6) z9) z12) z14) (gfr ho1 (gfr ho1 (gfr ho1 (gfr ho1 (gfr ho1 (fX_trans fr (tX p0)) z3) z6) z9) z12) z14))))))))))))))))
  rw [show wpm 9 = 9 from rfl] at e0
  rw [ck_0 e0] at hr
  have g0 := fX_trans fr (tX f0)
  have v0 := GV_f f0 ho2.1 h3
  refine x_num q0 hb (lo := 0) (hi := 6) rfl rfl ⟨by decide, by decide⟩ ⟨by decide, by decide⟩ (fun e1 V1 q1 f1 _ Y1 yy1 => ?_) (fun e1 V1 f1 p1 => ?_)
  case refine_2 =>
    rw [ck_1 e1] at hr
    exact (fun Z15 z16 => (f_num (gcf ho2 f1 z16) (fun r17 => (fun Z18 z19 => (f_expW (gcf ho2 (gcf ho2 f1 z16) z19) (f_num (gcf ho2 (gcf ho2 f1 z16) z19) (fun r20 => (fun Z21 z22 => (f_expW (gcf ho2 (gcf ho2 (gcf ho2 f1 z16) z19) z22) (f_num (gcf ho2 (gcf ho2 (gcf ho2 f1 z16) z19) z22) (fun r23 => (fun Z24 z25 Z26 z27 => fl_F (gcf ho2 (gcf ho2 (gcf ho2 (gcf ho2 (gcf ho2 f1 z16) z19) z22) z25) z27) (fin _ _ _ hr (gcf ho2 (gcf ho2 (gcf ho2 (gcf ho2 (gcf ho2 f1 z16) z19) z22) z25) z27) (gfr ho1 (gfr ho1 (gfr ho1 (gfr ho1 (gfr ho1 (fX_trans g0 (tX p1)) z16) z19) z22) z25) z27))))))))))))))
  rw [ck_0 e1] at hr
  have g1 := gfr ho1 (fX_trans g0 (tX f1)) yy1
  have w1 := gq q1 hb hl yy1
  have v1 := GV_s (G := gFd T D y1 y2 y3 p) yy1 (by rw [gFd_3]) (fun _ _ => rfl) (GV_f f1 ho2.1 v0)
  refine x_num w1 hb (lo := 0) (hi := 1299) rfl rfl ⟨by decide, by decide⟩ ⟨by decide, by decide⟩ (fun e2 V2 q2 f2 _ Y2 yy2 => ?_) (fun e2 V2 f2 p2 => ?_)
  case refine_2 =>
    rw [ck_1 e2] at hr
    exact (fun Z28 z29 => (f_expW (gcf ho2 f2 z29) (f_num (gcf ho2 f2 z29) (fun r30 => (fun Z31 z32 => (f_expW (gcf ho2 (gcf ho2 f2 z29) z32) (f_num (gcf ho2 (gcf ho2 f2 z29) z32) (fun r33 => (fun Z34 z35 Z36 z37 => fl_F (gcf ho2 (gcf ho2 (gcf ho2 (gcf ho2 f2 z29) z32) z35) z37) (fin _ _ _ hr (gcf ho2 (gcf ho2 (gcf ho2 (gcf ho2 f2 z29) z32) z35) z37) (gfr ho1 (gfr ho1 (gfr ho1 (gfr ho1 (fX_trans g1 (tX p2)) z29) z32) z35) z37)))))))))))
  rw [ck_0 e2] at hr
  have g2 := gfr ho1 (fX_trans g1 (tX f2)) yy2
  have w2 := gq q2 hb hl yy2
  have v2 := GV_s (G := gFd T D y1 y2 y3 p) yy2 (by rw [gFd_4]) (fun _ _ => rfl) (GV_f f2 ho2.1 v1)
  refine x_expW w2 hb (j := 10) (by decide) (fun e3 V3 q3 f3 => ?_) (fun e3 V3 f3 p3 => ?_)
  case refine_2 =>
    rw [show wpm 10 = 10 from rfl] at e3 f3
    rw [ck_1 e3] at hr
    exact (f_num f3 (fun r38 => (fun Z39 z40 => (f_expW (gcf ho2 f3 z40) (f_num (gcf ho2 f3 z40) (fun r41 => (fun Z42 z43 Z44 z45 => fl_F (gcf ho2 (gcf ho2 (gcf ho2 f3 z40) z43) z45) (fin _ _ _ hr (gcf ho2 (gcf ho2 (gcf ho2 f3 z40) z43) z45) (gfr ho1 (gfr ho1 (gfr ho1 (fX_trans g2 (tX p3)) z40) z43) z45)))))))))
  rw [show wpm 10 = 10 from rfl] at e3
  rw [ck_0 e3] at hr
  have g3 := fX_trans g2 (tX f3)
  have v3 := GV_f f3 ho2.1 v2
  refine x_num q3 hb (lo := 10) (hi := 140) rfl rfl ⟨by decide, by decide⟩ ⟨by decide, by decide⟩ (fun e4 V4 q4 f4 _ Y4 yy4 => ?_) (fun e4 V4 f4 p4 => ?_)
  case refine_2 =>
    rw [ck_1 e4] at hr
    exact (fun Z46 z47 => (f_expW (gcf ho2 f4 z47) (f_num (gcf ho2 f4 z47) (fun r48 => (fun Z49 z50 Z51 z52 => fl_F (gcf ho2 (gcf ho2 (gcf ho2 f4 z47) z50) z52) (fin _ _ _ hr (gcf ho2 (gcf ho2 (gcf ho2 f4 z47) z50) z52) (gfr ho1 (gfr ho1 (gfr ho1 (fX_trans g3 (tX p4)) z47) z50) z52)))))))
  rw [ck_0 e4] at hr
  have g4 := gfr ho1 (fX_trans g3 (tX f4)) yy4
  have w4 := gq q4 hb hl yy4
  have v4 := GV_s (G := gFd T D y1 y2 y3 p) yy4 (by rw [gFd_5]) (fun _ _ => rfl) (GV_f f4 ho2.1 v3)
  refine x_expW w4 hb (j := 15) (by decide) (fun e5 V5 q5 f5 => ?_) (fun e5 V5 f5 p5 => ?_)
  case refine_2 =>
    rw [show wpm 15 = 11 from rfl] at e5 f5
    rw [ck_1 e5] at hr
    exact (f_num f5 (fun r53 => (fun Z54 z55 Z56 z57 => fl_F (gcf ho2 (gcf ho2 f5 z55) z57) (fin _ _ _ hr (gcf ho2 (gcf ho2 f5 z55) z57) (gfr ho1 (gfr ho1 (fX_trans g4 (tX p5)) z55) z57)))))
  rw [show wpm 15 = 11 from rfl] at e5
  rw [ck_0 e5] at hr
  have g5 := fX_trans g4 (tX f5)
  have v5 := GV_f f5 ho2.1 v4
  refine x_num q5 hb (lo := 1) (hi := 5) rfl rfl ⟨by decide, by decide⟩ ⟨by decide, by decide⟩ (fun e6 V6 q6 f6 _ Y6 yy6 => ?_) (fun e6 V6 f6 p6 => ?_)
  case refine_2 =>
    rw [ck_1 e6] at hr
    exact (fun Z58 z59 Z60 z61 => fl_F (gcf ho2 (gcf ho2 f6 z59) z61) (fin _ _ _ hr (gcf ho2 (gcf ho2 f6 z59) z61) (gfr ho1 (gfr ho1 (fX_trans g5 (tX p6)) z59) z61)))
  rw [ck_0 e6] at hr
  have g6 := gfr ho1 (fX_trans g5 (tX f6)) yy6
  have w6 := gq q6 hb hl yy6
  have v6 := GV_s (G := gFd T D y1 y2 y3 p) yy6 (by rw [gFd_6]) (fun _ _ => rfl) (GV_f f6 ho2.1 v5)
  intro X1 x1
  have gx := gfr ho1 g6 x1
  have wx := gq w6 hb hl x1
  have vx := GV_s (G := gFd T D y1 y2 y3 p) x1 (by rw [gFd_7]; rfl) (fun _ _ => rfl) v6
  refine fl_Q wx (x_word wx (j := 11) (by decide) (fun e => br_1 ⟨b_0 wx.1, ?_⟩) (fun e => br_0 ?_))
  · rw [show wpm 11 = 12 from rfl] at e
    rw [if_pos e] at hr
    refine x_next wx hb wx.1.2.1 (fun A qA fA _ => x_num qA hb (lo := 1) (hi := 3) rfl rfl ⟨by decide, by decide⟩ ⟨by decide, by decide⟩ (fun e8 B qB fB _ Y8 y8 => ?_) (fun e8 B fB pB Y8 y8 => ?_))
    · rw [ck_0 e8] at hr
      have fAB := nt fA fB (fun o k q => PV_t q) (fun o k q => q)
      have gB := gfr ho1 (fX_trans gx (tX fAB)) y8
      have vB := GV_f fAB ho2.1 vx
      refine good Y8 _ _ hr (gq qB hb hl y8) gB (fun k hk => by rw [up_f hk, gB_k hk]) (fun i hi => by rw [up_ne (by omega), gB_10, if_neg (by omega), if_neg (by omega), if_neg (by omega), if_neg (by omega), if_neg (by omega), if_neg (by omega), if_neg (by omega), if_neg (by omega)]) (GV_s (m := 7) (F := gFd T D y1 y2 y3 p) y8 ?_ (fun j hj => ?_) (fun j hj => vB j (by omega)))
      · show _ = jI (up _ 10 _ _ 10 (8 * (16 + D 11 10) + ((7 : Nat) : Int)))
        rw [show (8 * (16 + D 11 10) + ((7 : Nat) : Int)) = 8 * (16 + D 11 10) + 7 by omega, up_eq]
      · show up _ 10 _ _ 10 (8 * (16 + D 11 10) + (j : Int)) = _
        rw [up_ne (by omega)]
    · rw [ck_1 e8] at hr
      have fAB := nt fA pB (fun o k q => PV_t q) (fun o k q => q)
      exact fin _ _ _ hr (gcf ho2 fB y8) (gfr ho1 (fX_trans gx (tX fAB)) y8)
  · rw [show wpm 11 = 12 from rfl] at e
    rw [if_neg e] at hr
    exact good X1 _ _ hr wx gx (fun k hk => gB_k hk) (fun i hi => by rw [gB_10, if_neg (by omega), if_neg (by omega), if_neg (by omega), if_neg (by omega), if_neg (by omega), if_neg (by omega), if_neg (by omega), if_neg (by omega)]) (fun j hj => vx j hj)
