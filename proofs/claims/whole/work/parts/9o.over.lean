/-! what was read becomes the week -/
def nt1 (D : Tm) : Tm := blk D 11 0 7 (fun j => D 11 (7 + j))
def nt2 (D : Tm) : Tm := blk D 1 0 6 (fun j => D 1 (6 + j))
def nt3 (D : Tm) : Tm := blk D 2 0 36 (fun j => D 2 (36 + j))
def nt4 (D : Tm) : Tm := blk D 4 0 8 (fun j => D 4 (8 + j))
def nt5 (D : Tm) : Tm := blk D 10 0 128 (fun j => D 10 (128 + j))
def nt6 (D : Tm) : Tm := up D 14 0 (D 15 0)
def nt7 (D : Tm) : Tm := tkL D (D 14 0)
def nt8 (D : Tm) : Tm := tkO D 10
def nt9 (D : Tm) : Tm := tkW D 48
def nt10 (D : Tm) : Tm := up (up D 35 0 (-1)) 38 0 0
def nt11 (D : Tm) : Tm := mw D (wK 6 (wz (D 2)))
def nt5s (D : Tm) : Tm := nt5 (nt4 (nt3 (nt2 (nt1 D))))
def nt10s (D : Tm) : Tm := nt10 (nt9 (nt8 (nt7 (nt6 (nt5s D)))))
def newT (D : Tm) : Tm := nt11 (nt10s D)
theorem nt1_o {D : Tm} {f : Nat} {i : Int} (h : f ≠ 11) : nt1 D f i = D f i := blk_nf h
theorem nt2_o {D : Tm} {f : Nat} {i : Int} (h : f ≠ 1) : nt2 D f i = D f i := blk_nf h
theorem nt3_o {D : Tm} {f : Nat} {i : Int} (h : f ≠ 2) : nt3 D f i = D f i := blk_nf h
theorem nt4_o {D : Tm} {f : Nat} {i : Int} (h : f ≠ 4) : nt4 D f i = D f i := blk_nf h
theorem nt5_o {D : Tm} {f : Nat} {i : Int} (h : f ≠ 10) : nt5 D f i = D f i := blk_nf h
theorem nt6_o {D : Tm} {f : Nat} {i : Int} (h : f ≠ 14) : nt6 D f i = D f i := up_nf h
theorem nt7_o {D : Tm} {f : Nat} {i : Int} (h : f ≠ 12 ∧ f ≠ 13) : nt7 D f i = D f i := by
  unfold nt7 tkL
  rw [blk_nf h.2, blk_nf h.1]
theorem nt8_o {D : Tm} {f : Nat} {i : Int} (h : f ≠ 5 ∧ f ≠ 6 ∧ f ≠ 7 ∧ f ≠ 8 ∧ f ≠ 32 ∧ f ≠ 33 ∧ f ≠ 34) : nt8 D f i = D f i := by
  unfold nt8 tkO
  split
  · rw [if_neg (by omega), if_neg (by omega), if_neg (by omega), if_neg (by omega)]
  · rfl
theorem nt9_o {D : Tm} {f : Nat} {i : Int} (h : f ≠ 30 ∧ f ≠ 31) : nt9 D f i = D f i := by
  unfold nt9 tkW
  rw [blk_nf h.2, blk_nf h.1]
theorem nt10_o {D : Tm} {f : Nat} {i : Int} (h : f ≠ 35 ∧ f ≠ 38) : nt10 D f i = D f i := by
  unfold nt10
  rw [up_nf h.2, up_nf h.1]
theorem nt11_o {D : Tm} {f : Nat} {i : Int} (h : f ≠ 3) : nt11 D f i = D f i := mw_nf h
theorem newT_11 {D : Tm} {i : Int} (h0 : 0 ≤ i) (h1 : i < 7) : newT D 11 i = D 11 (7 + i) := by
  unfold newT nt10s nt5s
  rw [nt11_o (by decide), nt10_o (by decide), nt9_o (by decide), nt8_o (by decide), nt7_o (by decide), nt6_o (by decide), nt5_o (by decide), nt4_o (by decide), nt3_o (by decide), nt2_o (by decide)]
  unfold nt1
  rw [blk_in h0 (by omega), Int.sub_zero]
theorem newT_1 {D : Tm} {i : Int} (h0 : 0 ≤ i) (h1 : i < 6) : newT D 1 i = D 1 (6 + i) := by
  unfold newT nt10s nt5s
  rw [nt11_o (by decide), nt10_o (by decide), nt9_o (by decide), nt8_o (by decide), nt7_o (by decide), nt6_o (by decide), nt5_o (by decide), nt4_o (by decide), nt3_o (by decide)]
  unfold nt2
  rw [blk_in h0 (by omega), Int.sub_zero, nt1_o (by decide)]
theorem newT_2 {D : Tm} {i : Int} (h0 : 0 ≤ i) (h1 : i < 36) : newT D 2 i = D 2 (36 + i) := by
  unfold newT nt10s nt5s
  rw [nt11_o (by decide), nt10_o (by decide), nt9_o (by decide), nt8_o (by decide), nt7_o (by decide), nt6_o (by decide), nt5_o (by decide), nt4_o (by decide)]
  unfold nt3
  rw [blk_in h0 (by omega), Int.sub_zero, nt2_o (by decide), nt1_o (by decide)]
theorem newT_4 {D : Tm} {i : Int} (h0 : 0 ≤ i) (h1 : i < 8) : newT D 4 i = D 4 (8 + i) := by
  unfold newT nt10s nt5s
  rw [nt11_o (by decide), nt10_o (by decide), nt9_o (by decide), nt8_o (by decide), nt7_o (by decide), nt6_o (by decide), nt5_o (by decide)]
  unfold nt4
  rw [blk_in h0 (by omega), Int.sub_zero, nt3_o (by decide), nt2_o (by decide), nt1_o (by decide)]
theorem newT_10 {D : Tm} {i : Int} (h0 : 0 ≤ i) (h1 : i < 128) : newT D 10 i = D 10 (128 + i) := by
  unfold newT nt10s nt5s
  rw [nt11_o (by decide), nt10_o (by decide), nt9_o (by decide), nt8_o (by decide), nt7_o (by decide), nt6_o (by decide)]
  unfold nt5
  rw [blk_in h0 (by omega), Int.sub_zero, nt4_o (by decide), nt3_o (by decide), nt2_o (by decide), nt1_o (by decide)]
theorem newT_14 {D : Tm} : newT D 14 0 = D 15 0 := by
  unfold newT nt10s nt5s
  rw [nt11_o (by decide), nt10_o (by decide), nt9_o (by decide), nt8_o (by decide), nt7_o (by decide)]
  unfold nt6
  rw [up_eq, nt5_o (by decide), nt4_o (by decide), nt3_o (by decide), nt2_o (by decide), nt1_o (by decide)]
theorem nt6_14 {D : Tm} : nt6 (nt5s D) 14 0 = D 15 0 := by
  unfold nt6 nt5s
  rw [up_eq, nt5_o (by decide), nt4_o (by decide), nt3_o (by decide), nt2_o (by decide), nt1_o (by decide)]
theorem newT_12 {D : Tm} {i : Int} (h0 : 0 ≤ i) (h1 : i < D 15 0) : newT D 12 i = D 12 (1300 + i) := by
  unfold newT nt10s
  rw [nt11_o (by decide), nt10_o (by decide), nt9_o (by decide), nt8_o (by decide)]
  unfold nt7 tkL
  rw [nt6_14]
  rw [blk_nf (by decide), blk_in h0 (by omega), Int.sub_zero, nt6_o (by decide)]
  unfold nt5s
  rw [nt5_o (by decide), nt4_o (by decide), nt3_o (by decide), nt2_o (by decide), nt1_o (by decide)]
theorem newT_13 {D : Tm} {i : Int} (h0 : 0 ≤ i) (h1 : i < D 15 0) : newT D 13 i = D 13 (1300 + i) := by
  unfold newT nt10s
  rw [nt11_o (by decide), nt10_o (by decide), nt9_o (by decide), nt8_o (by decide)]
  unfold nt7 tkL
  rw [nt6_14]
  rw [blk_in h0 (by omega), Int.sub_zero, nt6_o (by decide)]
  unfold nt5s
  rw [nt5_o (by decide), nt4_o (by decide), nt3_o (by decide), nt2_o (by decide), nt1_o (by decide)]
theorem newT_5 {D : Tm} {i : Int} (h0 : 0 ≤ i) (h1 : i < 10) : newT D 5 i = D 5 (10 + i) := by
  unfold newT nt10s nt5s
  rw [nt11_o (by decide), nt10_o (by decide), nt9_o (by decide)]
  unfold nt8 tkO
  rw [if_pos ⟨h0, h1⟩, if_pos (by decide), nt7_o (by decide), nt6_o (by decide), nt5_o (by decide), nt4_o (by decide), nt3_o (by decide), nt2_o (by decide), nt1_o (by decide)]
theorem newT_6 {D : Tm} {i : Int} (h0 : 0 ≤ i) (h1 : i < 10) : newT D 6 i = D 6 (10 + i) := by
  unfold newT nt10s nt5s
  rw [nt11_o (by decide), nt10_o (by decide), nt9_o (by decide)]
  unfold nt8 tkO
  rw [if_pos ⟨h0, h1⟩, if_pos (by decide), nt7_o (by decide), nt6_o (by decide), nt5_o (by decide), nt4_o (by decide), nt3_o (by decide), nt2_o (by decide), nt1_o (by decide)]
theorem newT_7 {D : Tm} {i : Int} (h0 : 0 ≤ i) (h1 : i < 10) : newT D 7 i = D 7 (10 + i) := by
  unfold newT nt10s nt5s
  rw [nt11_o (by decide), nt10_o (by decide), nt9_o (by decide)]
  unfold nt8 tkO
  rw [if_pos ⟨h0, h1⟩, if_pos (by decide), nt7_o (by decide), nt6_o (by decide), nt5_o (by decide), nt4_o (by decide), nt3_o (by decide), nt2_o (by decide), nt1_o (by decide)]
theorem newT_8 {D : Tm} {i : Int} (h0 : 0 ≤ i) (h1 : i < 10) : newT D 8 i = D 8 (10 + i) := by
  unfold newT nt10s nt5s
  rw [nt11_o (by decide), nt10_o (by decide), nt9_o (by decide)]
  unfold nt8 tkO
  rw [if_pos ⟨h0, h1⟩, if_pos (by decide), nt7_o (by decide), nt6_o (by decide), nt5_o (by decide), nt4_o (by decide), nt3_o (by decide), nt2_o (by decide), nt1_o (by decide)]
theorem newT_32 {D : Tm} {i : Int} (h0 : 0 ≤ i) (h1 : i < 10) : newT D 32 i = D 9 (10 + i) := by
  unfold newT nt10s nt5s
  rw [nt11_o (by decide), nt10_o (by decide), nt9_o (by decide)]
  unfold nt8 tkO
  rw [if_pos ⟨h0, h1⟩, if_neg (by decide), if_pos rfl, nt7_o (by decide), nt6_o (by decide), nt5_o (by decide), nt4_o (by decide), nt3_o (by decide), nt2_o (by decide), nt1_o (by decide)]
theorem newT_33 {D : Tm} {i : Int} (h0 : 0 ≤ i) (h1 : i < 10) : newT D 33 i = 0 := by
  unfold newT nt10s nt5s
  rw [nt11_o (by decide), nt10_o (by decide), nt9_o (by decide)]
  unfold nt8 tkO
  rw [if_pos ⟨h0, h1⟩, if_neg (by decide), if_neg (by decide), if_pos rfl]
theorem newT_34 {D : Tm} {i : Int} (h0 : 0 ≤ i) (h1 : i < 10) : newT D 34 i = 1112014848 := by
  unfold newT nt10s nt5s
  rw [nt11_o (by decide), nt10_o (by decide), nt9_o (by decide)]
  unfold nt8 tkO
  rw [if_pos ⟨h0, h1⟩, if_neg (by decide), if_neg (by decide), if_neg (by decide), if_pos rfl]
theorem newT_30 {D : Tm} {i : Int} (h0 : 0 ≤ i) (h1 : i < 48) : newT D 30 i = -1 := by
  unfold newT nt10s
  rw [nt11_o (by decide), nt10_o (by decide)]
  unfold nt9 tkW
  rw [blk_nf (by decide), blk_in h0 (by omega)]
theorem newT_31 {D : Tm} {i : Int} (h0 : 0 ≤ i) (h1 : i < 48) : newT D 31 i = -1 := by
  unfold newT nt10s
  rw [nt11_o (by decide), nt10_o (by decide)]
  unfold nt9 tkW
  rw [blk_in h0 (by omega)]
theorem newT_35 {D : Tm} : newT D 35 0 = -1 := by
  unfold newT nt10s
  rw [nt11_o (by decide)]
  unfold nt10
  rw [up_nf (by decide), up_eq]
theorem newT_38 {D : Tm} : newT D 38 0 = 0 := by
  unfold newT nt10s
  rw [nt11_o (by decide)]
  unfold nt10
  rw [up_eq]
theorem newT_o {D : Tm} {f : Nat} {i : Int} (h : (15 ≤ f ∧ f ≤ 29) ∨ f = 36 ∨ f = 37 ∨ 39 ≤ f) : newT D f i = D f i := by
  unfold newT nt10s nt5s
  rw [nt11_o (by omega), nt10_o (by omega), nt9_o (by omega), nt8_o (by omega), nt7_o (by omega), nt6_o (by omega), nt5_o (by omega), nt4_o (by omega), nt3_o (by omega), nt2_o (by omega), nt1_o (by omega)]
theorem nt10_2 {D : Tm} {i : Int} (h0 : 0 ≤ i) (h1 : i < 36) : nt10s D 2 i = D 2 (36 + i) := by
  unfold nt10s nt5s
  rw [nt10_o (by decide), nt9_o (by decide), nt8_o (by decide), nt7_o (by decide), nt6_o (by decide), nt5_o (by decide), nt4_o (by decide)]
  unfold nt3
  rw [blk_in h0 (by omega), Int.sub_zero, nt2_o (by decide), nt1_o (by decide)]
theorem newT_3 {D : Tm} {a b : Int} (ha : 0 ≤ a ∧ a < 6) (hb : 0 ≤ b ∧ b < 6) : newT D 3 (6 * a + b) = wK 6 (wz (fun i => D 2 (36 + i))) a b := by
  unfold newT nt11
  rw [mw_r ha hb]
  have e : wz (nt10s D 2) = wz (fun i => D 2 (36 + i)) := by
    funext x y
    unfold wz
    by_cases c : x = y
    · rw [if_pos c, if_pos c]
    · rw [if_neg c, if_neg c]
      by_cases c2 : (0 ≤ x ∧ x < 6) ∧ 0 ≤ y ∧ y < 6
      · rw [nt10_2 (by omega) (by omega)]
      · rw [if_neg (fun q => c2 q.1), if_neg (fun q => c2 q.1)]
  rw [e]
theorem tkL_0 {D : Tm} : tkL D 0 = D := by
  unfold tkL
  rw [blk_0, blk_0]
theorem tkW_0 {D : Tm} : tkW D 0 = D := by
  unfold tkW
  rw [blk_0, blk_0]
theorem tkO_0 {D : Tm} : tkO D 0 = D := by
  funext f i
  unfold tkO
  rw [if_neg (by omega)]
theorem s_X12_takesOver {U : Um} {D : Tm} (hP : P2 U D) (hn : 0 ≤ D 15 0 ∧ D 15 0 ≤ 1201) (hR : ∀ i, 36 ≤ i → i < 72 → 0 ≤ D 2 i ∧ D 2 i ≤ 240) {post : Um → Prop} (h : ∀ V : Um, P2 V (newT D) → fM U V → post V) : w_X12_takesOver 55 U post := by
  unfold w_X12_takesOver
  refine ⟨8, l_to2 (D := D) (U0 := U) (fun V1 h1 f1 => ?_) 8 0 U (by rw [blk_0]; exact hP) fM_rfl (by decide) (by decide) (by decide)⟩
  refine ⟨7, l_to31 (D := nt1 D) (U0 := U) (fun V2 h2 f2 => ?_) 7 0 V1 (by rw [blk_0]; exact h1) f1 (by decide) (by decide) (by decide)⟩
  refine ⟨37, l_to60 (D := nt2 (nt1 D)) (U0 := U) (fun V3 h3 f3 => ?_) 37 0 V2 (by rw [blk_0]; exact h2) f2 (by decide) (by decide) (by decide)⟩
  refine ⟨9, l_to89 (D := nt3 (nt2 (nt1 D))) (U0 := U) (fun V4 h4 f4 => ?_) 9 0 V3 (by rw [blk_0]; exact h3) f3 (by decide) (by decide) (by decide)⟩
  refine ⟨129, l_to118 (D := nt4 (nt3 (nt2 (nt1 D)))) (U0 := U) (fun V5 h5 f5 => ?_) 129 0 V4 (by rw [blk_0]; exact h4) f4 (by decide) (by decide) (by decide)⟩
  intro V6 e6
  have h5 : P2 V5 (nt5s D) := h5
  have h6 : P2 V6 (nt6 (nt5s D)) := by rw [e6]; exact P2_sI h5 (k := 14) (nt5s D 15 0) (MD_S h5.2 15)
  have f6 : fM U V6 := by rw [e6]; exact fM_trans f5 fM_sI
  refine ⟨(D 15 0).toNat + 1, l_to157 (D := nt6 (nt5s D)) (U0 := U) (n := D 15 0) nt6_14 hn (fun V7 h7 f7 => ?_) _ 0 V6 (by rw [tkL_0]; exact h6) f6 (by decide) hn.1 (by rw [Int.sub_zero]; exact Nat.lt_succ_self _)⟩
  have h7 : P2 V7 (nt7 (nt6 (nt5s D))) := by unfold nt7; rw [nt6_14]; exact h7
  refine ⟨11, l_to205 (D := nt7 (nt6 (nt5s D))) (U0 := U) (fun V8 h8 f8 => ?_) 11 0 V7 (by rw [tkO_0]; exact h7) f7 (by decide) (by decide) (by decide)⟩
  refine ⟨49, l_to310 (D := nt8 (nt7 (nt6 (nt5s D)))) (U0 := U) (fun V9 h9 f9 => ?_) 49 0 V8 (by rw [tkW_0]; exact h8) f8 (by decide) (by decide) (by decide)⟩
  intro Va ea Vb eb
  have h9 : P2 V9 (nt9 (nt8 (nt7 (nt6 (nt5s D))))) := h9
  have ha := P2_sI h9 (k := 35) (V := -1) (-1) rfl
  rw [← ea] at ha
  have hb := P2_sI ha (k := 38) (V := 0) 0 rfl
  rw [← eb] at hb
  have fb : fM U Vb := by rw [eb, ea]; exact fM_trans f9 (fM_trans fM_sI fM_sI)
  have hb : P2 Vb (nt10s D) := hb
  exact s_X12_laysWays hb (fun i i0 i1 => by rw [nt10_2 i0 i1]; exact hR (36 + i) (by omega) (by omega)) (fun W hW fW => h W hW (fM_trans fb fW))
