/-! the class: undo, feed, end -/
theorem back_30 {T : Tm} {a m k : Int} (k0 : 0 ≤ k) (k1 : k < 48) : backT T a m 30 k = T 36 (a + k) := by
  unfold backT
  rw [up_nf (f := 30) (by decide), blk_nf (by decide), blk_nf (by decide), blk_nf (by decide), blk_nf (by decide), blk_in k0 (by omega), Int.sub_zero]
theorem back_31 {T : Tm} {a m k : Int} (k0 : 0 ≤ k) (k1 : k < 48) : backT T a m 31 k = T 36 (a + 48 + k) := by
  unfold backT
  rw [up_nf (f := 31) (by decide), blk_nf (by decide), blk_nf (by decide), blk_nf (by decide), blk_in k0 (by omega), Int.sub_zero]
theorem back_32 {T : Tm} {a m k : Int} (k0 : 0 ≤ k) (k1 : k < 10) : backT T a m 32 k = T 36 (a + 96 + k) := by
  unfold backT
  rw [up_nf (f := 32) (by decide), blk_nf (by decide), blk_nf (by decide), blk_in k0 (by omega), Int.sub_zero]
theorem back_33 {T : Tm} {a m k : Int} (k0 : 0 ≤ k) (k1 : k < 10) : backT T a m 33 k = T 36 (a + 106 + k) := by
  unfold backT
  rw [up_nf (f := 33) (by decide), blk_nf (by decide), blk_in k0 (by omega), Int.sub_zero]
theorem back_34 {T : Tm} {a m k : Int} (k0 : 0 ≤ k) (k1 : k < 10) : backT T a m 34 k = T 37 (10 * m + k) := by
  unfold backT
  rw [up_nf (f := 34) (by decide), blk_in k0 (by omega), Int.sub_zero]
theorem back_35 {T : Tm} {a m : Int} : backT T a m 35 0 = T 36 (a + 116) := by
  unfold backT
  rw [up_eq]
theorem back_o {T : Tm} {a m : Int} {k : Nat} (h : k < 30 ∨ 35 < k) : backT T a m k = T k := by
  unfold backT
  funext j
  rw [up_nf (by omega), blk_nf (by omega), blk_nf (by omega), blk_nf (by omega), blk_nf (by omega), blk_nf (by omega)]
theorem x_X11_undo {U : Um} {T : Tm} {w : Nat} (hA : CA U T w) (hI : I1 T) {post : Int32 → Um → Prop} (h : ∀ V : Um, CA V (undoT T) w → fX P55 U V → post (jI (if T 38 0 = 0 then -1 else T 38 0 - 1)) V) : w_X11_undo 0 U post := by
  have hC := hA.1
  obtain ⟨old, ho, u8, u9, hn, hr⟩ := hA.2.2.1
  unfold undoT at h
  refine br_lt 0 (T 38 0) rfl u9 ⟨by decide, by decide⟩ ⟨by omega, by omega⟩ (fun c U1 e1 => ?_) (fun c => ?_)
  case refine_2 =>
    have := h U
    rw [if_pos (by omega), cif_t (by omega)] at this
    exact this hA fX_rfl
  have f1 : fX (fun o k => o = 0 ∧ k = 9) U U1 := by rw [e1]; exact fX_sI ⟨rfl, rfl⟩
  have hp := PT_x f1 hC.1
  have v8 : uI U1 0 8 = jI old := by rw [e1, uI_sI, if_neg (by decide), u8]
  have v9 : uI U1 0 9 = jI (T 38 0 - 1) := by
    rw [e1, uI_sI, if_pos ⟨rfl, rfl⟩, u9, show T 38 0 - 1 = T 38 0 + (-1) by omega]
    exact jsub rfl rfl
  have ex := j8 v8 v9 (by omega) (by omega)
  rw [ex]
  have m8 : 0 ≤ (old + (T 38 0 - 1)) % 8 ∧ (old + (T 38 0 - 1)) % 8 < 8 := by omega
  have hp4 : uR U1 0 4 = 42 := hp.2.1.2.2.2.2.1
  have ra := r_p hp (E := jI ((old + (T 38 0 - 1)) % 8)) rfl m8.1 m8.2
  refine ⟨oc_of hp4 rfl, jvp _ rfl m8.1 m8.2 (by decide), oc_of ra (oc_p (by omega)), ?_⟩
  rw [hp4, ra]
  refine x_copy (by omega) (fun V fV w1 w2 w3 w5 => ?_)
  have g1 := fun k => f1.2.2 (44 + ((old + (T 38 0 - 1)) % 8).toNat) k (by omega)
  have r1 := CRo_x (g1 1).1 (fun k _ _ => (g1 k).2.2.1) (g1 5).2.2.2.2 (hr (T 38 0 - 1) (by omega) (by omega))
  have rV := CRo_copy hI w1 w2 w3 w5 r1
  have fUV : fX (fun o k => (o = 0 ∧ k = 9) ∨ (o = 42 ∧ 1 ≤ k ∧ k ≤ 7)) U V := fX_trans (fX_w (fun o k q => Or.inl q) f1) (fX_w (fun o k q => Or.inr q) fV)
  have := h V
  rw [if_neg (by omega), cif_f (by omega)] at this
  have eo : ∀ k, k < 30 → backT (up T 38 0 (T 38 0 - 1)) (117 * (T 38 0 - 1)) (T 38 0 - 1) k = T k := fun k hk => by
    rw [back_o (by omega)]
    exact funext fun j => up_nf (by omega)
  have e36 : backT (up T 38 0 (T 38 0 - 1)) (117 * (T 38 0 - 1)) (T 38 0 - 1) 36 = T 36 := by
    rw [back_o (by decide)]
    exact funext fun j => up_nf (by decide)
  have e37 : backT (up T 38 0 (T 38 0 - 1)) (117 * (T 38 0 - 1)) (T 38 0 - 1) 37 = T 37 := by
    rw [back_o (by decide)]
    exact funext fun j => up_nf (by decide)
  have e38 : backT (up T 38 0 (T 38 0 - 1)) (117 * (T 38 0 - 1)) (T 38 0 - 1) 38 0 = T 38 0 - 1 := by
    rw [back_o (by decide), up_eq]
  have e5 : ∀ k, 39 ≤ k → backT (up T 38 0 (T 38 0 - 1)) (117 * (T 38 0 - 1)) (T 38 0 - 1) k = T k := fun k hk => by
    rw [back_o (by omega)]
    exact funext fun j => up_nf (by omega)
  have i1 : I1 (backT (up T 38 0 (T 38 0 - 1)) (117 * (T 38 0 - 1)) (T 38 0 - 1)) := I1_c (fun k j hk => by rw [eo k (by omega)]) hI
  have x9 : uI V 0 9 = jI (T 38 0 - 1) := by rw [(fV.2.2 0 9 (by omega)).1, v9]
  refine pst x9 (this ⟨⟨PT_x fUV hC.1, CW_c (fun k hk => eo k (by omega)) (CW_x hI hC.1.1 fUV (fun o k q => by omega) hC.2.1), ?_⟩, ?_, ?_, ?_, ?_⟩ (fX_w (fun o k q => by show o < 55; omega) fUV))
  · refine CRo_f i1 ?_ (fun k k0 k1 => ?_) (fun k k0 k1 => ?_) (fun k k0 k1 => ?_) (fun k k0 k1 => ?_) (fun k k0 k1 => ?_) (CRo_c (fun k hk => eo k (by omega)) rV)
    · rw [back_35, up_nf (by decide)]
    · rw [back_30 k0 k1, up_nf (by decide)]
    · rw [back_31 k0 k1, up_nf (by decide)]
    · rw [back_32 k0 k1, up_nf (by decide)]
    · rw [back_33 k0 k1, up_nf (by decide)]
    · rw [back_34 k0 k1, up_nf (by decide)]
  · rw [(fUV.2.2 42 9 (by omega)).2.2.1]
    exact hA.2.1
  · refine ⟨old, ho, by rw [(fUV.2.2 0 8 (by omega)).1, u8], by rw [x9, e38], by rw [e38]; omega, fun i i0 i1' => ?_⟩
    rw [e38] at i1'
    have f := fun k => fUV.2.2 (44 + ((old + i) % 8).toNat) k (by omega)
    have r := CRo_c (fun k hk => eo k (by omega)) (CRo_x (f 1).1 (fun k _ _ => (f k).2.2.1) (f 5).2.2.2.2 (hr i i0 (by omega)))
    rw [e36, e37]
    exact r
  · exact CTa_x fUV (fun o k q => by omega) (eo 16 (by decide)) (eo 17 (by decide)) (eo 18 (by decide)) (eo 19 (by decide)) hA.2.2.2.1
  · exact CSa_x fUV (fun o k q => by omega) (e5 50 (by decide)) (e5 51 (by decide)) (e5 52 (by decide)) (e5 53 (by decide)) hA.2.2.2.2
/-- what the tape alone changes -/
theorem CA_tape {U V : Um} {T T2 : Tm} {w : Nat} (hA : CA U T w) (hI : I1 T) (hf : fX P1 U V) (e : ∀ k, k ≠ 16 → k ≠ 17 → T2 k = T k) (hT : CTb V T2) : CA V T2 w := by
  obtain ⟨b1, b2, b3, b4⟩ := hA.2
  refine ⟨CC_T (fun k hk => e k (by omega) (by omega)) (CC_x hI hf (fun o k q => by omega) hA.1), ?_, CPa_x hf (fun o k q => by omega) (fun k hk => e k (by omega) (by omega)) (e 36 (by decide) (by decide)) (e 37 (by decide) (by decide)) (e 38 (by decide) (by decide)) b2, ⟨hT, ?_, ?_⟩, CSa_x hf (fun o k q => by omega) (e 50 (by decide) (by decide)) (e 51 (by decide) (by decide)) (e 52 (by decide) (by decide)) (e 53 (by decide) (by decide)) b4⟩
  · rw [(hf.2.2 42 9 (by omega)).2.2.1]
    exact b1
  · rw [(hf.2.2 2 2 (by omega)).1, e 18 (by decide) (by decide)]
    exact b3.2.1
  · rw [(hf.2.2 2 3 (by omega)).1, e 19 (by decide) (by decide)]
    exact b3.2.2
theorem feed_nf {T : Tm} {v m : Int} {k : Nat} (h : k ≠ 16) (h2 : k ≠ 17) : feedF T v m k = T k := by
  funext j
  unfold feedF
  rw [blk_nf h, up_nf h2]
theorem feed_17 {T : Tm} {v m : Int} : feedF T v m 17 0 = T 17 0 + m := by
  unfold feedF
  rw [blk_nf (by decide), up_eq]
theorem x_X11_feed {U : Um} {T : Tm} {w : Nat} (hA : CA U T w) (hI : I1 T) (ht : It T) {a1 a2 a3 a4 a5 : Int32} {a b c d e : Int} (e1 : a1 = jI a) (e2 : a2 = jI b) (e3 : a3 = jI c) (e4 : a4 = jI d) (e5 : a5 = jI e) {post : Int32 → Um → Prop} (h : ∀ V : Um, CA V (cif (T 17 0 + 20 ≤ 1200) (feedT T a b c d e) T) w → fX P55 U V → post (jI (cif (T 17 0 + 20 ≤ 1200) (T 17 0 + 20) (-1))) V) : w_X11_feed 0 a1 a2 a3 a4 a5 U post := by
  have hC := hA.1
  have t0 := ht.1
  have hT := hA.2.2.2.1.1
  unfold w_X11_feed
  rw [r_00 hC]
  refine ⟨rfl, br_le (T 17 0 + 20) 1200 (jadd hT.1 rfl) rfl ⟨by omega, by omega⟩ ⟨by decide, by decide⟩ (fun q => ⟨rfl, ?_⟩) (fun q => ?_)⟩
  case refine_2 =>
    have := h U
    rw [cif_f (by omega), cif_f (by omega)] at this
    exact this hA fX_rfl
  refine x_app hT rfl e1 (by omega) (fun V1 h1 f1 => ?_)
  rw [f1.1 0 0, r_00 hC]
  refine ⟨rfl, x_app h1 rfl e2 (by rw [feed_17]; omega) (fun V2 h2 f2 => ?_)⟩
  have f2 := fX_trans f1 f2
  rw [f2.1 0 0, r_00 hC]
  refine ⟨rfl, x_app h2 rfl e3 (by rw [feed_17, feed_17]; omega) (fun V3 h3 f3 => ?_)⟩
  have f3 := fX_trans f2 f3
  rw [f3.1 0 0, r_00 hC]
  refine ⟨rfl, x_app h3 rfl e4 (by rw [feed_17, feed_17, feed_17]; omega) (fun V4 h4 f4 => ?_)⟩
  have f4 := fX_trans f3 f4
  rw [f4.1 0 0, r_00 hC]
  refine ⟨rfl, x_app h4 rfl e5 (by rw [feed_17, feed_17, feed_17, feed_17]; omega) (fun V5 h5 f5 => ?_)⟩
  have f5 := fX_trans f4 f5
  rw [f5.1 0 0, r_00 hC]
  have := h V5
  rw [cif_t (by omega), cif_t (by omega)] at this
  have aV : CA V5 (feedT T a b c d e) w := CA_tape hA hI f5 (fun k k1 k2 => by unfold feedT; rw [feed_nf k1 k2, feed_nf k1 k2, feed_nf k1 k2, feed_nf k1 k2, feed_nf k1 k2]) h5
  refine ⟨rfl, pst (x := T 17 0 + 20) ?_ (this aV (fX_w (fun o k q => by show o < 55; omega) f5))⟩
  rw [h5.1, feed_17, feed_17, feed_17, feed_17, feed_17]
  congr 1
  omega
theorem x_X11_end {U : Um} {T : Tm} {w : Nat} (hA : CA U T w) (hI : I1 T) (ht : It T) {a1 : Int32} {n : Int} (e1 : a1 = jI n) (rn : r32 n) {post : Int32 → Um → Prop} (h1 : ∀ V : Um, CA V (up T 17 0 n) w → fX P55 U V → (0 ≤ n ∧ n ≤ T 17 0) → post 1 V) (h0 : ¬ (0 ≤ n ∧ n ≤ T 17 0) → post 0 U) : w_X11_end 0 a1 U post := by
  have hC := hA.1
  have t0 := ht.1
  have hT := hA.2.2.2.1.1
  unfold w_X11_end
  rw [r_00 hC]
  refine br_lt n 0 e1 rfl rn ⟨by decide, by decide⟩ (fun c => h0 (by omega)) (fun c => ⟨rfl, br_le n (T 17 0) e1 hT.1 rn ⟨by omega, by omega⟩ (fun c2 => ⟨rfl, fun V eV => ?_⟩) (fun c2 => h0 (by omega))⟩)
  have fV : fX P1 U V := by rw [eV]; exact fX_sI ⟨rfl, Or.inr rfl⟩
  refine h1 V (CA_tape hA hI fV (fun k k1 k2 => funext fun j => up_nf k2) ⟨?_, fun i i0 i1 => ?_⟩) (fX_w (fun o k q => by show o < 55; omega) fV) ⟨c, c2⟩
  · rw [eV, uI_sI, if_pos ⟨rfl, rfl⟩, up_eq, e1]
  · rw [up_eq] at i1
    rw [up_nf (by decide), eV]
    exact hT.2 i i0 (by omega)
