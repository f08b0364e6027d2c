/-! the class: shelf, lay, look: they return or throw -/
def qx_i (Y : px_Y) (h0 : pe_H) (sz : Nat) (post : Int32 → Um → Prop) : Option Value → pe_H → Nat → Prop := fun v h1 sz1 => ∃ (r : Int32) (U' : Um), v = some (.int r) ∧ post r U' ∧ rF Y h0 U' h1 ∧ sz1 = sz
def qx_l (Y : px_Y) (h0 : pe_H) (sz : Nat) (post : Int64 → Um → Prop) : Option Value → pe_H → Nat → Prop := fun v h1 sz1 => ∃ (r : Int64) (U' : Um), v = some (.long r) ∧ post r U' ∧ rF Y h0 U' h1 ∧ sz1 = sz
def qx_x (Y : px_Y) (h0 : pe_H) (sz : Nat) (px : String → Um → Prop) : String → pe_H → Nat → Prop := fun E h1 sz1 => ∃ U' : Um, px E U' ∧ rF Y h0 U' h1 ∧ sz ≤ sz1
abbrev xRt : String := "java/lang/RuntimeException"
abbrev xNc : ByteArray := prog_31_method_4_code
theorem xNc_0 : decode xNc 0 = .ok (.aload_n 0, 1) := by decide +kernel
theorem xNc_1 : decode xNc 1 = .ok (.aload_n 1, 1) := by decide +kernel
theorem xNc_2 : decode xNc 2 = .ok (.invokespecial 13, 3) := by decide +kernel
theorem xNc_5 : decode xNc 5 = .ok (.return_, 1) := by decide +kernel
theorem fx_316 : Cond.classLink RX11 316 xN ∈ lw_g := lw_in 1207 (by decide +kernel) rfl
theorem fx_323 : Cond.classLink RX11 323 xI ∈ lw_g := lw_in 1273 (by decide +kernel) rfl
theorem fx_iN : Cond.initialized xN ∈ lw_g := lw_in 140 (by decide +kernel) rfl
theorem fx_iI : Cond.initialized xI ∈ lw_g := lw_in 141 (by decide +kernel) rfl
theorem fx_tN : ∀ w ∈ (xq_at RX11 320 xN xRt 13 xNc ["java/lang/Exception"]).filter goodWord, w ∈ lw_tbl := by decide +kernel
theorem fx_tI : ∀ w ∈ (vx_atS RX11 327 xI xNm).filter goodWord, w ∈ lw_tbl := by decide +kernel
theorem fx_aN : ∀ w ∈ (xq_at RX11 320 xN xRt 13 xNc ["java/lang/Exception"]).filter goodWord, w ∈ lw_g := fun w hw => List.mem_filter.mpr ⟨fx_tN w hw, (List.mem_filter.mp hw).2⟩
theorem fx_aI : ∀ w ∈ (vx_atS RX11 327 xI xNm).filter goodWord, w ∈ lw_g := fun w hw => List.mem_filter.mpr ⟨fx_tI w hw, (List.mem_filter.mp hw).2⟩
theorem fx_bN : ∀ w ∈ (xq_at RX11 320 xN xRt 13 xNc ["java/lang/Exception"]).filter (fun w => !goodWord w), w ∈ xwL := by decide +kernel
theorem fx_bI : ∀ w ∈ (vx_atS RX11 327 xI xNm).filter (fun w => !goodWord w), w ∈ xwL := by decide +kernel
theorem fx_gN : ∀ w ∈ Cond.classLink RX11 316 xN :: Cond.initialized xN :: xq_at RX11 320 xN xRt 13 xNc ["java/lang/Exception"], vx_ot w = true := by decide +kernel
theorem fx_gI : ∀ w ∈ Cond.classLink RX11 323 xI :: Cond.initialized xI :: vx_atS RX11 327 xI xNm, vx_ot w = true := by decide +kernel
theorem xR_0 {K : Nat → Nat} : (RX11, 318, "no such shelf", K 223) ∈ ro_R K := List.mem_append_right _ (List.mem_map.mpr ⟨0, by decide, rfl⟩)
theorem xR_1 {K : Nat → Nat} : (RX11, 325, "no such sort, or not so many", K 224) ∈ ro_R K := List.mem_append_right _ (List.mem_map.mpr ⟨1, by decide, rfl⟩)
theorem xR_2 {K : Nat → Nat} : (RX11, 334, "no such shelf, place or official", K 225) ∈ ro_R K := List.mem_append_right _ (List.mem_map.mpr ⟨2, by decide, rfl⟩)
theorem xR_3 {K : Nat → Nat} : (RX11, 343, "no such shelf or place", K 226) ∈ ro_R K := List.mem_append_right _ (List.mem_map.mpr ⟨3, by decide, rfl⟩)
def w_xshelf (a1 a2 a3 : Int32) (U : Um) (post : Int32 → Um → Prop) (px : String → Um → Prop) : Prop :=
  w_X11_isShelf 0 a1 U (fun r U2 => (r = 0 → px xN U2) ∧ (¬ r = 0 → (a2 < 0 → px xI U2) ∧ (¬ a2 < 0 → ((1 : Int32) < a2 → px xI U2) ∧ (¬ (1 : Int32) < a2 → (a3 < 0 → px xI U2) ∧ (¬ a3 < 0 → (a3 ≤ 20 → vp_in a1 3 ∧ oc (uAR U2 0 10 (Int32.toNatClampNeg a1)) = 6 ∧ w_X7_make (uAR U2 0 10 (Int32.toNatClampNeg a1)) a2 a3 U2 (fun U3 => post a3 U3)) ∧ (¬ a3 ≤ 20 → px xI U2))))))
set_option maxHeartbeats 4000000 in
theorem t_X11_shelf {l : Launch} {Y : px_Y} {a1 a2 a3 : Int32} {U : Um} {post : Int32 → Um → Prop} {px : String → Um → Prop} (hl : l.stackTraces = false) (H : w_xshelf a1 a2 a3 U post px) {h0 h : pe_H} {sz : Nat} (hU : rF Y h0 U h) : pmx l Y.1 6 yX11_shelf cX11_shelf 4 (some .int) [.ref (Y.2.1 0), .int a1, .int a2, .int a3] h sz 1 6 (qx_i Y h0 sz post) (qx_x Y h0 sz px) := by
  unfold w_xshelf at H
  refine pmx_of (by decide) (Nat.le_of_ble_eq_true rfl) [some (.ref (Y.2.1 0)), some (.int a1), some (.int a2), some (.int a3)] rfl (fun X hM ht hw hz => ?_)
  have hC := hM.1
  have hR := hM.2.2.1
  have bad : ∀ {U2 : Um} {h2 : pe_H}, px xI U2 → rF Y h0 U2 h2 → pw X Y.1 (pm_A h sz) (pmx_E X Y.1 h sz 1 6 (qx_i Y h0 sz post) (qx_x Y h0 sz px)) 38 [some (.ref (Y.2.1 0)), some (.int a1), some (.int a2), some (.int a3)] [] h2 sz 0 0 := fun {U2} {h2} hp hU2 =>
    px_throw hM ht hw hz hl (text := "no such sort, or not so many") (cls := xI) (ik := 323) (is := 325) (ic := 327) (sa := Y.1.2.2 224) (by decide +kernel) fx_323 fx_iI xR_1 fx_aI fx_bI fx_gI (by decide +kernel : decode cX11_shelf 38 = .ok (.new 323, 3)) (by decide +kernel : decode cX11_shelf 41 = .ok (.dup, 1)) (by decide +kernel : decode cX11_shelf 42 = .ok (.ldc_w 325, 3)) (by decide +kernel : decode cX11_shelf 45 = .ok (.invokespecial 327, 3)) (by decide +kernel : decode cX11_shelf 48 = .ok (.athrow, 1)) (Nat.le_refl 6) (by decide) (by decide) (fun sz1 hs => ⟨U2, hp, hU2, hs⟩)
  refine pr_aload_n hC (by decide +kernel : decode cX11_shelf 0 = .ok (.aload_n 0, 1)) rfl ?_
  refine pr_iload_n hC (by decide +kernel : decode cX11_shelf 1 = .ok (.iload_n 1, 1)) rfl ?_
  refine vc_Vi hC hR [.int a1] fv_X11_313 (by decide +kernel : decode cX11_shelf 2 = .ok (.invokevirtual 313, 3)) hU (t_X11_isShelf rfl H) rfl (by decide) rfl rfl rfl (Nat.le_of_ble_eq_true rfl) (Nat.le_of_ble_eq_true rfl) (Nat.zero_le _) (Nat.zero_le _) (fun r U2 h2 H hU => ?_)
  refine pr_if_ne hC 19 (by decide +kernel : decode cX11_shelf 5 = .ok (.ifCond .ne 14, 3)) (by decide) (fun c => ?_) (fun c => ?_)
  · replace H := H.2 c
    refine pr_iload_n hC (by decide +kernel : decode cX11_shelf 19 = .ok (.iload_n 2, 1)) rfl ?_
    refine pr_if_lt hC 38 (by decide +kernel : decode cX11_shelf 20 = .ok (.ifCond .lt 18, 3)) (by decide) (fun c => bad (H.1 c) hU) (fun c => ?_)
    replace H := H.2 c
    refine pr_iload_n hC (by decide +kernel : decode cX11_shelf 23 = .ok (.iload_n 2, 1)) rfl ?_
    refine pr_iconst hC 1 (by decide +kernel : decode cX11_shelf 24 = .ok (.iconst 1, 1)) rfl ?_
    refine pr_icmp_gt hC 38 (by decide +kernel : decode cX11_shelf 25 = .ok (.if_icmp .gt 13, 3)) (by decide) (fun c => bad (H.1 c) hU) (fun c => ?_)
    replace H := H.2 c
    refine pr_iload_n hC (by decide +kernel : decode cX11_shelf 28 = .ok (.iload_n 3, 1)) rfl ?_
    refine pr_if_lt hC 38 (by decide +kernel : decode cX11_shelf 29 = .ok (.ifCond .lt 9, 3)) (by decide) (fun c => bad (H.1 c) hU) (fun c => ?_)
    replace H := H.2 c
    refine pr_iload_n hC (by decide +kernel : decode cX11_shelf 32 = .ok (.iload_n 3, 1)) rfl ?_
    refine pr_bipush hC 20 (by decide +kernel : decode cX11_shelf 33 = .ok (.bipush 20, 2)) rfl ?_
    refine pr_icmp_le hC 49 (by decide +kernel : decode cX11_shelf 35 = .ok (.if_icmp .le 14, 3)) (by decide) (fun c => ?_) (fun c => bad (H.2 c) hU)
    obtain ⟨q1, q2, H⟩ := H.1 c
    refine pr_aload_n hC (by decide +kernel : decode cX11_shelf 49 = .ok (.aload_n 0, 1)) rfl ?_
    refine pu_g1 hC fg_X11_63 (by decide +kernel : decode cX11_shelf 50 = .ok (.getfield 63, 3)) hU rfl (by decide) rfl (by decide) ?_
    refine pr_iload_n hC (by decide +kernel : decode cX11_shelf 53 = .ok (.iload_n 1, 1)) rfl ?_
    refine pu_aald8 hC (by decide +kernel : decode cX11_shelf 54 = .ok (.aaload, 1)) hU rfl rfl q1 ?_
    refine pr_iload_n hC (by decide +kernel : decode cX11_shelf 55 = .ok (.iload_n 2, 1)) rfl ?_
    refine pr_iload_n hC (by decide +kernel : decode cX11_shelf 56 = .ok (.iload_n 3, 1)) rfl ?_
    refine vc_Vv hC hR [.int a2, .int a3] fv_X11_328 (by decide +kernel : decode cX11_shelf 57 = .ok (.invokevirtual 328, 3)) hU (t_X7_make q2 H) q2 (by decide) rfl rfl rfl (Nat.le_of_ble_eq_true rfl) (Nat.le_of_ble_eq_true rfl) (Nat.zero_le _) (Nat.zero_le _) (fun U3 h3 H hU => ?_)
    refine pr_iload_n hC (by decide +kernel : decode cX11_shelf 60 = .ok (.iload_n 3, 1)) rfl ?_
    exact pr_widen (Nat.zero_le _) (Nat.zero_le _) (px_end (pr_iret hM (by decide +kernel : decode cX11_shelf 61 = .ok (.ireturn, 1)) ⟨a3, U3, rfl, H, hU, rfl⟩))
  · exact px_throwN hM ht hw hz hl (text := "no such shelf") (cls := xN) (Y := xRt) (r := ["java/lang/Exception"]) (ix := 13) (rx := xNc) xNc_0 xNc_1 xNc_2 xNc_5 (ik := 316) (is := 318) (ic := 320) (sa := Y.1.2.2 223) (by decide +kernel) (by decide +kernel) (by decide +kernel) fx_316 fx_iN xR_0 fx_aN fx_bN fx_gN (by decide +kernel : decode cX11_shelf 8 = .ok (.new 316, 3)) (by decide +kernel : decode cX11_shelf 11 = .ok (.dup, 1)) (by decide +kernel : decode cX11_shelf 12 = .ok (.ldc_w 318, 3)) (by decide +kernel : decode cX11_shelf 15 = .ok (.invokespecial 320, 3)) (by decide +kernel : decode cX11_shelf 18 = .ok (.athrow, 1)) (Nat.le_refl 6) (by decide) (by decide) (fun sz1 hs => ⟨U2, H.1 c, hU, hs⟩)
def w_xlook (a1 a2 : Int32) (U : Um) (post : Int64 → Um → Prop) (px : String → Um → Prop) : Prop :=
  w_X11_isShelf 0 a1 U (fun r U2 => (r = 0 → px xN U2) ∧ (¬ r = 0 → vp_in a1 3 ∧ oc (uAR U2 0 10 (Int32.toNatClampNeg a1)) = 6 ∧ w_X7_isPlace (uAR U2 0 10 (Int32.toNatClampNeg a1)) a2 U2 (fun r3 U3 => (r3 = 0 → px xN U3) ∧ (¬ r3 = 0 → oc (uAR U3 0 10 (Int32.toNatClampNeg a1)) = 6 ∧ vp_in a2 20 ∧ post (Int32.toInt64 (uA U3 (uAR U3 0 10 (Int32.toNatClampNeg a1)) 0 (Int32.toNatClampNeg a2))) U3))))
set_option maxHeartbeats 4000000 in
theorem t_X11_look {l : Launch} {Y : px_Y} {a1 a2 : Int32} {U : Um} {post : Int64 → Um → Prop} {px : String → Um → Prop} (hl : l.stackTraces = false) (H : w_xlook a1 a2 U post px) {h0 h : pe_H} {sz : Nat} (hU : rF Y h0 U h) : pmx l Y.1 6 yX11_look cX11_look 3 (some .long) [.ref (Y.2.1 0), .int a1, .int a2] h sz 1 6 (qx_l Y h0 sz post) (qx_x Y h0 sz px) := by
  unfold w_xlook at H
  refine pmx_of (by decide) (Nat.le_of_ble_eq_true rfl) [some (.ref (Y.2.1 0)), some (.int a1), some (.int a2)] rfl (fun X hM ht hw hz => ?_)
  have hC := hM.1
  have hR := hM.2.2.1
  have bad : ∀ {U2 : Um} {h2 : pe_H}, px xN U2 → rF Y h0 U2 h2 → pw X Y.1 (pm_A h sz) (pmx_E X Y.1 h sz 1 6 (qx_l Y h0 sz post) (qx_x Y h0 sz px)) 21 [some (.ref (Y.2.1 0)), some (.int a1), some (.int a2)] [] h2 sz 0 0 := fun {U2} {h2} hp hU2 =>
    px_throwN hM ht hw hz hl (text := "no such shelf or place") (cls := xN) (Y := xRt) (r := ["java/lang/Exception"]) (ix := 13) (rx := xNc) xNc_0 xNc_1 xNc_2 xNc_5 (ik := 316) (is := 343) (ic := 320) (sa := Y.1.2.2 226) (by decide +kernel) (by decide +kernel) (by decide +kernel) fx_316 fx_iN xR_3 fx_aN fx_bN fx_gN (by decide +kernel : decode cX11_look 21 = .ok (.new 316, 3)) (by decide +kernel : decode cX11_look 24 = .ok (.dup, 1)) (by decide +kernel : decode cX11_look 25 = .ok (.ldc_w 343, 3)) (by decide +kernel : decode cX11_look 28 = .ok (.invokespecial 320, 3)) (by decide +kernel : decode cX11_look 31 = .ok (.athrow, 1)) (Nat.le_refl 6) (by decide) (by decide) (fun sz1 hs => ⟨U2, hp, hU2, hs⟩)
  refine pr_aload_n hC (by decide +kernel : decode cX11_look 0 = .ok (.aload_n 0, 1)) rfl ?_
  refine pr_iload_n hC (by decide +kernel : decode cX11_look 1 = .ok (.iload_n 1, 1)) rfl ?_
  refine vc_Vi hC hR [.int a1] fv_X11_313 (by decide +kernel : decode cX11_look 2 = .ok (.invokevirtual 313, 3)) hU (t_X11_isShelf rfl H) rfl (by decide) rfl rfl rfl (Nat.le_of_ble_eq_true rfl) (Nat.le_of_ble_eq_true rfl) (Nat.zero_le _) (Nat.zero_le _) (fun r U2 h2 H hU => ?_)
  refine pr_if_eq hC 21 (by decide +kernel : decode cX11_look 5 = .ok (.ifCond .eq 16, 3)) (by decide) (fun c => bad (H.1 c) hU) (fun c => ?_)
  obtain ⟨q1, q2, H⟩ := H.2 c
  refine pr_aload_n hC (by decide +kernel : decode cX11_look 8 = .ok (.aload_n 0, 1)) rfl ?_
  refine pu_g1 hC fg_X11_63 (by decide +kernel : decode cX11_look 9 = .ok (.getfield 63, 3)) hU rfl (by decide) rfl (by decide) ?_
  refine pr_iload_n hC (by decide +kernel : decode cX11_look 12 = .ok (.iload_n 1, 1)) rfl ?_
  refine pu_aald8 hC (by decide +kernel : decode cX11_look 13 = .ok (.aaload, 1)) hU rfl rfl q1 ?_
  refine pr_iload_n hC (by decide +kernel : decode cX11_look 14 = .ok (.iload_n 2, 1)) rfl ?_
  refine vc_Vi hC hR [.int a2] fv_X11_331 (by decide +kernel : decode cX11_look 15 = .ok (.invokevirtual 331, 3)) hU (t_X7_isPlace q2 H) q2 (by decide) rfl rfl rfl (Nat.le_of_ble_eq_true rfl) (Nat.le_of_ble_eq_true rfl) (Nat.zero_le _) (Nat.zero_le _) (fun r3 U3 h3 H hU => ?_)
  refine pr_if_ne hC 32 (by decide +kernel : decode cX11_look 18 = .ok (.ifCond .ne 14, 3)) (by decide) (fun c => ?_) (fun c => bad (H.1 c) hU)
  obtain ⟨q3, q4, H⟩ := H.2 c
  refine pr_aload_n hC (by decide +kernel : decode cX11_look 32 = .ok (.aload_n 0, 1)) rfl ?_
  refine pu_g1 hC fg_X11_63 (by decide +kernel : decode cX11_look 33 = .ok (.getfield 63, 3)) hU rfl (by decide) rfl (by decide) ?_
  refine pr_iload_n hC (by decide +kernel : decode cX11_look 36 = .ok (.iload_n 1, 1)) rfl ?_
  refine pu_aald8 hC (by decide +kernel : decode cX11_look 37 = .ok (.aaload, 1)) hU rfl rfl q1 ?_
  refine pu_g1 hC fg_X11_340 (by decide +kernel : decode cX11_look 38 = .ok (.getfield 340, 3)) hU q3 (by decide) rfl (by decide) ?_
  refine pr_iload_n hC (by decide +kernel : decode cX11_look 41 = .ok (.iload_n 2, 1)) rfl ?_
  refine pu_iald hC (by decide +kernel : decode cX11_look 42 = .ok (.iaload, 1)) hU q3 rfl q4 ?_
  refine pr_i2l hC (by decide +kernel : decode cX11_look 43 = .ok (.i2l, 1)) ?_
  exact pr_widen (Nat.zero_le _) (Nat.zero_le _) (px_end (pr_lret hM (by decide +kernel : decode cX11_look 44 = .ok (.lreturn, 1)) ⟨_, U3, rfl, H, hU, rfl⟩))
def w_xlay (a1 a2 a3 a4 : Int32) (U : Um) (post : Int32 → Um → Prop) (px : String → Um → Prop) : Prop :=
  w_X11_isShelf 0 a1 U (fun r U2 => (r = 0 → px xN U2) ∧ (¬ r = 0 → vp_in a1 3 ∧ oc (uAR U2 0 10 (Int32.toNatClampNeg a1)) = 6 ∧ w_X7_isPlace (uAR U2 0 10 (Int32.toNatClampNeg a1)) a2 U2 (fun r3 U3 => (r3 = 0 → px xN U3) ∧ (¬ r3 = 0 → oc (uR U3 0 2) = 8 ∧ w_X9_isNamed (uR U3 0 2) 2 a3 U3 (fun r4 U4 => (r4 = 0 → px xN U4) ∧ (¬ r4 = 0 → oc (uAR U4 0 10 (Int32.toNatClampNeg a1)) = 6 ∧ (uI U4 (uAR U4 0 10 (Int32.toNatClampNeg a1)) 2 = a4 → vp_in a2 20 ∧
    (a4 = 0 → oc (uR U4 0 4) = 5 ∧ w_X6_bitsOfForm (uR U4 0 4) a3 U4 (fun x U5 => ∀ U6 : Um, U6 = sA U5 (uAR U4 0 10 (Int32.toNatClampNeg a1)) 0 (va_up (uA U5 (uAR U4 0 10 (Int32.toNatClampNeg a1)) 0) (Int32.toNatClampNeg a2) x) → post 1 U6)) ∧
    (¬ a4 = 0 → oc (uR U4 0 2) = 8 ∧ vp_in a3 10 ∧ ∀ U6 : Um, U6 = sA U4 (uAR U4 0 10 (Int32.toNatClampNeg a1)) 0 (va_up (uA U4 (uAR U4 0 10 (Int32.toNatClampNeg a1)) 0) (Int32.toNatClampNeg a2) (uA U4 (uR U4 0 2) (ki 0 (Int32.toNatClampNeg 2)) (Int32.toNatClampNeg a3))) → post 1 U6)) ∧
    (¬ uI U4 (uAR U4 0 10 (Int32.toNatClampNeg a1)) 2 = a4 → post 0 U4)))))))
set_option maxHeartbeats 4000000 in
theorem t_X11_lay {l : Launch} {Y : px_Y} {a1 a2 a3 a4 : Int32} {U : Um} {post : Int32 → Um → Prop} {px : String → Um → Prop} (hl : l.stackTraces = false) (H : w_xlay a1 a2 a3 a4 U post px) {h0 h : pe_H} {sz : Nat} (hU : rF Y h0 U h) : pmx l Y.1 6 yX11_lay cX11_lay 5 (some .boolean) [.ref (Y.2.1 0), .int a1, .int a2, .int a3, .int a4] h sz 1 6 (qx_i Y h0 sz post) (qx_x Y h0 sz px) := by
  unfold w_xlay at H
  refine pmx_of (by decide) (Nat.le_of_ble_eq_true rfl) [some (.ref (Y.2.1 0)), some (.int a1), some (.int a2), some (.int a3), some (.int a4)] rfl (fun X hM ht hw hz => ?_)
  have hC := hM.1
  have hR := hM.2.2.1
  have bad : ∀ {U2 : Um} {h2 : pe_H}, px xN U2 → rF Y h0 U2 h2 → pw X Y.1 (pm_A h sz) (pmx_E X Y.1 h sz 1 6 (qx_i Y h0 sz post) (qx_x Y h0 sz px)) 33 [some (.ref (Y.2.1 0)), some (.int a1), some (.int a2), some (.int a3), some (.int a4)] [] h2 sz 0 0 := fun {U2} {h2} hp hU2 =>
    px_throwN hM ht hw hz hl (text := "no such shelf, place or official") (cls := xN) (Y := xRt) (r := ["java/lang/Exception"]) (ix := 13) (rx := xNc) xNc_0 xNc_1 xNc_2 xNc_5 (ik := 316) (is := 334) (ic := 320) (sa := Y.1.2.2 225) (by decide +kernel) (by decide +kernel) (by decide +kernel) fx_316 fx_iN xR_2 fx_aN fx_bN fx_gN (by decide +kernel : decode cX11_lay 33 = .ok (.new 316, 3)) (by decide +kernel : decode cX11_lay 36 = .ok (.dup, 1)) (by decide +kernel : decode cX11_lay 37 = .ok (.ldc_w 334, 3)) (by decide +kernel : decode cX11_lay 40 = .ok (.invokespecial 320, 3)) (by decide +kernel : decode cX11_lay 43 = .ok (.athrow, 1)) (Nat.le_refl 6) (by decide) (by decide) (fun sz1 hs => ⟨U2, hp, hU2, hs⟩)
  have good : ∀ {v : Int32} {U2 : Um} {h2 : pe_H}, (v = 0 ∨ v = 1) → post v U2 → rF Y h0 U2 h2 → ∀ pc, decode cX11_lay pc = .ok (.ireturn, 1) → pw X Y.1 (pm_A h sz) (pmx_E X Y.1 h sz 1 6 (qx_i Y h0 sz post) (qx_x Y h0 sz px)) pc [some (.ref (Y.2.1 0)), some (.int a1), some (.int a2), some (.int a3), some (.int a4)] [.int v] h2 sz 0 0 := fun {v} {U2} {h2} hv hp hU2 pc hd =>
    pr_widen (Nat.zero_le _) (Nat.zero_le _) (px_end (pr_zret hM hd (by rcases hv with rfl | rfl <;> rfl) ⟨v, U2, rfl, hp, hU2, rfl⟩))
  refine pr_aload_n hC (by decide +kernel : decode cX11_lay 0 = .ok (.aload_n 0, 1)) rfl ?_
  refine pr_iload_n hC (by decide +kernel : decode cX11_lay 1 = .ok (.iload_n 1, 1)) rfl ?_
  refine vc_Vi hC hR [.int a1] fv_X11_313 (by decide +kernel : decode cX11_lay 2 = .ok (.invokevirtual 313, 3)) hU (t_X11_isShelf rfl H) rfl (by decide) rfl rfl rfl (Nat.le_of_ble_eq_true rfl) (Nat.le_of_ble_eq_true rfl) (Nat.zero_le _) (Nat.zero_le _) (fun r U2 h2 H hU => ?_)
  refine pr_if_eq hC 33 (by decide +kernel : decode cX11_lay 5 = .ok (.ifCond .eq 28, 3)) (by decide) (fun c => bad (H.1 c) hU) (fun c => ?_)
  obtain ⟨q1, q2, H⟩ := H.2 c
  refine pr_aload_n hC (by decide +kernel : decode cX11_lay 8 = .ok (.aload_n 0, 1)) rfl ?_
  refine pu_g1 hC fg_X11_63 (by decide +kernel : decode cX11_lay 9 = .ok (.getfield 63, 3)) hU rfl (by decide) rfl (by decide) ?_
  refine pr_iload_n hC (by decide +kernel : decode cX11_lay 12 = .ok (.iload_n 1, 1)) rfl ?_
  refine pu_aald8 hC (by decide +kernel : decode cX11_lay 13 = .ok (.aaload, 1)) hU rfl rfl q1 ?_
  refine pr_iload_n hC (by decide +kernel : decode cX11_lay 14 = .ok (.iload_n 2, 1)) rfl ?_
  refine vc_Vi hC hR [.int a2] fv_X11_331 (by decide +kernel : decode cX11_lay 15 = .ok (.invokevirtual 331, 3)) hU (t_X7_isPlace q2 H) q2 (by decide) rfl rfl rfl (Nat.le_of_ble_eq_true rfl) (Nat.le_of_ble_eq_true rfl) (Nat.zero_le _) (Nat.zero_le _) (fun r3 U3 h3 H hU => ?_)
  refine pr_if_eq hC 33 (by decide +kernel : decode cX11_lay 18 = .ok (.ifCond .eq 15, 3)) (by decide) (fun c => bad (H.1 c) hU) (fun c => ?_)
  obtain ⟨q3, H⟩ := H.2 c
  refine pr_aload_n hC (by decide +kernel : decode cX11_lay 21 = .ok (.aload_n 0, 1)) rfl ?_
  refine pu_g21 hC fg_X11_28 (by decide +kernel : decode cX11_lay 22 = .ok (.getfield 28, 3)) hU rfl (by decide) rfl rfl ?_
  refine pr_iconst hC 2 (by decide +kernel : decode cX11_lay 25 = .ok (.iconst 2, 1)) rfl ?_
  refine pr_iload_n hC (by decide +kernel : decode cX11_lay 26 = .ok (.iload_n 3, 1)) rfl ?_
  refine vc_Vi hC hR [.int 2, .int a3] fv_X11_114 (by decide +kernel : decode cX11_lay 27 = .ok (.invokevirtual 114, 3)) hU (t_X9_isNamed q3 H) q3 (by decide) rfl rfl rfl (Nat.le_of_ble_eq_true rfl) (Nat.le_of_ble_eq_true rfl) (Nat.zero_le _) (Nat.zero_le _) (fun r4 U4 h4 H hU => ?_)
  refine pr_if_ne hC 44 (by decide +kernel : decode cX11_lay 30 = .ok (.ifCond .ne 14, 3)) (by decide) (fun c => ?_) (fun c => bad (H.1 c) hU)
  obtain ⟨q4, H⟩ := H.2 c
  refine pr_aload_n hC (by decide +kernel : decode cX11_lay 44 = .ok (.aload_n 0, 1)) rfl ?_
  refine pu_g1 hC fg_X11_63 (by decide +kernel : decode cX11_lay 45 = .ok (.getfield 63, 3)) hU rfl (by decide) rfl (by decide) ?_
  refine pr_iload_n hC (by decide +kernel : decode cX11_lay 48 = .ok (.iload_n 1, 1)) rfl ?_
  refine pu_aald8 hC (by decide +kernel : decode cX11_lay 49 = .ok (.aaload, 1)) hU rfl rfl q1 ?_
  refine pu_g0 hC fg_X11_336 (by decide +kernel : decode cX11_lay 50 = .ok (.getfield 336, 3)) hU q4 (by decide) rfl rfl ?_
  refine pr_iload hC (by decide +kernel : decode cX11_lay 53 = .ok (.iload 4, 2)) rfl ?_
  refine pr_icmp_eq hC 60 (by decide +kernel : decode cX11_lay 55 = .ok (.if_icmp .eq 5, 3)) (by decide) (fun c => ?_) (fun c => ?_)
  · obtain ⟨q5, H⟩ := H.1 c
    refine pr_aload_n hC (by decide +kernel : decode cX11_lay 60 = .ok (.aload_n 0, 1)) rfl ?_
    refine pu_g1 hC fg_X11_63 (by decide +kernel : decode cX11_lay 61 = .ok (.getfield 63, 3)) hU rfl (by decide) rfl (by decide) ?_
    refine pr_iload_n hC (by decide +kernel : decode cX11_lay 64 = .ok (.iload_n 1, 1)) rfl ?_
    refine pu_aald8 hC (by decide +kernel : decode cX11_lay 65 = .ok (.aaload, 1)) hU rfl rfl q1 ?_
    refine pu_g1 hC fg_X11_340 (by decide +kernel : decode cX11_lay 66 = .ok (.getfield 340, 3)) hU q4 (by decide) rfl (by decide) ?_
    refine pr_iload_n hC (by decide +kernel : decode cX11_lay 69 = .ok (.iload_n 2, 1)) rfl ?_
    refine pr_iload hC (by decide +kernel : decode cX11_lay 70 = .ok (.iload 4, 2)) rfl ?_
    refine pr_if_eq hC 89 (by decide +kernel : decode cX11_lay 72 = .ok (.ifCond .eq 17, 3)) (by decide) (fun c => ?_) (fun c => ?_)
    · obtain ⟨q6, H⟩ := H.1 c
      refine pr_aload_n hC (by decide +kernel : decode cX11_lay 89 = .ok (.aload_n 0, 1)) rfl ?_
      refine pu_g21 hC fg_X11_40 (by decide +kernel : decode cX11_lay 90 = .ok (.getfield 40, 3)) hU rfl (by decide) rfl rfl ?_
      refine pr_iload_n hC (by decide +kernel : decode cX11_lay 93 = .ok (.iload_n 3, 1)) rfl ?_
      refine vc_Vi hC hR [.int a3] fv_X11_154 (by decide +kernel : decode cX11_lay 94 = .ok (.invokevirtual 154, 3)) hU (t_X6_bitsOfForm q6 H) q6 (by decide) rfl rfl rfl (Nat.le_of_ble_eq_true rfl) (Nat.le_of_ble_eq_true rfl) (Nat.zero_le _) (Nat.zero_le _) (fun x U5 h5 H hU => ?_)
      refine pv_iast hC (by decide +kernel : decode cX11_lay 97 = .ok (.iastore, 1)) hU q4 rfl q5 (fun U6 h6 e6 hU => ?_)
      refine pr_iconst hC 1 (by decide +kernel : decode cX11_lay 98 = .ok (.iconst 1, 1)) rfl ?_
      exact good (Or.inr rfl) (H U6 e6) hU 99 (by decide +kernel)
    · obtain ⟨q6, q7, H⟩ := H.2 c
      refine pr_aload_n hC (by decide +kernel : decode cX11_lay 75 = .ok (.aload_n 0, 1)) rfl ?_
      refine pu_g21 hC fg_X11_28 (by decide +kernel : decode cX11_lay 76 = .ok (.getfield 28, 3)) hU rfl (by decide) rfl rfl ?_
      refine pu_g1 hC fg_X11_118 (by decide +kernel : decode cX11_lay 79 = .ok (.getfield 118, 3)) hU q6 (by decide) rfl (by decide) ?_
      refine pr_iconst hC 2 (by decide +kernel : decode cX11_lay 82 = .ok (.iconst 2, 1)) rfl ?_
      have v2 : vp_in (2 : Int32) 3 := vd_in (by decide)
      refine pu_aald6 hC (by decide +kernel : decode cX11_lay 83 = .ok (.aaload, 1)) hU q6 rfl v2 ?_
      refine pr_iload_n hC (by decide +kernel : decode cX11_lay 84 = .ok (.iload_n 3, 1)) rfl ?_
      refine pu_iald7 hC (by decide +kernel : decode cX11_lay 85 = .ok (.iaload, 1)) hU q6 rfl (vp_lt v2) q7 ?_
      refine pr_goto hC 97 (by decide +kernel : decode cX11_lay 86 = .ok (.goto 11, 3)) (by decide) ?_
      refine pv_iast hC (by decide +kernel : decode cX11_lay 97 = .ok (.iastore, 1)) hU q4 rfl q5 (fun U6 h6 e6 hU => ?_)
      refine pr_iconst hC 1 (by decide +kernel : decode cX11_lay 98 = .ok (.iconst 1, 1)) rfl ?_
      exact good (Or.inr rfl) (H U6 e6) hU 99 (by decide +kernel)
  · replace H := H.2 c
    refine pr_iconst hC 0 (by decide +kernel : decode cX11_lay 58 = .ok (.iconst 0, 1)) rfl ?_
    exact good (Or.inl rfl) H hU 59 (by decide +kernel)
