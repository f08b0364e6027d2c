def w_X11_best (o : Nat) (a1 : Int32) (a2 : Int32) (U : Um) (post : Int32 → Um → Prop) : Prop :=
  oc (uR U o 6) = 0 ∧ w_X1_nearest (uR U o 6) a1 a2 U (fun r_3 U_2 => post r_3 U_2)
set_option maxHeartbeats 4000000 in
theorem t_X11_best {l : Launch} {Y : px_Y} {o : Nat} {a1 : Int32} {a2 : Int32} {U : Um} {post : Int32 → Um → Prop} (ho : oc o = 9) (H : w_X11_best o a1 a2 U post) : um l Y 5 yX11_best cX11_best 3 (some (.int)) [.ref (Y.2.1 o), .int a1, .int a2] U (pq_i post) := by
  unfold w_X11_best at H
  refine um_of (by decide) (Nat.le_of_ble_eq_true rfl) [some (.ref (Y.2.1 o)), some (.int a1), some (.int a2)] rfl (fun X h0 hh sz hM hU => ?_)
  have hC := hM.1
  have hR := hM.2.2.1
  refine pr_aload_n hC (by decide +kernel : decode cX11_best 0 = .ok (.aload_n 0, 1)) rfl ?_
  refine pu_g21 hC fg_X11_52 (by decide +kernel : decode cX11_best 1 = .ok (.getfield 52, 3)) hU ho (by decide) rfl rfl ?_
  have q_1 := H.1
  replace H := H.2
  refine pr_iload_n hC (by decide +kernel : decode cX11_best 4 = .ok (.iload_n 1, 1)) rfl ?_
  refine pr_iload_n hC (by decide +kernel : decode cX11_best 5 = .ok (.iload_n 2, 1)) rfl ?_
  refine vc_Vi hC hR [.int a1, .int a2] fv_X11_249 (by decide +kernel : decode cX11_best 6 = .ok (.invokevirtual 249, 3)) hU (t_X1_nearest q_1 H) q_1 (by decide) rfl rfl rfl (Nat.le_of_ble_eq_true rfl) (Nat.le_of_ble_eq_true rfl) (Nat.le_refl 0) (Nat.le_refl 0) (fun r_3 U_2 h H hU => ?_)
  exact pv_iret hM (by decide +kernel : decode cX11_best 9 = .ok (.ireturn, 1)) hU H
def w_X11_extra (o : Nat) (a1 : Int32) (a2 : Int32) (a3 : Int32) (U : Um) (post : Int32 → Um → Prop) : Prop :=
  oc (uR U o 2) = 8 ∧ w_X9_isSeat (uR U o 2) a1 a2 U (fun r_3 U_2 => (r_3 = 0 → post (-1) U_2) ∧ (¬ r_3 = 0 → oc (uR U_2 o 2) = 8 ∧ w_X9_isNamed (uR U_2 o 2) 2 a3 U_2 (fun r_6 U_5 => (r_6 = 0 → post (-1) U_5) ∧ (¬ r_6 = 0 → oc (uR U_5 o 4) = 5 ∧ w_X6_detour (uR U_5 o 4) a1 a2 a3 U_5 (fun r_9 U_8 => post r_9 U_8)))))
set_option maxHeartbeats 4000000 in
theorem t_X11_extra {l : Launch} {Y : px_Y} {o : Nat} {a1 : Int32} {a2 : Int32} {a3 : Int32} {U : Um} {post : Int32 → Um → Prop} (ho : oc o = 9) (H : w_X11_extra o a1 a2 a3 U post) : um l Y 3 yX11_extra cX11_extra 4 (some (.int)) [.ref (Y.2.1 o), .int a1, .int a2, .int a3] U (pq_i post) := by
  unfold w_X11_extra at H
  refine um_of (by decide) (Nat.le_of_ble_eq_true rfl) [some (.ref (Y.2.1 o)), some (.int a1), some (.int a2), some (.int a3)] rfl (fun X h0 hh sz hM hU => ?_)
  have hC := hM.1
  have hR := hM.2.2.1
  refine pr_aload_n hC (by decide +kernel : decode cX11_extra 0 = .ok (.aload_n 0, 1)) rfl ?_
  refine pu_g21 hC fg_X11_28 (by decide +kernel : decode cX11_extra 1 = .ok (.getfield 28, 3)) hU ho (by decide) rfl rfl ?_
  have q_1 := H.1
  replace H := H.2
  refine pr_iload_n hC (by decide +kernel : decode cX11_extra 4 = .ok (.iload_n 1, 1)) rfl ?_
  refine pr_iload_n hC (by decide +kernel : decode cX11_extra 5 = .ok (.iload_n 2, 1)) rfl ?_
  refine vc_Vi hC hR [.int a1, .int a2] fv_X11_196 (by decide +kernel : decode cX11_extra 6 = .ok (.invokevirtual 196, 3)) hU (t_X9_isSeat q_1 H) q_1 (by decide) rfl rfl rfl (Nat.le_of_ble_eq_true rfl) (Nat.le_of_ble_eq_true rfl) (Nat.le_refl 0) (Nat.le_refl 0) (fun r_3 U_2 h H hU => ?_)
  refine pr_if_eq hC 24 (by decide +kernel : decode cX11_extra 9 = .ok (.ifCond .eq 15, 3)) (by decide) (fun c_9 => ?_) (fun c_9 => ?_)
  · replace H := H.1 c_9
    refine pr_iconst hC (-1) (by decide +kernel : decode cX11_extra 24 = .ok (.iconst (-1), 1)) rfl ?_
    exact pv_iret hM (by decide +kernel : decode cX11_extra 25 = .ok (.ireturn, 1)) hU H
  replace H := H.2 c_9
  refine pr_aload_n hC (by decide +kernel : decode cX11_extra 12 = .ok (.aload_n 0, 1)) rfl ?_
  refine pu_g21 hC fg_X11_28 (by decide +kernel : decode cX11_extra 13 = .ok (.getfield 28, 3)) hU ho (by decide) rfl rfl ?_
  have q_4 := H.1
  replace H := H.2
  refine pr_iconst hC (2) (by decide +kernel : decode cX11_extra 16 = .ok (.iconst 2, 1)) rfl ?_
  refine pr_iload_n hC (by decide +kernel : decode cX11_extra 17 = .ok (.iload_n 3, 1)) rfl ?_
  refine vc_Vi hC hR [.int 2, .int a3] fv_X11_114 (by decide +kernel : decode cX11_extra 18 = .ok (.invokevirtual 114, 3)) hU (t_X9_isNamed q_4 H) q_4 (by decide) rfl rfl rfl (Nat.le_of_ble_eq_true rfl) (Nat.le_of_ble_eq_true rfl) (Nat.le_refl 0) (Nat.le_refl 0) (fun r_6 U_5 h H hU => ?_)
  refine pr_if_ne hC 26 (by decide +kernel : decode cX11_extra 21 = .ok (.ifCond .ne 5, 3)) (by decide) (fun c_21 => ?_) (fun c_21 => ?_)
  · replace H := H.2 c_21
    refine pr_aload_n hC (by decide +kernel : decode cX11_extra 26 = .ok (.aload_n 0, 1)) rfl ?_
    refine pu_g21 hC fg_X11_40 (by decide +kernel : decode cX11_extra 27 = .ok (.getfield 40, 3)) hU ho (by decide) rfl rfl ?_
    have q_7 := H.1
    replace H := H.2
    refine pr_iload_n hC (by decide +kernel : decode cX11_extra 30 = .ok (.iload_n 1, 1)) rfl ?_
    refine pr_iload_n hC (by decide +kernel : decode cX11_extra 31 = .ok (.iload_n 2, 1)) rfl ?_
    refine pr_iload_n hC (by decide +kernel : decode cX11_extra 32 = .ok (.iload_n 3, 1)) rfl ?_
    refine vc_Vi hC hR [.int a1, .int a2, .int a3] fv_X11_252 (by decide +kernel : decode cX11_extra 33 = .ok (.invokevirtual 252, 3)) hU (t_X6_detour q_7 H) q_7 (by decide) rfl rfl rfl (Nat.le_of_ble_eq_true rfl) (Nat.le_of_ble_eq_true rfl) (Nat.le_refl 0) (Nat.le_refl 0) (fun r_9 U_8 h H hU => ?_)
    exact pv_iret hM (by decide +kernel : decode cX11_extra 36 = .ok (.ireturn, 1)) hU H
  replace H := H.1 c_21
  refine pr_iconst hC (-1) (by decide +kernel : decode cX11_extra 24 = .ok (.iconst (-1), 1)) rfl ?_
  exact pv_iret hM (by decide +kernel : decode cX11_extra 25 = .ok (.ireturn, 1)) hU H
def w_X11_fee (o : Nat) (a1 : Int32) (a2 : Int32) (a3 : Int32) (U : Um) (post : Int64 → Um → Prop) : Prop :=
  oc (uR U o 2) = 8 ∧ w_X9_isSeat (uR U o 2) a1 a2 U (fun r_3 U_2 => (r_3 = 0 → post (-9223372036854775808) U_2) ∧ (¬ r_3 = 0 → oc (uR U_2 o 2) = 8 ∧ w_X9_isNamed (uR U_2 o 2) 2 a3 U_2 (fun r_6 U_5 => (r_6 = 0 → post (-9223372036854775808) U_5) ∧ (¬ r_6 = 0 → oc (uR U_5 o 4) = 5 ∧ w_X6_pay (uR U_5 o 4) a1 a2 a3 U_5 (fun r_9 U_8 => post r_9 U_8)))))
set_option maxHeartbeats 4000000 in
theorem t_X11_fee {l : Launch} {Y : px_Y} {o : Nat} {a1 : Int32} {a2 : Int32} {a3 : Int32} {U : Um} {post : Int64 → Um → Prop} (ho : oc o = 9) (H : w_X11_fee o a1 a2 a3 U post) : um l Y 4 yX11_fee cX11_fee 4 (some (.long)) [.ref (Y.2.1 o), .int a1, .int a2, .int a3] U (pq_l post) := by
  unfold w_X11_fee at H
  refine um_of (by decide) (Nat.le_of_ble_eq_true rfl) [some (.ref (Y.2.1 o)), some (.int a1), some (.int a2), some (.int a3)] rfl (fun X h0 hh sz hM hU => ?_)
  have hC := hM.1
  have hR := hM.2.2.1
  refine pr_aload_n hC (by decide +kernel : decode cX11_fee 0 = .ok (.aload_n 0, 1)) rfl ?_
  refine pu_g21 hC fg_X11_28 (by decide +kernel : decode cX11_fee 1 = .ok (.getfield 28, 3)) hU ho (by decide) rfl rfl ?_
  have q_1 := H.1
  replace H := H.2
  refine pr_iload_n hC (by decide +kernel : decode cX11_fee 4 = .ok (.iload_n 1, 1)) rfl ?_
  refine pr_iload_n hC (by decide +kernel : decode cX11_fee 5 = .ok (.iload_n 2, 1)) rfl ?_
  refine vc_Vi hC hR [.int a1, .int a2] fv_X11_196 (by decide +kernel : decode cX11_fee 6 = .ok (.invokevirtual 196, 3)) hU (t_X9_isSeat q_1 H) q_1 (by decide) rfl rfl rfl (Nat.le_of_ble_eq_true rfl) (Nat.le_of_ble_eq_true rfl) (Nat.le_refl 0) (Nat.le_refl 0) (fun r_3 U_2 h H hU => ?_)
  refine pr_if_eq hC 24 (by decide +kernel : decode cX11_fee 9 = .ok (.ifCond .eq 15, 3)) (by decide) (fun c_9 => ?_) (fun c_9 => ?_)
  · replace H := H.1 c_9
    refine pr_ldc2 hC (-9223372036854775808) (by decide +kernel : decode cX11_fee 24 = .ok (.ldc2_w 255, 3)) fk_X11_255 ?_
    exact pv_lret hM (by decide +kernel : decode cX11_fee 27 = .ok (.lreturn, 1)) hU H
  replace H := H.2 c_9
  refine pr_aload_n hC (by decide +kernel : decode cX11_fee 12 = .ok (.aload_n 0, 1)) rfl ?_
  refine pu_g21 hC fg_X11_28 (by decide +kernel : decode cX11_fee 13 = .ok (.getfield 28, 3)) hU ho (by decide) rfl rfl ?_
  have q_4 := H.1
  replace H := H.2
  refine pr_iconst hC (2) (by decide +kernel : decode cX11_fee 16 = .ok (.iconst 2, 1)) rfl ?_
  refine pr_iload_n hC (by decide +kernel : decode cX11_fee 17 = .ok (.iload_n 3, 1)) rfl ?_
  refine vc_Vi hC hR [.int 2, .int a3] fv_X11_114 (by decide +kernel : decode cX11_fee 18 = .ok (.invokevirtual 114, 3)) hU (t_X9_isNamed q_4 H) q_4 (by decide) rfl rfl rfl (Nat.le_of_ble_eq_true rfl) (Nat.le_of_ble_eq_true rfl) (Nat.le_refl 0) (Nat.le_refl 0) (fun r_6 U_5 h H hU => ?_)
  refine pr_if_ne hC 28 (by decide +kernel : decode cX11_fee 21 = .ok (.ifCond .ne 7, 3)) (by decide) (fun c_21 => ?_) (fun c_21 => ?_)
  · replace H := H.2 c_21
    refine pr_aload_n hC (by decide +kernel : decode cX11_fee 28 = .ok (.aload_n 0, 1)) rfl ?_
    refine pu_g21 hC fg_X11_40 (by decide +kernel : decode cX11_fee 29 = .ok (.getfield 40, 3)) hU ho (by decide) rfl rfl ?_
    have q_7 := H.1
    replace H := H.2
    refine pr_iload_n hC (by decide +kernel : decode cX11_fee 32 = .ok (.iload_n 1, 1)) rfl ?_
    refine pr_iload_n hC (by decide +kernel : decode cX11_fee 33 = .ok (.iload_n 2, 1)) rfl ?_
    refine pr_iload_n hC (by decide +kernel : decode cX11_fee 34 = .ok (.iload_n 3, 1)) rfl ?_
    refine vc_Vl hC hR [.int a1, .int a2, .int a3] fv_X11_257 (by decide +kernel : decode cX11_fee 35 = .ok (.invokevirtual 257, 3)) hU (t_X6_pay q_7 H) q_7 (by decide) rfl rfl rfl (Nat.le_of_ble_eq_true rfl) (Nat.le_of_ble_eq_true rfl) (Nat.le_refl 0) (Nat.le_refl 0) (fun r_9 U_8 h H hU => ?_)
    exact pv_lret hM (by decide +kernel : decode cX11_fee 38 = .ok (.lreturn, 1)) hU H
  replace H := H.1 c_21
  refine pr_ldc2 hC (-9223372036854775808) (by decide +kernel : decode cX11_fee 24 = .ok (.ldc2_w 255, 3)) fk_X11_255 ?_
  exact pv_lret hM (by decide +kernel : decode cX11_fee 27 = .ok (.lreturn, 1)) hU H
def w_X11_fees (o : Nat) (a1 : Int32) (U : Um) (post : Int64 → Um → Prop) : Prop :=
  (∀ K_1 : Um → Prop, (∀ (U_2 : Um), (oc (uR U_2 o 4) = 5 ∧ w_X6_payOfAll (uR U_2 o 4) a1 U_2 (fun r_5 U_4 => post r_5 U_4)) → K_1 U_2) → (a1 = (-1) → K_1 U) ∧ (¬ a1 = (-1) → oc (uR U o 2) = 8 ∧ w_X9_isNamed (uR U o 2) 2 a1 U (fun r_8 U_7 => (r_8 = 0 → post (-9223372036854775808) U_7) ∧ (¬ r_8 = 0 → K_1 U_7))))
set_option maxHeartbeats 4000000 in
theorem t_X11_fees {l : Launch} {Y : px_Y} {o : Nat} {a1 : Int32} {U : Um} {post : Int64 → Um → Prop} (ho : oc o = 9) (H : w_X11_fees o a1 U post) : um l Y 5 yX11_fees cX11_fees 2 (some (.long)) [.ref (Y.2.1 o), .int a1] U (pq_l post) := by
  unfold w_X11_fees at H
  refine um_of (by decide) (Nat.le_of_ble_eq_true rfl) [some (.ref (Y.2.1 o)), some (.int a1)] rfl (fun X h0 hh sz hM hU => ?_)
  have hC := hM.1
  have hR := hM.2.2.1
  refine pr_iload_n hC (by decide +kernel : decode cX11_fees 0 = .ok (.iload_n 1, 1)) rfl ?_
  refine pr_iconst hC (-1) (by decide +kernel : decode cX11_fees 1 = .ok (.iconst (-1), 1)) rfl ?_
  replace H := H (fun U_2 => ∀ h : pe_H, rF Y h0 U_2 h → pw X Y.1 (pm_A hh sz) (pm_E X Y.1 hh sz 0 0 (pm_P Y h0 sz (pq_l post))) 21 [some (.ref (Y.2.1 o)), some (.int a1)] [] h sz 0 0) (by
    intro U_2 H h hU
    refine pr_aload_n hC (by decide +kernel : decode cX11_fees 21 = .ok (.aload_n 0, 1)) rfl ?_
    refine pu_g21 hC fg_X11_40 (by decide +kernel : decode cX11_fees 22 = .ok (.getfield 40, 3)) hU ho (by decide) rfl rfl ?_
    have q_3 := H.1
    replace H := H.2
    refine pr_iload_n hC (by decide +kernel : decode cX11_fees 25 = .ok (.iload_n 1, 1)) rfl ?_
    refine vc_Vl hC hR [.int a1] fv_X11_261 (by decide +kernel : decode cX11_fees 26 = .ok (.invokevirtual 261, 3)) hU (t_X6_payOfAll q_3 H) q_3 (by decide) rfl rfl rfl (Nat.le_of_ble_eq_true rfl) (Nat.le_of_ble_eq_true rfl) (Nat.le_refl 0) (Nat.le_refl 0) (fun r_5 U_4 h H hU => ?_)
    exact pv_lret hM (by decide +kernel : decode cX11_fees 29 = .ok (.lreturn, 1)) hU H)
  refine pr_icmp_eq hC 21 (by decide +kernel : decode cX11_fees 2 = .ok (.if_icmp .eq 19, 3)) (by decide) (fun c_2 => ?_) (fun c_2 => ?_)
  · replace H := H.1 c_2
    exact pv_sub [some (.ref (Y.2.1 o)), some (.int a1)] (And.intro rfl (And.intro rfl trivial)) (H hh hU)
  replace H := H.2 c_2
  refine pr_aload_n hC (by decide +kernel : decode cX11_fees 5 = .ok (.aload_n 0, 1)) rfl ?_
  refine pu_g21 hC fg_X11_28 (by decide +kernel : decode cX11_fees 6 = .ok (.getfield 28, 3)) hU ho (by decide) rfl rfl ?_
  have q_6 := H.1
  replace H := H.2
  refine pr_iconst hC (2) (by decide +kernel : decode cX11_fees 9 = .ok (.iconst 2, 1)) rfl ?_
  refine pr_iload_n hC (by decide +kernel : decode cX11_fees 10 = .ok (.iload_n 1, 1)) rfl ?_
  refine vc_Vi hC hR [.int 2, .int a1] fv_X11_114 (by decide +kernel : decode cX11_fees 11 = .ok (.invokevirtual 114, 3)) hU (t_X9_isNamed q_6 H) q_6 (by decide) rfl rfl rfl (Nat.le_of_ble_eq_true rfl) (Nat.le_of_ble_eq_true rfl) (Nat.le_refl 0) (Nat.le_refl 0) (fun r_8 U_7 h H hU => ?_)
  refine pr_if_ne hC 21 (by decide +kernel : decode cX11_fees 14 = .ok (.ifCond .ne 7, 3)) (by decide) (fun c_14 => ?_) (fun c_14 => ?_)
  · replace H := H.2 c_14
    exact pv_sub [some (.ref (Y.2.1 o)), some (.int a1)] (And.intro rfl (And.intro rfl trivial)) (H h hU)
  replace H := H.1 c_14
  refine pr_ldc2 hC (-9223372036854775808) (by decide +kernel : decode cX11_fees 17 = .ok (.ldc2_w 255, 3)) fk_X11_255 ?_
  exact pv_lret hM (by decide +kernel : decode cX11_fees 20 = .ok (.lreturn, 1)) hU H
def w_X11_crew (o : Nat) (a1 : Int32) (a2 : Int32) (U : Um) (post : Int32 → Um → Prop) : Prop :=
  oc (uR U o 2) = 8 ∧ w_X9_isGame (uR U o 2) a1 U (fun r_3 U_2 => (r_3 = 0 → post (-1) U_2) ∧ (¬ r_3 = 0 → (a2 < 0 → post (-1) U_2) ∧ (¬ a2 < 0 → oc (uR U_2 o 2) = 8 ∧ vp_in a1 16 ∧ oc (uAR U_2 (uR U_2 o 2) 6 (Int32.toNatClampNeg a1)) = 1 ∧ (a2 ≤ (uI U_2 (uAR U_2 (uR U_2 o 2) 6 (Int32.toNatClampNeg a1)) 7) → oc (uR U_2 o 6) = 0 ∧ w_X1_findCrew (uR U_2 o 6) a1 a2 U_2 (fun r_9 U_8 => post r_9 U_8)) ∧ (¬ a2 ≤ (uI U_2 (uAR U_2 (uR U_2 o 2) 6 (Int32.toNatClampNeg a1)) 7) → post (-1) U_2))))
set_option maxHeartbeats 4000000 in
theorem t_X11_crew {l : Launch} {Y : px_Y} {o : Nat} {a1 : Int32} {a2 : Int32} {U : Um} {post : Int32 → Um → Prop} (ho : oc o = 9) (H : w_X11_crew o a1 a2 U post) : um l Y 15 yX11_crew cX11_crew 3 (some (.int)) [.ref (Y.2.1 o), .int a1, .int a2] U (pq_i post) := by
  unfold w_X11_crew at H
  refine um_of (by decide) (Nat.le_of_ble_eq_true rfl) [some (.ref (Y.2.1 o)), some (.int a1), some (.int a2)] rfl (fun X h0 hh sz hM hU => ?_)
  have hC := hM.1
  have hR := hM.2.2.1
  refine pr_aload_n hC (by decide +kernel : decode cX11_crew 0 = .ok (.aload_n 0, 1)) rfl ?_
  refine pu_g21 hC fg_X11_28 (by decide +kernel : decode cX11_crew 1 = .ok (.getfield 28, 3)) hU ho (by decide) rfl rfl ?_
  have q_1 := H.1
  replace H := H.2
  refine pr_iload_n hC (by decide +kernel : decode cX11_crew 4 = .ok (.iload_n 1, 1)) rfl ?_
  refine vc_Vi hC hR [.int a1] fv_X11_157 (by decide +kernel : decode cX11_crew 5 = .ok (.invokevirtual 157, 3)) hU (t_X9_isGame q_1 H) q_1 (by decide) rfl rfl rfl (Nat.le_of_ble_eq_true rfl) (Nat.le_of_ble_eq_true rfl) (Nat.le_refl 0) (Nat.le_refl 0) (fun r_3 U_2 h H hU => ?_)
  refine pr_if_eq hC 31 (by decide +kernel : decode cX11_crew 8 = .ok (.ifCond .eq 23, 3)) (by decide) (fun c_8 => ?_) (fun c_8 => ?_)
  · replace H := H.1 c_8
    refine pr_iconst hC (-1) (by decide +kernel : decode cX11_crew 31 = .ok (.iconst (-1), 1)) rfl ?_
    exact pv_iret hM (by decide +kernel : decode cX11_crew 32 = .ok (.ireturn, 1)) hU H
  replace H := H.2 c_8
  refine pr_iload_n hC (by decide +kernel : decode cX11_crew 11 = .ok (.iload_n 2, 1)) rfl ?_
  refine pr_if_lt hC 31 (by decide +kernel : decode cX11_crew 12 = .ok (.ifCond .lt 19, 3)) (by decide) (fun c_12 => ?_) (fun c_12 => ?_)
  · replace H := H.1 c_12
    refine pr_iconst hC (-1) (by decide +kernel : decode cX11_crew 31 = .ok (.iconst (-1), 1)) rfl ?_
    exact pv_iret hM (by decide +kernel : decode cX11_crew 32 = .ok (.ireturn, 1)) hU H
  replace H := H.2 c_12
  refine pr_iload_n hC (by decide +kernel : decode cX11_crew 15 = .ok (.iload_n 2, 1)) rfl ?_
  refine pr_aload_n hC (by decide +kernel : decode cX11_crew 16 = .ok (.aload_n 0, 1)) rfl ?_
  refine pu_g21 hC fg_X11_28 (by decide +kernel : decode cX11_crew 17 = .ok (.getfield 28, 3)) hU ho (by decide) rfl rfl ?_
  have q_4 := H.1
  replace H := H.2
  refine pu_g1 hC fg_X11_161 (by decide +kernel : decode cX11_crew 20 = .ok (.getfield 161, 3)) hU q_4 (by decide) rfl (by decide) ?_
  refine pr_iload_n hC (by decide +kernel : decode cX11_crew 23 = .ok (.iload_n 1, 1)) rfl ?_
  have q_5 := H.1
  replace H := H.2
  refine pu_aald8 hC (by decide +kernel : decode cX11_crew 24 = .ok (.aaload, 1)) hU q_4 rfl q_5 ?_
  have q_6 := H.1
  replace H := H.2
  refine pu_g0 hC fg_X11_187 (by decide +kernel : decode cX11_crew 25 = .ok (.getfield 187, 3)) hU q_6 (by decide) rfl rfl ?_
  refine pr_icmp_le hC 33 (by decide +kernel : decode cX11_crew 28 = .ok (.if_icmp .le 5, 3)) (by decide) (fun c_28 => ?_) (fun c_28 => ?_)
  · replace H := H.1 c_28
    refine pr_aload_n hC (by decide +kernel : decode cX11_crew 33 = .ok (.aload_n 0, 1)) rfl ?_
    refine pu_g21 hC fg_X11_52 (by decide +kernel : decode cX11_crew 34 = .ok (.getfield 52, 3)) hU ho (by decide) rfl rfl ?_
    have q_7 := H.1
    replace H := H.2
    refine pr_iload_n hC (by decide +kernel : decode cX11_crew 37 = .ok (.iload_n 1, 1)) rfl ?_
    refine pr_iload_n hC (by decide +kernel : decode cX11_crew 38 = .ok (.iload_n 2, 1)) rfl ?_
    refine vc_Vi hC hR [.int a1, .int a2] fv_X11_265 (by decide +kernel : decode cX11_crew 39 = .ok (.invokevirtual 265, 3)) hU (t_X1_findCrew q_7 H) q_7 (by decide) rfl rfl rfl (Nat.le_of_ble_eq_true rfl) (Nat.le_of_ble_eq_true rfl) (Nat.le_refl 0) (Nat.le_refl 0) (fun r_9 U_8 h H hU => ?_)
    exact pv_iret hM (by decide +kernel : decode cX11_crew 42 = .ok (.ireturn, 1)) hU H
  replace H := H.2 c_28
  refine pr_iconst hC (-1) (by decide +kernel : decode cX11_crew 31 = .ok (.iconst (-1), 1)) rfl ?_
  exact pv_iret hM (by decide +kernel : decode cX11_crew 32 = .ok (.ireturn, 1)) hU H
def w_X11_fill (o : Nat) (U : Um) (post : Int32 → Um → Prop) : Prop :=
  oc (uR U o 5) = 5 ∧ oc (uR U o 4) = 5 ∧ w_X6_copyOf (uR U o 5) (uR U o 4) U (fun U_3 => oc (uR U_3 o 6) = 0 ∧ w_X1_fillAll (uR U_3 o 6) U_3 (fun r_7 U_6 => (r_7 ≤ 0 → post r_7 U_6) ∧ (¬ r_7 ≤ 0 → oc (uR U_6 o 5) = 5 ∧ w_X11_keep o (uR U_6 o 5) U_6 (fun U_9 => post r_7 U_9))))
set_option maxHeartbeats 4000000 in
theorem t_X11_fill {l : Launch} {Y : px_Y} {o : Nat} {U : Um} {post : Int32 → Um → Prop} (ho : oc o = 9) (H : w_X11_fill o U post) : um l Y 5 yX11_fill cX11_fill 2 (some (.int)) [.ref (Y.2.1 o)] U (pq_i post) := by
  unfold w_X11_fill at H
  refine um_of (by decide) (Nat.le_of_ble_eq_true rfl) [some (.ref (Y.2.1 o)), none] rfl (fun X h0 hh sz hM hU => ?_)
  have hC := hM.1
  have hR := hM.2.2.1
  refine pr_aload_n hC (by decide +kernel : decode cX11_fill 0 = .ok (.aload_n 0, 1)) rfl ?_
  refine pu_g21 hC fg_X11_44 (by decide +kernel : decode cX11_fill 1 = .ok (.getfield 44, 3)) hU ho (by decide) rfl rfl ?_
  have q_1 := H.1
  replace H := H.2
  refine pr_aload_n hC (by decide +kernel : decode cX11_fill 4 = .ok (.aload_n 0, 1)) rfl ?_
  refine pu_g21 hC fg_X11_40 (by decide +kernel : decode cX11_fill 5 = .ok (.getfield 40, 3)) hU ho (by decide) rfl rfl ?_
  have q_2 := H.1
  replace H := H.2
  refine vc_Vv hC hR [.ref (Y.2.1 (uR U o 4))] fv_X11_268 (by decide +kernel : decode cX11_fill 8 = .ok (.invokevirtual 268, 3)) hU (t_X6_copyOf q_1 q_2 H) q_1 (by decide) rfl rfl rfl (Nat.le_of_ble_eq_true rfl) (Nat.le_of_ble_eq_true rfl) (Nat.le_refl 0) (Nat.le_refl 0) (fun U_3 h H hU => ?_)
  refine pr_aload_n hC (by decide +kernel : decode cX11_fill 11 = .ok (.aload_n 0, 1)) rfl ?_
  refine pu_g21 hC fg_X11_52 (by decide +kernel : decode cX11_fill 12 = .ok (.getfield 52, 3)) hU ho (by decide) rfl rfl ?_
  have q_5 := H.1
  replace H := H.2
  refine vc_Vi hC hR [] fv_X11_271 (by decide +kernel : decode cX11_fill 15 = .ok (.invokevirtual 271, 3)) hU (t_X1_fillAll q_5 H) q_5 (by decide) rfl rfl rfl (Nat.le_of_ble_eq_true rfl) (Nat.le_of_ble_eq_true rfl) (Nat.le_refl 0) (Nat.le_refl 0) (fun r_7 U_6 h H hU => ?_)
  refine pr_istore_n hC (by decide +kernel : decode cX11_fill 18 = .ok (.istore_n 1, 1)) (by decide) rfl ?_
  refine pr_iload_n hC (by decide +kernel : decode cX11_fill 19 = .ok (.iload_n 1, 1)) rfl ?_
  refine pr_if_le hC 31 (by decide +kernel : decode cX11_fill 20 = .ok (.ifCond .le 11, 3)) (by decide) (fun c_20 => ?_) (fun c_20 => ?_)
  · replace H := H.1 c_20
    refine pr_iload_n hC (by decide +kernel : decode cX11_fill 31 = .ok (.iload_n 1, 1)) rfl ?_
    exact pv_iret hM (by decide +kernel : decode cX11_fill 32 = .ok (.ireturn, 1)) hU H
  replace H := H.2 c_20
  refine pr_aload_n hC (by decide +kernel : decode cX11_fill 23 = .ok (.aload_n 0, 1)) rfl ?_
  refine pr_aload_n hC (by decide +kernel : decode cX11_fill 24 = .ok (.aload_n 0, 1)) rfl ?_
  refine pu_g21 hC fg_X11_44 (by decide +kernel : decode cX11_fill 25 = .ok (.getfield 44, 3)) hU ho (by decide) rfl rfl ?_
  have q_8 := H.1
  replace H := H.2
  refine vc_Vv hC hR [.ref (Y.2.1 (uR U_6 o 5))] fv_X11_230 (by decide +kernel : decode cX11_fill 28 = .ok (.invokevirtual 230, 3)) hU (t_X11_keep ho q_8 H) ho (by decide) rfl rfl rfl (Nat.le_of_ble_eq_true rfl) (Nat.le_of_ble_eq_true rfl) (Nat.le_refl 0) (Nat.le_refl 0) (fun U_9 h H hU => ?_)
  refine pr_iload_n hC (by decide +kernel : decode cX11_fill 31 = .ok (.iload_n 1, 1)) rfl ?_
  exact pv_iret hM (by decide +kernel : decode cX11_fill 32 = .ok (.ireturn, 1)) hU H
def w_X11_steps (o : Nat) (a1 : Int32) (a2 : Int32) (a3 : Int32) (U : Um) (post : Int32 → Um → Prop) : Prop :=
  (a3 < 0 → post (-1) U) ∧ (¬ a3 < 0 → ((4 : Int32) < a3 → post (-1) U) ∧ (¬ (4 : Int32) < a3 → oc (uR U o 2) = 8 ∧ w_X9_isSeat (uR U o 2) a1 a2 U (fun r_3 U_2 => (r_3 = 0 → post (-1) U_2) ∧ (¬ r_3 = 0 → oc (uR U_2 o 4) = 5 ∧ w_X6_isPlayed (uR U_2 o 4) a1 U_2 (fun r_6 U_5 => (r_6 = 0 → oc (uR U_5 o 6) = 0 ∧ w_X1_findStep (uR U_5 o 6) a1 a2 a3 U_5 (fun r_9 U_8 => post r_9 U_8)) ∧ (¬ r_6 = 0 → post (-1) U_5))))))
set_option maxHeartbeats 4000000 in
theorem t_X11_steps {l : Launch} {Y : px_Y} {o : Nat} {a1 : Int32} {a2 : Int32} {a3 : Int32} {U : Um} {post : Int32 → Um → Prop} (ho : oc o = 9) (H : w_X11_steps o a1 a2 a3 U post) : um l Y 5 yX11_steps cX11_steps 4 (some (.int)) [.ref (Y.2.1 o), .int a1, .int a2, .int a3] U (pq_i post) := by
  unfold w_X11_steps at H
  refine um_of (by decide) (Nat.le_of_ble_eq_true rfl) [some (.ref (Y.2.1 o)), some (.int a1), some (.int a2), some (.int a3)] rfl (fun X h0 hh sz hM hU => ?_)
  have hC := hM.1
  have hR := hM.2.2.1
  refine pr_iload_n hC (by decide +kernel : decode cX11_steps 0 = .ok (.iload_n 3, 1)) rfl ?_
  refine pr_if_lt hC 32 (by decide +kernel : decode cX11_steps 1 = .ok (.ifCond .lt 31, 3)) (by decide) (fun c_1 => ?_) (fun c_1 => ?_)
  · replace H := H.1 c_1
    refine pr_iconst hC (-1) (by decide +kernel : decode cX11_steps 32 = .ok (.iconst (-1), 1)) rfl ?_
    exact pv_iret hM (by decide +kernel : decode cX11_steps 33 = .ok (.ireturn, 1)) hU H
  replace H := H.2 c_1
  refine pr_iload_n hC (by decide +kernel : decode cX11_steps 4 = .ok (.iload_n 3, 1)) rfl ?_
  refine pr_iconst hC (4) (by decide +kernel : decode cX11_steps 5 = .ok (.iconst 4, 1)) rfl ?_
  refine pr_icmp_gt hC 32 (by decide +kernel : decode cX11_steps 6 = .ok (.if_icmp .gt 26, 3)) (by decide) (fun c_6 => ?_) (fun c_6 => ?_)
  · replace H := H.1 c_6
    refine pr_iconst hC (-1) (by decide +kernel : decode cX11_steps 32 = .ok (.iconst (-1), 1)) rfl ?_
    exact pv_iret hM (by decide +kernel : decode cX11_steps 33 = .ok (.ireturn, 1)) hU H
  replace H := H.2 c_6
  refine pr_aload_n hC (by decide +kernel : decode cX11_steps 9 = .ok (.aload_n 0, 1)) rfl ?_
  refine pu_g21 hC fg_X11_28 (by decide +kernel : decode cX11_steps 10 = .ok (.getfield 28, 3)) hU ho (by decide) rfl rfl ?_
  have q_1 := H.1
  replace H := H.2
  refine pr_iload_n hC (by decide +kernel : decode cX11_steps 13 = .ok (.iload_n 1, 1)) rfl ?_
  refine pr_iload_n hC (by decide +kernel : decode cX11_steps 14 = .ok (.iload_n 2, 1)) rfl ?_
  refine vc_Vi hC hR [.int a1, .int a2] fv_X11_196 (by decide +kernel : decode cX11_steps 15 = .ok (.invokevirtual 196, 3)) hU (t_X9_isSeat q_1 H) q_1 (by decide) rfl rfl rfl (Nat.le_of_ble_eq_true rfl) (Nat.le_of_ble_eq_true rfl) (Nat.le_refl 0) (Nat.le_refl 0) (fun r_3 U_2 h H hU => ?_)
  refine pr_if_eq hC 32 (by decide +kernel : decode cX11_steps 18 = .ok (.ifCond .eq 14, 3)) (by decide) (fun c_18 => ?_) (fun c_18 => ?_)
  · replace H := H.1 c_18
    refine pr_iconst hC (-1) (by decide +kernel : decode cX11_steps 32 = .ok (.iconst (-1), 1)) rfl ?_
    exact pv_iret hM (by decide +kernel : decode cX11_steps 33 = .ok (.ireturn, 1)) hU H
  replace H := H.2 c_18
  refine pr_aload_n hC (by decide +kernel : decode cX11_steps 21 = .ok (.aload_n 0, 1)) rfl ?_
  refine pu_g21 hC fg_X11_40 (by decide +kernel : decode cX11_steps 22 = .ok (.getfield 40, 3)) hU ho (by decide) rfl rfl ?_
  have q_4 := H.1
  replace H := H.2
  refine pr_iload_n hC (by decide +kernel : decode cX11_steps 25 = .ok (.iload_n 1, 1)) rfl ?_
  refine vc_Vi hC hR [.int a1] fv_X11_190 (by decide +kernel : decode cX11_steps 26 = .ok (.invokevirtual 190, 3)) hU (t_X6_isPlayed q_4 H) q_4 (by decide) rfl rfl rfl (Nat.le_of_ble_eq_true rfl) (Nat.le_of_ble_eq_true rfl) (Nat.le_refl 0) (Nat.le_refl 0) (fun r_6 U_5 h H hU => ?_)
  refine pr_if_eq hC 34 (by decide +kernel : decode cX11_steps 29 = .ok (.ifCond .eq 5, 3)) (by decide) (fun c_29 => ?_) (fun c_29 => ?_)
  · replace H := H.1 c_29
    refine pr_aload_n hC (by decide +kernel : decode cX11_steps 34 = .ok (.aload_n 0, 1)) rfl ?_
    refine pu_g21 hC fg_X11_52 (by decide +kernel : decode cX11_steps 35 = .ok (.getfield 52, 3)) hU ho (by decide) rfl rfl ?_
    have q_7 := H.1
    replace H := H.2
    refine pr_iload_n hC (by decide +kernel : decode cX11_steps 38 = .ok (.iload_n 1, 1)) rfl ?_
    refine pr_iload_n hC (by decide +kernel : decode cX11_steps 39 = .ok (.iload_n 2, 1)) rfl ?_
    refine pr_iload_n hC (by decide +kernel : decode cX11_steps 40 = .ok (.iload_n 3, 1)) rfl ?_
    refine vc_Vi hC hR [.int a1, .int a2, .int a3] fv_X11_274 (by decide +kernel : decode cX11_steps 41 = .ok (.invokevirtual 274, 3)) hU (t_X1_findStep q_7 H) q_7 (by decide) rfl rfl rfl (Nat.le_of_ble_eq_true rfl) (Nat.le_of_ble_eq_true rfl) (Nat.le_refl 0) (Nat.le_refl 0) (fun r_9 U_8 h H hU => ?_)
    exact pv_iret hM (by decide +kernel : decode cX11_steps 44 = .ok (.ireturn, 1)) hU H
  replace H := H.2 c_29
  refine pr_iconst hC (-1) (by decide +kernel : decode cX11_steps 32 = .ok (.iconst (-1), 1)) rfl ?_
  exact pv_iret hM (by decide +kernel : decode cX11_steps 33 = .ok (.ireturn, 1)) hU H
def w_X11_unsound (o : Nat) (a1 : Int32) (U : Um) (post : Int32 → Um → Prop) : Prop :=
  oc (uR U o 4) = 5 ∧ w_X6_unsoundPlace (uR U o 4) a1 U (fun r_3 U_2 => post r_3 U_2)
set_option maxHeartbeats 4000000 in
theorem t_X11_unsound {l : Launch} {Y : px_Y} {o : Nat} {a1 : Int32} {U : Um} {post : Int32 → Um → Prop} (ho : oc o = 9) (H : w_X11_unsound o a1 U post) : um l Y 3 yX11_unsound cX11_unsound 2 (some (.int)) [.ref (Y.2.1 o), .int a1] U (pq_i post) := by
  unfold w_X11_unsound at H
  refine um_of (by decide) (Nat.le_of_ble_eq_true rfl) [some (.ref (Y.2.1 o)), some (.int a1)] rfl (fun X h0 hh sz hM hU => ?_)
  have hC := hM.1
  have hR := hM.2.2.1
  refine pr_aload_n hC (by decide +kernel : decode cX11_unsound 0 = .ok (.aload_n 0, 1)) rfl ?_
  refine pu_g21 hC fg_X11_40 (by decide +kernel : decode cX11_unsound 1 = .ok (.getfield 40, 3)) hU ho (by decide) rfl rfl ?_
  have q_1 := H.1
  replace H := H.2
  refine pr_iload_n hC (by decide +kernel : decode cX11_unsound 4 = .ok (.iload_n 1, 1)) rfl ?_
  refine vc_Vi hC hR [.int a1] fv_X11_277 (by decide +kernel : decode cX11_unsound 5 = .ok (.invokevirtual 277, 3)) hU (t_X6_unsoundPlace q_1 H) q_1 (by decide) rfl rfl rfl (Nat.le_of_ble_eq_true rfl) (Nat.le_of_ble_eq_true rfl) (Nat.le_refl 0) (Nat.le_refl 0) (fun r_3 U_2 h H hU => ?_)
  exact pv_iret hM (by decide +kernel : decode cX11_unsound 8 = .ok (.ireturn, 1)) hU H
def w_X11_exchange (o : Nat) (a1 : Int32) (U : Um) (post : Int32 → Um → Prop) : Prop :=
  (a1 < 0 → post (-2) U) ∧ (¬ a1 < 0 → (a1 ≤ 4 → oc (uR U o 6) = 0 ∧ w_X1_findExchange (uR U o 6) a1 U (fun r_3 U_2 => post r_3 U_2)) ∧ (¬ a1 ≤ 4 → post (-2) U))
set_option maxHeartbeats 4000000 in
theorem t_X11_exchange {l : Launch} {Y : px_Y} {o : Nat} {a1 : Int32} {U : Um} {post : Int32 → Um → Prop} (ho : oc o = 9) (H : w_X11_exchange o a1 U post) : um l Y 5 yX11_exchange cX11_exchange 2 (some (.int)) [.ref (Y.2.1 o), .int a1] U (pq_i post) := by
  unfold w_X11_exchange at H
  refine um_of (by decide) (Nat.le_of_ble_eq_true rfl) [some (.ref (Y.2.1 o)), some (.int a1)] rfl (fun X h0 hh sz hM hU => ?_)
  have hC := hM.1
  have hR := hM.2.2.1
  refine pr_iload_n hC (by decide +kernel : decode cX11_exchange 0 = .ok (.iload_n 1, 1)) rfl ?_
  refine pr_if_lt hC 9 (by decide +kernel : decode cX11_exchange 1 = .ok (.ifCond .lt 8, 3)) (by decide) (fun c_1 => ?_) (fun c_1 => ?_)
  · replace H := H.1 c_1
    refine pr_bipush hC (-2) (by decide +kernel : decode cX11_exchange 9 = .ok (.bipush (-2), 2)) rfl ?_
    refine pr_goto hC 22 (by decide +kernel : decode cX11_exchange 11 = .ok (.goto 11, 3)) (by decide) ?_
    exact pv_iret hM (by decide +kernel : decode cX11_exchange 22 = .ok (.ireturn, 1)) hU H
  replace H := H.2 c_1
  refine pr_iload_n hC (by decide +kernel : decode cX11_exchange 4 = .ok (.iload_n 1, 1)) rfl ?_
  refine pr_iconst hC (4) (by decide +kernel : decode cX11_exchange 5 = .ok (.iconst 4, 1)) rfl ?_
  refine pr_icmp_le hC 14 (by decide +kernel : decode cX11_exchange 6 = .ok (.if_icmp .le 8, 3)) (by decide) (fun c_6 => ?_) (fun c_6 => ?_)
  · replace H := H.1 c_6
    refine pr_aload_n hC (by decide +kernel : decode cX11_exchange 14 = .ok (.aload_n 0, 1)) rfl ?_
    refine pu_g21 hC fg_X11_52 (by decide +kernel : decode cX11_exchange 15 = .ok (.getfield 52, 3)) hU ho (by decide) rfl rfl ?_
    have q_1 := H.1
    replace H := H.2
    refine pr_iload_n hC (by decide +kernel : decode cX11_exchange 18 = .ok (.iload_n 1, 1)) rfl ?_
    refine vc_Vi hC hR [.int a1] fv_X11_280 (by decide +kernel : decode cX11_exchange 19 = .ok (.invokevirtual 280, 3)) hU (t_X1_findExchange q_1 H) q_1 (by decide) rfl rfl rfl (Nat.le_of_ble_eq_true rfl) (Nat.le_of_ble_eq_true rfl) (Nat.le_refl 0) (Nat.le_refl 0) (fun r_3 U_2 h H hU => ?_)
    exact pv_iret hM (by decide +kernel : decode cX11_exchange 22 = .ok (.ireturn, 1)) hU H
  replace H := H.2 c_6
  refine pr_bipush hC (-2) (by decide +kernel : decode cX11_exchange 9 = .ok (.bipush (-2), 2)) rfl ?_
  refine pr_goto hC 22 (by decide +kernel : decode cX11_exchange 11 = .ok (.goto 11, 3)) (by decide) ?_
  exact pv_iret hM (by decide +kernel : decode cX11_exchange 22 = .ok (.ireturn, 1)) hU H
def w_X11_round (o : Nat) (a1 : Int32) (a2 : Int32) (U : Um) (post : Int32 → Um → Prop) : Prop :=
  oc (uR U o 2) = 8 ∧ w_X9_isNamed (uR U o 2) 2 a1 U (fun r_3 U_2 => (r_3 = 0 → post (-1) U_2) ∧ (¬ r_3 = 0 → (a2 < 0 → post (-1) U_2) ∧ (¬ a2 < 0 → (a2 < 7 → oc (uR U_2 o 4) = 5 ∧ oc (uR U_2 o 4) = 5 ∧ vp_in a1 10 ∧ w_X6_roundOn (uR U_2 o 4) a1 (uA U_2 (uR U_2 o 4) 7 (Int32.toNatClampNeg a1)) a2 U_2 (fun r_7 U_6 => post r_7 U_6)) ∧ (¬ a2 < 7 → post (-1) U_2))))
set_option maxHeartbeats 4000000 in
theorem t_X11_round {l : Launch} {Y : px_Y} {o : Nat} {a1 : Int32} {a2 : Int32} {U : Um} {post : Int32 → Um → Prop} (ho : oc o = 9) (H : w_X11_round o a1 a2 U post) : um l Y 2 yX11_round cX11_round 3 (some (.int)) [.ref (Y.2.1 o), .int a1, .int a2] U (pq_i post) := by
  unfold w_X11_round at H
  refine um_of (by decide) (Nat.le_of_ble_eq_true rfl) [some (.ref (Y.2.1 o)), some (.int a1), some (.int a2)] rfl (fun X h0 hh sz hM hU => ?_)
  have hC := hM.1
  have hR := hM.2.2.1
  refine pr_aload_n hC (by decide +kernel : decode cX11_round 0 = .ok (.aload_n 0, 1)) rfl ?_
  refine pu_g21 hC fg_X11_28 (by decide +kernel : decode cX11_round 1 = .ok (.getfield 28, 3)) hU ho (by decide) rfl rfl ?_
  have q_1 := H.1
  replace H := H.2
  refine pr_iconst hC (2) (by decide +kernel : decode cX11_round 4 = .ok (.iconst 2, 1)) rfl ?_
  refine pr_iload_n hC (by decide +kernel : decode cX11_round 5 = .ok (.iload_n 1, 1)) rfl ?_
  refine vc_Vi hC hR [.int 2, .int a1] fv_X11_114 (by decide +kernel : decode cX11_round 6 = .ok (.invokevirtual 114, 3)) hU (t_X9_isNamed q_1 H) q_1 (by decide) rfl rfl rfl (Nat.le_of_ble_eq_true rfl) (Nat.le_of_ble_eq_true rfl) (Nat.le_refl 0) (Nat.le_refl 0) (fun r_3 U_2 h H hU => ?_)
  refine pr_if_eq hC 22 (by decide +kernel : decode cX11_round 9 = .ok (.ifCond .eq 13, 3)) (by decide) (fun c_9 => ?_) (fun c_9 => ?_)
  · replace H := H.1 c_9
    refine pr_iconst hC (-1) (by decide +kernel : decode cX11_round 22 = .ok (.iconst (-1), 1)) rfl ?_
    exact pv_iret hM (by decide +kernel : decode cX11_round 23 = .ok (.ireturn, 1)) hU H
  replace H := H.2 c_9
  refine pr_iload_n hC (by decide +kernel : decode cX11_round 12 = .ok (.iload_n 2, 1)) rfl ?_
  refine pr_if_lt hC 22 (by decide +kernel : decode cX11_round 13 = .ok (.ifCond .lt 9, 3)) (by decide) (fun c_13 => ?_) (fun c_13 => ?_)
  · replace H := H.1 c_13
    refine pr_iconst hC (-1) (by decide +kernel : decode cX11_round 22 = .ok (.iconst (-1), 1)) rfl ?_
    exact pv_iret hM (by decide +kernel : decode cX11_round 23 = .ok (.ireturn, 1)) hU H
  replace H := H.2 c_13
  refine pr_iload_n hC (by decide +kernel : decode cX11_round 16 = .ok (.iload_n 2, 1)) rfl ?_
  refine pr_bipush hC (7) (by decide +kernel : decode cX11_round 17 = .ok (.bipush 7, 2)) rfl ?_
  refine pr_icmp_lt hC 24 (by decide +kernel : decode cX11_round 19 = .ok (.if_icmp .lt 5, 3)) (by decide) (fun c_19 => ?_) (fun c_19 => ?_)
  · replace H := H.1 c_19
    refine pr_aload_n hC (by decide +kernel : decode cX11_round 24 = .ok (.aload_n 0, 1)) rfl ?_
    refine pu_g21 hC fg_X11_40 (by decide +kernel : decode cX11_round 25 = .ok (.getfield 40, 3)) hU ho (by decide) rfl rfl ?_
    have q_4 := H.1
    replace H := H.2
    refine pr_iload_n hC (by decide +kernel : decode cX11_round 28 = .ok (.iload_n 1, 1)) rfl ?_
    refine pr_aload_n hC (by decide +kernel : decode cX11_round 29 = .ok (.aload_n 0, 1)) rfl ?_
    refine pu_g21 hC fg_X11_40 (by decide +kernel : decode cX11_round 30 = .ok (.getfield 40, 3)) hU ho (by decide) rfl rfl ?_
    have q_5 := H.1
    replace H := H.2
    refine pu_g1 hC fg_X11_145 (by decide +kernel : decode cX11_round 33 = .ok (.getfield 145, 3)) hU q_5 (by decide) rfl (by decide) ?_
    refine pr_iload_n hC (by decide +kernel : decode cX11_round 36 = .ok (.iload_n 1, 1)) rfl ?_
    refine pu_iald hC (by decide +kernel : decode cX11_round 37 = .ok (.iaload, 1)) hU q_5 rfl H.1 ?_
    replace H := H.2
    refine pr_iload_n hC (by decide +kernel : decode cX11_round 38 = .ok (.iload_n 2, 1)) rfl ?_
    refine vc_Vi hC hR [.int a1, .int (uA U_2 (uR U_2 o 4) 7 (Int32.toNatClampNeg a1)), .int a2] fv_X11_283 (by decide +kernel : decode cX11_round 39 = .ok (.invokevirtual 283, 3)) hU (t_X6_roundOn q_4 H) q_4 (by decide) rfl rfl rfl (Nat.le_of_ble_eq_true rfl) (Nat.le_of_ble_eq_true rfl) (Nat.le_refl 0) (Nat.le_refl 0) (fun r_7 U_6 h H hU => ?_)
    exact pv_iret hM (by decide +kernel : decode cX11_round 42 = .ok (.ireturn, 1)) hU H
  replace H := H.2 c_19
  refine pr_iconst hC (-1) (by decide +kernel : decode cX11_round 22 = .ok (.iconst (-1), 1)) rfl ?_
  exact pv_iret hM (by decide +kernel : decode cX11_round 23 = .ok (.ireturn, 1)) hU H
def w_X11_trip (o : Nat) (a1 : Int32) (a2 : Int32) (a3 : Int32) (U : Um) (post : Int32 → Um → Prop) : Prop :=
  oc (uR U o 2) = 8 ∧ w_X9_isNamed (uR U o 2) 2 a1 U (fun r_3 U_2 => (r_3 = 0 → post (-10000) U_2) ∧ (¬ r_3 = 0 → (a2 < 0 → post (-10000) U_2) ∧ (¬ a2 < 0 → (a2 < 7 → oc (uR U_2 o 4) = 5 ∧ w_X6_journey (uR U_2 o 4) a1 a2 a3 U_2 (fun r_6 U_5 => post r_6 U_5)) ∧ (¬ a2 < 7 → post (-10000) U_2))))
set_option maxHeartbeats 4000000 in
theorem t_X11_trip {l : Launch} {Y : px_Y} {o : Nat} {a1 : Int32} {a2 : Int32} {a3 : Int32} {U : Um} {post : Int32 → Um → Prop} (ho : oc o = 9) (H : w_X11_trip o a1 a2 a3 U post) : um l Y 3 yX11_trip cX11_trip 4 (some (.int)) [.ref (Y.2.1 o), .int a1, .int a2, .int a3] U (pq_i post) := by
  unfold w_X11_trip at H
  refine um_of (by decide) (Nat.le_of_ble_eq_true rfl) [some (.ref (Y.2.1 o)), some (.int a1), some (.int a2), some (.int a3)] rfl (fun X h0 hh sz hM hU => ?_)
  have hC := hM.1
  have hR := hM.2.2.1
  refine pr_aload_n hC (by decide +kernel : decode cX11_trip 0 = .ok (.aload_n 0, 1)) rfl ?_
  refine pu_g21 hC fg_X11_28 (by decide +kernel : decode cX11_trip 1 = .ok (.getfield 28, 3)) hU ho (by decide) rfl rfl ?_
  have q_1 := H.1
  replace H := H.2
  refine pr_iconst hC (2) (by decide +kernel : decode cX11_trip 4 = .ok (.iconst 2, 1)) rfl ?_
  refine pr_iload_n hC (by decide +kernel : decode cX11_trip 5 = .ok (.iload_n 1, 1)) rfl ?_
  refine vc_Vi hC hR [.int 2, .int a1] fv_X11_114 (by decide +kernel : decode cX11_trip 6 = .ok (.invokevirtual 114, 3)) hU (t_X9_isNamed q_1 H) q_1 (by decide) rfl rfl rfl (Nat.le_of_ble_eq_true rfl) (Nat.le_of_ble_eq_true rfl) (Nat.le_refl 0) (Nat.le_refl 0) (fun r_3 U_2 h H hU => ?_)
  refine pr_if_eq hC 22 (by decide +kernel : decode cX11_trip 9 = .ok (.ifCond .eq 13, 3)) (by decide) (fun c_9 => ?_) (fun c_9 => ?_)
  · replace H := H.1 c_9
    refine pr_sipush hC (-10000) (by decide +kernel : decode cX11_trip 22 = .ok (.sipush (-10000), 3)) rfl ?_
    exact pv_iret hM (by decide +kernel : decode cX11_trip 25 = .ok (.ireturn, 1)) hU H
  replace H := H.2 c_9
  refine pr_iload_n hC (by decide +kernel : decode cX11_trip 12 = .ok (.iload_n 2, 1)) rfl ?_
  refine pr_if_lt hC 22 (by decide +kernel : decode cX11_trip 13 = .ok (.ifCond .lt 9, 3)) (by decide) (fun c_13 => ?_) (fun c_13 => ?_)
  · replace H := H.1 c_13
    refine pr_sipush hC (-10000) (by decide +kernel : decode cX11_trip 22 = .ok (.sipush (-10000), 3)) rfl ?_
    exact pv_iret hM (by decide +kernel : decode cX11_trip 25 = .ok (.ireturn, 1)) hU H
  replace H := H.2 c_13
  refine pr_iload_n hC (by decide +kernel : decode cX11_trip 16 = .ok (.iload_n 2, 1)) rfl ?_
  refine pr_bipush hC (7) (by decide +kernel : decode cX11_trip 17 = .ok (.bipush 7, 2)) rfl ?_
  refine pr_icmp_lt hC 26 (by decide +kernel : decode cX11_trip 19 = .ok (.if_icmp .lt 7, 3)) (by decide) (fun c_19 => ?_) (fun c_19 => ?_)
  · replace H := H.1 c_19
    refine pr_aload_n hC (by decide +kernel : decode cX11_trip 26 = .ok (.aload_n 0, 1)) rfl ?_
    refine pu_g21 hC fg_X11_40 (by decide +kernel : decode cX11_trip 27 = .ok (.getfield 40, 3)) hU ho (by decide) rfl rfl ?_
    have q_4 := H.1
    replace H := H.2
    refine pr_iload_n hC (by decide +kernel : decode cX11_trip 30 = .ok (.iload_n 1, 1)) rfl ?_
    refine pr_iload_n hC (by decide +kernel : decode cX11_trip 31 = .ok (.iload_n 2, 1)) rfl ?_
    refine pr_iload_n hC (by decide +kernel : decode cX11_trip 32 = .ok (.iload_n 3, 1)) rfl ?_
    refine vc_Vi hC hR [.int a1, .int a2, .int a3] fv_X11_286 (by decide +kernel : decode cX11_trip 33 = .ok (.invokevirtual 286, 3)) hU (t_X6_journey q_4 H) q_4 (by decide) rfl rfl rfl (Nat.le_of_ble_eq_true rfl) (Nat.le_of_ble_eq_true rfl) (Nat.le_refl 0) (Nat.le_refl 0) (fun r_6 U_5 h H hU => ?_)
    exact pv_iret hM (by decide +kernel : decode cX11_trip 36 = .ok (.ireturn, 1)) hU H
  replace H := H.2 c_19
  refine pr_sipush hC (-10000) (by decide +kernel : decode cX11_trip 22 = .ok (.sipush (-10000), 3)) rfl ?_
  exact pv_iret hM (by decide +kernel : decode cX11_trip 25 = .ok (.ireturn, 1)) hU H
def w_X11_spread (o : Nat) (a1 : Int32) (U : Um) (post : Int32 → Um → Prop) : Prop :=
  oc (uR U o 4) = 5 ∧ w_X6_spreadOfSeats (uR U o 4) a1 U (fun r_3 U_2 => post r_3 U_2)
set_option maxHeartbeats 4000000 in
theorem t_X11_spread {l : Launch} {Y : px_Y} {o : Nat} {a1 : Int32} {U : Um} {post : Int32 → Um → Prop} (ho : oc o = 9) (H : w_X11_spread o a1 U post) : um l Y 2 yX11_spread cX11_spread 2 (some (.int)) [.ref (Y.2.1 o), .int a1] U (pq_i post) := by
  unfold w_X11_spread at H
  refine um_of (by decide) (Nat.le_of_ble_eq_true rfl) [some (.ref (Y.2.1 o)), some (.int a1)] rfl (fun X h0 hh sz hM hU => ?_)
  have hC := hM.1
  have hR := hM.2.2.1
  refine pr_aload_n hC (by decide +kernel : decode cX11_spread 0 = .ok (.aload_n 0, 1)) rfl ?_
  refine pu_g21 hC fg_X11_40 (by decide +kernel : decode cX11_spread 1 = .ok (.getfield 40, 3)) hU ho (by decide) rfl rfl ?_
  have q_1 := H.1
  replace H := H.2
  refine pr_iload_n hC (by decide +kernel : decode cX11_spread 4 = .ok (.iload_n 1, 1)) rfl ?_
  refine vc_Vi hC hR [.int a1] fv_X11_289 (by decide +kernel : decode cX11_spread 5 = .ok (.invokevirtual 289, 3)) hU (t_X6_spreadOfSeats q_1 H) q_1 (by decide) rfl rfl rfl (Nat.le_of_ble_eq_true rfl) (Nat.le_of_ble_eq_true rfl) (Nat.le_refl 0) (Nat.le_refl 0) (fun r_3 U_2 h H hU => ?_)
  exact pv_iret hM (by decide +kernel : decode cX11_spread 8 = .ok (.ireturn, 1)) hU H
def w_X11_day (o : Nat) (U : Um) (post : Int32 → Um → Prop) : Prop :=
  oc (uR U o 4) = 5 ∧ ((uI U (uR U o 4) 1) < 7 → oc (uR U o 4) = 5 ∧ w_X11_keep o (uR U o 4) U (fun U_3 => oc (uR U_3 o 4) = 5 ∧ ∀ (U_6 : Um), U_6 = sI U_3 (uR U_3 o 4) 1 ((uI U_3 (uR U_3 o 4) 1) + 1) → oc (uR U_6 o 4) = 5 ∧ post (uI U_6 (uR U_6 o 4) 1) U_6)) ∧ (¬ (uI U (uR U o 4) 1) < 7 → post (-1) U)
set_option maxHeartbeats 4000000 in
theorem t_X11_day {l : Launch} {Y : px_Y} {o : Nat} {U : Um} {post : Int32 → Um → Prop} (ho : oc o = 9) (H : w_X11_day o U post) : um l Y 4 yX11_day cX11_day 1 (some (.int)) [.ref (Y.2.1 o)] U (pq_i post) := by
  unfold w_X11_day at H
  refine um_of (by decide) (Nat.le_of_ble_eq_true rfl) [some (.ref (Y.2.1 o))] rfl (fun X h0 hh sz hM hU => ?_)
  have hC := hM.1
  have hR := hM.2.2.1
  refine pr_aload_n hC (by decide +kernel : decode cX11_day 0 = .ok (.aload_n 0, 1)) rfl ?_
  refine pu_g21 hC fg_X11_40 (by decide +kernel : decode cX11_day 1 = .ok (.getfield 40, 3)) hU ho (by decide) rfl rfl ?_
  have q_1 := H.1
  replace H := H.2
  refine pu_g0 hC fg_X11_104 (by decide +kernel : decode cX11_day 4 = .ok (.getfield 104, 3)) hU q_1 (by decide) rfl rfl ?_
  refine pr_bipush hC (7) (by decide +kernel : decode cX11_day 7 = .ok (.bipush 7, 2)) rfl ?_
  refine pr_icmp_lt hC 14 (by decide +kernel : decode cX11_day 9 = .ok (.if_icmp .lt 5, 3)) (by decide) (fun c_9 => ?_) (fun c_9 => ?_)
  · replace H := H.1 c_9
    refine pr_aload_n hC (by decide +kernel : decode cX11_day 14 = .ok (.aload_n 0, 1)) rfl ?_
    refine pr_aload_n hC (by decide +kernel : decode cX11_day 15 = .ok (.aload_n 0, 1)) rfl ?_
    refine pu_g21 hC fg_X11_40 (by decide +kernel : decode cX11_day 16 = .ok (.getfield 40, 3)) hU ho (by decide) rfl rfl ?_
    have q_2 := H.1
    replace H := H.2
    refine vc_Vv hC hR [.ref (Y.2.1 (uR U o 4))] fv_X11_230 (by decide +kernel : decode cX11_day 19 = .ok (.invokevirtual 230, 3)) hU (t_X11_keep ho q_2 H) ho (by decide) rfl rfl rfl (Nat.le_of_ble_eq_true rfl) (Nat.le_of_ble_eq_true rfl) (Nat.le_refl 0) (Nat.le_refl 0) (fun U_3 h H hU => ?_)
    refine pr_aload_n hC (by decide +kernel : decode cX11_day 22 = .ok (.aload_n 0, 1)) rfl ?_
    refine pu_g21 hC fg_X11_40 (by decide +kernel : decode cX11_day 23 = .ok (.getfield 40, 3)) hU ho (by decide) rfl rfl ?_
    have q_5 := H.1
    replace H := H.2
    refine pr_dup hC (by decide +kernel : decode cX11_day 26 = .ok (.dup, 1)) rfl ?_
    refine pu_g0 hC fg_X11_104 (by decide +kernel : decode cX11_day 27 = .ok (.getfield 104, 3)) hU q_5 (by decide) rfl rfl ?_
    refine pr_iconst hC (1) (by decide +kernel : decode cX11_day 30 = .ok (.iconst 1, 1)) rfl ?_
    refine pr_iadd hC (by decide +kernel : decode cX11_day 31 = .ok (.iadd, 1)) ?_
    refine pv_p0 hC fp_X11_104 (by decide +kernel : decode cX11_day 32 = .ok (.putfield 104, 3)) hU q_5 (by decide) rfl rfl rfl rfl (fun U_6 h e_U_6 hU => ?_)
    replace H := H U_6 e_U_6
    refine pr_aload_n hC (by decide +kernel : decode cX11_day 35 = .ok (.aload_n 0, 1)) rfl ?_
    refine pu_g21 hC fg_X11_40 (by decide +kernel : decode cX11_day 36 = .ok (.getfield 40, 3)) hU ho (by decide) rfl rfl ?_
    have q_7 := H.1
    replace H := H.2
    refine pu_g0 hC fg_X11_104 (by decide +kernel : decode cX11_day 39 = .ok (.getfield 104, 3)) hU q_7 (by decide) rfl rfl ?_
    exact pv_iret hM (by decide +kernel : decode cX11_day 42 = .ok (.ireturn, 1)) hU H
  replace H := H.2 c_9
  refine pr_iconst hC (-1) (by decide +kernel : decode cX11_day 12 = .ok (.iconst (-1), 1)) rfl ?_
  exact pv_iret hM (by decide +kernel : decode cX11_day 13 = .ok (.ireturn, 1)) hU H
def w_X11_play (o : Nat) (a1 : Int32) (U : Um) (post : Int32 → Um → Prop) : Prop :=
  oc (uR U o 4) = 5 ∧ ((uI U (uR U o 4) 1) < 7 → oc (uR U o 4) = 5 ∧ w_X11_keep o (uR U o 4) U (fun U_3 => oc (uR U_3 o 4) = 5 ∧ w_X6_playDay (uR U_3 o 4) a1 U_3 (fun r_7 U_6 => post r_7 U_6))) ∧ (¬ (uI U (uR U o 4) 1) < 7 → post (-1) U)
set_option maxHeartbeats 4000000 in
theorem t_X11_play {l : Launch} {Y : px_Y} {o : Nat} {a1 : Int32} {U : Um} {post : Int32 → Um → Prop} (ho : oc o = 9) (H : w_X11_play o a1 U post) : um l Y 4 yX11_play cX11_play 2 (some (.int)) [.ref (Y.2.1 o), .int a1] U (pq_i post) := by
  unfold w_X11_play at H
  refine um_of (by decide) (Nat.le_of_ble_eq_true rfl) [some (.ref (Y.2.1 o)), some (.int a1)] rfl (fun X h0 hh sz hM hU => ?_)
  have hC := hM.1
  have hR := hM.2.2.1
  refine pr_aload_n hC (by decide +kernel : decode cX11_play 0 = .ok (.aload_n 0, 1)) rfl ?_
  refine pu_g21 hC fg_X11_40 (by decide +kernel : decode cX11_play 1 = .ok (.getfield 40, 3)) hU ho (by decide) rfl rfl ?_
  have q_1 := H.1
  replace H := H.2
  refine pu_g0 hC fg_X11_104 (by decide +kernel : decode cX11_play 4 = .ok (.getfield 104, 3)) hU q_1 (by decide) rfl rfl ?_
  refine pr_bipush hC (7) (by decide +kernel : decode cX11_play 7 = .ok (.bipush 7, 2)) rfl ?_
  refine pr_icmp_lt hC 14 (by decide +kernel : decode cX11_play 9 = .ok (.if_icmp .lt 5, 3)) (by decide) (fun c_9 => ?_) (fun c_9 => ?_)
  · replace H := H.1 c_9
    refine pr_aload_n hC (by decide +kernel : decode cX11_play 14 = .ok (.aload_n 0, 1)) rfl ?_
    refine pr_aload_n hC (by decide +kernel : decode cX11_play 15 = .ok (.aload_n 0, 1)) rfl ?_
    refine pu_g21 hC fg_X11_40 (by decide +kernel : decode cX11_play 16 = .ok (.getfield 40, 3)) hU ho (by decide) rfl rfl ?_
    have q_2 := H.1
    replace H := H.2
    refine vc_Vv hC hR [.ref (Y.2.1 (uR U o 4))] fv_X11_230 (by decide +kernel : decode cX11_play 19 = .ok (.invokevirtual 230, 3)) hU (t_X11_keep ho q_2 H) ho (by decide) rfl rfl rfl (Nat.le_of_ble_eq_true rfl) (Nat.le_of_ble_eq_true rfl) (Nat.le_refl 0) (Nat.le_refl 0) (fun U_3 h H hU => ?_)
    refine pr_aload_n hC (by decide +kernel : decode cX11_play 22 = .ok (.aload_n 0, 1)) rfl ?_
    refine pu_g21 hC fg_X11_40 (by decide +kernel : decode cX11_play 23 = .ok (.getfield 40, 3)) hU ho (by decide) rfl rfl ?_
    have q_5 := H.1
    replace H := H.2
    refine pr_iload_n hC (by decide +kernel : decode cX11_play 26 = .ok (.iload_n 1, 1)) rfl ?_
    refine vc_Vi hC hR [.int a1] fv_X11_292 (by decide +kernel : decode cX11_play 27 = .ok (.invokevirtual 292, 3)) hU (t_X6_playDay q_5 H) q_5 (by decide) rfl rfl rfl (Nat.le_of_ble_eq_true rfl) (Nat.le_of_ble_eq_true rfl) (Nat.le_refl 0) (Nat.le_refl 0) (fun r_7 U_6 h H hU => ?_)
    exact pv_iret hM (by decide +kernel : decode cX11_play 30 = .ok (.ireturn, 1)) hU H
  replace H := H.2 c_9
  refine pr_iconst hC (-1) (by decide +kernel : decode cX11_play 12 = .ok (.iconst (-1), 1)) rfl ?_
  exact pv_iret hM (by decide +kernel : decode cX11_play 13 = .ok (.ireturn, 1)) hU H
def w_X11_mark (o : Nat) (a1 : Int32) (a2 : Int32) (a3 : Int32) (U : Um) (post : Int32 → Um → Prop) : Prop :=
  oc (uR U o 4) = 5 ∧ w_X6_isMarkable (uR U o 4) a1 a2 U (fun r_3 U_2 => (r_3 = 0 → post (-1) U_2) ∧ (¬ r_3 = 0 → (a3 < 0 → post (-1) U_2) ∧ (¬ a3 < 0 → (a3 ≤ 100 → oc (uR U_2 o 4) = 5 ∧ w_X11_keep o (uR U_2 o 4) U_2 (fun U_5 => w_X9_placeOf a1 a2 U_5 (fun r_8 U_7 => oc (uR U_7 o 4) = 5 ∧ w_X6_giveMark (uR U_7 o 4) r_8 a3 U_7 (fun U_10 => oc (uR U_10 o 4) = 5 ∧ oc (uR U_10 o 4) = 5 ∧ vp_in r_8 48 ∧ vp_in (uA U_10 (uR U_10 o 4) 2 (Int32.toNatClampNeg r_8)) 10 ∧ post (FP.f2i (uF U_10 (uR U_10 o 4) 5 (Int32.toNatClampNeg (uA U_10 (uR U_10 o 4) 2 (Int32.toNatClampNeg r_8))))) U_10)))) ∧ (¬ a3 ≤ 100 → post (-1) U_2))))
set_option maxHeartbeats 4000000 in
theorem t_X11_mark {l : Launch} {Y : px_Y} {o : Nat} {a1 : Int32} {a2 : Int32} {a3 : Int32} {U : Um} {post : Int32 → Um → Prop} (ho : oc o = 9) (H : w_X11_mark o a1 a2 a3 U post) : um l Y 4 yX11_mark cX11_mark 5 (some (.int)) [.ref (Y.2.1 o), .int a1, .int a2, .int a3] U (pq_i post) := by
  unfold w_X11_mark at H
  refine um_of (by decide) (Nat.le_of_ble_eq_true rfl) [some (.ref (Y.2.1 o)), some (.int a1), some (.int a2), some (.int a3), none] rfl (fun X h0 hh sz hM hU => ?_)
  have hC := hM.1
  have hR := hM.2.2.1
  refine pr_aload_n hC (by decide +kernel : decode cX11_mark 0 = .ok (.aload_n 0, 1)) rfl ?_
  refine pu_g21 hC fg_X11_40 (by decide +kernel : decode cX11_mark 1 = .ok (.getfield 40, 3)) hU ho (by decide) rfl rfl ?_
  have q_1 := H.1
  replace H := H.2
  refine pr_iload_n hC (by decide +kernel : decode cX11_mark 4 = .ok (.iload_n 1, 1)) rfl ?_
  refine pr_iload_n hC (by decide +kernel : decode cX11_mark 5 = .ok (.iload_n 2, 1)) rfl ?_
  refine vc_Vi hC hR [.int a1, .int a2] fv_X11_295 (by decide +kernel : decode cX11_mark 6 = .ok (.invokevirtual 295, 3)) hU (t_X6_isMarkable q_1 H) q_1 (by decide) rfl rfl rfl (Nat.le_of_ble_eq_true rfl) (Nat.le_of_ble_eq_true rfl) (Nat.le_refl 0) (Nat.le_refl 0) (fun r_3 U_2 h H hU => ?_)
  refine pr_if_eq hC 22 (by decide +kernel : decode cX11_mark 9 = .ok (.ifCond .eq 13, 3)) (by decide) (fun c_9 => ?_) (fun c_9 => ?_)
  · replace H := H.1 c_9
    refine pr_iconst hC (-1) (by decide +kernel : decode cX11_mark 22 = .ok (.iconst (-1), 1)) rfl ?_
    exact pv_iret hM (by decide +kernel : decode cX11_mark 23 = .ok (.ireturn, 1)) hU H
  replace H := H.2 c_9
  refine pr_iload_n hC (by decide +kernel : decode cX11_mark 12 = .ok (.iload_n 3, 1)) rfl ?_
  refine pr_if_lt hC 22 (by decide +kernel : decode cX11_mark 13 = .ok (.ifCond .lt 9, 3)) (by decide) (fun c_13 => ?_) (fun c_13 => ?_)
  · replace H := H.1 c_13
    refine pr_iconst hC (-1) (by decide +kernel : decode cX11_mark 22 = .ok (.iconst (-1), 1)) rfl ?_
    exact pv_iret hM (by decide +kernel : decode cX11_mark 23 = .ok (.ireturn, 1)) hU H
  replace H := H.2 c_13
  refine pr_iload_n hC (by decide +kernel : decode cX11_mark 16 = .ok (.iload_n 3, 1)) rfl ?_
  refine pr_bipush hC (100) (by decide +kernel : decode cX11_mark 17 = .ok (.bipush 100, 2)) rfl ?_
  refine pr_icmp_le hC 24 (by decide +kernel : decode cX11_mark 19 = .ok (.if_icmp .le 5, 3)) (by decide) (fun c_19 => ?_) (fun c_19 => ?_)
  · replace H := H.1 c_19
    refine pr_aload_n hC (by decide +kernel : decode cX11_mark 24 = .ok (.aload_n 0, 1)) rfl ?_
    refine pr_aload_n hC (by decide +kernel : decode cX11_mark 25 = .ok (.aload_n 0, 1)) rfl ?_
    refine pu_g21 hC fg_X11_40 (by decide +kernel : decode cX11_mark 26 = .ok (.getfield 40, 3)) hU ho (by decide) rfl rfl ?_
    have q_4 := H.1
    replace H := H.2
    refine vc_Vv hC hR [.ref (Y.2.1 (uR U_2 o 4))] fv_X11_230 (by decide +kernel : decode cX11_mark 29 = .ok (.invokevirtual 230, 3)) hU (t_X11_keep ho q_4 H) ho (by decide) rfl rfl rfl (Nat.le_of_ble_eq_true rfl) (Nat.le_of_ble_eq_true rfl) (Nat.le_refl 0) (Nat.le_refl 0) (fun U_5 h H hU => ?_)
    refine pr_iload_n hC (by decide +kernel : decode cX11_mark 32 = .ok (.iload_n 1, 1)) rfl ?_
    refine pr_iload_n hC (by decide +kernel : decode cX11_mark 33 = .ok (.iload_n 2, 1)) rfl ?_
    refine vc_Si hC hR [.int a1, .int a2] fv_X11_199 (by decide +kernel : decode cX11_mark 34 = .ok (.invokestatic 199, 3)) hU (t_X9_placeOf  H) rfl rfl (Nat.le_of_ble_eq_true rfl) (Nat.le_of_ble_eq_true rfl) (Nat.le_refl 0) (Nat.le_refl 0) (fun r_8 U_7 h H hU => ?_)
    refine pr_istore hC (by decide +kernel : decode cX11_mark 37 = .ok (.istore 4, 2)) (by decide) rfl ?_
    refine pr_aload_n hC (by decide +kernel : decode cX11_mark 39 = .ok (.aload_n 0, 1)) rfl ?_
    refine pu_g21 hC fg_X11_40 (by decide +kernel : decode cX11_mark 40 = .ok (.getfield 40, 3)) hU ho (by decide) rfl rfl ?_
    have q_9 := H.1
    replace H := H.2
    refine pr_iload hC (by decide +kernel : decode cX11_mark 43 = .ok (.iload 4, 2)) rfl ?_
    refine pr_iload_n hC (by decide +kernel : decode cX11_mark 45 = .ok (.iload_n 3, 1)) rfl ?_
    refine vc_Vv hC hR [.int r_8, .int a3] fv_X11_298 (by decide +kernel : decode cX11_mark 46 = .ok (.invokevirtual 298, 3)) hU (t_X6_giveMark q_9 H) q_9 (by decide) rfl rfl rfl (Nat.le_of_ble_eq_true rfl) (Nat.le_of_ble_eq_true rfl) (Nat.le_refl 0) (Nat.le_refl 0) (fun U_10 h H hU => ?_)
    refine pr_aload_n hC (by decide +kernel : decode cX11_mark 49 = .ok (.aload_n 0, 1)) rfl ?_
    refine pu_g21 hC fg_X11_40 (by decide +kernel : decode cX11_mark 50 = .ok (.getfield 40, 3)) hU ho (by decide) rfl rfl ?_
    have q_12 := H.1
    replace H := H.2
    refine pu_g1 hC fg_X11_141 (by decide +kernel : decode cX11_mark 53 = .ok (.getfield 141, 3)) hU q_12 (by decide) rfl (by decide) ?_
    refine pr_aload_n hC (by decide +kernel : decode cX11_mark 56 = .ok (.aload_n 0, 1)) rfl ?_
    refine pu_g21 hC fg_X11_40 (by decide +kernel : decode cX11_mark 57 = .ok (.getfield 40, 3)) hU ho (by decide) rfl rfl ?_
    have q_13 := H.1
    replace H := H.2
    refine pu_g1 hC fg_X11_202 (by decide +kernel : decode cX11_mark 60 = .ok (.getfield 202, 3)) hU q_13 (by decide) rfl (by decide) ?_
    refine pr_iload hC (by decide +kernel : decode cX11_mark 63 = .ok (.iload 4, 2)) rfl ?_
    refine pu_iald hC (by decide +kernel : decode cX11_mark 65 = .ok (.iaload, 1)) hU q_13 rfl H.1 ?_
    replace H := H.2
    refine pu_fald hC (by decide +kernel : decode cX11_mark 66 = .ok (.faload, 1)) hU q_12 rfl H.1 ?_
    replace H := H.2
    refine pr_f2i hC (by decide +kernel : decode cX11_mark 67 = .ok (.f2i, 1)) ?_
    exact pv_iret hM (by decide +kernel : decode cX11_mark 68 = .ok (.ireturn, 1)) hU H
  replace H := H.2 c_19
  refine pr_iconst hC (-1) (by decide +kernel : decode cX11_mark 22 = .ok (.iconst (-1), 1)) rfl ?_
  exact pv_iret hM (by decide +kernel : decode cX11_mark 23 = .ok (.ireturn, 1)) hU H
def w_X11_review (o : Nat) (a1 : Int32) (a2 : Int32) (U : Um) (post : Int32 → Um → Prop) : Prop :=
  (a1 < 0 → post (-1) U) ∧ (¬ a1 < 0 → ((9 : Int32) < a1 → post (-1) U) ∧ (¬ (9 : Int32) < a1 → (a2 < 0 → post (-1) U) ∧ (¬ a2 < 0 → (a2 ≤ 9 → oc (uR U o 4) = 5 ∧ w_X11_keep o (uR U o 4) U (fun U_2 => oc (uR U_2 o 4) = 5 ∧ w_X6_promote (uR U_2 o 4) a1 a2 U_2 (fun r_6 U_5 => post r_6 U_5))) ∧ (¬ a2 ≤ 9 → post (-1) U))))
set_option maxHeartbeats 4000000 in
theorem t_X11_review {l : Launch} {Y : px_Y} {o : Nat} {a1 : Int32} {a2 : Int32} {U : Um} {post : Int32 → Um → Prop} (ho : oc o = 9) (H : w_X11_review o a1 a2 U post) : um l Y 4 yX11_review cX11_review 3 (some (.int)) [.ref (Y.2.1 o), .int a1, .int a2] U (pq_i post) := by
  unfold w_X11_review at H
  refine um_of (by decide) (Nat.le_of_ble_eq_true rfl) [some (.ref (Y.2.1 o)), some (.int a1), some (.int a2)] rfl (fun X h0 hh sz hM hU => ?_)
  have hC := hM.1
  have hR := hM.2.2.1
  refine pr_iload_n hC (by decide +kernel : decode cX11_review 0 = .ok (.iload_n 1, 1)) rfl ?_
  refine pr_if_lt hC 20 (by decide +kernel : decode cX11_review 1 = .ok (.ifCond .lt 19, 3)) (by decide) (fun c_1 => ?_) (fun c_1 => ?_)
  · replace H := H.1 c_1
    refine pr_iconst hC (-1) (by decide +kernel : decode cX11_review 20 = .ok (.iconst (-1), 1)) rfl ?_
    exact pv_iret hM (by decide +kernel : decode cX11_review 21 = .ok (.ireturn, 1)) hU H
  replace H := H.2 c_1
  refine pr_iload_n hC (by decide +kernel : decode cX11_review 4 = .ok (.iload_n 1, 1)) rfl ?_
  refine pr_bipush hC (9) (by decide +kernel : decode cX11_review 5 = .ok (.bipush 9, 2)) rfl ?_
  refine pr_icmp_gt hC 20 (by decide +kernel : decode cX11_review 7 = .ok (.if_icmp .gt 13, 3)) (by decide) (fun c_7 => ?_) (fun c_7 => ?_)
  · replace H := H.1 c_7
    refine pr_iconst hC (-1) (by decide +kernel : decode cX11_review 20 = .ok (.iconst (-1), 1)) rfl ?_
    exact pv_iret hM (by decide +kernel : decode cX11_review 21 = .ok (.ireturn, 1)) hU H
  replace H := H.2 c_7
  refine pr_iload_n hC (by decide +kernel : decode cX11_review 10 = .ok (.iload_n 2, 1)) rfl ?_
  refine pr_if_lt hC 20 (by decide +kernel : decode cX11_review 11 = .ok (.ifCond .lt 9, 3)) (by decide) (fun c_11 => ?_) (fun c_11 => ?_)
  · replace H := H.1 c_11
    refine pr_iconst hC (-1) (by decide +kernel : decode cX11_review 20 = .ok (.iconst (-1), 1)) rfl ?_
    exact pv_iret hM (by decide +kernel : decode cX11_review 21 = .ok (.ireturn, 1)) hU H
  replace H := H.2 c_11
  refine pr_iload_n hC (by decide +kernel : decode cX11_review 14 = .ok (.iload_n 2, 1)) rfl ?_
  refine pr_bipush hC (9) (by decide +kernel : decode cX11_review 15 = .ok (.bipush 9, 2)) rfl ?_
  refine pr_icmp_le hC 22 (by decide +kernel : decode cX11_review 17 = .ok (.if_icmp .le 5, 3)) (by decide) (fun c_17 => ?_) (fun c_17 => ?_)
  · replace H := H.1 c_17
    refine pr_aload_n hC (by decide +kernel : decode cX11_review 22 = .ok (.aload_n 0, 1)) rfl ?_
    refine pr_aload_n hC (by decide +kernel : decode cX11_review 23 = .ok (.aload_n 0, 1)) rfl ?_
    refine pu_g21 hC fg_X11_40 (by decide +kernel : decode cX11_review 24 = .ok (.getfield 40, 3)) hU ho (by decide) rfl rfl ?_
    have q_1 := H.1
    replace H := H.2
    refine vc_Vv hC hR [.ref (Y.2.1 (uR U o 4))] fv_X11_230 (by decide +kernel : decode cX11_review 27 = .ok (.invokevirtual 230, 3)) hU (t_X11_keep ho q_1 H) ho (by decide) rfl rfl rfl (Nat.le_of_ble_eq_true rfl) (Nat.le_of_ble_eq_true rfl) (Nat.le_refl 0) (Nat.le_refl 0) (fun U_2 h H hU => ?_)
    refine pr_aload_n hC (by decide +kernel : decode cX11_review 30 = .ok (.aload_n 0, 1)) rfl ?_
    refine pu_g21 hC fg_X11_40 (by decide +kernel : decode cX11_review 31 = .ok (.getfield 40, 3)) hU ho (by decide) rfl rfl ?_
    have q_4 := H.1
    replace H := H.2
    refine pr_iload_n hC (by decide +kernel : decode cX11_review 34 = .ok (.iload_n 1, 1)) rfl ?_
    refine pr_iload_n hC (by decide +kernel : decode cX11_review 35 = .ok (.iload_n 2, 1)) rfl ?_
    refine vc_Vi hC hR [.int a1, .int a2] fv_X11_301 (by decide +kernel : decode cX11_review 36 = .ok (.invokevirtual 301, 3)) hU (t_X6_promote q_4 H) q_4 (by decide) rfl rfl rfl (Nat.le_of_ble_eq_true rfl) (Nat.le_of_ble_eq_true rfl) (Nat.le_refl 0) (Nat.le_refl 0) (fun r_6 U_5 h H hU => ?_)
    exact pv_iret hM (by decide +kernel : decode cX11_review 39 = .ok (.ireturn, 1)) hU H
  replace H := H.2 c_17
  refine pr_iconst hC (-1) (by decide +kernel : decode cX11_review 20 = .ok (.iconst (-1), 1)) rfl ?_
  exact pv_iret hM (by decide +kernel : decode cX11_review 21 = .ok (.ireturn, 1)) hU H
def w_X11_rank (o : Nat) (a1 : Int32) (U : Um) (post : Int32 → Um → Prop) : Prop :=
  oc (uR U o 2) = 8 ∧ w_X9_isNamed (uR U o 2) 2 a1 U (fun r_3 U_2 => (r_3 = 0 → post (-1) U_2) ∧ (¬ r_3 = 0 → oc (uR U_2 o 4) = 5 ∧ w_X6_sortByForm (uR U_2 o 4) U_2 (fun U_5 => oc (uR U_5 o 4) = 5 ∧ vp_in a1 10 ∧ post (uA U_5 (uR U_5 o 4) 8 (Int32.toNatClampNeg a1)) U_5)))
set_option maxHeartbeats 4000000 in
theorem t_X11_rank {l : Launch} {Y : px_Y} {o : Nat} {a1 : Int32} {U : Um} {post : Int32 → Um → Prop} (ho : oc o = 9) (H : w_X11_rank o a1 U post) : um l Y 2 yX11_rank cX11_rank 2 (some (.int)) [.ref (Y.2.1 o), .int a1] U (pq_i post) := by
  unfold w_X11_rank at H
  refine um_of (by decide) (Nat.le_of_ble_eq_true rfl) [some (.ref (Y.2.1 o)), some (.int a1)] rfl (fun X h0 hh sz hM hU => ?_)
  have hC := hM.1
  have hR := hM.2.2.1
  refine pr_aload_n hC (by decide +kernel : decode cX11_rank 0 = .ok (.aload_n 0, 1)) rfl ?_
  refine pu_g21 hC fg_X11_28 (by decide +kernel : decode cX11_rank 1 = .ok (.getfield 28, 3)) hU ho (by decide) rfl rfl ?_
  have q_1 := H.1
  replace H := H.2
  refine pr_iconst hC (2) (by decide +kernel : decode cX11_rank 4 = .ok (.iconst 2, 1)) rfl ?_
  refine pr_iload_n hC (by decide +kernel : decode cX11_rank 5 = .ok (.iload_n 1, 1)) rfl ?_
  refine vc_Vi hC hR [.int 2, .int a1] fv_X11_114 (by decide +kernel : decode cX11_rank 6 = .ok (.invokevirtual 114, 3)) hU (t_X9_isNamed q_1 H) q_1 (by decide) rfl rfl rfl (Nat.le_of_ble_eq_true rfl) (Nat.le_of_ble_eq_true rfl) (Nat.le_refl 0) (Nat.le_refl 0) (fun r_3 U_2 h H hU => ?_)
  refine pr_if_ne hC 14 (by decide +kernel : decode cX11_rank 9 = .ok (.ifCond .ne 5, 3)) (by decide) (fun c_9 => ?_) (fun c_9 => ?_)
  · replace H := H.2 c_9
    refine pr_aload_n hC (by decide +kernel : decode cX11_rank 14 = .ok (.aload_n 0, 1)) rfl ?_
    refine pu_g21 hC fg_X11_40 (by decide +kernel : decode cX11_rank 15 = .ok (.getfield 40, 3)) hU ho (by decide) rfl rfl ?_
    have q_4 := H.1
    replace H := H.2
    refine vc_Vv hC hR [] fv_X11_304 (by decide +kernel : decode cX11_rank 18 = .ok (.invokevirtual 304, 3)) hU (t_X6_sortByForm q_4 H) q_4 (by decide) rfl rfl rfl (Nat.le_of_ble_eq_true rfl) (Nat.le_of_ble_eq_true rfl) (Nat.le_refl 0) (Nat.le_refl 0) (fun U_5 h H hU => ?_)
    refine pr_aload_n hC (by decide +kernel : decode cX11_rank 21 = .ok (.aload_n 0, 1)) rfl ?_
    refine pu_g21 hC fg_X11_40 (by decide +kernel : decode cX11_rank 22 = .ok (.getfield 40, 3)) hU ho (by decide) rfl rfl ?_
    have q_7 := H.1
    replace H := H.2
    refine pu_g1 hC fg_X11_307 (by decide +kernel : decode cX11_rank 25 = .ok (.getfield 307, 3)) hU q_7 (by decide) rfl (by decide) ?_
    refine pr_iload_n hC (by decide +kernel : decode cX11_rank 28 = .ok (.iload_n 1, 1)) rfl ?_
    refine pu_iald hC (by decide +kernel : decode cX11_rank 29 = .ok (.iaload, 1)) hU q_7 rfl H.1 ?_
    replace H := H.2
    exact pv_iret hM (by decide +kernel : decode cX11_rank 30 = .ok (.ireturn, 1)) hU H
  replace H := H.1 c_9
  refine pr_iconst hC (-1) (by decide +kernel : decode cX11_rank 12 = .ok (.iconst (-1), 1)) rfl ?_
  exact pv_iret hM (by decide +kernel : decode cX11_rank 13 = .ok (.ireturn, 1)) hU H
def w_X11_undo (o : Nat) (U : Um) (post : Int32 → Um → Prop) : Prop :=
  ((0 : Int32) < (uI U o 9) → ∀ (U_1 : Um), U_1 = sI U o 9 ((uI U o 9) - 1) → oc (uR U_1 o 4) = 5 ∧ vp_in (((uI U_1 o 8) + (uI U_1 o 9)) - ((uI U_1 o 8) + (uI U_1 o 9)) / 8 * 8) 8 ∧ oc (uAR U_1 o 7 (Int32.toNatClampNeg (((uI U_1 o 8) + (uI U_1 o 9)) - ((uI U_1 o 8) + (uI U_1 o 9)) / 8 * 8))) = 5 ∧ w_X6_copyOf (uR U_1 o 4) (uAR U_1 o 7 (Int32.toNatClampNeg (((uI U_1 o 8) + (uI U_1 o 9)) - ((uI U_1 o 8) + (uI U_1 o 9)) / 8 * 8))) U_1 (fun U_5 => post (uI U_5 o 9) U_5)) ∧ (¬ (0 : Int32) < (uI U o 9) → post (-1) U)
set_option maxHeartbeats 4000000 in
theorem t_X11_undo {l : Launch} {Y : px_Y} {o : Nat} {U : Um} {post : Int32 → Um → Prop} (ho : oc o = 9) (H : w_X11_undo o U post) : um l Y 3 yX11_undo cX11_undo 1 (some (.int)) [.ref (Y.2.1 o)] U (pq_i post) := by
  unfold w_X11_undo at H
  refine um_of (by decide) (Nat.le_of_ble_eq_true rfl) [some (.ref (Y.2.1 o))] rfl (fun X h0 hh sz hM hU => ?_)
  have hC := hM.1
  have hR := hM.2.2.1
  refine pr_aload_n hC (by decide +kernel : decode cX11_undo 0 = .ok (.aload_n 0, 1)) rfl ?_
  refine pu_g0 hC fg_X11_82 (by decide +kernel : decode cX11_undo 1 = .ok (.getfield 82, 3)) hU ho (by decide) rfl rfl ?_
  refine pr_if_gt hC 9 (by decide +kernel : decode cX11_undo 4 = .ok (.ifCond .gt 5, 3)) (by decide) (fun c_4 => ?_) (fun c_4 => ?_)
  · replace H := H.1 c_4
    refine pr_aload_n hC (by decide +kernel : decode cX11_undo 9 = .ok (.aload_n 0, 1)) rfl ?_
    refine pr_dup hC (by decide +kernel : decode cX11_undo 10 = .ok (.dup, 1)) rfl ?_
    refine pu_g0 hC fg_X11_82 (by decide +kernel : decode cX11_undo 11 = .ok (.getfield 82, 3)) hU ho (by decide) rfl rfl ?_
    refine pr_iconst hC (1) (by decide +kernel : decode cX11_undo 14 = .ok (.iconst 1, 1)) rfl ?_
    refine pr_isub hC (by decide +kernel : decode cX11_undo 15 = .ok (.isub, 1)) ?_
    refine pv_p0 hC fp_X11_82 (by decide +kernel : decode cX11_undo 16 = .ok (.putfield 82, 3)) hU ho (by decide) rfl rfl rfl rfl (fun U_1 h e_U_1 hU => ?_)
    replace H := H U_1 e_U_1
    refine pr_aload_n hC (by decide +kernel : decode cX11_undo 19 = .ok (.aload_n 0, 1)) rfl ?_
    refine pu_g21 hC fg_X11_40 (by decide +kernel : decode cX11_undo 20 = .ok (.getfield 40, 3)) hU ho (by decide) rfl rfl ?_
    have q_2 := H.1
    replace H := H.2
    refine pr_aload_n hC (by decide +kernel : decode cX11_undo 23 = .ok (.aload_n 0, 1)) rfl ?_
    refine pu_g1 hC fg_X11_56 (by decide +kernel : decode cX11_undo 24 = .ok (.getfield 56, 3)) hU ho (by decide) rfl (by decide) ?_
    refine pr_aload_n hC (by decide +kernel : decode cX11_undo 27 = .ok (.aload_n 0, 1)) rfl ?_
    refine pu_g0 hC fg_X11_310 (by decide +kernel : decode cX11_undo 28 = .ok (.getfield 310, 3)) hU ho (by decide) rfl rfl ?_
    refine pr_aload_n hC (by decide +kernel : decode cX11_undo 31 = .ok (.aload_n 0, 1)) rfl ?_
    refine pu_g0 hC fg_X11_82 (by decide +kernel : decode cX11_undo 32 = .ok (.getfield 82, 3)) hU ho (by decide) rfl rfl ?_
    refine pr_iadd hC (by decide +kernel : decode cX11_undo 35 = .ok (.iadd, 1)) ?_
    refine pr_bipush hC (8) (by decide +kernel : decode cX11_undo 36 = .ok (.bipush 8, 2)) rfl ?_
    refine pr_irem hC (by decide +kernel : decode cX11_undo 38 = .ok (.irem, 1)) (by decide) ?_
    have q_3 := H.1
    replace H := H.2
    refine pu_aald8 hC (by decide +kernel : decode cX11_undo 39 = .ok (.aaload, 1)) hU ho rfl q_3 ?_
    have q_4 := H.1
    replace H := H.2
    refine vc_Vv hC hR [.ref (Y.2.1 (uAR U_1 o 7 (Int32.toNatClampNeg (((uI U_1 o 8) + (uI U_1 o 9)) - ((uI U_1 o 8) + (uI U_1 o 9)) / 8 * 8))))] fv_X11_268 (by decide +kernel : decode cX11_undo 40 = .ok (.invokevirtual 268, 3)) hU (t_X6_copyOf q_2 q_4 H) q_2 (by decide) rfl rfl rfl (Nat.le_of_ble_eq_true rfl) (Nat.le_of_ble_eq_true rfl) (Nat.le_refl 0) (Nat.le_refl 0) (fun U_5 h H hU => ?_)
    refine pr_aload_n hC (by decide +kernel : decode cX11_undo 43 = .ok (.aload_n 0, 1)) rfl ?_
    refine pu_g0 hC fg_X11_82 (by decide +kernel : decode cX11_undo 44 = .ok (.getfield 82, 3)) hU ho (by decide) rfl rfl ?_
    exact pv_iret hM (by decide +kernel : decode cX11_undo 47 = .ok (.ireturn, 1)) hU H
  replace H := H.2 c_4
  refine pr_iconst hC (-1) (by decide +kernel : decode cX11_undo 7 = .ok (.iconst (-1), 1)) rfl ?_
  exact pv_iret hM (by decide +kernel : decode cX11_undo 8 = .ok (.ireturn, 1)) hU H
def w_X11_isShelf (o : Nat) (a1 : Int32) (U : Um) (post : Int32 → Um → Prop) : Prop :=
  (a1 < 0 → post 0 U) ∧ (¬ a1 < 0 → ((3 : Int32) ≤ a1 → post 0 U) ∧ (¬ (3 : Int32) ≤ a1 → post 1 U))
set_option maxHeartbeats 4000000 in
theorem t_X11_isShelf {l : Launch} {Y : px_Y} {o : Nat} {a1 : Int32} {U : Um} {post : Int32 → Um → Prop} (ho : oc o = 9) (H : w_X11_isShelf o a1 U post) : um l Y 0 yX11_isShelf cX11_isShelf 2 (some (.boolean)) [.ref (Y.2.1 o), .int a1] U (pq_i post) := by
  unfold w_X11_isShelf at H
  refine um_of (by decide) (Nat.le_of_ble_eq_true rfl) [some (.ref (Y.2.1 o)), some (.int a1)] rfl (fun X h0 hh sz hM hU => ?_)
  have hC := hM.1
  have hR := hM.2.2.1
  refine pr_iload_n hC (by decide +kernel : decode cX11_isShelf 0 = .ok (.iload_n 1, 1)) rfl ?_
  refine pr_if_lt hC 17 (by decide +kernel : decode cX11_isShelf 1 = .ok (.ifCond .lt 16, 3)) (by decide) (fun c_1 => ?_) (fun c_1 => ?_)
  · replace H := H.1 c_1
    refine pr_iconst hC (0) (by decide +kernel : decode cX11_isShelf 17 = .ok (.iconst 0, 1)) rfl ?_
    exact pv_zret hM (by decide +kernel : decode cX11_isShelf 18 = .ok (.ireturn, 1)) (Or.inl rfl) hU H
  replace H := H.2 c_1
  refine pr_iload_n hC (by decide +kernel : decode cX11_isShelf 4 = .ok (.iload_n 1, 1)) rfl ?_
  refine pr_aload_n hC (by decide +kernel : decode cX11_isShelf 5 = .ok (.aload_n 0, 1)) rfl ?_
  refine pu_g1 hC fg_X11_63 (by decide +kernel : decode cX11_isShelf 6 = .ok (.getfield 63, 3)) hU ho (by decide) rfl (by decide) ?_
  refine pu_len8 hC (by decide +kernel : decode cX11_isShelf 9 = .ok (.arraylength, 1)) hU ho rfl (v := 3) rfl ?_
  refine pr_icmp_ge hC 17 (by decide +kernel : decode cX11_isShelf 10 = .ok (.if_icmp .ge 7, 3)) (by decide) (fun c_10 => ?_) (fun c_10 => ?_)
  · replace H := H.1 c_10
    refine pr_iconst hC (0) (by decide +kernel : decode cX11_isShelf 17 = .ok (.iconst 0, 1)) rfl ?_
    exact pv_zret hM (by decide +kernel : decode cX11_isShelf 18 = .ok (.ireturn, 1)) (Or.inl rfl) hU H
  replace H := H.2 c_10
  refine pr_iconst hC (1) (by decide +kernel : decode cX11_isShelf 13 = .ok (.iconst 1, 1)) rfl ?_
  refine pr_goto hC 18 (by decide +kernel : decode cX11_isShelf 14 = .ok (.goto 4, 3)) (by decide) ?_
  exact pv_zret hM (by decide +kernel : decode cX11_isShelf 18 = .ok (.ireturn, 1)) (Or.inr rfl) hU H
def w_X12_thrown (o : Nat) (U : Um) (post : Int32 → Um → Prop) : Prop :=
  post (uI U o 0) U
set_option maxHeartbeats 4000000 in
theorem t_X12_thrown {l : Launch} {Y : px_Y} {o : Nat} {U : Um} {post : Int32 → Um → Prop} (ho : oc o = 10) (H : w_X12_thrown o U post) : um l Y 0 yX12_thrown cX12_thrown 1 (some (.int)) [.ref (Y.2.1 o)] U (pq_i post) := by
  unfold w_X12_thrown at H
  refine um_of (by decide) (Nat.le_of_ble_eq_true rfl) [some (.ref (Y.2.1 o))] rfl (fun X h0 hh sz hM hU => ?_)
  have hC := hM.1
  have hR := hM.2.2.1
  refine pr_aload_n hC (by decide +kernel : decode cX12_thrown 0 = .ok (.aload_n 0, 1)) rfl ?_
  refine pu_g0 hC fg_X12_121 (by decide +kernel : decode cX12_thrown 1 = .ok (.getfield 121, 3)) hU ho (by decide) rfl rfl ?_
  exact pv_iret hM (by decide +kernel : decode cX12_thrown 4 = .ok (.ireturn, 1)) hU H
def w_X12_isIn (a1 : Int64) (a2 : Int64) (a3 : Int64) (U : Um) (post : Int32 → Um → Prop) : Prop :=
  ((lg_cmp a1 a2) < 0 → post 0 U) ∧ (¬ (lg_cmp a1 a2) < 0 → ((0 : Int32) < (lg_cmp a1 a3) → post 0 U) ∧ (¬ (0 : Int32) < (lg_cmp a1 a3) → post 1 U))
set_option maxHeartbeats 4000000 in
theorem t_X12_isIn {l : Launch} {Y : px_Y} {a1 : Int64} {a2 : Int64} {a3 : Int64} {U : Um} {post : Int32 → Um → Prop}  (H : w_X12_isIn a1 a2 a3 U post) : um l Y 0 yX12_isIn cX12_isIn 6 (some (.boolean)) [.long a1, .long a2, .long a3] U (pq_i post) := by
  unfold w_X12_isIn at H
  refine um_of (by decide) (Nat.le_of_ble_eq_true rfl) [some (.long a1), none, some (.long a2), none, some (.long a3), none] rfl (fun X h0 hh sz hM hU => ?_)
  have hC := hM.1
  have hR := hM.2.2.1
  refine pr_lload_n hC (by decide +kernel : decode cX12_isIn 0 = .ok (.lload_n 0, 1)) rfl ?_
  refine pr_lload_n hC (by decide +kernel : decode cX12_isIn 1 = .ok (.lload_n 2, 1)) rfl ?_
  refine pr_lcmp hC (by decide +kernel : decode cX12_isIn 2 = .ok (.lcmp, 1)) ?_
  refine pr_if_lt hC 17 (by decide +kernel : decode cX12_isIn 3 = .ok (.ifCond .lt 14, 3)) (by decide) (fun c_3 => ?_) (fun c_3 => ?_)
  · replace H := H.1 c_3
    refine pr_iconst hC (0) (by decide +kernel : decode cX12_isIn 17 = .ok (.iconst 0, 1)) rfl ?_
    exact pv_zret hM (by decide +kernel : decode cX12_isIn 18 = .ok (.ireturn, 1)) (Or.inl rfl) hU H
  replace H := H.2 c_3
  refine pr_lload_n hC (by decide +kernel : decode cX12_isIn 6 = .ok (.lload_n 0, 1)) rfl ?_
  refine pr_lload hC (by decide +kernel : decode cX12_isIn 7 = .ok (.lload 4, 2)) rfl ?_
  refine pr_lcmp hC (by decide +kernel : decode cX12_isIn 9 = .ok (.lcmp, 1)) ?_
  refine pr_if_gt hC 17 (by decide +kernel : decode cX12_isIn 10 = .ok (.ifCond .gt 7, 3)) (by decide) (fun c_10 => ?_) (fun c_10 => ?_)
  · replace H := H.1 c_10
    refine pr_iconst hC (0) (by decide +kernel : decode cX12_isIn 17 = .ok (.iconst 0, 1)) rfl ?_
    exact pv_zret hM (by decide +kernel : decode cX12_isIn 18 = .ok (.ireturn, 1)) (Or.inl rfl) hU H
  replace H := H.2 c_10
  refine pr_iconst hC (1) (by decide +kernel : decode cX12_isIn 13 = .ok (.iconst 1, 1)) rfl ?_
  refine pr_goto hC 18 (by decide +kernel : decode cX12_isIn 14 = .ok (.goto 4, 3)) (by decide) ?_
  exact pv_zret hM (by decide +kernel : decode cX12_isIn 18 = .ok (.ireturn, 1)) (Or.inr rfl) hU H
def w_X12_one (a1 : Int32) (U : Um) (post : Int32 → Um → Prop) : Prop :=
  (a1 = 0 → post 0 U) ∧ (¬ a1 = 0 → post 1 U)
set_option maxHeartbeats 4000000 in
theorem t_X12_one {l : Launch} {Y : px_Y} {a1 : Int32} {U : Um} {post : Int32 → Um → Prop}  (H : w_X12_one a1 U post) : um l Y 0 yX12_one cX12_one 1 (some (.int)) [.int a1] U (pq_i post) := by
  unfold w_X12_one at H
  refine um_of (by decide) (Nat.le_of_ble_eq_true rfl) [some (.int a1)] rfl (fun X h0 hh sz hM hU => ?_)
  have hC := hM.1
  have hR := hM.2.2.1
  refine pr_iload_n hC (by decide +kernel : decode cX12_one 0 = .ok (.iload_n 0, 1)) rfl ?_
  refine pr_if_eq hC 8 (by decide +kernel : decode cX12_one 1 = .ok (.ifCond .eq 7, 3)) (by decide) (fun c_1 => ?_) (fun c_1 => ?_)
  · replace H := H.1 c_1
    refine pr_iconst hC (0) (by decide +kernel : decode cX12_one 8 = .ok (.iconst 0, 1)) rfl ?_
    exact pv_iret hM (by decide +kernel : decode cX12_one 9 = .ok (.ireturn, 1)) hU H
  replace H := H.2 c_1
  refine pr_iconst hC (1) (by decide +kernel : decode cX12_one 4 = .ok (.iconst 1, 1)) rfl ?_
  refine pr_goto hC 9 (by decide +kernel : decode cX12_one 5 = .ok (.goto 4, 3)) (by decide) ?_
  exact pv_iret hM (by decide +kernel : decode cX12_one 9 = .ok (.ireturn, 1)) hU H
def b_X12_four_L3 (o0 : Nat) (x1 : Int32) (post : Um → Prop) (k_39 : Um → Prop) (rec_ : Int32 → Um → Prop) (x2 : Int32) (U : Um) : Prop :=
  (x2 < 0 → k_39 U) ∧ (¬ x2 < 0 → vp_in (uI U o0 17) 1200 ∧ ∀ (U_1 : Um), U_1 = sA U o0 16 (va_up (uA U o0 16) (Int32.toNatClampNeg (uI U o0 17)) ((x1 >>> (x2 &&& 31)) &&& 255)) → ∀ (U_2 : Um), U_2 = sI U_1 o0 17 ((uI U_1 o0 17) + 1) → ∀ (x2_3 : Int32), x2_3 = x2 + (-8) → rec_ x2_3 U_2)
def w_X12_four_L3 (o0 : Nat) (x1 : Int32) (post : Um → Prop) (k_39 : Um → Prop) (n_ : Nat) : Int32 → Um → Prop := Nat.rec (motive := fun _ => Int32 → Um → Prop) (fun _ _ => False) (fun _ ih => b_X12_four_L3 o0 x1 post k_39 ih) n_
def w_X12_four (o : Nat) (a1 : Int32) (U : Um) (post : Um → Prop) : Prop :=
  (∃ n_5, w_X12_four_L3 o a1 post (fun U_4 => post U_4) n_5 24 U)
set_option maxHeartbeats 4000000 in
theorem tl_X12_four_L3 {l : Launch} {Y : px_Y} {X : px_X} {h0 hh : pe_H} {sz : Nat} (o0 : Nat) (x1 : Int32) (post : Um → Prop) (k_39 : Um → Prop) (ho0 : oc o0 = 10)  (hC : px_C X Y.1 (pm_A hh sz) cX12_four RX12 3) (hM : px_M l X Y.1 hh sz yX12_four cX12_four 3 none 0 0 0) (hR : X.2.2.2.1 = pm_rm 0 0 0) (hk_39 : ∀ (U : Um) (h : pe_H), k_39 U → rF Y h0 U h → pw X Y.1 (pm_A hh sz) (pm_E X Y.1 hh sz 0 0 (pm_P Y h0 sz (pq_v post))) 39 [none, none, none] [] h sz 0 0) : ∀ (n_ : Nat) (x2 : Int32) (U : Um) (h : pe_H), rF Y h0 U h → w_X12_four_L3 o0 x1 post k_39 n_ x2 U → pw X Y.1 (pm_A hh sz) (pm_E X Y.1 hh sz 0 0 (pm_P Y h0 sz (pq_v post))) 3 [some (.ref (Y.2.1 o0)), some (.int x1), some (.int x2)] [] h sz 0 0 := by
  intro n_
  induction n_ with
  | zero => intro x2 U h hU H; exact False.elim H
  | succ n_ ih =>
    intro x2 U h hU H
    replace H : b_X12_four_L3 o0 x1 post k_39 (w_X12_four_L3 o0 x1 post k_39 n_) x2 U := H
    unfold b_X12_four_L3 at H
    refine pr_iload_n hC (by decide +kernel : decode cX12_four 3 = .ok (.iload_n 2, 1)) rfl ?_
    refine pr_if_lt hC 39 (by decide +kernel : decode cX12_four 4 = .ok (.ifCond .lt 35, 3)) (by decide) (fun c_4 => ?_) (fun c_4 => ?_)
    · replace H := H.1 c_4
      exact pv_sub [none, none, none] (trivial) (hk_39 U h H hU)
    replace H := H.2 c_4
    refine pr_aload_n hC (by decide +kernel : decode cX12_four 7 = .ok (.aload_n 0, 1)) rfl ?_
    refine pu_g1 hC fg_X12_52 (by decide +kernel : decode cX12_four 8 = .ok (.getfield 52, 3)) hU ho0 (by decide) rfl (by decide) ?_
    refine pr_aload_n hC (by decide +kernel : decode cX12_four 11 = .ok (.aload_n 0, 1)) rfl ?_
    refine pu_g0 hC fg_X12_124 (by decide +kernel : decode cX12_four 12 = .ok (.getfield 124, 3)) hU ho0 (by decide) rfl rfl ?_
    refine pr_iload_n hC (by decide +kernel : decode cX12_four 15 = .ok (.iload_n 1, 1)) rfl ?_
    refine pr_iload_n hC (by decide +kernel : decode cX12_four 16 = .ok (.iload_n 2, 1)) rfl ?_
    refine pr_ishr hC (by decide +kernel : decode cX12_four 17 = .ok (.ishr, 1)) ?_
    refine pr_sipush hC (255) (by decide +kernel : decode cX12_four 18 = .ok (.sipush 255, 3)) rfl ?_
    refine pr_iand hC (by decide +kernel : decode cX12_four 21 = .ok (.iand, 1)) ?_
    refine pv_iast hC (by decide +kernel : decode cX12_four 22 = .ok (.iastore, 1)) hU ho0 rfl H.1 (fun U_1 h e_U_1 hU => ?_)
    replace H := H.2 U_1 e_U_1
    refine pr_aload_n hC (by decide +kernel : decode cX12_four 23 = .ok (.aload_n 0, 1)) rfl ?_
    refine pr_dup hC (by decide +kernel : decode cX12_four 24 = .ok (.dup, 1)) rfl ?_
    refine pu_g0 hC fg_X12_124 (by decide +kernel : decode cX12_four 25 = .ok (.getfield 124, 3)) hU ho0 (by decide) rfl rfl ?_
    refine pr_iconst hC (1) (by decide +kernel : decode cX12_four 28 = .ok (.iconst 1, 1)) rfl ?_
    refine pr_iadd hC (by decide +kernel : decode cX12_four 29 = .ok (.iadd, 1)) ?_
    refine pv_p0 hC fp_X12_124 (by decide +kernel : decode cX12_four 30 = .ok (.putfield 124, 3)) hU ho0 (by decide) rfl rfl rfl rfl (fun U_2 h e_U_2 hU => ?_)
    replace H := H U_2 e_U_2
    refine pv_iinc hC (v := x2 + (-8)) (by decide +kernel : decode cX12_four 33 = .ok (.iinc 2 (-8), 3)) rfl (by decide) rfl rfl (fun x2_3 e_x2_3 => ?_)
    replace H := H x2_3 e_x2_3
    refine pr_goto hC 3 (by decide +kernel : decode cX12_four 36 = .ok (.goto (-33), 3)) (by decide) ?_
    exact pv_sub [some (.ref (Y.2.1 o0)), some (.int x1), some (.int x2_3)] (And.intro rfl (And.intro rfl (And.intro rfl trivial))) (ih _ U_2 h hU H)
set_option maxHeartbeats 4000000 in
theorem t_X12_four {l : Launch} {Y : px_Y} {o : Nat} {a1 : Int32} {U : Um} {post : Um → Prop} (ho : oc o = 10) (H : w_X12_four o a1 U post) : um l Y 0 yX12_four cX12_four 3 none [.ref (Y.2.1 o), .int a1] U (pq_v post) := by
  unfold w_X12_four at H
  refine um_of (by decide) (Nat.le_of_ble_eq_true rfl) [some (.ref (Y.2.1 o)), some (.int a1), none] rfl (fun X h0 hh sz hM hU => ?_)
  have hC := hM.1
  have hR := hM.2.2.1
  refine pr_bipush hC (24) (by decide +kernel : decode cX12_four 0 = .ok (.bipush 24, 2)) rfl ?_
  refine pr_istore_n hC (by decide +kernel : decode cX12_four 2 = .ok (.istore_n 2, 1)) (by decide) rfl ?_
  obtain ⟨n_5, H⟩ := H
  refine pv_sub [some (.ref (Y.2.1 o)), some (.int a1), some (.int 24)] (And.intro rfl (And.intro rfl (And.intro rfl trivial))) ?_
  refine tl_X12_four_L3 _ _ _ _ ho hC hM hR (fun U_4 h H hU => ?_) n_5 _ U hh hU H
  exact pv_vret hM (by decide +kernel : decode cX12_four 39 = .ok (.return_, 1)) hU H
def w_X12_feed (o : Nat) (a1 : Int32) (a2 : Int32) (a3 : Int32) (a4 : Int32) (a5 : Int32) (U : Um) (post : Int32 → Um → Prop) : Prop :=
  ∀ (U_1 : Um), U_1 = sI U o 0 0 → (((uI U_1 o 17) + 20) ≤ 1200 → w_X12_four o a1 U_1 (fun U_2 => w_X12_four o a2 U_2 (fun U_4 => w_X12_four o a3 U_4 (fun U_6 => w_X12_four o a4 U_6 (fun U_8 => w_X12_four o a5 U_8 (fun U_10 => post (uI U_10 o 17) U_10)))))) ∧ (¬ ((uI U_1 o 17) + 20) ≤ 1200 → post (-1) U_1)
set_option maxHeartbeats 4000000 in
theorem t_X12_feed {l : Launch} {Y : px_Y} {o : Nat} {a1 : Int32} {a2 : Int32} {a3 : Int32} {a4 : Int32} {a5 : Int32} {U : Um} {post : Int32 → Um → Prop} (ho : oc o = 10) (H : w_X12_feed o a1 a2 a3 a4 a5 U post) : um l Y 1 yX12_feed cX12_feed 6 (some (.int)) [.ref (Y.2.1 o), .int a1, .int a2, .int a3, .int a4, .int a5] U (pq_i post) := by
  unfold w_X12_feed at H
  refine um_of (by decide) (Nat.le_of_ble_eq_true rfl) [some (.ref (Y.2.1 o)), some (.int a1), some (.int a2), some (.int a3), some (.int a4), some (.int a5)] rfl (fun X h0 hh sz hM hU => ?_)
  have hC := hM.1
  have hR := hM.2.2.1
  refine pr_aload_n hC (by decide +kernel : decode cX12_feed 0 = .ok (.aload_n 0, 1)) rfl ?_
  refine pr_iconst hC (0) (by decide +kernel : decode cX12_feed 1 = .ok (.iconst 0, 1)) rfl ?_
  refine pv_p0 hC fp_X12_121 (by decide +kernel : decode cX12_feed 2 = .ok (.putfield 121, 3)) hU ho (by decide) rfl rfl rfl rfl (fun U_1 h e_U_1 hU => ?_)
  replace H := H U_1 e_U_1
  refine pr_aload_n hC (by decide +kernel : decode cX12_feed 5 = .ok (.aload_n 0, 1)) rfl ?_
  refine pu_g0 hC fg_X12_124 (by decide +kernel : decode cX12_feed 6 = .ok (.getfield 124, 3)) hU ho (by decide) rfl rfl ?_
  refine pr_bipush hC (20) (by decide +kernel : decode cX12_feed 9 = .ok (.bipush 20, 2)) rfl ?_
  refine pr_iadd hC (by decide +kernel : decode cX12_feed 11 = .ok (.iadd, 1)) ?_
  refine pr_sipush hC (1200) (by decide +kernel : decode cX12_feed 12 = .ok (.sipush 1200, 3)) rfl ?_
  refine pr_icmp_le hC 20 (by decide +kernel : decode cX12_feed 15 = .ok (.if_icmp .le 5, 3)) (by decide) (fun c_15 => ?_) (fun c_15 => ?_)
  · replace H := H.1 c_15
    refine pr_aload_n hC (by decide +kernel : decode cX12_feed 20 = .ok (.aload_n 0, 1)) rfl ?_
    refine pr_iload_n hC (by decide +kernel : decode cX12_feed 21 = .ok (.iload_n 1, 1)) rfl ?_
    refine vc_Vv hC hR [.int a1] fv_X12_127 (by decide +kernel : decode cX12_feed 22 = .ok (.invokevirtual 127, 3)) hU (t_X12_four ho H) ho (by decide) rfl rfl rfl (Nat.le_of_ble_eq_true rfl) (Nat.le_of_ble_eq_true rfl) (Nat.le_refl 0) (Nat.le_refl 0) (fun U_2 h H hU => ?_)
    refine pr_aload_n hC (by decide +kernel : decode cX12_feed 25 = .ok (.aload_n 0, 1)) rfl ?_
    refine pr_iload_n hC (by decide +kernel : decode cX12_feed 26 = .ok (.iload_n 2, 1)) rfl ?_
    refine vc_Vv hC hR [.int a2] fv_X12_127 (by decide +kernel : decode cX12_feed 27 = .ok (.invokevirtual 127, 3)) hU (t_X12_four ho H) ho (by decide) rfl rfl rfl (Nat.le_of_ble_eq_true rfl) (Nat.le_of_ble_eq_true rfl) (Nat.le_refl 0) (Nat.le_refl 0) (fun U_4 h H hU => ?_)
    refine pr_aload_n hC (by decide +kernel : decode cX12_feed 30 = .ok (.aload_n 0, 1)) rfl ?_
    refine pr_iload_n hC (by decide +kernel : decode cX12_feed 31 = .ok (.iload_n 3, 1)) rfl ?_
    refine vc_Vv hC hR [.int a3] fv_X12_127 (by decide +kernel : decode cX12_feed 32 = .ok (.invokevirtual 127, 3)) hU (t_X12_four ho H) ho (by decide) rfl rfl rfl (Nat.le_of_ble_eq_true rfl) (Nat.le_of_ble_eq_true rfl) (Nat.le_refl 0) (Nat.le_refl 0) (fun U_6 h H hU => ?_)
    refine pr_aload_n hC (by decide +kernel : decode cX12_feed 35 = .ok (.aload_n 0, 1)) rfl ?_
    refine pr_iload hC (by decide +kernel : decode cX12_feed 36 = .ok (.iload 4, 2)) rfl ?_
    refine vc_Vv hC hR [.int a4] fv_X12_127 (by decide +kernel : decode cX12_feed 38 = .ok (.invokevirtual 127, 3)) hU (t_X12_four ho H) ho (by decide) rfl rfl rfl (Nat.le_of_ble_eq_true rfl) (Nat.le_of_ble_eq_true rfl) (Nat.le_refl 0) (Nat.le_refl 0) (fun U_8 h H hU => ?_)
    refine pr_aload_n hC (by decide +kernel : decode cX12_feed 41 = .ok (.aload_n 0, 1)) rfl ?_
    refine pr_iload hC (by decide +kernel : decode cX12_feed 42 = .ok (.iload 5, 2)) rfl ?_
    refine vc_Vv hC hR [.int a5] fv_X12_127 (by decide +kernel : decode cX12_feed 44 = .ok (.invokevirtual 127, 3)) hU (t_X12_four ho H) ho (by decide) rfl rfl rfl (Nat.le_of_ble_eq_true rfl) (Nat.le_of_ble_eq_true rfl) (Nat.le_refl 0) (Nat.le_refl 0) (fun U_10 h H hU => ?_)
    refine pr_aload_n hC (by decide +kernel : decode cX12_feed 47 = .ok (.aload_n 0, 1)) rfl ?_
    refine pu_g0 hC fg_X12_124 (by decide +kernel : decode cX12_feed 48 = .ok (.getfield 124, 3)) hU ho (by decide) rfl rfl ?_
    exact pv_iret hM (by decide +kernel : decode cX12_feed 51 = .ok (.ireturn, 1)) hU H
  replace H := H.2 c_15
  refine pr_iconst hC (-1) (by decide +kernel : decode cX12_feed 18 = .ok (.iconst (-1), 1)) rfl ?_
  exact pv_iret hM (by decide +kernel : decode cX12_feed 19 = .ok (.ireturn, 1)) hU H
def w_X12_end (o : Nat) (a1 : Int32) (U : Um) (post : Int32 → Um → Prop) : Prop :=
  ∀ (U_1 : Um), U_1 = sI U o 0 0 → w_X12_isIn (Int32.toInt64 a1) 0 (Int32.toInt64 (uI U_1 o 17)) U_1 (fun r_3 U_2 => (r_3 = 0 → post 0 U_2) ∧ (¬ r_3 = 0 → ∀ (U_4 : Um), U_4 = sI U_2 o 17 a1 → post 1 U_4))
set_option maxHeartbeats 4000000 in
theorem t_X12_end {l : Launch} {Y : px_Y} {o : Nat} {a1 : Int32} {U : Um} {post : Int32 → Um → Prop} (ho : oc o = 10) (H : w_X12_end o a1 U post) : um l Y 1 yX12_end cX12_end 2 (some (.boolean)) [.ref (Y.2.1 o), .int a1] U (pq_i post) := by
  unfold w_X12_end at H
  refine um_of (by decide) (Nat.le_of_ble_eq_true rfl) [some (.ref (Y.2.1 o)), some (.int a1)] rfl (fun X h0 hh sz hM hU => ?_)
  have hC := hM.1
  have hR := hM.2.2.1
  refine pr_aload_n hC (by decide +kernel : decode cX12_end 0 = .ok (.aload_n 0, 1)) rfl ?_
  refine pr_iconst hC (0) (by decide +kernel : decode cX12_end 1 = .ok (.iconst 0, 1)) rfl ?_
  refine pv_p0 hC fp_X12_121 (by decide +kernel : decode cX12_end 2 = .ok (.putfield 121, 3)) hU ho (by decide) rfl rfl rfl rfl (fun U_1 h e_U_1 hU => ?_)
  replace H := H U_1 e_U_1
  refine pr_iload_n hC (by decide +kernel : decode cX12_end 5 = .ok (.iload_n 1, 1)) rfl ?_
  refine pr_i2l hC (by decide +kernel : decode cX12_end 6 = .ok (.i2l, 1)) ?_
  refine pr_lconst hC (0) (by decide +kernel : decode cX12_end 7 = .ok (.lconst 0, 1)) rfl ?_
  refine pr_aload_n hC (by decide +kernel : decode cX12_end 8 = .ok (.aload_n 0, 1)) rfl ?_
  refine pu_g0 hC fg_X12_124 (by decide +kernel : decode cX12_end 9 = .ok (.getfield 124, 3)) hU ho (by decide) rfl rfl ?_
  refine pr_i2l hC (by decide +kernel : decode cX12_end 12 = .ok (.i2l, 1)) ?_
  refine vc_Si hC hR [.long (Int32.toInt64 a1), .long 0, .long (Int32.toInt64 (uI U_1 o 17))] fv_X12_131 (by decide +kernel : decode cX12_end 13 = .ok (.invokestatic 131, 3)) hU (t_X12_isIn  H) rfl rfl (Nat.le_of_ble_eq_true rfl) (Nat.le_of_ble_eq_true rfl) (Nat.le_refl 0) (Nat.le_refl 0) (fun r_3 U_2 h H hU => ?_)
  refine pr_if_ne hC 21 (by decide +kernel : decode cX12_end 16 = .ok (.ifCond .ne 5, 3)) (by decide) (fun c_16 => ?_) (fun c_16 => ?_)
  · replace H := H.2 c_16
    refine pr_aload_n hC (by decide +kernel : decode cX12_end 21 = .ok (.aload_n 0, 1)) rfl ?_
    refine pr_iload_n hC (by decide +kernel : decode cX12_end 22 = .ok (.iload_n 1, 1)) rfl ?_
    refine pv_p0 hC fp_X12_124 (by decide +kernel : decode cX12_end 23 = .ok (.putfield 124, 3)) hU ho (by decide) rfl rfl rfl rfl (fun U_4 h e_U_4 hU => ?_)
    replace H := H U_4 e_U_4
    refine pr_iconst hC (1) (by decide +kernel : decode cX12_end 26 = .ok (.iconst 1, 1)) rfl ?_
    exact pv_zret hM (by decide +kernel : decode cX12_end 27 = .ok (.ireturn, 1)) (Or.inr rfl) hU H
  replace H := H.1 c_16
  refine pr_iconst hC (0) (by decide +kernel : decode cX12_end 19 = .ok (.iconst 0, 1)) rfl ?_
  exact pv_zret hM (by decide +kernel : decode cX12_end 20 = .ok (.ireturn, 1)) (Or.inl rfl) hU H
def w_X12_see (o : Nat) (a1 : Int32) (U : Um) (post : Int32 → Um → Prop) : Prop :=
  ((uI U o 17) ≤ a1 → post (-1) U) ∧ (¬ (uI U o 17) ≤ a1 → vp_in a1 1200 ∧ post (uA U o 16 (Int32.toNatClampNeg a1)) U)
set_option maxHeartbeats 4000000 in
theorem t_X12_see {l : Launch} {Y : px_Y} {o : Nat} {a1 : Int32} {U : Um} {post : Int32 → Um → Prop} (ho : oc o = 10) (H : w_X12_see o a1 U post) : um l Y 0 yX12_see cX12_see 2 (some (.int)) [.ref (Y.2.1 o), .int a1] U (pq_i post) := by
  unfold w_X12_see at H
  refine um_of (by decide) (Nat.le_of_ble_eq_true rfl) [some (.ref (Y.2.1 o)), some (.int a1)] rfl (fun X h0 hh sz hM hU => ?_)
  have hC := hM.1
  have hR := hM.2.2.1
  refine pr_iload_n hC (by decide +kernel : decode cX12_see 0 = .ok (.iload_n 1, 1)) rfl ?_
  refine pr_aload_n hC (by decide +kernel : decode cX12_see 1 = .ok (.aload_n 0, 1)) rfl ?_
  refine pu_g0 hC fg_X12_124 (by decide +kernel : decode cX12_see 2 = .ok (.getfield 124, 3)) hU ho (by decide) rfl rfl ?_
  refine pr_icmp_ge hC 17 (by decide +kernel : decode cX12_see 5 = .ok (.if_icmp .ge 12, 3)) (by decide) (fun c_5 => ?_) (fun c_5 => ?_)
  · replace H := H.1 c_5
    refine pr_iconst hC (-1) (by decide +kernel : decode cX12_see 17 = .ok (.iconst (-1), 1)) rfl ?_
    exact pv_iret hM (by decide +kernel : decode cX12_see 18 = .ok (.ireturn, 1)) hU H
  replace H := H.2 c_5
  refine pr_aload_n hC (by decide +kernel : decode cX12_see 8 = .ok (.aload_n 0, 1)) rfl ?_
  refine pu_g1 hC fg_X12_52 (by decide +kernel : decode cX12_see 9 = .ok (.getfield 52, 3)) hU ho (by decide) rfl (by decide) ?_
  refine pr_iload_n hC (by decide +kernel : decode cX12_see 12 = .ok (.iload_n 1, 1)) rfl ?_
  refine pu_iald hC (by decide +kernel : decode cX12_see 13 = .ok (.iaload, 1)) hU ho rfl H.1 ?_
  replace H := H.2
  refine pr_goto hC 18 (by decide +kernel : decode cX12_see 14 = .ok (.goto 4, 3)) (by decide) ?_
  exact pv_iret hM (by decide +kernel : decode cX12_see 18 = .ok (.ireturn, 1)) hU H
def b_X12_next_L0 (o0 : Nat) (post : Um → Prop) (k_39 : Um → Prop) (rec_ : Um → Prop)  (U : Um) : Prop :=
  w_X12_see o0 (uI U o0 24) U (fun r_2 U_1 => (r_2 = 32 → ∀ (U_3 : Um), U_3 = sI U_1 o0 24 ((uI U_1 o0 24) + 1) → rec_ U_3) ∧ (¬ r_2 = 32 → w_X12_see o0 (uI U_1 o0 24) U_1 (fun r_5 U_4 => (r_5 = 10 → ∀ (U_6 : Um), U_6 = sI U_4 o0 24 ((uI U_4 o0 24) + 1) → rec_ U_6) ∧ (¬ r_5 = 10 → k_39 U_4))))
def w_X12_next_L0 (o0 : Nat) (post : Um → Prop) (k_39 : Um → Prop) (n_ : Nat) : Um → Prop := Nat.rec (motive := fun _ => Um → Prop) (fun _ => False) (fun _ ih => b_X12_next_L0 o0 post k_39 ih) n_
def b_X12_next_L196 (o0 : Nat) (post : Um → Prop) (k_286 : Um → Prop) (rec_ : Um → Prop)  (U : Um) : Prop :=
  w_X12_see o0 (uI U o0 24) U (fun r_24 U_23 => w_X12_isIn (Int32.toInt64 r_24) 48 57 U_23 (fun r_26 U_25 => (r_26 = 0 → k_286 U_25) ∧ (¬ r_26 = 0 → ((4 : Int32) ≤ ((uI U_25 o0 24) - (uI U_25 o0 23)) → ∀ (U_27 : Um), U_27 = sI U_25 o0 24 ((uI U_25 o0 24) + 1) → rec_ U_27) ∧ (¬ (4 : Int32) ≤ ((uI U_25 o0 24) - (uI U_25 o0 23)) → w_X12_see o0 (uI U_25 o0 24) U_25 (fun r_29 U_28 => ∀ (U_30 : Um), U_30 = sI U_28 o0 26 (((10 * (uI U_25 o0 26)) + r_29) - 48) → ∀ (U_31 : Um), U_31 = sI U_30 o0 24 ((uI U_30 o0 24) + 1) → rec_ U_31)))))
def w_X12_next_L196 (o0 : Nat) (post : Um → Prop) (k_286 : Um → Prop) (n_ : Nat) : Um → Prop := Nat.rec (motive := fun _ => Um → Prop) (fun _ => False) (fun _ ih => b_X12_next_L196 o0 post k_286 ih) n_
def b_X12_next_L103 (o0 : Nat) (post : Um → Prop) (k_286 : Um → Prop) (rec_ : Um → Prop)  (U : Um) : Prop :=
  w_X12_see o0 (uI U o0 24) U (fun r_36 U_35 => w_X12_isIn (Int32.toInt64 r_36) 97 122 U_35 (fun r_38 U_37 => (r_38 = 0 → k_286 U_37) ∧ (¬ r_38 = 0 → ((6 : Int32) ≤ ((uI U_37 o0 24) - (uI U_37 o0 23)) → ∀ (U_39 : Um), U_39 = sI U_37 o0 24 ((uI U_37 o0 24) + 1) → rec_ U_39) ∧ (¬ (6 : Int32) ≤ ((uI U_37 o0 24) - (uI U_37 o0 23)) → w_X12_see o0 (uI U_37 o0 24) U_37 (fun r_41 U_40 => ∀ (U_42 : Um), U_42 = sL U_40 o0 25 (((27 * (uL U_37 o0 25)) + (Int32.toInt64 r_41)) - 96) → ∀ (U_43 : Um), U_43 = sI U_42 o0 24 ((uI U_42 o0 24) + 1) → rec_ U_43)))))
def w_X12_next_L103 (o0 : Nat) (post : Um → Prop) (k_286 : Um → Prop) (n_ : Nat) : Um → Prop := Nat.rec (motive := fun _ => Um → Prop) (fun _ => False) (fun _ ih => b_X12_next_L103 o0 post k_286 ih) n_
def w_X12_next (o : Nat) (U : Um) (post : Um → Prop) : Prop :=
  (∃ n_46, w_X12_next_L0 o post (fun U_7 => ∀ (U_8 : Um), U_8 = sI U_7 o 23 (uI U_7 o 24) → w_X12_see o (uI U_8 o 24) U_8 (fun r_10 U_9 => ∀ (U_11 : Um), U_11 = sL U_9 o 25 0 → ∀ (U_12 : Um), U_12 = sI U_11 o 26 0 → ∀ (U_13 : Um), U_13 = sI U_12 o 27 0 → (r_10 = (-1) → ∀ (U_14 : Um), U_14 = sI U_13 o 22 0 → post U_14) ∧ (¬ r_10 = (-1) → w_X12_isIn (Int32.toInt64 r_10) 97 122 U_13 (fun r_16 U_15 => (r_16 = 0 → w_X12_isIn (Int32.toInt64 r_10) 48 57 U_15 (fun r_18 U_17 => (r_18 = 0 → ∀ (U_19 : Um), U_19 = sI U_17 o 22 3 → ∀ (U_20 : Um), U_20 = sI U_19 o 27 r_10 → ∀ (U_21 : Um), U_21 = sI U_20 o 24 ((uI U_20 o 24) + 1) → post U_21) ∧ (¬ r_18 = 0 → ∀ (U_22 : Um), U_22 = sI U_17 o 22 2 → (∃ n_33, w_X12_next_L196 o post (fun U_32 => post U_32) n_33  U_22)))) ∧ (¬ r_16 = 0 → ∀ (U_34 : Um), U_34 = sI U_15 o 22 1 → (∃ n_45, w_X12_next_L103 o post (fun U_44 => post U_44) n_45  U_34)))))) n_46  U)
set_option maxHeartbeats 4000000 in
theorem tl_X12_next_L0 {l : Launch} {Y : px_Y} {X : px_X} {h0 hh : pe_H} {sz : Nat} (o0 : Nat) (post : Um → Prop) (k_39 : Um → Prop) (ho0 : oc o0 = 10)  (hC : px_C X Y.1 (pm_A hh sz) cX12_next RX12 2) (hM : px_M l X Y.1 hh sz yX12_next cX12_next 2 none 1 0 0) (hR : X.2.2.2.1 = pm_rm 1 0 0) (hk_39 : ∀ (U : Um) (h : pe_H), k_39 U → rF Y h0 U h → pw X Y.1 (pm_A hh sz) (pm_E X Y.1 hh sz 0 0 (pm_P Y h0 sz (pq_v post))) 39 [some (.ref (Y.2.1 o0)), none] [] h sz 0 0) : ∀ (n_ : Nat)  (U : Um) (h : pe_H), rF Y h0 U h → w_X12_next_L0 o0 post k_39 n_  U → pw X Y.1 (pm_A hh sz) (pm_E X Y.1 hh sz 0 0 (pm_P Y h0 sz (pq_v post))) 0 [some (.ref (Y.2.1 o0)), none] [] h sz 0 0 := by
  intro n_
  induction n_ with
  | zero => intro  U h hU H; exact False.elim H
  | succ n_ ih =>
    intro  U h hU H
    replace H : b_X12_next_L0 o0 post k_39 (w_X12_next_L0 o0 post k_39 n_)  U := H
    unfold b_X12_next_L0 at H
    refine pr_aload_n hC (by decide +kernel : decode cX12_next 0 = .ok (.aload_n 0, 1)) rfl ?_
    refine pr_aload_n hC (by decide +kernel : decode cX12_next 1 = .ok (.aload_n 0, 1)) rfl ?_
    refine pu_g0 hC fg_X12_135 (by decide +kernel : decode cX12_next 2 = .ok (.getfield 135, 3)) hU ho0 (by decide) rfl rfl ?_
    refine vc_Vi hC hR [.int (uI U o0 24)] fv_X12_138 (by decide +kernel : decode cX12_next 5 = .ok (.invokevirtual 138, 3)) hU (t_X12_see ho0 H) ho0 (by decide) rfl rfl rfl (Nat.le_of_ble_eq_true rfl) (Nat.le_of_ble_eq_true rfl) (Nat.le_refl 0) (Nat.le_refl 0) (fun r_2 U_1 h H hU => ?_)
    refine pr_bipush hC (32) (by decide +kernel : decode cX12_next 8 = .ok (.bipush 32, 2)) rfl ?_
    refine pr_icmp_eq hC 26 (by decide +kernel : decode cX12_next 10 = .ok (.if_icmp .eq 16, 3)) (by decide) (fun c_10 => ?_) (fun c_10 => ?_)
    · replace H := H.1 c_10
      refine pr_aload_n hC (by decide +kernel : decode cX12_next 26 = .ok (.aload_n 0, 1)) rfl ?_
      refine pr_dup hC (by decide +kernel : decode cX12_next 27 = .ok (.dup, 1)) rfl ?_
      refine pu_g0 hC fg_X12_135 (by decide +kernel : decode cX12_next 28 = .ok (.getfield 135, 3)) hU ho0 (by decide) rfl rfl ?_
      refine pr_iconst hC (1) (by decide +kernel : decode cX12_next 31 = .ok (.iconst 1, 1)) rfl ?_
      refine pr_iadd hC (by decide +kernel : decode cX12_next 32 = .ok (.iadd, 1)) ?_
      refine pv_p0 hC fp_X12_135 (by decide +kernel : decode cX12_next 33 = .ok (.putfield 135, 3)) hU ho0 (by decide) rfl rfl rfl rfl (fun U_3 h e_U_3 hU => ?_)
      replace H := H U_3 e_U_3
      refine pr_goto hC 0 (by decide +kernel : decode cX12_next 36 = .ok (.goto (-36), 3)) (by decide) ?_
      exact pv_sub [some (.ref (Y.2.1 o0)), none] (And.intro rfl trivial) (ih U_3 h hU H)
    replace H := H.2 c_10
    refine pr_aload_n hC (by decide +kernel : decode cX12_next 13 = .ok (.aload_n 0, 1)) rfl ?_
    refine pr_aload_n hC (by decide +kernel : decode cX12_next 14 = .ok (.aload_n 0, 1)) rfl ?_
    refine pu_g0 hC fg_X12_135 (by decide +kernel : decode cX12_next 15 = .ok (.getfield 135, 3)) hU ho0 (by decide) rfl rfl ?_
    refine vc_Vi hC hR [.int (uI U_1 o0 24)] fv_X12_138 (by decide +kernel : decode cX12_next 18 = .ok (.invokevirtual 138, 3)) hU (t_X12_see ho0 H) ho0 (by decide) rfl rfl rfl (Nat.le_of_ble_eq_true rfl) (Nat.le_of_ble_eq_true rfl) (Nat.le_refl 0) (Nat.le_refl 0) (fun r_5 U_4 h H hU => ?_)
    refine pr_bipush hC (10) (by decide +kernel : decode cX12_next 21 = .ok (.bipush 10, 2)) rfl ?_
    refine pr_icmp_ne hC 39 (by decide +kernel : decode cX12_next 23 = .ok (.if_icmp .ne 16, 3)) (by decide) (fun c_23 => ?_) (fun c_23 => ?_)
    · replace H := H.2 c_23
      exact pv_sub [some (.ref (Y.2.1 o0)), none] (And.intro rfl trivial) (hk_39 U_4 h H hU)
    replace H := H.1 c_23
    refine pr_aload_n hC (by decide +kernel : decode cX12_next 26 = .ok (.aload_n 0, 1)) rfl ?_
    refine pr_dup hC (by decide +kernel : decode cX12_next 27 = .ok (.dup, 1)) rfl ?_
    refine pu_g0 hC fg_X12_135 (by decide +kernel : decode cX12_next 28 = .ok (.getfield 135, 3)) hU ho0 (by decide) rfl rfl ?_
    refine pr_iconst hC (1) (by decide +kernel : decode cX12_next 31 = .ok (.iconst 1, 1)) rfl ?_
    refine pr_iadd hC (by decide +kernel : decode cX12_next 32 = .ok (.iadd, 1)) ?_
    refine pv_p0 hC fp_X12_135 (by decide +kernel : decode cX12_next 33 = .ok (.putfield 135, 3)) hU ho0 (by decide) rfl rfl rfl rfl (fun U_6 h e_U_6 hU => ?_)
    replace H := H U_6 e_U_6
    refine pr_goto hC 0 (by decide +kernel : decode cX12_next 36 = .ok (.goto (-36), 3)) (by decide) ?_
    exact pv_sub [some (.ref (Y.2.1 o0)), none] (And.intro rfl trivial) (ih U_6 h hU H)
set_option maxHeartbeats 4000000 in
theorem tl_X12_next_L196 {l : Launch} {Y : px_Y} {X : px_X} {h0 hh : pe_H} {sz : Nat} (o0 : Nat) (post : Um → Prop) (k_286 : Um → Prop) (ho0 : oc o0 = 10)  (hC : px_C X Y.1 (pm_A hh sz) cX12_next RX12 2) (hM : px_M l X Y.1 hh sz yX12_next cX12_next 2 none 1 0 0) (hR : X.2.2.2.1 = pm_rm 1 0 0) (hk_286 : ∀ (U : Um) (h : pe_H), k_286 U → rF Y h0 U h → pw X Y.1 (pm_A hh sz) (pm_E X Y.1 hh sz 0 0 (pm_P Y h0 sz (pq_v post))) 286 [none, none] [] h sz 0 0) : ∀ (n_ : Nat)  (U : Um) (h : pe_H), rF Y h0 U h → w_X12_next_L196 o0 post k_286 n_  U → pw X Y.1 (pm_A hh sz) (pm_E X Y.1 hh sz 0 0 (pm_P Y h0 sz (pq_v post))) 196 [some (.ref (Y.2.1 o0)), none] [] h sz 0 0 := by
  intro n_
  induction n_ with
  | zero => intro  U h hU H; exact False.elim H
  | succ n_ ih =>
    intro  U h hU H
    replace H : b_X12_next_L196 o0 post k_286 (w_X12_next_L196 o0 post k_286 n_)  U := H
    unfold b_X12_next_L196 at H
    refine pr_aload_n hC (by decide +kernel : decode cX12_next 196 = .ok (.aload_n 0, 1)) rfl ?_
    refine pr_aload_n hC (by decide +kernel : decode cX12_next 197 = .ok (.aload_n 0, 1)) rfl ?_
    refine pu_g0 hC fg_X12_135 (by decide +kernel : decode cX12_next 198 = .ok (.getfield 135, 3)) hU ho0 (by decide) rfl rfl ?_
    refine vc_Vi hC hR [.int (uI U o0 24)] fv_X12_138 (by decide +kernel : decode cX12_next 201 = .ok (.invokevirtual 138, 3)) hU (t_X12_see ho0 H) ho0 (by decide) rfl rfl rfl (Nat.le_of_ble_eq_true rfl) (Nat.le_of_ble_eq_true rfl) (Nat.le_refl 0) (Nat.le_refl 0) (fun r_24 U_23 h H hU => ?_)
    refine pr_i2l hC (by decide +kernel : decode cX12_next 204 = .ok (.i2l, 1)) ?_
    refine pr_ldc2 hC (48) (by decide +kernel : decode cX12_next 205 = .ok (.ldc2_w 166, 3)) fk_X12_166 ?_
    refine pr_ldc2 hC (57) (by decide +kernel : decode cX12_next 208 = .ok (.ldc2_w 168, 3)) fk_X12_168 ?_
    refine vc_Si hC hR [.long (Int32.toInt64 r_24), .long 48, .long 57] fv_X12_131 (by decide +kernel : decode cX12_next 211 = .ok (.invokestatic 131, 3)) hU (t_X12_isIn  H) rfl rfl (Nat.le_of_ble_eq_true rfl) (Nat.le_of_ble_eq_true rfl) (Nat.le_refl 0) (Nat.le_refl 0) (fun r_26 U_25 h H hU => ?_)
    refine pr_if_eq hC 286 (by decide +kernel : decode cX12_next 214 = .ok (.ifCond .eq 72, 3)) (by decide) (fun c_214 => ?_) (fun c_214 => ?_)
    · replace H := H.1 c_214
      exact pv_sub [none, none] (trivial) (hk_286 U_25 h H hU)
    replace H := H.2 c_214
    refine pr_aload_n hC (by decide +kernel : decode cX12_next 217 = .ok (.aload_n 0, 1)) rfl ?_
    refine pu_g0 hC fg_X12_135 (by decide +kernel : decode cX12_next 218 = .ok (.getfield 135, 3)) hU ho0 (by decide) rfl rfl ?_
    refine pr_aload_n hC (by decide +kernel : decode cX12_next 221 = .ok (.aload_n 0, 1)) rfl ?_
    refine pu_g0 hC fg_X12_142 (by decide +kernel : decode cX12_next 222 = .ok (.getfield 142, 3)) hU ho0 (by decide) rfl rfl ?_
    refine pr_isub hC (by decide +kernel : decode cX12_next 225 = .ok (.isub, 1)) ?_
    refine pr_iconst hC (4) (by decide +kernel : decode cX12_next 226 = .ok (.iconst 4, 1)) rfl ?_
    refine pr_icmp_ge hC 253 (by decide +kernel : decode cX12_next 227 = .ok (.if_icmp .ge 26, 3)) (by decide) (fun c_227 => ?_) (fun c_227 => ?_)
    · replace H := H.1 c_227
      refine pr_aload_n hC (by decide +kernel : decode cX12_next 253 = .ok (.aload_n 0, 1)) rfl ?_
      refine pr_dup hC (by decide +kernel : decode cX12_next 254 = .ok (.dup, 1)) rfl ?_
      refine pu_g0 hC fg_X12_135 (by decide +kernel : decode cX12_next 255 = .ok (.getfield 135, 3)) hU ho0 (by decide) rfl rfl ?_
      refine pr_iconst hC (1) (by decide +kernel : decode cX12_next 258 = .ok (.iconst 1, 1)) rfl ?_
      refine pr_iadd hC (by decide +kernel : decode cX12_next 259 = .ok (.iadd, 1)) ?_
      refine pv_p0 hC fp_X12_135 (by decide +kernel : decode cX12_next 260 = .ok (.putfield 135, 3)) hU ho0 (by decide) rfl rfl rfl rfl (fun U_27 h e_U_27 hU => ?_)
      replace H := H U_27 e_U_27
      refine pr_goto hC 196 (by decide +kernel : decode cX12_next 263 = .ok (.goto (-67), 3)) (by decide) ?_
      exact pv_sub [some (.ref (Y.2.1 o0)), none] (And.intro rfl trivial) (ih U_27 h hU H)
    replace H := H.2 c_227
    refine pr_aload_n hC (by decide +kernel : decode cX12_next 230 = .ok (.aload_n 0, 1)) rfl ?_
    refine pr_bipush hC (10) (by decide +kernel : decode cX12_next 231 = .ok (.bipush 10, 2)) rfl ?_
    refine pr_aload_n hC (by decide +kernel : decode cX12_next 233 = .ok (.aload_n 0, 1)) rfl ?_
    refine pu_g0 hC fg_X12_149 (by decide +kernel : decode cX12_next 234 = .ok (.getfield 149, 3)) hU ho0 (by decide) rfl rfl ?_
    refine pr_imul hC (by decide +kernel : decode cX12_next 237 = .ok (.imul, 1)) ?_
    refine pr_aload_n hC (by decide +kernel : decode cX12_next 238 = .ok (.aload_n 0, 1)) rfl ?_
    refine pr_aload_n hC (by decide +kernel : decode cX12_next 239 = .ok (.aload_n 0, 1)) rfl ?_
    refine pu_g0 hC fg_X12_135 (by decide +kernel : decode cX12_next 240 = .ok (.getfield 135, 3)) hU ho0 (by decide) rfl rfl ?_
    refine vc_Vi hC hR [.int (uI U_25 o0 24)] fv_X12_138 (by decide +kernel : decode cX12_next 243 = .ok (.invokevirtual 138, 3)) hU (t_X12_see ho0 H) ho0 (by decide) rfl rfl rfl (Nat.le_of_ble_eq_true rfl) (Nat.le_of_ble_eq_true rfl) (Nat.le_refl 0) (Nat.le_refl 0) (fun r_29 U_28 h H hU => ?_)
    refine pr_iadd hC (by decide +kernel : decode cX12_next 246 = .ok (.iadd, 1)) ?_
    refine pr_bipush hC (48) (by decide +kernel : decode cX12_next 247 = .ok (.bipush 48, 2)) rfl ?_
    refine pr_isub hC (by decide +kernel : decode cX12_next 249 = .ok (.isub, 1)) ?_
    refine pv_p0 hC fp_X12_149 (by decide +kernel : decode cX12_next 250 = .ok (.putfield 149, 3)) hU ho0 (by decide) rfl rfl rfl rfl (fun U_30 h e_U_30 hU => ?_)
    replace H := H U_30 e_U_30
    refine pr_aload_n hC (by decide +kernel : decode cX12_next 253 = .ok (.aload_n 0, 1)) rfl ?_
    refine pr_dup hC (by decide +kernel : decode cX12_next 254 = .ok (.dup, 1)) rfl ?_
    refine pu_g0 hC fg_X12_135 (by decide +kernel : decode cX12_next 255 = .ok (.getfield 135, 3)) hU ho0 (by decide) rfl rfl ?_
    refine pr_iconst hC (1) (by decide +kernel : decode cX12_next 258 = .ok (.iconst 1, 1)) rfl ?_
    refine pr_iadd hC (by decide +kernel : decode cX12_next 259 = .ok (.iadd, 1)) ?_
    refine pv_p0 hC fp_X12_135 (by decide +kernel : decode cX12_next 260 = .ok (.putfield 135, 3)) hU ho0 (by decide) rfl rfl rfl rfl (fun U_31 h e_U_31 hU => ?_)
    replace H := H U_31 e_U_31
    refine pr_goto hC 196 (by decide +kernel : decode cX12_next 263 = .ok (.goto (-67), 3)) (by decide) ?_
    exact pv_sub [some (.ref (Y.2.1 o0)), none] (And.intro rfl trivial) (ih U_31 h hU H)
set_option maxHeartbeats 4000000 in
theorem tl_X12_next_L103 {l : Launch} {Y : px_Y} {X : px_X} {h0 hh : pe_H} {sz : Nat} (o0 : Nat) (post : Um → Prop) (k_286 : Um → Prop) (ho0 : oc o0 = 10)  (hC : px_C X Y.1 (pm_A hh sz) cX12_next RX12 2) (hM : px_M l X Y.1 hh sz yX12_next cX12_next 2 none 1 0 0) (hR : X.2.2.2.1 = pm_rm 1 0 0) (hk_286 : ∀ (U : Um) (h : pe_H), k_286 U → rF Y h0 U h → pw X Y.1 (pm_A hh sz) (pm_E X Y.1 hh sz 0 0 (pm_P Y h0 sz (pq_v post))) 286 [none, none] [] h sz 0 0) : ∀ (n_ : Nat)  (U : Um) (h : pe_H), rF Y h0 U h → w_X12_next_L103 o0 post k_286 n_  U → pw X Y.1 (pm_A hh sz) (pm_E X Y.1 hh sz 0 0 (pm_P Y h0 sz (pq_v post))) 103 [some (.ref (Y.2.1 o0)), none] [] h sz 0 0 := by
  intro n_
  induction n_ with
  | zero => intro  U h hU H; exact False.elim H
  | succ n_ ih =>
    intro  U h hU H
    replace H : b_X12_next_L103 o0 post k_286 (w_X12_next_L103 o0 post k_286 n_)  U := H
    unfold b_X12_next_L103 at H
    refine pr_aload_n hC (by decide +kernel : decode cX12_next 103 = .ok (.aload_n 0, 1)) rfl ?_
    refine pr_aload_n hC (by decide +kernel : decode cX12_next 104 = .ok (.aload_n 0, 1)) rfl ?_
    refine pu_g0 hC fg_X12_135 (by decide +kernel : decode cX12_next 105 = .ok (.getfield 135, 3)) hU ho0 (by decide) rfl rfl ?_
    refine vc_Vi hC hR [.int (uI U o0 24)] fv_X12_138 (by decide +kernel : decode cX12_next 108 = .ok (.invokevirtual 138, 3)) hU (t_X12_see ho0 H) ho0 (by decide) rfl rfl rfl (Nat.le_of_ble_eq_true rfl) (Nat.le_of_ble_eq_true rfl) (Nat.le_refl 0) (Nat.le_refl 0) (fun r_36 U_35 h H hU => ?_)
    refine pr_i2l hC (by decide +kernel : decode cX12_next 111 = .ok (.i2l, 1)) ?_
    refine pr_ldc2 hC (97) (by decide +kernel : decode cX12_next 112 = .ok (.ldc2_w 158, 3)) fk_X12_158 ?_
    refine pr_ldc2 hC (122) (by decide +kernel : decode cX12_next 115 = .ok (.ldc2_w 160, 3)) fk_X12_160 ?_
    refine vc_Si hC hR [.long (Int32.toInt64 r_36), .long 97, .long 122] fv_X12_131 (by decide +kernel : decode cX12_next 118 = .ok (.invokestatic 131, 3)) hU (t_X12_isIn  H) rfl rfl (Nat.le_of_ble_eq_true rfl) (Nat.le_of_ble_eq_true rfl) (Nat.le_refl 0) (Nat.le_refl 0) (fun r_38 U_37 h H hU => ?_)
    refine pr_if_eq hC 286 (by decide +kernel : decode cX12_next 121 = .ok (.ifCond .eq 165, 3)) (by decide) (fun c_121 => ?_) (fun c_121 => ?_)
    · replace H := H.1 c_121
      exact pv_sub [none, none] (trivial) (hk_286 U_37 h H hU)
    replace H := H.2 c_121
    refine pr_aload_n hC (by decide +kernel : decode cX12_next 124 = .ok (.aload_n 0, 1)) rfl ?_
    refine pu_g0 hC fg_X12_135 (by decide +kernel : decode cX12_next 125 = .ok (.getfield 135, 3)) hU ho0 (by decide) rfl rfl ?_
    refine pr_aload_n hC (by decide +kernel : decode cX12_next 128 = .ok (.aload_n 0, 1)) rfl ?_
    refine pu_g0 hC fg_X12_142 (by decide +kernel : decode cX12_next 129 = .ok (.getfield 142, 3)) hU ho0 (by decide) rfl rfl ?_
    refine pr_isub hC (by decide +kernel : decode cX12_next 132 = .ok (.isub, 1)) ?_
    refine pr_bipush hC (6) (by decide +kernel : decode cX12_next 133 = .ok (.bipush 6, 2)) rfl ?_
    refine pr_icmp_ge hC 164 (by decide +kernel : decode cX12_next 135 = .ok (.if_icmp .ge 29, 3)) (by decide) (fun c_135 => ?_) (fun c_135 => ?_)
    · replace H := H.1 c_135
      refine pr_aload_n hC (by decide +kernel : decode cX12_next 164 = .ok (.aload_n 0, 1)) rfl ?_
      refine pr_dup hC (by decide +kernel : decode cX12_next 165 = .ok (.dup, 1)) rfl ?_
      refine pu_g0 hC fg_X12_135 (by decide +kernel : decode cX12_next 166 = .ok (.getfield 135, 3)) hU ho0 (by decide) rfl rfl ?_
      refine pr_iconst hC (1) (by decide +kernel : decode cX12_next 169 = .ok (.iconst 1, 1)) rfl ?_
      refine pr_iadd hC (by decide +kernel : decode cX12_next 170 = .ok (.iadd, 1)) ?_
      refine pv_p0 hC fp_X12_135 (by decide +kernel : decode cX12_next 171 = .ok (.putfield 135, 3)) hU ho0 (by decide) rfl rfl rfl rfl (fun U_39 h e_U_39 hU => ?_)
      replace H := H U_39 e_U_39
      refine pr_goto hC 103 (by decide +kernel : decode cX12_next 174 = .ok (.goto (-71), 3)) (by decide) ?_
      exact pv_sub [some (.ref (Y.2.1 o0)), none] (And.intro rfl trivial) (ih U_39 h hU H)
    replace H := H.2 c_135
    refine pr_aload_n hC (by decide +kernel : decode cX12_next 138 = .ok (.aload_n 0, 1)) rfl ?_
    refine pr_ldc2 hC (27) (by decide +kernel : decode cX12_next 139 = .ok (.ldc2_w 162, 3)) fk_X12_162 ?_
    refine pr_aload_n hC (by decide +kernel : decode cX12_next 142 = .ok (.aload_n 0, 1)) rfl ?_
    refine pu_g20 hC fg_X12_145 (by decide +kernel : decode cX12_next 143 = .ok (.getfield 145, 3)) hU ho0 (by decide) rfl rfl ?_
    refine pr_lmul hC (by decide +kernel : decode cX12_next 146 = .ok (.lmul, 1)) ?_
    refine pr_aload_n hC (by decide +kernel : decode cX12_next 147 = .ok (.aload_n 0, 1)) rfl ?_
    refine pr_aload_n hC (by decide +kernel : decode cX12_next 148 = .ok (.aload_n 0, 1)) rfl ?_
    refine pu_g0 hC fg_X12_135 (by decide +kernel : decode cX12_next 149 = .ok (.getfield 135, 3)) hU ho0 (by decide) rfl rfl ?_
    refine vc_Vi hC hR [.int (uI U_37 o0 24)] fv_X12_138 (by decide +kernel : decode cX12_next 152 = .ok (.invokevirtual 138, 3)) hU (t_X12_see ho0 H) ho0 (by decide) rfl rfl rfl (Nat.le_of_ble_eq_true rfl) (Nat.le_of_ble_eq_true rfl) (Nat.le_refl 0) (Nat.le_refl 0) (fun r_41 U_40 h H hU => ?_)
    refine pr_i2l hC (by decide +kernel : decode cX12_next 155 = .ok (.i2l, 1)) ?_
    refine pr_ladd hC (by decide +kernel : decode cX12_next 156 = .ok (.ladd, 1)) ?_
    refine pr_ldc2 hC (96) (by decide +kernel : decode cX12_next 157 = .ok (.ldc2_w 164, 3)) fk_X12_164 ?_
    refine pr_lsub hC (by decide +kernel : decode cX12_next 160 = .ok (.lsub, 1)) ?_
    refine pv_p20 hC fp_X12_145 (by decide +kernel : decode cX12_next 161 = .ok (.putfield 145, 3)) hU ho0 (by decide) rfl rfl rfl rfl (fun U_42 h e_U_42 hU => ?_)
    replace H := H U_42 e_U_42
    refine pr_aload_n hC (by decide +kernel : decode cX12_next 164 = .ok (.aload_n 0, 1)) rfl ?_
    refine pr_dup hC (by decide +kernel : decode cX12_next 165 = .ok (.dup, 1)) rfl ?_
    refine pu_g0 hC fg_X12_135 (by decide +kernel : decode cX12_next 166 = .ok (.getfield 135, 3)) hU ho0 (by decide) rfl rfl ?_
    refine pr_iconst hC (1) (by decide +kernel : decode cX12_next 169 = .ok (.iconst 1, 1)) rfl ?_
    refine pr_iadd hC (by decide +kernel : decode cX12_next 170 = .ok (.iadd, 1)) ?_
    refine pv_p0 hC fp_X12_135 (by decide +kernel : decode cX12_next 171 = .ok (.putfield 135, 3)) hU ho0 (by decide) rfl rfl rfl rfl (fun U_43 h e_U_43 hU => ?_)
    replace H := H U_43 e_U_43
    refine pr_goto hC 103 (by decide +kernel : decode cX12_next 174 = .ok (.goto (-71), 3)) (by decide) ?_
    exact pv_sub [some (.ref (Y.2.1 o0)), none] (And.intro rfl trivial) (ih U_43 h hU H)
set_option maxHeartbeats 4000000 in
theorem t_X12_next {l : Launch} {Y : px_Y} {o : Nat} {U : Um} {post : Um → Prop} (ho : oc o = 10) (H : w_X12_next o U post) : um l Y 1 yX12_next cX12_next 2 none [.ref (Y.2.1 o)] U (pq_v post) := by
  unfold w_X12_next at H
  refine um_of (by decide) (Nat.le_of_ble_eq_true rfl) [some (.ref (Y.2.1 o)), none] rfl (fun X h0 hh sz hM hU => ?_)
  have hC := hM.1
  have hR := hM.2.2.1
  obtain ⟨n_46, H⟩ := H
  refine pv_sub [some (.ref (Y.2.1 o)), none] (And.intro rfl trivial) ?_
  refine tl_X12_next_L0 _ _ _ ho hC hM hR (fun U_7 h H hU => ?_) n_46 U hh hU H
  refine pr_aload_n hC (by decide +kernel : decode cX12_next 39 = .ok (.aload_n 0, 1)) rfl ?_
  refine pr_aload_n hC (by decide +kernel : decode cX12_next 40 = .ok (.aload_n 0, 1)) rfl ?_
  refine pu_g0 hC fg_X12_135 (by decide +kernel : decode cX12_next 41 = .ok (.getfield 135, 3)) hU ho (by decide) rfl rfl ?_
  refine pv_p0 hC fp_X12_142 (by decide +kernel : decode cX12_next 44 = .ok (.putfield 142, 3)) hU ho (by decide) rfl rfl rfl rfl (fun U_8 h e_U_8 hU => ?_)
  replace H := H U_8 e_U_8
  refine pr_aload_n hC (by decide +kernel : decode cX12_next 47 = .ok (.aload_n 0, 1)) rfl ?_
  refine pr_aload_n hC (by decide +kernel : decode cX12_next 48 = .ok (.aload_n 0, 1)) rfl ?_
  refine pu_g0 hC fg_X12_135 (by decide +kernel : decode cX12_next 49 = .ok (.getfield 135, 3)) hU ho (by decide) rfl rfl ?_
  refine vc_Vi hC hR [.int (uI U_8 o 24)] fv_X12_138 (by decide +kernel : decode cX12_next 52 = .ok (.invokevirtual 138, 3)) hU (t_X12_see ho H) ho (by decide) rfl rfl rfl (Nat.le_of_ble_eq_true rfl) (Nat.le_of_ble_eq_true rfl) (Nat.le_refl 0) (Nat.le_refl 0) (fun r_10 U_9 h H hU => ?_)
  refine pr_istore_n hC (by decide +kernel : decode cX12_next 55 = .ok (.istore_n 1, 1)) (by decide) rfl ?_
  refine pr_aload_n hC (by decide +kernel : decode cX12_next 56 = .ok (.aload_n 0, 1)) rfl ?_
  refine pr_lconst hC (0) (by decide +kernel : decode cX12_next 57 = .ok (.lconst 0, 1)) rfl ?_
  refine pv_p20 hC fp_X12_145 (by decide +kernel : decode cX12_next 58 = .ok (.putfield 145, 3)) hU ho (by decide) rfl rfl rfl rfl (fun U_11 h e_U_11 hU => ?_)
  replace H := H U_11 e_U_11
  refine pr_aload_n hC (by decide +kernel : decode cX12_next 61 = .ok (.aload_n 0, 1)) rfl ?_
  refine pr_iconst hC (0) (by decide +kernel : decode cX12_next 62 = .ok (.iconst 0, 1)) rfl ?_
  refine pv_p0 hC fp_X12_149 (by decide +kernel : decode cX12_next 63 = .ok (.putfield 149, 3)) hU ho (by decide) rfl rfl rfl rfl (fun U_12 h e_U_12 hU => ?_)
  replace H := H U_12 e_U_12
  refine pr_aload_n hC (by decide +kernel : decode cX12_next 66 = .ok (.aload_n 0, 1)) rfl ?_
  refine pr_iconst hC (0) (by decide +kernel : decode cX12_next 67 = .ok (.iconst 0, 1)) rfl ?_
  refine pv_p0 hC fp_X12_152 (by decide +kernel : decode cX12_next 68 = .ok (.putfield 152, 3)) hU ho (by decide) rfl rfl rfl rfl (fun U_13 h e_U_13 hU => ?_)
  replace H := H U_13 e_U_13
  refine pr_iload_n hC (by decide +kernel : decode cX12_next 71 = .ok (.iload_n 1, 1)) rfl ?_
  refine pr_iconst hC (-1) (by decide +kernel : decode cX12_next 72 = .ok (.iconst (-1), 1)) rfl ?_
  refine pr_icmp_ne hC 84 (by decide +kernel : decode cX12_next 73 = .ok (.if_icmp .ne 11, 3)) (by decide) (fun c_73 => ?_) (fun c_73 => ?_)
  · replace H := H.2 c_73
    refine pr_iload_n hC (by decide +kernel : decode cX12_next 84 = .ok (.iload_n 1, 1)) rfl ?_
    refine pr_i2l hC (by decide +kernel : decode cX12_next 85 = .ok (.i2l, 1)) ?_
    refine pr_ldc2 hC (97) (by decide +kernel : decode cX12_next 86 = .ok (.ldc2_w 158, 3)) fk_X12_158 ?_
    refine pr_ldc2 hC (122) (by decide +kernel : decode cX12_next 89 = .ok (.ldc2_w 160, 3)) fk_X12_160 ?_
    refine vc_Si hC hR [.long (Int32.toInt64 r_10), .long 97, .long 122] fv_X12_131 (by decide +kernel : decode cX12_next 92 = .ok (.invokestatic 131, 3)) hU (t_X12_isIn  H) rfl rfl (Nat.le_of_ble_eq_true rfl) (Nat.le_of_ble_eq_true rfl) (Nat.le_refl 0) (Nat.le_refl 0) (fun r_16 U_15 h H hU => ?_)
    refine pr_if_eq hC 177 (by decide +kernel : decode cX12_next 95 = .ok (.ifCond .eq 82, 3)) (by decide) (fun c_95 => ?_) (fun c_95 => ?_)
    · replace H := H.1 c_95
      refine pr_iload_n hC (by decide +kernel : decode cX12_next 177 = .ok (.iload_n 1, 1)) rfl ?_
      refine pr_i2l hC (by decide +kernel : decode cX12_next 178 = .ok (.i2l, 1)) ?_
      refine pr_ldc2 hC (48) (by decide +kernel : decode cX12_next 179 = .ok (.ldc2_w 166, 3)) fk_X12_166 ?_
      refine pr_ldc2 hC (57) (by decide +kernel : decode cX12_next 182 = .ok (.ldc2_w 168, 3)) fk_X12_168 ?_
      refine vc_Si hC hR [.long (Int32.toInt64 r_10), .long 48, .long 57] fv_X12_131 (by decide +kernel : decode cX12_next 185 = .ok (.invokestatic 131, 3)) hU (t_X12_isIn  H) rfl rfl (Nat.le_of_ble_eq_true rfl) (Nat.le_of_ble_eq_true rfl) (Nat.le_refl 0) (Nat.le_refl 0) (fun r_18 U_17 h H hU => ?_)
      refine pr_if_eq hC 266 (by decide +kernel : decode cX12_next 188 = .ok (.ifCond .eq 78, 3)) (by decide) (fun c_188 => ?_) (fun c_188 => ?_)
      · replace H := H.1 c_188
        refine pr_aload_n hC (by decide +kernel : decode cX12_next 266 = .ok (.aload_n 0, 1)) rfl ?_
        refine pr_iconst hC (3) (by decide +kernel : decode cX12_next 267 = .ok (.iconst 3, 1)) rfl ?_
        refine pv_p0 hC fp_X12_155 (by decide +kernel : decode cX12_next 268 = .ok (.putfield 155, 3)) hU ho (by decide) rfl rfl rfl rfl (fun U_19 h e_U_19 hU => ?_)
        replace H := H U_19 e_U_19
        refine pr_aload_n hC (by decide +kernel : decode cX12_next 271 = .ok (.aload_n 0, 1)) rfl ?_
        refine pr_iload_n hC (by decide +kernel : decode cX12_next 272 = .ok (.iload_n 1, 1)) rfl ?_
        refine pv_p0 hC fp_X12_152 (by decide +kernel : decode cX12_next 273 = .ok (.putfield 152, 3)) hU ho (by decide) rfl rfl rfl rfl (fun U_20 h e_U_20 hU => ?_)
        replace H := H U_20 e_U_20
        refine pr_aload_n hC (by decide +kernel : decode cX12_next 276 = .ok (.aload_n 0, 1)) rfl ?_
        refine pr_dup hC (by decide +kernel : decode cX12_next 277 = .ok (.dup, 1)) rfl ?_
        refine pu_g0 hC fg_X12_135 (by decide +kernel : decode cX12_next 278 = .ok (.getfield 135, 3)) hU ho (by decide) rfl rfl ?_
        refine pr_iconst hC (1) (by decide +kernel : decode cX12_next 281 = .ok (.iconst 1, 1)) rfl ?_
        refine pr_iadd hC (by decide +kernel : decode cX12_next 282 = .ok (.iadd, 1)) ?_
        refine pv_p0 hC fp_X12_135 (by decide +kernel : decode cX12_next 283 = .ok (.putfield 135, 3)) hU ho (by decide) rfl rfl rfl rfl (fun U_21 h e_U_21 hU => ?_)
        replace H := H U_21 e_U_21
        exact pv_vret hM (by decide +kernel : decode cX12_next 286 = .ok (.return_, 1)) hU H
      replace H := H.2 c_188
      refine pr_aload_n hC (by decide +kernel : decode cX12_next 191 = .ok (.aload_n 0, 1)) rfl ?_
      refine pr_iconst hC (2) (by decide +kernel : decode cX12_next 192 = .ok (.iconst 2, 1)) rfl ?_
      refine pv_p0 hC fp_X12_155 (by decide +kernel : decode cX12_next 193 = .ok (.putfield 155, 3)) hU ho (by decide) rfl rfl rfl rfl (fun U_22 h e_U_22 hU => ?_)
      replace H := H U_22 e_U_22
      obtain ⟨n_33, H⟩ := H
      refine pv_sub [some (.ref (Y.2.1 o)), none] (And.intro rfl trivial) ?_
      refine tl_X12_next_L196 _ _ _ ho hC hM hR (fun U_32 h H hU => ?_) n_33 U_22 h hU H
      exact pv_vret hM (by decide +kernel : decode cX12_next 286 = .ok (.return_, 1)) hU H
    replace H := H.2 c_95
    refine pr_aload_n hC (by decide +kernel : decode cX12_next 98 = .ok (.aload_n 0, 1)) rfl ?_
    refine pr_iconst hC (1) (by decide +kernel : decode cX12_next 99 = .ok (.iconst 1, 1)) rfl ?_
    refine pv_p0 hC fp_X12_155 (by decide +kernel : decode cX12_next 100 = .ok (.putfield 155, 3)) hU ho (by decide) rfl rfl rfl rfl (fun U_34 h e_U_34 hU => ?_)
    replace H := H U_34 e_U_34
    obtain ⟨n_45, H⟩ := H
    refine pv_sub [some (.ref (Y.2.1 o)), none] (And.intro rfl trivial) ?_
    refine tl_X12_next_L103 _ _ _ ho hC hM hR (fun U_44 h H hU => ?_) n_45 U_34 h hU H
    exact pv_vret hM (by decide +kernel : decode cX12_next 286 = .ok (.return_, 1)) hU H
  replace H := H.1 c_73
  refine pr_aload_n hC (by decide +kernel : decode cX12_next 76 = .ok (.aload_n 0, 1)) rfl ?_
  refine pr_iconst hC (0) (by decide +kernel : decode cX12_next 77 = .ok (.iconst 0, 1)) rfl ?_
  refine pv_p0 hC fp_X12_155 (by decide +kernel : decode cX12_next 78 = .ok (.putfield 155, 3)) hU ho (by decide) rfl rfl rfl rfl (fun U_14 h e_U_14 hU => ?_)
  replace H := H U_14 e_U_14
  refine pr_goto hC 286 (by decide +kernel : decode cX12_next 81 = .ok (.goto 205, 3)) (by decide) ?_
  exact pv_vret hM (by decide +kernel : decode cX12_next 286 = .ok (.return_, 1)) hU H
def w_X12_fails (o : Nat) (a1 : Int32) (U : Um) (post : Int32 → Um → Prop) : Prop :=
  ((uI U o 20) = 0 → ∀ (U_1 : Um), U_1 = sI U o 20 a1 → ∀ (U_2 : Um), U_2 = sI U_1 o 21 (uI U_1 o 23) → post 0 U_2) ∧ (¬ (uI U o 20) = 0 → post 0 U)
set_option maxHeartbeats 4000000 in
theorem t_X12_fails {l : Launch} {Y : px_Y} {o : Nat} {a1 : Int32} {U : Um} {post : Int32 → Um → Prop} (ho : oc o = 10) (H : w_X12_fails o a1 U post) : um l Y 0 yX12_fails cX12_fails 2 (some (.boolean)) [.ref (Y.2.1 o), .int a1] U (pq_i post) := by
  unfold w_X12_fails at H
  refine um_of (by decide) (Nat.le_of_ble_eq_true rfl) [some (.ref (Y.2.1 o)), some (.int a1)] rfl (fun X h0 hh sz hM hU => ?_)
  have hC := hM.1
  have hR := hM.2.2.1
  refine pr_aload_n hC (by decide +kernel : decode cX12_fails 0 = .ok (.aload_n 0, 1)) rfl ?_
  refine pu_g0 hC fg_X12_170 (by decide +kernel : decode cX12_fails 1 = .ok (.getfield 170, 3)) hU ho (by decide) rfl rfl ?_
  refine pr_if_ne hC 20 (by decide +kernel : decode cX12_fails 4 = .ok (.ifCond .ne 16, 3)) (by decide) (fun c_4 => ?_) (fun c_4 => ?_)
  · replace H := H.2 c_4
    refine pr_iconst hC (0) (by decide +kernel : decode cX12_fails 20 = .ok (.iconst 0, 1)) rfl ?_
    exact pv_zret hM (by decide +kernel : decode cX12_fails 21 = .ok (.ireturn, 1)) (Or.inl rfl) hU H
  replace H := H.1 c_4
  refine pr_aload_n hC (by decide +kernel : decode cX12_fails 7 = .ok (.aload_n 0, 1)) rfl ?_
  refine pr_iload_n hC (by decide +kernel : decode cX12_fails 8 = .ok (.iload_n 1, 1)) rfl ?_
  refine pv_p0 hC fp_X12_170 (by decide +kernel : decode cX12_fails 9 = .ok (.putfield 170, 3)) hU ho (by decide) rfl rfl rfl rfl (fun U_1 h e_U_1 hU => ?_)
  replace H := H U_1 e_U_1
  refine pr_aload_n hC (by decide +kernel : decode cX12_fails 12 = .ok (.aload_n 0, 1)) rfl ?_
  refine pr_aload_n hC (by decide +kernel : decode cX12_fails 13 = .ok (.aload_n 0, 1)) rfl ?_
  refine pu_g0 hC fg_X12_142 (by decide +kernel : decode cX12_fails 14 = .ok (.getfield 142, 3)) hU ho (by decide) rfl rfl ?_
  refine pv_p0 hC fp_X12_173 (by decide +kernel : decode cX12_fails 17 = .ok (.putfield 173, 3)) hU ho (by decide) rfl rfl rfl rfl (fun U_2 h e_U_2 hU => ?_)
  replace H := H U_2 e_U_2
  refine pr_iconst hC (0) (by decide +kernel : decode cX12_fails 20 = .ok (.iconst 0, 1)) rfl ?_
  exact pv_zret hM (by decide +kernel : decode cX12_fails 21 = .ok (.ireturn, 1)) (Or.inl rfl) hU H
def w_J0_coder_7d493 (o : Nat) (U : Um) (post : Int32 → Um → Prop) : Prop :=
  ((1 : Int32) = 0 → False) ∧ (¬ (1 : Int32) = 0 → post 0 U)
set_option maxHeartbeats 4000000 in
theorem t_J0_coder_7d493 {l : Launch} {Y : px_Y} {o : Nat} {U : Um} {post : Int32 → Um → Prop} (ho : o < 23) (H : w_J0_coder_7d493 o U post) : um l Y 0 yJ0_coder_7d493 cJ0_coder_7d493 1 (some (.byte)) [.ref (Y.1.2.2 (200 + o))] U (pq_i post) := by
  unfold w_J0_coder_7d493 at H
  refine um_ofF (by decide +kernel) (Nat.le_of_ble_eq_true rfl) [some (.ref (Y.1.2.2 (200 + o)))] rfl (fun X h0 hh sz hM hU => ?_)
  have hC := hM.1
  have hR := hM.2.2.1
  refine pr_gets hC fs_J0_38 (ro_z3 _) (by decide +kernel : decode cJ0_coder_7d493 0 = .ok (.getstatic 38, 3)) ?_
  refine pr_if_eq hC 13 (by decide +kernel : decode cJ0_coder_7d493 3 = .ok (.ifCond .eq 10, 3)) (by decide) (fun c_3 => ?_) (fun c_3 => ?_)
  · replace H := H.1 c_3
    exact False.elim H
  replace H := H.2 c_3
  refine pr_aload_n hC (by decide +kernel : decode cJ0_coder_7d493 6 = .ok (.aload_n 0, 1)) rfl ?_
  refine pr_getS_coder hC fw_J0_15 (by decide +kernel : decode cJ0_coder_7d493 7 = .ok (.getfield 15, 3)) ho ?_
  refine pr_goto hC 14 (by decide +kernel : decode cJ0_coder_7d493 10 = .ok (.goto 4, 3)) (by decide) ?_
  exact pv_bret hM (by decide +kernel : decode cJ0_coder_7d493 14 = .ok (.ireturn, 1)) (by decide) hU H
def w_J0_length_8abf5 (o : Nat) (U : Um) (post : Int32 → Um → Prop) : Prop :=
  w_J0_coder_7d493 o U (fun r_2 U_1 => post ((Int32.ofNat (slens.getD o 0)) >>> (r_2 &&& 31)) U_1)
set_option maxHeartbeats 4000000 in
theorem t_J0_length_8abf5 {l : Launch} {Y : px_Y} {o : Nat} {U : Um} {post : Int32 → Um → Prop} (ho : o < 23) (H : w_J0_length_8abf5 o U post) : um l Y 1 yJ0_length_8abf5 cJ0_length_8abf5 1 (some (.int)) [.ref (Y.1.2.2 (200 + o))] U (pq_i post) := by
  unfold w_J0_length_8abf5 at H
  refine um_ofF (by decide +kernel) (Nat.le_of_ble_eq_true rfl) [some (.ref (Y.1.2.2 (200 + o)))] rfl (fun X h0 hh sz hM hU => ?_)
  have hC := hM.1
  have hR := hM.2.2.1
  refine pr_aload_n hC (by decide +kernel : decode cJ0_length_8abf5 0 = .ok (.aload_n 0, 1)) rfl ?_
  refine pr_getS_value hC fw_J0_9 (by decide +kernel : decode cJ0_length_8abf5 1 = .ok (.getfield 9, 3)) ho ?_
  refine pr_alenS hC (by decide +kernel : decode cJ0_length_8abf5 4 = .ok (.arraylength, 1)) ho ?_
  refine pr_aload_n hC (by decide +kernel : decode cJ0_length_8abf5 5 = .ok (.aload_n 0, 1)) rfl ?_
  refine vc_Oi hC hR [] fv_J0_335 (by decide +kernel : decode cJ0_length_8abf5 6 = .ok (.invokevirtual 335, 3)) hU (t_J0_coder_7d493 ho H) ho rfl rfl rfl (Nat.le_of_ble_eq_true rfl) (Nat.le_of_ble_eq_true rfl) (Nat.le_refl 0) (Nat.le_refl 0) (fun r_2 U_1 h H hU => ?_)
  refine pr_ishr hC (by decide +kernel : decode cJ0_length_8abf5 9 = .ok (.ishr, 1)) ?_
  exact pv_iret hM (by decide +kernel : decode cJ0_length_8abf5 10 = .ok (.ireturn, 1)) hU H
def w_J0_isLatin1_aae02 (o : Nat) (U : Um) (post : Int32 → Um → Prop) : Prop :=
  ((1 : Int32) = 0 → False) ∧ (¬ (1 : Int32) = 0 → ((0 : Int32) = 0 → post 1 U) ∧ (¬ (0 : Int32) = 0 → False))
set_option maxHeartbeats 4000000 in
theorem t_J0_isLatin1_aae02 {l : Launch} {Y : px_Y} {o : Nat} {U : Um} {post : Int32 → Um → Prop} (ho : o < 23) (H : w_J0_isLatin1_aae02 o U post) : um l Y 0 yJ0_isLatin1_aae02 cJ0_isLatin1_aae02 1 (some (.boolean)) [.ref (Y.1.2.2 (200 + o))] U (pq_i post) := by
  unfold w_J0_isLatin1_aae02 at H
  refine um_ofF (by decide +kernel) (Nat.le_of_ble_eq_true rfl) [some (.ref (Y.1.2.2 (200 + o)))] rfl (fun X h0 hh sz hM hU => ?_)
  have hC := hM.1
  have hR := hM.2.2.1
  refine pr_gets hC fs_J0_38 (ro_z3 _) (by decide +kernel : decode cJ0_isLatin1_aae02 0 = .ok (.getstatic 38, 3)) ?_
  refine pr_if_eq hC 17 (by decide +kernel : decode cJ0_isLatin1_aae02 3 = .ok (.ifCond .eq 14, 3)) (by decide) (fun c_3 => ?_) (fun c_3 => ?_)
  · replace H := H.1 c_3
    exact False.elim H
  replace H := H.2 c_3
  refine pr_aload_n hC (by decide +kernel : decode cJ0_isLatin1_aae02 6 = .ok (.aload_n 0, 1)) rfl ?_
  refine pr_getS_coder hC fw_J0_15 (by decide +kernel : decode cJ0_isLatin1_aae02 7 = .ok (.getfield 15, 3)) ho ?_
  refine pr_if_ne hC 17 (by decide +kernel : decode cJ0_isLatin1_aae02 10 = .ok (.ifCond .ne 7, 3)) (by decide) (fun c_10 => ?_) (fun c_10 => ?_)
  · replace H := H.2 c_10
    exact False.elim H
  replace H := H.1 c_10
  refine pr_iconst hC (1) (by decide +kernel : decode cJ0_isLatin1_aae02 13 = .ok (.iconst 1, 1)) rfl ?_
  refine pr_goto hC 18 (by decide +kernel : decode cJ0_isLatin1_aae02 14 = .ok (.goto 4, 3)) (by decide) ?_
  exact pv_zret hM (by decide +kernel : decode cJ0_isLatin1_aae02 18 = .ok (.ireturn, 1)) (Or.inr rfl) hU H
def w_J3_checkIndex_8e157 (a1 : Int32) (a2 : Int32) (U : Um) (post : Int32 → Um → Prop) : Prop :=
  (∀ K_1 : Prop, ((False) → K_1 ) → (a1 < 0 → K_1) ∧ (¬ a1 < 0 → (a1 < a2 → post a1 U) ∧ (¬ a1 < a2 → K_1)))
set_option maxHeartbeats 4000000 in
theorem t_J3_checkIndex_8e157 {l : Launch} {Y : px_Y} {a1 : Int32} {a2 : Int32} {U : Um} {post : Int32 → Um → Prop}  (H : w_J3_checkIndex_8e157 a1 a2 U post) : um l Y 0 yJ3_checkIndex_8e157 cJ3_checkIndex_8e157 3 (some (.int)) [.int a1, .int a2, (if Y.1.2.2 4 = 0 then Value.null else .ref (Y.1.2.2 3))] U (pq_i post) := by
  by_cases hq : Y.1.2.2 4 = 0
  · rw [if_pos hq]
    unfold w_J3_checkIndex_8e157 at H
    refine um_ofF (by decide +kernel) (Nat.le_of_ble_eq_true rfl) [some (.int a1), some (.int a2), some (Value.null)] rfl (fun X h0 hh sz hM hU => ?_)
    have hC := hM.1
    have hR := hM.2.2.1
    refine pr_iload_n hC (by decide +kernel : decode cJ3_checkIndex_8e157 0 = .ok (.iload_n 0, 1)) rfl ?_
    replace H := H (pw X Y.1 (pm_A hh sz) (pm_E X Y.1 hh sz 0 0 (pm_P Y h0 sz (pq_i post))) 9 [some (.int a1), some (.int a2), some (Value.null)] [] hh sz 0 0) (by
      intro  H
      exact False.elim H)
    refine pr_if_lt hC 9 (by decide +kernel : decode cJ3_checkIndex_8e157 1 = .ok (.ifCond .lt 8, 3)) (by decide) (fun c_1 => ?_) (fun c_1 => ?_)
    · replace H := H.1 c_1
      exact pv_sub [some (.int a1), some (.int a2), some (Value.null)] (And.intro rfl (And.intro rfl (And.intro rfl trivial))) (H )
    replace H := H.2 c_1
    refine pr_iload_n hC (by decide +kernel : decode cJ3_checkIndex_8e157 4 = .ok (.iload_n 0, 1)) rfl ?_
    refine pr_iload_n hC (by decide +kernel : decode cJ3_checkIndex_8e157 5 = .ok (.iload_n 1, 1)) rfl ?_
    refine pr_icmp_lt hC 16 (by decide +kernel : decode cJ3_checkIndex_8e157 6 = .ok (.if_icmp .lt 10, 3)) (by decide) (fun c_6 => ?_) (fun c_6 => ?_)
    · replace H := H.1 c_6
      refine pr_iload_n hC (by decide +kernel : decode cJ3_checkIndex_8e157 16 = .ok (.iload_n 0, 1)) rfl ?_
      exact pv_iret hM (by decide +kernel : decode cJ3_checkIndex_8e157 17 = .ok (.ireturn, 1)) hU H
    replace H := H.2 c_6
    exact pv_sub [some (.int a1), some (.int a2), some (Value.null)] (And.intro rfl (And.intro rfl (And.intro rfl trivial))) (H )
  · rw [if_neg hq]
    unfold w_J3_checkIndex_8e157 at H
    refine um_ofF (by decide +kernel) (Nat.le_of_ble_eq_true rfl) [some (.int a1), some (.int a2), some (.ref (Y.1.2.2 3))] rfl (fun X h0 hh sz hM hU => ?_)
    have hC := hM.1
    have hR := hM.2.2.1
    refine pr_iload_n hC (by decide +kernel : decode cJ3_checkIndex_8e157 0 = .ok (.iload_n 0, 1)) rfl ?_
    replace H := H (pw X Y.1 (pm_A hh sz) (pm_E X Y.1 hh sz 0 0 (pm_P Y h0 sz (pq_i post))) 9 [some (.int a1), some (.int a2), some (.ref (Y.1.2.2 3))] [] hh sz 0 0) (by
      intro  H
      exact False.elim H)
    refine pr_if_lt hC 9 (by decide +kernel : decode cJ3_checkIndex_8e157 1 = .ok (.ifCond .lt 8, 3)) (by decide) (fun c_1 => ?_) (fun c_1 => ?_)
    · replace H := H.1 c_1
      exact pv_sub [some (.int a1), some (.int a2), some (.ref (Y.1.2.2 3))] (And.intro rfl (And.intro rfl (And.intro rfl trivial))) (H )
    replace H := H.2 c_1
    refine pr_iload_n hC (by decide +kernel : decode cJ3_checkIndex_8e157 4 = .ok (.iload_n 0, 1)) rfl ?_
    refine pr_iload_n hC (by decide +kernel : decode cJ3_checkIndex_8e157 5 = .ok (.iload_n 1, 1)) rfl ?_
    refine pr_icmp_lt hC 16 (by decide +kernel : decode cJ3_checkIndex_8e157 6 = .ok (.if_icmp .lt 10, 3)) (by decide) (fun c_6 => ?_) (fun c_6 => ?_)
    · replace H := H.1 c_6
      refine pr_iload_n hC (by decide +kernel : decode cJ3_checkIndex_8e157 16 = .ok (.iload_n 0, 1)) rfl ?_
      exact pv_iret hM (by decide +kernel : decode cJ3_checkIndex_8e157 17 = .ok (.ireturn, 1)) hU H
    replace H := H.2 c_6
    exact pv_sub [some (.int a1), some (.int a2), some (.ref (Y.1.2.2 3))] (And.intro rfl (And.intro rfl (And.intro rfl trivial))) (H )
def w_J0_checkIndex_df160 (a1 : Int32) (a2 : Int32) (U : Um) (post : Um → Prop) : Prop :=
  w_J3_checkIndex_8e157 a1 a2 U (fun r_2 U_1 => post U_1)
set_option maxHeartbeats 4000000 in
theorem t_J0_checkIndex_df160 {l : Launch} {Y : px_Y} {a1 : Int32} {a2 : Int32} {U : Um} {post : Um → Prop}  (H : w_J0_checkIndex_df160 a1 a2 U post) : um l Y 1 yJ0_checkIndex_df160 cJ0_checkIndex_df160 2 none [.int a1, .int a2] U (pq_v post) := by
  unfold w_J0_checkIndex_df160 at H
  refine um_ofF (by decide +kernel) (Nat.le_of_ble_eq_true rfl) [some (.int a1), some (.int a2)] rfl (fun X h0 hh sz hM hU => ?_)
  have hC := hM.1
  have hR := hM.2.2.1
  refine pr_iload_n hC (by decide +kernel : decode cJ0_checkIndex_df160 0 = .ok (.iload_n 0, 1)) rfl ?_
  refine pr_iload_n hC (by decide +kernel : decode cJ0_checkIndex_df160 1 = .ok (.iload_n 1, 1)) rfl ?_
  refine pr_gets hC fs_J0_1053 (ro_z4 _) (by decide +kernel : decode cJ0_checkIndex_df160 2 = .ok (.getstatic 1053, 3)) ?_
  refine vc_Si hC hR [.int a1, .int a2, (if Y.1.2.2 4 = 0 then Value.null else .ref (Y.1.2.2 3))] fv_J0_1059 (by decide +kernel : decode cJ0_checkIndex_df160 5 = .ok (.invokestatic 1059, 3)) hU (t_J3_checkIndex_8e157  H) rfl rfl (Nat.le_of_ble_eq_true rfl) (Nat.le_of_ble_eq_true rfl) (Nat.le_refl 0) (Nat.le_refl 0) (fun r_2 U_1 h H hU => ?_)
  refine pr_pop hC (by decide +kernel : decode cJ0_checkIndex_df160 8 = .ok (.pop, 1)) rfl ?_
  exact pv_vret hM (by decide +kernel : decode cJ0_checkIndex_df160 9 = .ok (.return_, 1)) hU H
def w_J1_charAt_3b067 (a1 : Nat) (a2 : Int32) (U : Um) (post : Int32 → Um → Prop) : Prop :=
  w_J0_checkIndex_df160 a2 (Int32.ofNat (slens.getD a1 0)) U (fun U_1 => vp_in a2 (slens.getD a1 0) ∧ narrow .char (.int (((((sbyts.getD a1 []).getD (Int32.toNatClampNeg a2) 0) &&& 255).toUInt32 % 65536).toInt32)) = .int (((((sbyts.getD a1 []).getD (Int32.toNatClampNeg a2) 0) &&& 255).toUInt32 % 65536).toInt32) ∧ post (((((sbyts.getD a1 []).getD (Int32.toNatClampNeg a2) 0) &&& 255).toUInt32 % 65536).toInt32) U_1)
set_option maxHeartbeats 4000000 in
theorem t_J1_charAt_3b067 {l : Launch} {Y : px_Y} {a1 : Nat} {a2 : Int32} {U : Um} {post : Int32 → Um → Prop} (ha1 : a1 < 23) (H : w_J1_charAt_3b067 a1 a2 U post) : um l Y 2 yJ1_charAt_3b067 cJ1_charAt_3b067 2 (some (.char)) [.ref (Y.1.2.2 (300 + a1)), .int a2] U (pq_i post) := by
  unfold w_J1_charAt_3b067 at H
  refine um_ofF (by decide +kernel) (Nat.le_of_ble_eq_true rfl) [some (.ref (Y.1.2.2 (300 + a1))), some (.int a2)] rfl (fun X h0 hh sz hM hU => ?_)
  have hC := hM.1
  have hR := hM.2.2.1
  refine pr_iload_n hC (by decide +kernel : decode cJ1_charAt_3b067 0 = .ok (.iload_n 1, 1)) rfl ?_
  refine pr_aload_n hC (by decide +kernel : decode cJ1_charAt_3b067 1 = .ok (.aload_n 0, 1)) rfl ?_
  refine pr_alenS hC (by decide +kernel : decode cJ1_charAt_3b067 2 = .ok (.arraylength, 1)) ha1 ?_
  refine vc_Sv hC hR [.int a2, .int (Int32.ofNat (slens.getD a1 0))] fv_J1_9 (by decide +kernel : decode cJ1_charAt_3b067 3 = .ok (.invokestatic 9, 3)) hU (t_J0_checkIndex_df160  H) rfl rfl (Nat.le_of_ble_eq_true rfl) (Nat.le_of_ble_eq_true rfl) (Nat.le_refl 0) (Nat.le_refl 0) (fun U_1 h H hU => ?_)
  refine pr_aload_n hC (by decide +kernel : decode cJ1_charAt_3b067 6 = .ok (.aload_n 0, 1)) rfl ?_
  refine pr_iload_n hC (by decide +kernel : decode cJ1_charAt_3b067 7 = .ok (.iload_n 1, 1)) rfl ?_
  refine pr_baloadS hC (by decide +kernel : decode cJ1_charAt_3b067 8 = .ok (.baload, 1)) ha1 H.1 ?_
  replace H := H.2
  refine pr_sipush hC (255) (by decide +kernel : decode cJ1_charAt_3b067 9 = .ok (.sipush 255, 3)) rfl ?_
  refine pr_iand hC (by decide +kernel : decode cJ1_charAt_3b067 12 = .ok (.iand, 1)) ?_
  refine pr_i2c hC (by decide +kernel : decode cJ1_charAt_3b067 13 = .ok (.i2c, 1)) ?_
  exact pv_cret hM (by decide +kernel : decode cJ1_charAt_3b067 14 = .ok (.ireturn, 1)) H.1 hU H.2
def w_J2_length_9d52b (a1 : Nat) (U : Um) (post : Int32 → Um → Prop) : Prop :=
  post ((Int32.ofNat (slens.getD a1 0)) >>> (1 &&& 31)) U
set_option maxHeartbeats 4000000 in
theorem t_J2_length_9d52b {l : Launch} {Y : px_Y} {a1 : Nat} {U : Um} {post : Int32 → Um → Prop} (ha1 : a1 < 23) (H : w_J2_length_9d52b a1 U post) : um l Y 0 yJ2_length_9d52b cJ2_length_9d52b 1 (some (.int)) [.ref (Y.1.2.2 (300 + a1))] U (pq_i post) := by
  unfold w_J2_length_9d52b at H
  refine um_ofF (by decide +kernel) (Nat.le_of_ble_eq_true rfl) [some (.ref (Y.1.2.2 (300 + a1)))] rfl (fun X h0 hh sz hM hU => ?_)
  have hC := hM.1
  have hR := hM.2.2.1
  refine pr_aload_n hC (by decide +kernel : decode cJ2_length_9d52b 0 = .ok (.aload_n 0, 1)) rfl ?_
  refine pr_alenS hC (by decide +kernel : decode cJ2_length_9d52b 1 = .ok (.arraylength, 1)) ha1 ?_
  refine pr_iconst hC (1) (by decide +kernel : decode cJ2_length_9d52b 2 = .ok (.iconst 1, 1)) rfl ?_
  refine pr_ishr hC (by decide +kernel : decode cJ2_length_9d52b 3 = .ok (.ishr, 1)) ?_
  exact pv_iret hM (by decide +kernel : decode cJ2_length_9d52b 4 = .ok (.ireturn, 1)) hU H
def w_J2_checkIndex_2214a (a1 : Int32) (a2 : Nat) (U : Um) (post : Um → Prop) : Prop :=
  w_J2_length_9d52b a2 U (fun r_2 U_1 => w_J0_checkIndex_df160 a1 r_2 U_1 (fun U_3 => post U_3))
set_option maxHeartbeats 4000000 in
theorem t_J2_checkIndex_2214a {l : Launch} {Y : px_Y} {a1 : Int32} {a2 : Nat} {U : Um} {post : Um → Prop} (ha2 : a2 < 23) (H : w_J2_checkIndex_2214a a1 a2 U post) : um l Y 2 yJ2_checkIndex_2214a cJ2_checkIndex_2214a 2 none [.int a1, .ref (Y.1.2.2 (300 + a2))] U (pq_v post) := by
  unfold w_J2_checkIndex_2214a at H
  refine um_ofF (by decide +kernel) (Nat.le_of_ble_eq_true rfl) [some (.int a1), some (.ref (Y.1.2.2 (300 + a2)))] rfl (fun X h0 hh sz hM hU => ?_)
  have hC := hM.1
  have hR := hM.2.2.1
  refine pr_iload_n hC (by decide +kernel : decode cJ2_checkIndex_2214a 0 = .ok (.iload_n 0, 1)) rfl ?_
  refine pr_aload_n hC (by decide +kernel : decode cJ2_checkIndex_2214a 1 = .ok (.aload_n 1, 1)) rfl ?_
  refine vc_Si hC hR [.ref (Y.1.2.2 (300 + a2))] fv_J2_48 (by decide +kernel : decode cJ2_checkIndex_2214a 2 = .ok (.invokestatic 48, 3)) hU (t_J2_length_9d52b ha2 H) rfl rfl (Nat.le_of_ble_eq_true rfl) (Nat.le_of_ble_eq_true rfl) (Nat.le_refl 0) (Nat.le_refl 0) (fun r_2 U_1 h H hU => ?_)
  refine vc_Sv hC hR [.int a1, .int r_2] fv_J2_414 (by decide +kernel : decode cJ2_checkIndex_2214a 5 = .ok (.invokestatic 414, 3)) hU (t_J0_checkIndex_df160  H) rfl rfl (Nat.le_of_ble_eq_true rfl) (Nat.le_of_ble_eq_true rfl) (Nat.le_refl 0) (Nat.le_refl 0) (fun U_3 h H hU => ?_)
  exact pv_vret hM (by decide +kernel : decode cJ2_checkIndex_2214a 8 = .ok (.return_, 1)) hU H
def w_J0_charAt_5068e (o : Nat) (a1 : Int32) (U : Um) (post : Int32 → Um → Prop) : Prop :=
  w_J0_isLatin1_aae02 o U (fun r_2 U_1 => (r_2 = 0 → False) ∧ (¬ r_2 = 0 → w_J1_charAt_3b067 o a1 U_1 (fun r_4 U_3 => narrow .char (.int r_4) = .int r_4 ∧ post r_4 U_3)))
set_option maxHeartbeats 4000000 in
theorem t_J0_charAt_5068e {l : Launch} {Y : px_Y} {o : Nat} {a1 : Int32} {U : Um} {post : Int32 → Um → Prop} (ho : o < 23) (H : w_J0_charAt_5068e o a1 U post) : um l Y 3 yJ0_charAt_5068e cJ0_charAt_5068e 2 (some (.char)) [.ref (Y.1.2.2 (200 + o)), .int a1] U (pq_i post) := by
  unfold w_J0_charAt_5068e at H
  refine um_ofF (by decide +kernel) (Nat.le_of_ble_eq_true rfl) [some (.ref (Y.1.2.2 (200 + o))), some (.int a1)] rfl (fun X h0 hh sz hM hU => ?_)
  have hC := hM.1
  have hR := hM.2.2.1
  refine pr_aload_n hC (by decide +kernel : decode cJ0_charAt_5068e 0 = .ok (.aload_n 0, 1)) rfl ?_
  refine vc_Oi hC hR [] fv_J0_492 (by decide +kernel : decode cJ0_charAt_5068e 1 = .ok (.invokevirtual 492, 3)) hU (t_J0_isLatin1_aae02 ho H) ho rfl rfl rfl (Nat.le_of_ble_eq_true rfl) (Nat.le_of_ble_eq_true rfl) (Nat.le_refl 0) (Nat.le_refl 0) (fun r_2 U_1 h H hU => ?_)
  refine pr_if_eq hC 16 (by decide +kernel : decode cJ0_charAt_5068e 4 = .ok (.ifCond .eq 12, 3)) (by decide) (fun c_4 => ?_) (fun c_4 => ?_)
  · replace H := H.1 c_4
    exact False.elim H
  replace H := H.2 c_4
  refine pr_aload_n hC (by decide +kernel : decode cJ0_charAt_5068e 7 = .ok (.aload_n 0, 1)) rfl ?_
  refine pr_getS_value hC fw_J0_9 (by decide +kernel : decode cJ0_charAt_5068e 8 = .ok (.getfield 9, 3)) ho ?_
  refine pr_iload_n hC (by decide +kernel : decode cJ0_charAt_5068e 11 = .ok (.iload_n 1, 1)) rfl ?_
  refine vc_Si hC hR [.ref (Y.1.2.2 (300 + o)), .int a1] fv_J0_495 (by decide +kernel : decode cJ0_charAt_5068e 12 = .ok (.invokestatic 495, 3)) hU (t_J1_charAt_3b067 ho H) rfl rfl (Nat.le_of_ble_eq_true rfl) (Nat.le_of_ble_eq_true rfl) (Nat.le_refl 0) (Nat.le_refl 0) (fun r_4 U_3 h H hU => ?_)
  exact pv_cret hM (by decide +kernel : decode cJ0_charAt_5068e 15 = .ok (.ireturn, 1)) H.1 hU H.2
def b_X12_packed_L4 (x0 : Nat) (post : Int64 → Um → Prop) (k_35 : Int64 → Um → Prop) (rec_ : Int64 → Int32 → Um → Prop) (x1 : Int64) (x3 : Int32) (U : Um) : Prop :=
  w_J0_length_8abf5 x0 U (fun r_2 U_1 => (r_2 ≤ x3 → k_35 x1 U_1) ∧ (¬ r_2 ≤ x3 → w_J0_charAt_5068e x0 x3 U_1 (fun r_4 U_3 => ∀ (x1_5 : Int64), x1_5 = ((27 * x1) + (Int32.toInt64 r_4)) - 96 → ∀ (x3_6 : Int32), x3_6 = x3 + 1 → rec_ x1_5 x3_6 U_3)))
def w_X12_packed_L4 (x0 : Nat) (post : Int64 → Um → Prop) (k_35 : Int64 → Um → Prop) (n_ : Nat) : Int64 → Int32 → Um → Prop := Nat.rec (motive := fun _ => Int64 → Int32 → Um → Prop) (fun _ _ _ => False) (fun _ ih => b_X12_packed_L4 x0 post k_35 ih) n_
def w_X12_packed (a1 : Nat) (U : Um) (post : Int64 → Um → Prop) : Prop :=
  (∃ n_9, w_X12_packed_L4 a1 post (fun x1_7 U_8 => post x1_7 U_8) n_9 0 0 U)
set_option maxHeartbeats 4000000 in
theorem tl_X12_packed_L4 {l : Launch} {Y : px_Y} {X : px_X} {h0 hh : pe_H} {sz : Nat} (x0 : Nat) (post : Int64 → Um → Prop) (k_35 : Int64 → Um → Prop) (hx0 : x0 < 23)  (hC : px_C X Y.1 (pm_A hh sz) cX12_packed RX12 4) (hM : px_M l X Y.1 hh sz yX12_packed cX12_packed 4 (some (.long)) 4 0 0) (hR : X.2.2.2.1 = pm_rm 4 0 0) (hk_35 : ∀ (y1 : Int64) (U : Um) (h : pe_H), k_35 y1 U → rF Y h0 U h → pw X Y.1 (pm_A hh sz) (pm_E X Y.1 hh sz 0 0 (pm_P Y h0 sz (pq_l post))) 35 [none, some (.long y1), none, none] [] h sz 0 0) : ∀ (n_ : Nat) (x1 : Int64) (x3 : Int32) (U : Um) (h : pe_H), rF Y h0 U h → w_X12_packed_L4 x0 post k_35 n_ x1 x3 U → pw X Y.1 (pm_A hh sz) (pm_E X Y.1 hh sz 0 0 (pm_P Y h0 sz (pq_l post))) 4 [some (.ref (Y.1.2.2 (200 + x0))), some (.long x1), none, some (.int x3)] [] h sz 0 0 := by
  intro n_
  induction n_ with
  | zero => intro x1 x3 U h hU H; exact False.elim H
  | succ n_ ih =>
    intro x1 x3 U h hU H
    replace H : b_X12_packed_L4 x0 post k_35 (w_X12_packed_L4 x0 post k_35 n_) x1 x3 U := H
    unfold b_X12_packed_L4 at H
    refine pr_iload_n hC (by decide +kernel : decode cX12_packed 4 = .ok (.iload_n 3, 1)) rfl ?_
    refine pr_aload_n hC (by decide +kernel : decode cX12_packed 5 = .ok (.aload_n 0, 1)) rfl ?_
    refine vc_Oi hC hR [] fv_X12_176 (by decide +kernel : decode cX12_packed 6 = .ok (.invokevirtual 176, 3)) hU (t_J0_length_8abf5 hx0 H) hx0 rfl rfl rfl (Nat.le_of_ble_eq_true rfl) (Nat.le_of_ble_eq_true rfl) (Nat.le_refl 0) (Nat.le_refl 0) (fun r_2 U_1 h H hU => ?_)
    refine pr_icmp_ge hC 35 (by decide +kernel : decode cX12_packed 9 = .ok (.if_icmp .ge 26, 3)) (by decide) (fun c_9 => ?_) (fun c_9 => ?_)
    · replace H := H.1 c_9
      exact pv_sub [none, some (.long x1), none, none] (And.intro rfl trivial) (hk_35 _ U_1 h H hU)
    replace H := H.2 c_9
    refine pr_ldc2 hC (27) (by decide +kernel : decode cX12_packed 12 = .ok (.ldc2_w 162, 3)) fk_X12_162 ?_
    refine pr_lload_n hC (by decide +kernel : decode cX12_packed 15 = .ok (.lload_n 1, 1)) rfl ?_
    refine pr_lmul hC (by decide +kernel : decode cX12_packed 16 = .ok (.lmul, 1)) ?_
    refine pr_aload_n hC (by decide +kernel : decode cX12_packed 17 = .ok (.aload_n 0, 1)) rfl ?_
    refine pr_iload_n hC (by decide +kernel : decode cX12_packed 18 = .ok (.iload_n 3, 1)) rfl ?_
    refine vc_Oi hC hR [.int x3] fv_X12_182 (by decide +kernel : decode cX12_packed 19 = .ok (.invokevirtual 182, 3)) hU (t_J0_charAt_5068e hx0 H) hx0 rfl rfl rfl (Nat.le_of_ble_eq_true rfl) (Nat.le_of_ble_eq_true rfl) (Nat.le_refl 0) (Nat.le_refl 0) (fun r_4 U_3 h H hU => ?_)
    refine pr_i2l hC (by decide +kernel : decode cX12_packed 22 = .ok (.i2l, 1)) ?_
    refine pr_ladd hC (by decide +kernel : decode cX12_packed 23 = .ok (.ladd, 1)) ?_
    refine pr_ldc2 hC (96) (by decide +kernel : decode cX12_packed 24 = .ok (.ldc2_w 164, 3)) fk_X12_164 ?_
    refine pr_lsub hC (by decide +kernel : decode cX12_packed 27 = .ok (.lsub, 1)) ?_
    refine pv_topl (fun x1_5 e_x1_5 => ?_)
    replace H := H x1_5 e_x1_5
    refine pr_lstore_n hC (by decide +kernel : decode cX12_packed 28 = .ok (.lstore_n 1, 1)) (by decide) rfl ?_
    refine pv_iinc hC (v := x3 + 1) (by decide +kernel : decode cX12_packed 29 = .ok (.iinc 3 1, 3)) rfl (by decide) rfl rfl (fun x3_6 e_x3_6 => ?_)
    replace H := H x3_6 e_x3_6
    refine pr_goto hC 4 (by decide +kernel : decode cX12_packed 32 = .ok (.goto (-28), 3)) (by decide) ?_
    exact pv_sub [some (.ref (Y.1.2.2 (200 + x0))), some (.long x1_5), none, some (.int x3_6)] (And.intro rfl (And.intro rfl (And.intro rfl trivial))) (ih _ _ U_3 h hU H)
set_option maxHeartbeats 4000000 in
theorem t_X12_packed {l : Launch} {Y : px_Y} {a1 : Nat} {U : Um} {post : Int64 → Um → Prop} (ha1 : a1 < 23) (H : w_X12_packed a1 U post) : um l Y 4 yX12_packed cX12_packed 4 (some (.long)) [.ref (Y.1.2.2 (200 + a1))] U (pq_l post) := by
  unfold w_X12_packed at H
  refine um_of (by decide) (Nat.le_of_ble_eq_true rfl) [some (.ref (Y.1.2.2 (200 + a1))), none, none, none] rfl (fun X h0 hh sz hM hU => ?_)
  have hC := hM.1
  have hR := hM.2.2.1
  refine pr_lconst hC (0) (by decide +kernel : decode cX12_packed 0 = .ok (.lconst 0, 1)) rfl ?_
  refine pr_lstore_n hC (by decide +kernel : decode cX12_packed 1 = .ok (.lstore_n 1, 1)) (by decide) rfl ?_
  refine pr_iconst hC (0) (by decide +kernel : decode cX12_packed 2 = .ok (.iconst 0, 1)) rfl ?_
  refine pr_istore_n hC (by decide +kernel : decode cX12_packed 3 = .ok (.istore_n 3, 1)) (by decide) rfl ?_
  obtain ⟨n_9, H⟩ := H
  refine pv_sub [some (.ref (Y.1.2.2 (200 + a1))), some (.long 0), none, some (.int 0)] (And.intro rfl (And.intro rfl (And.intro rfl trivial))) ?_
  refine tl_X12_packed_L4 _ _ _ ha1 hC hM hR (fun x1_7 U_8 h H hU => ?_) n_9 _ _ U hh hU H
  refine pr_lload_n hC (by decide +kernel : decode cX12_packed 35 = .ok (.lload_n 1, 1)) rfl ?_
  exact pv_lret hM (by decide +kernel : decode cX12_packed 36 = .ok (.lreturn, 1)) hU H
def w_X12_isWord (o : Nat) (a1 : Nat) (U : Um) (post : Int32 → Um → Prop) : Prop :=
  ((uI U o 22) = 1 → w_J0_length_8abf5 a1 U (fun r_2 U_1 => (((uI U o 24) - (uI U o 23)) = r_2 → w_X12_packed a1 U_1 (fun r_4 U_3 => ((lg_cmp (uL U_1 o 25) r_4) = 0 → post 1 U_3) ∧ (¬ (lg_cmp (uL U_1 o 25) r_4) = 0 → post 0 U_3))) ∧ (¬ ((uI U o 24) - (uI U o 23)) = r_2 → post 0 U_1))) ∧ (¬ (uI U o 22) = 1 → post 0 U)
set_option maxHeartbeats 4000000 in
theorem t_X12_isWord {l : Launch} {Y : px_Y} {o : Nat} {a1 : Nat} {U : Um} {post : Int32 → Um → Prop} (ho : oc o = 10) (ha1 : a1 < 23) (H : w_X12_isWord o a1 U post) : um l Y 5 yX12_isWord cX12_isWord 2 (some (.boolean)) [.ref (Y.2.1 o), .ref (Y.1.2.2 (200 + a1))] U (pq_i post) := by
  unfold w_X12_isWord at H
  refine um_of (by decide) (Nat.le_of_ble_eq_true rfl) [some (.ref (Y.2.1 o)), some (.ref (Y.1.2.2 (200 + a1)))] rfl (fun X h0 hh sz hM hU => ?_)
  have hC := hM.1
  have hR := hM.2.2.1
  refine pr_aload_n hC (by decide +kernel : decode cX12_isWord 0 = .ok (.aload_n 0, 1)) rfl ?_
  refine pu_g0 hC fg_X12_155 (by decide +kernel : decode cX12_isWord 1 = .ok (.getfield 155, 3)) hU ho (by decide) rfl rfl ?_
  refine pr_iconst hC (1) (by decide +kernel : decode cX12_isWord 4 = .ok (.iconst 1, 1)) rfl ?_
  refine pr_icmp_ne hC 40 (by decide +kernel : decode cX12_isWord 5 = .ok (.if_icmp .ne 35, 3)) (by decide) (fun c_5 => ?_) (fun c_5 => ?_)
  · replace H := H.2 c_5
    refine pr_iconst hC (0) (by decide +kernel : decode cX12_isWord 40 = .ok (.iconst 0, 1)) rfl ?_
    exact pv_zret hM (by decide +kernel : decode cX12_isWord 41 = .ok (.ireturn, 1)) (Or.inl rfl) hU H
  replace H := H.1 c_5
  refine pr_aload_n hC (by decide +kernel : decode cX12_isWord 8 = .ok (.aload_n 0, 1)) rfl ?_
  refine pu_g0 hC fg_X12_135 (by decide +kernel : decode cX12_isWord 9 = .ok (.getfield 135, 3)) hU ho (by decide) rfl rfl ?_
  refine pr_aload_n hC (by decide +kernel : decode cX12_isWord 12 = .ok (.aload_n 0, 1)) rfl ?_
  refine pu_g0 hC fg_X12_142 (by decide +kernel : decode cX12_isWord 13 = .ok (.getfield 142, 3)) hU ho (by decide) rfl rfl ?_
  refine pr_isub hC (by decide +kernel : decode cX12_isWord 16 = .ok (.isub, 1)) ?_
  refine pr_aload_n hC (by decide +kernel : decode cX12_isWord 17 = .ok (.aload_n 1, 1)) rfl ?_
  refine vc_Oi hC hR [] fv_X12_176 (by decide +kernel : decode cX12_isWord 18 = .ok (.invokevirtual 176, 3)) hU (t_J0_length_8abf5 ha1 H) ha1 rfl rfl rfl (Nat.le_of_ble_eq_true rfl) (Nat.le_of_ble_eq_true rfl) (Nat.le_refl 0) (Nat.le_refl 0) (fun r_2 U_1 h H hU => ?_)
  refine pr_icmp_ne hC 40 (by decide +kernel : decode cX12_isWord 21 = .ok (.if_icmp .ne 19, 3)) (by decide) (fun c_21 => ?_) (fun c_21 => ?_)
  · replace H := H.2 c_21
    refine pr_iconst hC (0) (by decide +kernel : decode cX12_isWord 40 = .ok (.iconst 0, 1)) rfl ?_
    exact pv_zret hM (by decide +kernel : decode cX12_isWord 41 = .ok (.ireturn, 1)) (Or.inl rfl) hU H
  replace H := H.1 c_21
  refine pr_aload_n hC (by decide +kernel : decode cX12_isWord 24 = .ok (.aload_n 0, 1)) rfl ?_
  refine pu_g20 hC fg_X12_145 (by decide +kernel : decode cX12_isWord 25 = .ok (.getfield 145, 3)) hU ho (by decide) rfl rfl ?_
  refine pr_aload_n hC (by decide +kernel : decode cX12_isWord 28 = .ok (.aload_n 1, 1)) rfl ?_
  refine vc_Sl hC hR [.ref (Y.1.2.2 (200 + a1))] fv_X12_186 (by decide +kernel : decode cX12_isWord 29 = .ok (.invokestatic 186, 3)) hU (t_X12_packed ha1 H) rfl rfl (Nat.le_of_ble_eq_true rfl) (Nat.le_of_ble_eq_true rfl) (Nat.le_refl 0) (Nat.le_refl 0) (fun r_4 U_3 h H hU => ?_)
  refine pr_lcmp hC (by decide +kernel : decode cX12_isWord 32 = .ok (.lcmp, 1)) ?_
  refine pr_if_ne hC 40 (by decide +kernel : decode cX12_isWord 33 = .ok (.ifCond .ne 7, 3)) (by decide) (fun c_33 => ?_) (fun c_33 => ?_)
  · replace H := H.2 c_33
    refine pr_iconst hC (0) (by decide +kernel : decode cX12_isWord 40 = .ok (.iconst 0, 1)) rfl ?_
    exact pv_zret hM (by decide +kernel : decode cX12_isWord 41 = .ok (.ireturn, 1)) (Or.inl rfl) hU H
  replace H := H.1 c_33
  refine pr_iconst hC (1) (by decide +kernel : decode cX12_isWord 36 = .ok (.iconst 1, 1)) rfl ?_
  refine pr_goto hC 41 (by decide +kernel : decode cX12_isWord 37 = .ok (.goto 4, 3)) (by decide) ?_
  exact pv_zret hM (by decide +kernel : decode cX12_isWord 41 = .ok (.ireturn, 1)) (Or.inr rfl) hU H
def w_X12_isSign (o : Nat) (a1 : Int32) (U : Um) (post : Int32 → Um → Prop) : Prop :=
  ((uI U o 22) = 3 → ((uI U o 27) = a1 → post 1 U) ∧ (¬ (uI U o 27) = a1 → post 0 U)) ∧ (¬ (uI U o 22) = 3 → post 0 U)
set_option maxHeartbeats 4000000 in
theorem t_X12_isSign {l : Launch} {Y : px_Y} {o : Nat} {a1 : Int32} {U : Um} {post : Int32 → Um → Prop} (ho : oc o = 10) (H : w_X12_isSign o a1 U post) : um l Y 0 yX12_isSign cX12_isSign 2 (some (.boolean)) [.ref (Y.2.1 o), .int a1] U (pq_i post) := by
  unfold w_X12_isSign at H
  refine um_of (by decide) (Nat.le_of_ble_eq_true rfl) [some (.ref (Y.2.1 o)), some (.int a1)] rfl (fun X h0 hh sz hM hU => ?_)
  have hC := hM.1
  have hR := hM.2.2.1
  refine pr_aload_n hC (by decide +kernel : decode cX12_isSign 0 = .ok (.aload_n 0, 1)) rfl ?_
  refine pu_g0 hC fg_X12_155 (by decide +kernel : decode cX12_isSign 1 = .ok (.getfield 155, 3)) hU ho (by decide) rfl rfl ?_
  refine pr_iconst hC (3) (by decide +kernel : decode cX12_isSign 4 = .ok (.iconst 3, 1)) rfl ?_
  refine pr_icmp_ne hC 20 (by decide +kernel : decode cX12_isSign 5 = .ok (.if_icmp .ne 15, 3)) (by decide) (fun c_5 => ?_) (fun c_5 => ?_)
  · replace H := H.2 c_5
    refine pr_iconst hC (0) (by decide +kernel : decode cX12_isSign 20 = .ok (.iconst 0, 1)) rfl ?_
    exact pv_zret hM (by decide +kernel : decode cX12_isSign 21 = .ok (.ireturn, 1)) (Or.inl rfl) hU H
  replace H := H.1 c_5
  refine pr_aload_n hC (by decide +kernel : decode cX12_isSign 8 = .ok (.aload_n 0, 1)) rfl ?_
  refine pu_g0 hC fg_X12_152 (by decide +kernel : decode cX12_isSign 9 = .ok (.getfield 152, 3)) hU ho (by decide) rfl rfl ?_
  refine pr_iload_n hC (by decide +kernel : decode cX12_isSign 12 = .ok (.iload_n 1, 1)) rfl ?_
  refine pr_icmp_ne hC 20 (by decide +kernel : decode cX12_isSign 13 = .ok (.if_icmp .ne 7, 3)) (by decide) (fun c_13 => ?_) (fun c_13 => ?_)
  · replace H := H.2 c_13
    refine pr_iconst hC (0) (by decide +kernel : decode cX12_isSign 20 = .ok (.iconst 0, 1)) rfl ?_
    exact pv_zret hM (by decide +kernel : decode cX12_isSign 21 = .ok (.ireturn, 1)) (Or.inl rfl) hU H
  replace H := H.1 c_13
  refine pr_iconst hC (1) (by decide +kernel : decode cX12_isSign 16 = .ok (.iconst 1, 1)) rfl ?_
  refine pr_goto hC 21 (by decide +kernel : decode cX12_isSign 17 = .ok (.goto 4, 3)) (by decide) ?_
  exact pv_zret hM (by decide +kernel : decode cX12_isSign 21 = .ok (.ireturn, 1)) (Or.inr rfl) hU H
def w_X12_isOwn (o : Nat) (U : Um) (post : Int32 → Um → Prop) : Prop :=
  w_X12_isWord o 0 U (fun r_2 U_1 => (r_2 = 0 → w_X12_isWord o 1 U_1 (fun r_4 U_3 => (r_4 = 0 → w_X12_isWord o 2 U_3 (fun r_6 U_5 => (r_6 = 0 → w_X12_isWord o 3 U_5 (fun r_8 U_7 => (r_8 = 0 → w_X12_isWord o 4 U_7 (fun r_10 U_9 => (r_10 = 0 → w_X12_isWord o 5 U_9 (fun r_12 U_11 => (r_12 = 0 → w_X12_isWord o 6 U_11 (fun r_14 U_13 => (r_14 = 0 → w_X12_isWord o 7 U_13 (fun r_16 U_15 => (r_16 = 0 → w_X12_isWord o 8 U_15 (fun r_18 U_17 => (r_18 = 0 → w_X12_isWord o 9 U_17 (fun r_20 U_19 => (r_20 = 0 → w_X12_isWord o 10 U_19 (fun r_22 U_21 => (r_22 = 0 → w_X12_isWord o 11 U_21 (fun r_24 U_23 => (r_24 = 0 → w_X12_isWord o 12 U_23 (fun r_26 U_25 => (r_26 = 0 → w_X12_isWord o 13 U_25 (fun r_28 U_27 => (r_28 = 0 → w_X12_isWord o 14 U_27 (fun r_30 U_29 => (r_30 = 0 → w_X12_isWord o 15 U_29 (fun r_32 U_31 => (r_32 = 0 → w_X12_isWord o 16 U_31 (fun r_34 U_33 => (r_34 = 0 → w_X12_isWord o 17 U_33 (fun r_36 U_35 => (r_36 = 0 → w_X12_isWord o 18 U_35 (fun r_38 U_37 => (r_38 = 0 → w_X12_isWord o 19 U_37 (fun r_40 U_39 => (r_40 = 0 → w_X12_isWord o 20 U_39 (fun r_42 U_41 => (r_42 = 0 → w_X12_isWord o 21 U_41 (fun r_44 U_43 => (r_44 = 0 → w_X12_isWord o 22 U_43 (fun r_46 U_45 => (r_46 = 0 → post 0 U_45) ∧ (¬ r_46 = 0 → post 1 U_45))) ∧ (¬ r_44 = 0 → post 1 U_43))) ∧ (¬ r_42 = 0 → post 1 U_41))) ∧ (¬ r_40 = 0 → post 1 U_39))) ∧ (¬ r_38 = 0 → post 1 U_37))) ∧ (¬ r_36 = 0 → post 1 U_35))) ∧ (¬ r_34 = 0 → post 1 U_33))) ∧ (¬ r_32 = 0 → post 1 U_31))) ∧ (¬ r_30 = 0 → post 1 U_29))) ∧ (¬ r_28 = 0 → post 1 U_27))) ∧ (¬ r_26 = 0 → post 1 U_25))) ∧ (¬ r_24 = 0 → post 1 U_23))) ∧ (¬ r_22 = 0 → post 1 U_21))) ∧ (¬ r_20 = 0 → post 1 U_19))) ∧ (¬ r_18 = 0 → post 1 U_17))) ∧ (¬ r_16 = 0 → post 1 U_15))) ∧ (¬ r_14 = 0 → post 1 U_13))) ∧ (¬ r_12 = 0 → post 1 U_11))) ∧ (¬ r_10 = 0 → post 1 U_9))) ∧ (¬ r_8 = 0 → post 1 U_7))) ∧ (¬ r_6 = 0 → post 1 U_5))) ∧ (¬ r_4 = 0 → post 1 U_3))) ∧ (¬ r_2 = 0 → post 1 U_1))
set_option maxHeartbeats 4000000 in
theorem t_X12_isOwn {l : Launch} {Y : px_Y} {o : Nat} {U : Um} {post : Int32 → Um → Prop} (ho : oc o = 10) (H : w_X12_isOwn o U post) : um l Y 6 yX12_isOwn cX12_isOwn 1 (some (.boolean)) [.ref (Y.2.1 o)] U (pq_i post) := by
  unfold w_X12_isOwn at H
  refine um_of (by decide) (Nat.le_of_ble_eq_true rfl) [some (.ref (Y.2.1 o))] rfl (fun X h0 hh sz hM hU => ?_)
  have hC := hM.1
  have hR := hM.2.2.1
  refine pr_aload_n hC (by decide +kernel : decode cX12_isOwn 0 = .ok (.aload_n 0, 1)) rfl ?_
  refine pr_ldcs hC ss_X12_190 (by decide +kernel : decode cX12_isOwn 1 = .ok (.ldc 190, 2)) ?_
  refine vc_Vi hC hR [.ref (Y.1.2.2 (200 + 0))] fv_X12_192 (by decide +kernel : decode cX12_isOwn 3 = .ok (.invokevirtual 192, 3)) hU (t_X12_isWord ho (by decide) H) ho (by decide) rfl rfl rfl (Nat.le_of_ble_eq_true rfl) (Nat.le_of_ble_eq_true rfl) (Nat.le_refl 0) (Nat.le_refl 0) (fun r_2 U_1 h H hU => ?_)
  refine pr_if_ne hC 108 (by decide +kernel : decode cX12_isOwn 6 = .ok (.ifCond .ne 102, 3)) (by decide) (fun c_6 => ?_) (fun c_6 => ?_)
  · replace H := H.2 c_6
    refine pr_iconst hC (1) (by decide +kernel : decode cX12_isOwn 108 = .ok (.iconst 1, 1)) rfl ?_
    exact pv_zret hM (by decide +kernel : decode cX12_isOwn 109 = .ok (.ireturn, 1)) (Or.inr rfl) hU H
  replace H := H.1 c_6
  refine pr_aload_n hC (by decide +kernel : decode cX12_isOwn 9 = .ok (.aload_n 0, 1)) rfl ?_
  refine pr_ldcs hC ss_X12_196 (by decide +kernel : decode cX12_isOwn 10 = .ok (.ldc 196, 2)) ?_
  refine vc_Vi hC hR [.ref (Y.1.2.2 (200 + 1))] fv_X12_192 (by decide +kernel : decode cX12_isOwn 12 = .ok (.invokevirtual 192, 3)) hU (t_X12_isWord ho (by decide) H) ho (by decide) rfl rfl rfl (Nat.le_of_ble_eq_true rfl) (Nat.le_of_ble_eq_true rfl) (Nat.le_refl 0) (Nat.le_refl 0) (fun r_4 U_3 h H hU => ?_)
  refine pr_if_ne hC 108 (by decide +kernel : decode cX12_isOwn 15 = .ok (.ifCond .ne 93, 3)) (by decide) (fun c_15 => ?_) (fun c_15 => ?_)
  · replace H := H.2 c_15
    refine pr_iconst hC (1) (by decide +kernel : decode cX12_isOwn 108 = .ok (.iconst 1, 1)) rfl ?_
    exact pv_zret hM (by decide +kernel : decode cX12_isOwn 109 = .ok (.ireturn, 1)) (Or.inr rfl) hU H
  replace H := H.1 c_15
  refine pr_aload_n hC (by decide +kernel : decode cX12_isOwn 18 = .ok (.aload_n 0, 1)) rfl ?_
  refine pr_ldcs hC ss_X12_197 (by decide +kernel : decode cX12_isOwn 19 = .ok (.ldc 197, 2)) ?_
  refine vc_Vi hC hR [.ref (Y.1.2.2 (200 + 2))] fv_X12_192 (by decide +kernel : decode cX12_isOwn 21 = .ok (.invokevirtual 192, 3)) hU (t_X12_isWord ho (by decide) H) ho (by decide) rfl rfl rfl (Nat.le_of_ble_eq_true rfl) (Nat.le_of_ble_eq_true rfl) (Nat.le_refl 0) (Nat.le_refl 0) (fun r_6 U_5 h H hU => ?_)
  refine pr_if_ne hC 108 (by decide +kernel : decode cX12_isOwn 24 = .ok (.ifCond .ne 84, 3)) (by decide) (fun c_24 => ?_) (fun c_24 => ?_)
  · replace H := H.2 c_24
    refine pr_iconst hC (1) (by decide +kernel : decode cX12_isOwn 108 = .ok (.iconst 1, 1)) rfl ?_
    exact pv_zret hM (by decide +kernel : decode cX12_isOwn 109 = .ok (.ireturn, 1)) (Or.inr rfl) hU H
  replace H := H.1 c_24
  refine pr_aload_n hC (by decide +kernel : decode cX12_isOwn 27 = .ok (.aload_n 0, 1)) rfl ?_
  refine pr_ldcs hC ss_X12_199 (by decide +kernel : decode cX12_isOwn 28 = .ok (.ldc 199, 2)) ?_
  refine vc_Vi hC hR [.ref (Y.1.2.2 (200 + 3))] fv_X12_192 (by decide +kernel : decode cX12_isOwn 30 = .ok (.invokevirtual 192, 3)) hU (t_X12_isWord ho (by decide) H) ho (by decide) rfl rfl rfl (Nat.le_of_ble_eq_true rfl) (Nat.le_of_ble_eq_true rfl) (Nat.le_refl 0) (Nat.le_refl 0) (fun r_8 U_7 h H hU => ?_)
  refine pr_if_ne hC 108 (by decide +kernel : decode cX12_isOwn 33 = .ok (.ifCond .ne 75, 3)) (by decide) (fun c_33 => ?_) (fun c_33 => ?_)
  · replace H := H.2 c_33
    refine pr_iconst hC (1) (by decide +kernel : decode cX12_isOwn 108 = .ok (.iconst 1, 1)) rfl ?_
    exact pv_zret hM (by decide +kernel : decode cX12_isOwn 109 = .ok (.ireturn, 1)) (Or.inr rfl) hU H
  replace H := H.1 c_33
  refine pr_aload_n hC (by decide +kernel : decode cX12_isOwn 36 = .ok (.aload_n 0, 1)) rfl ?_
  refine pr_ldcs hC ss_X12_201 (by decide +kernel : decode cX12_isOwn 37 = .ok (.ldc 201, 2)) ?_
  refine vc_Vi hC hR [.ref (Y.1.2.2 (200 + 4))] fv_X12_192 (by decide +kernel : decode cX12_isOwn 39 = .ok (.invokevirtual 192, 3)) hU (t_X12_isWord ho (by decide) H) ho (by decide) rfl rfl rfl (Nat.le_of_ble_eq_true rfl) (Nat.le_of_ble_eq_true rfl) (Nat.le_refl 0) (Nat.le_refl 0) (fun r_10 U_9 h H hU => ?_)
  refine pr_if_ne hC 108 (by decide +kernel : decode cX12_isOwn 42 = .ok (.ifCond .ne 66, 3)) (by decide) (fun c_42 => ?_) (fun c_42 => ?_)
  · replace H := H.2 c_42
    refine pr_iconst hC (1) (by decide +kernel : decode cX12_isOwn 108 = .ok (.iconst 1, 1)) rfl ?_
    exact pv_zret hM (by decide +kernel : decode cX12_isOwn 109 = .ok (.ireturn, 1)) (Or.inr rfl) hU H
  replace H := H.1 c_42
  refine pr_aload_n hC (by decide +kernel : decode cX12_isOwn 45 = .ok (.aload_n 0, 1)) rfl ?_
  refine pr_ldcs hC ss_X12_203 (by decide +kernel : decode cX12_isOwn 46 = .ok (.ldc 203, 2)) ?_
  refine vc_Vi hC hR [.ref (Y.1.2.2 (200 + 5))] fv_X12_192 (by decide +kernel : decode cX12_isOwn 48 = .ok (.invokevirtual 192, 3)) hU (t_X12_isWord ho (by decide) H) ho (by decide) rfl rfl rfl (Nat.le_of_ble_eq_true rfl) (Nat.le_of_ble_eq_true rfl) (Nat.le_refl 0) (Nat.le_refl 0) (fun r_12 U_11 h H hU => ?_)
  refine pr_if_ne hC 108 (by decide +kernel : decode cX12_isOwn 51 = .ok (.ifCond .ne 57, 3)) (by decide) (fun c_51 => ?_) (fun c_51 => ?_)
  · replace H := H.2 c_51
    refine pr_iconst hC (1) (by decide +kernel : decode cX12_isOwn 108 = .ok (.iconst 1, 1)) rfl ?_
    exact pv_zret hM (by decide +kernel : decode cX12_isOwn 109 = .ok (.ireturn, 1)) (Or.inr rfl) hU H
  replace H := H.1 c_51
  refine pr_aload_n hC (by decide +kernel : decode cX12_isOwn 54 = .ok (.aload_n 0, 1)) rfl ?_
  refine pr_ldcs hC ss_X12_205 (by decide +kernel : decode cX12_isOwn 55 = .ok (.ldc 205, 2)) ?_
  refine vc_Vi hC hR [.ref (Y.1.2.2 (200 + 6))] fv_X12_192 (by decide +kernel : decode cX12_isOwn 57 = .ok (.invokevirtual 192, 3)) hU (t_X12_isWord ho (by decide) H) ho (by decide) rfl rfl rfl (Nat.le_of_ble_eq_true rfl) (Nat.le_of_ble_eq_true rfl) (Nat.le_refl 0) (Nat.le_refl 0) (fun r_14 U_13 h H hU => ?_)
  refine pr_if_ne hC 108 (by decide +kernel : decode cX12_isOwn 60 = .ok (.ifCond .ne 48, 3)) (by decide) (fun c_60 => ?_) (fun c_60 => ?_)
  · replace H := H.2 c_60
    refine pr_iconst hC (1) (by decide +kernel : decode cX12_isOwn 108 = .ok (.iconst 1, 1)) rfl ?_
    exact pv_zret hM (by decide +kernel : decode cX12_isOwn 109 = .ok (.ireturn, 1)) (Or.inr rfl) hU H
  replace H := H.1 c_60
  refine pr_aload_n hC (by decide +kernel : decode cX12_isOwn 63 = .ok (.aload_n 0, 1)) rfl ?_
  refine pr_ldcs hC ss_X12_206 (by decide +kernel : decode cX12_isOwn 64 = .ok (.ldc 206, 2)) ?_
  refine vc_Vi hC hR [.ref (Y.1.2.2 (200 + 7))] fv_X12_192 (by decide +kernel : decode cX12_isOwn 66 = .ok (.invokevirtual 192, 3)) hU (t_X12_isWord ho (by decide) H) ho (by decide) rfl rfl rfl (Nat.le_of_ble_eq_true rfl) (Nat.le_of_ble_eq_true rfl) (Nat.le_refl 0) (Nat.le_refl 0) (fun r_16 U_15 h H hU => ?_)
  refine pr_if_ne hC 108 (by decide +kernel : decode cX12_isOwn 69 = .ok (.ifCond .ne 39, 3)) (by decide) (fun c_69 => ?_) (fun c_69 => ?_)
  · replace H := H.2 c_69
    refine pr_iconst hC (1) (by decide +kernel : decode cX12_isOwn 108 = .ok (.iconst 1, 1)) rfl ?_
    exact pv_zret hM (by decide +kernel : decode cX12_isOwn 109 = .ok (.ireturn, 1)) (Or.inr rfl) hU H
  replace H := H.1 c_69
  refine pr_aload_n hC (by decide +kernel : decode cX12_isOwn 72 = .ok (.aload_n 0, 1)) rfl ?_
  refine pr_ldcs hC ss_X12_207 (by decide +kernel : decode cX12_isOwn 73 = .ok (.ldc 207, 2)) ?_
  refine vc_Vi hC hR [.ref (Y.1.2.2 (200 + 8))] fv_X12_192 (by decide +kernel : decode cX12_isOwn 75 = .ok (.invokevirtual 192, 3)) hU (t_X12_isWord ho (by decide) H) ho (by decide) rfl rfl rfl (Nat.le_of_ble_eq_true rfl) (Nat.le_of_ble_eq_true rfl) (Nat.le_refl 0) (Nat.le_refl 0) (fun r_18 U_17 h H hU => ?_)
  refine pr_if_ne hC 108 (by decide +kernel : decode cX12_isOwn 78 = .ok (.ifCond .ne 30, 3)) (by decide) (fun c_78 => ?_) (fun c_78 => ?_)
  · replace H := H.2 c_78
    refine pr_iconst hC (1) (by decide +kernel : decode cX12_isOwn 108 = .ok (.iconst 1, 1)) rfl ?_
    exact pv_zret hM (by decide +kernel : decode cX12_isOwn 109 = .ok (.ireturn, 1)) (Or.inr rfl) hU H
  replace H := H.1 c_78
  refine pr_aload_n hC (by decide +kernel : decode cX12_isOwn 81 = .ok (.aload_n 0, 1)) rfl ?_
  refine pr_ldcs hC ss_X12_208 (by decide +kernel : decode cX12_isOwn 82 = .ok (.ldc 208, 2)) ?_
  refine vc_Vi hC hR [.ref (Y.1.2.2 (200 + 9))] fv_X12_192 (by decide +kernel : decode cX12_isOwn 84 = .ok (.invokevirtual 192, 3)) hU (t_X12_isWord ho (by decide) H) ho (by decide) rfl rfl rfl (Nat.le_of_ble_eq_true rfl) (Nat.le_of_ble_eq_true rfl) (Nat.le_refl 0) (Nat.le_refl 0) (fun r_20 U_19 h H hU => ?_)
  refine pr_if_ne hC 108 (by decide +kernel : decode cX12_isOwn 87 = .ok (.ifCond .ne 21, 3)) (by decide) (fun c_87 => ?_) (fun c_87 => ?_)
  · replace H := H.2 c_87
    refine pr_iconst hC (1) (by decide +kernel : decode cX12_isOwn 108 = .ok (.iconst 1, 1)) rfl ?_
    exact pv_zret hM (by decide +kernel : decode cX12_isOwn 109 = .ok (.ireturn, 1)) (Or.inr rfl) hU H
  replace H := H.1 c_87
  refine pr_aload_n hC (by decide +kernel : decode cX12_isOwn 90 = .ok (.aload_n 0, 1)) rfl ?_
  refine pr_ldcs hC ss_X12_210 (by decide +kernel : decode cX12_isOwn 91 = .ok (.ldc 210, 2)) ?_
  refine vc_Vi hC hR [.ref (Y.1.2.2 (200 + 10))] fv_X12_192 (by decide +kernel : decode cX12_isOwn 93 = .ok (.invokevirtual 192, 3)) hU (t_X12_isWord ho (by decide) H) ho (by decide) rfl rfl rfl (Nat.le_of_ble_eq_true rfl) (Nat.le_of_ble_eq_true rfl) (Nat.le_refl 0) (Nat.le_refl 0) (fun r_22 U_21 h H hU => ?_)
  refine pr_if_ne hC 108 (by decide +kernel : decode cX12_isOwn 96 = .ok (.ifCond .ne 12, 3)) (by decide) (fun c_96 => ?_) (fun c_96 => ?_)
  · replace H := H.2 c_96
    refine pr_iconst hC (1) (by decide +kernel : decode cX12_isOwn 108 = .ok (.iconst 1, 1)) rfl ?_
    exact pv_zret hM (by decide +kernel : decode cX12_isOwn 109 = .ok (.ireturn, 1)) (Or.inr rfl) hU H
  replace H := H.1 c_96
  refine pr_aload_n hC (by decide +kernel : decode cX12_isOwn 99 = .ok (.aload_n 0, 1)) rfl ?_
  refine pr_ldcs hC ss_X12_212 (by decide +kernel : decode cX12_isOwn 100 = .ok (.ldc 212, 2)) ?_
  refine vc_Vi hC hR [.ref (Y.1.2.2 (200 + 11))] fv_X12_192 (by decide +kernel : decode cX12_isOwn 102 = .ok (.invokevirtual 192, 3)) hU (t_X12_isWord ho (by decide) H) ho (by decide) rfl rfl rfl (Nat.le_of_ble_eq_true rfl) (Nat.le_of_ble_eq_true rfl) (Nat.le_refl 0) (Nat.le_refl 0) (fun r_24 U_23 h H hU => ?_)
  refine pr_if_eq hC 110 (by decide +kernel : decode cX12_isOwn 105 = .ok (.ifCond .eq 5, 3)) (by decide) (fun c_105 => ?_) (fun c_105 => ?_)
  · replace H := H.1 c_105
    refine pr_aload_n hC (by decide +kernel : decode cX12_isOwn 110 = .ok (.aload_n 0, 1)) rfl ?_
    refine pr_ldcs hC ss_X12_213 (by decide +kernel : decode cX12_isOwn 111 = .ok (.ldc 213, 2)) ?_
    refine vc_Vi hC hR [.ref (Y.1.2.2 (200 + 12))] fv_X12_192 (by decide +kernel : decode cX12_isOwn 113 = .ok (.invokevirtual 192, 3)) hU (t_X12_isWord ho (by decide) H) ho (by decide) rfl rfl rfl (Nat.le_of_ble_eq_true rfl) (Nat.le_of_ble_eq_true rfl) (Nat.le_refl 0) (Nat.le_refl 0) (fun r_26 U_25 h H hU => ?_)
    refine pr_if_ne hC 209 (by decide +kernel : decode cX12_isOwn 116 = .ok (.ifCond .ne 93, 3)) (by decide) (fun c_116 => ?_) (fun c_116 => ?_)
    · replace H := H.2 c_116
      refine pr_iconst hC (1) (by decide +kernel : decode cX12_isOwn 209 = .ok (.iconst 1, 1)) rfl ?_
      refine pr_goto hC 214 (by decide +kernel : decode cX12_isOwn 210 = .ok (.goto 4, 3)) (by decide) ?_
      exact pv_zret hM (by decide +kernel : decode cX12_isOwn 214 = .ok (.ireturn, 1)) (Or.inr rfl) hU H
    replace H := H.1 c_116
    refine pr_aload_n hC (by decide +kernel : decode cX12_isOwn 119 = .ok (.aload_n 0, 1)) rfl ?_
    refine pr_ldcs hC ss_X12_215 (by decide +kernel : decode cX12_isOwn 120 = .ok (.ldc 215, 2)) ?_
    refine vc_Vi hC hR [.ref (Y.1.2.2 (200 + 13))] fv_X12_192 (by decide +kernel : decode cX12_isOwn 122 = .ok (.invokevirtual 192, 3)) hU (t_X12_isWord ho (by decide) H) ho (by decide) rfl rfl rfl (Nat.le_of_ble_eq_true rfl) (Nat.le_of_ble_eq_true rfl) (Nat.le_refl 0) (Nat.le_refl 0) (fun r_28 U_27 h H hU => ?_)
    refine pr_if_ne hC 209 (by decide +kernel : decode cX12_isOwn 125 = .ok (.ifCond .ne 84, 3)) (by decide) (fun c_125 => ?_) (fun c_125 => ?_)
    · replace H := H.2 c_125
      refine pr_iconst hC (1) (by decide +kernel : decode cX12_isOwn 209 = .ok (.iconst 1, 1)) rfl ?_
      refine pr_goto hC 214 (by decide +kernel : decode cX12_isOwn 210 = .ok (.goto 4, 3)) (by decide) ?_
      exact pv_zret hM (by decide +kernel : decode cX12_isOwn 214 = .ok (.ireturn, 1)) (Or.inr rfl) hU H
    replace H := H.1 c_125
    refine pr_aload_n hC (by decide +kernel : decode cX12_isOwn 128 = .ok (.aload_n 0, 1)) rfl ?_
    refine pr_ldcs hC ss_X12_217 (by decide +kernel : decode cX12_isOwn 129 = .ok (.ldc 217, 2)) ?_
    refine vc_Vi hC hR [.ref (Y.1.2.2 (200 + 14))] fv_X12_192 (by decide +kernel : decode cX12_isOwn 131 = .ok (.invokevirtual 192, 3)) hU (t_X12_isWord ho (by decide) H) ho (by decide) rfl rfl rfl (Nat.le_of_ble_eq_true rfl) (Nat.le_of_ble_eq_true rfl) (Nat.le_refl 0) (Nat.le_refl 0) (fun r_30 U_29 h H hU => ?_)
    refine pr_if_ne hC 209 (by decide +kernel : decode cX12_isOwn 134 = .ok (.ifCond .ne 75, 3)) (by decide) (fun c_134 => ?_) (fun c_134 => ?_)
    · replace H := H.2 c_134
      refine pr_iconst hC (1) (by decide +kernel : decode cX12_isOwn 209 = .ok (.iconst 1, 1)) rfl ?_
      refine pr_goto hC 214 (by decide +kernel : decode cX12_isOwn 210 = .ok (.goto 4, 3)) (by decide) ?_
      exact pv_zret hM (by decide +kernel : decode cX12_isOwn 214 = .ok (.ireturn, 1)) (Or.inr rfl) hU H
    replace H := H.1 c_134
    refine pr_aload_n hC (by decide +kernel : decode cX12_isOwn 137 = .ok (.aload_n 0, 1)) rfl ?_
    refine pr_ldcs hC ss_X12_219 (by decide +kernel : decode cX12_isOwn 138 = .ok (.ldc 219, 2)) ?_
    refine vc_Vi hC hR [.ref (Y.1.2.2 (200 + 15))] fv_X12_192 (by decide +kernel : decode cX12_isOwn 140 = .ok (.invokevirtual 192, 3)) hU (t_X12_isWord ho (by decide) H) ho (by decide) rfl rfl rfl (Nat.le_of_ble_eq_true rfl) (Nat.le_of_ble_eq_true rfl) (Nat.le_refl 0) (Nat.le_refl 0) (fun r_32 U_31 h H hU => ?_)
    refine pr_if_ne hC 209 (by decide +kernel : decode cX12_isOwn 143 = .ok (.ifCond .ne 66, 3)) (by decide) (fun c_143 => ?_) (fun c_143 => ?_)
    · replace H := H.2 c_143
      refine pr_iconst hC (1) (by decide +kernel : decode cX12_isOwn 209 = .ok (.iconst 1, 1)) rfl ?_
      refine pr_goto hC 214 (by decide +kernel : decode cX12_isOwn 210 = .ok (.goto 4, 3)) (by decide) ?_
      exact pv_zret hM (by decide +kernel : decode cX12_isOwn 214 = .ok (.ireturn, 1)) (Or.inr rfl) hU H
    replace H := H.1 c_143
    refine pr_aload_n hC (by decide +kernel : decode cX12_isOwn 146 = .ok (.aload_n 0, 1)) rfl ?_
    refine pr_ldcs hC ss_X12_221 (by decide +kernel : decode cX12_isOwn 147 = .ok (.ldc 221, 2)) ?_
    refine vc_Vi hC hR [.ref (Y.1.2.2 (200 + 16))] fv_X12_192 (by decide +kernel : decode cX12_isOwn 149 = .ok (.invokevirtual 192, 3)) hU (t_X12_isWord ho (by decide) H) ho (by decide) rfl rfl rfl (Nat.le_of_ble_eq_true rfl) (Nat.le_of_ble_eq_true rfl) (Nat.le_refl 0) (Nat.le_refl 0) (fun r_34 U_33 h H hU => ?_)
    refine pr_if_ne hC 209 (by decide +kernel : decode cX12_isOwn 152 = .ok (.ifCond .ne 57, 3)) (by decide) (fun c_152 => ?_) (fun c_152 => ?_)
    · replace H := H.2 c_152
      refine pr_iconst hC (1) (by decide +kernel : decode cX12_isOwn 209 = .ok (.iconst 1, 1)) rfl ?_
      refine pr_goto hC 214 (by decide +kernel : decode cX12_isOwn 210 = .ok (.goto 4, 3)) (by decide) ?_
      exact pv_zret hM (by decide +kernel : decode cX12_isOwn 214 = .ok (.ireturn, 1)) (Or.inr rfl) hU H
    replace H := H.1 c_152
    refine pr_aload_n hC (by decide +kernel : decode cX12_isOwn 155 = .ok (.aload_n 0, 1)) rfl ?_
    refine pr_ldcs hC ss_X12_223 (by decide +kernel : decode cX12_isOwn 156 = .ok (.ldc 223, 2)) ?_
    refine vc_Vi hC hR [.ref (Y.1.2.2 (200 + 17))] fv_X12_192 (by decide +kernel : decode cX12_isOwn 158 = .ok (.invokevirtual 192, 3)) hU (t_X12_isWord ho (by decide) H) ho (by decide) rfl rfl rfl (Nat.le_of_ble_eq_true rfl) (Nat.le_of_ble_eq_true rfl) (Nat.le_refl 0) (Nat.le_refl 0) (fun r_36 U_35 h H hU => ?_)
    refine pr_if_ne hC 209 (by decide +kernel : decode cX12_isOwn 161 = .ok (.ifCond .ne 48, 3)) (by decide) (fun c_161 => ?_) (fun c_161 => ?_)
    · replace H := H.2 c_161
      refine pr_iconst hC (1) (by decide +kernel : decode cX12_isOwn 209 = .ok (.iconst 1, 1)) rfl ?_
      refine pr_goto hC 214 (by decide +kernel : decode cX12_isOwn 210 = .ok (.goto 4, 3)) (by decide) ?_
      exact pv_zret hM (by decide +kernel : decode cX12_isOwn 214 = .ok (.ireturn, 1)) (Or.inr rfl) hU H
    replace H := H.1 c_161
    refine pr_aload_n hC (by decide +kernel : decode cX12_isOwn 164 = .ok (.aload_n 0, 1)) rfl ?_
    refine pr_ldcs hC ss_X12_225 (by decide +kernel : decode cX12_isOwn 165 = .ok (.ldc 225, 2)) ?_
    refine vc_Vi hC hR [.ref (Y.1.2.2 (200 + 18))] fv_X12_192 (by decide +kernel : decode cX12_isOwn 167 = .ok (.invokevirtual 192, 3)) hU (t_X12_isWord ho (by decide) H) ho (by decide) rfl rfl rfl (Nat.le_of_ble_eq_true rfl) (Nat.le_of_ble_eq_true rfl) (Nat.le_refl 0) (Nat.le_refl 0) (fun r_38 U_37 h H hU => ?_)
    refine pr_if_ne hC 209 (by decide +kernel : decode cX12_isOwn 170 = .ok (.ifCond .ne 39, 3)) (by decide) (fun c_170 => ?_) (fun c_170 => ?_)
    · replace H := H.2 c_170
      refine pr_iconst hC (1) (by decide +kernel : decode cX12_isOwn 209 = .ok (.iconst 1, 1)) rfl ?_
      refine pr_goto hC 214 (by decide +kernel : decode cX12_isOwn 210 = .ok (.goto 4, 3)) (by decide) ?_
      exact pv_zret hM (by decide +kernel : decode cX12_isOwn 214 = .ok (.ireturn, 1)) (Or.inr rfl) hU H
    replace H := H.1 c_170
    refine pr_aload_n hC (by decide +kernel : decode cX12_isOwn 173 = .ok (.aload_n 0, 1)) rfl ?_
    refine pr_ldcs hC ss_X12_227 (by decide +kernel : decode cX12_isOwn 174 = .ok (.ldc 227, 2)) ?_
    refine vc_Vi hC hR [.ref (Y.1.2.2 (200 + 19))] fv_X12_192 (by decide +kernel : decode cX12_isOwn 176 = .ok (.invokevirtual 192, 3)) hU (t_X12_isWord ho (by decide) H) ho (by decide) rfl rfl rfl (Nat.le_of_ble_eq_true rfl) (Nat.le_of_ble_eq_true rfl) (Nat.le_refl 0) (Nat.le_refl 0) (fun r_40 U_39 h H hU => ?_)
    refine pr_if_ne hC 209 (by decide +kernel : decode cX12_isOwn 179 = .ok (.ifCond .ne 30, 3)) (by decide) (fun c_179 => ?_) (fun c_179 => ?_)
    · replace H := H.2 c_179
      refine pr_iconst hC (1) (by decide +kernel : decode cX12_isOwn 209 = .ok (.iconst 1, 1)) rfl ?_
      refine pr_goto hC 214 (by decide +kernel : decode cX12_isOwn 210 = .ok (.goto 4, 3)) (by decide) ?_
      exact pv_zret hM (by decide +kernel : decode cX12_isOwn 214 = .ok (.ireturn, 1)) (Or.inr rfl) hU H
    replace H := H.1 c_179
    refine pr_aload_n hC (by decide +kernel : decode cX12_isOwn 182 = .ok (.aload_n 0, 1)) rfl ?_
    refine pr_ldcs hC ss_X12_229 (by decide +kernel : decode cX12_isOwn 183 = .ok (.ldc 229, 2)) ?_
    refine vc_Vi hC hR [.ref (Y.1.2.2 (200 + 20))] fv_X12_192 (by decide +kernel : decode cX12_isOwn 185 = .ok (.invokevirtual 192, 3)) hU (t_X12_isWord ho (by decide) H) ho (by decide) rfl rfl rfl (Nat.le_of_ble_eq_true rfl) (Nat.le_of_ble_eq_true rfl) (Nat.le_refl 0) (Nat.le_refl 0) (fun r_42 U_41 h H hU => ?_)
    refine pr_if_ne hC 209 (by decide +kernel : decode cX12_isOwn 188 = .ok (.ifCond .ne 21, 3)) (by decide) (fun c_188 => ?_) (fun c_188 => ?_)
    · replace H := H.2 c_188
      refine pr_iconst hC (1) (by decide +kernel : decode cX12_isOwn 209 = .ok (.iconst 1, 1)) rfl ?_
      refine pr_goto hC 214 (by decide +kernel : decode cX12_isOwn 210 = .ok (.goto 4, 3)) (by decide) ?_
      exact pv_zret hM (by decide +kernel : decode cX12_isOwn 214 = .ok (.ireturn, 1)) (Or.inr rfl) hU H
    replace H := H.1 c_188
    refine pr_aload_n hC (by decide +kernel : decode cX12_isOwn 191 = .ok (.aload_n 0, 1)) rfl ?_
    refine pr_ldcs hC ss_X12_231 (by decide +kernel : decode cX12_isOwn 192 = .ok (.ldc 231, 2)) ?_
    refine vc_Vi hC hR [.ref (Y.1.2.2 (200 + 21))] fv_X12_192 (by decide +kernel : decode cX12_isOwn 194 = .ok (.invokevirtual 192, 3)) hU (t_X12_isWord ho (by decide) H) ho (by decide) rfl rfl rfl (Nat.le_of_ble_eq_true rfl) (Nat.le_of_ble_eq_true rfl) (Nat.le_refl 0) (Nat.le_refl 0) (fun r_44 U_43 h H hU => ?_)
    refine pr_if_ne hC 209 (by decide +kernel : decode cX12_isOwn 197 = .ok (.ifCond .ne 12, 3)) (by decide) (fun c_197 => ?_) (fun c_197 => ?_)
    · replace H := H.2 c_197
      refine pr_iconst hC (1) (by decide +kernel : decode cX12_isOwn 209 = .ok (.iconst 1, 1)) rfl ?_
      refine pr_goto hC 214 (by decide +kernel : decode cX12_isOwn 210 = .ok (.goto 4, 3)) (by decide) ?_
      exact pv_zret hM (by decide +kernel : decode cX12_isOwn 214 = .ok (.ireturn, 1)) (Or.inr rfl) hU H
    replace H := H.1 c_197
    refine pr_aload_n hC (by decide +kernel : decode cX12_isOwn 200 = .ok (.aload_n 0, 1)) rfl ?_
    refine pr_ldcs hC ss_X12_233 (by decide +kernel : decode cX12_isOwn 201 = .ok (.ldc 233, 2)) ?_
    refine vc_Vi hC hR [.ref (Y.1.2.2 (200 + 22))] fv_X12_192 (by decide +kernel : decode cX12_isOwn 203 = .ok (.invokevirtual 192, 3)) hU (t_X12_isWord ho (by decide) H) ho (by decide) rfl rfl rfl (Nat.le_of_ble_eq_true rfl) (Nat.le_of_ble_eq_true rfl) (Nat.le_refl 0) (Nat.le_refl 0) (fun r_46 U_45 h H hU => ?_)
    refine pr_if_eq hC 213 (by decide +kernel : decode cX12_isOwn 206 = .ok (.ifCond .eq 7, 3)) (by decide) (fun c_206 => ?_) (fun c_206 => ?_)
    · replace H := H.1 c_206
      refine pr_iconst hC (0) (by decide +kernel : decode cX12_isOwn 213 = .ok (.iconst 0, 1)) rfl ?_
      exact pv_zret hM (by decide +kernel : decode cX12_isOwn 214 = .ok (.ireturn, 1)) (Or.inl rfl) hU H
    replace H := H.2 c_206
    refine pr_iconst hC (1) (by decide +kernel : decode cX12_isOwn 209 = .ok (.iconst 1, 1)) rfl ?_
    refine pr_goto hC 214 (by decide +kernel : decode cX12_isOwn 210 = .ok (.goto 4, 3)) (by decide) ?_
    exact pv_zret hM (by decide +kernel : decode cX12_isOwn 214 = .ok (.ireturn, 1)) (Or.inr rfl) hU H
  replace H := H.2 c_105
  refine pr_iconst hC (1) (by decide +kernel : decode cX12_isOwn 108 = .ok (.iconst 1, 1)) rfl ?_
  exact pv_zret hM (by decide +kernel : decode cX12_isOwn 109 = .ok (.ireturn, 1)) (Or.inr rfl) hU H
def w_X12_isName (o : Nat) (U : Um) (post : Int32 → Um → Prop) : Prop :=
  ((uI U o 22) = 1 → ((6 : Int32) < ((uI U o 24) - (uI U o 23)) → post 0 U) ∧ (¬ (6 : Int32) < ((uI U o 24) - (uI U o 23)) → w_X12_isOwn o U (fun r_2 U_1 => (r_2 = 0 → post 1 U_1) ∧ (¬ r_2 = 0 → post 0 U_1)))) ∧ (¬ (uI U o 22) = 1 → post 0 U)
set_option maxHeartbeats 4000000 in
theorem t_X12_isName {l : Launch} {Y : px_Y} {o : Nat} {U : Um} {post : Int32 → Um → Prop} (ho : oc o = 10) (H : w_X12_isName o U post) : um l Y 7 yX12_isName cX12_isName 1 (some (.boolean)) [.ref (Y.2.1 o)] U (pq_i post) := by
  unfold w_X12_isName at H
  refine um_of (by decide) (Nat.le_of_ble_eq_true rfl) [some (.ref (Y.2.1 o))] rfl (fun X h0 hh sz hM hU => ?_)
  have hC := hM.1
  have hR := hM.2.2.1
  refine pr_aload_n hC (by decide +kernel : decode cX12_isName 0 = .ok (.aload_n 0, 1)) rfl ?_
  refine pu_g0 hC fg_X12_155 (by decide +kernel : decode cX12_isName 1 = .ok (.getfield 155, 3)) hU ho (by decide) rfl rfl ?_
  refine pr_iconst hC (1) (by decide +kernel : decode cX12_isName 4 = .ok (.iconst 1, 1)) rfl ?_
  refine pr_icmp_ne hC 33 (by decide +kernel : decode cX12_isName 5 = .ok (.if_icmp .ne 28, 3)) (by decide) (fun c_5 => ?_) (fun c_5 => ?_)
  · replace H := H.2 c_5
    refine pr_iconst hC (0) (by decide +kernel : decode cX12_isName 33 = .ok (.iconst 0, 1)) rfl ?_
    exact pv_zret hM (by decide +kernel : decode cX12_isName 34 = .ok (.ireturn, 1)) (Or.inl rfl) hU H
  replace H := H.1 c_5
  refine pr_aload_n hC (by decide +kernel : decode cX12_isName 8 = .ok (.aload_n 0, 1)) rfl ?_
  refine pu_g0 hC fg_X12_135 (by decide +kernel : decode cX12_isName 9 = .ok (.getfield 135, 3)) hU ho (by decide) rfl rfl ?_
  refine pr_aload_n hC (by decide +kernel : decode cX12_isName 12 = .ok (.aload_n 0, 1)) rfl ?_
  refine pu_g0 hC fg_X12_142 (by decide +kernel : decode cX12_isName 13 = .ok (.getfield 142, 3)) hU ho (by decide) rfl rfl ?_
  refine pr_isub hC (by decide +kernel : decode cX12_isName 16 = .ok (.isub, 1)) ?_
  refine pr_bipush hC (6) (by decide +kernel : decode cX12_isName 17 = .ok (.bipush 6, 2)) rfl ?_
  refine pr_icmp_gt hC 33 (by decide +kernel : decode cX12_isName 19 = .ok (.if_icmp .gt 14, 3)) (by decide) (fun c_19 => ?_) (fun c_19 => ?_)
  · replace H := H.1 c_19
    refine pr_iconst hC (0) (by decide +kernel : decode cX12_isName 33 = .ok (.iconst 0, 1)) rfl ?_
    exact pv_zret hM (by decide +kernel : decode cX12_isName 34 = .ok (.ireturn, 1)) (Or.inl rfl) hU H
  replace H := H.2 c_19
  refine pr_aload_n hC (by decide +kernel : decode cX12_isName 22 = .ok (.aload_n 0, 1)) rfl ?_
  refine vc_Vi hC hR [] fv_X12_234 (by decide +kernel : decode cX12_isName 23 = .ok (.invokevirtual 234, 3)) hU (t_X12_isOwn ho H) ho (by decide) rfl rfl rfl (Nat.le_of_ble_eq_true rfl) (Nat.le_of_ble_eq_true rfl) (Nat.le_refl 0) (Nat.le_refl 0) (fun r_2 U_1 h H hU => ?_)
  refine pr_if_ne hC 33 (by decide +kernel : decode cX12_isName 26 = .ok (.ifCond .ne 7, 3)) (by decide) (fun c_26 => ?_) (fun c_26 => ?_)
  · replace H := H.2 c_26
    refine pr_iconst hC (0) (by decide +kernel : decode cX12_isName 33 = .ok (.iconst 0, 1)) rfl ?_
    exact pv_zret hM (by decide +kernel : decode cX12_isName 34 = .ok (.ireturn, 1)) (Or.inl rfl) hU H
  replace H := H.1 c_26
  refine pr_iconst hC (1) (by decide +kernel : decode cX12_isName 29 = .ok (.iconst 1, 1)) rfl ?_
  refine pr_goto hC 34 (by decide +kernel : decode cX12_isName 30 = .ok (.goto 4, 3)) (by decide) ?_
  exact pv_zret hM (by decide +kernel : decode cX12_isName 34 = .ok (.ireturn, 1)) (Or.inr rfl) hU H
def w_X12_takes (o : Nat) (a1 : Nat) (U : Um) (post : Int32 → Um → Prop) : Prop :=
  w_X12_isWord o a1 U (fun r_2 U_1 => (r_2 = 0 → w_X12_fails o 1 U_1 (fun r_4 U_3 => (r_4 = 0 ∨ r_4 = 1) ∧ post r_4 U_3)) ∧ (¬ r_2 = 0 → w_X12_next o U_1 (fun U_5 => post 1 U_5)))
set_option maxHeartbeats 4000000 in
theorem t_X12_takes {l : Launch} {Y : px_Y} {o : Nat} {a1 : Nat} {U : Um} {post : Int32 → Um → Prop} (ho : oc o = 10) (ha1 : a1 < 23) (H : w_X12_takes o a1 U post) : um l Y 6 yX12_takes cX12_takes 2 (some (.boolean)) [.ref (Y.2.1 o), .ref (Y.1.2.2 (200 + a1))] U (pq_i post) := by
  unfold w_X12_takes at H
  refine um_of (by decide) (Nat.le_of_ble_eq_true rfl) [some (.ref (Y.2.1 o)), some (.ref (Y.1.2.2 (200 + a1)))] rfl (fun X h0 hh sz hM hU => ?_)
  have hC := hM.1
  have hR := hM.2.2.1
  refine pr_aload_n hC (by decide +kernel : decode cX12_takes 0 = .ok (.aload_n 0, 1)) rfl ?_
  refine pr_aload_n hC (by decide +kernel : decode cX12_takes 1 = .ok (.aload_n 1, 1)) rfl ?_
  refine vc_Vi hC hR [.ref (Y.1.2.2 (200 + a1))] fv_X12_192 (by decide +kernel : decode cX12_takes 2 = .ok (.invokevirtual 192, 3)) hU (t_X12_isWord ho ha1 H) ho (by decide) rfl rfl rfl (Nat.le_of_ble_eq_true rfl) (Nat.le_of_ble_eq_true rfl) (Nat.le_refl 0) (Nat.le_refl 0) (fun r_2 U_1 h H hU => ?_)
  refine pr_if_ne hC 14 (by decide +kernel : decode cX12_takes 5 = .ok (.ifCond .ne 9, 3)) (by decide) (fun c_5 => ?_) (fun c_5 => ?_)
  · replace H := H.2 c_5
    refine pr_aload_n hC (by decide +kernel : decode cX12_takes 14 = .ok (.aload_n 0, 1)) rfl ?_
    refine vc_Vv hC hR [] fv_X12_242 (by decide +kernel : decode cX12_takes 15 = .ok (.invokevirtual 242, 3)) hU (t_X12_next ho H) ho (by decide) rfl rfl rfl (Nat.le_of_ble_eq_true rfl) (Nat.le_of_ble_eq_true rfl) (Nat.le_refl 0) (Nat.le_refl 0) (fun U_5 h H hU => ?_)
    refine pr_iconst hC (1) (by decide +kernel : decode cX12_takes 18 = .ok (.iconst 1, 1)) rfl ?_
    exact pv_zret hM (by decide +kernel : decode cX12_takes 19 = .ok (.ireturn, 1)) (Or.inr rfl) hU H
  replace H := H.1 c_5
  refine pr_aload_n hC (by decide +kernel : decode cX12_takes 8 = .ok (.aload_n 0, 1)) rfl ?_
  refine pr_iconst hC (1) (by decide +kernel : decode cX12_takes 9 = .ok (.iconst 1, 1)) rfl ?_
  refine vc_Vi hC hR [.int 1] fv_X12_238 (by decide +kernel : decode cX12_takes 10 = .ok (.invokevirtual 238, 3)) hU (t_X12_fails ho H) ho (by decide) rfl rfl rfl (Nat.le_of_ble_eq_true rfl) (Nat.le_of_ble_eq_true rfl) (Nat.le_refl 0) (Nat.le_refl 0) (fun r_4 U_3 h H hU => ?_)
  exact pv_zret hM (by decide +kernel : decode cX12_takes 13 = .ok (.ireturn, 1)) H.1 hU H.2
def w_X12_readNumber (o : Nat) (a1 : Int32) (a2 : Int32) (U : Um) (post : Int32 → Um → Prop) : Prop :=
  (∀ K_1 : Prop, ((w_X12_fails o 1 U (fun r_3 U_2 => (r_3 = 0 ∨ r_3 = 1) ∧ post r_3 U_2)) → K_1 ) → ((uI U o 22) = 2 → (((uI U o 24) - (uI U o 23)) ≤ 4 → w_X12_isIn (Int32.toInt64 (uI U o 26)) (Int32.toInt64 a1) (Int32.toInt64 a2) U (fun r_5 U_4 => (r_5 = 0 → w_X12_fails o 2 U_4 (fun r_7 U_6 => (r_7 = 0 ∨ r_7 = 1) ∧ post r_7 U_6)) ∧ (¬ r_5 = 0 → ∀ (U_8 : Um), U_8 = sI U_4 o 28 (uI U_4 o 26) → w_X12_next o U_8 (fun U_9 => post 1 U_9)))) ∧ (¬ ((uI U o 24) - (uI U o 23)) ≤ 4 → K_1)) ∧ (¬ (uI U o 22) = 2 → K_1))
set_option maxHeartbeats 4000000 in
theorem t_X12_readNumber {l : Launch} {Y : px_Y} {o : Nat} {a1 : Int32} {a2 : Int32} {U : Um} {post : Int32 → Um → Prop} (ho : oc o = 10) (H : w_X12_readNumber o a1 a2 U post) : um l Y 2 yX12_readNumber cX12_readNumber 3 (some (.boolean)) [.ref (Y.2.1 o), .int a1, .int a2] U (pq_i post) := by
  unfold w_X12_readNumber at H
  refine um_of (by decide) (Nat.le_of_ble_eq_true rfl) [some (.ref (Y.2.1 o)), some (.int a1), some (.int a2)] rfl (fun X h0 hh sz hM hU => ?_)
  have hC := hM.1
  have hR := hM.2.2.1
  refine pr_aload_n hC (by decide +kernel : decode cX12_readNumber 0 = .ok (.aload_n 0, 1)) rfl ?_
  refine pu_g0 hC fg_X12_155 (by decide +kernel : decode cX12_readNumber 1 = .ok (.getfield 155, 3)) hU ho (by decide) rfl rfl ?_
  refine pr_iconst hC (2) (by decide +kernel : decode cX12_readNumber 4 = .ok (.iconst 2, 1)) rfl ?_
  replace H := H (pw X Y.1 (pm_A hh sz) (pm_E X Y.1 hh sz 0 0 (pm_P Y h0 sz (pq_i post))) 21 [some (.ref (Y.2.1 o)), none, none] [] hh sz 0 0) (by
    intro  H
    refine pr_aload_n hC (by decide +kernel : decode cX12_readNumber 21 = .ok (.aload_n 0, 1)) rfl ?_
    refine pr_iconst hC (1) (by decide +kernel : decode cX12_readNumber 22 = .ok (.iconst 1, 1)) rfl ?_
    refine vc_Vi hC hR [.int 1] fv_X12_238 (by decide +kernel : decode cX12_readNumber 23 = .ok (.invokevirtual 238, 3)) hU (t_X12_fails ho H) ho (by decide) rfl rfl rfl (Nat.le_of_ble_eq_true rfl) (Nat.le_of_ble_eq_true rfl) (Nat.le_refl 0) (Nat.le_refl 0) (fun r_3 U_2 h H hU => ?_)
    exact pv_zret hM (by decide +kernel : decode cX12_readNumber 26 = .ok (.ireturn, 1)) H.1 hU H.2)
  refine pr_icmp_ne hC 21 (by decide +kernel : decode cX12_readNumber 5 = .ok (.if_icmp .ne 16, 3)) (by decide) (fun c_5 => ?_) (fun c_5 => ?_)
  · replace H := H.2 c_5
    exact pv_sub [some (.ref (Y.2.1 o)), none, none] (And.intro rfl trivial) (H )
  replace H := H.1 c_5
  refine pr_aload_n hC (by decide +kernel : decode cX12_readNumber 8 = .ok (.aload_n 0, 1)) rfl ?_
  refine pu_g0 hC fg_X12_135 (by decide +kernel : decode cX12_readNumber 9 = .ok (.getfield 135, 3)) hU ho (by decide) rfl rfl ?_
  refine pr_aload_n hC (by decide +kernel : decode cX12_readNumber 12 = .ok (.aload_n 0, 1)) rfl ?_
  refine pu_g0 hC fg_X12_142 (by decide +kernel : decode cX12_readNumber 13 = .ok (.getfield 142, 3)) hU ho (by decide) rfl rfl ?_
  refine pr_isub hC (by decide +kernel : decode cX12_readNumber 16 = .ok (.isub, 1)) ?_
  refine pr_iconst hC (4) (by decide +kernel : decode cX12_readNumber 17 = .ok (.iconst 4, 1)) rfl ?_
  refine pr_icmp_le hC 27 (by decide +kernel : decode cX12_readNumber 18 = .ok (.if_icmp .le 9, 3)) (by decide) (fun c_18 => ?_) (fun c_18 => ?_)
  · replace H := H.1 c_18
    refine pr_aload_n hC (by decide +kernel : decode cX12_readNumber 27 = .ok (.aload_n 0, 1)) rfl ?_
    refine pu_g0 hC fg_X12_149 (by decide +kernel : decode cX12_readNumber 28 = .ok (.getfield 149, 3)) hU ho (by decide) rfl rfl ?_
    refine pr_i2l hC (by decide +kernel : decode cX12_readNumber 31 = .ok (.i2l, 1)) ?_
    refine pr_iload_n hC (by decide +kernel : decode cX12_readNumber 32 = .ok (.iload_n 1, 1)) rfl ?_
    refine pr_i2l hC (by decide +kernel : decode cX12_readNumber 33 = .ok (.i2l, 1)) ?_
    refine pr_iload_n hC (by decide +kernel : decode cX12_readNumber 34 = .ok (.iload_n 2, 1)) rfl ?_
    refine pr_i2l hC (by decide +kernel : decode cX12_readNumber 35 = .ok (.i2l, 1)) ?_
    refine vc_Si hC hR [.long (Int32.toInt64 (uI U o 26)), .long (Int32.toInt64 a1), .long (Int32.toInt64 a2)] fv_X12_131 (by decide +kernel : decode cX12_readNumber 36 = .ok (.invokestatic 131, 3)) hU (t_X12_isIn  H) rfl rfl (Nat.le_of_ble_eq_true rfl) (Nat.le_of_ble_eq_true rfl) (Nat.le_refl 0) (Nat.le_refl 0) (fun r_5 U_4 h H hU => ?_)
    refine pr_if_ne hC 48 (by decide +kernel : decode cX12_readNumber 39 = .ok (.ifCond .ne 9, 3)) (by decide) (fun c_39 => ?_) (fun c_39 => ?_)
    · replace H := H.2 c_39
      refine pr_aload_n hC (by decide +kernel : decode cX12_readNumber 48 = .ok (.aload_n 0, 1)) rfl ?_
      refine pr_aload_n hC (by decide +kernel : decode cX12_readNumber 49 = .ok (.aload_n 0, 1)) rfl ?_
      refine pu_g0 hC fg_X12_149 (by decide +kernel : decode cX12_readNumber 50 = .ok (.getfield 149, 3)) hU ho (by decide) rfl rfl ?_
      refine pv_p0 hC fp_X12_245 (by decide +kernel : decode cX12_readNumber 53 = .ok (.putfield 245, 3)) hU ho (by decide) rfl rfl rfl rfl (fun U_8 h e_U_8 hU => ?_)
      replace H := H U_8 e_U_8
      refine pr_aload_n hC (by decide +kernel : decode cX12_readNumber 56 = .ok (.aload_n 0, 1)) rfl ?_
      refine vc_Vv hC hR [] fv_X12_242 (by decide +kernel : decode cX12_readNumber 57 = .ok (.invokevirtual 242, 3)) hU (t_X12_next ho H) ho (by decide) rfl rfl rfl (Nat.le_of_ble_eq_true rfl) (Nat.le_of_ble_eq_true rfl) (Nat.le_refl 0) (Nat.le_refl 0) (fun U_9 h H hU => ?_)
      refine pr_iconst hC (1) (by decide +kernel : decode cX12_readNumber 60 = .ok (.iconst 1, 1)) rfl ?_
      exact pv_zret hM (by decide +kernel : decode cX12_readNumber 61 = .ok (.ireturn, 1)) (Or.inr rfl) hU H
    replace H := H.1 c_39
    refine pr_aload_n hC (by decide +kernel : decode cX12_readNumber 42 = .ok (.aload_n 0, 1)) rfl ?_
    refine pr_iconst hC (2) (by decide +kernel : decode cX12_readNumber 43 = .ok (.iconst 2, 1)) rfl ?_
    refine vc_Vi hC hR [.int 2] fv_X12_238 (by decide +kernel : decode cX12_readNumber 44 = .ok (.invokevirtual 238, 3)) hU (t_X12_fails ho H) ho (by decide) rfl rfl rfl (Nat.le_of_ble_eq_true rfl) (Nat.le_of_ble_eq_true rfl) (Nat.le_refl 0) (Nat.le_refl 0) (fun r_7 U_6 h H hU => ?_)
    exact pv_zret hM (by decide +kernel : decode cX12_readNumber 47 = .ok (.ireturn, 1)) H.1 hU H.2
  replace H := H.2 c_18
  exact pv_sub [some (.ref (Y.2.1 o)), none, none] (And.intro rfl trivial) (H )
def w_X12_readAfter (o : Nat) (a1 : Nat) (a2 : Int32) (a3 : Int32) (U : Um) (post : Int32 → Um → Prop) : Prop :=
  w_X12_takes o a1 U (fun r_2 U_1 => (r_2 = 0 → post 0 U_1) ∧ (¬ r_2 = 0 → w_X12_readNumber o a2 a3 U_1 (fun r_4 U_3 => (r_4 = 0 → post 0 U_3) ∧ (¬ r_4 = 0 → post 1 U_3))))
set_option maxHeartbeats 4000000 in
theorem t_X12_readAfter {l : Launch} {Y : px_Y} {o : Nat} {a1 : Nat} {a2 : Int32} {a3 : Int32} {U : Um} {post : Int32 → Um → Prop} (ho : oc o = 10) (ha1 : a1 < 23) (H : w_X12_readAfter o a1 a2 a3 U post) : um l Y 7 yX12_readAfter cX12_readAfter 4 (some (.boolean)) [.ref (Y.2.1 o), .ref (Y.1.2.2 (200 + a1)), .int a2, .int a3] U (pq_i post) := by
  unfold w_X12_readAfter at H
  refine um_of (by decide) (Nat.le_of_ble_eq_true rfl) [some (.ref (Y.2.1 o)), some (.ref (Y.1.2.2 (200 + a1))), some (.int a2), some (.int a3)] rfl (fun X h0 hh sz hM hU => ?_)
  have hC := hM.1
  have hR := hM.2.2.1
  refine pr_aload_n hC (by decide +kernel : decode cX12_readAfter 0 = .ok (.aload_n 0, 1)) rfl ?_
  refine pr_aload_n hC (by decide +kernel : decode cX12_readAfter 1 = .ok (.aload_n 1, 1)) rfl ?_
  refine vc_Vi hC hR [.ref (Y.1.2.2 (200 + a1))] fv_X12_248 (by decide +kernel : decode cX12_readAfter 2 = .ok (.invokevirtual 248, 3)) hU (t_X12_takes ho ha1 H) ho (by decide) rfl rfl rfl (Nat.le_of_ble_eq_true rfl) (Nat.le_of_ble_eq_true rfl) (Nat.le_refl 0) (Nat.le_refl 0) (fun r_2 U_1 h H hU => ?_)
  refine pr_if_eq hC 21 (by decide +kernel : decode cX12_readAfter 5 = .ok (.ifCond .eq 16, 3)) (by decide) (fun c_5 => ?_) (fun c_5 => ?_)
  · replace H := H.1 c_5
    refine pr_iconst hC (0) (by decide +kernel : decode cX12_readAfter 21 = .ok (.iconst 0, 1)) rfl ?_
    exact pv_zret hM (by decide +kernel : decode cX12_readAfter 22 = .ok (.ireturn, 1)) (Or.inl rfl) hU H
  replace H := H.2 c_5
  refine pr_aload_n hC (by decide +kernel : decode cX12_readAfter 8 = .ok (.aload_n 0, 1)) rfl ?_
  refine pr_iload_n hC (by decide +kernel : decode cX12_readAfter 9 = .ok (.iload_n 2, 1)) rfl ?_
  refine pr_iload_n hC (by decide +kernel : decode cX12_readAfter 10 = .ok (.iload_n 3, 1)) rfl ?_
  refine vc_Vi hC hR [.int a2, .int a3] fv_X12_251 (by decide +kernel : decode cX12_readAfter 11 = .ok (.invokevirtual 251, 3)) hU (t_X12_readNumber ho H) ho (by decide) rfl rfl rfl (Nat.le_of_ble_eq_true rfl) (Nat.le_of_ble_eq_true rfl) (Nat.le_refl 0) (Nat.le_refl 0) (fun r_4 U_3 h H hU => ?_)
  refine pr_if_eq hC 21 (by decide +kernel : decode cX12_readAfter 14 = .ok (.ifCond .eq 7, 3)) (by decide) (fun c_14 => ?_) (fun c_14 => ?_)
  · replace H := H.1 c_14
    refine pr_iconst hC (0) (by decide +kernel : decode cX12_readAfter 21 = .ok (.iconst 0, 1)) rfl ?_
    exact pv_zret hM (by decide +kernel : decode cX12_readAfter 22 = .ok (.ireturn, 1)) (Or.inl rfl) hU H
  replace H := H.2 c_14
  refine pr_iconst hC (1) (by decide +kernel : decode cX12_readAfter 17 = .ok (.iconst 1, 1)) rfl ?_
  refine pr_goto hC 22 (by decide +kernel : decode cX12_readAfter 18 = .ok (.goto 4, 3)) (by decide) ?_
  exact pv_zret hM (by decide +kernel : decode cX12_readAfter 22 = .ok (.ireturn, 1)) (Or.inr rfl) hU H
def b_X12_placeOf_L3 (k0o : Nat) (k0 : Nat) (x1 : Int32) (x2 : Int32) (x3 : Int64) (post : Int32 → Um → Prop) (k_29 : Um → Prop) (rec_ : Int32 → Um → Prop) (x5 : Int32) (U : Um) : Prop :=
  (x2 ≤ x5 → k_29 U) ∧ (¬ x2 ≤ x5 → vp_in (x1 + x5) (ln 10 k0) ∧ ((lg_cmp (uJ U k0o k0 (Int32.toNatClampNeg (x1 + x5))) x3) = 0 → post x5 U) ∧ (¬ (lg_cmp (uJ U k0o k0 (Int32.toNatClampNeg (x1 + x5))) x3) = 0 → ∀ (x5_1 : Int32), x5_1 = x5 + 1 → rec_ x5_1 U))
def w_X12_placeOf_L3 (k0o : Nat) (k0 : Nat) (x1 : Int32) (x2 : Int32) (x3 : Int64) (post : Int32 → Um → Prop) (k_29 : Um → Prop) (n_ : Nat) : Int32 → Um → Prop := Nat.rec (motive := fun _ => Int32 → Um → Prop) (fun _ _ => False) (fun _ ih => b_X12_placeOf_L3 k0o k0 x1 x2 x3 post k_29 ih) n_
def w_X12_placeOf (a1o : Nat) (a1 : Nat) (a2 : Int32) (a3 : Int32) (a4 : Int64) (U : Um) (post : Int32 → Um → Prop) : Prop :=
  (∃ n_3, w_X12_placeOf_L3 a1o a1 a2 a3 a4 post (fun U_2 => post (-1) U_2) n_3 0 U)
set_option maxHeartbeats 4000000 in
theorem tl_X12_placeOf_L3 {l : Launch} {Y : px_Y} {X : px_X} {h0 hh : pe_H} {sz : Nat} (k0o : Nat) (k0 : Nat) (x1 : Int32) (x2 : Int32) (x3 : Int64) (post : Int32 → Um → Prop) (k_29 : Um → Prop) (hk0o : oc k0o = 10) (hk0 : kf 10 k0 = 2)  (hC : px_C X Y.1 (pm_A hh sz) cX12_placeOf RX12 6) (hM : px_M l X Y.1 hh sz yX12_placeOf cX12_placeOf 6 (some (.int)) 0 0 0) (hR : X.2.2.2.1 = pm_rm 0 0 0) (hk_29 : ∀ (U : Um) (h : pe_H), k_29 U → rF Y h0 U h → pw X Y.1 (pm_A hh sz) (pm_E X Y.1 hh sz 0 0 (pm_P Y h0 sz (pq_i post))) 29 [none, none, none, none, none, none] [] h sz 0 0) : ∀ (n_ : Nat) (x5 : Int32) (U : Um) (h : pe_H), rF Y h0 U h → w_X12_placeOf_L3 k0o k0 x1 x2 x3 post k_29 n_ x5 U → pw X Y.1 (pm_A hh sz) (pm_E X Y.1 hh sz 0 0 (pm_P Y h0 sz (pq_i post))) 3 [some (.ref (Y.2.2 k0o k0)), some (.int x1), some (.int x2), some (.long x3), none, some (.int x5)] [] h sz 0 0 := by
  intro n_
  induction n_ with
  | zero => intro x5 U h hU H; exact False.elim H
  | succ n_ ih =>
    intro x5 U h hU H
    replace H : b_X12_placeOf_L3 k0o k0 x1 x2 x3 post k_29 (w_X12_placeOf_L3 k0o k0 x1 x2 x3 post k_29 n_) x5 U := H
    unfold b_X12_placeOf_L3 at H
    refine pr_iload hC (by decide +kernel : decode cX12_placeOf 3 = .ok (.iload 5, 2)) rfl ?_
    refine pr_iload_n hC (by decide +kernel : decode cX12_placeOf 5 = .ok (.iload_n 2, 1)) rfl ?_
    refine pr_icmp_ge hC 29 (by decide +kernel : decode cX12_placeOf 6 = .ok (.if_icmp .ge 23, 3)) (by decide) (fun c_6 => ?_) (fun c_6 => ?_)
    · replace H := H.1 c_6
      exact pv_sub [none, none, none, none, none, none] (trivial) (hk_29 U h H hU)
    replace H := H.2 c_6
    refine pr_aload_n hC (by decide +kernel : decode cX12_placeOf 9 = .ok (.aload_n 0, 1)) rfl ?_
    refine pr_iload_n hC (by decide +kernel : decode cX12_placeOf 10 = .ok (.iload_n 1, 1)) rfl ?_
    refine pr_iload hC (by decide +kernel : decode cX12_placeOf 11 = .ok (.iload 5, 2)) rfl ?_
    refine pr_iadd hC (by decide +kernel : decode cX12_placeOf 13 = .ok (.iadd, 1)) ?_
    refine pu_lald hC (by decide +kernel : decode cX12_placeOf 14 = .ok (.laload, 1)) hU hk0o hk0 H.1 ?_
    replace H := H.2
    refine pr_lload_n hC (by decide +kernel : decode cX12_placeOf 15 = .ok (.lload_n 3, 1)) rfl ?_
    refine pr_lcmp hC (by decide +kernel : decode cX12_placeOf 16 = .ok (.lcmp, 1)) ?_
    refine pr_if_ne hC 23 (by decide +kernel : decode cX12_placeOf 17 = .ok (.ifCond .ne 6, 3)) (by decide) (fun c_17 => ?_) (fun c_17 => ?_)
    · replace H := H.2 c_17
      refine pv_iinc hC (v := x5 + 1) (by decide +kernel : decode cX12_placeOf 23 = .ok (.iinc 5 1, 3)) rfl (by decide) rfl rfl (fun x5_1 e_x5_1 => ?_)
      replace H := H x5_1 e_x5_1
      refine pr_goto hC 3 (by decide +kernel : decode cX12_placeOf 26 = .ok (.goto (-23), 3)) (by decide) ?_
      exact pv_sub [some (.ref (Y.2.2 k0o k0)), some (.int x1), some (.int x2), some (.long x3), none, some (.int x5_1)] (And.intro rfl (And.intro rfl (And.intro rfl (And.intro rfl (And.intro rfl trivial))))) (ih _ U h hU H)
    replace H := H.1 c_17
    refine pr_iload hC (by decide +kernel : decode cX12_placeOf 20 = .ok (.iload 5, 2)) rfl ?_
    exact pv_iret hM (by decide +kernel : decode cX12_placeOf 22 = .ok (.ireturn, 1)) hU H
set_option maxHeartbeats 4000000 in
theorem t_X12_placeOf {l : Launch} {Y : px_Y} {a1o : Nat} {a1 : Nat} {a2 : Int32} {a3 : Int32} {a4 : Int64} {U : Um} {post : Int32 → Um → Prop} (ha1o : oc a1o = 10) (ha1 : kf 10 a1 = 2) (H : w_X12_placeOf a1o a1 a2 a3 a4 U post) : um l Y 0 yX12_placeOf cX12_placeOf 6 (some (.int)) [.ref (Y.2.2 a1o a1), .int a2, .int a3, .long a4] U (pq_i post) := by
  unfold w_X12_placeOf at H
  refine um_of (by decide) (Nat.le_of_ble_eq_true rfl) [some (.ref (Y.2.2 a1o a1)), some (.int a2), some (.int a3), some (.long a4), none, none] rfl (fun X h0 hh sz hM hU => ?_)
  have hC := hM.1
  have hR := hM.2.2.1
  refine pr_iconst hC (0) (by decide +kernel : decode cX12_placeOf 0 = .ok (.iconst 0, 1)) rfl ?_
  refine pr_istore hC (by decide +kernel : decode cX12_placeOf 1 = .ok (.istore 5, 2)) (by decide) rfl ?_
  obtain ⟨n_3, H⟩ := H
  refine pv_sub [some (.ref (Y.2.2 a1o a1)), some (.int a2), some (.int a3), some (.long a4), none, some (.int 0)] (And.intro rfl (And.intro rfl (And.intro rfl (And.intro rfl (And.intro rfl trivial))))) ?_
  refine tl_X12_placeOf_L3 _ _ _ _ _ _ _ ha1o ha1 hC hM hR (fun U_2 h H hU => ?_) n_3 _ U hh hU H
  refine pr_iconst hC (-1) (by decide +kernel : decode cX12_placeOf 29 = .ok (.iconst (-1), 1)) rfl ?_
  exact pv_iret hM (by decide +kernel : decode cX12_placeOf 30 = .ok (.ireturn, 1)) hU H
def w_X12_isNew (o : Nat) (U : Um) (post : Int32 → Um → Prop) : Prop :=
  w_X12_isName o U (fun r_2 U_1 => (r_2 = 0 → w_X12_fails o 1 U_1 (fun r_4 U_3 => (r_4 = 0 ∨ r_4 = 1) ∧ post r_4 U_3)) ∧ (¬ r_2 = 0 → vp_in 7 14 ∧ w_X12_placeOf o 1 6 (uA U_1 o 11 (Int32.toNatClampNeg 7)) (uL U_1 o 25) U_1 (fun r_6 U_5 => (∀ K_7 : Int32 → Um → Prop, (∀ (xs_8 : Int32) (U_9 : Um), ((xs_8 = 0 → post 1 U_9) ∧ (¬ xs_8 = 0 → w_X12_fails o 3 U_9 (fun r_11 U_10 => (r_11 = 0 → post 0 U_10) ∧ (¬ r_11 = 0 → post 1 U_10)))) → K_7 xs_8 U_9) → (r_6 = (-1) → vp_in 8 14 ∧ w_X12_placeOf o 4 8 (uA U_5 o 11 (Int32.toNatClampNeg 8)) (uL U_5 o 25) U_5 (fun r_13 U_12 => (r_13 = (-1) → vp_in 9 14 ∧ w_X12_placeOf o 5 10 (uA U_12 o 11 (Int32.toNatClampNeg 9)) (uL U_12 o 25) U_12 (fun r_15 U_14 => (r_15 = (-1) → K_7 0 U_14) ∧ (¬ r_15 = (-1) → K_7 1 U_14))) ∧ (¬ r_13 = (-1) → K_7 1 U_12))) ∧ (¬ r_6 = (-1) → K_7 1 U_5)))))
set_option maxHeartbeats 4000000 in
theorem t_X12_isNew {l : Launch} {Y : px_Y} {o : Nat} {U : Um} {post : Int32 → Um → Prop} (ho : oc o = 10) (H : w_X12_isNew o U post) : um l Y 8 yX12_isNew cX12_isNew 2 (some (.boolean)) [.ref (Y.2.1 o)] U (pq_i post) := by
  unfold w_X12_isNew at H
  refine um_of (by decide) (Nat.le_of_ble_eq_true rfl) [some (.ref (Y.2.1 o)), none] rfl (fun X h0 hh sz hM hU => ?_)
  have hC := hM.1
  have hR := hM.2.2.1
  refine pr_aload_n hC (by decide +kernel : decode cX12_isNew 0 = .ok (.aload_n 0, 1)) rfl ?_
  refine vc_Vi hC hR [] fv_X12_255 (by decide +kernel : decode cX12_isNew 1 = .ok (.invokevirtual 255, 3)) hU (t_X12_isName ho H) ho (by decide) rfl rfl rfl (Nat.le_of_ble_eq_true rfl) (Nat.le_of_ble_eq_true rfl) (Nat.le_refl 0) (Nat.le_refl 0) (fun r_2 U_1 h H hU => ?_)
  refine pr_if_ne hC 13 (by decide +kernel : decode cX12_isNew 4 = .ok (.ifCond .ne 9, 3)) (by decide) (fun c_4 => ?_) (fun c_4 => ?_)
  · replace H := H.2 c_4
    refine pr_aload_n hC (by decide +kernel : decode cX12_isNew 13 = .ok (.aload_n 0, 1)) rfl ?_
    refine pu_g1 hC fg_X12_9 (by decide +kernel : decode cX12_isNew 14 = .ok (.getfield 9, 3)) hU ho (by decide) rfl (by decide) ?_
    refine pr_bipush hC (6) (by decide +kernel : decode cX12_isNew 17 = .ok (.bipush 6, 2)) rfl ?_
    refine pr_aload_n hC (by decide +kernel : decode cX12_isNew 19 = .ok (.aload_n 0, 1)) rfl ?_
    refine pu_g1 hC fg_X12_43 (by decide +kernel : decode cX12_isNew 20 = .ok (.getfield 43, 3)) hU ho (by decide) rfl (by decide) ?_
    refine pr_bipush hC (7) (by decide +kernel : decode cX12_isNew 23 = .ok (.bipush 7, 2)) rfl ?_
    refine pu_iald hC (by decide +kernel : decode cX12_isNew 25 = .ok (.iaload, 1)) hU ho rfl H.1 ?_
    replace H := H.2
    refine pr_aload_n hC (by decide +kernel : decode cX12_isNew 26 = .ok (.aload_n 0, 1)) rfl ?_
    refine pu_g20 hC fg_X12_145 (by decide +kernel : decode cX12_isNew 27 = .ok (.getfield 145, 3)) hU ho (by decide) rfl rfl ?_
    refine vc_Si hC hR [.ref (Y.2.2 o 1), .int 6, .int (uA U_1 o 11 (Int32.toNatClampNeg 7)), .long (uL U_1 o 25)] fv_X12_258 (by decide +kernel : decode cX12_isNew 30 = .ok (.invokestatic 258, 3)) hU (t_X12_placeOf ho (rfl : kf 10 1 = 2) H) rfl rfl (Nat.le_of_ble_eq_true rfl) (Nat.le_of_ble_eq_true rfl) (Nat.le_refl 0) (Nat.le_refl 0) (fun r_6 U_5 h H hU => ?_)
    refine pr_iconst hC (-1) (by decide +kernel : decode cX12_isNew 33 = .ok (.iconst (-1), 1)) rfl ?_
    replace H := H (fun xs_8 U_9 => ∀ h : pe_H, rF Y h0 U_9 h → pw X Y.1 (pm_A hh sz) (pm_E X Y.1 hh sz 0 0 (pm_P Y h0 sz (pq_i post))) 90 [some (.ref (Y.2.1 o)), none] [.int xs_8] h sz 0 0) (by
      intro xs_8 U_9 H h hU
      refine pr_istore_n hC (by decide +kernel : decode cX12_isNew 90 = .ok (.istore_n 1, 1)) (by decide) rfl ?_
      refine pr_iload_n hC (by decide +kernel : decode cX12_isNew 91 = .ok (.iload_n 1, 1)) rfl ?_
      refine pr_if_eq hC 103 (by decide +kernel : decode cX12_isNew 92 = .ok (.ifCond .eq 11, 3)) (by decide) (fun c_92 => ?_) (fun c_92 => ?_)
      · replace H := H.1 c_92
        refine pr_iconst hC (1) (by decide +kernel : decode cX12_isNew 103 = .ok (.iconst 1, 1)) rfl ?_
        refine pr_goto hC 108 (by decide +kernel : decode cX12_isNew 104 = .ok (.goto 4, 3)) (by decide) ?_
        exact pv_zret hM (by decide +kernel : decode cX12_isNew 108 = .ok (.ireturn, 1)) (Or.inr rfl) hU H
      replace H := H.2 c_92
      refine pr_aload_n hC (by decide +kernel : decode cX12_isNew 95 = .ok (.aload_n 0, 1)) rfl ?_
      refine pr_iconst hC (3) (by decide +kernel : decode cX12_isNew 96 = .ok (.iconst 3, 1)) rfl ?_
      refine vc_Vi hC hR [.int 3] fv_X12_238 (by decide +kernel : decode cX12_isNew 97 = .ok (.invokevirtual 238, 3)) hU (t_X12_fails ho H) ho (by decide) rfl rfl rfl (Nat.le_of_ble_eq_true rfl) (Nat.le_of_ble_eq_true rfl) (Nat.le_refl 0) (Nat.le_refl 0) (fun r_11 U_10 h H hU => ?_)
      refine pr_if_eq hC 107 (by decide +kernel : decode cX12_isNew 100 = .ok (.ifCond .eq 7, 3)) (by decide) (fun c_100 => ?_) (fun c_100 => ?_)
      · replace H := H.1 c_100
        refine pr_iconst hC (0) (by decide +kernel : decode cX12_isNew 107 = .ok (.iconst 0, 1)) rfl ?_
        exact pv_zret hM (by decide +kernel : decode cX12_isNew 108 = .ok (.ireturn, 1)) (Or.inl rfl) hU H
      replace H := H.2 c_100
      refine pr_iconst hC (1) (by decide +kernel : decode cX12_isNew 103 = .ok (.iconst 1, 1)) rfl ?_
      refine pr_goto hC 108 (by decide +kernel : decode cX12_isNew 104 = .ok (.goto 4, 3)) (by decide) ?_
      exact pv_zret hM (by decide +kernel : decode cX12_isNew 108 = .ok (.ireturn, 1)) (Or.inr rfl) hU H)
    refine pr_icmp_ne hC 85 (by decide +kernel : decode cX12_isNew 34 = .ok (.if_icmp .ne 51, 3)) (by decide) (fun c_34 => ?_) (fun c_34 => ?_)
    · replace H := H.2 c_34
      refine pr_iconst hC (1) (by decide +kernel : decode cX12_isNew 85 = .ok (.iconst 1, 1)) rfl ?_
      refine pr_goto hC 90 (by decide +kernel : decode cX12_isNew 86 = .ok (.goto 4, 3)) (by decide) ?_
      exact pv_sub [some (.ref (Y.2.1 o)), none] (And.intro rfl trivial) (H h hU)
    replace H := H.1 c_34
    refine pr_aload_n hC (by decide +kernel : decode cX12_isNew 37 = .ok (.aload_n 0, 1)) rfl ?_
    refine pu_g1 hC fg_X12_22 (by decide +kernel : decode cX12_isNew 38 = .ok (.getfield 22, 3)) hU ho (by decide) rfl (by decide) ?_
    refine pr_bipush hC (8) (by decide +kernel : decode cX12_isNew 41 = .ok (.bipush 8, 2)) rfl ?_
    refine pr_aload_n hC (by decide +kernel : decode cX12_isNew 43 = .ok (.aload_n 0, 1)) rfl ?_
    refine pu_g1 hC fg_X12_43 (by decide +kernel : decode cX12_isNew 44 = .ok (.getfield 43, 3)) hU ho (by decide) rfl (by decide) ?_
    refine pr_bipush hC (8) (by decide +kernel : decode cX12_isNew 47 = .ok (.bipush 8, 2)) rfl ?_
    refine pu_iald hC (by decide +kernel : decode cX12_isNew 49 = .ok (.iaload, 1)) hU ho rfl H.1 ?_
    replace H := H.2
    refine pr_aload_n hC (by decide +kernel : decode cX12_isNew 50 = .ok (.aload_n 0, 1)) rfl ?_
    refine pu_g20 hC fg_X12_145 (by decide +kernel : decode cX12_isNew 51 = .ok (.getfield 145, 3)) hU ho (by decide) rfl rfl ?_
    refine vc_Si hC hR [.ref (Y.2.2 o 4), .int 8, .int (uA U_5 o 11 (Int32.toNatClampNeg 8)), .long (uL U_5 o 25)] fv_X12_258 (by decide +kernel : decode cX12_isNew 54 = .ok (.invokestatic 258, 3)) hU (t_X12_placeOf ho (rfl : kf 10 4 = 2) H) rfl rfl (Nat.le_of_ble_eq_true rfl) (Nat.le_of_ble_eq_true rfl) (Nat.le_refl 0) (Nat.le_refl 0) (fun r_13 U_12 h H hU => ?_)
    refine pr_iconst hC (-1) (by decide +kernel : decode cX12_isNew 57 = .ok (.iconst (-1), 1)) rfl ?_
    refine pr_icmp_ne hC 85 (by decide +kernel : decode cX12_isNew 58 = .ok (.if_icmp .ne 27, 3)) (by decide) (fun c_58 => ?_) (fun c_58 => ?_)
    · replace H := H.2 c_58
      refine pr_iconst hC (1) (by decide +kernel : decode cX12_isNew 85 = .ok (.iconst 1, 1)) rfl ?_
      refine pr_goto hC 90 (by decide +kernel : decode cX12_isNew 86 = .ok (.goto 4, 3)) (by decide) ?_
      exact pv_sub [some (.ref (Y.2.1 o)), none] (And.intro rfl trivial) (H h hU)
    replace H := H.1 c_58
    refine pr_aload_n hC (by decide +kernel : decode cX12_isNew 61 = .ok (.aload_n 0, 1)) rfl ?_
    refine pu_g1 hC fg_X12_25 (by decide +kernel : decode cX12_isNew 62 = .ok (.getfield 25, 3)) hU ho (by decide) rfl (by decide) ?_
    refine pr_bipush hC (10) (by decide +kernel : decode cX12_isNew 65 = .ok (.bipush 10, 2)) rfl ?_
    refine pr_aload_n hC (by decide +kernel : decode cX12_isNew 67 = .ok (.aload_n 0, 1)) rfl ?_
    refine pu_g1 hC fg_X12_43 (by decide +kernel : decode cX12_isNew 68 = .ok (.getfield 43, 3)) hU ho (by decide) rfl (by decide) ?_
    refine pr_bipush hC (9) (by decide +kernel : decode cX12_isNew 71 = .ok (.bipush 9, 2)) rfl ?_
    refine pu_iald hC (by decide +kernel : decode cX12_isNew 73 = .ok (.iaload, 1)) hU ho rfl H.1 ?_
    replace H := H.2
    refine pr_aload_n hC (by decide +kernel : decode cX12_isNew 74 = .ok (.aload_n 0, 1)) rfl ?_
    refine pu_g20 hC fg_X12_145 (by decide +kernel : decode cX12_isNew 75 = .ok (.getfield 145, 3)) hU ho (by decide) rfl rfl ?_
    refine vc_Si hC hR [.ref (Y.2.2 o 5), .int 10, .int (uA U_12 o 11 (Int32.toNatClampNeg 9)), .long (uL U_12 o 25)] fv_X12_258 (by decide +kernel : decode cX12_isNew 78 = .ok (.invokestatic 258, 3)) hU (t_X12_placeOf ho (rfl : kf 10 5 = 2) H) rfl rfl (Nat.le_of_ble_eq_true rfl) (Nat.le_of_ble_eq_true rfl) (Nat.le_refl 0) (Nat.le_refl 0) (fun r_15 U_14 h H hU => ?_)
    refine pr_iconst hC (-1) (by decide +kernel : decode cX12_isNew 81 = .ok (.iconst (-1), 1)) rfl ?_
    refine pr_icmp_eq hC 89 (by decide +kernel : decode cX12_isNew 82 = .ok (.if_icmp .eq 7, 3)) (by decide) (fun c_82 => ?_) (fun c_82 => ?_)
    · replace H := H.1 c_82
      refine pr_iconst hC (0) (by decide +kernel : decode cX12_isNew 89 = .ok (.iconst 0, 1)) rfl ?_
      exact pv_sub [some (.ref (Y.2.1 o)), none] (And.intro rfl trivial) (H h hU)
    replace H := H.2 c_82
    refine pr_iconst hC (1) (by decide +kernel : decode cX12_isNew 85 = .ok (.iconst 1, 1)) rfl ?_
    refine pr_goto hC 90 (by decide +kernel : decode cX12_isNew 86 = .ok (.goto 4, 3)) (by decide) ?_
    exact pv_sub [some (.ref (Y.2.1 o)), none] (And.intro rfl trivial) (H h hU)
  replace H := H.1 c_4
  refine pr_aload_n hC (by decide +kernel : decode cX12_isNew 7 = .ok (.aload_n 0, 1)) rfl ?_
  refine pr_iconst hC (1) (by decide +kernel : decode cX12_isNew 8 = .ok (.iconst 1, 1)) rfl ?_
  refine vc_Vi hC hR [.int 1] fv_X12_238 (by decide +kernel : decode cX12_isNew 9 = .ok (.invokevirtual 238, 3)) hU (t_X12_fails ho H) ho (by decide) rfl rfl rfl (Nat.le_of_ble_eq_true rfl) (Nat.le_of_ble_eq_true rfl) (Nat.le_refl 0) (Nat.le_refl 0) (fun r_4 U_3 h H hU => ?_)
  exact pv_zret hM (by decide +kernel : decode cX12_isNew 12 = .ok (.ireturn, 1)) H.1 hU H.2
def w_X12_comesTo (o : Nat) (a1 : Int32) (U : Um) (post : Int32 → Um → Prop) : Prop :=
  w_X12_isName o U (fun r_2 U_1 => (r_2 = 0 → w_X12_fails o 1 U_1 (fun r_4 U_3 => (r_4 = 0 ∨ r_4 = 1) ∧ post r_4 U_3)) ∧ (¬ r_2 = 0 → (∀ K_5 : Int32 → Um → Prop, (∀ (xs_6 : Int32) (U_7 : Um), (∀ (U_8 : Um), U_8 = sI U_7 o 28 xs_6 → ((uI U_8 o 28) = (-1) → w_X12_fails o 3 U_8 (fun r_10 U_9 => (r_10 = 0 → post 0 U_9) ∧ (¬ r_10 = 0 → post 1 U_9))) ∧ (¬ (uI U_8 o 28) = (-1) → post 1 U_8)) → K_5 xs_6 U_7) → (a1 = 0 → vp_in 7 14 ∧ w_X12_placeOf o 1 6 (uA U_1 o 11 (Int32.toNatClampNeg 7)) (uL U_1 o 25) U_1 (fun r_12 U_11 => K_5 r_12 U_11)) ∧ (¬ a1 = 0 → (a1 = 1 → vp_in 8 14 ∧ w_X12_placeOf o 4 8 (uA U_1 o 11 (Int32.toNatClampNeg 8)) (uL U_1 o 25) U_1 (fun r_14 U_13 => K_5 r_14 U_13)) ∧ (¬ a1 = 1 → vp_in 9 14 ∧ w_X12_placeOf o 5 10 (uA U_1 o 11 (Int32.toNatClampNeg 9)) (uL U_1 o 25) U_1 (fun r_16 U_15 => K_5 r_16 U_15))))))
set_option maxHeartbeats 4000000 in
theorem t_X12_comesTo {l : Launch} {Y : px_Y} {o : Nat} {a1 : Int32} {U : Um} {post : Int32 → Um → Prop} (ho : oc o = 10) (H : w_X12_comesTo o a1 U post) : um l Y 8 yX12_comesTo cX12_comesTo 2 (some (.boolean)) [.ref (Y.2.1 o), .int a1] U (pq_i post) := by
  unfold w_X12_comesTo at H
  refine um_of (by decide) (Nat.le_of_ble_eq_true rfl) [some (.ref (Y.2.1 o)), some (.int a1)] rfl (fun X h0 hh sz hM hU => ?_)
  have hC := hM.1
  have hR := hM.2.2.1
  refine pr_aload_n hC (by decide +kernel : decode cX12_comesTo 0 = .ok (.aload_n 0, 1)) rfl ?_
  refine vc_Vi hC hR [] fv_X12_255 (by decide +kernel : decode cX12_comesTo 1 = .ok (.invokevirtual 255, 3)) hU (t_X12_isName ho H) ho (by decide) rfl rfl rfl (Nat.le_of_ble_eq_true rfl) (Nat.le_of_ble_eq_true rfl) (Nat.le_refl 0) (Nat.le_refl 0) (fun r_2 U_1 h H hU => ?_)
  refine pr_if_ne hC 13 (by decide +kernel : decode cX12_comesTo 4 = .ok (.ifCond .ne 9, 3)) (by decide) (fun c_4 => ?_) (fun c_4 => ?_)
  · replace H := H.2 c_4
    refine pr_aload_n hC (by decide +kernel : decode cX12_comesTo 13 = .ok (.aload_n 0, 1)) rfl ?_
    refine pr_iload_n hC (by decide +kernel : decode cX12_comesTo 14 = .ok (.iload_n 1, 1)) rfl ?_
    replace H := H (fun xs_6 U_7 => ∀ h : pe_H, rF Y h0 U_7 h → pw X Y.1 (pm_A hh sz) (pm_E X Y.1 hh sz 0 0 (pm_P Y h0 sz (pq_i post))) 89 [some (.ref (Y.2.1 o)), none] [.int xs_6, .ref (Y.2.1 o)] h sz 0 0) (by
      intro xs_6 U_7 H h hU
      refine pv_p0 hC fp_X12_245 (by decide +kernel : decode cX12_comesTo 89 = .ok (.putfield 245, 3)) hU ho (by decide) rfl rfl rfl rfl (fun U_8 h e_U_8 hU => ?_)
      replace H := H U_8 e_U_8
      refine pr_aload_n hC (by decide +kernel : decode cX12_comesTo 92 = .ok (.aload_n 0, 1)) rfl ?_
      refine pu_g0 hC fg_X12_245 (by decide +kernel : decode cX12_comesTo 93 = .ok (.getfield 245, 3)) hU ho (by decide) rfl rfl ?_
      refine pr_iconst hC (-1) (by decide +kernel : decode cX12_comesTo 96 = .ok (.iconst (-1), 1)) rfl ?_
      refine pr_icmp_ne hC 108 (by decide +kernel : decode cX12_comesTo 97 = .ok (.if_icmp .ne 11, 3)) (by decide) (fun c_97 => ?_) (fun c_97 => ?_)
      · replace H := H.2 c_97
        refine pr_iconst hC (1) (by decide +kernel : decode cX12_comesTo 108 = .ok (.iconst 1, 1)) rfl ?_
        refine pr_goto hC 113 (by decide +kernel : decode cX12_comesTo 109 = .ok (.goto 4, 3)) (by decide) ?_
        exact pv_zret hM (by decide +kernel : decode cX12_comesTo 113 = .ok (.ireturn, 1)) (Or.inr rfl) hU H
      replace H := H.1 c_97
      refine pr_aload_n hC (by decide +kernel : decode cX12_comesTo 100 = .ok (.aload_n 0, 1)) rfl ?_
      refine pr_iconst hC (3) (by decide +kernel : decode cX12_comesTo 101 = .ok (.iconst 3, 1)) rfl ?_
      refine vc_Vi hC hR [.int 3] fv_X12_238 (by decide +kernel : decode cX12_comesTo 102 = .ok (.invokevirtual 238, 3)) hU (t_X12_fails ho H) ho (by decide) rfl rfl rfl (Nat.le_of_ble_eq_true rfl) (Nat.le_of_ble_eq_true rfl) (Nat.le_refl 0) (Nat.le_refl 0) (fun r_10 U_9 h H hU => ?_)
      refine pr_if_eq hC 112 (by decide +kernel : decode cX12_comesTo 105 = .ok (.ifCond .eq 7, 3)) (by decide) (fun c_105 => ?_) (fun c_105 => ?_)
      · replace H := H.1 c_105
        refine pr_iconst hC (0) (by decide +kernel : decode cX12_comesTo 112 = .ok (.iconst 0, 1)) rfl ?_
        exact pv_zret hM (by decide +kernel : decode cX12_comesTo 113 = .ok (.ireturn, 1)) (Or.inl rfl) hU H
      replace H := H.2 c_105
      refine pr_iconst hC (1) (by decide +kernel : decode cX12_comesTo 108 = .ok (.iconst 1, 1)) rfl ?_
      refine pr_goto hC 113 (by decide +kernel : decode cX12_comesTo 109 = .ok (.goto 4, 3)) (by decide) ?_
      exact pv_zret hM (by decide +kernel : decode cX12_comesTo 113 = .ok (.ireturn, 1)) (Or.inr rfl) hU H)
    refine pr_if_ne hC 41 (by decide +kernel : decode cX12_comesTo 15 = .ok (.ifCond .ne 26, 3)) (by decide) (fun c_15 => ?_) (fun c_15 => ?_)
    · replace H := H.2 c_15
      refine pr_iload_n hC (by decide +kernel : decode cX12_comesTo 41 = .ok (.iload_n 1, 1)) rfl ?_
      refine pr_iconst hC (1) (by decide +kernel : decode cX12_comesTo 42 = .ok (.iconst 1, 1)) rfl ?_
      refine pr_icmp_ne hC 69 (by decide +kernel : decode cX12_comesTo 43 = .ok (.if_icmp .ne 26, 3)) (by decide) (fun c_43 => ?_) (fun c_43 => ?_)
      · replace H := H.2 c_43
        refine pr_aload_n hC (by decide +kernel : decode cX12_comesTo 69 = .ok (.aload_n 0, 1)) rfl ?_
        refine pu_g1 hC fg_X12_25 (by decide +kernel : decode cX12_comesTo 70 = .ok (.getfield 25, 3)) hU ho (by decide) rfl (by decide) ?_
        refine pr_bipush hC (10) (by decide +kernel : decode cX12_comesTo 73 = .ok (.bipush 10, 2)) rfl ?_
        refine pr_aload_n hC (by decide +kernel : decode cX12_comesTo 75 = .ok (.aload_n 0, 1)) rfl ?_
        refine pu_g1 hC fg_X12_43 (by decide +kernel : decode cX12_comesTo 76 = .ok (.getfield 43, 3)) hU ho (by decide) rfl (by decide) ?_
        refine pr_bipush hC (9) (by decide +kernel : decode cX12_comesTo 79 = .ok (.bipush 9, 2)) rfl ?_
        refine pu_iald hC (by decide +kernel : decode cX12_comesTo 81 = .ok (.iaload, 1)) hU ho rfl H.1 ?_
        replace H := H.2
        refine pr_aload_n hC (by decide +kernel : decode cX12_comesTo 82 = .ok (.aload_n 0, 1)) rfl ?_
        refine pu_g20 hC fg_X12_145 (by decide +kernel : decode cX12_comesTo 83 = .ok (.getfield 145, 3)) hU ho (by decide) rfl rfl ?_
        refine vc_Si hC hR [.ref (Y.2.2 o 5), .int 10, .int (uA U_1 o 11 (Int32.toNatClampNeg 9)), .long (uL U_1 o 25)] fv_X12_258 (by decide +kernel : decode cX12_comesTo 86 = .ok (.invokestatic 258, 3)) hU (t_X12_placeOf ho (rfl : kf 10 5 = 2) H) rfl rfl (Nat.le_of_ble_eq_true rfl) (Nat.le_of_ble_eq_true rfl) (Nat.le_refl 0) (Nat.le_refl 0) (fun r_16 U_15 h H hU => ?_)
        exact pv_sub [some (.ref (Y.2.1 o)), none] (And.intro rfl trivial) (H h hU)
      replace H := H.1 c_43
      refine pr_aload_n hC (by decide +kernel : decode cX12_comesTo 46 = .ok (.aload_n 0, 1)) rfl ?_
      refine pu_g1 hC fg_X12_22 (by decide +kernel : decode cX12_comesTo 47 = .ok (.getfield 22, 3)) hU ho (by decide) rfl (by decide) ?_
      refine pr_bipush hC (8) (by decide +kernel : decode cX12_comesTo 50 = .ok (.bipush 8, 2)) rfl ?_
      refine pr_aload_n hC (by decide +kernel : decode cX12_comesTo 52 = .ok (.aload_n 0, 1)) rfl ?_
      refine pu_g1 hC fg_X12_43 (by decide +kernel : decode cX12_comesTo 53 = .ok (.getfield 43, 3)) hU ho (by decide) rfl (by decide) ?_
      refine pr_bipush hC (8) (by decide +kernel : decode cX12_comesTo 56 = .ok (.bipush 8, 2)) rfl ?_
      refine pu_iald hC (by decide +kernel : decode cX12_comesTo 58 = .ok (.iaload, 1)) hU ho rfl H.1 ?_
      replace H := H.2
      refine pr_aload_n hC (by decide +kernel : decode cX12_comesTo 59 = .ok (.aload_n 0, 1)) rfl ?_
      refine pu_g20 hC fg_X12_145 (by decide +kernel : decode cX12_comesTo 60 = .ok (.getfield 145, 3)) hU ho (by decide) rfl rfl ?_
      refine vc_Si hC hR [.ref (Y.2.2 o 4), .int 8, .int (uA U_1 o 11 (Int32.toNatClampNeg 8)), .long (uL U_1 o 25)] fv_X12_258 (by decide +kernel : decode cX12_comesTo 63 = .ok (.invokestatic 258, 3)) hU (t_X12_placeOf ho (rfl : kf 10 4 = 2) H) rfl rfl (Nat.le_of_ble_eq_true rfl) (Nat.le_of_ble_eq_true rfl) (Nat.le_refl 0) (Nat.le_refl 0) (fun r_14 U_13 h H hU => ?_)
      refine pr_goto hC 89 (by decide +kernel : decode cX12_comesTo 66 = .ok (.goto 23, 3)) (by decide) ?_
      exact pv_sub [some (.ref (Y.2.1 o)), none] (And.intro rfl trivial) (H h hU)
    replace H := H.1 c_15
    refine pr_aload_n hC (by decide +kernel : decode cX12_comesTo 18 = .ok (.aload_n 0, 1)) rfl ?_
    refine pu_g1 hC fg_X12_9 (by decide +kernel : decode cX12_comesTo 19 = .ok (.getfield 9, 3)) hU ho (by decide) rfl (by decide) ?_
    refine pr_bipush hC (6) (by decide +kernel : decode cX12_comesTo 22 = .ok (.bipush 6, 2)) rfl ?_
    refine pr_aload_n hC (by decide +kernel : decode cX12_comesTo 24 = .ok (.aload_n 0, 1)) rfl ?_
    refine pu_g1 hC fg_X12_43 (by decide +kernel : decode cX12_comesTo 25 = .ok (.getfield 43, 3)) hU ho (by decide) rfl (by decide) ?_
    refine pr_bipush hC (7) (by decide +kernel : decode cX12_comesTo 28 = .ok (.bipush 7, 2)) rfl ?_
    refine pu_iald hC (by decide +kernel : decode cX12_comesTo 30 = .ok (.iaload, 1)) hU ho rfl H.1 ?_
    replace H := H.2
    refine pr_aload_n hC (by decide +kernel : decode cX12_comesTo 31 = .ok (.aload_n 0, 1)) rfl ?_
    refine pu_g20 hC fg_X12_145 (by decide +kernel : decode cX12_comesTo 32 = .ok (.getfield 145, 3)) hU ho (by decide) rfl rfl ?_
    refine vc_Si hC hR [.ref (Y.2.2 o 1), .int 6, .int (uA U_1 o 11 (Int32.toNatClampNeg 7)), .long (uL U_1 o 25)] fv_X12_258 (by decide +kernel : decode cX12_comesTo 35 = .ok (.invokestatic 258, 3)) hU (t_X12_placeOf ho (rfl : kf 10 1 = 2) H) rfl rfl (Nat.le_of_ble_eq_true rfl) (Nat.le_of_ble_eq_true rfl) (Nat.le_refl 0) (Nat.le_refl 0) (fun r_12 U_11 h H hU => ?_)
    refine pr_goto hC 89 (by decide +kernel : decode cX12_comesTo 38 = .ok (.goto 51, 3)) (by decide) ?_
    exact pv_sub [some (.ref (Y.2.1 o)), none] (And.intro rfl trivial) (H h hU)
  replace H := H.1 c_4
  refine pr_aload_n hC (by decide +kernel : decode cX12_comesTo 7 = .ok (.aload_n 0, 1)) rfl ?_
  refine pr_iconst hC (1) (by decide +kernel : decode cX12_comesTo 8 = .ok (.iconst 1, 1)) rfl ?_
  refine vc_Vi hC hR [.int 1] fv_X12_238 (by decide +kernel : decode cX12_comesTo 9 = .ok (.invokevirtual 238, 3)) hU (t_X12_fails ho H) ho (by decide) rfl rfl rfl (Nat.le_of_ble_eq_true rfl) (Nat.le_of_ble_eq_true rfl) (Nat.le_refl 0) (Nat.le_refl 0) (fun r_4 U_3 h H hU => ?_)
  exact pv_zret hM (by decide +kernel : decode cX12_comesTo 12 = .ok (.ireturn, 1)) H.1 hU H.2
def w_X12_readOne (o : Nat) (a1 : Int32) (U : Um) (post : Int32 → Um → Prop) : Prop :=
  w_X12_comesTo o a1 U (fun r_2 U_1 => (r_2 = 0 → post 0 U_1) ∧ (¬ r_2 = 0 → w_X12_next o U_1 (fun U_3 => post 1 U_3)))
set_option maxHeartbeats 4000000 in
theorem t_X12_readOne {l : Launch} {Y : px_Y} {o : Nat} {a1 : Int32} {U : Um} {post : Int32 → Um → Prop} (ho : oc o = 10) (H : w_X12_readOne o a1 U post) : um l Y 9 yX12_readOne cX12_readOne 2 (some (.boolean)) [.ref (Y.2.1 o), .int a1] U (pq_i post) := by
  unfold w_X12_readOne at H
  refine um_of (by decide) (Nat.le_of_ble_eq_true rfl) [some (.ref (Y.2.1 o)), some (.int a1)] rfl (fun X h0 hh sz hM hU => ?_)
  have hC := hM.1
  have hR := hM.2.2.1
  refine pr_aload_n hC (by decide +kernel : decode cX12_readOne 0 = .ok (.aload_n 0, 1)) rfl ?_
  refine pr_iload_n hC (by decide +kernel : decode cX12_readOne 1 = .ok (.iload_n 1, 1)) rfl ?_
  refine vc_Vi hC hR [.int a1] fv_X12_262 (by decide +kernel : decode cX12_readOne 2 = .ok (.invokevirtual 262, 3)) hU (t_X12_comesTo ho H) ho (by decide) rfl rfl rfl (Nat.le_of_ble_eq_true rfl) (Nat.le_of_ble_eq_true rfl) (Nat.le_refl 0) (Nat.le_refl 0) (fun r_2 U_1 h H hU => ?_)
  refine pr_if_ne hC 10 (by decide +kernel : decode cX12_readOne 5 = .ok (.ifCond .ne 5, 3)) (by decide) (fun c_5 => ?_) (fun c_5 => ?_)
  · replace H := H.2 c_5
    refine pr_aload_n hC (by decide +kernel : decode cX12_readOne 10 = .ok (.aload_n 0, 1)) rfl ?_
    refine vc_Vv hC hR [] fv_X12_242 (by decide +kernel : decode cX12_readOne 11 = .ok (.invokevirtual 242, 3)) hU (t_X12_next ho H) ho (by decide) rfl rfl rfl (Nat.le_of_ble_eq_true rfl) (Nat.le_of_ble_eq_true rfl) (Nat.le_refl 0) (Nat.le_refl 0) (fun U_3 h H hU => ?_)
    refine pr_iconst hC (1) (by decide +kernel : decode cX12_readOne 14 = .ok (.iconst 1, 1)) rfl ?_
    exact pv_zret hM (by decide +kernel : decode cX12_readOne 15 = .ok (.ireturn, 1)) (Or.inr rfl) hU H
  replace H := H.1 c_5
  refine pr_iconst hC (0) (by decide +kernel : decode cX12_readOne 8 = .ok (.iconst 0, 1)) rfl ?_
  exact pv_zret hM (by decide +kernel : decode cX12_readOne 9 = .ok (.ireturn, 1)) (Or.inl rfl) hU H
def w_X12_isFull (o : Nat) (a1 : Int32) (a2 : Int32) (U : Um) (post : Int32 → Um → Prop) : Prop :=
  vp_in (7 + a1) 14 ∧ (a2 ≤ (uA U o 11 (Int32.toNatClampNeg (7 + a1))) → w_X12_fails o 4 U (fun r_2 U_1 => post 1 U_1)) ∧ (¬ a2 ≤ (uA U o 11 (Int32.toNatClampNeg (7 + a1))) → post 0 U)
set_option maxHeartbeats 4000000 in
theorem t_X12_isFull {l : Launch} {Y : px_Y} {o : Nat} {a1 : Int32} {a2 : Int32} {U : Um} {post : Int32 → Um → Prop} (ho : oc o = 10) (H : w_X12_isFull o a1 a2 U post) : um l Y 1 yX12_isFull cX12_isFull 3 (some (.boolean)) [.ref (Y.2.1 o), .int a1, .int a2] U (pq_i post) := by
  unfold w_X12_isFull at H
  refine um_of (by decide) (Nat.le_of_ble_eq_true rfl) [some (.ref (Y.2.1 o)), some (.int a1), some (.int a2)] rfl (fun X h0 hh sz hM hU => ?_)
  have hC := hM.1
  have hR := hM.2.2.1
  refine pr_aload_n hC (by decide +kernel : decode cX12_isFull 0 = .ok (.aload_n 0, 1)) rfl ?_
  refine pu_g1 hC fg_X12_43 (by decide +kernel : decode cX12_isFull 1 = .ok (.getfield 43, 3)) hU ho (by decide) rfl (by decide) ?_
  refine pr_bipush hC (7) (by decide +kernel : decode cX12_isFull 4 = .ok (.bipush 7, 2)) rfl ?_
  refine pr_iload_n hC (by decide +kernel : decode cX12_isFull 6 = .ok (.iload_n 1, 1)) rfl ?_
  refine pr_iadd hC (by decide +kernel : decode cX12_isFull 7 = .ok (.iadd, 1)) ?_
  refine pu_iald hC (by decide +kernel : decode cX12_isFull 8 = .ok (.iaload, 1)) hU ho rfl H.1 ?_
  replace H := H.2
  refine pr_iload_n hC (by decide +kernel : decode cX12_isFull 9 = .ok (.iload_n 2, 1)) rfl ?_
  refine pr_icmp_ge hC 15 (by decide +kernel : decode cX12_isFull 10 = .ok (.if_icmp .ge 5, 3)) (by decide) (fun c_10 => ?_) (fun c_10 => ?_)
  · replace H := H.1 c_10
    refine pr_aload_n hC (by decide +kernel : decode cX12_isFull 15 = .ok (.aload_n 0, 1)) rfl ?_
    refine pr_iconst hC (4) (by decide +kernel : decode cX12_isFull 16 = .ok (.iconst 4, 1)) rfl ?_
    refine vc_Vi hC hR [.int 4] fv_X12_238 (by decide +kernel : decode cX12_isFull 17 = .ok (.invokevirtual 238, 3)) hU (t_X12_fails ho H) ho (by decide) rfl rfl rfl (Nat.le_of_ble_eq_true rfl) (Nat.le_of_ble_eq_true rfl) (Nat.le_refl 0) (Nat.le_refl 0) (fun r_2 U_1 h H hU => ?_)
    refine pr_pop hC (by decide +kernel : decode cX12_isFull 20 = .ok (.pop, 1)) rfl ?_
    refine pr_iconst hC (1) (by decide +kernel : decode cX12_isFull 21 = .ok (.iconst 1, 1)) rfl ?_
    exact pv_zret hM (by decide +kernel : decode cX12_isFull 22 = .ok (.ireturn, 1)) (Or.inr rfl) hU H
  replace H := H.2 c_10
  refine pr_iconst hC (0) (by decide +kernel : decode cX12_isFull 13 = .ok (.iconst 0, 1)) rfl ?_
  exact pv_zret hM (by decide +kernel : decode cX12_isFull 14 = .ok (.ireturn, 1)) (Or.inl rfl) hU H
def w_X12_readField (o : Nat) (U : Um) (post : Int32 → Um → Prop) : Prop :=
  w_X12_isFull o 0 6 U (fun r_2 U_1 => (r_2 = 0 → w_X12_next o U_1 (fun U_3 => w_X12_isNew o U_3 (fun r_6 U_5 => (r_6 = 0 → post 0 U_5) ∧ (¬ r_6 = 0 → vp_in 7 14 ∧ vp_in (6 + (uA U_5 o 11 (Int32.toNatClampNeg 7))) 12 ∧ ∀ (U_7 : Um), U_7 = sJ U_5 o 1 (va_up (uJ U_5 o 1) (Int32.toNatClampNeg (6 + (uA U_5 o 11 (Int32.toNatClampNeg 7)))) (uL U_5 o 25)) → vp_in 7 14 ∧ vp_in 7 14 ∧ ∀ (U_8 : Um), U_8 = sA U_7 o 11 (va_up (uA U_7 o 11) (Int32.toNatClampNeg 7) ((uA U_7 o 11 (Int32.toNatClampNeg 7)) + 1)) → w_X12_next o U_8 (fun U_9 => post 1 U_9))))) ∧ (¬ r_2 = 0 → post 0 U_1))
set_option maxHeartbeats 4000000 in
theorem t_X12_readField {l : Launch} {Y : px_Y} {o : Nat} {U : Um} {post : Int32 → Um → Prop} (ho : oc o = 10) (H : w_X12_readField o U post) : um l Y 9 yX12_readField cX12_readField 1 (some (.boolean)) [.ref (Y.2.1 o)] U (pq_i post) := by
  unfold w_X12_readField at H
  refine um_of (by decide) (Nat.le_of_ble_eq_true rfl) [some (.ref (Y.2.1 o))] rfl (fun X h0 hh sz hM hU => ?_)
  have hC := hM.1
  have hR := hM.2.2.1
  refine pr_aload_n hC (by decide +kernel : decode cX12_readField 0 = .ok (.aload_n 0, 1)) rfl ?_
  refine pr_iconst hC (0) (by decide +kernel : decode cX12_readField 1 = .ok (.iconst 0, 1)) rfl ?_
  refine pr_bipush hC (6) (by decide +kernel : decode cX12_readField 2 = .ok (.bipush 6, 2)) rfl ?_
  refine vc_Vi hC hR [.int 0, .int 6] fv_X12_265 (by decide +kernel : decode cX12_readField 4 = .ok (.invokevirtual 265, 3)) hU (t_X12_isFull ho H) ho (by decide) rfl rfl rfl (Nat.le_of_ble_eq_true rfl) (Nat.le_of_ble_eq_true rfl) (Nat.le_refl 0) (Nat.le_refl 0) (fun r_2 U_1 h H hU => ?_)
  refine pr_if_eq hC 12 (by decide +kernel : decode cX12_readField 7 = .ok (.ifCond .eq 5, 3)) (by decide) (fun c_7 => ?_) (fun c_7 => ?_)
  · replace H := H.1 c_7
    refine pr_aload_n hC (by decide +kernel : decode cX12_readField 12 = .ok (.aload_n 0, 1)) rfl ?_
    refine vc_Vv hC hR [] fv_X12_242 (by decide +kernel : decode cX12_readField 13 = .ok (.invokevirtual 242, 3)) hU (t_X12_next ho H) ho (by decide) rfl rfl rfl (Nat.le_of_ble_eq_true rfl) (Nat.le_of_ble_eq_true rfl) (Nat.le_refl 0) (Nat.le_refl 0) (fun U_3 h H hU => ?_)
    refine pr_aload_n hC (by decide +kernel : decode cX12_readField 16 = .ok (.aload_n 0, 1)) rfl ?_
    refine vc_Vi hC hR [] fv_X12_268 (by decide +kernel : decode cX12_readField 17 = .ok (.invokevirtual 268, 3)) hU (t_X12_isNew ho H) ho (by decide) rfl rfl rfl (Nat.le_of_ble_eq_true rfl) (Nat.le_of_ble_eq_true rfl) (Nat.le_refl 0) (Nat.le_refl 0) (fun r_6 U_5 h H hU => ?_)
    refine pr_if_ne hC 25 (by decide +kernel : decode cX12_readField 20 = .ok (.ifCond .ne 5, 3)) (by decide) (fun c_20 => ?_) (fun c_20 => ?_)
    · replace H := H.2 c_20
      refine pr_aload_n hC (by decide +kernel : decode cX12_readField 25 = .ok (.aload_n 0, 1)) rfl ?_
      refine pu_g1 hC fg_X12_9 (by decide +kernel : decode cX12_readField 26 = .ok (.getfield 9, 3)) hU ho (by decide) rfl (by decide) ?_
      refine pr_bipush hC (6) (by decide +kernel : decode cX12_readField 29 = .ok (.bipush 6, 2)) rfl ?_
      refine pr_aload_n hC (by decide +kernel : decode cX12_readField 31 = .ok (.aload_n 0, 1)) rfl ?_
      refine pu_g1 hC fg_X12_43 (by decide +kernel : decode cX12_readField 32 = .ok (.getfield 43, 3)) hU ho (by decide) rfl (by decide) ?_
      refine pr_bipush hC (7) (by decide +kernel : decode cX12_readField 35 = .ok (.bipush 7, 2)) rfl ?_
      refine pu_iald hC (by decide +kernel : decode cX12_readField 37 = .ok (.iaload, 1)) hU ho rfl H.1 ?_
      replace H := H.2
      refine pr_iadd hC (by decide +kernel : decode cX12_readField 38 = .ok (.iadd, 1)) ?_
      refine pr_aload_n hC (by decide +kernel : decode cX12_readField 39 = .ok (.aload_n 0, 1)) rfl ?_
      refine pu_g20 hC fg_X12_145 (by decide +kernel : decode cX12_readField 40 = .ok (.getfield 145, 3)) hU ho (by decide) rfl rfl ?_
      refine pv_last hC (by decide +kernel : decode cX12_readField 43 = .ok (.lastore, 1)) hU ho rfl H.1 (fun U_7 h e_U_7 hU => ?_)
      replace H := H.2 U_7 e_U_7
      refine pr_aload_n hC (by decide +kernel : decode cX12_readField 44 = .ok (.aload_n 0, 1)) rfl ?_
      refine pu_g1 hC fg_X12_43 (by decide +kernel : decode cX12_readField 45 = .ok (.getfield 43, 3)) hU ho (by decide) rfl (by decide) ?_
      refine pr_bipush hC (7) (by decide +kernel : decode cX12_readField 48 = .ok (.bipush 7, 2)) rfl ?_
      refine pr_dup2 hC (by decide +kernel : decode cX12_readField 50 = .ok (.dup2, 1)) rfl rfl ?_
      refine pu_iald hC (by decide +kernel : decode cX12_readField 51 = .ok (.iaload, 1)) hU ho rfl H.1 ?_
      replace H := H.2
      refine pr_iconst hC (1) (by decide +kernel : decode cX12_readField 52 = .ok (.iconst 1, 1)) rfl ?_
      refine pr_iadd hC (by decide +kernel : decode cX12_readField 53 = .ok (.iadd, 1)) ?_
      refine pv_iast hC (by decide +kernel : decode cX12_readField 54 = .ok (.iastore, 1)) hU ho rfl H.1 (fun U_8 h e_U_8 hU => ?_)
      replace H := H.2 U_8 e_U_8
      refine pr_aload_n hC (by decide +kernel : decode cX12_readField 55 = .ok (.aload_n 0, 1)) rfl ?_
      refine vc_Vv hC hR [] fv_X12_242 (by decide +kernel : decode cX12_readField 56 = .ok (.invokevirtual 242, 3)) hU (t_X12_next ho H) ho (by decide) rfl rfl rfl (Nat.le_of_ble_eq_true rfl) (Nat.le_of_ble_eq_true rfl) (Nat.le_refl 0) (Nat.le_refl 0) (fun U_9 h H hU => ?_)
      refine pr_iconst hC (1) (by decide +kernel : decode cX12_readField 59 = .ok (.iconst 1, 1)) rfl ?_
      exact pv_zret hM (by decide +kernel : decode cX12_readField 60 = .ok (.ireturn, 1)) (Or.inr rfl) hU H
    replace H := H.1 c_20
    refine pr_iconst hC (0) (by decide +kernel : decode cX12_readField 23 = .ok (.iconst 0, 1)) rfl ?_
    exact pv_zret hM (by decide +kernel : decode cX12_readField 24 = .ok (.ireturn, 1)) (Or.inl rfl) hU H
  replace H := H.2 c_7
  refine pr_iconst hC (0) (by decide +kernel : decode cX12_readField 10 = .ok (.iconst 0, 1)) rfl ?_
  exact pv_zret hM (by decide +kernel : decode cX12_readField 11 = .ok (.ireturn, 1)) (Or.inl rfl) hU H
def w_X12_readRoad (o : Nat) (U : Um) (post : Int32 → Um → Prop) : Prop :=
  w_X12_next o U (fun U_1 => w_X12_readOne o 0 U_1 (fun r_4 U_3 => (r_4 = 0 → post 0 U_3) ∧ (¬ r_4 = 0 → ∀ (x1_5 : Int32), x1_5 = uI U_3 o 28 → w_X12_comesTo o 0 U_3 (fun r_7 U_6 => (r_7 = 0 → post 0 U_6) ∧ (¬ r_7 = 0 → ∀ (x2_8 : Int32), x2_8 = uI U_6 o 28 → (∀ K_9 : Prop, ((w_X12_fails o 3 U_6 (fun r_11 U_10 => (r_11 = 0 ∨ r_11 = 1) ∧ post r_11 U_10)) → K_9 ) → (x1_5 = x2_8 → K_9) ∧ (¬ x1_5 = x2_8 → vp_in ((36 + (6 * x1_5)) + x2_8) 72 ∧ ((uA U_6 o 2 (Int32.toNatClampNeg ((36 + (6 * x1_5)) + x2_8))) ≤ 0 → w_X12_next o U_6 (fun U_12 => w_X12_readNumber o 1 240 U_12 (fun r_15 U_14 => (r_15 = 0 → post 0 U_14) ∧ (¬ r_15 = 0 → vp_in ((36 + (6 * x1_5)) + x2_8) 72 ∧ ∀ (U_16 : Um), U_16 = sA U_14 o 2 (va_up (uA U_14 o 2) (Int32.toNatClampNeg ((36 + (6 * x1_5)) + x2_8)) (uI U_14 o 28)) → vp_in ((36 + (6 * x2_8)) + x1_5) 72 ∧ ∀ (U_17 : Um), U_17 = sA U_16 o 2 (va_up (uA U_16 o 2) (Int32.toNatClampNeg ((36 + (6 * x2_8)) + x1_5)) (uI U_16 o 28)) → post 1 U_17)))) ∧ (¬ (uA U_6 o 2 (Int32.toNatClampNeg ((36 + (6 * x1_5)) + x2_8))) ≤ 0 → K_9))))))))
set_option maxHeartbeats 4000000 in
theorem t_X12_readRoad {l : Launch} {Y : px_Y} {o : Nat} {U : Um} {post : Int32 → Um → Prop} (ho : oc o = 10) (H : w_X12_readRoad o U post) : um l Y 10 yX12_readRoad cX12_readRoad 3 (some (.boolean)) [.ref (Y.2.1 o)] U (pq_i post) := by
  unfold w_X12_readRoad at H
  refine um_of (by decide) (Nat.le_of_ble_eq_true rfl) [some (.ref (Y.2.1 o)), none, none] rfl (fun X h0 hh sz hM hU => ?_)
  have hC := hM.1
  have hR := hM.2.2.1
  refine pr_aload_n hC (by decide +kernel : decode cX12_readRoad 0 = .ok (.aload_n 0, 1)) rfl ?_
  refine vc_Vv hC hR [] fv_X12_242 (by decide +kernel : decode cX12_readRoad 1 = .ok (.invokevirtual 242, 3)) hU (t_X12_next ho H) ho (by decide) rfl rfl rfl (Nat.le_of_ble_eq_true rfl) (Nat.le_of_ble_eq_true rfl) (Nat.le_refl 0) (Nat.le_refl 0) (fun U_1 h H hU => ?_)
  refine pr_aload_n hC (by decide +kernel : decode cX12_readRoad 4 = .ok (.aload_n 0, 1)) rfl ?_
  refine pr_iconst hC (0) (by decide +kernel : decode cX12_readRoad 5 = .ok (.iconst 0, 1)) rfl ?_
  refine vc_Vi hC hR [.int 0] fv_X12_271 (by decide +kernel : decode cX12_readRoad 6 = .ok (.invokevirtual 271, 3)) hU (t_X12_readOne ho H) ho (by decide) rfl rfl rfl (Nat.le_of_ble_eq_true rfl) (Nat.le_of_ble_eq_true rfl) (Nat.le_refl 0) (Nat.le_refl 0) (fun r_4 U_3 h H hU => ?_)
  refine pr_if_ne hC 14 (by decide +kernel : decode cX12_readRoad 9 = .ok (.ifCond .ne 5, 3)) (by decide) (fun c_9 => ?_) (fun c_9 => ?_)
  · replace H := H.2 c_9
    refine pr_aload_n hC (by decide +kernel : decode cX12_readRoad 14 = .ok (.aload_n 0, 1)) rfl ?_
    refine pu_g0 hC fg_X12_245 (by decide +kernel : decode cX12_readRoad 15 = .ok (.getfield 245, 3)) hU ho (by decide) rfl rfl ?_
    refine pv_topi (fun x1_5 e_x1_5 => ?_)
    replace H := H x1_5 e_x1_5
    refine pr_istore_n hC (by decide +kernel : decode cX12_readRoad 18 = .ok (.istore_n 1, 1)) (by decide) rfl ?_
    refine pr_aload_n hC (by decide +kernel : decode cX12_readRoad 19 = .ok (.aload_n 0, 1)) rfl ?_
    refine pr_iconst hC (0) (by decide +kernel : decode cX12_readRoad 20 = .ok (.iconst 0, 1)) rfl ?_
    refine vc_Vi hC hR [.int 0] fv_X12_262 (by decide +kernel : decode cX12_readRoad 21 = .ok (.invokevirtual 262, 3)) hU (t_X12_comesTo ho H) ho (by decide) rfl rfl rfl (Nat.le_of_ble_eq_true rfl) (Nat.le_of_ble_eq_true rfl) (Nat.le_refl 0) (Nat.le_refl 0) (fun r_7 U_6 h H hU => ?_)
    refine pr_if_ne hC 29 (by decide +kernel : decode cX12_readRoad 24 = .ok (.ifCond .ne 5, 3)) (by decide) (fun c_24 => ?_) (fun c_24 => ?_)
    · replace H := H.2 c_24
      refine pr_aload_n hC (by decide +kernel : decode cX12_readRoad 29 = .ok (.aload_n 0, 1)) rfl ?_
      refine pu_g0 hC fg_X12_245 (by decide +kernel : decode cX12_readRoad 30 = .ok (.getfield 245, 3)) hU ho (by decide) rfl rfl ?_
      refine pv_topi (fun x2_8 e_x2_8 => ?_)
      replace H := H x2_8 e_x2_8
      refine pr_istore_n hC (by decide +kernel : decode cX12_readRoad 33 = .ok (.istore_n 2, 1)) (by decide) rfl ?_
      refine pr_iload_n hC (by decide +kernel : decode cX12_readRoad 34 = .ok (.iload_n 1, 1)) rfl ?_
      refine pr_iload_n hC (by decide +kernel : decode cX12_readRoad 35 = .ok (.iload_n 2, 1)) rfl ?_
      replace H := H (pw X Y.1 (pm_A hh sz) (pm_E X Y.1 hh sz 0 0 (pm_P Y h0 sz (pq_i post))) 56 [some (.ref (Y.2.1 o)), none, none] [] h sz 0 0) (by
        intro  H
        refine pr_aload_n hC (by decide +kernel : decode cX12_readRoad 56 = .ok (.aload_n 0, 1)) rfl ?_
        refine pr_iconst hC (3) (by decide +kernel : decode cX12_readRoad 57 = .ok (.iconst 3, 1)) rfl ?_
        refine vc_Vi hC hR [.int 3] fv_X12_238 (by decide +kernel : decode cX12_readRoad 58 = .ok (.invokevirtual 238, 3)) hU (t_X12_fails ho H) ho (by decide) rfl rfl rfl (Nat.le_of_ble_eq_true rfl) (Nat.le_of_ble_eq_true rfl) (Nat.le_refl 0) (Nat.le_refl 0) (fun r_11 U_10 h H hU => ?_)
        exact pv_zret hM (by decide +kernel : decode cX12_readRoad 61 = .ok (.ireturn, 1)) H.1 hU H.2)
      refine pr_icmp_eq hC 56 (by decide +kernel : decode cX12_readRoad 36 = .ok (.if_icmp .eq 20, 3)) (by decide) (fun c_36 => ?_) (fun c_36 => ?_)
      · replace H := H.1 c_36
        exact pv_sub [some (.ref (Y.2.1 o)), none, none] (And.intro rfl trivial) (H )
      replace H := H.2 c_36
      refine pr_aload_n hC (by decide +kernel : decode cX12_readRoad 39 = .ok (.aload_n 0, 1)) rfl ?_
      refine pu_g1 hC fg_X12_15 (by decide +kernel : decode cX12_readRoad 40 = .ok (.getfield 15, 3)) hU ho (by decide) rfl (by decide) ?_
      refine pr_bipush hC (36) (by decide +kernel : decode cX12_readRoad 43 = .ok (.bipush 36, 2)) rfl ?_
      refine pr_bipush hC (6) (by decide +kernel : decode cX12_readRoad 45 = .ok (.bipush 6, 2)) rfl ?_
      refine pr_iload_n hC (by decide +kernel : decode cX12_readRoad 47 = .ok (.iload_n 1, 1)) rfl ?_
      refine pr_imul hC (by decide +kernel : decode cX12_readRoad 48 = .ok (.imul, 1)) ?_
      refine pr_iadd hC (by decide +kernel : decode cX12_readRoad 49 = .ok (.iadd, 1)) ?_
      refine pr_iload_n hC (by decide +kernel : decode cX12_readRoad 50 = .ok (.iload_n 2, 1)) rfl ?_
      refine pr_iadd hC (by decide +kernel : decode cX12_readRoad 51 = .ok (.iadd, 1)) ?_
      refine pu_iald hC (by decide +kernel : decode cX12_readRoad 52 = .ok (.iaload, 1)) hU ho rfl H.1 ?_
      replace H := H.2
      refine pr_if_le hC 62 (by decide +kernel : decode cX12_readRoad 53 = .ok (.ifCond .le 9, 3)) (by decide) (fun c_53 => ?_) (fun c_53 => ?_)
      · replace H := H.1 c_53
        refine pr_aload_n hC (by decide +kernel : decode cX12_readRoad 62 = .ok (.aload_n 0, 1)) rfl ?_
        refine vc_Vv hC hR [] fv_X12_242 (by decide +kernel : decode cX12_readRoad 63 = .ok (.invokevirtual 242, 3)) hU (t_X12_next ho H) ho (by decide) rfl rfl rfl (Nat.le_of_ble_eq_true rfl) (Nat.le_of_ble_eq_true rfl) (Nat.le_refl 0) (Nat.le_refl 0) (fun U_12 h H hU => ?_)
        refine pr_aload_n hC (by decide +kernel : decode cX12_readRoad 66 = .ok (.aload_n 0, 1)) rfl ?_
        refine pr_iconst hC (1) (by decide +kernel : decode cX12_readRoad 67 = .ok (.iconst 1, 1)) rfl ?_
        refine pr_sipush hC (240) (by decide +kernel : decode cX12_readRoad 68 = .ok (.sipush 240, 3)) rfl ?_
        refine vc_Vi hC hR [.int 1, .int 240] fv_X12_251 (by decide +kernel : decode cX12_readRoad 71 = .ok (.invokevirtual 251, 3)) hU (t_X12_readNumber ho H) ho (by decide) rfl rfl rfl (Nat.le_of_ble_eq_true rfl) (Nat.le_of_ble_eq_true rfl) (Nat.le_refl 0) (Nat.le_refl 0) (fun r_15 U_14 h H hU => ?_)
        refine pr_if_ne hC 79 (by decide +kernel : decode cX12_readRoad 74 = .ok (.ifCond .ne 5, 3)) (by decide) (fun c_74 => ?_) (fun c_74 => ?_)
        · replace H := H.2 c_74
          refine pr_aload_n hC (by decide +kernel : decode cX12_readRoad 79 = .ok (.aload_n 0, 1)) rfl ?_
          refine pu_g1 hC fg_X12_15 (by decide +kernel : decode cX12_readRoad 80 = .ok (.getfield 15, 3)) hU ho (by decide) rfl (by decide) ?_
          refine pr_bipush hC (36) (by decide +kernel : decode cX12_readRoad 83 = .ok (.bipush 36, 2)) rfl ?_
          refine pr_bipush hC (6) (by decide +kernel : decode cX12_readRoad 85 = .ok (.bipush 6, 2)) rfl ?_
          refine pr_iload_n hC (by decide +kernel : decode cX12_readRoad 87 = .ok (.iload_n 1, 1)) rfl ?_
          refine pr_imul hC (by decide +kernel : decode cX12_readRoad 88 = .ok (.imul, 1)) ?_
          refine pr_iadd hC (by decide +kernel : decode cX12_readRoad 89 = .ok (.iadd, 1)) ?_
          refine pr_iload_n hC (by decide +kernel : decode cX12_readRoad 90 = .ok (.iload_n 2, 1)) rfl ?_
          refine pr_iadd hC (by decide +kernel : decode cX12_readRoad 91 = .ok (.iadd, 1)) ?_
          refine pr_aload_n hC (by decide +kernel : decode cX12_readRoad 92 = .ok (.aload_n 0, 1)) rfl ?_
          refine pu_g0 hC fg_X12_245 (by decide +kernel : decode cX12_readRoad 93 = .ok (.getfield 245, 3)) hU ho (by decide) rfl rfl ?_
          refine pv_iast hC (by decide +kernel : decode cX12_readRoad 96 = .ok (.iastore, 1)) hU ho rfl H.1 (fun U_16 h e_U_16 hU => ?_)
          replace H := H.2 U_16 e_U_16
          refine pr_aload_n hC (by decide +kernel : decode cX12_readRoad 97 = .ok (.aload_n 0, 1)) rfl ?_
          refine pu_g1 hC fg_X12_15 (by decide +kernel : decode cX12_readRoad 98 = .ok (.getfield 15, 3)) hU ho (by decide) rfl (by decide) ?_
          refine pr_bipush hC (36) (by decide +kernel : decode cX12_readRoad 101 = .ok (.bipush 36, 2)) rfl ?_
          refine pr_bipush hC (6) (by decide +kernel : decode cX12_readRoad 103 = .ok (.bipush 6, 2)) rfl ?_
          refine pr_iload_n hC (by decide +kernel : decode cX12_readRoad 105 = .ok (.iload_n 2, 1)) rfl ?_
          refine pr_imul hC (by decide +kernel : decode cX12_readRoad 106 = .ok (.imul, 1)) ?_
          refine pr_iadd hC (by decide +kernel : decode cX12_readRoad 107 = .ok (.iadd, 1)) ?_
          refine pr_iload_n hC (by decide +kernel : decode cX12_readRoad 108 = .ok (.iload_n 1, 1)) rfl ?_
          refine pr_iadd hC (by decide +kernel : decode cX12_readRoad 109 = .ok (.iadd, 1)) ?_
          refine pr_aload_n hC (by decide +kernel : decode cX12_readRoad 110 = .ok (.aload_n 0, 1)) rfl ?_
          refine pu_g0 hC fg_X12_245 (by decide +kernel : decode cX12_readRoad 111 = .ok (.getfield 245, 3)) hU ho (by decide) rfl rfl ?_
          refine pv_iast hC (by decide +kernel : decode cX12_readRoad 114 = .ok (.iastore, 1)) hU ho rfl H.1 (fun U_17 h e_U_17 hU => ?_)
          replace H := H.2 U_17 e_U_17
          refine pr_iconst hC (1) (by decide +kernel : decode cX12_readRoad 115 = .ok (.iconst 1, 1)) rfl ?_
          exact pv_zret hM (by decide +kernel : decode cX12_readRoad 116 = .ok (.ireturn, 1)) (Or.inr rfl) hU H
        replace H := H.1 c_74
        refine pr_iconst hC (0) (by decide +kernel : decode cX12_readRoad 77 = .ok (.iconst 0, 1)) rfl ?_
        exact pv_zret hM (by decide +kernel : decode cX12_readRoad 78 = .ok (.ireturn, 1)) (Or.inl rfl) hU H
      replace H := H.2 c_53
      exact pv_sub [some (.ref (Y.2.1 o)), none, none] (And.intro rfl trivial) (H )
    replace H := H.1 c_24
    refine pr_iconst hC (0) (by decide +kernel : decode cX12_readRoad 27 = .ok (.iconst 0, 1)) rfl ?_
    exact pv_zret hM (by decide +kernel : decode cX12_readRoad 28 = .ok (.ireturn, 1)) (Or.inl rfl) hU H
  replace H := H.1 c_9
  refine pr_iconst hC (0) (by decide +kernel : decode cX12_readRoad 12 = .ok (.iconst 0, 1)) rfl ?_
  exact pv_zret hM (by decide +kernel : decode cX12_readRoad 13 = .ok (.ireturn, 1)) (Or.inl rfl) hU H
def w_X12_readClub (o : Nat) (U : Um) (post : Int32 → Um → Prop) : Prop :=
  w_X12_isFull o 1 8 U (fun r_2 U_1 => (r_2 = 0 → w_X12_next o U_1 (fun U_3 => w_X12_isNew o U_3 (fun r_6 U_5 => (r_6 = 0 → post 0 U_5) ∧ (¬ r_6 = 0 → vp_in 8 14 ∧ vp_in (8 + (uA U_5 o 11 (Int32.toNatClampNeg 8))) 16 ∧ ∀ (U_7 : Um), U_7 = sJ U_5 o 4 (va_up (uJ U_5 o 4) (Int32.toNatClampNeg (8 + (uA U_5 o 11 (Int32.toNatClampNeg 8)))) (uL U_5 o 25)) → vp_in 8 14 ∧ vp_in 8 14 ∧ ∀ (U_8 : Um), U_8 = sA U_7 o 11 (va_up (uA U_7 o 11) (Int32.toNatClampNeg 8) ((uA U_7 o 11 (Int32.toNatClampNeg 8)) + 1)) → w_X12_next o U_8 (fun U_9 => post 1 U_9))))) ∧ (¬ r_2 = 0 → post 0 U_1))
set_option maxHeartbeats 4000000 in
theorem t_X12_readClub {l : Launch} {Y : px_Y} {o : Nat} {U : Um} {post : Int32 → Um → Prop} (ho : oc o = 10) (H : w_X12_readClub o U post) : um l Y 9 yX12_readClub cX12_readClub 1 (some (.boolean)) [.ref (Y.2.1 o)] U (pq_i post) := by
  unfold w_X12_readClub at H
  refine um_of (by decide) (Nat.le_of_ble_eq_true rfl) [some (.ref (Y.2.1 o))] rfl (fun X h0 hh sz hM hU => ?_)
  have hC := hM.1
  have hR := hM.2.2.1
  refine pr_aload_n hC (by decide +kernel : decode cX12_readClub 0 = .ok (.aload_n 0, 1)) rfl ?_
  refine pr_iconst hC (1) (by decide +kernel : decode cX12_readClub 1 = .ok (.iconst 1, 1)) rfl ?_
  refine pr_bipush hC (8) (by decide +kernel : decode cX12_readClub 2 = .ok (.bipush 8, 2)) rfl ?_
  refine vc_Vi hC hR [.int 1, .int 8] fv_X12_265 (by decide +kernel : decode cX12_readClub 4 = .ok (.invokevirtual 265, 3)) hU (t_X12_isFull ho H) ho (by decide) rfl rfl rfl (Nat.le_of_ble_eq_true rfl) (Nat.le_of_ble_eq_true rfl) (Nat.le_refl 0) (Nat.le_refl 0) (fun r_2 U_1 h H hU => ?_)
  refine pr_if_eq hC 12 (by decide +kernel : decode cX12_readClub 7 = .ok (.ifCond .eq 5, 3)) (by decide) (fun c_7 => ?_) (fun c_7 => ?_)
  · replace H := H.1 c_7
    refine pr_aload_n hC (by decide +kernel : decode cX12_readClub 12 = .ok (.aload_n 0, 1)) rfl ?_
    refine vc_Vv hC hR [] fv_X12_242 (by decide +kernel : decode cX12_readClub 13 = .ok (.invokevirtual 242, 3)) hU (t_X12_next ho H) ho (by decide) rfl rfl rfl (Nat.le_of_ble_eq_true rfl) (Nat.le_of_ble_eq_true rfl) (Nat.le_refl 0) (Nat.le_refl 0) (fun U_3 h H hU => ?_)
    refine pr_aload_n hC (by decide +kernel : decode cX12_readClub 16 = .ok (.aload_n 0, 1)) rfl ?_
    refine vc_Vi hC hR [] fv_X12_268 (by decide +kernel : decode cX12_readClub 17 = .ok (.invokevirtual 268, 3)) hU (t_X12_isNew ho H) ho (by decide) rfl rfl rfl (Nat.le_of_ble_eq_true rfl) (Nat.le_of_ble_eq_true rfl) (Nat.le_refl 0) (Nat.le_refl 0) (fun r_6 U_5 h H hU => ?_)
    refine pr_if_ne hC 25 (by decide +kernel : decode cX12_readClub 20 = .ok (.ifCond .ne 5, 3)) (by decide) (fun c_20 => ?_) (fun c_20 => ?_)
    · replace H := H.2 c_20
      refine pr_aload_n hC (by decide +kernel : decode cX12_readClub 25 = .ok (.aload_n 0, 1)) rfl ?_
      refine pu_g1 hC fg_X12_22 (by decide +kernel : decode cX12_readClub 26 = .ok (.getfield 22, 3)) hU ho (by decide) rfl (by decide) ?_
      refine pr_bipush hC (8) (by decide +kernel : decode cX12_readClub 29 = .ok (.bipush 8, 2)) rfl ?_
      refine pr_aload_n hC (by decide +kernel : decode cX12_readClub 31 = .ok (.aload_n 0, 1)) rfl ?_
      refine pu_g1 hC fg_X12_43 (by decide +kernel : decode cX12_readClub 32 = .ok (.getfield 43, 3)) hU ho (by decide) rfl (by decide) ?_
      refine pr_bipush hC (8) (by decide +kernel : decode cX12_readClub 35 = .ok (.bipush 8, 2)) rfl ?_
      refine pu_iald hC (by decide +kernel : decode cX12_readClub 37 = .ok (.iaload, 1)) hU ho rfl H.1 ?_
      replace H := H.2
      refine pr_iadd hC (by decide +kernel : decode cX12_readClub 38 = .ok (.iadd, 1)) ?_
      refine pr_aload_n hC (by decide +kernel : decode cX12_readClub 39 = .ok (.aload_n 0, 1)) rfl ?_
      refine pu_g20 hC fg_X12_145 (by decide +kernel : decode cX12_readClub 40 = .ok (.getfield 145, 3)) hU ho (by decide) rfl rfl ?_
      refine pv_last hC (by decide +kernel : decode cX12_readClub 43 = .ok (.lastore, 1)) hU ho rfl H.1 (fun U_7 h e_U_7 hU => ?_)
      replace H := H.2 U_7 e_U_7
      refine pr_aload_n hC (by decide +kernel : decode cX12_readClub 44 = .ok (.aload_n 0, 1)) rfl ?_
      refine pu_g1 hC fg_X12_43 (by decide +kernel : decode cX12_readClub 45 = .ok (.getfield 43, 3)) hU ho (by decide) rfl (by decide) ?_
      refine pr_bipush hC (8) (by decide +kernel : decode cX12_readClub 48 = .ok (.bipush 8, 2)) rfl ?_
      refine pr_dup2 hC (by decide +kernel : decode cX12_readClub 50 = .ok (.dup2, 1)) rfl rfl ?_
      refine pu_iald hC (by decide +kernel : decode cX12_readClub 51 = .ok (.iaload, 1)) hU ho rfl H.1 ?_
      replace H := H.2
      refine pr_iconst hC (1) (by decide +kernel : decode cX12_readClub 52 = .ok (.iconst 1, 1)) rfl ?_
      refine pr_iadd hC (by decide +kernel : decode cX12_readClub 53 = .ok (.iadd, 1)) ?_
      refine pv_iast hC (by decide +kernel : decode cX12_readClub 54 = .ok (.iastore, 1)) hU ho rfl H.1 (fun U_8 h e_U_8 hU => ?_)
      replace H := H.2 U_8 e_U_8
      refine pr_aload_n hC (by decide +kernel : decode cX12_readClub 55 = .ok (.aload_n 0, 1)) rfl ?_
      refine vc_Vv hC hR [] fv_X12_242 (by decide +kernel : decode cX12_readClub 56 = .ok (.invokevirtual 242, 3)) hU (t_X12_next ho H) ho (by decide) rfl rfl rfl (Nat.le_of_ble_eq_true rfl) (Nat.le_of_ble_eq_true rfl) (Nat.le_refl 0) (Nat.le_refl 0) (fun U_9 h H hU => ?_)
      refine pr_iconst hC (1) (by decide +kernel : decode cX12_readClub 59 = .ok (.iconst 1, 1)) rfl ?_
      exact pv_zret hM (by decide +kernel : decode cX12_readClub 60 = .ok (.ireturn, 1)) (Or.inr rfl) hU H
    replace H := H.1 c_20
    refine pr_iconst hC (0) (by decide +kernel : decode cX12_readClub 23 = .ok (.iconst 0, 1)) rfl ?_
    exact pv_zret hM (by decide +kernel : decode cX12_readClub 24 = .ok (.ireturn, 1)) (Or.inl rfl) hU H
  replace H := H.2 c_7
  refine pr_iconst hC (0) (by decide +kernel : decode cX12_readClub 10 = .ok (.iconst 0, 1)) rfl ?_
  exact pv_zret hM (by decide +kernel : decode cX12_readClub 11 = .ok (.ireturn, 1)) (Or.inl rfl) hU H
def b_X12_readOfficial_L114 (o0 : Nat) (x1 : Int32) (post : Int32 → Um → Prop) (k_154 : Um → Prop) (k_182 : Um → Prop) (rec_ : Um → Prop)  (U : Um) : Prop :=
  w_X12_isWord o0 5 U (fun r_22 U_21 => (r_22 = 0 → k_182 U_21) ∧ (¬ r_22 = 0 → w_X12_next o0 U_21 (fun U_23 => w_X12_comesTo o0 1 U_23 (fun r_26 U_25 => (r_26 = 0 → post 0 U_25) ∧ (¬ r_26 = 0 → vp_in x1 20 ∧ ((((uA U_25 o0 7 (Int32.toNatClampNeg x1)) >>> ((uI U_25 o0 28) &&& 31)) &&& 1) = 1 → k_154 U_25) ∧ (¬ (((uA U_25 o0 7 (Int32.toNatClampNeg x1)) >>> ((uI U_25 o0 28) &&& 31)) &&& 1) = 1 → vp_in x1 20 ∧ vp_in x1 20 ∧ ∀ (U_27 : Um), U_27 = sA U_25 o0 7 (va_up (uA U_25 o0 7) (Int32.toNatClampNeg x1) ((uA U_25 o0 7 (Int32.toNatClampNeg x1)) ||| ((1 : Int32) <<< ((uI U_25 o0 28) &&& 31)))) → w_X12_next o0 U_27 (fun U_28 => rec_ U_28)))))))
def w_X12_readOfficial_L114 (o0 : Nat) (x1 : Int32) (post : Int32 → Um → Prop) (k_154 : Um → Prop) (k_182 : Um → Prop) (n_ : Nat) : Um → Prop := Nat.rec (motive := fun _ => Um → Prop) (fun _ => False) (fun _ ih => b_X12_readOfficial_L114 o0 x1 post k_154 k_182 ih) n_
def w_X12_readOfficial (o : Nat) (U : Um) (post : Int32 → Um → Prop) : Prop :=
  w_X12_isFull o 2 10 U (fun r_2 U_1 => (r_2 = 0 → vp_in 9 14 ∧ ∀ (x1_3 : Int32), x1_3 = 10 + (uA U_1 o 11 (Int32.toNatClampNeg 9)) → w_X12_next o U_1 (fun U_4 => w_X12_isNew o U_4 (fun r_7 U_6 => (r_7 = 0 → post 0 U_6) ∧ (¬ r_7 = 0 → vp_in x1_3 20 ∧ ∀ (U_8 : Um), U_8 = sJ U_6 o 5 (va_up (uJ U_6 o 5) (Int32.toNatClampNeg x1_3) (uL U_6 o 25)) → w_X12_next o U_8 (fun U_9 => w_X12_readNumber o 1 5 U_9 (fun r_12 U_11 => (r_12 = 0 → post 0 U_11) ∧ (¬ r_12 = 0 → vp_in x1_3 20 ∧ ∀ (U_13 : Um), U_13 = sA U_11 o 9 (va_up (uA U_11 o 9) (Int32.toNatClampNeg x1_3) (uI U_11 o 28)) → w_X12_takes o 4 U_13 (fun r_15 U_14 => (r_15 = 0 → post 0 U_14) ∧ (¬ r_15 = 0 → w_X12_readOne o 0 U_14 (fun r_17 U_16 => (r_17 = 0 → post 0 U_16) ∧ (¬ r_17 = 0 → vp_in x1_3 20 ∧ ∀ (U_18 : Um), U_18 = sA U_16 o 6 (va_up (uA U_16 o 6) (Int32.toNatClampNeg x1_3) (uI U_16 o 28)) → vp_in x1_3 20 ∧ ∀ (U_19 : Um), U_19 = sA U_18 o 7 (va_up (uA U_18 o 7) (Int32.toNatClampNeg x1_3) 0) → vp_in x1_3 20 ∧ ∀ (U_20 : Um), U_20 = sA U_19 o 8 (va_up (uA U_19 o 8) (Int32.toNatClampNeg x1_3) 0) → (∃ n_35, w_X12_readOfficial_L114 o x1_3 post (fun U_30 => w_X12_fails o 3 U_30 (fun r_32 U_31 => (r_32 = 0 ∨ r_32 = 1) ∧ post r_32 U_31)) (fun U_33 => vp_in 9 14 ∧ vp_in 9 14 ∧ ∀ (U_34 : Um), U_34 = sA U_33 o 11 (va_up (uA U_33 o 11) (Int32.toNatClampNeg 9) ((uA U_33 o 11 (Int32.toNatClampNeg 9)) + 1)) → post 1 U_34) n_35  U_20)))))))))))) ∧ (¬ r_2 = 0 → post 0 U_1))
set_option maxHeartbeats 4000000 in
theorem tl_X12_readOfficial_L114 {l : Launch} {Y : px_Y} {X : px_X} {h0 hh : pe_H} {sz : Nat} (o0 : Nat) (x1 : Int32) (post : Int32 → Um → Prop) (k_154 : Um → Prop) (k_182 : Um → Prop) (ho0 : oc o0 = 10)  (hC : px_C X Y.1 (pm_A hh sz) cX12_readOfficial RX12 2) (hM : px_M l X Y.1 hh sz yX12_readOfficial cX12_readOfficial 2 (some (.boolean)) 10 0 0) (hR : X.2.2.2.1 = pm_rm 10 0 0) (hk_154 : ∀ (U : Um) (h : pe_H), k_154 U → rF Y h0 U h → pw X Y.1 (pm_A hh sz) (pm_E X Y.1 hh sz 0 0 (pm_P Y h0 sz (pq_i post))) 154 [some (.ref (Y.2.1 o0)), none] [] h sz 0 0) (hk_182 : ∀ (U : Um) (h : pe_H), k_182 U → rF Y h0 U h → pw X Y.1 (pm_A hh sz) (pm_E X Y.1 hh sz 0 0 (pm_P Y h0 sz (pq_i post))) 182 [some (.ref (Y.2.1 o0)), none] [] h sz 0 0) : ∀ (n_ : Nat)  (U : Um) (h : pe_H), rF Y h0 U h → w_X12_readOfficial_L114 o0 x1 post k_154 k_182 n_  U → pw X Y.1 (pm_A hh sz) (pm_E X Y.1 hh sz 0 0 (pm_P Y h0 sz (pq_i post))) 114 [some (.ref (Y.2.1 o0)), some (.int x1)] [] h sz 0 0 := by
  intro n_
  induction n_ with
  | zero => intro  U h hU H; exact False.elim H
  | succ n_ ih =>
    intro  U h hU H
    replace H : b_X12_readOfficial_L114 o0 x1 post k_154 k_182 (w_X12_readOfficial_L114 o0 x1 post k_154 k_182 n_)  U := H
    unfold b_X12_readOfficial_L114 at H
    refine pr_aload_n hC (by decide +kernel : decode cX12_readOfficial 114 = .ok (.aload_n 0, 1)) rfl ?_
    refine pr_ldcs hC ss_X12_203 (by decide +kernel : decode cX12_readOfficial 115 = .ok (.ldc 203, 2)) ?_
    refine vc_Vi hC hR [.ref (Y.1.2.2 (200 + 5))] fv_X12_192 (by decide +kernel : decode cX12_readOfficial 117 = .ok (.invokevirtual 192, 3)) hU (t_X12_isWord ho0 (by decide) H) ho0 (by decide) rfl rfl rfl (Nat.le_of_ble_eq_true rfl) (Nat.le_of_ble_eq_true rfl) (Nat.le_refl 0) (Nat.le_refl 0) (fun r_22 U_21 h H hU => ?_)
    refine pr_if_eq hC 182 (by decide +kernel : decode cX12_readOfficial 120 = .ok (.ifCond .eq 62, 3)) (by decide) (fun c_120 => ?_) (fun c_120 => ?_)
    · replace H := H.1 c_120
      exact pv_sub [some (.ref (Y.2.1 o0)), none] (And.intro rfl trivial) (hk_182 U_21 h H hU)
    replace H := H.2 c_120
    refine pr_aload_n hC (by decide +kernel : decode cX12_readOfficial 123 = .ok (.aload_n 0, 1)) rfl ?_
    refine vc_Vv hC hR [] fv_X12_242 (by decide +kernel : decode cX12_readOfficial 124 = .ok (.invokevirtual 242, 3)) hU (t_X12_next ho0 H) ho0 (by decide) rfl rfl rfl (Nat.le_of_ble_eq_true rfl) (Nat.le_of_ble_eq_true rfl) (Nat.le_refl 0) (Nat.le_refl 0) (fun U_23 h H hU => ?_)
    refine pr_aload_n hC (by decide +kernel : decode cX12_readOfficial 127 = .ok (.aload_n 0, 1)) rfl ?_
    refine pr_iconst hC (1) (by decide +kernel : decode cX12_readOfficial 128 = .ok (.iconst 1, 1)) rfl ?_
    refine vc_Vi hC hR [.int 1] fv_X12_262 (by decide +kernel : decode cX12_readOfficial 129 = .ok (.invokevirtual 262, 3)) hU (t_X12_comesTo ho0 H) ho0 (by decide) rfl rfl rfl (Nat.le_of_ble_eq_true rfl) (Nat.le_of_ble_eq_true rfl) (Nat.le_refl 0) (Nat.le_refl 0) (fun r_26 U_25 h H hU => ?_)
    refine pr_if_ne hC 137 (by decide +kernel : decode cX12_readOfficial 132 = .ok (.ifCond .ne 5, 3)) (by decide) (fun c_132 => ?_) (fun c_132 => ?_)
    · replace H := H.2 c_132
      refine pr_aload_n hC (by decide +kernel : decode cX12_readOfficial 137 = .ok (.aload_n 0, 1)) rfl ?_
      refine pu_g1 hC fg_X12_31 (by decide +kernel : decode cX12_readOfficial 138 = .ok (.getfield 31, 3)) hU ho0 (by decide) rfl (by decide) ?_
      refine pr_iload_n hC (by decide +kernel : decode cX12_readOfficial 141 = .ok (.iload_n 1, 1)) rfl ?_
      refine pu_iald hC (by decide +kernel : decode cX12_readOfficial 142 = .ok (.iaload, 1)) hU ho0 rfl H.1 ?_
      replace H := H.2
      refine pr_aload_n hC (by decide +kernel : decode cX12_readOfficial 143 = .ok (.aload_n 0, 1)) rfl ?_
      refine pu_g0 hC fg_X12_245 (by decide +kernel : decode cX12_readOfficial 144 = .ok (.getfield 245, 3)) hU ho0 (by decide) rfl rfl ?_
      refine pr_ishr hC (by decide +kernel : decode cX12_readOfficial 147 = .ok (.ishr, 1)) ?_
      refine pr_iconst hC (1) (by decide +kernel : decode cX12_readOfficial 148 = .ok (.iconst 1, 1)) rfl ?_
      refine pr_iand hC (by decide +kernel : decode cX12_readOfficial 149 = .ok (.iand, 1)) ?_
      refine pr_iconst hC (1) (by decide +kernel : decode cX12_readOfficial 150 = .ok (.iconst 1, 1)) rfl ?_
      refine pr_icmp_ne hC 160 (by decide +kernel : decode cX12_readOfficial 151 = .ok (.if_icmp .ne 9, 3)) (by decide) (fun c_151 => ?_) (fun c_151 => ?_)
      · replace H := H.2 c_151
        refine pr_aload_n hC (by decide +kernel : decode cX12_readOfficial 160 = .ok (.aload_n 0, 1)) rfl ?_
        refine pu_g1 hC fg_X12_31 (by decide +kernel : decode cX12_readOfficial 161 = .ok (.getfield 31, 3)) hU ho0 (by decide) rfl (by decide) ?_
        refine pr_iload_n hC (by decide +kernel : decode cX12_readOfficial 164 = .ok (.iload_n 1, 1)) rfl ?_
        refine pr_dup2 hC (by decide +kernel : decode cX12_readOfficial 165 = .ok (.dup2, 1)) rfl rfl ?_
        refine pu_iald hC (by decide +kernel : decode cX12_readOfficial 166 = .ok (.iaload, 1)) hU ho0 rfl H.1 ?_
        replace H := H.2
        refine pr_iconst hC (1) (by decide +kernel : decode cX12_readOfficial 167 = .ok (.iconst 1, 1)) rfl ?_
        refine pr_aload_n hC (by decide +kernel : decode cX12_readOfficial 168 = .ok (.aload_n 0, 1)) rfl ?_
        refine pu_g0 hC fg_X12_245 (by decide +kernel : decode cX12_readOfficial 169 = .ok (.getfield 245, 3)) hU ho0 (by decide) rfl rfl ?_
        refine pr_ishl hC (by decide +kernel : decode cX12_readOfficial 172 = .ok (.ishl, 1)) ?_
        refine pr_ior hC (by decide +kernel : decode cX12_readOfficial 173 = .ok (.ior, 1)) ?_
        refine pv_iast hC (by decide +kernel : decode cX12_readOfficial 174 = .ok (.iastore, 1)) hU ho0 rfl H.1 (fun U_27 h e_U_27 hU => ?_)
        replace H := H.2 U_27 e_U_27
        refine pr_aload_n hC (by decide +kernel : decode cX12_readOfficial 175 = .ok (.aload_n 0, 1)) rfl ?_
        refine vc_Vv hC hR [] fv_X12_242 (by decide +kernel : decode cX12_readOfficial 176 = .ok (.invokevirtual 242, 3)) hU (t_X12_next ho0 H) ho0 (by decide) rfl rfl rfl (Nat.le_of_ble_eq_true rfl) (Nat.le_of_ble_eq_true rfl) (Nat.le_refl 0) (Nat.le_refl 0) (fun U_28 h H hU => ?_)
        refine pr_goto hC 114 (by decide +kernel : decode cX12_readOfficial 179 = .ok (.goto (-65), 3)) (by decide) ?_
        exact pv_sub [some (.ref (Y.2.1 o0)), some (.int x1)] (And.intro rfl (And.intro rfl trivial)) (ih U_28 h hU H)
      replace H := H.1 c_151
      exact pv_sub [some (.ref (Y.2.1 o0)), none] (And.intro rfl trivial) (hk_154 U_25 h H hU)
    replace H := H.1 c_132
    refine pr_iconst hC (0) (by decide +kernel : decode cX12_readOfficial 135 = .ok (.iconst 0, 1)) rfl ?_
    exact pv_zret hM (by decide +kernel : decode cX12_readOfficial 136 = .ok (.ireturn, 1)) (Or.inl rfl) hU H
set_option maxHeartbeats 4000000 in
theorem t_X12_readOfficial {l : Launch} {Y : px_Y} {o : Nat} {U : Um} {post : Int32 → Um → Prop} (ho : oc o = 10) (H : w_X12_readOfficial o U post) : um l Y 10 yX12_readOfficial cX12_readOfficial 2 (some (.boolean)) [.ref (Y.2.1 o)] U (pq_i post) := by
  unfold w_X12_readOfficial at H
  refine um_of (by decide) (Nat.le_of_ble_eq_true rfl) [some (.ref (Y.2.1 o)), none] rfl (fun X h0 hh sz hM hU => ?_)
  have hC := hM.1
  have hR := hM.2.2.1
  refine pr_aload_n hC (by decide +kernel : decode cX12_readOfficial 0 = .ok (.aload_n 0, 1)) rfl ?_
  refine pr_iconst hC (2) (by decide +kernel : decode cX12_readOfficial 1 = .ok (.iconst 2, 1)) rfl ?_
  refine pr_bipush hC (10) (by decide +kernel : decode cX12_readOfficial 2 = .ok (.bipush 10, 2)) rfl ?_
  refine vc_Vi hC hR [.int 2, .int 10] fv_X12_265 (by decide +kernel : decode cX12_readOfficial 4 = .ok (.invokevirtual 265, 3)) hU (t_X12_isFull ho H) ho (by decide) rfl rfl rfl (Nat.le_of_ble_eq_true rfl) (Nat.le_of_ble_eq_true rfl) (Nat.le_refl 0) (Nat.le_refl 0) (fun r_2 U_1 h H hU => ?_)
  refine pr_if_eq hC 12 (by decide +kernel : decode cX12_readOfficial 7 = .ok (.ifCond .eq 5, 3)) (by decide) (fun c_7 => ?_) (fun c_7 => ?_)
  · replace H := H.1 c_7
    refine pr_bipush hC (10) (by decide +kernel : decode cX12_readOfficial 12 = .ok (.bipush 10, 2)) rfl ?_
    refine pr_aload_n hC (by decide +kernel : decode cX12_readOfficial 14 = .ok (.aload_n 0, 1)) rfl ?_
    refine pu_g1 hC fg_X12_43 (by decide +kernel : decode cX12_readOfficial 15 = .ok (.getfield 43, 3)) hU ho (by decide) rfl (by decide) ?_
    refine pr_bipush hC (9) (by decide +kernel : decode cX12_readOfficial 18 = .ok (.bipush 9, 2)) rfl ?_
    refine pu_iald hC (by decide +kernel : decode cX12_readOfficial 20 = .ok (.iaload, 1)) hU ho rfl H.1 ?_
    replace H := H.2
    refine pr_iadd hC (by decide +kernel : decode cX12_readOfficial 21 = .ok (.iadd, 1)) ?_
    refine pv_topi (fun x1_3 e_x1_3 => ?_)
    replace H := H x1_3 e_x1_3
    refine pr_istore_n hC (by decide +kernel : decode cX12_readOfficial 22 = .ok (.istore_n 1, 1)) (by decide) rfl ?_
    refine pr_aload_n hC (by decide +kernel : decode cX12_readOfficial 23 = .ok (.aload_n 0, 1)) rfl ?_
    refine vc_Vv hC hR [] fv_X12_242 (by decide +kernel : decode cX12_readOfficial 24 = .ok (.invokevirtual 242, 3)) hU (t_X12_next ho H) ho (by decide) rfl rfl rfl (Nat.le_of_ble_eq_true rfl) (Nat.le_of_ble_eq_true rfl) (Nat.le_refl 0) (Nat.le_refl 0) (fun U_4 h H hU => ?_)
    refine pr_aload_n hC (by decide +kernel : decode cX12_readOfficial 27 = .ok (.aload_n 0, 1)) rfl ?_
    refine vc_Vi hC hR [] fv_X12_268 (by decide +kernel : decode cX12_readOfficial 28 = .ok (.invokevirtual 268, 3)) hU (t_X12_isNew ho H) ho (by decide) rfl rfl rfl (Nat.le_of_ble_eq_true rfl) (Nat.le_of_ble_eq_true rfl) (Nat.le_refl 0) (Nat.le_refl 0) (fun r_7 U_6 h H hU => ?_)
    refine pr_if_ne hC 36 (by decide +kernel : decode cX12_readOfficial 31 = .ok (.ifCond .ne 5, 3)) (by decide) (fun c_31 => ?_) (fun c_31 => ?_)
    · replace H := H.2 c_31
      refine pr_aload_n hC (by decide +kernel : decode cX12_readOfficial 36 = .ok (.aload_n 0, 1)) rfl ?_
      refine pu_g1 hC fg_X12_25 (by decide +kernel : decode cX12_readOfficial 37 = .ok (.getfield 25, 3)) hU ho (by decide) rfl (by decide) ?_
      refine pr_iload_n hC (by decide +kernel : decode cX12_readOfficial 40 = .ok (.iload_n 1, 1)) rfl ?_
      refine pr_aload_n hC (by decide +kernel : decode cX12_readOfficial 41 = .ok (.aload_n 0, 1)) rfl ?_
      refine pu_g20 hC fg_X12_145 (by decide +kernel : decode cX12_readOfficial 42 = .ok (.getfield 145, 3)) hU ho (by decide) rfl rfl ?_
      refine pv_last hC (by decide +kernel : decode cX12_readOfficial 45 = .ok (.lastore, 1)) hU ho rfl H.1 (fun U_8 h e_U_8 hU => ?_)
      replace H := H.2 U_8 e_U_8
      refine pr_aload_n hC (by decide +kernel : decode cX12_readOfficial 46 = .ok (.aload_n 0, 1)) rfl ?_
      refine vc_Vv hC hR [] fv_X12_242 (by decide +kernel : decode cX12_readOfficial 47 = .ok (.invokevirtual 242, 3)) hU (t_X12_next ho H) ho (by decide) rfl rfl rfl (Nat.le_of_ble_eq_true rfl) (Nat.le_of_ble_eq_true rfl) (Nat.le_refl 0) (Nat.le_refl 0) (fun U_9 h H hU => ?_)
      refine pr_aload_n hC (by decide +kernel : decode cX12_readOfficial 50 = .ok (.aload_n 0, 1)) rfl ?_
      refine pr_iconst hC (1) (by decide +kernel : decode cX12_readOfficial 51 = .ok (.iconst 1, 1)) rfl ?_
      refine pr_iconst hC (5) (by decide +kernel : decode cX12_readOfficial 52 = .ok (.iconst 5, 1)) rfl ?_
      refine vc_Vi hC hR [.int 1, .int 5] fv_X12_251 (by decide +kernel : decode cX12_readOfficial 53 = .ok (.invokevirtual 251, 3)) hU (t_X12_readNumber ho H) ho (by decide) rfl rfl rfl (Nat.le_of_ble_eq_true rfl) (Nat.le_of_ble_eq_true rfl) (Nat.le_refl 0) (Nat.le_refl 0) (fun r_12 U_11 h H hU => ?_)
      refine pr_if_ne hC 61 (by decide +kernel : decode cX12_readOfficial 56 = .ok (.ifCond .ne 5, 3)) (by decide) (fun c_56 => ?_) (fun c_56 => ?_)
      · replace H := H.2 c_56
        refine pr_aload_n hC (by decide +kernel : decode cX12_readOfficial 61 = .ok (.aload_n 0, 1)) rfl ?_
        refine pu_g1 hC fg_X12_37 (by decide +kernel : decode cX12_readOfficial 62 = .ok (.getfield 37, 3)) hU ho (by decide) rfl (by decide) ?_
        refine pr_iload_n hC (by decide +kernel : decode cX12_readOfficial 65 = .ok (.iload_n 1, 1)) rfl ?_
        refine pr_aload_n hC (by decide +kernel : decode cX12_readOfficial 66 = .ok (.aload_n 0, 1)) rfl ?_
        refine pu_g0 hC fg_X12_245 (by decide +kernel : decode cX12_readOfficial 67 = .ok (.getfield 245, 3)) hU ho (by decide) rfl rfl ?_
        refine pv_iast hC (by decide +kernel : decode cX12_readOfficial 70 = .ok (.iastore, 1)) hU ho rfl H.1 (fun U_13 h e_U_13 hU => ?_)
        replace H := H.2 U_13 e_U_13
        refine pr_aload_n hC (by decide +kernel : decode cX12_readOfficial 71 = .ok (.aload_n 0, 1)) rfl ?_
        refine pr_ldcs hC ss_X12_201 (by decide +kernel : decode cX12_readOfficial 72 = .ok (.ldc 201, 2)) ?_
        refine vc_Vi hC hR [.ref (Y.1.2.2 (200 + 4))] fv_X12_248 (by decide +kernel : decode cX12_readOfficial 74 = .ok (.invokevirtual 248, 3)) hU (t_X12_takes ho (by decide) H) ho (by decide) rfl rfl rfl (Nat.le_of_ble_eq_true rfl) (Nat.le_of_ble_eq_true rfl) (Nat.le_refl 0) (Nat.le_refl 0) (fun r_15 U_14 h H hU => ?_)
        refine pr_if_eq hC 88 (by decide +kernel : decode cX12_readOfficial 77 = .ok (.ifCond .eq 11, 3)) (by decide) (fun c_77 => ?_) (fun c_77 => ?_)
        · replace H := H.1 c_77
          refine pr_iconst hC (0) (by decide +kernel : decode cX12_readOfficial 88 = .ok (.iconst 0, 1)) rfl ?_
          exact pv_zret hM (by decide +kernel : decode cX12_readOfficial 89 = .ok (.ireturn, 1)) (Or.inl rfl) hU H
        replace H := H.2 c_77
        refine pr_aload_n hC (by decide +kernel : decode cX12_readOfficial 80 = .ok (.aload_n 0, 1)) rfl ?_
        refine pr_iconst hC (0) (by decide +kernel : decode cX12_readOfficial 81 = .ok (.iconst 0, 1)) rfl ?_
        refine vc_Vi hC hR [.int 0] fv_X12_271 (by decide +kernel : decode cX12_readOfficial 82 = .ok (.invokevirtual 271, 3)) hU (t_X12_readOne ho H) ho (by decide) rfl rfl rfl (Nat.le_of_ble_eq_true rfl) (Nat.le_of_ble_eq_true rfl) (Nat.le_refl 0) (Nat.le_refl 0) (fun r_17 U_16 h H hU => ?_)
        refine pr_if_ne hC 90 (by decide +kernel : decode cX12_readOfficial 85 = .ok (.ifCond .ne 5, 3)) (by decide) (fun c_85 => ?_) (fun c_85 => ?_)
        · replace H := H.2 c_85
          refine pr_aload_n hC (by decide +kernel : decode cX12_readOfficial 90 = .ok (.aload_n 0, 1)) rfl ?_
          refine pu_g1 hC fg_X12_28 (by decide +kernel : decode cX12_readOfficial 91 = .ok (.getfield 28, 3)) hU ho (by decide) rfl (by decide) ?_
          refine pr_iload_n hC (by decide +kernel : decode cX12_readOfficial 94 = .ok (.iload_n 1, 1)) rfl ?_
          refine pr_aload_n hC (by decide +kernel : decode cX12_readOfficial 95 = .ok (.aload_n 0, 1)) rfl ?_
          refine pu_g0 hC fg_X12_245 (by decide +kernel : decode cX12_readOfficial 96 = .ok (.getfield 245, 3)) hU ho (by decide) rfl rfl ?_
          refine pv_iast hC (by decide +kernel : decode cX12_readOfficial 99 = .ok (.iastore, 1)) hU ho rfl H.1 (fun U_18 h e_U_18 hU => ?_)
          replace H := H.2 U_18 e_U_18
          refine pr_aload_n hC (by decide +kernel : decode cX12_readOfficial 100 = .ok (.aload_n 0, 1)) rfl ?_
          refine pu_g1 hC fg_X12_31 (by decide +kernel : decode cX12_readOfficial 101 = .ok (.getfield 31, 3)) hU ho (by decide) rfl (by decide) ?_
          refine pr_iload_n hC (by decide +kernel : decode cX12_readOfficial 104 = .ok (.iload_n 1, 1)) rfl ?_
          refine pr_iconst hC (0) (by decide +kernel : decode cX12_readOfficial 105 = .ok (.iconst 0, 1)) rfl ?_
          refine pv_iast hC (by decide +kernel : decode cX12_readOfficial 106 = .ok (.iastore, 1)) hU ho rfl H.1 (fun U_19 h e_U_19 hU => ?_)
          replace H := H.2 U_19 e_U_19
          refine pr_aload_n hC (by decide +kernel : decode cX12_readOfficial 107 = .ok (.aload_n 0, 1)) rfl ?_
          refine pu_g1 hC fg_X12_34 (by decide +kernel : decode cX12_readOfficial 108 = .ok (.getfield 34, 3)) hU ho (by decide) rfl (by decide) ?_
          refine pr_iload_n hC (by decide +kernel : decode cX12_readOfficial 111 = .ok (.iload_n 1, 1)) rfl ?_
          refine pr_iconst hC (0) (by decide +kernel : decode cX12_readOfficial 112 = .ok (.iconst 0, 1)) rfl ?_
          refine pv_iast hC (by decide +kernel : decode cX12_readOfficial 113 = .ok (.iastore, 1)) hU ho rfl H.1 (fun U_20 h e_U_20 hU => ?_)
          replace H := H.2 U_20 e_U_20
          obtain ⟨n_35, H⟩ := H
          refine pv_sub [some (.ref (Y.2.1 o)), some (.int x1_3)] (And.intro rfl (And.intro rfl trivial)) ?_
          refine tl_X12_readOfficial_L114 _ _ _ _ _ ho hC hM hR (fun U_30 h H hU => ?_) (fun U_33 h H hU => ?_) n_35 U_20 h hU H
          · refine pr_aload_n hC (by decide +kernel : decode cX12_readOfficial 154 = .ok (.aload_n 0, 1)) rfl ?_
            refine pr_iconst hC (3) (by decide +kernel : decode cX12_readOfficial 155 = .ok (.iconst 3, 1)) rfl ?_
            refine vc_Vi hC hR [.int 3] fv_X12_238 (by decide +kernel : decode cX12_readOfficial 156 = .ok (.invokevirtual 238, 3)) hU (t_X12_fails ho H) ho (by decide) rfl rfl rfl (Nat.le_of_ble_eq_true rfl) (Nat.le_of_ble_eq_true rfl) (Nat.le_refl 0) (Nat.le_refl 0) (fun r_32 U_31 h H hU => ?_)
            exact pv_zret hM (by decide +kernel : decode cX12_readOfficial 159 = .ok (.ireturn, 1)) H.1 hU H.2
          refine pr_aload_n hC (by decide +kernel : decode cX12_readOfficial 182 = .ok (.aload_n 0, 1)) rfl ?_
          refine pu_g1 hC fg_X12_43 (by decide +kernel : decode cX12_readOfficial 183 = .ok (.getfield 43, 3)) hU ho (by decide) rfl (by decide) ?_
          refine pr_bipush hC (9) (by decide +kernel : decode cX12_readOfficial 186 = .ok (.bipush 9, 2)) rfl ?_
          refine pr_dup2 hC (by decide +kernel : decode cX12_readOfficial 188 = .ok (.dup2, 1)) rfl rfl ?_
          refine pu_iald hC (by decide +kernel : decode cX12_readOfficial 189 = .ok (.iaload, 1)) hU ho rfl H.1 ?_
          replace H := H.2
          refine pr_iconst hC (1) (by decide +kernel : decode cX12_readOfficial 190 = .ok (.iconst 1, 1)) rfl ?_
          refine pr_iadd hC (by decide +kernel : decode cX12_readOfficial 191 = .ok (.iadd, 1)) ?_
          refine pv_iast hC (by decide +kernel : decode cX12_readOfficial 192 = .ok (.iastore, 1)) hU ho rfl H.1 (fun U_34 h e_U_34 hU => ?_)
          replace H := H.2 U_34 e_U_34
          refine pr_iconst hC (1) (by decide +kernel : decode cX12_readOfficial 193 = .ok (.iconst 1, 1)) rfl ?_
          exact pv_zret hM (by decide +kernel : decode cX12_readOfficial 194 = .ok (.ireturn, 1)) (Or.inr rfl) hU H
        replace H := H.1 c_85
        refine pr_iconst hC (0) (by decide +kernel : decode cX12_readOfficial 88 = .ok (.iconst 0, 1)) rfl ?_
        exact pv_zret hM (by decide +kernel : decode cX12_readOfficial 89 = .ok (.ireturn, 1)) (Or.inl rfl) hU H
      replace H := H.1 c_56
      refine pr_iconst hC (0) (by decide +kernel : decode cX12_readOfficial 59 = .ok (.iconst 0, 1)) rfl ?_
      exact pv_zret hM (by decide +kernel : decode cX12_readOfficial 60 = .ok (.ireturn, 1)) (Or.inl rfl) hU H
    replace H := H.1 c_31
    refine pr_iconst hC (0) (by decide +kernel : decode cX12_readOfficial 34 = .ok (.iconst 0, 1)) rfl ?_
    exact pv_zret hM (by decide +kernel : decode cX12_readOfficial 35 = .ok (.ireturn, 1)) (Or.inl rfl) hU H
  replace H := H.2 c_7
  refine pr_iconst hC (0) (by decide +kernel : decode cX12_readOfficial 10 = .ok (.iconst 0, 1)) rfl ?_
  exact pv_zret hM (by decide +kernel : decode cX12_readOfficial 11 = .ok (.ireturn, 1)) (Or.inl rfl) hU H
