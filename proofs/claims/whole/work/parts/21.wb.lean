def w_X1_gain (o : Nat) (a1 : Int32) (a2 : Int32) (a3 : Int32) (U : Um) (post : Int32 → Um → Prop) : Prop :=
  oc (uR U o 0) = 5 ∧ vp_in a1 10 ∧ ∀ (x4_2 : Int32), x4_2 = uA U (uR U o 0) 7 (Int32.toNatClampNeg a1) → ∀ (x5_3 : Int32), x5_3 = (x4_2 &&& ((1 <<< (a2 &&& 31)) ^^^ (-1))) ||| (1 <<< (a3 &&& 31)) → oc (uR U o 0) = 5 ∧ oc (uR U (uR U o 0) 0) = 8 ∧ vp_in a2 16 ∧ oc (uAR U (uR U (uR U o 0) 0) 6 (Int32.toNatClampNeg a2)) = 1 ∧ ∀ (x6_8 : Int32), x6_8 = uI U (uAR U (uR U (uR U o 0) 0) 6 (Int32.toNatClampNeg a2)) 3 → oc (uR U o 0) = 5 ∧ oc (uR U (uR U o 0) 0) = 8 ∧ vp_in a3 16 ∧ oc (uAR U (uR U (uR U o 0) 0) 6 (Int32.toNatClampNeg a3)) = 1 ∧ ∀ (x7_13 : Int32), x7_13 = uI U (uAR U (uR U (uR U o 0) 0) 6 (Int32.toNatClampNeg a3)) 3 → oc (uR U o 0) = 5 ∧ w_X6_roundOn (uR U o 0) a1 x4_2 x6_8 U (fun r_16 U_15 => oc (uR U_15 o 0) = 5 ∧ w_X6_roundOn (uR U_15 o 0) a1 x5_3 x6_8 U_15 (fun r_19 U_18 => ∀ (x8_20 : Int32), x8_20 = r_16 - r_19 → (x7_13 = x6_8 → post x8_20 U_18) ∧ (¬ x7_13 = x6_8 → oc (uR U_18 o 0) = 5 ∧ w_X6_roundOn (uR U_18 o 0) a1 x4_2 x7_13 U_18 (fun r_23 U_22 => oc (uR U_22 o 0) = 5 ∧ w_X6_roundOn (uR U_22 o 0) a1 x5_3 x7_13 U_22 (fun r_26 U_25 => ∀ (x8_27 : Int32), x8_27 = x8_20 + (r_23 - r_26) → post x8_27 U_25)))))
set_option maxHeartbeats 4000000 in
theorem t_X1_gain {l : Launch} {Y : px_Y} {o : Nat} {a1 : Int32} {a2 : Int32} {a3 : Int32} {U : Um} {post : Int32 → Um → Prop} (ho : oc o = 0) (H : w_X1_gain o a1 a2 a3 U post) : um l Y 2 yX1_gain cX1_gain 9 (some (.int)) [.ref (Y.2.1 o), .int a1, .int a2, .int a3] U (pq_i post) := by
  unfold w_X1_gain at H
  refine um_of (by decide) (Nat.le_of_ble_eq_true rfl) [some (.ref (Y.2.1 o)), some (.int a1), some (.int a2), some (.int a3), none, none, none, none, none] rfl (fun X h0 hh sz hM hU => ?_)
  have hC := hM.1
  have hR := hM.2.2.1
  refine pr_aload_n hC (by decide +kernel : decode cX1_gain 0 = .ok (.aload_n 0, 1)) rfl ?_
  refine pu_g21 hC fg_X1_9 (by decide +kernel : decode cX1_gain 1 = .ok (.getfield 9, 3)) hU ho (by decide) rfl rfl ?_
  have q_1 := H.1
  replace H := H.2
  refine pu_g1 hC fg_X1_129 (by decide +kernel : decode cX1_gain 4 = .ok (.getfield 129, 3)) hU q_1 (by decide) rfl (by decide) ?_
  refine pr_iload_n hC (by decide +kernel : decode cX1_gain 7 = .ok (.iload_n 1, 1)) rfl ?_
  refine pu_iald hC (by decide +kernel : decode cX1_gain 8 = .ok (.iaload, 1)) hU q_1 rfl H.1 ?_
  replace H := H.2
  refine pv_topi (fun x4_2 e_x4_2 => ?_)
  replace H := H x4_2 e_x4_2
  refine pr_istore hC (by decide +kernel : decode cX1_gain 9 = .ok (.istore 4, 2)) (by decide) rfl ?_
  refine pr_iload hC (by decide +kernel : decode cX1_gain 11 = .ok (.iload 4, 2)) rfl ?_
  refine pr_iconst hC (1) (by decide +kernel : decode cX1_gain 13 = .ok (.iconst 1, 1)) rfl ?_
  refine pr_iload_n hC (by decide +kernel : decode cX1_gain 14 = .ok (.iload_n 2, 1)) rfl ?_
  refine pr_ishl hC (by decide +kernel : decode cX1_gain 15 = .ok (.ishl, 1)) ?_
  refine pr_iconst hC (-1) (by decide +kernel : decode cX1_gain 16 = .ok (.iconst (-1), 1)) rfl ?_
  refine pr_ixor hC (by decide +kernel : decode cX1_gain 17 = .ok (.ixor, 1)) ?_
  refine pr_iand hC (by decide +kernel : decode cX1_gain 18 = .ok (.iand, 1)) ?_
  refine pr_iconst hC (1) (by decide +kernel : decode cX1_gain 19 = .ok (.iconst 1, 1)) rfl ?_
  refine pr_iload_n hC (by decide +kernel : decode cX1_gain 20 = .ok (.iload_n 3, 1)) rfl ?_
  refine pr_ishl hC (by decide +kernel : decode cX1_gain 21 = .ok (.ishl, 1)) ?_
  refine pr_ior hC (by decide +kernel : decode cX1_gain 22 = .ok (.ior, 1)) ?_
  refine pv_topi (fun x5_3 e_x5_3 => ?_)
  replace H := H x5_3 e_x5_3
  refine pr_istore hC (by decide +kernel : decode cX1_gain 23 = .ok (.istore 5, 2)) (by decide) rfl ?_
  refine pr_aload_n hC (by decide +kernel : decode cX1_gain 25 = .ok (.aload_n 0, 1)) rfl ?_
  refine pu_g21 hC fg_X1_9 (by decide +kernel : decode cX1_gain 26 = .ok (.getfield 9, 3)) hU ho (by decide) rfl rfl ?_
  have q_4 := H.1
  replace H := H.2
  refine pu_g21 hC fg_X1_65 (by decide +kernel : decode cX1_gain 29 = .ok (.getfield 65, 3)) hU q_4 (by decide) rfl rfl ?_
  have q_5 := H.1
  replace H := H.2
  refine pu_g1 hC fg_X1_69 (by decide +kernel : decode cX1_gain 32 = .ok (.getfield 69, 3)) hU q_5 (by decide) rfl (by decide) ?_
  refine pr_iload_n hC (by decide +kernel : decode cX1_gain 35 = .ok (.iload_n 2, 1)) rfl ?_
  have q_6 := H.1
  replace H := H.2
  refine pu_aald8 hC (by decide +kernel : decode cX1_gain 36 = .ok (.aaload, 1)) hU q_5 rfl q_6 ?_
  have q_7 := H.1
  replace H := H.2
  refine pu_g0 hC fg_X1_147 (by decide +kernel : decode cX1_gain 37 = .ok (.getfield 147, 3)) hU q_7 (by decide) rfl rfl ?_
  refine pv_topi (fun x6_8 e_x6_8 => ?_)
  replace H := H x6_8 e_x6_8
  refine pr_istore hC (by decide +kernel : decode cX1_gain 40 = .ok (.istore 6, 2)) (by decide) rfl ?_
  refine pr_aload_n hC (by decide +kernel : decode cX1_gain 42 = .ok (.aload_n 0, 1)) rfl ?_
  refine pu_g21 hC fg_X1_9 (by decide +kernel : decode cX1_gain 43 = .ok (.getfield 9, 3)) hU ho (by decide) rfl rfl ?_
  have q_9 := H.1
  replace H := H.2
  refine pu_g21 hC fg_X1_65 (by decide +kernel : decode cX1_gain 46 = .ok (.getfield 65, 3)) hU q_9 (by decide) rfl rfl ?_
  have q_10 := H.1
  replace H := H.2
  refine pu_g1 hC fg_X1_69 (by decide +kernel : decode cX1_gain 49 = .ok (.getfield 69, 3)) hU q_10 (by decide) rfl (by decide) ?_
  refine pr_iload_n hC (by decide +kernel : decode cX1_gain 52 = .ok (.iload_n 3, 1)) rfl ?_
  have q_11 := H.1
  replace H := H.2
  refine pu_aald8 hC (by decide +kernel : decode cX1_gain 53 = .ok (.aaload, 1)) hU q_10 rfl q_11 ?_
  have q_12 := H.1
  replace H := H.2
  refine pu_g0 hC fg_X1_147 (by decide +kernel : decode cX1_gain 54 = .ok (.getfield 147, 3)) hU q_12 (by decide) rfl rfl ?_
  refine pv_topi (fun x7_13 e_x7_13 => ?_)
  replace H := H x7_13 e_x7_13
  refine pr_istore hC (by decide +kernel : decode cX1_gain 57 = .ok (.istore 7, 2)) (by decide) rfl ?_
  refine pr_aload_n hC (by decide +kernel : decode cX1_gain 59 = .ok (.aload_n 0, 1)) rfl ?_
  refine pu_g21 hC fg_X1_9 (by decide +kernel : decode cX1_gain 60 = .ok (.getfield 9, 3)) hU ho (by decide) rfl rfl ?_
  have q_14 := H.1
  replace H := H.2
  refine pr_iload_n hC (by decide +kernel : decode cX1_gain 63 = .ok (.iload_n 1, 1)) rfl ?_
  refine pr_iload hC (by decide +kernel : decode cX1_gain 64 = .ok (.iload 4, 2)) rfl ?_
  refine pr_iload hC (by decide +kernel : decode cX1_gain 66 = .ok (.iload 6, 2)) rfl ?_
  refine vc_Vi hC hR [.int a1, .int x4_2, .int x6_8] fv_X1_150 (by decide +kernel : decode cX1_gain 68 = .ok (.invokevirtual 150, 3)) hU (t_X6_roundOn q_14 H) q_14 (by decide) rfl rfl rfl (Nat.le_of_ble_eq_true rfl) (Nat.le_of_ble_eq_true rfl) (Nat.le_refl 0) (Nat.le_refl 0) (fun r_16 U_15 h H hU => ?_)
  refine pr_aload_n hC (by decide +kernel : decode cX1_gain 71 = .ok (.aload_n 0, 1)) rfl ?_
  refine pu_g21 hC fg_X1_9 (by decide +kernel : decode cX1_gain 72 = .ok (.getfield 9, 3)) hU ho (by decide) rfl rfl ?_
  have q_17 := H.1
  replace H := H.2
  refine pr_iload_n hC (by decide +kernel : decode cX1_gain 75 = .ok (.iload_n 1, 1)) rfl ?_
  refine pr_iload hC (by decide +kernel : decode cX1_gain 76 = .ok (.iload 5, 2)) rfl ?_
  refine pr_iload hC (by decide +kernel : decode cX1_gain 78 = .ok (.iload 6, 2)) rfl ?_
  refine vc_Vi hC hR [.int a1, .int x5_3, .int x6_8] fv_X1_150 (by decide +kernel : decode cX1_gain 80 = .ok (.invokevirtual 150, 3)) hU (t_X6_roundOn q_17 H) q_17 (by decide) rfl rfl rfl (Nat.le_of_ble_eq_true rfl) (Nat.le_of_ble_eq_true rfl) (Nat.le_refl 0) (Nat.le_refl 0) (fun r_19 U_18 h H hU => ?_)
  refine pr_isub hC (by decide +kernel : decode cX1_gain 83 = .ok (.isub, 1)) ?_
  refine pv_topi (fun x8_20 e_x8_20 => ?_)
  replace H := H x8_20 e_x8_20
  refine pr_istore hC (by decide +kernel : decode cX1_gain 84 = .ok (.istore 8, 2)) (by decide) rfl ?_
  refine pr_iload hC (by decide +kernel : decode cX1_gain 86 = .ok (.iload 7, 2)) rfl ?_
  refine pr_iload hC (by decide +kernel : decode cX1_gain 88 = .ok (.iload 6, 2)) rfl ?_
  refine pr_icmp_eq hC 123 (by decide +kernel : decode cX1_gain 90 = .ok (.if_icmp .eq 33, 3)) (by decide) (fun c_90 => ?_) (fun c_90 => ?_)
  · replace H := H.1 c_90
    refine pr_iload hC (by decide +kernel : decode cX1_gain 123 = .ok (.iload 8, 2)) rfl ?_
    exact pv_iret hM (by decide +kernel : decode cX1_gain 125 = .ok (.ireturn, 1)) hU H
  replace H := H.2 c_90
  refine pr_iload hC (by decide +kernel : decode cX1_gain 93 = .ok (.iload 8, 2)) rfl ?_
  refine pr_aload_n hC (by decide +kernel : decode cX1_gain 95 = .ok (.aload_n 0, 1)) rfl ?_
  refine pu_g21 hC fg_X1_9 (by decide +kernel : decode cX1_gain 96 = .ok (.getfield 9, 3)) hU ho (by decide) rfl rfl ?_
  have q_21 := H.1
  replace H := H.2
  refine pr_iload_n hC (by decide +kernel : decode cX1_gain 99 = .ok (.iload_n 1, 1)) rfl ?_
  refine pr_iload hC (by decide +kernel : decode cX1_gain 100 = .ok (.iload 4, 2)) rfl ?_
  refine pr_iload hC (by decide +kernel : decode cX1_gain 102 = .ok (.iload 7, 2)) rfl ?_
  refine vc_Vi hC hR [.int a1, .int x4_2, .int x7_13] fv_X1_150 (by decide +kernel : decode cX1_gain 104 = .ok (.invokevirtual 150, 3)) hU (t_X6_roundOn q_21 H) q_21 (by decide) rfl rfl rfl (Nat.le_of_ble_eq_true rfl) (Nat.le_of_ble_eq_true rfl) (Nat.le_refl 0) (Nat.le_refl 0) (fun r_23 U_22 h H hU => ?_)
  refine pr_aload_n hC (by decide +kernel : decode cX1_gain 107 = .ok (.aload_n 0, 1)) rfl ?_
  refine pu_g21 hC fg_X1_9 (by decide +kernel : decode cX1_gain 108 = .ok (.getfield 9, 3)) hU ho (by decide) rfl rfl ?_
  have q_24 := H.1
  replace H := H.2
  refine pr_iload_n hC (by decide +kernel : decode cX1_gain 111 = .ok (.iload_n 1, 1)) rfl ?_
  refine pr_iload hC (by decide +kernel : decode cX1_gain 112 = .ok (.iload 5, 2)) rfl ?_
  refine pr_iload hC (by decide +kernel : decode cX1_gain 114 = .ok (.iload 7, 2)) rfl ?_
  refine vc_Vi hC hR [.int a1, .int x5_3, .int x7_13] fv_X1_150 (by decide +kernel : decode cX1_gain 116 = .ok (.invokevirtual 150, 3)) hU (t_X6_roundOn q_24 H) q_24 (by decide) rfl rfl rfl (Nat.le_of_ble_eq_true rfl) (Nat.le_of_ble_eq_true rfl) (Nat.le_refl 0) (Nat.le_refl 0) (fun r_26 U_25 h H hU => ?_)
  refine pr_isub hC (by decide +kernel : decode cX1_gain 119 = .ok (.isub, 1)) ?_
  refine pr_iadd hC (by decide +kernel : decode cX1_gain 120 = .ok (.iadd, 1)) ?_
  refine pv_topi (fun x8_27 e_x8_27 => ?_)
  replace H := H x8_27 e_x8_27
  refine pr_istore hC (by decide +kernel : decode cX1_gain 121 = .ok (.istore 8, 2)) (by decide) rfl ?_
  refine pr_iload hC (by decide +kernel : decode cX1_gain 123 = .ok (.iload 8, 2)) rfl ?_
  exact pv_iret hM (by decide +kernel : decode cX1_gain 125 = .ok (.ireturn, 1)) hU H
def w_X1_weigh (o : Nat) (a1 : Int32) (a2 : Int32) (a3 : Int32) (a4 : Int32) (U : Um) (post : Um → Prop) : Prop :=
  oc (uR U o 0) = 5 ∧ w_X6_exchangeable (uR U o 0) a1 a2 a3 a4 U (fun r_3 U_2 => (r_3 = 0 → oc (uR U_2 o 0) = 5 ∧ w_X9_placeOf a1 a2 U_2 (fun r_6 U_5 => vp_in r_6 48 ∧ ∀ (x5_7 : Int32), x5_7 = uA U_5 (uR U_2 o 0) 2 (Int32.toNatClampNeg r_6) → oc (uR U_5 o 0) = 5 ∧ w_X9_placeOf a3 a4 U_5 (fun r_10 U_9 => vp_in r_10 48 ∧ ∀ (x6_11 : Int32), x6_11 = uA U_9 (uR U_5 o 0) 2 (Int32.toNatClampNeg r_10) → w_X1_gain o x5_7 a1 a3 U_9 (fun r_13 U_12 => w_X1_gain o x6_11 a3 a1 U_12 (fun r_15 U_14 => ∀ (x7_16 : Int32), x7_16 = r_13 + r_15 → vp_in 0 5 ∧ (x7_16 ≤ (uA U_14 o 6 (Int32.toNatClampNeg 0)) → post U_14) ∧ (¬ x7_16 ≤ (uA U_14 o 6 (Int32.toNatClampNeg 0)) → w_X1_note o x7_16 a1 a2 a3 a4 U_14 (fun U_17 => post U_17))))))) ∧ (¬ r_3 = 0 → post U_2))
set_option maxHeartbeats 4000000 in
theorem t_X1_weigh {l : Launch} {Y : px_Y} {o : Nat} {a1 : Int32} {a2 : Int32} {a3 : Int32} {a4 : Int32} {U : Um} {post : Um → Prop} (ho : oc o = 0) (H : w_X1_weigh o a1 a2 a3 a4 U post) : um l Y 3 yX1_weigh cX1_weigh 8 none [.ref (Y.2.1 o), .int a1, .int a2, .int a3, .int a4] U (pq_v post) := by
  unfold w_X1_weigh at H
  refine um_of (by decide) (Nat.le_of_ble_eq_true rfl) [some (.ref (Y.2.1 o)), some (.int a1), some (.int a2), some (.int a3), some (.int a4), none, none, none] rfl (fun X h0 hh sz hM hU => ?_)
  have hC := hM.1
  have hR := hM.2.2.1
  refine pr_aload_n hC (by decide +kernel : decode cX1_weigh 0 = .ok (.aload_n 0, 1)) rfl ?_
  refine pu_g21 hC fg_X1_9 (by decide +kernel : decode cX1_weigh 1 = .ok (.getfield 9, 3)) hU ho (by decide) rfl rfl ?_
  have q_1 := H.1
  replace H := H.2
  refine pr_iload_n hC (by decide +kernel : decode cX1_weigh 4 = .ok (.iload_n 1, 1)) rfl ?_
  refine pr_iload_n hC (by decide +kernel : decode cX1_weigh 5 = .ok (.iload_n 2, 1)) rfl ?_
  refine pr_iload_n hC (by decide +kernel : decode cX1_weigh 6 = .ok (.iload_n 3, 1)) rfl ?_
  refine pr_iload hC (by decide +kernel : decode cX1_weigh 7 = .ok (.iload 4, 2)) rfl ?_
  refine vc_Vi hC hR [.int a1, .int a2, .int a3, .int a4] fv_X1_141 (by decide +kernel : decode cX1_weigh 9 = .ok (.invokevirtual 141, 3)) hU (t_X6_exchangeable q_1 H) q_1 (by decide) rfl rfl rfl (Nat.le_of_ble_eq_true rfl) (Nat.le_of_ble_eq_true rfl) (Nat.le_refl 0) (Nat.le_refl 0) (fun r_3 U_2 h H hU => ?_)
  refine pr_if_ne hC 87 (by decide +kernel : decode cX1_weigh 12 = .ok (.ifCond .ne 75, 3)) (by decide) (fun c_12 => ?_) (fun c_12 => ?_)
  · replace H := H.2 c_12
    exact pv_vret hM (by decide +kernel : decode cX1_weigh 87 = .ok (.return_, 1)) hU H
  replace H := H.1 c_12
  refine pr_aload_n hC (by decide +kernel : decode cX1_weigh 15 = .ok (.aload_n 0, 1)) rfl ?_
  refine pu_g21 hC fg_X1_9 (by decide +kernel : decode cX1_weigh 16 = .ok (.getfield 9, 3)) hU ho (by decide) rfl rfl ?_
  have q_4 := H.1
  replace H := H.2
  refine pu_g1 hC fg_X1_80 (by decide +kernel : decode cX1_weigh 19 = .ok (.getfield 80, 3)) hU q_4 (by decide) rfl (by decide) ?_
  refine pr_iload_n hC (by decide +kernel : decode cX1_weigh 22 = .ok (.iload_n 1, 1)) rfl ?_
  refine pr_iload_n hC (by decide +kernel : decode cX1_weigh 23 = .ok (.iload_n 2, 1)) rfl ?_
  refine vc_Si hC hR [.int a1, .int a2] fv_X1_83 (by decide +kernel : decode cX1_weigh 24 = .ok (.invokestatic 83, 3)) hU (t_X9_placeOf  H) rfl rfl (Nat.le_of_ble_eq_true rfl) (Nat.le_of_ble_eq_true rfl) (Nat.le_refl 0) (Nat.le_refl 0) (fun r_6 U_5 h H hU => ?_)
  refine pu_iald hC (by decide +kernel : decode cX1_weigh 27 = .ok (.iaload, 1)) hU q_4 rfl H.1 ?_
  replace H := H.2
  refine pv_topi (fun x5_7 e_x5_7 => ?_)
  replace H := H x5_7 e_x5_7
  refine pr_istore hC (by decide +kernel : decode cX1_weigh 28 = .ok (.istore 5, 2)) (by decide) rfl ?_
  refine pr_aload_n hC (by decide +kernel : decode cX1_weigh 30 = .ok (.aload_n 0, 1)) rfl ?_
  refine pu_g21 hC fg_X1_9 (by decide +kernel : decode cX1_weigh 31 = .ok (.getfield 9, 3)) hU ho (by decide) rfl rfl ?_
  have q_8 := H.1
  replace H := H.2
  refine pu_g1 hC fg_X1_80 (by decide +kernel : decode cX1_weigh 34 = .ok (.getfield 80, 3)) hU q_8 (by decide) rfl (by decide) ?_
  refine pr_iload_n hC (by decide +kernel : decode cX1_weigh 37 = .ok (.iload_n 3, 1)) rfl ?_
  refine pr_iload hC (by decide +kernel : decode cX1_weigh 38 = .ok (.iload 4, 2)) rfl ?_
  refine vc_Si hC hR [.int a3, .int a4] fv_X1_83 (by decide +kernel : decode cX1_weigh 40 = .ok (.invokestatic 83, 3)) hU (t_X9_placeOf  H) rfl rfl (Nat.le_of_ble_eq_true rfl) (Nat.le_of_ble_eq_true rfl) (Nat.le_refl 0) (Nat.le_refl 0) (fun r_10 U_9 h H hU => ?_)
  refine pu_iald hC (by decide +kernel : decode cX1_weigh 43 = .ok (.iaload, 1)) hU q_8 rfl H.1 ?_
  replace H := H.2
  refine pv_topi (fun x6_11 e_x6_11 => ?_)
  replace H := H x6_11 e_x6_11
  refine pr_istore hC (by decide +kernel : decode cX1_weigh 44 = .ok (.istore 6, 2)) (by decide) rfl ?_
  refine pr_aload_n hC (by decide +kernel : decode cX1_weigh 46 = .ok (.aload_n 0, 1)) rfl ?_
  refine pr_iload hC (by decide +kernel : decode cX1_weigh 47 = .ok (.iload 5, 2)) rfl ?_
  refine pr_iload_n hC (by decide +kernel : decode cX1_weigh 49 = .ok (.iload_n 1, 1)) rfl ?_
  refine pr_iload_n hC (by decide +kernel : decode cX1_weigh 50 = .ok (.iload_n 3, 1)) rfl ?_
  refine vc_Vi hC hR [.int x5_7, .int a1, .int a3] fv_X1_144 (by decide +kernel : decode cX1_weigh 51 = .ok (.invokevirtual 144, 3)) hU (t_X1_gain ho H) ho (by decide) rfl rfl rfl (Nat.le_of_ble_eq_true rfl) (Nat.le_of_ble_eq_true rfl) (Nat.le_refl 0) (Nat.le_refl 0) (fun r_13 U_12 h H hU => ?_)
  refine pr_aload_n hC (by decide +kernel : decode cX1_weigh 54 = .ok (.aload_n 0, 1)) rfl ?_
  refine pr_iload hC (by decide +kernel : decode cX1_weigh 55 = .ok (.iload 6, 2)) rfl ?_
  refine pr_iload_n hC (by decide +kernel : decode cX1_weigh 57 = .ok (.iload_n 3, 1)) rfl ?_
  refine pr_iload_n hC (by decide +kernel : decode cX1_weigh 58 = .ok (.iload_n 1, 1)) rfl ?_
  refine vc_Vi hC hR [.int x6_11, .int a3, .int a1] fv_X1_144 (by decide +kernel : decode cX1_weigh 59 = .ok (.invokevirtual 144, 3)) hU (t_X1_gain ho H) ho (by decide) rfl rfl rfl (Nat.le_of_ble_eq_true rfl) (Nat.le_of_ble_eq_true rfl) (Nat.le_refl 0) (Nat.le_refl 0) (fun r_15 U_14 h H hU => ?_)
  refine pr_iadd hC (by decide +kernel : decode cX1_weigh 62 = .ok (.iadd, 1)) ?_
  refine pv_topi (fun x7_16 e_x7_16 => ?_)
  replace H := H x7_16 e_x7_16
  refine pr_istore hC (by decide +kernel : decode cX1_weigh 63 = .ok (.istore 7, 2)) (by decide) rfl ?_
  refine pr_iload hC (by decide +kernel : decode cX1_weigh 65 = .ok (.iload 7, 2)) rfl ?_
  refine pr_aload_n hC (by decide +kernel : decode cX1_weigh 67 = .ok (.aload_n 0, 1)) rfl ?_
  refine pu_g1 hC fg_X1_25 (by decide +kernel : decode cX1_weigh 68 = .ok (.getfield 25, 3)) hU ho (by decide) rfl (by decide) ?_
  refine pr_iconst hC (0) (by decide +kernel : decode cX1_weigh 71 = .ok (.iconst 0, 1)) rfl ?_
  refine pu_iald hC (by decide +kernel : decode cX1_weigh 72 = .ok (.iaload, 1)) hU ho rfl H.1 ?_
  replace H := H.2
  refine pr_icmp_le hC 87 (by decide +kernel : decode cX1_weigh 73 = .ok (.if_icmp .le 14, 3)) (by decide) (fun c_73 => ?_) (fun c_73 => ?_)
  · replace H := H.1 c_73
    exact pv_vret hM (by decide +kernel : decode cX1_weigh 87 = .ok (.return_, 1)) hU H
  replace H := H.2 c_73
  refine pr_aload_n hC (by decide +kernel : decode cX1_weigh 76 = .ok (.aload_n 0, 1)) rfl ?_
  refine pr_iload hC (by decide +kernel : decode cX1_weigh 77 = .ok (.iload 7, 2)) rfl ?_
  refine pr_iload_n hC (by decide +kernel : decode cX1_weigh 79 = .ok (.iload_n 1, 1)) rfl ?_
  refine pr_iload_n hC (by decide +kernel : decode cX1_weigh 80 = .ok (.iload_n 2, 1)) rfl ?_
  refine pr_iload_n hC (by decide +kernel : decode cX1_weigh 81 = .ok (.iload_n 3, 1)) rfl ?_
  refine pr_iload hC (by decide +kernel : decode cX1_weigh 82 = .ok (.iload 4, 2)) rfl ?_
  refine vc_Vv hC hR [.int x7_16, .int a1, .int a2, .int a3, .int a4] fv_X1_117 (by decide +kernel : decode cX1_weigh 84 = .ok (.invokevirtual 117, 3)) hU (t_X1_note ho H) ho (by decide) rfl rfl rfl (Nat.le_of_ble_eq_true rfl) (Nat.le_of_ble_eq_true rfl) (Nat.le_refl 0) (Nat.le_refl 0) (fun U_17 h H hU => ?_)
  exact pv_vret hM (by decide +kernel : decode cX1_weigh 87 = .ok (.return_, 1)) hU H
def b_X1_findExchange_L34 (o0 : Nat) (x1 : Int32) (x2 : Int32) (x3 : Int32) (post : Int32 → Um → Prop) (k_77 : Um → Prop) (rec_ : Int32 → Um → Prop) (x4 : Int32) (U : Um) : Prop :=
  (x2 ≤ x4 → k_77 U) ∧ (¬ x2 ≤ x4 → oc (uR U o0 0) = 5 ∧ vp_in x3 48 ∧ ((uA U (uR U o0 0) 2 (Int32.toNatClampNeg x3)) = (-1) → k_77 U) ∧ (¬ (uA U (uR U o0 0) 2 (Int32.toNatClampNeg x3)) = (-1) → w_X1_weigh o0 (x3 / 3) (x3 - x3 / 3 * 3) (x4 / 3) (x4 - x4 / 3 * 3) U (fun U_8 => ∀ (x4_10 : Int32), x4_10 = x4 + 1 → rec_ x4_10 U_8)))
def w_X1_findExchange_L34 (o0 : Nat) (x1 : Int32) (x2 : Int32) (x3 : Int32) (post : Int32 → Um → Prop) (k_77 : Um → Prop) (n_ : Nat) : Int32 → Um → Prop := Nat.rec (motive := fun _ => Int32 → Um → Prop) (fun _ _ => False) (fun _ ih => b_X1_findExchange_L34 o0 x1 x2 x3 post k_77 ih) n_
def b_X1_findExchange_L24 (o0 : Nat) (x1 : Int32) (x2 : Int32) (post : Int32 → Um → Prop) (k_83 : Um → Prop) (rec_ : Int32 → Um → Prop) (x3 : Int32) (U : Um) : Prop :=
  (x2 ≤ x3 → k_83 U) ∧ (¬ x2 ≤ x3 → ∀ (x4_6 : Int32), x4_6 = x3 + 1 → (∃ n_13, w_X1_findExchange_L34 o0 x1 x2 x3 post (fun U_11 => ∀ (x3_12 : Int32), x3_12 = x3 + 1 → rec_ x3_12 U_11) n_13 x4_6 U))
def w_X1_findExchange_L24 (o0 : Nat) (x1 : Int32) (x2 : Int32) (post : Int32 → Um → Prop) (k_83 : Um → Prop) (n_ : Nat) : Int32 → Um → Prop := Nat.rec (motive := fun _ => Int32 → Um → Prop) (fun _ _ => False) (fun _ ih => b_X1_findExchange_L24 o0 x1 x2 post k_83 ih) n_
def w_X1_findExchange (o : Nat) (a1 : Int32) (U : Um) (post : Int32 → Um → Prop) : Prop :=
  w_X1_note o 0 (-1) (-1) (-1) (-1) U (fun U_1 => oc (uR U_1 o 0) = 5 ∧ oc (uR U_1 (uR U_1 o 0) 0) = 8 ∧ ∀ (x2_5 : Int32), x2_5 = 3 * (uI U_1 (uR U_1 (uR U_1 o 0) 0) 7) → (∃ n_15, w_X1_findExchange_L24 o a1 x2_5 post (fun U_14 => vp_in a1 5 ∧ post (uA U_14 o 6 (Int32.toNatClampNeg a1)) U_14) n_15 0 U_1))
set_option maxHeartbeats 4000000 in
theorem tl_X1_findExchange_L34 {l : Launch} {Y : px_Y} {X : px_X} {h0 hh : pe_H} {sz : Nat} (o0 : Nat) (x1 : Int32) (x2 : Int32) (x3 : Int32) (post : Int32 → Um → Prop) (k_77 : Um → Prop) (ho0 : oc o0 = 0)  (hC : px_C X Y.1 (pm_A hh sz) cX1_findExchange RX1 5) (hM : px_M l X Y.1 hh sz yX1_findExchange cX1_findExchange 5 (some (.int)) 4 0 0) (hR : X.2.2.2.1 = pm_rm 4 0 0) (hk_77 : ∀ (U : Um) (h : pe_H), k_77 U → rF Y h0 U h → pw X Y.1 (pm_A hh sz) (pm_E X Y.1 hh sz 0 0 (pm_P Y h0 sz (pq_i post))) 77 [some (.ref (Y.2.1 o0)), some (.int x1), some (.int x2), some (.int x3), none] [] h sz 0 0) : ∀ (n_ : Nat) (x4 : Int32) (U : Um) (h : pe_H), rF Y h0 U h → w_X1_findExchange_L34 o0 x1 x2 x3 post k_77 n_ x4 U → pw X Y.1 (pm_A hh sz) (pm_E X Y.1 hh sz 0 0 (pm_P Y h0 sz (pq_i post))) 34 [some (.ref (Y.2.1 o0)), some (.int x1), some (.int x2), some (.int x3), some (.int x4)] [] h sz 0 0 := by
  intro n_
  induction n_ with
  | zero => intro x4 U h hU H; exact False.elim H
  | succ n_ ih =>
    intro x4 U h hU H
    replace H : b_X1_findExchange_L34 o0 x1 x2 x3 post k_77 (w_X1_findExchange_L34 o0 x1 x2 x3 post k_77 n_) x4 U := H
    unfold b_X1_findExchange_L34 at H
    refine pr_iload hC (by decide +kernel : decode cX1_findExchange 34 = .ok (.iload 4, 2)) rfl ?_
    refine pr_iload_n hC (by decide +kernel : decode cX1_findExchange 36 = .ok (.iload_n 2, 1)) rfl ?_
    refine pr_icmp_ge hC 77 (by decide +kernel : decode cX1_findExchange 37 = .ok (.if_icmp .ge 40, 3)) (by decide) (fun c_37 => ?_) (fun c_37 => ?_)
    · replace H := H.1 c_37
      exact pv_sub [some (.ref (Y.2.1 o0)), some (.int x1), some (.int x2), some (.int x3), none] (And.intro rfl (And.intro rfl (And.intro rfl (And.intro rfl trivial)))) (hk_77 U h H hU)
    replace H := H.2 c_37
    refine pr_aload_n hC (by decide +kernel : decode cX1_findExchange 40 = .ok (.aload_n 0, 1)) rfl ?_
    refine pu_g21 hC fg_X1_9 (by decide +kernel : decode cX1_findExchange 41 = .ok (.getfield 9, 3)) hU ho0 (by decide) rfl rfl ?_
    have q_7 := H.1
    replace H := H.2
    refine pu_g1 hC fg_X1_80 (by decide +kernel : decode cX1_findExchange 44 = .ok (.getfield 80, 3)) hU q_7 (by decide) rfl (by decide) ?_
    refine pr_iload_n hC (by decide +kernel : decode cX1_findExchange 47 = .ok (.iload_n 3, 1)) rfl ?_
    refine pu_iald hC (by decide +kernel : decode cX1_findExchange 48 = .ok (.iaload, 1)) hU q_7 rfl H.1 ?_
    replace H := H.2
    refine pr_iconst hC (-1) (by decide +kernel : decode cX1_findExchange 49 = .ok (.iconst (-1), 1)) rfl ?_
    refine pr_icmp_eq hC 77 (by decide +kernel : decode cX1_findExchange 50 = .ok (.if_icmp .eq 27, 3)) (by decide) (fun c_50 => ?_) (fun c_50 => ?_)
    · replace H := H.1 c_50
      exact pv_sub [some (.ref (Y.2.1 o0)), some (.int x1), some (.int x2), some (.int x3), none] (And.intro rfl (And.intro rfl (And.intro rfl (And.intro rfl trivial)))) (hk_77 U h H hU)
    replace H := H.2 c_50
    refine pr_aload_n hC (by decide +kernel : decode cX1_findExchange 53 = .ok (.aload_n 0, 1)) rfl ?_
    refine pr_iload_n hC (by decide +kernel : decode cX1_findExchange 54 = .ok (.iload_n 3, 1)) rfl ?_
    refine pr_iconst hC (3) (by decide +kernel : decode cX1_findExchange 55 = .ok (.iconst 3, 1)) rfl ?_
    refine pr_idiv hC (by decide +kernel : decode cX1_findExchange 56 = .ok (.idiv, 1)) (by decide) ?_
    refine pr_iload_n hC (by decide +kernel : decode cX1_findExchange 57 = .ok (.iload_n 3, 1)) rfl ?_
    refine pr_iconst hC (3) (by decide +kernel : decode cX1_findExchange 58 = .ok (.iconst 3, 1)) rfl ?_
    refine pr_irem hC (by decide +kernel : decode cX1_findExchange 59 = .ok (.irem, 1)) (by decide) ?_
    refine pr_iload hC (by decide +kernel : decode cX1_findExchange 60 = .ok (.iload 4, 2)) rfl ?_
    refine pr_iconst hC (3) (by decide +kernel : decode cX1_findExchange 62 = .ok (.iconst 3, 1)) rfl ?_
    refine pr_idiv hC (by decide +kernel : decode cX1_findExchange 63 = .ok (.idiv, 1)) (by decide) ?_
    refine pr_iload hC (by decide +kernel : decode cX1_findExchange 64 = .ok (.iload 4, 2)) rfl ?_
    refine pr_iconst hC (3) (by decide +kernel : decode cX1_findExchange 66 = .ok (.iconst 3, 1)) rfl ?_
    refine pr_irem hC (by decide +kernel : decode cX1_findExchange 67 = .ok (.irem, 1)) (by decide) ?_
    refine vc_Vv hC hR [.int (x3 / 3), .int (x3 - x3 / 3 * 3), .int (x4 / 3), .int (x4 - x4 / 3 * 3)] fv_X1_138 (by decide +kernel : decode cX1_findExchange 68 = .ok (.invokevirtual 138, 3)) hU (t_X1_weigh ho0 H) ho0 (by decide) rfl rfl rfl (Nat.le_of_ble_eq_true rfl) (Nat.le_of_ble_eq_true rfl) (Nat.le_refl 0) (Nat.le_refl 0) (fun U_8 h H hU => ?_)
    refine pv_iinc hC (v := x4 + 1) (by decide +kernel : decode cX1_findExchange 71 = .ok (.iinc 4 1, 3)) rfl (by decide) rfl rfl (fun x4_10 e_x4_10 => ?_)
    replace H := H x4_10 e_x4_10
    refine pr_goto hC 34 (by decide +kernel : decode cX1_findExchange 74 = .ok (.goto (-40), 3)) (by decide) ?_
    exact pv_sub [some (.ref (Y.2.1 o0)), some (.int x1), some (.int x2), some (.int x3), some (.int x4_10)] (And.intro rfl (And.intro rfl (And.intro rfl (And.intro rfl (And.intro rfl trivial))))) (ih _ U_8 h hU H)
set_option maxHeartbeats 4000000 in
theorem tl_X1_findExchange_L24 {l : Launch} {Y : px_Y} {X : px_X} {h0 hh : pe_H} {sz : Nat} (o0 : Nat) (x1 : Int32) (x2 : Int32) (post : Int32 → Um → Prop) (k_83 : Um → Prop) (ho0 : oc o0 = 0)  (hC : px_C X Y.1 (pm_A hh sz) cX1_findExchange RX1 5) (hM : px_M l X Y.1 hh sz yX1_findExchange cX1_findExchange 5 (some (.int)) 4 0 0) (hR : X.2.2.2.1 = pm_rm 4 0 0) (hk_83 : ∀ (U : Um) (h : pe_H), k_83 U → rF Y h0 U h → pw X Y.1 (pm_A hh sz) (pm_E X Y.1 hh sz 0 0 (pm_P Y h0 sz (pq_i post))) 83 [some (.ref (Y.2.1 o0)), some (.int x1), none, none, none] [] h sz 0 0) : ∀ (n_ : Nat) (x3 : Int32) (U : Um) (h : pe_H), rF Y h0 U h → w_X1_findExchange_L24 o0 x1 x2 post k_83 n_ x3 U → pw X Y.1 (pm_A hh sz) (pm_E X Y.1 hh sz 0 0 (pm_P Y h0 sz (pq_i post))) 24 [some (.ref (Y.2.1 o0)), some (.int x1), some (.int x2), some (.int x3), none] [] h sz 0 0 := by
  intro n_
  induction n_ with
  | zero => intro x3 U h hU H; exact False.elim H
  | succ n_ ih =>
    intro x3 U h hU H
    replace H : b_X1_findExchange_L24 o0 x1 x2 post k_83 (w_X1_findExchange_L24 o0 x1 x2 post k_83 n_) x3 U := H
    unfold b_X1_findExchange_L24 at H
    refine pr_iload_n hC (by decide +kernel : decode cX1_findExchange 24 = .ok (.iload_n 3, 1)) rfl ?_
    refine pr_iload_n hC (by decide +kernel : decode cX1_findExchange 25 = .ok (.iload_n 2, 1)) rfl ?_
    refine pr_icmp_ge hC 83 (by decide +kernel : decode cX1_findExchange 26 = .ok (.if_icmp .ge 57, 3)) (by decide) (fun c_26 => ?_) (fun c_26 => ?_)
    · replace H := H.1 c_26
      exact pv_sub [some (.ref (Y.2.1 o0)), some (.int x1), none, none, none] (And.intro rfl (And.intro rfl trivial)) (hk_83 U h H hU)
    replace H := H.2 c_26
    refine pr_iload_n hC (by decide +kernel : decode cX1_findExchange 29 = .ok (.iload_n 3, 1)) rfl ?_
    refine pr_iconst hC (1) (by decide +kernel : decode cX1_findExchange 30 = .ok (.iconst 1, 1)) rfl ?_
    refine pr_iadd hC (by decide +kernel : decode cX1_findExchange 31 = .ok (.iadd, 1)) ?_
    refine pv_topi (fun x4_6 e_x4_6 => ?_)
    replace H := H x4_6 e_x4_6
    refine pr_istore hC (by decide +kernel : decode cX1_findExchange 32 = .ok (.istore 4, 2)) (by decide) rfl ?_
    obtain ⟨n_13, H⟩ := H
    refine pv_sub [some (.ref (Y.2.1 o0)), some (.int x1), some (.int x2), some (.int x3), some (.int x4_6)] (And.intro rfl (And.intro rfl (And.intro rfl (And.intro rfl (And.intro rfl trivial))))) ?_
    refine tl_X1_findExchange_L34 _ _ _ _ _ _ ho0 hC hM hR (fun U_11 h H hU => ?_) n_13 _ U h hU H
    refine pv_iinc hC (v := x3 + 1) (by decide +kernel : decode cX1_findExchange 77 = .ok (.iinc 3 1, 3)) rfl (by decide) rfl rfl (fun x3_12 e_x3_12 => ?_)
    replace H := H x3_12 e_x3_12
    refine pr_goto hC 24 (by decide +kernel : decode cX1_findExchange 80 = .ok (.goto (-56), 3)) (by decide) ?_
    exact pv_sub [some (.ref (Y.2.1 o0)), some (.int x1), some (.int x2), some (.int x3_12), none] (And.intro rfl (And.intro rfl (And.intro rfl (And.intro rfl trivial)))) (ih _ U_11 h hU H)
set_option maxHeartbeats 4000000 in
theorem t_X1_findExchange {l : Launch} {Y : px_Y} {o : Nat} {a1 : Int32} {U : Um} {post : Int32 → Um → Prop} (ho : oc o = 0) (H : w_X1_findExchange o a1 U post) : um l Y 4 yX1_findExchange cX1_findExchange 5 (some (.int)) [.ref (Y.2.1 o), .int a1] U (pq_i post) := by
  unfold w_X1_findExchange at H
  refine um_of (by decide) (Nat.le_of_ble_eq_true rfl) [some (.ref (Y.2.1 o)), some (.int a1), none, none, none] rfl (fun X h0 hh sz hM hU => ?_)
  have hC := hM.1
  have hR := hM.2.2.1
  refine pr_aload_n hC (by decide +kernel : decode cX1_findExchange 0 = .ok (.aload_n 0, 1)) rfl ?_
  refine pr_iconst hC (0) (by decide +kernel : decode cX1_findExchange 1 = .ok (.iconst 0, 1)) rfl ?_
  refine pr_iconst hC (-1) (by decide +kernel : decode cX1_findExchange 2 = .ok (.iconst (-1), 1)) rfl ?_
  refine pr_iconst hC (-1) (by decide +kernel : decode cX1_findExchange 3 = .ok (.iconst (-1), 1)) rfl ?_
  refine pr_iconst hC (-1) (by decide +kernel : decode cX1_findExchange 4 = .ok (.iconst (-1), 1)) rfl ?_
  refine pr_iconst hC (-1) (by decide +kernel : decode cX1_findExchange 5 = .ok (.iconst (-1), 1)) rfl ?_
  refine vc_Vv hC hR [.int 0, .int (-1), .int (-1), .int (-1), .int (-1)] fv_X1_117 (by decide +kernel : decode cX1_findExchange 6 = .ok (.invokevirtual 117, 3)) hU (t_X1_note ho H) ho (by decide) rfl rfl rfl (Nat.le_of_ble_eq_true rfl) (Nat.le_of_ble_eq_true rfl) (Nat.le_refl 0) (Nat.le_refl 0) (fun U_1 h H hU => ?_)
  refine pr_iconst hC (3) (by decide +kernel : decode cX1_findExchange 9 = .ok (.iconst 3, 1)) rfl ?_
  refine pr_aload_n hC (by decide +kernel : decode cX1_findExchange 10 = .ok (.aload_n 0, 1)) rfl ?_
  refine pu_g21 hC fg_X1_9 (by decide +kernel : decode cX1_findExchange 11 = .ok (.getfield 9, 3)) hU ho (by decide) rfl rfl ?_
  have q_3 := H.1
  replace H := H.2
  refine pu_g21 hC fg_X1_65 (by decide +kernel : decode cX1_findExchange 14 = .ok (.getfield 65, 3)) hU q_3 (by decide) rfl rfl ?_
  have q_4 := H.1
  replace H := H.2
  refine pu_g0 hC fg_X1_100 (by decide +kernel : decode cX1_findExchange 17 = .ok (.getfield 100, 3)) hU q_4 (by decide) rfl rfl ?_
  refine pr_imul hC (by decide +kernel : decode cX1_findExchange 20 = .ok (.imul, 1)) ?_
  refine pv_topi (fun x2_5 e_x2_5 => ?_)
  replace H := H x2_5 e_x2_5
  refine pr_istore_n hC (by decide +kernel : decode cX1_findExchange 21 = .ok (.istore_n 2, 1)) (by decide) rfl ?_
  refine pr_iconst hC (0) (by decide +kernel : decode cX1_findExchange 22 = .ok (.iconst 0, 1)) rfl ?_
  refine pr_istore_n hC (by decide +kernel : decode cX1_findExchange 23 = .ok (.istore_n 3, 1)) (by decide) rfl ?_
  obtain ⟨n_15, H⟩ := H
  refine pv_sub [some (.ref (Y.2.1 o)), some (.int a1), some (.int x2_5), some (.int 0), none] (And.intro rfl (And.intro rfl (And.intro rfl (And.intro rfl trivial)))) ?_
  refine tl_X1_findExchange_L24 _ _ _ _ _ ho hC hM hR (fun U_14 h H hU => ?_) n_15 _ U_1 h hU H
  refine pr_aload_n hC (by decide +kernel : decode cX1_findExchange 83 = .ok (.aload_n 0, 1)) rfl ?_
  refine pu_g1 hC fg_X1_25 (by decide +kernel : decode cX1_findExchange 84 = .ok (.getfield 25, 3)) hU ho (by decide) rfl (by decide) ?_
  refine pr_iload_n hC (by decide +kernel : decode cX1_findExchange 87 = .ok (.iload_n 1, 1)) rfl ?_
  refine pu_iald hC (by decide +kernel : decode cX1_findExchange 88 = .ok (.iaload, 1)) hU ho rfl H.1 ?_
  replace H := H.2
  exact pv_iret hM (by decide +kernel : decode cX1_findExchange 89 = .ok (.ireturn, 1)) hU H
def w_X2_ends (o : Nat) (U : Um) (post : Int32 → Um → Prop) : Prop :=
  post ((uI U o 4) + (uI U o 5)) U
set_option maxHeartbeats 4000000 in
theorem t_X2_ends {l : Launch} {Y : px_Y} {o : Nat} {U : Um} {post : Int32 → Um → Prop} (ho : oc o = 1) (H : w_X2_ends o U post) : um l Y 0 yX2_ends cX2_ends 1 (some (.int)) [.ref (Y.2.1 o)] U (pq_i post) := by
  unfold w_X2_ends at H
  refine um_of (by decide) (Nat.le_of_ble_eq_true rfl) [some (.ref (Y.2.1 o))] rfl (fun X h0 hh sz hM hU => ?_)
  have hC := hM.1
  have hR := hM.2.2.1
  refine pr_aload_n hC (by decide +kernel : decode cX2_ends 0 = .ok (.aload_n 0, 1)) rfl ?_
  refine pu_g0 hC fg_X2_9 (by decide +kernel : decode cX2_ends 1 = .ok (.getfield 9, 3)) hU ho (by decide) rfl rfl ?_
  refine pr_aload_n hC (by decide +kernel : decode cX2_ends 4 = .ok (.aload_n 0, 1)) rfl ?_
  refine pu_g0 hC fg_X2_15 (by decide +kernel : decode cX2_ends 5 = .ok (.getfield 15, 3)) hU ho (by decide) rfl rfl ?_
  refine pr_iadd hC (by decide +kernel : decode cX2_ends 8 = .ok (.iadd, 1)) ?_
  exact pv_iret hM (by decide +kernel : decode cX2_ends 9 = .ok (.ireturn, 1)) hU H
def w_X2_compare (o : Nat) (a1 : Nat) (a2 : Int32) (a3 : Int32) (U : Um) (post : Um → Prop) : Prop :=
  w_X2_ends a1 U (fun r_2 U_1 => (∀ K_3 : Int32 → Um → Prop, (∀ (xs_4 : Int32) (U_5 : Um), ((∀ K_6 : Int32 → Um → Prop, (∀ (xs_7 : Int32) (U_8 : Um), (∀ (xs_9 : Int32), xs_9 = (if xs_4 = 0 then 0 else a2) → ∀ (U_10 : Um), U_10 = sI U_8 o 8 ((uI U_8 o 8) ||| xs_9) → (a3 = (-1) → ∀ (U_11 : Um), U_11 = sI U_10 o 9 ((uI U_10 o 9) ||| a2) → post U_11) ∧ (¬ a3 = (-1) → (a3 ≤ xs_7 → ∀ (U_12 : Um), U_12 = sI U_10 o 9 ((uI U_10 o 9) ||| 0) → post U_12) ∧ (¬ a3 ≤ xs_7 → ∀ (U_13 : Um), U_13 = sI U_10 o 9 ((uI U_10 o 9) ||| a2) → post U_13))) → K_6 xs_7 U_8) → ((uI U_5 a1 4) ≤ (uI U_5 o 4) → w_X2_ends a1 U_5 (fun r_16 U_15 => K_6 ((uI U_5 o 4) - r_16) U_15)) ∧ (¬ (uI U_5 a1 4) ≤ (uI U_5 o 4) → w_X2_ends o U_5 (fun r_18 U_17 => K_6 ((uI U_5 a1 4) - r_18) U_17)))) → K_3 xs_4 U_5) → (r_2 ≤ (uI U o 4) → K_3 0 U_1) ∧ (¬ r_2 ≤ (uI U o 4) → w_X2_ends o U_1 (fun r_20 U_19 => (r_20 ≤ (uI U_1 a1 4) → K_3 0 U_19) ∧ (¬ r_20 ≤ (uI U_1 a1 4) → K_3 1 U_19)))))
set_option maxHeartbeats 4000000 in
theorem t_X2_compare {l : Launch} {Y : px_Y} {o : Nat} {a1 : Nat} {a2 : Int32} {a3 : Int32} {U : Um} {post : Um → Prop} (ho : oc o = 1) (ha1 : oc a1 = 1) (H : w_X2_compare o a1 a2 a3 U post) : um l Y 1 yX2_compare cX2_compare 6 none [.ref (Y.2.1 o), .ref (Y.2.1 a1), .int a2, .int a3] U (pq_v post) := by
  unfold w_X2_compare at H
  refine um_of (by decide) (Nat.le_of_ble_eq_true rfl) [some (.ref (Y.2.1 o)), some (.ref (Y.2.1 a1)), some (.int a2), some (.int a3), none, none] rfl (fun X h0 hh sz hM hU => ?_)
  have hC := hM.1
  have hR := hM.2.2.1
  refine pr_aload_n hC (by decide +kernel : decode cX2_compare 0 = .ok (.aload_n 0, 1)) rfl ?_
  refine pu_g0 hC fg_X2_9 (by decide +kernel : decode cX2_compare 1 = .ok (.getfield 9, 3)) hU ho (by decide) rfl rfl ?_
  refine pr_aload_n hC (by decide +kernel : decode cX2_compare 4 = .ok (.aload_n 1, 1)) rfl ?_
  refine vc_Vi hC hR [] fv_X2_21 (by decide +kernel : decode cX2_compare 5 = .ok (.invokevirtual 21, 3)) hU (t_X2_ends ha1 H) ha1 (by decide) rfl rfl rfl (Nat.le_of_ble_eq_true rfl) (Nat.le_of_ble_eq_true rfl) (Nat.le_refl 0) (Nat.le_refl 0) (fun r_2 U_1 h H hU => ?_)
  replace H := H (fun xs_4 U_5 => ∀ h : pe_H, rF Y h0 U_5 h → pw X Y.1 (pm_A hh sz) (pm_E X Y.1 hh sz 0 0 (pm_P Y h0 sz (pq_v post))) 27 [some (.ref (Y.2.1 o)), some (.ref (Y.2.1 a1)), some (.int a2), some (.int a3), none, none] [.int xs_4] h sz 0 0) (by
    intro xs_4 U_5 H h hU
    refine pr_istore hC (by decide +kernel : decode cX2_compare 27 = .ok (.istore 4, 2)) (by decide) rfl ?_
    refine pr_aload_n hC (by decide +kernel : decode cX2_compare 29 = .ok (.aload_n 0, 1)) rfl ?_
    refine pu_g0 hC fg_X2_9 (by decide +kernel : decode cX2_compare 30 = .ok (.getfield 9, 3)) hU ho (by decide) rfl rfl ?_
    refine pr_aload_n hC (by decide +kernel : decode cX2_compare 33 = .ok (.aload_n 1, 1)) rfl ?_
    refine pu_g0 hC fg_X2_9 (by decide +kernel : decode cX2_compare 34 = .ok (.getfield 9, 3)) hU ha1 (by decide) rfl rfl ?_
    replace H := H (fun xs_7 U_8 => ∀ h : pe_H, rF Y h0 U_8 h → pw X Y.1 (pm_A hh sz) (pm_E X Y.1 hh sz 0 0 (pm_P Y h0 sz (pq_v post))) 61 [some (.ref (Y.2.1 o)), none, some (.int a2), some (.int a3), some (.int xs_4), none] [.int xs_7] h sz 0 0) (by
      intro xs_7 U_8 H h hU
      refine pr_istore hC (by decide +kernel : decode cX2_compare 61 = .ok (.istore 5, 2)) (by decide) rfl ?_
      refine pr_aload_n hC (by decide +kernel : decode cX2_compare 63 = .ok (.aload_n 0, 1)) rfl ?_
      refine pr_dup hC (by decide +kernel : decode cX2_compare 64 = .ok (.dup, 1)) rfl ?_
      refine pu_g0 hC fg_X2_25 (by decide +kernel : decode cX2_compare 65 = .ok (.getfield 25, 3)) hU ho (by decide) rfl rfl ?_
      refine pr_iload hC (by decide +kernel : decode cX2_compare 68 = .ok (.iload 4, 2)) rfl ?_
      have HJ_14 : ∀ (xs_9 : Int32), xs_9 = (if xs_4 = 0 then 0 else a2) → pw X Y.1 (pm_A hh sz) (pm_E X Y.1 hh sz 0 0 (pm_P Y h0 sz (pq_v post))) 78 [some (.ref (Y.2.1 o)), none, some (.int a2), some (.int a3), none, some (.int xs_7)] [.int xs_9, .int (uI U_8 o 8), .ref (Y.2.1 o)] h sz 0 0 := by
        intro xs_9 e_xs_9
        replace H := H xs_9 e_xs_9
        refine pr_ior hC (by decide +kernel : decode cX2_compare 78 = .ok (.ior, 1)) ?_
        refine pv_p0 hC fp_X2_25 (by decide +kernel : decode cX2_compare 79 = .ok (.putfield 25, 3)) hU ho (by decide) rfl rfl rfl rfl (fun U_10 h e_U_10 hU => ?_)
        replace H := H U_10 e_U_10
        refine pr_aload_n hC (by decide +kernel : decode cX2_compare 82 = .ok (.aload_n 0, 1)) rfl ?_
        refine pr_dup hC (by decide +kernel : decode cX2_compare 83 = .ok (.dup, 1)) rfl ?_
        refine pu_g0 hC fg_X2_28 (by decide +kernel : decode cX2_compare 84 = .ok (.getfield 28, 3)) hU ho (by decide) rfl rfl ?_
        refine pr_iload_n hC (by decide +kernel : decode cX2_compare 87 = .ok (.iload_n 3, 1)) rfl ?_
        refine pr_iconst hC (-1) (by decide +kernel : decode cX2_compare 88 = .ok (.iconst (-1), 1)) rfl ?_
        refine pr_icmp_eq hC 98 (by decide +kernel : decode cX2_compare 89 = .ok (.if_icmp .eq 9, 3)) (by decide) (fun c_89 => ?_) (fun c_89 => ?_)
        · replace H := H.1 c_89
          refine pr_iload_n hC (by decide +kernel : decode cX2_compare 98 = .ok (.iload_n 2, 1)) rfl ?_
          refine pr_goto hC 103 (by decide +kernel : decode cX2_compare 99 = .ok (.goto 4, 3)) (by decide) ?_
          refine pr_ior hC (by decide +kernel : decode cX2_compare 103 = .ok (.ior, 1)) ?_
          refine pv_p0 hC fp_X2_28 (by decide +kernel : decode cX2_compare 104 = .ok (.putfield 28, 3)) hU ho (by decide) rfl rfl rfl rfl (fun U_11 h e_U_11 hU => ?_)
          replace H := H U_11 e_U_11
          exact pv_vret hM (by decide +kernel : decode cX2_compare 107 = .ok (.return_, 1)) hU H
        replace H := H.2 c_89
        refine pr_iload hC (by decide +kernel : decode cX2_compare 92 = .ok (.iload 5, 2)) rfl ?_
        refine pr_iload_n hC (by decide +kernel : decode cX2_compare 94 = .ok (.iload_n 3, 1)) rfl ?_
        refine pr_icmp_ge hC 102 (by decide +kernel : decode cX2_compare 95 = .ok (.if_icmp .ge 7, 3)) (by decide) (fun c_95 => ?_) (fun c_95 => ?_)
        · replace H := H.1 c_95
          refine pr_iconst hC (0) (by decide +kernel : decode cX2_compare 102 = .ok (.iconst 0, 1)) rfl ?_
          refine pr_ior hC (by decide +kernel : decode cX2_compare 103 = .ok (.ior, 1)) ?_
          refine pv_p0 hC fp_X2_28 (by decide +kernel : decode cX2_compare 104 = .ok (.putfield 28, 3)) hU ho (by decide) rfl rfl rfl rfl (fun U_12 h e_U_12 hU => ?_)
          replace H := H U_12 e_U_12
          exact pv_vret hM (by decide +kernel : decode cX2_compare 107 = .ok (.return_, 1)) hU H
        replace H := H.2 c_95
        refine pr_iload_n hC (by decide +kernel : decode cX2_compare 98 = .ok (.iload_n 2, 1)) rfl ?_
        refine pr_goto hC 103 (by decide +kernel : decode cX2_compare 99 = .ok (.goto 4, 3)) (by decide) ?_
        refine pr_ior hC (by decide +kernel : decode cX2_compare 103 = .ok (.ior, 1)) ?_
        refine pv_p0 hC fp_X2_28 (by decide +kernel : decode cX2_compare 104 = .ok (.putfield 28, 3)) hU ho (by decide) rfl rfl rfl rfl (fun U_13 h e_U_13 hU => ?_)
        replace H := H U_13 e_U_13
        exact pv_vret hM (by decide +kernel : decode cX2_compare 107 = .ok (.return_, 1)) hU H
      replace H := trivial
      refine pr_if_eq hC 77 (by decide +kernel : decode cX2_compare 70 = .ok (.ifCond .eq 7, 3)) (by decide) (fun c_70 => ?_) (fun c_70 => ?_)
      · skip
        refine pr_iconst hC (0) (by decide +kernel : decode cX2_compare 77 = .ok (.iconst 0, 1)) rfl ?_
        exact pv_sub [some (.ref (Y.2.1 o)), none, some (.int a2), some (.int a3), none, some (.int xs_7)] (And.intro rfl (And.intro rfl (And.intro rfl (And.intro rfl trivial)))) (HJ_14 _ (if_pos c_70).symm)
      skip
      refine pr_iload_n hC (by decide +kernel : decode cX2_compare 73 = .ok (.iload_n 2, 1)) rfl ?_
      refine pr_goto hC 78 (by decide +kernel : decode cX2_compare 74 = .ok (.goto 4, 3)) (by decide) ?_
      exact pv_sub [some (.ref (Y.2.1 o)), none, some (.int a2), some (.int a3), none, some (.int xs_7)] (And.intro rfl (And.intro rfl (And.intro rfl (And.intro rfl trivial)))) (HJ_14 _ (if_neg c_70).symm))
    refine pr_icmp_ge hC 52 (by decide +kernel : decode cX2_compare 37 = .ok (.if_icmp .ge 15, 3)) (by decide) (fun c_37 => ?_) (fun c_37 => ?_)
    · replace H := H.1 c_37
      refine pr_aload_n hC (by decide +kernel : decode cX2_compare 52 = .ok (.aload_n 0, 1)) rfl ?_
      refine pu_g0 hC fg_X2_9 (by decide +kernel : decode cX2_compare 53 = .ok (.getfield 9, 3)) hU ho (by decide) rfl rfl ?_
      refine pr_aload_n hC (by decide +kernel : decode cX2_compare 56 = .ok (.aload_n 1, 1)) rfl ?_
      refine vc_Vi hC hR [] fv_X2_21 (by decide +kernel : decode cX2_compare 57 = .ok (.invokevirtual 21, 3)) hU (t_X2_ends ha1 H) ha1 (by decide) rfl rfl rfl (Nat.le_of_ble_eq_true rfl) (Nat.le_of_ble_eq_true rfl) (Nat.le_refl 0) (Nat.le_refl 0) (fun r_16 U_15 h H hU => ?_)
      refine pr_isub hC (by decide +kernel : decode cX2_compare 60 = .ok (.isub, 1)) ?_
      exact pv_sub [some (.ref (Y.2.1 o)), none, some (.int a2), some (.int a3), some (.int xs_4), none] (And.intro rfl (And.intro rfl (And.intro rfl (And.intro rfl trivial)))) (H h hU)
    replace H := H.2 c_37
    refine pr_aload_n hC (by decide +kernel : decode cX2_compare 40 = .ok (.aload_n 1, 1)) rfl ?_
    refine pu_g0 hC fg_X2_9 (by decide +kernel : decode cX2_compare 41 = .ok (.getfield 9, 3)) hU ha1 (by decide) rfl rfl ?_
    refine pr_aload_n hC (by decide +kernel : decode cX2_compare 44 = .ok (.aload_n 0, 1)) rfl ?_
    refine vc_Vi hC hR [] fv_X2_21 (by decide +kernel : decode cX2_compare 45 = .ok (.invokevirtual 21, 3)) hU (t_X2_ends ho H) ho (by decide) rfl rfl rfl (Nat.le_of_ble_eq_true rfl) (Nat.le_of_ble_eq_true rfl) (Nat.le_refl 0) (Nat.le_refl 0) (fun r_18 U_17 h H hU => ?_)
    refine pr_isub hC (by decide +kernel : decode cX2_compare 48 = .ok (.isub, 1)) ?_
    refine pr_goto hC 61 (by decide +kernel : decode cX2_compare 49 = .ok (.goto 12, 3)) (by decide) ?_
    exact pv_sub [some (.ref (Y.2.1 o)), none, some (.int a2), some (.int a3), some (.int xs_4), none] (And.intro rfl (And.intro rfl (And.intro rfl (And.intro rfl trivial)))) (H h hU))
  refine pr_icmp_ge hC 26 (by decide +kernel : decode cX2_compare 8 = .ok (.if_icmp .ge 18, 3)) (by decide) (fun c_8 => ?_) (fun c_8 => ?_)
  · replace H := H.1 c_8
    refine pr_iconst hC (0) (by decide +kernel : decode cX2_compare 26 = .ok (.iconst 0, 1)) rfl ?_
    exact pv_sub [some (.ref (Y.2.1 o)), some (.ref (Y.2.1 a1)), some (.int a2), some (.int a3), none, none] (And.intro rfl (And.intro rfl (And.intro rfl (And.intro rfl trivial)))) (H h hU)
  replace H := H.2 c_8
  refine pr_aload_n hC (by decide +kernel : decode cX2_compare 11 = .ok (.aload_n 1, 1)) rfl ?_
  refine pu_g0 hC fg_X2_9 (by decide +kernel : decode cX2_compare 12 = .ok (.getfield 9, 3)) hU ha1 (by decide) rfl rfl ?_
  refine pr_aload_n hC (by decide +kernel : decode cX2_compare 15 = .ok (.aload_n 0, 1)) rfl ?_
  refine vc_Vi hC hR [] fv_X2_21 (by decide +kernel : decode cX2_compare 16 = .ok (.invokevirtual 21, 3)) hU (t_X2_ends ho H) ho (by decide) rfl rfl rfl (Nat.le_of_ble_eq_true rfl) (Nat.le_of_ble_eq_true rfl) (Nat.le_refl 0) (Nat.le_refl 0) (fun r_20 U_19 h H hU => ?_)
  refine pr_icmp_ge hC 26 (by decide +kernel : decode cX2_compare 19 = .ok (.if_icmp .ge 7, 3)) (by decide) (fun c_19 => ?_) (fun c_19 => ?_)
  · replace H := H.1 c_19
    refine pr_iconst hC (0) (by decide +kernel : decode cX2_compare 26 = .ok (.iconst 0, 1)) rfl ?_
    exact pv_sub [some (.ref (Y.2.1 o)), some (.ref (Y.2.1 a1)), some (.int a2), some (.int a3), none, none] (And.intro rfl (And.intro rfl (And.intro rfl (And.intro rfl trivial)))) (H h hU)
  replace H := H.2 c_19
  refine pr_iconst hC (1) (by decide +kernel : decode cX2_compare 22 = .ok (.iconst 1, 1)) rfl ?_
  refine pr_goto hC 27 (by decide +kernel : decode cX2_compare 23 = .ok (.goto 4, 3)) (by decide) ?_
  exact pv_sub [some (.ref (Y.2.1 o)), some (.ref (Y.2.1 a1)), some (.int a2), some (.int a3), none, none] (And.intro rfl (And.intro rfl (And.intro rfl (And.intro rfl trivial)))) (H h hU)
def w_X3_add (o : Nat) (a1 : Int32) (U : Um) (post : Um → Prop) : Prop :=
  ((1200 : Int32) ≤ (uI U o 1) → post U) ∧ (¬ (1200 : Int32) ≤ (uI U o 1) → vp_in (uI U o 1) 1200 ∧ ∀ (U_1 : Um), U_1 = sA U o 0 (va_up (uA U o 0) (Int32.toNatClampNeg (uI U o 1)) a1) → ∀ (U_2 : Um), U_2 = sI U_1 o 1 ((uI U_1 o 1) + 1) → post U_2)
set_option maxHeartbeats 4000000 in
theorem t_X3_add {l : Launch} {Y : px_Y} {o : Nat} {a1 : Int32} {U : Um} {post : Um → Prop} (ho : oc o = 2) (H : w_X3_add o a1 U post) : um l Y 0 yX3_add cX3_add 2 none [.ref (Y.2.1 o), .int a1] U (pq_v post) := by
  unfold w_X3_add at H
  refine um_of (by decide) (Nat.le_of_ble_eq_true rfl) [some (.ref (Y.2.1 o)), some (.int a1)] rfl (fun X h0 hh sz hM hU => ?_)
  have hC := hM.1
  have hR := hM.2.2.1
  refine pr_aload_n hC (by decide +kernel : decode cX3_add 0 = .ok (.aload_n 0, 1)) rfl ?_
  refine pu_g0 hC fg_X3_24 (by decide +kernel : decode cX3_add 1 = .ok (.getfield 24, 3)) hU ho (by decide) rfl rfl ?_
  refine pr_aload_n hC (by decide +kernel : decode cX3_add 4 = .ok (.aload_n 0, 1)) rfl ?_
  refine pu_g1 hC fg_X3_11 (by decide +kernel : decode cX3_add 5 = .ok (.getfield 11, 3)) hU ho (by decide) rfl (by decide) ?_
  refine pu_len1 hC (by decide +kernel : decode cX3_add 8 = .ok (.arraylength, 1)) hU ho rfl (v := 1200) rfl ?_
  refine pr_icmp_ge hC 32 (by decide +kernel : decode cX3_add 9 = .ok (.if_icmp .ge 23, 3)) (by decide) (fun c_9 => ?_) (fun c_9 => ?_)
  · replace H := H.1 c_9
    exact pv_vret hM (by decide +kernel : decode cX3_add 32 = .ok (.return_, 1)) hU H
  replace H := H.2 c_9
  refine pr_aload_n hC (by decide +kernel : decode cX3_add 12 = .ok (.aload_n 0, 1)) rfl ?_
  refine pu_g1 hC fg_X3_11 (by decide +kernel : decode cX3_add 13 = .ok (.getfield 11, 3)) hU ho (by decide) rfl (by decide) ?_
  refine pr_aload_n hC (by decide +kernel : decode cX3_add 16 = .ok (.aload_n 0, 1)) rfl ?_
  refine pu_g0 hC fg_X3_24 (by decide +kernel : decode cX3_add 17 = .ok (.getfield 24, 3)) hU ho (by decide) rfl rfl ?_
  refine pr_iload_n hC (by decide +kernel : decode cX3_add 20 = .ok (.iload_n 1, 1)) rfl ?_
  refine pv_iast hC (by decide +kernel : decode cX3_add 21 = .ok (.iastore, 1)) hU ho rfl H.1 (fun U_1 h e_U_1 hU => ?_)
  replace H := H.2 U_1 e_U_1
  refine pr_aload_n hC (by decide +kernel : decode cX3_add 22 = .ok (.aload_n 0, 1)) rfl ?_
  refine pr_dup hC (by decide +kernel : decode cX3_add 23 = .ok (.dup, 1)) rfl ?_
  refine pu_g0 hC fg_X3_24 (by decide +kernel : decode cX3_add 24 = .ok (.getfield 24, 3)) hU ho (by decide) rfl rfl ?_
  refine pr_iconst hC (1) (by decide +kernel : decode cX3_add 27 = .ok (.iconst 1, 1)) rfl ?_
  refine pr_iadd hC (by decide +kernel : decode cX3_add 28 = .ok (.iadd, 1)) ?_
  refine pv_p0 hC fp_X3_24 (by decide +kernel : decode cX3_add 29 = .ok (.putfield 24, 3)) hU ho (by decide) rfl rfl rfl rfl (fun U_2 h e_U_2 hU => ?_)
  replace H := H U_2 e_U_2
  exact pv_vret hM (by decide +kernel : decode cX3_add 32 = .ok (.return_, 1)) hU H
def b_X5_empty_L15 (o0 : Nat) (x1 : Int32) (post : Um → Prop) (k_36 : Um → Prop) (rec_ : Int32 → Um → Prop) (x2 : Int32) (U : Um) : Prop :=
  ((6 : Int32) ≤ x2 → k_36 U) ∧ (¬ (6 : Int32) ≤ x2 → vp_in x1 6 ∧ vp_in x2 6 ∧ ∀ (U_3 : Um), U_3 = sA U o0 (ki 1 (Int32.toNatClampNeg x1)) (va_up (uA U o0 (ki 1 (Int32.toNatClampNeg x1))) (Int32.toNatClampNeg x2) 0) → ∀ (x2_4 : Int32), x2_4 = x2 + 1 → rec_ x2_4 U_3)
def w_X5_empty_L15 (o0 : Nat) (x1 : Int32) (post : Um → Prop) (k_36 : Um → Prop) (n_ : Nat) : Int32 → Um → Prop := Nat.rec (motive := fun _ => Int32 → Um → Prop) (fun _ _ => False) (fun _ ih => b_X5_empty_L15 o0 x1 post k_36 ih) n_
def b_X5_empty_L7 (o0 : Nat) (post : Um → Prop) (k_42 : Um → Prop) (rec_ : Int32 → Um → Prop) (x1 : Int32) (U : Um) : Prop :=
  ((6 : Int32) ≤ x1 → k_42 U) ∧ (¬ (6 : Int32) ≤ x1 → (∃ n_7, w_X5_empty_L15 o0 x1 post (fun U_5 => ∀ (x1_6 : Int32), x1_6 = x1 + 1 → rec_ x1_6 U_5) n_7 0 U))
def w_X5_empty_L7 (o0 : Nat) (post : Um → Prop) (k_42 : Um → Prop) (n_ : Nat) : Int32 → Um → Prop := Nat.rec (motive := fun _ => Int32 → Um → Prop) (fun _ _ => False) (fun _ ih => b_X5_empty_L7 o0 post k_42 ih) n_
def w_X5_empty (o : Nat) (U : Um) (post : Um → Prop) : Prop :=
  ∀ (U_1 : Um), U_1 = sI U o 0 0 → (∃ n_9, w_X5_empty_L7 o post (fun U_8 => post U_8) n_9 0 U_1)
set_option maxHeartbeats 4000000 in
theorem tl_X5_empty_L15 {l : Launch} {Y : px_Y} {X : px_X} {h0 hh : pe_H} {sz : Nat} (o0 : Nat) (x1 : Int32) (post : Um → Prop) (k_36 : Um → Prop) (ho0 : oc o0 = 4)  (hC : px_C X Y.1 (pm_A hh sz) cX5_empty RX5 3) (hM : px_M l X Y.1 hh sz yX5_empty cX5_empty 3 none 0 0 0) (hR : X.2.2.2.1 = pm_rm 0 0 0) (hk_36 : ∀ (U : Um) (h : pe_H), k_36 U → rF Y h0 U h → pw X Y.1 (pm_A hh sz) (pm_E X Y.1 hh sz 0 0 (pm_P Y h0 sz (pq_v post))) 36 [some (.ref (Y.2.1 o0)), some (.int x1), none] [] h sz 0 0) : ∀ (n_ : Nat) (x2 : Int32) (U : Um) (h : pe_H), rF Y h0 U h → w_X5_empty_L15 o0 x1 post k_36 n_ x2 U → pw X Y.1 (pm_A hh sz) (pm_E X Y.1 hh sz 0 0 (pm_P Y h0 sz (pq_v post))) 15 [some (.ref (Y.2.1 o0)), some (.int x1), some (.int x2)] [] h sz 0 0 := by
  intro n_
  induction n_ with
  | zero => intro x2 U h hU H; exact False.elim H
  | succ n_ ih =>
    intro x2 U h hU H
    replace H : b_X5_empty_L15 o0 x1 post k_36 (w_X5_empty_L15 o0 x1 post k_36 n_) x2 U := H
    unfold b_X5_empty_L15 at H
    refine pr_iload_n hC (by decide +kernel : decode cX5_empty 15 = .ok (.iload_n 2, 1)) rfl ?_
    refine pr_bipush hC (6) (by decide +kernel : decode cX5_empty 16 = .ok (.bipush 6, 2)) rfl ?_
    refine pr_icmp_ge hC 36 (by decide +kernel : decode cX5_empty 18 = .ok (.if_icmp .ge 18, 3)) (by decide) (fun c_18 => ?_) (fun c_18 => ?_)
    · replace H := H.1 c_18
      exact pv_sub [some (.ref (Y.2.1 o0)), some (.int x1), none] (And.intro rfl (And.intro rfl trivial)) (hk_36 U h H hU)
    replace H := H.2 c_18
    refine pr_aload_n hC (by decide +kernel : decode cX5_empty 21 = .ok (.aload_n 0, 1)) rfl ?_
    refine pu_g1 hC fg_X5_13 (by decide +kernel : decode cX5_empty 22 = .ok (.getfield 13, 3)) hU ho0 (by decide) rfl (by decide) ?_
    refine pr_iload_n hC (by decide +kernel : decode cX5_empty 25 = .ok (.iload_n 1, 1)) rfl ?_
    have q_2 := H.1
    replace H := H.2
    refine pu_aald6 hC (by decide +kernel : decode cX5_empty 26 = .ok (.aaload, 1)) hU ho0 rfl q_2 ?_
    refine pr_iload_n hC (by decide +kernel : decode cX5_empty 27 = .ok (.iload_n 2, 1)) rfl ?_
    refine pr_iconst hC (0) (by decide +kernel : decode cX5_empty 28 = .ok (.iconst 0, 1)) rfl ?_
    refine pv_iast7 hC (by decide +kernel : decode cX5_empty 29 = .ok (.iastore, 1)) hU ho0 rfl (vp_lt q_2) H.1 (fun U_3 h e_U_3 hU => ?_)
    replace H := H.2 U_3 e_U_3
    refine pv_iinc hC (v := x2 + 1) (by decide +kernel : decode cX5_empty 30 = .ok (.iinc 2 1, 3)) rfl (by decide) rfl rfl (fun x2_4 e_x2_4 => ?_)
    replace H := H x2_4 e_x2_4
    refine pr_goto hC 15 (by decide +kernel : decode cX5_empty 33 = .ok (.goto (-18), 3)) (by decide) ?_
    exact pv_sub [some (.ref (Y.2.1 o0)), some (.int x1), some (.int x2_4)] (And.intro rfl (And.intro rfl (And.intro rfl trivial))) (ih _ U_3 h hU H)
set_option maxHeartbeats 4000000 in
theorem tl_X5_empty_L7 {l : Launch} {Y : px_Y} {X : px_X} {h0 hh : pe_H} {sz : Nat} (o0 : Nat) (post : Um → Prop) (k_42 : Um → Prop) (ho0 : oc o0 = 4)  (hC : px_C X Y.1 (pm_A hh sz) cX5_empty RX5 3) (hM : px_M l X Y.1 hh sz yX5_empty cX5_empty 3 none 0 0 0) (hR : X.2.2.2.1 = pm_rm 0 0 0) (hk_42 : ∀ (U : Um) (h : pe_H), k_42 U → rF Y h0 U h → pw X Y.1 (pm_A hh sz) (pm_E X Y.1 hh sz 0 0 (pm_P Y h0 sz (pq_v post))) 42 [none, none, none] [] h sz 0 0) : ∀ (n_ : Nat) (x1 : Int32) (U : Um) (h : pe_H), rF Y h0 U h → w_X5_empty_L7 o0 post k_42 n_ x1 U → pw X Y.1 (pm_A hh sz) (pm_E X Y.1 hh sz 0 0 (pm_P Y h0 sz (pq_v post))) 7 [some (.ref (Y.2.1 o0)), some (.int x1), none] [] h sz 0 0 := by
  intro n_
  induction n_ with
  | zero => intro x1 U h hU H; exact False.elim H
  | succ n_ ih =>
    intro x1 U h hU H
    replace H : b_X5_empty_L7 o0 post k_42 (w_X5_empty_L7 o0 post k_42 n_) x1 U := H
    unfold b_X5_empty_L7 at H
    refine pr_iload_n hC (by decide +kernel : decode cX5_empty 7 = .ok (.iload_n 1, 1)) rfl ?_
    refine pr_bipush hC (6) (by decide +kernel : decode cX5_empty 8 = .ok (.bipush 6, 2)) rfl ?_
    refine pr_icmp_ge hC 42 (by decide +kernel : decode cX5_empty 10 = .ok (.if_icmp .ge 32, 3)) (by decide) (fun c_10 => ?_) (fun c_10 => ?_)
    · replace H := H.1 c_10
      exact pv_sub [none, none, none] (trivial) (hk_42 U h H hU)
    replace H := H.2 c_10
    refine pr_iconst hC (0) (by decide +kernel : decode cX5_empty 13 = .ok (.iconst 0, 1)) rfl ?_
    refine pr_istore_n hC (by decide +kernel : decode cX5_empty 14 = .ok (.istore_n 2, 1)) (by decide) rfl ?_
    obtain ⟨n_7, H⟩ := H
    refine pv_sub [some (.ref (Y.2.1 o0)), some (.int x1), some (.int 0)] (And.intro rfl (And.intro rfl (And.intro rfl trivial))) ?_
    refine tl_X5_empty_L15 _ _ _ _ ho0 hC hM hR (fun U_5 h H hU => ?_) n_7 _ U h hU H
    refine pv_iinc hC (v := x1 + 1) (by decide +kernel : decode cX5_empty 36 = .ok (.iinc 1 1, 3)) rfl (by decide) rfl rfl (fun x1_6 e_x1_6 => ?_)
    replace H := H x1_6 e_x1_6
    refine pr_goto hC 7 (by decide +kernel : decode cX5_empty 39 = .ok (.goto (-32), 3)) (by decide) ?_
    exact pv_sub [some (.ref (Y.2.1 o0)), some (.int x1_6), none] (And.intro rfl (And.intro rfl trivial)) (ih _ U_5 h hU H)
set_option maxHeartbeats 4000000 in
theorem t_X5_empty {l : Launch} {Y : px_Y} {o : Nat} {U : Um} {post : Um → Prop} (ho : oc o = 4) (H : w_X5_empty o U post) : um l Y 0 yX5_empty cX5_empty 3 none [.ref (Y.2.1 o)] U (pq_v post) := by
  unfold w_X5_empty at H
  refine um_of (by decide) (Nat.le_of_ble_eq_true rfl) [some (.ref (Y.2.1 o)), none, none] rfl (fun X h0 hh sz hM hU => ?_)
  have hC := hM.1
  have hR := hM.2.2.1
  refine pr_aload_n hC (by decide +kernel : decode cX5_empty 0 = .ok (.aload_n 0, 1)) rfl ?_
  refine pr_iconst hC (0) (by decide +kernel : decode cX5_empty 1 = .ok (.iconst 0, 1)) rfl ?_
  refine pv_p0 hC fp_X5_19 (by decide +kernel : decode cX5_empty 2 = .ok (.putfield 19, 3)) hU ho (by decide) rfl rfl rfl rfl (fun U_1 h e_U_1 hU => ?_)
  replace H := H U_1 e_U_1
  refine pr_iconst hC (0) (by decide +kernel : decode cX5_empty 5 = .ok (.iconst 0, 1)) rfl ?_
  refine pr_istore_n hC (by decide +kernel : decode cX5_empty 6 = .ok (.istore_n 1, 1)) (by decide) rfl ?_
  obtain ⟨n_9, H⟩ := H
  refine pv_sub [some (.ref (Y.2.1 o)), some (.int 0), none] (And.intro rfl (And.intro rfl trivial)) ?_
  refine tl_X5_empty_L7 _ _ _ ho hC hM hR (fun U_8 h H hU => ?_) n_9 _ U_1 h hU H
  exact pv_vret hM (by decide +kernel : decode cX5_empty 42 = .ok (.return_, 1)) hU H
def b_X9_empty_L2 (o0 : Nat) (post : Um → Prop) (k_24 : Um → Prop) (rec_ : Int32 → Um → Prop) (x1 : Int32) (U : Um) : Prop :=
  ((3 : Int32) ≤ x1 → k_24 U) ∧ (¬ (3 : Int32) ≤ x1 → vp_in x1 3 ∧ ∀ (U_1 : Um), U_1 = sA U o0 1 (va_up (uA U o0 1) (Int32.toNatClampNeg x1) 0) → ∀ (x1_2 : Int32), x1_2 = x1 + 1 → rec_ x1_2 U_1)
def w_X9_empty_L2 (o0 : Nat) (post : Um → Prop) (k_24 : Um → Prop) (n_ : Nat) : Int32 → Um → Prop := Nat.rec (motive := fun _ => Int32 → Um → Prop) (fun _ _ => False) (fun _ ih => b_X9_empty_L2 o0 post k_24 ih) n_
def w_X9_empty (o : Nat) (U : Um) (post : Um → Prop) : Prop :=
  (∃ n_12, w_X9_empty_L2 o post (fun U_3 => ∀ (U_4 : Um), U_4 = sI U_3 o 7 0 → ∀ (U_5 : Um), U_5 = sI U_4 o 8 10 → ∀ (U_6 : Um), U_6 = sI U_5 o 9 3 → oc (uR U_6 o 10) = 4 ∧ w_X5_empty (uR U_6 o 10) U_6 (fun U_8 => oc (uR U_8 o 11) = 2 ∧ ∀ (U_11 : Um), U_11 = sI U_8 (uR U_8 o 11) 1 0 → post U_11)) n_12 0 U)
set_option maxHeartbeats 4000000 in
theorem tl_X9_empty_L2 {l : Launch} {Y : px_Y} {X : px_X} {h0 hh : pe_H} {sz : Nat} (o0 : Nat) (post : Um → Prop) (k_24 : Um → Prop) (ho0 : oc o0 = 8)  (hC : px_C X Y.1 (pm_A hh sz) cX9_empty RX9 2) (hM : px_M l X Y.1 hh sz yX9_empty cX9_empty 2 none 1 0 0) (hR : X.2.2.2.1 = pm_rm 1 0 0) (hk_24 : ∀ (U : Um) (h : pe_H), k_24 U → rF Y h0 U h → pw X Y.1 (pm_A hh sz) (pm_E X Y.1 hh sz 0 0 (pm_P Y h0 sz (pq_v post))) 24 [some (.ref (Y.2.1 o0)), none] [] h sz 0 0) : ∀ (n_ : Nat) (x1 : Int32) (U : Um) (h : pe_H), rF Y h0 U h → w_X9_empty_L2 o0 post k_24 n_ x1 U → pw X Y.1 (pm_A hh sz) (pm_E X Y.1 hh sz 0 0 (pm_P Y h0 sz (pq_v post))) 2 [some (.ref (Y.2.1 o0)), some (.int x1)] [] h sz 0 0 := by
  intro n_
  induction n_ with
  | zero => intro x1 U h hU H; exact False.elim H
  | succ n_ ih =>
    intro x1 U h hU H
    replace H : b_X9_empty_L2 o0 post k_24 (w_X9_empty_L2 o0 post k_24 n_) x1 U := H
    unfold b_X9_empty_L2 at H
    refine pr_iload_n hC (by decide +kernel : decode cX9_empty 2 = .ok (.iload_n 1, 1)) rfl ?_
    refine pr_aload_n hC (by decide +kernel : decode cX9_empty 3 = .ok (.aload_n 0, 1)) rfl ?_
    refine pu_g1 hC fg_X9_16 (by decide +kernel : decode cX9_empty 4 = .ok (.getfield 16, 3)) hU ho0 (by decide) rfl (by decide) ?_
    refine pu_len1 hC (by decide +kernel : decode cX9_empty 7 = .ok (.arraylength, 1)) hU ho0 rfl (v := 3) rfl ?_
    refine pr_icmp_ge hC 24 (by decide +kernel : decode cX9_empty 8 = .ok (.if_icmp .ge 16, 3)) (by decide) (fun c_8 => ?_) (fun c_8 => ?_)
    · replace H := H.1 c_8
      exact pv_sub [some (.ref (Y.2.1 o0)), none] (And.intro rfl trivial) (hk_24 U h H hU)
    replace H := H.2 c_8
    refine pr_aload_n hC (by decide +kernel : decode cX9_empty 11 = .ok (.aload_n 0, 1)) rfl ?_
    refine pu_g1 hC fg_X9_16 (by decide +kernel : decode cX9_empty 12 = .ok (.getfield 16, 3)) hU ho0 (by decide) rfl (by decide) ?_
    refine pr_iload_n hC (by decide +kernel : decode cX9_empty 15 = .ok (.iload_n 1, 1)) rfl ?_
    refine pr_iconst hC (0) (by decide +kernel : decode cX9_empty 16 = .ok (.iconst 0, 1)) rfl ?_
    refine pv_iast hC (by decide +kernel : decode cX9_empty 17 = .ok (.iastore, 1)) hU ho0 rfl H.1 (fun U_1 h e_U_1 hU => ?_)
    replace H := H.2 U_1 e_U_1
    refine pv_iinc hC (v := x1 + 1) (by decide +kernel : decode cX9_empty 18 = .ok (.iinc 1 1, 3)) rfl (by decide) rfl rfl (fun x1_2 e_x1_2 => ?_)
    replace H := H x1_2 e_x1_2
    refine pr_goto hC 2 (by decide +kernel : decode cX9_empty 21 = .ok (.goto (-19), 3)) (by decide) ?_
    exact pv_sub [some (.ref (Y.2.1 o0)), some (.int x1_2)] (And.intro rfl (And.intro rfl trivial)) (ih _ U_1 h hU H)
set_option maxHeartbeats 4000000 in
theorem t_X9_empty {l : Launch} {Y : px_Y} {o : Nat} {U : Um} {post : Um → Prop} (ho : oc o = 8) (H : w_X9_empty o U post) : um l Y 1 yX9_empty cX9_empty 2 none [.ref (Y.2.1 o)] U (pq_v post) := by
  unfold w_X9_empty at H
  refine um_of (by decide) (Nat.le_of_ble_eq_true rfl) [some (.ref (Y.2.1 o)), none] rfl (fun X h0 hh sz hM hU => ?_)
  have hC := hM.1
  have hR := hM.2.2.1
  refine pr_iconst hC (0) (by decide +kernel : decode cX9_empty 0 = .ok (.iconst 0, 1)) rfl ?_
  refine pr_istore_n hC (by decide +kernel : decode cX9_empty 1 = .ok (.istore_n 1, 1)) (by decide) rfl ?_
  obtain ⟨n_12, H⟩ := H
  refine pv_sub [some (.ref (Y.2.1 o)), some (.int 0)] (And.intro rfl (And.intro rfl trivial)) ?_
  refine tl_X9_empty_L2 _ _ _ ho hC hM hR (fun U_3 h H hU => ?_) n_12 _ U hh hU H
  refine pr_aload_n hC (by decide +kernel : decode cX9_empty 24 = .ok (.aload_n 0, 1)) rfl ?_
  refine pr_iconst hC (0) (by decide +kernel : decode cX9_empty 25 = .ok (.iconst 0, 1)) rfl ?_
  refine pv_p0 hC fp_X9_69 (by decide +kernel : decode cX9_empty 26 = .ok (.putfield 69, 3)) hU ho (by decide) rfl rfl rfl rfl (fun U_4 h e_U_4 hU => ?_)
  replace H := H U_4 e_U_4
  refine pr_aload_n hC (by decide +kernel : decode cX9_empty 29 = .ok (.aload_n 0, 1)) rfl ?_
  refine pr_bipush hC (10) (by decide +kernel : decode cX9_empty 30 = .ok (.bipush 10, 2)) rfl ?_
  refine pv_p0 hC fp_X9_62 (by decide +kernel : decode cX9_empty 32 = .ok (.putfield 62, 3)) hU ho (by decide) rfl rfl rfl rfl (fun U_5 h e_U_5 hU => ?_)
  replace H := H U_5 e_U_5
  refine pr_aload_n hC (by decide +kernel : decode cX9_empty 35 = .ok (.aload_n 0, 1)) rfl ?_
  refine pr_iconst hC (3) (by decide +kernel : decode cX9_empty 36 = .ok (.iconst 3, 1)) rfl ?_
  refine pv_p0 hC fp_X9_66 (by decide +kernel : decode cX9_empty 37 = .ok (.putfield 66, 3)) hU ho (by decide) rfl rfl rfl rfl (fun U_6 h e_U_6 hU => ?_)
  replace H := H U_6 e_U_6
  refine pr_aload_n hC (by decide +kernel : decode cX9_empty 40 = .ok (.aload_n 0, 1)) rfl ?_
  refine pu_g21 hC fg_X9_42 (by decide +kernel : decode cX9_empty 41 = .ok (.getfield 42, 3)) hU ho (by decide) rfl rfl ?_
  have q_7 := H.1
  replace H := H.2
  refine vc_Vv hC hR [] fv_X9_72 (by decide +kernel : decode cX9_empty 44 = .ok (.invokevirtual 72, 3)) hU (t_X5_empty q_7 H) q_7 (by decide) rfl rfl rfl (Nat.le_of_ble_eq_true rfl) (Nat.le_of_ble_eq_true rfl) (Nat.le_refl 0) (Nat.le_refl 0) (fun U_8 h H hU => ?_)
  refine pr_aload_n hC (by decide +kernel : decode cX9_empty 47 = .ok (.aload_n 0, 1)) rfl ?_
  refine pu_g21 hC fg_X9_49 (by decide +kernel : decode cX9_empty 48 = .ok (.getfield 49, 3)) hU ho (by decide) rfl rfl ?_
  have q_10 := H.1
  replace H := H.2
  refine pr_iconst hC (0) (by decide +kernel : decode cX9_empty 51 = .ok (.iconst 0, 1)) rfl ?_
  refine pv_p0 hC fp_X9_75 (by decide +kernel : decode cX9_empty 52 = .ok (.putfield 75, 3)) hU q_10 (by decide) rfl rfl rfl rfl (fun U_11 h e_U_11 hU => ?_)
  replace H := H U_11 e_U_11
  exact pv_vret hM (by decide +kernel : decode cX9_empty 55 = .ok (.return_, 1)) hU H
def b_X8_advance_L16 (o0 : Nat) (post : Um → Prop) (k_68 : Um → Prop) (rec_ : Um → Prop)  (U : Um) : Prop :=
  ((uI U o0 1) ≤ (uI U o0 2) → k_68 U) ∧ (¬ (uI U o0 1) ≤ (uI U o0 2) → vp_in (uI U o0 2) 1200 ∧ ((uA U o0 0 (Int32.toNatClampNeg (uI U o0 2))) = 32 → ∀ (U_3 : Um), U_3 = sI U o0 2 ((uI U o0 2) + 1) → rec_ U_3) ∧ (¬ (uA U o0 0 (Int32.toNatClampNeg (uI U o0 2))) = 32 → vp_in (uI U o0 2) 1200 ∧ ((uA U o0 0 (Int32.toNatClampNeg (uI U o0 2))) = 10 → ∀ (U_4 : Um), U_4 = sI U o0 2 ((uI U o0 2) + 1) → rec_ U_4) ∧ (¬ (uA U o0 0 (Int32.toNatClampNeg (uI U o0 2))) = 10 → k_68 U)))
def w_X8_advance_L16 (o0 : Nat) (post : Um → Prop) (k_68 : Um → Prop) (n_ : Nat) : Um → Prop := Nat.rec (motive := fun _ => Um → Prop) (fun _ => False) (fun _ ih => b_X8_advance_L16 o0 post k_68 ih) n_
def b_X8_advance_L78 (o0 : Nat) (post : Um → Prop) (k_150 : Int32 → Um → Prop) (rec_ : Int32 → Um → Prop) (x1 : Int32) (U : Um) : Prop :=
  ((uI U o0 1) ≤ (uI U o0 3) → k_150 x1 U) ∧ (¬ (uI U o0 1) ≤ (uI U o0 3) → vp_in (uI U o0 3) 1200 ∧ ((uA U o0 0 (Int32.toNatClampNeg (uI U o0 3))) < 97 → k_150 x1 U) ∧ (¬ (uA U o0 0 (Int32.toNatClampNeg (uI U o0 3))) < 97 → vp_in (uI U o0 3) 1200 ∧ ((122 : Int32) < (uA U o0 0 (Int32.toNatClampNeg (uI U o0 3))) → k_150 x1 U) ∧ (¬ (122 : Int32) < (uA U o0 0 (Int32.toNatClampNeg (uI U o0 3))) → vp_in (uI U o0 3) 1200 ∧ ∀ (x1_7 : Int32), x1_7 = (((x1 * 27) + (uA U o0 0 (Int32.toNatClampNeg (uI U o0 3)))) - 97) + 1 → ∀ (U_8 : Um), U_8 = sI U o0 3 ((uI U o0 3) + 1) → rec_ x1_7 U_8)))
def w_X8_advance_L78 (o0 : Nat) (post : Um → Prop) (k_150 : Int32 → Um → Prop) (n_ : Nat) : Int32 → Um → Prop := Nat.rec (motive := fun _ => Int32 → Um → Prop) (fun _ _ => False) (fun _ ih => b_X8_advance_L78 o0 post k_150 ih) n_
def b_X8_advance_L181 (o0 : Nat) (x2 : Int32) (post : Um → Prop) (k_255 : Int32 → Um → Prop) (rec_ : Int32 → Um → Prop) (x1 : Int32) (U : Um) : Prop :=
  (x2 = 0 → ((uI U o0 1) ≤ (uI U o0 3) → k_255 x1 U) ∧ (¬ (uI U o0 1) ≤ (uI U o0 3) → vp_in (uI U o0 3) 1200 ∧ ((uA U o0 0 (Int32.toNatClampNeg (uI U o0 3))) < 48 → k_255 x1 U) ∧ (¬ (uA U o0 0 (Int32.toNatClampNeg (uI U o0 3))) < 48 → vp_in (uI U o0 3) 1200 ∧ ((57 : Int32) < (uA U o0 0 (Int32.toNatClampNeg (uI U o0 3))) → k_255 x1 U) ∧ (¬ (57 : Int32) < (uA U o0 0 (Int32.toNatClampNeg (uI U o0 3))) → vp_in (uI U o0 3) 1200 ∧ ∀ (x1_15 : Int32), x1_15 = ((x1 * 10) + (uA U o0 0 (Int32.toNatClampNeg (uI U o0 3)))) - 48 → ∀ (U_16 : Um), U_16 = sI U o0 3 ((uI U o0 3) + 1) → rec_ x1_15 U_16)))) ∧ (¬ x2 = 0 → k_255 x1 U)
def w_X8_advance_L181 (o0 : Nat) (x2 : Int32) (post : Um → Prop) (k_255 : Int32 → Um → Prop) (n_ : Nat) : Int32 → Um → Prop := Nat.rec (motive := fun _ => Int32 → Um → Prop) (fun _ _ => False) (fun _ ih => b_X8_advance_L181 o0 x2 post k_255 ih) n_
def w_X8_advance (o : Nat) (U : Um) (post : Um → Prop) : Prop :=
  ∀ (U_1 : Um), U_1 = sI U o 4 (uI U o 2) → ∀ (U_2 : Um), U_2 = sI U_1 o 2 (uI U_1 o 3) → (∃ n_30, w_X8_advance_L16 o post (fun U_5 => ∀ (U_6 : Um), U_6 = sI U_5 o 3 (uI U_5 o 2) → (∃ n_29, w_X8_advance_L78 o post (fun x1_9 U_10 => ∀ (x2_11 : Int32), x2_11 = (uI U_10 o 3) - (uI U_10 o 2) → ∀ (xs_13 : Int32), xs_13 = (if x2_11 ≤ 0 then (-1) else (if (6 : Int32) < x2_11 then (-1) else x1_9)) → ∀ (U_14 : Um), U_14 = sI U_10 o 5 xs_13 → (∃ n_27, w_X8_advance_L181 o x2_11 post (fun x1_17 U_18 => ∀ (x3_19 : Int32), x3_19 = ((uI U_18 o 3) - (uI U_18 o 2)) - x2_11 → ∀ (xs_21 : Int32), xs_21 = (if x3_19 ≤ 0 then (-1) else (if (4 : Int32) < x3_19 then (-1) else x1_17)) → ∀ (U_22 : Um), U_22 = sI U_18 o 6 xs_21 → ∀ (U_23 : Um), U_23 = sI U_22 o 7 (-1) → ((uI U_23 o 3) = (uI U_23 o 2) → ((uI U_23 o 1) ≤ (uI U_23 o 2) → post U_23) ∧ (¬ (uI U_23 o 1) ≤ (uI U_23 o 2) → vp_in (uI U_23 o 2) 1200 ∧ ∀ (U_24 : Um), U_24 = sI U_23 o 7 ((uA U_23 o 0 (Int32.toNatClampNeg (uI U_23 o 2))) &&& 255) → ∀ (U_25 : Um), U_25 = sI U_24 o 3 ((uI U_24 o 3) + 1) → post U_25)) ∧ (¬ (uI U_23 o 3) = (uI U_23 o 2) → post U_23)) n_27 0 U_14)) n_29 0 U_6)) n_30  U_2)
set_option maxHeartbeats 4000000 in
theorem tl_X8_advance_L16 {l : Launch} {Y : px_Y} {X : px_X} {h0 hh : pe_H} {sz : Nat} (o0 : Nat) (post : Um → Prop) (k_68 : Um → Prop) (ho0 : oc o0 = 7)  (hC : px_C X Y.1 (pm_A hh sz) cX8_advance RX8 4) (hM : px_M l X Y.1 hh sz yX8_advance cX8_advance 4 none 0 0 0) (hR : X.2.2.2.1 = pm_rm 0 0 0) (hk_68 : ∀ (U : Um) (h : pe_H), k_68 U → rF Y h0 U h → pw X Y.1 (pm_A hh sz) (pm_E X Y.1 hh sz 0 0 (pm_P Y h0 sz (pq_v post))) 68 [some (.ref (Y.2.1 o0)), none, none, none] [] h sz 0 0) : ∀ (n_ : Nat)  (U : Um) (h : pe_H), rF Y h0 U h → w_X8_advance_L16 o0 post k_68 n_  U → pw X Y.1 (pm_A hh sz) (pm_E X Y.1 hh sz 0 0 (pm_P Y h0 sz (pq_v post))) 16 [some (.ref (Y.2.1 o0)), none, none, none] [] h sz 0 0 := by
  intro n_
  induction n_ with
  | zero => intro  U h hU H; exact False.elim H
  | succ n_ ih =>
    intro  U h hU H
    replace H : b_X8_advance_L16 o0 post k_68 (w_X8_advance_L16 o0 post k_68 n_)  U := H
    unfold b_X8_advance_L16 at H
    refine pr_aload_n hC (by decide +kernel : decode cX8_advance 16 = .ok (.aload_n 0, 1)) rfl ?_
    refine pu_g0 hC fg_X8_19 (by decide +kernel : decode cX8_advance 17 = .ok (.getfield 19, 3)) hU ho0 (by decide) rfl rfl ?_
    refine pr_aload_n hC (by decide +kernel : decode cX8_advance 20 = .ok (.aload_n 0, 1)) rfl ?_
    refine pu_g0 hC fg_X8_15 (by decide +kernel : decode cX8_advance 21 = .ok (.getfield 15, 3)) hU ho0 (by decide) rfl rfl ?_
    refine pr_icmp_ge hC 68 (by decide +kernel : decode cX8_advance 24 = .ok (.if_icmp .ge 44, 3)) (by decide) (fun c_24 => ?_) (fun c_24 => ?_)
    · replace H := H.1 c_24
      exact pv_sub [some (.ref (Y.2.1 o0)), none, none, none] (And.intro rfl trivial) (hk_68 U h H hU)
    replace H := H.2 c_24
    refine pr_aload_n hC (by decide +kernel : decode cX8_advance 27 = .ok (.aload_n 0, 1)) rfl ?_
    refine pu_g1 hC fg_X8_11 (by decide +kernel : decode cX8_advance 28 = .ok (.getfield 11, 3)) hU ho0 (by decide) rfl (by decide) ?_
    refine pr_aload_n hC (by decide +kernel : decode cX8_advance 31 = .ok (.aload_n 0, 1)) rfl ?_
    refine pu_g0 hC fg_X8_19 (by decide +kernel : decode cX8_advance 32 = .ok (.getfield 19, 3)) hU ho0 (by decide) rfl rfl ?_
    refine pu_bald hC (by decide +kernel : decode cX8_advance 35 = .ok (.baload, 1)) hU ho0 rfl H.1 ?_
    replace H := H.2
    refine pr_bipush hC (32) (by decide +kernel : decode cX8_advance 36 = .ok (.bipush 32, 2)) rfl ?_
    refine pr_icmp_eq hC 55 (by decide +kernel : decode cX8_advance 38 = .ok (.if_icmp .eq 17, 3)) (by decide) (fun c_38 => ?_) (fun c_38 => ?_)
    · replace H := H.1 c_38
      refine pr_aload_n hC (by decide +kernel : decode cX8_advance 55 = .ok (.aload_n 0, 1)) rfl ?_
      refine pr_dup hC (by decide +kernel : decode cX8_advance 56 = .ok (.dup, 1)) rfl ?_
      refine pu_g0 hC fg_X8_19 (by decide +kernel : decode cX8_advance 57 = .ok (.getfield 19, 3)) hU ho0 (by decide) rfl rfl ?_
      refine pr_iconst hC (1) (by decide +kernel : decode cX8_advance 60 = .ok (.iconst 1, 1)) rfl ?_
      refine pr_iadd hC (by decide +kernel : decode cX8_advance 61 = .ok (.iadd, 1)) ?_
      refine pv_p0 hC fp_X8_19 (by decide +kernel : decode cX8_advance 62 = .ok (.putfield 19, 3)) hU ho0 (by decide) rfl rfl rfl rfl (fun U_3 h e_U_3 hU => ?_)
      replace H := H U_3 e_U_3
      refine pr_goto hC 16 (by decide +kernel : decode cX8_advance 65 = .ok (.goto (-49), 3)) (by decide) ?_
      exact pv_sub [some (.ref (Y.2.1 o0)), none, none, none] (And.intro rfl trivial) (ih U_3 h hU H)
    replace H := H.2 c_38
    refine pr_aload_n hC (by decide +kernel : decode cX8_advance 41 = .ok (.aload_n 0, 1)) rfl ?_
    refine pu_g1 hC fg_X8_11 (by decide +kernel : decode cX8_advance 42 = .ok (.getfield 11, 3)) hU ho0 (by decide) rfl (by decide) ?_
    refine pr_aload_n hC (by decide +kernel : decode cX8_advance 45 = .ok (.aload_n 0, 1)) rfl ?_
    refine pu_g0 hC fg_X8_19 (by decide +kernel : decode cX8_advance 46 = .ok (.getfield 19, 3)) hU ho0 (by decide) rfl rfl ?_
    refine pu_bald hC (by decide +kernel : decode cX8_advance 49 = .ok (.baload, 1)) hU ho0 rfl H.1 ?_
    replace H := H.2
    refine pr_bipush hC (10) (by decide +kernel : decode cX8_advance 50 = .ok (.bipush 10, 2)) rfl ?_
    refine pr_icmp_ne hC 68 (by decide +kernel : decode cX8_advance 52 = .ok (.if_icmp .ne 16, 3)) (by decide) (fun c_52 => ?_) (fun c_52 => ?_)
    · replace H := H.2 c_52
      exact pv_sub [some (.ref (Y.2.1 o0)), none, none, none] (And.intro rfl trivial) (hk_68 U h H hU)
    replace H := H.1 c_52
    refine pr_aload_n hC (by decide +kernel : decode cX8_advance 55 = .ok (.aload_n 0, 1)) rfl ?_
    refine pr_dup hC (by decide +kernel : decode cX8_advance 56 = .ok (.dup, 1)) rfl ?_
    refine pu_g0 hC fg_X8_19 (by decide +kernel : decode cX8_advance 57 = .ok (.getfield 19, 3)) hU ho0 (by decide) rfl rfl ?_
    refine pr_iconst hC (1) (by decide +kernel : decode cX8_advance 60 = .ok (.iconst 1, 1)) rfl ?_
    refine pr_iadd hC (by decide +kernel : decode cX8_advance 61 = .ok (.iadd, 1)) ?_
    refine pv_p0 hC fp_X8_19 (by decide +kernel : decode cX8_advance 62 = .ok (.putfield 19, 3)) hU ho0 (by decide) rfl rfl rfl rfl (fun U_4 h e_U_4 hU => ?_)
    replace H := H U_4 e_U_4
    refine pr_goto hC 16 (by decide +kernel : decode cX8_advance 65 = .ok (.goto (-49), 3)) (by decide) ?_
    exact pv_sub [some (.ref (Y.2.1 o0)), none, none, none] (And.intro rfl trivial) (ih U_4 h hU H)
set_option maxHeartbeats 4000000 in
theorem tl_X8_advance_L78 {l : Launch} {Y : px_Y} {X : px_X} {h0 hh : pe_H} {sz : Nat} (o0 : Nat) (post : Um → Prop) (k_150 : Int32 → Um → Prop) (ho0 : oc o0 = 7)  (hC : px_C X Y.1 (pm_A hh sz) cX8_advance RX8 4) (hM : px_M l X Y.1 hh sz yX8_advance cX8_advance 4 none 0 0 0) (hR : X.2.2.2.1 = pm_rm 0 0 0) (hk_150 : ∀ (y1 : Int32) (U : Um) (h : pe_H), k_150 y1 U → rF Y h0 U h → pw X Y.1 (pm_A hh sz) (pm_E X Y.1 hh sz 0 0 (pm_P Y h0 sz (pq_v post))) 150 [some (.ref (Y.2.1 o0)), some (.int y1), none, none] [] h sz 0 0) : ∀ (n_ : Nat) (x1 : Int32) (U : Um) (h : pe_H), rF Y h0 U h → w_X8_advance_L78 o0 post k_150 n_ x1 U → pw X Y.1 (pm_A hh sz) (pm_E X Y.1 hh sz 0 0 (pm_P Y h0 sz (pq_v post))) 78 [some (.ref (Y.2.1 o0)), some (.int x1), none, none] [] h sz 0 0 := by
  intro n_
  induction n_ with
  | zero => intro x1 U h hU H; exact False.elim H
  | succ n_ ih =>
    intro x1 U h hU H
    replace H : b_X8_advance_L78 o0 post k_150 (w_X8_advance_L78 o0 post k_150 n_) x1 U := H
    unfold b_X8_advance_L78 at H
    refine pr_aload_n hC (by decide +kernel : decode cX8_advance 78 = .ok (.aload_n 0, 1)) rfl ?_
    refine pu_g0 hC fg_X8_22 (by decide +kernel : decode cX8_advance 79 = .ok (.getfield 22, 3)) hU ho0 (by decide) rfl rfl ?_
    refine pr_aload_n hC (by decide +kernel : decode cX8_advance 82 = .ok (.aload_n 0, 1)) rfl ?_
    refine pu_g0 hC fg_X8_15 (by decide +kernel : decode cX8_advance 83 = .ok (.getfield 15, 3)) hU ho0 (by decide) rfl rfl ?_
    refine pr_icmp_ge hC 150 (by decide +kernel : decode cX8_advance 86 = .ok (.if_icmp .ge 64, 3)) (by decide) (fun c_86 => ?_) (fun c_86 => ?_)
    · replace H := H.1 c_86
      exact pv_sub [some (.ref (Y.2.1 o0)), some (.int x1), none, none] (And.intro rfl (And.intro rfl trivial)) (hk_150 _ U h H hU)
    replace H := H.2 c_86
    refine pr_aload_n hC (by decide +kernel : decode cX8_advance 89 = .ok (.aload_n 0, 1)) rfl ?_
    refine pu_g1 hC fg_X8_11 (by decide +kernel : decode cX8_advance 90 = .ok (.getfield 11, 3)) hU ho0 (by decide) rfl (by decide) ?_
    refine pr_aload_n hC (by decide +kernel : decode cX8_advance 93 = .ok (.aload_n 0, 1)) rfl ?_
    refine pu_g0 hC fg_X8_22 (by decide +kernel : decode cX8_advance 94 = .ok (.getfield 22, 3)) hU ho0 (by decide) rfl rfl ?_
    refine pu_bald hC (by decide +kernel : decode cX8_advance 97 = .ok (.baload, 1)) hU ho0 rfl H.1 ?_
    replace H := H.2
    refine pr_bipush hC (97) (by decide +kernel : decode cX8_advance 98 = .ok (.bipush 97, 2)) rfl ?_
    refine pr_icmp_lt hC 150 (by decide +kernel : decode cX8_advance 100 = .ok (.if_icmp .lt 50, 3)) (by decide) (fun c_100 => ?_) (fun c_100 => ?_)
    · replace H := H.1 c_100
      exact pv_sub [some (.ref (Y.2.1 o0)), some (.int x1), none, none] (And.intro rfl (And.intro rfl trivial)) (hk_150 _ U h H hU)
    replace H := H.2 c_100
    refine pr_aload_n hC (by decide +kernel : decode cX8_advance 103 = .ok (.aload_n 0, 1)) rfl ?_
    refine pu_g1 hC fg_X8_11 (by decide +kernel : decode cX8_advance 104 = .ok (.getfield 11, 3)) hU ho0 (by decide) rfl (by decide) ?_
    refine pr_aload_n hC (by decide +kernel : decode cX8_advance 107 = .ok (.aload_n 0, 1)) rfl ?_
    refine pu_g0 hC fg_X8_22 (by decide +kernel : decode cX8_advance 108 = .ok (.getfield 22, 3)) hU ho0 (by decide) rfl rfl ?_
    refine pu_bald hC (by decide +kernel : decode cX8_advance 111 = .ok (.baload, 1)) hU ho0 rfl H.1 ?_
    replace H := H.2
    refine pr_bipush hC (122) (by decide +kernel : decode cX8_advance 112 = .ok (.bipush 122, 2)) rfl ?_
    refine pr_icmp_gt hC 150 (by decide +kernel : decode cX8_advance 114 = .ok (.if_icmp .gt 36, 3)) (by decide) (fun c_114 => ?_) (fun c_114 => ?_)
    · replace H := H.1 c_114
      exact pv_sub [some (.ref (Y.2.1 o0)), some (.int x1), none, none] (And.intro rfl (And.intro rfl trivial)) (hk_150 _ U h H hU)
    replace H := H.2 c_114
    refine pr_iload_n hC (by decide +kernel : decode cX8_advance 117 = .ok (.iload_n 1, 1)) rfl ?_
    refine pr_bipush hC (27) (by decide +kernel : decode cX8_advance 118 = .ok (.bipush 27, 2)) rfl ?_
    refine pr_imul hC (by decide +kernel : decode cX8_advance 120 = .ok (.imul, 1)) ?_
    refine pr_aload_n hC (by decide +kernel : decode cX8_advance 121 = .ok (.aload_n 0, 1)) rfl ?_
    refine pu_g1 hC fg_X8_11 (by decide +kernel : decode cX8_advance 122 = .ok (.getfield 11, 3)) hU ho0 (by decide) rfl (by decide) ?_
    refine pr_aload_n hC (by decide +kernel : decode cX8_advance 125 = .ok (.aload_n 0, 1)) rfl ?_
    refine pu_g0 hC fg_X8_22 (by decide +kernel : decode cX8_advance 126 = .ok (.getfield 22, 3)) hU ho0 (by decide) rfl rfl ?_
    refine pu_bald hC (by decide +kernel : decode cX8_advance 129 = .ok (.baload, 1)) hU ho0 rfl H.1 ?_
    replace H := H.2
    refine pr_iadd hC (by decide +kernel : decode cX8_advance 130 = .ok (.iadd, 1)) ?_
    refine pr_bipush hC (97) (by decide +kernel : decode cX8_advance 131 = .ok (.bipush 97, 2)) rfl ?_
    refine pr_isub hC (by decide +kernel : decode cX8_advance 133 = .ok (.isub, 1)) ?_
    refine pr_iconst hC (1) (by decide +kernel : decode cX8_advance 134 = .ok (.iconst 1, 1)) rfl ?_
    refine pr_iadd hC (by decide +kernel : decode cX8_advance 135 = .ok (.iadd, 1)) ?_
    refine pv_topi (fun x1_7 e_x1_7 => ?_)
    replace H := H x1_7 e_x1_7
    refine pr_istore_n hC (by decide +kernel : decode cX8_advance 136 = .ok (.istore_n 1, 1)) (by decide) rfl ?_
    refine pr_aload_n hC (by decide +kernel : decode cX8_advance 137 = .ok (.aload_n 0, 1)) rfl ?_
    refine pr_dup hC (by decide +kernel : decode cX8_advance 138 = .ok (.dup, 1)) rfl ?_
    refine pu_g0 hC fg_X8_22 (by decide +kernel : decode cX8_advance 139 = .ok (.getfield 22, 3)) hU ho0 (by decide) rfl rfl ?_
    refine pr_iconst hC (1) (by decide +kernel : decode cX8_advance 142 = .ok (.iconst 1, 1)) rfl ?_
    refine pr_iadd hC (by decide +kernel : decode cX8_advance 143 = .ok (.iadd, 1)) ?_
    refine pv_p0 hC fp_X8_22 (by decide +kernel : decode cX8_advance 144 = .ok (.putfield 22, 3)) hU ho0 (by decide) rfl rfl rfl rfl (fun U_8 h e_U_8 hU => ?_)
    replace H := H U_8 e_U_8
    refine pr_goto hC 78 (by decide +kernel : decode cX8_advance 147 = .ok (.goto (-69), 3)) (by decide) ?_
    exact pv_sub [some (.ref (Y.2.1 o0)), some (.int x1_7), none, none] (And.intro rfl (And.intro rfl trivial)) (ih _ U_8 h hU H)
set_option maxHeartbeats 4000000 in
theorem tl_X8_advance_L181 {l : Launch} {Y : px_Y} {X : px_X} {h0 hh : pe_H} {sz : Nat} (o0 : Nat) (x2 : Int32) (post : Um → Prop) (k_255 : Int32 → Um → Prop) (ho0 : oc o0 = 7)  (hC : px_C X Y.1 (pm_A hh sz) cX8_advance RX8 4) (hM : px_M l X Y.1 hh sz yX8_advance cX8_advance 4 none 0 0 0) (hR : X.2.2.2.1 = pm_rm 0 0 0) (hk_255 : ∀ (y1 : Int32) (U : Um) (h : pe_H), k_255 y1 U → rF Y h0 U h → pw X Y.1 (pm_A hh sz) (pm_E X Y.1 hh sz 0 0 (pm_P Y h0 sz (pq_v post))) 255 [some (.ref (Y.2.1 o0)), some (.int y1), some (.int x2), none] [] h sz 0 0) : ∀ (n_ : Nat) (x1 : Int32) (U : Um) (h : pe_H), rF Y h0 U h → w_X8_advance_L181 o0 x2 post k_255 n_ x1 U → pw X Y.1 (pm_A hh sz) (pm_E X Y.1 hh sz 0 0 (pm_P Y h0 sz (pq_v post))) 181 [some (.ref (Y.2.1 o0)), some (.int x1), some (.int x2), none] [] h sz 0 0 := by
  intro n_
  induction n_ with
  | zero => intro x1 U h hU H; exact False.elim H
  | succ n_ ih =>
    intro x1 U h hU H
    replace H : b_X8_advance_L181 o0 x2 post k_255 (w_X8_advance_L181 o0 x2 post k_255 n_) x1 U := H
    unfold b_X8_advance_L181 at H
    refine pr_iload_n hC (by decide +kernel : decode cX8_advance 181 = .ok (.iload_n 2, 1)) rfl ?_
    refine pr_if_ne hC 255 (by decide +kernel : decode cX8_advance 182 = .ok (.ifCond .ne 73, 3)) (by decide) (fun c_182 => ?_) (fun c_182 => ?_)
    · replace H := H.2 c_182
      exact pv_sub [some (.ref (Y.2.1 o0)), some (.int x1), some (.int x2), none] (And.intro rfl (And.intro rfl (And.intro rfl trivial))) (hk_255 _ U h H hU)
    replace H := H.1 c_182
    refine pr_aload_n hC (by decide +kernel : decode cX8_advance 185 = .ok (.aload_n 0, 1)) rfl ?_
    refine pu_g0 hC fg_X8_22 (by decide +kernel : decode cX8_advance 186 = .ok (.getfield 22, 3)) hU ho0 (by decide) rfl rfl ?_
    refine pr_aload_n hC (by decide +kernel : decode cX8_advance 189 = .ok (.aload_n 0, 1)) rfl ?_
    refine pu_g0 hC fg_X8_15 (by decide +kernel : decode cX8_advance 190 = .ok (.getfield 15, 3)) hU ho0 (by decide) rfl rfl ?_
    refine pr_icmp_ge hC 255 (by decide +kernel : decode cX8_advance 193 = .ok (.if_icmp .ge 62, 3)) (by decide) (fun c_193 => ?_) (fun c_193 => ?_)
    · replace H := H.1 c_193
      exact pv_sub [some (.ref (Y.2.1 o0)), some (.int x1), some (.int x2), none] (And.intro rfl (And.intro rfl (And.intro rfl trivial))) (hk_255 _ U h H hU)
    replace H := H.2 c_193
    refine pr_aload_n hC (by decide +kernel : decode cX8_advance 196 = .ok (.aload_n 0, 1)) rfl ?_
    refine pu_g1 hC fg_X8_11 (by decide +kernel : decode cX8_advance 197 = .ok (.getfield 11, 3)) hU ho0 (by decide) rfl (by decide) ?_
    refine pr_aload_n hC (by decide +kernel : decode cX8_advance 200 = .ok (.aload_n 0, 1)) rfl ?_
    refine pu_g0 hC fg_X8_22 (by decide +kernel : decode cX8_advance 201 = .ok (.getfield 22, 3)) hU ho0 (by decide) rfl rfl ?_
    refine pu_bald hC (by decide +kernel : decode cX8_advance 204 = .ok (.baload, 1)) hU ho0 rfl H.1 ?_
    replace H := H.2
    refine pr_bipush hC (48) (by decide +kernel : decode cX8_advance 205 = .ok (.bipush 48, 2)) rfl ?_
    refine pr_icmp_lt hC 255 (by decide +kernel : decode cX8_advance 207 = .ok (.if_icmp .lt 48, 3)) (by decide) (fun c_207 => ?_) (fun c_207 => ?_)
    · replace H := H.1 c_207
      exact pv_sub [some (.ref (Y.2.1 o0)), some (.int x1), some (.int x2), none] (And.intro rfl (And.intro rfl (And.intro rfl trivial))) (hk_255 _ U h H hU)
    replace H := H.2 c_207
    refine pr_aload_n hC (by decide +kernel : decode cX8_advance 210 = .ok (.aload_n 0, 1)) rfl ?_
    refine pu_g1 hC fg_X8_11 (by decide +kernel : decode cX8_advance 211 = .ok (.getfield 11, 3)) hU ho0 (by decide) rfl (by decide) ?_
    refine pr_aload_n hC (by decide +kernel : decode cX8_advance 214 = .ok (.aload_n 0, 1)) rfl ?_
    refine pu_g0 hC fg_X8_22 (by decide +kernel : decode cX8_advance 215 = .ok (.getfield 22, 3)) hU ho0 (by decide) rfl rfl ?_
    refine pu_bald hC (by decide +kernel : decode cX8_advance 218 = .ok (.baload, 1)) hU ho0 rfl H.1 ?_
    replace H := H.2
    refine pr_bipush hC (57) (by decide +kernel : decode cX8_advance 219 = .ok (.bipush 57, 2)) rfl ?_
    refine pr_icmp_gt hC 255 (by decide +kernel : decode cX8_advance 221 = .ok (.if_icmp .gt 34, 3)) (by decide) (fun c_221 => ?_) (fun c_221 => ?_)
    · replace H := H.1 c_221
      exact pv_sub [some (.ref (Y.2.1 o0)), some (.int x1), some (.int x2), none] (And.intro rfl (And.intro rfl (And.intro rfl trivial))) (hk_255 _ U h H hU)
    replace H := H.2 c_221
    refine pr_iload_n hC (by decide +kernel : decode cX8_advance 224 = .ok (.iload_n 1, 1)) rfl ?_
    refine pr_bipush hC (10) (by decide +kernel : decode cX8_advance 225 = .ok (.bipush 10, 2)) rfl ?_
    refine pr_imul hC (by decide +kernel : decode cX8_advance 227 = .ok (.imul, 1)) ?_
    refine pr_aload_n hC (by decide +kernel : decode cX8_advance 228 = .ok (.aload_n 0, 1)) rfl ?_
    refine pu_g1 hC fg_X8_11 (by decide +kernel : decode cX8_advance 229 = .ok (.getfield 11, 3)) hU ho0 (by decide) rfl (by decide) ?_
    refine pr_aload_n hC (by decide +kernel : decode cX8_advance 232 = .ok (.aload_n 0, 1)) rfl ?_
    refine pu_g0 hC fg_X8_22 (by decide +kernel : decode cX8_advance 233 = .ok (.getfield 22, 3)) hU ho0 (by decide) rfl rfl ?_
    refine pu_bald hC (by decide +kernel : decode cX8_advance 236 = .ok (.baload, 1)) hU ho0 rfl H.1 ?_
    replace H := H.2
    refine pr_iadd hC (by decide +kernel : decode cX8_advance 237 = .ok (.iadd, 1)) ?_
    refine pr_bipush hC (48) (by decide +kernel : decode cX8_advance 238 = .ok (.bipush 48, 2)) rfl ?_
    refine pr_isub hC (by decide +kernel : decode cX8_advance 240 = .ok (.isub, 1)) ?_
    refine pv_topi (fun x1_15 e_x1_15 => ?_)
    replace H := H x1_15 e_x1_15
    refine pr_istore_n hC (by decide +kernel : decode cX8_advance 241 = .ok (.istore_n 1, 1)) (by decide) rfl ?_
    refine pr_aload_n hC (by decide +kernel : decode cX8_advance 242 = .ok (.aload_n 0, 1)) rfl ?_
    refine pr_dup hC (by decide +kernel : decode cX8_advance 243 = .ok (.dup, 1)) rfl ?_
    refine pu_g0 hC fg_X8_22 (by decide +kernel : decode cX8_advance 244 = .ok (.getfield 22, 3)) hU ho0 (by decide) rfl rfl ?_
    refine pr_iconst hC (1) (by decide +kernel : decode cX8_advance 247 = .ok (.iconst 1, 1)) rfl ?_
    refine pr_iadd hC (by decide +kernel : decode cX8_advance 248 = .ok (.iadd, 1)) ?_
    refine pv_p0 hC fp_X8_22 (by decide +kernel : decode cX8_advance 249 = .ok (.putfield 22, 3)) hU ho0 (by decide) rfl rfl rfl rfl (fun U_16 h e_U_16 hU => ?_)
    replace H := H U_16 e_U_16
    refine pr_goto hC 181 (by decide +kernel : decode cX8_advance 252 = .ok (.goto (-71), 3)) (by decide) ?_
    exact pv_sub [some (.ref (Y.2.1 o0)), some (.int x1_15), some (.int x2), none] (And.intro rfl (And.intro rfl (And.intro rfl trivial))) (ih _ U_16 h hU H)
set_option maxHeartbeats 4000000 in
theorem t_X8_advance {l : Launch} {Y : px_Y} {o : Nat} {U : Um} {post : Um → Prop} (ho : oc o = 7) (H : w_X8_advance o U post) : um l Y 0 yX8_advance cX8_advance 4 none [.ref (Y.2.1 o)] U (pq_v post) := by
  unfold w_X8_advance at H
  refine um_of (by decide) (Nat.le_of_ble_eq_true rfl) [some (.ref (Y.2.1 o)), none, none, none] rfl (fun X h0 hh sz hM hU => ?_)
  have hC := hM.1
  have hR := hM.2.2.1
  refine pr_aload_n hC (by decide +kernel : decode cX8_advance 0 = .ok (.aload_n 0, 1)) rfl ?_
  refine pr_aload_n hC (by decide +kernel : decode cX8_advance 1 = .ok (.aload_n 0, 1)) rfl ?_
  refine pu_g0 hC fg_X8_19 (by decide +kernel : decode cX8_advance 2 = .ok (.getfield 19, 3)) hU ho (by decide) rfl rfl ?_
  refine pv_p0 hC fp_X8_28 (by decide +kernel : decode cX8_advance 5 = .ok (.putfield 28, 3)) hU ho (by decide) rfl rfl rfl rfl (fun U_1 h e_U_1 hU => ?_)
  replace H := H U_1 e_U_1
  refine pr_aload_n hC (by decide +kernel : decode cX8_advance 8 = .ok (.aload_n 0, 1)) rfl ?_
  refine pr_aload_n hC (by decide +kernel : decode cX8_advance 9 = .ok (.aload_n 0, 1)) rfl ?_
  refine pu_g0 hC fg_X8_22 (by decide +kernel : decode cX8_advance 10 = .ok (.getfield 22, 3)) hU ho (by decide) rfl rfl ?_
  refine pv_p0 hC fp_X8_19 (by decide +kernel : decode cX8_advance 13 = .ok (.putfield 19, 3)) hU ho (by decide) rfl rfl rfl rfl (fun U_2 h e_U_2 hU => ?_)
  replace H := H U_2 e_U_2
  obtain ⟨n_30, H⟩ := H
  refine pv_sub [some (.ref (Y.2.1 o)), none, none, none] (And.intro rfl trivial) ?_
  refine tl_X8_advance_L16 _ _ _ ho hC hM hR (fun U_5 h H hU => ?_) n_30 U_2 h hU H
  refine pr_aload_n hC (by decide +kernel : decode cX8_advance 68 = .ok (.aload_n 0, 1)) rfl ?_
  refine pr_aload_n hC (by decide +kernel : decode cX8_advance 69 = .ok (.aload_n 0, 1)) rfl ?_
  refine pu_g0 hC fg_X8_19 (by decide +kernel : decode cX8_advance 70 = .ok (.getfield 19, 3)) hU ho (by decide) rfl rfl ?_
  refine pv_p0 hC fp_X8_22 (by decide +kernel : decode cX8_advance 73 = .ok (.putfield 22, 3)) hU ho (by decide) rfl rfl rfl rfl (fun U_6 h e_U_6 hU => ?_)
  replace H := H U_6 e_U_6
  refine pr_iconst hC (0) (by decide +kernel : decode cX8_advance 76 = .ok (.iconst 0, 1)) rfl ?_
  refine pr_istore_n hC (by decide +kernel : decode cX8_advance 77 = .ok (.istore_n 1, 1)) (by decide) rfl ?_
  obtain ⟨n_29, H⟩ := H
  refine pv_sub [some (.ref (Y.2.1 o)), some (.int 0), none, none] (And.intro rfl (And.intro rfl trivial)) ?_
  refine tl_X8_advance_L78 _ _ _ ho hC hM hR (fun x1_9 U_10 h H hU => ?_) n_29 _ U_6 h hU H
  refine pr_aload_n hC (by decide +kernel : decode cX8_advance 150 = .ok (.aload_n 0, 1)) rfl ?_
  refine pu_g0 hC fg_X8_22 (by decide +kernel : decode cX8_advance 151 = .ok (.getfield 22, 3)) hU ho (by decide) rfl rfl ?_
  refine pr_aload_n hC (by decide +kernel : decode cX8_advance 154 = .ok (.aload_n 0, 1)) rfl ?_
  refine pu_g0 hC fg_X8_19 (by decide +kernel : decode cX8_advance 155 = .ok (.getfield 19, 3)) hU ho (by decide) rfl rfl ?_
  refine pr_isub hC (by decide +kernel : decode cX8_advance 158 = .ok (.isub, 1)) ?_
  refine pv_topi (fun x2_11 e_x2_11 => ?_)
  replace H := H x2_11 e_x2_11
  refine pr_istore_n hC (by decide +kernel : decode cX8_advance 159 = .ok (.istore_n 2, 1)) (by decide) rfl ?_
  refine pr_aload_n hC (by decide +kernel : decode cX8_advance 160 = .ok (.aload_n 0, 1)) rfl ?_
  refine pr_iload_n hC (by decide +kernel : decode cX8_advance 161 = .ok (.iload_n 2, 1)) rfl ?_
  have HJ_28 : ∀ (xs_13 : Int32), xs_13 = (if x2_11 ≤ 0 then (-1) else (if (6 : Int32) < x2_11 then (-1) else x1_9)) → pw X Y.1 (pm_A hh sz) (pm_E X Y.1 hh sz 0 0 (pm_P Y h0 sz (pq_v post))) 176 [some (.ref (Y.2.1 o)), none, some (.int x2_11), none] [.int xs_13, .ref (Y.2.1 o)] h sz 0 0 := by
    intro xs_13 e_xs_13
    replace H := H xs_13 e_xs_13
    refine pv_p0 hC fp_X8_31 (by decide +kernel : decode cX8_advance 176 = .ok (.putfield 31, 3)) hU ho (by decide) rfl rfl rfl rfl (fun U_14 h e_U_14 hU => ?_)
    replace H := H U_14 e_U_14
    refine pr_iconst hC (0) (by decide +kernel : decode cX8_advance 179 = .ok (.iconst 0, 1)) rfl ?_
    refine pr_istore_n hC (by decide +kernel : decode cX8_advance 180 = .ok (.istore_n 1, 1)) (by decide) rfl ?_
    obtain ⟨n_27, H⟩ := H
    refine pv_sub [some (.ref (Y.2.1 o)), some (.int 0), some (.int x2_11), none] (And.intro rfl (And.intro rfl (And.intro rfl trivial))) ?_
    refine tl_X8_advance_L181 _ _ _ _ ho hC hM hR (fun x1_17 U_18 h H hU => ?_) n_27 _ U_14 h hU H
    refine pr_aload_n hC (by decide +kernel : decode cX8_advance 255 = .ok (.aload_n 0, 1)) rfl ?_
    refine pu_g0 hC fg_X8_22 (by decide +kernel : decode cX8_advance 256 = .ok (.getfield 22, 3)) hU ho (by decide) rfl rfl ?_
    refine pr_aload_n hC (by decide +kernel : decode cX8_advance 259 = .ok (.aload_n 0, 1)) rfl ?_
    refine pu_g0 hC fg_X8_19 (by decide +kernel : decode cX8_advance 260 = .ok (.getfield 19, 3)) hU ho (by decide) rfl rfl ?_
    refine pr_isub hC (by decide +kernel : decode cX8_advance 263 = .ok (.isub, 1)) ?_
    refine pr_iload_n hC (by decide +kernel : decode cX8_advance 264 = .ok (.iload_n 2, 1)) rfl ?_
    refine pr_isub hC (by decide +kernel : decode cX8_advance 265 = .ok (.isub, 1)) ?_
    refine pv_topi (fun x3_19 e_x3_19 => ?_)
    replace H := H x3_19 e_x3_19
    refine pr_istore_n hC (by decide +kernel : decode cX8_advance 266 = .ok (.istore_n 3, 1)) (by decide) rfl ?_
    refine pr_aload_n hC (by decide +kernel : decode cX8_advance 267 = .ok (.aload_n 0, 1)) rfl ?_
    refine pr_iload_n hC (by decide +kernel : decode cX8_advance 268 = .ok (.iload_n 3, 1)) rfl ?_
    have HJ_26 : ∀ (xs_21 : Int32), xs_21 = (if x3_19 ≤ 0 then (-1) else (if (4 : Int32) < x3_19 then (-1) else x1_17)) → pw X Y.1 (pm_A hh sz) (pm_E X Y.1 hh sz 0 0 (pm_P Y h0 sz (pq_v post))) 282 [some (.ref (Y.2.1 o)), none, none, none] [.int xs_21, .ref (Y.2.1 o)] h sz 0 0 := by
      intro xs_21 e_xs_21
      replace H := H xs_21 e_xs_21
      refine pv_p0 hC fp_X8_34 (by decide +kernel : decode cX8_advance 282 = .ok (.putfield 34, 3)) hU ho (by decide) rfl rfl rfl rfl (fun U_22 h e_U_22 hU => ?_)
      replace H := H U_22 e_U_22
      refine pr_aload_n hC (by decide +kernel : decode cX8_advance 285 = .ok (.aload_n 0, 1)) rfl ?_
      refine pr_iconst hC (-1) (by decide +kernel : decode cX8_advance 286 = .ok (.iconst (-1), 1)) rfl ?_
      refine pv_p0 hC fp_X8_37 (by decide +kernel : decode cX8_advance 287 = .ok (.putfield 37, 3)) hU ho (by decide) rfl rfl rfl rfl (fun U_23 h e_U_23 hU => ?_)
      replace H := H U_23 e_U_23
      refine pr_aload_n hC (by decide +kernel : decode cX8_advance 290 = .ok (.aload_n 0, 1)) rfl ?_
      refine pu_g0 hC fg_X8_22 (by decide +kernel : decode cX8_advance 291 = .ok (.getfield 22, 3)) hU ho (by decide) rfl rfl ?_
      refine pr_aload_n hC (by decide +kernel : decode cX8_advance 294 = .ok (.aload_n 0, 1)) rfl ?_
      refine pu_g0 hC fg_X8_19 (by decide +kernel : decode cX8_advance 295 = .ok (.getfield 19, 3)) hU ho (by decide) rfl rfl ?_
      refine pr_icmp_ne hC 339 (by decide +kernel : decode cX8_advance 298 = .ok (.if_icmp .ne 41, 3)) (by decide) (fun c_298 => ?_) (fun c_298 => ?_)
      · replace H := H.2 c_298
        exact pv_vret hM (by decide +kernel : decode cX8_advance 339 = .ok (.return_, 1)) hU H
      replace H := H.1 c_298
      refine pr_aload_n hC (by decide +kernel : decode cX8_advance 301 = .ok (.aload_n 0, 1)) rfl ?_
      refine pu_g0 hC fg_X8_19 (by decide +kernel : decode cX8_advance 302 = .ok (.getfield 19, 3)) hU ho (by decide) rfl rfl ?_
      refine pr_aload_n hC (by decide +kernel : decode cX8_advance 305 = .ok (.aload_n 0, 1)) rfl ?_
      refine pu_g0 hC fg_X8_15 (by decide +kernel : decode cX8_advance 306 = .ok (.getfield 15, 3)) hU ho (by decide) rfl rfl ?_
      refine pr_icmp_ge hC 339 (by decide +kernel : decode cX8_advance 309 = .ok (.if_icmp .ge 30, 3)) (by decide) (fun c_309 => ?_) (fun c_309 => ?_)
      · replace H := H.1 c_309
        exact pv_vret hM (by decide +kernel : decode cX8_advance 339 = .ok (.return_, 1)) hU H
      replace H := H.2 c_309
      refine pr_aload_n hC (by decide +kernel : decode cX8_advance 312 = .ok (.aload_n 0, 1)) rfl ?_
      refine pr_aload_n hC (by decide +kernel : decode cX8_advance 313 = .ok (.aload_n 0, 1)) rfl ?_
      refine pu_g1 hC fg_X8_11 (by decide +kernel : decode cX8_advance 314 = .ok (.getfield 11, 3)) hU ho (by decide) rfl (by decide) ?_
      refine pr_aload_n hC (by decide +kernel : decode cX8_advance 317 = .ok (.aload_n 0, 1)) rfl ?_
      refine pu_g0 hC fg_X8_19 (by decide +kernel : decode cX8_advance 318 = .ok (.getfield 19, 3)) hU ho (by decide) rfl rfl ?_
      refine pu_bald hC (by decide +kernel : decode cX8_advance 321 = .ok (.baload, 1)) hU ho rfl H.1 ?_
      replace H := H.2
      refine pr_sipush hC (255) (by decide +kernel : decode cX8_advance 322 = .ok (.sipush 255, 3)) rfl ?_
      refine pr_iand hC (by decide +kernel : decode cX8_advance 325 = .ok (.iand, 1)) ?_
      refine pv_p0 hC fp_X8_37 (by decide +kernel : decode cX8_advance 326 = .ok (.putfield 37, 3)) hU ho (by decide) rfl rfl rfl rfl (fun U_24 h e_U_24 hU => ?_)
      replace H := H U_24 e_U_24
      refine pr_aload_n hC (by decide +kernel : decode cX8_advance 329 = .ok (.aload_n 0, 1)) rfl ?_
      refine pr_dup hC (by decide +kernel : decode cX8_advance 330 = .ok (.dup, 1)) rfl ?_
      refine pu_g0 hC fg_X8_22 (by decide +kernel : decode cX8_advance 331 = .ok (.getfield 22, 3)) hU ho (by decide) rfl rfl ?_
      refine pr_iconst hC (1) (by decide +kernel : decode cX8_advance 334 = .ok (.iconst 1, 1)) rfl ?_
      refine pr_iadd hC (by decide +kernel : decode cX8_advance 335 = .ok (.iadd, 1)) ?_
      refine pv_p0 hC fp_X8_22 (by decide +kernel : decode cX8_advance 336 = .ok (.putfield 22, 3)) hU ho (by decide) rfl rfl rfl rfl (fun U_25 h e_U_25 hU => ?_)
      replace H := H U_25 e_U_25
      exact pv_vret hM (by decide +kernel : decode cX8_advance 339 = .ok (.return_, 1)) hU H
    replace H := trivial
    refine pr_if_le hC 281 (by decide +kernel : decode cX8_advance 269 = .ok (.ifCond .le 12, 3)) (by decide) (fun c_269 => ?_) (fun c_269 => ?_)
    · skip
      refine pr_iconst hC (-1) (by decide +kernel : decode cX8_advance 281 = .ok (.iconst (-1), 1)) rfl ?_
      exact pv_sub [some (.ref (Y.2.1 o)), none, none, none] (And.intro rfl trivial) (HJ_26 _ (if_pos c_269).symm)
    skip
    refine pr_iload_n hC (by decide +kernel : decode cX8_advance 272 = .ok (.iload_n 3, 1)) rfl ?_
    refine pr_iconst hC (4) (by decide +kernel : decode cX8_advance 273 = .ok (.iconst 4, 1)) rfl ?_
    refine pr_icmp_gt hC 281 (by decide +kernel : decode cX8_advance 274 = .ok (.if_icmp .gt 7, 3)) (by decide) (fun c_274_20 => ?_) (fun c_274_20 => ?_)
    · skip
      refine pr_iconst hC (-1) (by decide +kernel : decode cX8_advance 281 = .ok (.iconst (-1), 1)) rfl ?_
      exact pv_sub [some (.ref (Y.2.1 o)), none, none, none] (And.intro rfl trivial) (HJ_26 _ ((if_neg c_269).trans (if_pos c_274_20)).symm)
    skip
    refine pr_iload_n hC (by decide +kernel : decode cX8_advance 277 = .ok (.iload_n 1, 1)) rfl ?_
    refine pr_goto hC 282 (by decide +kernel : decode cX8_advance 278 = .ok (.goto 4, 3)) (by decide) ?_
    exact pv_sub [some (.ref (Y.2.1 o)), none, none, none] (And.intro rfl trivial) (HJ_26 _ ((if_neg c_269).trans (if_neg c_274_20)).symm)
  replace H := trivial
  refine pr_if_le hC 175 (by decide +kernel : decode cX8_advance 162 = .ok (.ifCond .le 13, 3)) (by decide) (fun c_162 => ?_) (fun c_162 => ?_)
  · skip
    refine pr_iconst hC (-1) (by decide +kernel : decode cX8_advance 175 = .ok (.iconst (-1), 1)) rfl ?_
    exact pv_sub [some (.ref (Y.2.1 o)), none, some (.int x2_11), none] (And.intro rfl (And.intro rfl trivial)) (HJ_28 _ (if_pos c_162).symm)
  skip
  refine pr_iload_n hC (by decide +kernel : decode cX8_advance 165 = .ok (.iload_n 2, 1)) rfl ?_
  refine pr_bipush hC (6) (by decide +kernel : decode cX8_advance 166 = .ok (.bipush 6, 2)) rfl ?_
  refine pr_icmp_gt hC 175 (by decide +kernel : decode cX8_advance 168 = .ok (.if_icmp .gt 7, 3)) (by decide) (fun c_168_12 => ?_) (fun c_168_12 => ?_)
  · skip
    refine pr_iconst hC (-1) (by decide +kernel : decode cX8_advance 175 = .ok (.iconst (-1), 1)) rfl ?_
    exact pv_sub [some (.ref (Y.2.1 o)), none, some (.int x2_11), none] (And.intro rfl (And.intro rfl trivial)) (HJ_28 _ ((if_neg c_162).trans (if_pos c_168_12)).symm)
  skip
  refine pr_iload_n hC (by decide +kernel : decode cX8_advance 171 = .ok (.iload_n 1, 1)) rfl ?_
  refine pr_goto hC 176 (by decide +kernel : decode cX8_advance 172 = .ok (.goto 4, 3)) (by decide) ?_
  exact pv_sub [some (.ref (Y.2.1 o)), none, some (.int x2_11), none] (And.intro rfl (And.intro rfl trivial)) (HJ_28 _ ((if_neg c_162).trans (if_neg c_168_12)).symm)
def w_X8_rewind (o : Nat) (U : Um) (post : Um → Prop) : Prop :=
  ∀ (U_1 : Um), U_1 = sI U o 2 0 → ∀ (U_2 : Um), U_2 = sI U_1 o 3 0 → w_X8_advance o U_2 (fun U_3 => post U_3)
set_option maxHeartbeats 4000000 in
theorem t_X8_rewind {l : Launch} {Y : px_Y} {o : Nat} {U : Um} {post : Um → Prop} (ho : oc o = 7) (H : w_X8_rewind o U post) : um l Y 1 yX8_rewind cX8_rewind 1 none [.ref (Y.2.1 o)] U (pq_v post) := by
  unfold w_X8_rewind at H
  refine um_of (by decide) (Nat.le_of_ble_eq_true rfl) [some (.ref (Y.2.1 o))] rfl (fun X h0 hh sz hM hU => ?_)
  have hC := hM.1
  have hR := hM.2.2.1
  refine pr_aload_n hC (by decide +kernel : decode cX8_rewind 0 = .ok (.aload_n 0, 1)) rfl ?_
  refine pr_iconst hC (0) (by decide +kernel : decode cX8_rewind 1 = .ok (.iconst 0, 1)) rfl ?_
  refine pv_p0 hC fp_X8_19 (by decide +kernel : decode cX8_rewind 2 = .ok (.putfield 19, 3)) hU ho (by decide) rfl rfl rfl rfl (fun U_1 h e_U_1 hU => ?_)
  replace H := H U_1 e_U_1
  refine pr_aload_n hC (by decide +kernel : decode cX8_rewind 5 = .ok (.aload_n 0, 1)) rfl ?_
  refine pr_iconst hC (0) (by decide +kernel : decode cX8_rewind 6 = .ok (.iconst 0, 1)) rfl ?_
  refine pv_p0 hC fp_X8_22 (by decide +kernel : decode cX8_rewind 7 = .ok (.putfield 22, 3)) hU ho (by decide) rfl rfl rfl rfl (fun U_2 h e_U_2 hU => ?_)
  replace H := H U_2 e_U_2
  refine pr_aload_n hC (by decide +kernel : decode cX8_rewind 10 = .ok (.aload_n 0, 1)) rfl ?_
  refine vc_Vv hC hR [] fv_X8_25 (by decide +kernel : decode cX8_rewind 11 = .ok (.invokevirtual 25, 3)) hU (t_X8_advance ho H) ho (by decide) rfl rfl rfl (Nat.le_of_ble_eq_true rfl) (Nat.le_of_ble_eq_true rfl) (Nat.le_refl 0) (Nat.le_refl 0) (fun U_3 h H hU => ?_)
  exact pv_vret hM (by decide +kernel : decode cX8_rewind 14 = .ok (.return_, 1)) hU H
def w_X8_isOver (o : Nat) (U : Um) (post : Int32 → Um → Prop) : Prop :=
  ((uI U o 2) < (uI U o 1) → post 0 U) ∧ (¬ (uI U o 2) < (uI U o 1) → post 1 U)
set_option maxHeartbeats 4000000 in
theorem t_X8_isOver {l : Launch} {Y : px_Y} {o : Nat} {U : Um} {post : Int32 → Um → Prop} (ho : oc o = 7) (H : w_X8_isOver o U post) : um l Y 0 yX8_isOver cX8_isOver 1 (some (.boolean)) [.ref (Y.2.1 o)] U (pq_i post) := by
  unfold w_X8_isOver at H
  refine um_of (by decide) (Nat.le_of_ble_eq_true rfl) [some (.ref (Y.2.1 o))] rfl (fun X h0 hh sz hM hU => ?_)
  have hC := hM.1
  have hR := hM.2.2.1
  refine pr_aload_n hC (by decide +kernel : decode cX8_isOver 0 = .ok (.aload_n 0, 1)) rfl ?_
  refine pu_g0 hC fg_X8_19 (by decide +kernel : decode cX8_isOver 1 = .ok (.getfield 19, 3)) hU ho (by decide) rfl rfl ?_
  refine pr_aload_n hC (by decide +kernel : decode cX8_isOver 4 = .ok (.aload_n 0, 1)) rfl ?_
  refine pu_g0 hC fg_X8_15 (by decide +kernel : decode cX8_isOver 5 = .ok (.getfield 15, 3)) hU ho (by decide) rfl rfl ?_
  refine pr_icmp_lt hC 15 (by decide +kernel : decode cX8_isOver 8 = .ok (.if_icmp .lt 7, 3)) (by decide) (fun c_8 => ?_) (fun c_8 => ?_)
  · replace H := H.1 c_8
    refine pr_iconst hC (0) (by decide +kernel : decode cX8_isOver 15 = .ok (.iconst 0, 1)) rfl ?_
    exact pv_zret hM (by decide +kernel : decode cX8_isOver 16 = .ok (.ireturn, 1)) (Or.inl rfl) hU H
  replace H := H.2 c_8
  refine pr_iconst hC (1) (by decide +kernel : decode cX8_isOver 11 = .ok (.iconst 1, 1)) rfl ?_
  refine pr_goto hC 16 (by decide +kernel : decode cX8_isOver 12 = .ok (.goto 4, 3)) (by decide) ?_
  exact pv_zret hM (by decide +kernel : decode cX8_isOver 16 = .ok (.ireturn, 1)) (Or.inr rfl) hU H
def w_X4_fail (o : Nat) (a1 : Int32) (a2 : Int32) (U : Um) (post : Um → Prop) : Prop :=
  ((uI U o 2) = 0 → ∀ (U_1 : Um), U_1 = sI U o 2 a1 → ∀ (U_2 : Um), U_2 = sI U_1 o 3 a2 → post U_2) ∧ (¬ (uI U o 2) = 0 → post U)
set_option maxHeartbeats 4000000 in
theorem t_X4_fail {l : Launch} {Y : px_Y} {o : Nat} {a1 : Int32} {a2 : Int32} {U : Um} {post : Um → Prop} (ho : oc o = 3) (H : w_X4_fail o a1 a2 U post) : um l Y 0 yX4_fail cX4_fail 3 none [.ref (Y.2.1 o), .int a1, .int a2] U (pq_v post) := by
  unfold w_X4_fail at H
  refine um_of (by decide) (Nat.le_of_ble_eq_true rfl) [some (.ref (Y.2.1 o)), some (.int a1), some (.int a2)] rfl (fun X h0 hh sz hM hU => ?_)
  have hC := hM.1
  have hR := hM.2.2.1
  refine pr_aload_n hC (by decide +kernel : decode cX4_fail 0 = .ok (.aload_n 0, 1)) rfl ?_
  refine pu_g0 hC fg_X4_28 (by decide +kernel : decode cX4_fail 1 = .ok (.getfield 28, 3)) hU ho (by decide) rfl rfl ?_
  refine pr_if_ne hC 17 (by decide +kernel : decode cX4_fail 4 = .ok (.ifCond .ne 13, 3)) (by decide) (fun c_4 => ?_) (fun c_4 => ?_)
  · replace H := H.2 c_4
    exact pv_vret hM (by decide +kernel : decode cX4_fail 17 = .ok (.return_, 1)) hU H
  replace H := H.1 c_4
  refine pr_aload_n hC (by decide +kernel : decode cX4_fail 7 = .ok (.aload_n 0, 1)) rfl ?_
  refine pr_iload_n hC (by decide +kernel : decode cX4_fail 8 = .ok (.iload_n 1, 1)) rfl ?_
  refine pv_p0 hC fp_X4_28 (by decide +kernel : decode cX4_fail 9 = .ok (.putfield 28, 3)) hU ho (by decide) rfl rfl rfl rfl (fun U_1 h e_U_1 hU => ?_)
  replace H := H U_1 e_U_1
  refine pr_aload_n hC (by decide +kernel : decode cX4_fail 12 = .ok (.aload_n 0, 1)) rfl ?_
  refine pr_iload_n hC (by decide +kernel : decode cX4_fail 13 = .ok (.iload_n 2, 1)) rfl ?_
  refine pv_p0 hC fp_X4_15 (by decide +kernel : decode cX4_fail 14 = .ok (.putfield 15, 3)) hU ho (by decide) rfl rfl rfl rfl (fun U_2 h e_U_2 hU => ?_)
  replace H := H U_2 e_U_2
  exact pv_vret hM (by decide +kernel : decode cX4_fail 17 = .ok (.return_, 1)) hU H
def w_X9_isFull (o : Nat) (a1 : Int32) (U : Um) (post : Int32 → Um → Prop) : Prop :=
  vp_in a1 3 ∧ vp_in a1 3 ∧ ((uA U o 1 (Int32.toNatClampNeg a1)) < (if Int32.toNatClampNeg a1 = 0 then 6 else if Int32.toNatClampNeg a1 = 1 then 8 else 10) → post 0 U) ∧ (¬ (uA U o 1 (Int32.toNatClampNeg a1)) < (if Int32.toNatClampNeg a1 = 0 then 6 else if Int32.toNatClampNeg a1 = 1 then 8 else 10) → post 1 U)
set_option maxHeartbeats 4000000 in
theorem t_X9_isFull {l : Launch} {Y : px_Y} {o : Nat} {a1 : Int32} {U : Um} {post : Int32 → Um → Prop} (ho : oc o = 8) (H : w_X9_isFull o a1 U post) : um l Y 0 yX9_isFull cX9_isFull 2 (some (.boolean)) [.ref (Y.2.1 o), .int a1] U (pq_i post) := by
  unfold w_X9_isFull at H
  refine um_of (by decide) (Nat.le_of_ble_eq_true rfl) [some (.ref (Y.2.1 o)), some (.int a1)] rfl (fun X h0 hh sz hM hU => ?_)
  have hC := hM.1
  have hR := hM.2.2.1
  refine pr_aload_n hC (by decide +kernel : decode cX9_isFull 0 = .ok (.aload_n 0, 1)) rfl ?_
  refine pu_g1 hC fg_X9_16 (by decide +kernel : decode cX9_isFull 1 = .ok (.getfield 16, 3)) hU ho (by decide) rfl (by decide) ?_
  refine pr_iload_n hC (by decide +kernel : decode cX9_isFull 4 = .ok (.iload_n 1, 1)) rfl ?_
  refine pu_iald hC (by decide +kernel : decode cX9_isFull 5 = .ok (.iaload, 1)) hU ho rfl H.1 ?_
  replace H := H.2
  refine pr_gets hC fs_X9_78 (ro_z2 _) (by decide +kernel : decode cX9_isFull 6 = .ok (.getstatic 78, 3)) ?_
  refine pr_iload_n hC (by decide +kernel : decode cX9_isFull 9 = .ok (.iload_n 1, 1)) rfl ?_
  refine pr_ialoadR hC (ro_t2 _) (by decide +kernel : decode cX9_isFull 10 = .ok (.iaload, 1)) H.1 rfl ?_
  replace H := H.2
  refine pr_icmp_lt hC 18 (by decide +kernel : decode cX9_isFull 11 = .ok (.if_icmp .lt 7, 3)) (by decide) (fun c_11 => ?_) (fun c_11 => ?_)
  · replace H := H.1 c_11
    refine pr_iconst hC (0) (by decide +kernel : decode cX9_isFull 18 = .ok (.iconst 0, 1)) rfl ?_
    exact pv_zret hM (by decide +kernel : decode cX9_isFull 19 = .ok (.ireturn, 1)) (Or.inl rfl) hU H
  replace H := H.2 c_11
  refine pr_iconst hC (1) (by decide +kernel : decode cX9_isFull 14 = .ok (.iconst 1, 1)) rfl ?_
  refine pr_goto hC 19 (by decide +kernel : decode cX9_isFull 15 = .ok (.goto 4, 3)) (by decide) ?_
  exact pv_zret hM (by decide +kernel : decode cX9_isFull 19 = .ok (.ireturn, 1)) (Or.inr rfl) hU H
def b_X9_find_L2 (o0 : Nat) (x1 : Int32) (x2 : Int32) (post : Int32 → Um → Prop) (k_32 : Um → Prop) (rec_ : Int32 → Um → Prop) (x3 : Int32) (U : Um) : Prop :=
  vp_in x1 3 ∧ ((uA U o0 1 (Int32.toNatClampNeg x1)) ≤ x3 → k_32 U) ∧ (¬ (uA U o0 1 (Int32.toNatClampNeg x1)) ≤ x3 → vp_in x1 3 ∧ vp_in x3 10 ∧ ((uA U o0 (ki 0 (Int32.toNatClampNeg x1)) (Int32.toNatClampNeg x3)) = x2 → post x3 U) ∧ (¬ (uA U o0 (ki 0 (Int32.toNatClampNeg x1)) (Int32.toNatClampNeg x3)) = x2 → ∀ (x3_2 : Int32), x3_2 = x3 + 1 → rec_ x3_2 U))
def w_X9_find_L2 (o0 : Nat) (x1 : Int32) (x2 : Int32) (post : Int32 → Um → Prop) (k_32 : Um → Prop) (n_ : Nat) : Int32 → Um → Prop := Nat.rec (motive := fun _ => Int32 → Um → Prop) (fun _ _ => False) (fun _ ih => b_X9_find_L2 o0 x1 x2 post k_32 ih) n_
def w_X9_find (o : Nat) (a1 : Int32) (a2 : Int32) (U : Um) (post : Int32 → Um → Prop) : Prop :=
  (∃ n_4, w_X9_find_L2 o a1 a2 post (fun U_3 => post (-1) U_3) n_4 0 U)
set_option maxHeartbeats 4000000 in
theorem tl_X9_find_L2 {l : Launch} {Y : px_Y} {X : px_X} {h0 hh : pe_H} {sz : Nat} (o0 : Nat) (x1 : Int32) (x2 : Int32) (post : Int32 → Um → Prop) (k_32 : Um → Prop) (ho0 : oc o0 = 8)  (hC : px_C X Y.1 (pm_A hh sz) cX9_find RX9 4) (hM : px_M l X Y.1 hh sz yX9_find cX9_find 4 (some (.int)) 0 0 0) (hR : X.2.2.2.1 = pm_rm 0 0 0) (hk_32 : ∀ (U : Um) (h : pe_H), k_32 U → rF Y h0 U h → pw X Y.1 (pm_A hh sz) (pm_E X Y.1 hh sz 0 0 (pm_P Y h0 sz (pq_i post))) 32 [none, none, none, none] [] h sz 0 0) : ∀ (n_ : Nat) (x3 : Int32) (U : Um) (h : pe_H), rF Y h0 U h → w_X9_find_L2 o0 x1 x2 post k_32 n_ x3 U → pw X Y.1 (pm_A hh sz) (pm_E X Y.1 hh sz 0 0 (pm_P Y h0 sz (pq_i post))) 2 [some (.ref (Y.2.1 o0)), some (.int x1), some (.int x2), some (.int x3)] [] h sz 0 0 := by
  intro n_
  induction n_ with
  | zero => intro x3 U h hU H; exact False.elim H
  | succ n_ ih =>
    intro x3 U h hU H
    replace H : b_X9_find_L2 o0 x1 x2 post k_32 (w_X9_find_L2 o0 x1 x2 post k_32 n_) x3 U := H
    unfold b_X9_find_L2 at H
    refine pr_iload_n hC (by decide +kernel : decode cX9_find 2 = .ok (.iload_n 3, 1)) rfl ?_
    refine pr_aload_n hC (by decide +kernel : decode cX9_find 3 = .ok (.aload_n 0, 1)) rfl ?_
    refine pu_g1 hC fg_X9_16 (by decide +kernel : decode cX9_find 4 = .ok (.getfield 16, 3)) hU ho0 (by decide) rfl (by decide) ?_
    refine pr_iload_n hC (by decide +kernel : decode cX9_find 7 = .ok (.iload_n 1, 1)) rfl ?_
    refine pu_iald hC (by decide +kernel : decode cX9_find 8 = .ok (.iaload, 1)) hU ho0 rfl H.1 ?_
    replace H := H.2
    refine pr_icmp_ge hC 32 (by decide +kernel : decode cX9_find 9 = .ok (.if_icmp .ge 23, 3)) (by decide) (fun c_9 => ?_) (fun c_9 => ?_)
    · replace H := H.1 c_9
      exact pv_sub [none, none, none, none] (trivial) (hk_32 U h H hU)
    replace H := H.2 c_9
    refine pr_aload_n hC (by decide +kernel : decode cX9_find 12 = .ok (.aload_n 0, 1)) rfl ?_
    refine pu_g1 hC fg_X9_11 (by decide +kernel : decode cX9_find 13 = .ok (.getfield 11, 3)) hU ho0 (by decide) rfl (by decide) ?_
    refine pr_iload_n hC (by decide +kernel : decode cX9_find 16 = .ok (.iload_n 1, 1)) rfl ?_
    have q_1 := H.1
    replace H := H.2
    refine pu_aald6 hC (by decide +kernel : decode cX9_find 17 = .ok (.aaload, 1)) hU ho0 rfl q_1 ?_
    refine pr_iload_n hC (by decide +kernel : decode cX9_find 18 = .ok (.iload_n 3, 1)) rfl ?_
    refine pu_iald7 hC (by decide +kernel : decode cX9_find 19 = .ok (.iaload, 1)) hU ho0 rfl (vp_lt q_1) H.1 ?_
    replace H := H.2
    refine pr_iload_n hC (by decide +kernel : decode cX9_find 20 = .ok (.iload_n 2, 1)) rfl ?_
    refine pr_icmp_ne hC 26 (by decide +kernel : decode cX9_find 21 = .ok (.if_icmp .ne 5, 3)) (by decide) (fun c_21 => ?_) (fun c_21 => ?_)
    · replace H := H.2 c_21
      refine pv_iinc hC (v := x3 + 1) (by decide +kernel : decode cX9_find 26 = .ok (.iinc 3 1, 3)) rfl (by decide) rfl rfl (fun x3_2 e_x3_2 => ?_)
      replace H := H x3_2 e_x3_2
      refine pr_goto hC 2 (by decide +kernel : decode cX9_find 29 = .ok (.goto (-27), 3)) (by decide) ?_
      exact pv_sub [some (.ref (Y.2.1 o0)), some (.int x1), some (.int x2), some (.int x3_2)] (And.intro rfl (And.intro rfl (And.intro rfl (And.intro rfl trivial)))) (ih _ U h hU H)
    replace H := H.1 c_21
    refine pr_iload_n hC (by decide +kernel : decode cX9_find 24 = .ok (.iload_n 3, 1)) rfl ?_
    exact pv_iret hM (by decide +kernel : decode cX9_find 25 = .ok (.ireturn, 1)) hU H
set_option maxHeartbeats 4000000 in
theorem t_X9_find {l : Launch} {Y : px_Y} {o : Nat} {a1 : Int32} {a2 : Int32} {U : Um} {post : Int32 → Um → Prop} (ho : oc o = 8) (H : w_X9_find o a1 a2 U post) : um l Y 0 yX9_find cX9_find 4 (some (.int)) [.ref (Y.2.1 o), .int a1, .int a2] U (pq_i post) := by
  unfold w_X9_find at H
  refine um_of (by decide) (Nat.le_of_ble_eq_true rfl) [some (.ref (Y.2.1 o)), some (.int a1), some (.int a2), none] rfl (fun X h0 hh sz hM hU => ?_)
  have hC := hM.1
  have hR := hM.2.2.1
  refine pr_iconst hC (0) (by decide +kernel : decode cX9_find 0 = .ok (.iconst 0, 1)) rfl ?_
  refine pr_istore_n hC (by decide +kernel : decode cX9_find 1 = .ok (.istore_n 3, 1)) (by decide) rfl ?_
  obtain ⟨n_4, H⟩ := H
  refine pv_sub [some (.ref (Y.2.1 o)), some (.int a1), some (.int a2), some (.int 0)] (And.intro rfl (And.intro rfl (And.intro rfl (And.intro rfl trivial)))) ?_
  refine tl_X9_find_L2 _ _ _ _ _ ho hC hM hR (fun U_3 h H hU => ?_) n_4 _ U hh hU H
  refine pr_iconst hC (-1) (by decide +kernel : decode cX9_find 32 = .ok (.iconst (-1), 1)) rfl ?_
  exact pv_iret hM (by decide +kernel : decode cX9_find 33 = .ok (.ireturn, 1)) hU H
def w_X9_isGiven (o : Nat) (a1 : Int32) (U : Um) (post : Int32 → Um → Prop) : Prop :=
  w_X9_find o 0 a1 U (fun r_2 U_1 => (r_2 = (-1) → w_X9_find o 1 a1 U_1 (fun r_4 U_3 => (r_4 = (-1) → w_X9_find o 2 a1 U_3 (fun r_6 U_5 => (r_6 = (-1) → post 0 U_5) ∧ (¬ r_6 = (-1) → post 1 U_5))) ∧ (¬ r_4 = (-1) → post 1 U_3))) ∧ (¬ r_2 = (-1) → post 1 U_1))
set_option maxHeartbeats 4000000 in
theorem t_X9_isGiven {l : Launch} {Y : px_Y} {o : Nat} {a1 : Int32} {U : Um} {post : Int32 → Um → Prop} (ho : oc o = 8) (H : w_X9_isGiven o a1 U post) : um l Y 1 yX9_isGiven cX9_isGiven 2 (some (.boolean)) [.ref (Y.2.1 o), .int a1] U (pq_i post) := by
  unfold w_X9_isGiven at H
  refine um_of (by decide) (Nat.le_of_ble_eq_true rfl) [some (.ref (Y.2.1 o)), some (.int a1)] rfl (fun X h0 hh sz hM hU => ?_)
  have hC := hM.1
  have hR := hM.2.2.1
  refine pr_aload_n hC (by decide +kernel : decode cX9_isGiven 0 = .ok (.aload_n 0, 1)) rfl ?_
  refine pr_iconst hC (0) (by decide +kernel : decode cX9_isGiven 1 = .ok (.iconst 0, 1)) rfl ?_
  refine pr_iload_n hC (by decide +kernel : decode cX9_isGiven 2 = .ok (.iload_n 1, 1)) rfl ?_
  refine vc_Vi hC hR [.int 0, .int a1] fv_X9_81 (by decide +kernel : decode cX9_isGiven 3 = .ok (.invokevirtual 81, 3)) hU (t_X9_find ho H) ho (by decide) rfl rfl rfl (Nat.le_of_ble_eq_true rfl) (Nat.le_of_ble_eq_true rfl) (Nat.le_refl 0) (Nat.le_refl 0) (fun r_2 U_1 h H hU => ?_)
  refine pr_iconst hC (-1) (by decide +kernel : decode cX9_isGiven 6 = .ok (.iconst (-1), 1)) rfl ?_
  refine pr_icmp_ne hC 30 (by decide +kernel : decode cX9_isGiven 7 = .ok (.if_icmp .ne 23, 3)) (by decide) (fun c_7 => ?_) (fun c_7 => ?_)
  · replace H := H.2 c_7
    refine pr_iconst hC (1) (by decide +kernel : decode cX9_isGiven 30 = .ok (.iconst 1, 1)) rfl ?_
    refine pr_goto hC 35 (by decide +kernel : decode cX9_isGiven 31 = .ok (.goto 4, 3)) (by decide) ?_
    exact pv_zret hM (by decide +kernel : decode cX9_isGiven 35 = .ok (.ireturn, 1)) (Or.inr rfl) hU H
  replace H := H.1 c_7
  refine pr_aload_n hC (by decide +kernel : decode cX9_isGiven 10 = .ok (.aload_n 0, 1)) rfl ?_
  refine pr_iconst hC (1) (by decide +kernel : decode cX9_isGiven 11 = .ok (.iconst 1, 1)) rfl ?_
  refine pr_iload_n hC (by decide +kernel : decode cX9_isGiven 12 = .ok (.iload_n 1, 1)) rfl ?_
  refine vc_Vi hC hR [.int 1, .int a1] fv_X9_81 (by decide +kernel : decode cX9_isGiven 13 = .ok (.invokevirtual 81, 3)) hU (t_X9_find ho H) ho (by decide) rfl rfl rfl (Nat.le_of_ble_eq_true rfl) (Nat.le_of_ble_eq_true rfl) (Nat.le_refl 0) (Nat.le_refl 0) (fun r_4 U_3 h H hU => ?_)
  refine pr_iconst hC (-1) (by decide +kernel : decode cX9_isGiven 16 = .ok (.iconst (-1), 1)) rfl ?_
  refine pr_icmp_ne hC 30 (by decide +kernel : decode cX9_isGiven 17 = .ok (.if_icmp .ne 13, 3)) (by decide) (fun c_17 => ?_) (fun c_17 => ?_)
  · replace H := H.2 c_17
    refine pr_iconst hC (1) (by decide +kernel : decode cX9_isGiven 30 = .ok (.iconst 1, 1)) rfl ?_
    refine pr_goto hC 35 (by decide +kernel : decode cX9_isGiven 31 = .ok (.goto 4, 3)) (by decide) ?_
    exact pv_zret hM (by decide +kernel : decode cX9_isGiven 35 = .ok (.ireturn, 1)) (Or.inr rfl) hU H
  replace H := H.1 c_17
  refine pr_aload_n hC (by decide +kernel : decode cX9_isGiven 20 = .ok (.aload_n 0, 1)) rfl ?_
  refine pr_iconst hC (2) (by decide +kernel : decode cX9_isGiven 21 = .ok (.iconst 2, 1)) rfl ?_
  refine pr_iload_n hC (by decide +kernel : decode cX9_isGiven 22 = .ok (.iload_n 1, 1)) rfl ?_
  refine vc_Vi hC hR [.int 2, .int a1] fv_X9_81 (by decide +kernel : decode cX9_isGiven 23 = .ok (.invokevirtual 81, 3)) hU (t_X9_find ho H) ho (by decide) rfl rfl rfl (Nat.le_of_ble_eq_true rfl) (Nat.le_of_ble_eq_true rfl) (Nat.le_refl 0) (Nat.le_refl 0) (fun r_6 U_5 h H hU => ?_)
  refine pr_iconst hC (-1) (by decide +kernel : decode cX9_isGiven 26 = .ok (.iconst (-1), 1)) rfl ?_
  refine pr_icmp_eq hC 34 (by decide +kernel : decode cX9_isGiven 27 = .ok (.if_icmp .eq 7, 3)) (by decide) (fun c_27 => ?_) (fun c_27 => ?_)
  · replace H := H.1 c_27
    refine pr_iconst hC (0) (by decide +kernel : decode cX9_isGiven 34 = .ok (.iconst 0, 1)) rfl ?_
    exact pv_zret hM (by decide +kernel : decode cX9_isGiven 35 = .ok (.ireturn, 1)) (Or.inl rfl) hU H
  replace H := H.2 c_27
  refine pr_iconst hC (1) (by decide +kernel : decode cX9_isGiven 30 = .ok (.iconst 1, 1)) rfl ?_
  refine pr_goto hC 35 (by decide +kernel : decode cX9_isGiven 31 = .ok (.goto 4, 3)) (by decide) ?_
  exact pv_zret hM (by decide +kernel : decode cX9_isGiven 35 = .ok (.ireturn, 1)) (Or.inr rfl) hU H
def w_X9_addName (o : Nat) (a1 : Int32) (a2 : Int32) (U : Um) (post : Int32 → Um → Prop) : Prop :=
  vp_in a1 3 ∧ ∀ (x3_1 : Int32), x3_1 = uA U o 1 (Int32.toNatClampNeg a1) → vp_in a1 3 ∧ vp_in x3_1 10 ∧ ∀ (U_3 : Um), U_3 = sA U o (ki 0 (Int32.toNatClampNeg a1)) (va_up (uA U o (ki 0 (Int32.toNatClampNeg a1))) (Int32.toNatClampNeg x3_1) a2) → vp_in a1 3 ∧ vp_in a1 3 ∧ ∀ (U_4 : Um), U_4 = sA U_3 o 1 (va_up (uA U_3 o 1) (Int32.toNatClampNeg a1) ((uA U_3 o 1 (Int32.toNatClampNeg a1)) + 1)) → post x3_1 U_4
set_option maxHeartbeats 4000000 in
theorem t_X9_addName {l : Launch} {Y : px_Y} {o : Nat} {a1 : Int32} {a2 : Int32} {U : Um} {post : Int32 → Um → Prop} (ho : oc o = 8) (H : w_X9_addName o a1 a2 U post) : um l Y 0 yX9_addName cX9_addName 4 (some (.int)) [.ref (Y.2.1 o), .int a1, .int a2] U (pq_i post) := by
  unfold w_X9_addName at H
  refine um_of (by decide) (Nat.le_of_ble_eq_true rfl) [some (.ref (Y.2.1 o)), some (.int a1), some (.int a2), none] rfl (fun X h0 hh sz hM hU => ?_)
  have hC := hM.1
  have hR := hM.2.2.1
  refine pr_aload_n hC (by decide +kernel : decode cX9_addName 0 = .ok (.aload_n 0, 1)) rfl ?_
  refine pu_g1 hC fg_X9_16 (by decide +kernel : decode cX9_addName 1 = .ok (.getfield 16, 3)) hU ho (by decide) rfl (by decide) ?_
  refine pr_iload_n hC (by decide +kernel : decode cX9_addName 4 = .ok (.iload_n 1, 1)) rfl ?_
  refine pu_iald hC (by decide +kernel : decode cX9_addName 5 = .ok (.iaload, 1)) hU ho rfl H.1 ?_
  replace H := H.2
  refine pv_topi (fun x3_1 e_x3_1 => ?_)
  replace H := H x3_1 e_x3_1
  refine pr_istore_n hC (by decide +kernel : decode cX9_addName 6 = .ok (.istore_n 3, 1)) (by decide) rfl ?_
  refine pr_aload_n hC (by decide +kernel : decode cX9_addName 7 = .ok (.aload_n 0, 1)) rfl ?_
  refine pu_g1 hC fg_X9_11 (by decide +kernel : decode cX9_addName 8 = .ok (.getfield 11, 3)) hU ho (by decide) rfl (by decide) ?_
  refine pr_iload_n hC (by decide +kernel : decode cX9_addName 11 = .ok (.iload_n 1, 1)) rfl ?_
  have q_2 := H.1
  replace H := H.2
  refine pu_aald6 hC (by decide +kernel : decode cX9_addName 12 = .ok (.aaload, 1)) hU ho rfl q_2 ?_
  refine pr_iload_n hC (by decide +kernel : decode cX9_addName 13 = .ok (.iload_n 3, 1)) rfl ?_
  refine pr_iload_n hC (by decide +kernel : decode cX9_addName 14 = .ok (.iload_n 2, 1)) rfl ?_
  refine pv_iast7 hC (by decide +kernel : decode cX9_addName 15 = .ok (.iastore, 1)) hU ho rfl (vp_lt q_2) H.1 (fun U_3 h e_U_3 hU => ?_)
  replace H := H.2 U_3 e_U_3
  refine pr_aload_n hC (by decide +kernel : decode cX9_addName 16 = .ok (.aload_n 0, 1)) rfl ?_
  refine pu_g1 hC fg_X9_16 (by decide +kernel : decode cX9_addName 17 = .ok (.getfield 16, 3)) hU ho (by decide) rfl (by decide) ?_
  refine pr_iload_n hC (by decide +kernel : decode cX9_addName 20 = .ok (.iload_n 1, 1)) rfl ?_
  refine pr_dup2 hC (by decide +kernel : decode cX9_addName 21 = .ok (.dup2, 1)) rfl rfl ?_
  refine pu_iald hC (by decide +kernel : decode cX9_addName 22 = .ok (.iaload, 1)) hU ho rfl H.1 ?_
  replace H := H.2
  refine pr_iconst hC (1) (by decide +kernel : decode cX9_addName 23 = .ok (.iconst 1, 1)) rfl ?_
  refine pr_iadd hC (by decide +kernel : decode cX9_addName 24 = .ok (.iadd, 1)) ?_
  refine pv_iast hC (by decide +kernel : decode cX9_addName 25 = .ok (.iastore, 1)) hU ho rfl H.1 (fun U_4 h e_U_4 hU => ?_)
  replace H := H.2 U_4 e_U_4
  refine pr_iload_n hC (by decide +kernel : decode cX9_addName 26 = .ok (.iload_n 3, 1)) rfl ?_
  exact pv_iret hM (by decide +kernel : decode cX9_addName 27 = .ok (.ireturn, 1)) hU H
def w_X4_numberWithin (o : Nat) (a1 : Int32) (a2 : Int32) (U : Um) (post : Int32 → Um → Prop) : Prop :=
  oc (uR U o 0) = 7 ∧ ∀ (x3_2 : Int32), x3_2 = uI U (uR U o 0) 6 → (∀ K_3 : Um → Prop, (∀ (U_4 : Um), (((uI U_4 o 2) = 0 → oc (uR U_4 o 0) = 7 ∧ w_X8_advance (uR U_4 o 0) U_4 (fun U_6 => post x3_2 U_6)) ∧ (¬ (uI U_4 o 2) = 0 → post (-1) U_4)) → K_3 U_4) → (x3_2 = (-1) → oc (uR U o 0) = 7 ∧ w_X4_fail o 1 (uI U (uR U o 0) 2) U (fun U_9 => K_3 U_9)) ∧ (¬ x3_2 = (-1) → (∀ K_11 : Prop, ((oc (uR U o 0) = 7 ∧ w_X4_fail o 2 (uI U (uR U o 0) 2) U (fun U_13 => K_3 U_13)) → K_11 ) → (x3_2 < a1 → K_11) ∧ (¬ x3_2 < a1 → (x3_2 ≤ a2 → K_3 U) ∧ (¬ x3_2 ≤ a2 → K_11)))))
set_option maxHeartbeats 4000000 in
theorem t_X4_numberWithin {l : Launch} {Y : px_Y} {o : Nat} {a1 : Int32} {a2 : Int32} {U : Um} {post : Int32 → Um → Prop} (ho : oc o = 3) (H : w_X4_numberWithin o a1 a2 U post) : um l Y 1 yX4_numberWithin cX4_numberWithin 4 (some (.int)) [.ref (Y.2.1 o), .int a1, .int a2] U (pq_i post) := by
  unfold w_X4_numberWithin at H
  refine um_of (by decide) (Nat.le_of_ble_eq_true rfl) [some (.ref (Y.2.1 o)), some (.int a1), some (.int a2), none] rfl (fun X h0 hh sz hM hU => ?_)
  have hC := hM.1
  have hR := hM.2.2.1
  refine pr_aload_n hC (by decide +kernel : decode cX4_numberWithin 0 = .ok (.aload_n 0, 1)) rfl ?_
  refine pu_g21 hC fg_X4_9 (by decide +kernel : decode cX4_numberWithin 1 = .ok (.getfield 9, 3)) hU ho (by decide) rfl rfl ?_
  have q_1 := H.1
  replace H := H.2
  refine pu_g0 hC fg_X4_249 (by decide +kernel : decode cX4_numberWithin 4 = .ok (.getfield 249, 3)) hU q_1 (by decide) rfl rfl ?_
  refine pv_topi (fun x3_2 e_x3_2 => ?_)
  replace H := H x3_2 e_x3_2
  refine pr_istore_n hC (by decide +kernel : decode cX4_numberWithin 7 = .ok (.istore_n 3, 1)) (by decide) rfl ?_
  refine pr_iload_n hC (by decide +kernel : decode cX4_numberWithin 8 = .ok (.iload_n 3, 1)) rfl ?_
  refine pr_iconst hC (-1) (by decide +kernel : decode cX4_numberWithin 9 = .ok (.iconst (-1), 1)) rfl ?_
  replace H := H (fun U_4 => ∀ h : pe_H, rF Y h0 U_4 h → pw X Y.1 (pm_A hh sz) (pm_E X Y.1 hh sz 0 0 (pm_P Y h0 sz (pq_i post))) 50 [some (.ref (Y.2.1 o)), none, none, some (.int x3_2)] [] h sz 0 0) (by
    intro U_4 H h hU
    refine pr_aload_n hC (by decide +kernel : decode cX4_numberWithin 50 = .ok (.aload_n 0, 1)) rfl ?_
    refine pu_g0 hC fg_X4_28 (by decide +kernel : decode cX4_numberWithin 51 = .ok (.getfield 28, 3)) hU ho (by decide) rfl rfl ?_
    refine pr_if_eq hC 59 (by decide +kernel : decode cX4_numberWithin 54 = .ok (.ifCond .eq 5, 3)) (by decide) (fun c_54 => ?_) (fun c_54 => ?_)
    · replace H := H.1 c_54
      refine pr_aload_n hC (by decide +kernel : decode cX4_numberWithin 59 = .ok (.aload_n 0, 1)) rfl ?_
      refine pu_g21 hC fg_X4_9 (by decide +kernel : decode cX4_numberWithin 60 = .ok (.getfield 9, 3)) hU ho (by decide) rfl rfl ?_
      have q_5 := H.1
      replace H := H.2
      refine vc_Vv hC hR [] fv_X4_65 (by decide +kernel : decode cX4_numberWithin 63 = .ok (.invokevirtual 65, 3)) hU (t_X8_advance q_5 H) q_5 (by decide) rfl rfl rfl (Nat.le_of_ble_eq_true rfl) (Nat.le_of_ble_eq_true rfl) (Nat.le_refl 0) (Nat.le_refl 0) (fun U_6 h H hU => ?_)
      refine pr_iload_n hC (by decide +kernel : decode cX4_numberWithin 66 = .ok (.iload_n 3, 1)) rfl ?_
      exact pv_iret hM (by decide +kernel : decode cX4_numberWithin 67 = .ok (.ireturn, 1)) hU H
    replace H := H.2 c_54
    refine pr_iconst hC (-1) (by decide +kernel : decode cX4_numberWithin 57 = .ok (.iconst (-1), 1)) rfl ?_
    exact pv_iret hM (by decide +kernel : decode cX4_numberWithin 58 = .ok (.ireturn, 1)) hU H)
  refine pr_icmp_ne hC 28 (by decide +kernel : decode cX4_numberWithin 10 = .ok (.if_icmp .ne 18, 3)) (by decide) (fun c_10 => ?_) (fun c_10 => ?_)
  · replace H := H.2 c_10
    refine pr_iload_n hC (by decide +kernel : decode cX4_numberWithin 28 = .ok (.iload_n 3, 1)) rfl ?_
    refine pr_iload_n hC (by decide +kernel : decode cX4_numberWithin 29 = .ok (.iload_n 1, 1)) rfl ?_
    replace H := H (pw X Y.1 (pm_A hh sz) (pm_E X Y.1 hh sz 0 0 (pm_P Y h0 sz (pq_i post))) 38 [some (.ref (Y.2.1 o)), none, none, some (.int x3_2)] [] hh sz 0 0) (by
      intro  H
      refine pr_aload_n hC (by decide +kernel : decode cX4_numberWithin 38 = .ok (.aload_n 0, 1)) rfl ?_
      refine pr_iconst hC (2) (by decide +kernel : decode cX4_numberWithin 39 = .ok (.iconst 2, 1)) rfl ?_
      refine pr_aload_n hC (by decide +kernel : decode cX4_numberWithin 40 = .ok (.aload_n 0, 1)) rfl ?_
      refine pu_g21 hC fg_X4_9 (by decide +kernel : decode cX4_numberWithin 41 = .ok (.getfield 9, 3)) hU ho (by decide) rfl rfl ?_
      have q_12 := H.1
      replace H := H.2
      refine pu_g0 hC fg_X4_46 (by decide +kernel : decode cX4_numberWithin 44 = .ok (.getfield 46, 3)) hU q_12 (by decide) rfl rfl ?_
      refine vc_Vv hC hR [.int 2, .int (uI U (uR U o 0) 2)] fv_X4_61 (by decide +kernel : decode cX4_numberWithin 47 = .ok (.invokevirtual 61, 3)) hU (t_X4_fail ho H) ho (by decide) rfl rfl rfl (Nat.le_of_ble_eq_true rfl) (Nat.le_of_ble_eq_true rfl) (Nat.le_refl 0) (Nat.le_refl 0) (fun U_13 h H hU => ?_)
      exact pv_sub [some (.ref (Y.2.1 o)), none, none, some (.int x3_2)] (And.intro rfl (And.intro rfl trivial)) (H h hU))
    refine pr_icmp_lt hC 38 (by decide +kernel : decode cX4_numberWithin 30 = .ok (.if_icmp .lt 8, 3)) (by decide) (fun c_30 => ?_) (fun c_30 => ?_)
    · replace H := H.1 c_30
      exact pv_sub [some (.ref (Y.2.1 o)), none, none, some (.int x3_2)] (And.intro rfl (And.intro rfl trivial)) (H )
    replace H := H.2 c_30
    refine pr_iload_n hC (by decide +kernel : decode cX4_numberWithin 33 = .ok (.iload_n 3, 1)) rfl ?_
    refine pr_iload_n hC (by decide +kernel : decode cX4_numberWithin 34 = .ok (.iload_n 2, 1)) rfl ?_
    refine pr_icmp_le hC 50 (by decide +kernel : decode cX4_numberWithin 35 = .ok (.if_icmp .le 15, 3)) (by decide) (fun c_35 => ?_) (fun c_35 => ?_)
    · replace H := H.1 c_35
      exact pv_sub [some (.ref (Y.2.1 o)), none, none, some (.int x3_2)] (And.intro rfl (And.intro rfl trivial)) (H hh hU)
    replace H := H.2 c_35
    exact pv_sub [some (.ref (Y.2.1 o)), none, none, some (.int x3_2)] (And.intro rfl (And.intro rfl trivial)) (H )
  replace H := H.1 c_10
  refine pr_aload_n hC (by decide +kernel : decode cX4_numberWithin 13 = .ok (.aload_n 0, 1)) rfl ?_
  refine pr_iconst hC (1) (by decide +kernel : decode cX4_numberWithin 14 = .ok (.iconst 1, 1)) rfl ?_
  refine pr_aload_n hC (by decide +kernel : decode cX4_numberWithin 15 = .ok (.aload_n 0, 1)) rfl ?_
  refine pu_g21 hC fg_X4_9 (by decide +kernel : decode cX4_numberWithin 16 = .ok (.getfield 9, 3)) hU ho (by decide) rfl rfl ?_
  have q_8 := H.1
  replace H := H.2
  refine pu_g0 hC fg_X4_46 (by decide +kernel : decode cX4_numberWithin 19 = .ok (.getfield 46, 3)) hU q_8 (by decide) rfl rfl ?_
  refine vc_Vv hC hR [.int 1, .int (uI U (uR U o 0) 2)] fv_X4_61 (by decide +kernel : decode cX4_numberWithin 22 = .ok (.invokevirtual 61, 3)) hU (t_X4_fail ho H) ho (by decide) rfl rfl rfl (Nat.le_of_ble_eq_true rfl) (Nat.le_of_ble_eq_true rfl) (Nat.le_refl 0) (Nat.le_refl 0) (fun U_9 h H hU => ?_)
  refine pr_goto hC 50 (by decide +kernel : decode cX4_numberWithin 25 = .ok (.goto 25, 3)) (by decide) ?_
  exact pv_sub [some (.ref (Y.2.1 o)), none, none, some (.int x3_2)] (And.intro rfl (And.intro rfl trivial)) (H h hU)
def w_X5_isRoad (o : Nat) (a1 : Int32) (a2 : Int32) (U : Um) (post : Int32 → Um → Prop) : Prop :=
  vp_in a1 6 ∧ vp_in a2 6 ∧ ((uA U o (ki 1 (Int32.toNatClampNeg a1)) (Int32.toNatClampNeg a2)) = 0 → post 0 U) ∧ (¬ (uA U o (ki 1 (Int32.toNatClampNeg a1)) (Int32.toNatClampNeg a2)) = 0 → post 1 U)
set_option maxHeartbeats 4000000 in
theorem t_X5_isRoad {l : Launch} {Y : px_Y} {o : Nat} {a1 : Int32} {a2 : Int32} {U : Um} {post : Int32 → Um → Prop} (ho : oc o = 4) (H : w_X5_isRoad o a1 a2 U post) : um l Y 0 yX5_isRoad cX5_isRoad 3 (some (.boolean)) [.ref (Y.2.1 o), .int a1, .int a2] U (pq_i post) := by
  unfold w_X5_isRoad at H
  refine um_of (by decide) (Nat.le_of_ble_eq_true rfl) [some (.ref (Y.2.1 o)), some (.int a1), some (.int a2)] rfl (fun X h0 hh sz hM hU => ?_)
  have hC := hM.1
  have hR := hM.2.2.1
  refine pr_aload_n hC (by decide +kernel : decode cX5_isRoad 0 = .ok (.aload_n 0, 1)) rfl ?_
  refine pu_g1 hC fg_X5_13 (by decide +kernel : decode cX5_isRoad 1 = .ok (.getfield 13, 3)) hU ho (by decide) rfl (by decide) ?_
  refine pr_iload_n hC (by decide +kernel : decode cX5_isRoad 4 = .ok (.iload_n 1, 1)) rfl ?_
  have q_1 := H.1
  replace H := H.2
  refine pu_aald6 hC (by decide +kernel : decode cX5_isRoad 5 = .ok (.aaload, 1)) hU ho rfl q_1 ?_
  refine pr_iload_n hC (by decide +kernel : decode cX5_isRoad 6 = .ok (.iload_n 2, 1)) rfl ?_
  refine pu_iald7 hC (by decide +kernel : decode cX5_isRoad 7 = .ok (.iaload, 1)) hU ho rfl (vp_lt q_1) H.1 ?_
  replace H := H.2
  refine pr_if_eq hC 15 (by decide +kernel : decode cX5_isRoad 8 = .ok (.ifCond .eq 7, 3)) (by decide) (fun c_8 => ?_) (fun c_8 => ?_)
  · replace H := H.1 c_8
    refine pr_iconst hC (0) (by decide +kernel : decode cX5_isRoad 15 = .ok (.iconst 0, 1)) rfl ?_
    exact pv_zret hM (by decide +kernel : decode cX5_isRoad 16 = .ok (.ireturn, 1)) (Or.inl rfl) hU H
  replace H := H.2 c_8
  refine pr_iconst hC (1) (by decide +kernel : decode cX5_isRoad 11 = .ok (.iconst 1, 1)) rfl ?_
  refine pr_goto hC 16 (by decide +kernel : decode cX5_isRoad 12 = .ok (.goto 4, 3)) (by decide) ?_
  exact pv_zret hM (by decide +kernel : decode cX5_isRoad 16 = .ok (.ireturn, 1)) (Or.inr rfl) hU H
def w_X5_build (o : Nat) (a1 : Int32) (a2 : Int32) (a3 : Int32) (U : Um) (post : Um → Prop) : Prop :=
  vp_in a1 6 ∧ vp_in a2 6 ∧ ∀ (U_2 : Um), U_2 = sA U o (ki 1 (Int32.toNatClampNeg a1)) (va_up (uA U o (ki 1 (Int32.toNatClampNeg a1))) (Int32.toNatClampNeg a2) a3) → vp_in a2 6 ∧ vp_in a1 6 ∧ ∀ (U_4 : Um), U_4 = sA U_2 o (ki 1 (Int32.toNatClampNeg a2)) (va_up (uA U_2 o (ki 1 (Int32.toNatClampNeg a2))) (Int32.toNatClampNeg a1) a3) → post U_4
set_option maxHeartbeats 4000000 in
theorem t_X5_build {l : Launch} {Y : px_Y} {o : Nat} {a1 : Int32} {a2 : Int32} {a3 : Int32} {U : Um} {post : Um → Prop} (ho : oc o = 4) (H : w_X5_build o a1 a2 a3 U post) : um l Y 0 yX5_build cX5_build 4 none [.ref (Y.2.1 o), .int a1, .int a2, .int a3] U (pq_v post) := by
  unfold w_X5_build at H
  refine um_of (by decide) (Nat.le_of_ble_eq_true rfl) [some (.ref (Y.2.1 o)), some (.int a1), some (.int a2), some (.int a3)] rfl (fun X h0 hh sz hM hU => ?_)
  have hC := hM.1
  have hR := hM.2.2.1
  refine pr_aload_n hC (by decide +kernel : decode cX5_build 0 = .ok (.aload_n 0, 1)) rfl ?_
  refine pu_g1 hC fg_X5_13 (by decide +kernel : decode cX5_build 1 = .ok (.getfield 13, 3)) hU ho (by decide) rfl (by decide) ?_
  refine pr_iload_n hC (by decide +kernel : decode cX5_build 4 = .ok (.iload_n 1, 1)) rfl ?_
  have q_1 := H.1
  replace H := H.2
  refine pu_aald6 hC (by decide +kernel : decode cX5_build 5 = .ok (.aaload, 1)) hU ho rfl q_1 ?_
  refine pr_iload_n hC (by decide +kernel : decode cX5_build 6 = .ok (.iload_n 2, 1)) rfl ?_
  refine pr_iload_n hC (by decide +kernel : decode cX5_build 7 = .ok (.iload_n 3, 1)) rfl ?_
  refine pv_iast7 hC (by decide +kernel : decode cX5_build 8 = .ok (.iastore, 1)) hU ho rfl (vp_lt q_1) H.1 (fun U_2 h e_U_2 hU => ?_)
  replace H := H.2 U_2 e_U_2
  refine pr_aload_n hC (by decide +kernel : decode cX5_build 9 = .ok (.aload_n 0, 1)) rfl ?_
  refine pu_g1 hC fg_X5_13 (by decide +kernel : decode cX5_build 10 = .ok (.getfield 13, 3)) hU ho (by decide) rfl (by decide) ?_
  refine pr_iload_n hC (by decide +kernel : decode cX5_build 13 = .ok (.iload_n 2, 1)) rfl ?_
  have q_3 := H.1
  replace H := H.2
  refine pu_aald6 hC (by decide +kernel : decode cX5_build 14 = .ok (.aaload, 1)) hU ho rfl q_3 ?_
  refine pr_iload_n hC (by decide +kernel : decode cX5_build 15 = .ok (.iload_n 1, 1)) rfl ?_
  refine pr_iload_n hC (by decide +kernel : decode cX5_build 16 = .ok (.iload_n 3, 1)) rfl ?_
  refine pv_iast7 hC (by decide +kernel : decode cX5_build 17 = .ok (.iastore, 1)) hU ho rfl (vp_lt q_3) H.1 (fun U_4 h e_U_4 hU => ?_)
  replace H := H.2 U_4 e_U_4
  exact pv_vret hM (by decide +kernel : decode cX5_build 18 = .ok (.return_, 1)) hU H
def w_X4_readRest (o : Nat) (U : Um) (post : Um → Prop) : Prop :=
  w_X4_numberWithin o 0 120 U (fun r_2 U_1 => ((uI U_1 o 2) = 0 → uR U_1 o 1 ≠ 99 ∧ oc (uR U_1 o 1) = 8 ∧ ∀ (U_4 : Um), U_4 = sI U_1 (uR U_1 o 1) 8 r_2 → post U_4) ∧ (¬ (uI U_1 o 2) = 0 → post U_1))
set_option maxHeartbeats 4000000 in
theorem t_X4_readRest {l : Launch} {Y : px_Y} {o : Nat} {U : Um} {post : Um → Prop} (ho : oc o = 3) (H : w_X4_readRest o U post) : um l Y 2 yX4_readRest cX4_readRest 2 none [.ref (Y.2.1 o)] U (pq_v post) := by
  unfold w_X4_readRest at H
  refine um_of (by decide) (Nat.le_of_ble_eq_true rfl) [some (.ref (Y.2.1 o)), none] rfl (fun X h0 hh sz hM hU => ?_)
  have hC := hM.1
  have hR := hM.2.2.1
  refine pr_aload_n hC (by decide +kernel : decode cX4_readRest 0 = .ok (.aload_n 0, 1)) rfl ?_
  refine pr_iconst hC (0) (by decide +kernel : decode cX4_readRest 1 = .ok (.iconst 0, 1)) rfl ?_
  refine pr_bipush hC (120) (by decide +kernel : decode cX4_readRest 2 = .ok (.bipush 120, 2)) rfl ?_
  refine vc_Vi hC hR [.int 0, .int 120] fv_X4_121 (by decide +kernel : decode cX4_readRest 4 = .ok (.invokevirtual 121, 3)) hU (t_X4_numberWithin ho H) ho (by decide) rfl rfl rfl (Nat.le_of_ble_eq_true rfl) (Nat.le_of_ble_eq_true rfl) (Nat.le_refl 0) (Nat.le_refl 0) (fun r_2 U_1 h H hU => ?_)
  refine pr_istore_n hC (by decide +kernel : decode cX4_readRest 7 = .ok (.istore_n 1, 1)) (by decide) rfl ?_
  refine pr_aload_n hC (by decide +kernel : decode cX4_readRest 8 = .ok (.aload_n 0, 1)) rfl ?_
  refine pu_g0 hC fg_X4_28 (by decide +kernel : decode cX4_readRest 9 = .ok (.getfield 28, 3)) hU ho (by decide) rfl rfl ?_
  refine pr_if_ne hC 23 (by decide +kernel : decode cX4_readRest 12 = .ok (.ifCond .ne 11, 3)) (by decide) (fun c_12 => ?_) (fun c_12 => ?_)
  · replace H := H.2 c_12
    exact pv_vret hM (by decide +kernel : decode cX4_readRest 23 = .ok (.return_, 1)) hU H
  replace H := H.1 c_12
  refine pr_aload_n hC (by decide +kernel : decode cX4_readRest 15 = .ok (.aload_n 0, 1)) rfl ?_
  refine pu_g22 hC fg_X4_19 (by decide +kernel : decode cX4_readRest 16 = .ok (.getfield 19, 3)) hU ho (by decide) rfl rfl H.1 ?_
  replace H := H.2
  have q_3 := H.1
  replace H := H.2
  refine pr_iload_n hC (by decide +kernel : decode cX4_readRest 19 = .ok (.iload_n 1, 1)) rfl ?_
  refine pv_p0 hC fp_X4_222 (by decide +kernel : decode cX4_readRest 20 = .ok (.putfield 222, 3)) hU q_3 (by decide) rfl rfl rfl rfl (fun U_4 h e_U_4 hU => ?_)
  replace H := H U_4 e_U_4
  exact pv_vret hM (by decide +kernel : decode cX4_readRest 23 = .ok (.return_, 1)) hU H
def w_X4_readMost (o : Nat) (U : Um) (post : Um → Prop) : Prop :=
  w_X4_numberWithin o 1 4 U (fun r_2 U_1 => ((uI U_1 o 2) = 0 → uR U_1 o 1 ≠ 99 ∧ oc (uR U_1 o 1) = 8 ∧ ∀ (U_4 : Um), U_4 = sI U_1 (uR U_1 o 1) 9 r_2 → post U_4) ∧ (¬ (uI U_1 o 2) = 0 → post U_1))
set_option maxHeartbeats 4000000 in
theorem t_X4_readMost {l : Launch} {Y : px_Y} {o : Nat} {U : Um} {post : Um → Prop} (ho : oc o = 3) (H : w_X4_readMost o U post) : um l Y 2 yX4_readMost cX4_readMost 2 none [.ref (Y.2.1 o)] U (pq_v post) := by
  unfold w_X4_readMost at H
  refine um_of (by decide) (Nat.le_of_ble_eq_true rfl) [some (.ref (Y.2.1 o)), none] rfl (fun X h0 hh sz hM hU => ?_)
  have hC := hM.1
  have hR := hM.2.2.1
  refine pr_aload_n hC (by decide +kernel : decode cX4_readMost 0 = .ok (.aload_n 0, 1)) rfl ?_
  refine pr_iconst hC (1) (by decide +kernel : decode cX4_readMost 1 = .ok (.iconst 1, 1)) rfl ?_
  refine pr_iconst hC (4) (by decide +kernel : decode cX4_readMost 2 = .ok (.iconst 4, 1)) rfl ?_
  refine vc_Vi hC hR [.int 1, .int 4] fv_X4_121 (by decide +kernel : decode cX4_readMost 3 = .ok (.invokevirtual 121, 3)) hU (t_X4_numberWithin ho H) ho (by decide) rfl rfl rfl (Nat.le_of_ble_eq_true rfl) (Nat.le_of_ble_eq_true rfl) (Nat.le_refl 0) (Nat.le_refl 0) (fun r_2 U_1 h H hU => ?_)
  refine pr_istore_n hC (by decide +kernel : decode cX4_readMost 6 = .ok (.istore_n 1, 1)) (by decide) rfl ?_
  refine pr_aload_n hC (by decide +kernel : decode cX4_readMost 7 = .ok (.aload_n 0, 1)) rfl ?_
  refine pu_g0 hC fg_X4_28 (by decide +kernel : decode cX4_readMost 8 = .ok (.getfield 28, 3)) hU ho (by decide) rfl rfl ?_
  refine pr_if_ne hC 22 (by decide +kernel : decode cX4_readMost 11 = .ok (.ifCond .ne 11, 3)) (by decide) (fun c_11 => ?_) (fun c_11 => ?_)
  · replace H := H.2 c_11
    exact pv_vret hM (by decide +kernel : decode cX4_readMost 22 = .ok (.return_, 1)) hU H
  replace H := H.1 c_11
  refine pr_aload_n hC (by decide +kernel : decode cX4_readMost 14 = .ok (.aload_n 0, 1)) rfl ?_
  refine pu_g22 hC fg_X4_19 (by decide +kernel : decode cX4_readMost 15 = .ok (.getfield 19, 3)) hU ho (by decide) rfl rfl H.1 ?_
  replace H := H.2
  have q_3 := H.1
  replace H := H.2
  refine pr_iload_n hC (by decide +kernel : decode cX4_readMost 18 = .ok (.iload_n 1, 1)) rfl ?_
  refine pv_p0 hC fp_X4_225 (by decide +kernel : decode cX4_readMost 19 = .ok (.putfield 225, 3)) hU q_3 (by decide) rfl rfl rfl rfl (fun U_4 h e_U_4 hU => ?_)
  replace H := H U_4 e_U_4
  exact pv_vret hM (by decide +kernel : decode cX4_readMost 22 = .ok (.return_, 1)) hU H
def w_X4_expectNoLaw (o : Nat) (U : Um) (post : Um → Prop) : Prop :=
  uR U o 1 ≠ 99 ∧ oc (uR U o 1) = 8 ∧ oc (uR U (uR U o 1) 11) = 2 ∧ ((uI U (uR U (uR U o 1) 11) 1) ≤ 0 → post U) ∧ (¬ (uI U (uR U (uR U o 1) 11) 1) ≤ 0 → w_X4_fail o 4 (uI U o 4) U (fun U_3 => post U_3))
set_option maxHeartbeats 4000000 in
theorem t_X4_expectNoLaw {l : Launch} {Y : px_Y} {o : Nat} {U : Um} {post : Um → Prop} (ho : oc o = 3) (H : w_X4_expectNoLaw o U post) : um l Y 1 yX4_expectNoLaw cX4_expectNoLaw 1 none [.ref (Y.2.1 o)] U (pq_v post) := by
  unfold w_X4_expectNoLaw at H
  refine um_of (by decide) (Nat.le_of_ble_eq_true rfl) [some (.ref (Y.2.1 o))] rfl (fun X h0 hh sz hM hU => ?_)
  have hC := hM.1
  have hR := hM.2.2.1
  refine pr_aload_n hC (by decide +kernel : decode cX4_expectNoLaw 0 = .ok (.aload_n 0, 1)) rfl ?_
  refine pu_g22 hC fg_X4_19 (by decide +kernel : decode cX4_expectNoLaw 1 = .ok (.getfield 19, 3)) hU ho (by decide) rfl rfl H.1 ?_
  replace H := H.2
  have q_1 := H.1
  replace H := H.2
  refine pu_g21 hC fg_X4_228 (by decide +kernel : decode cX4_expectNoLaw 4 = .ok (.getfield 228, 3)) hU q_1 (by decide) rfl rfl ?_
  have q_2 := H.1
  replace H := H.2
  refine pu_g0 hC fg_X4_232 (by decide +kernel : decode cX4_expectNoLaw 7 = .ok (.getfield 232, 3)) hU q_2 (by decide) rfl rfl ?_
  refine pr_if_le hC 22 (by decide +kernel : decode cX4_expectNoLaw 10 = .ok (.ifCond .le 12, 3)) (by decide) (fun c_10 => ?_) (fun c_10 => ?_)
  · replace H := H.1 c_10
    exact pv_vret hM (by decide +kernel : decode cX4_expectNoLaw 22 = .ok (.return_, 1)) hU H
  replace H := H.2 c_10
  refine pr_aload_n hC (by decide +kernel : decode cX4_expectNoLaw 13 = .ok (.aload_n 0, 1)) rfl ?_
  refine pr_iconst hC (4) (by decide +kernel : decode cX4_expectNoLaw 14 = .ok (.iconst 4, 1)) rfl ?_
  refine pr_aload_n hC (by decide +kernel : decode cX4_expectNoLaw 15 = .ok (.aload_n 0, 1)) rfl ?_
  refine pu_g0 hC fg_X4_49 (by decide +kernel : decode cX4_expectNoLaw 16 = .ok (.getfield 49, 3)) hU ho (by decide) rfl rfl ?_
  refine vc_Vv hC hR [.int 4, .int (uI U o 4)] fv_X4_61 (by decide +kernel : decode cX4_expectNoLaw 19 = .ok (.invokevirtual 61, 3)) hU (t_X4_fail ho H) ho (by decide) rfl rfl rfl (Nat.le_of_ble_eq_true rfl) (Nat.le_of_ble_eq_true rfl) (Nat.le_refl 0) (Nat.le_refl 0) (fun U_3 h H hU => ?_)
  exact pv_vret hM (by decide +kernel : decode cX4_expectNoLaw 22 = .ok (.return_, 1)) hU H
def w_X4_expectSign (o : Nat) (a1 : Int32) (U : Um) (post : Um → Prop) : Prop :=
  ((uI U o 2) = 0 → oc (uR U o 0) = 7 ∧ ((uI U (uR U o 0) 7) = a1 → oc (uR U o 0) = 7 ∧ w_X8_advance (uR U o 0) U (fun U_3 => post U_3)) ∧ (¬ (uI U (uR U o 0) 7) = a1 → oc (uR U o 0) = 7 ∧ w_X4_fail o 1 (uI U (uR U o 0) 2) U (fun U_6 => post U_6))) ∧ (¬ (uI U o 2) = 0 → post U)
set_option maxHeartbeats 4000000 in
theorem t_X4_expectSign {l : Launch} {Y : px_Y} {o : Nat} {a1 : Int32} {U : Um} {post : Um → Prop} (ho : oc o = 3) (H : w_X4_expectSign o a1 U post) : um l Y 1 yX4_expectSign cX4_expectSign 2 none [.ref (Y.2.1 o), .int a1] U (pq_v post) := by
  unfold w_X4_expectSign at H
  refine um_of (by decide) (Nat.le_of_ble_eq_true rfl) [some (.ref (Y.2.1 o)), some (.int a1)] rfl (fun X h0 hh sz hM hU => ?_)
  have hC := hM.1
  have hR := hM.2.2.1
  refine pr_aload_n hC (by decide +kernel : decode cX4_expectSign 0 = .ok (.aload_n 0, 1)) rfl ?_
  refine pu_g0 hC fg_X4_28 (by decide +kernel : decode cX4_expectSign 1 = .ok (.getfield 28, 3)) hU ho (by decide) rfl rfl ?_
  refine pr_if_ne hC 40 (by decide +kernel : decode cX4_expectSign 4 = .ok (.ifCond .ne 36, 3)) (by decide) (fun c_4 => ?_) (fun c_4 => ?_)
  · replace H := H.2 c_4
    exact pv_vret hM (by decide +kernel : decode cX4_expectSign 40 = .ok (.return_, 1)) hU H
  replace H := H.1 c_4
  refine pr_aload_n hC (by decide +kernel : decode cX4_expectSign 7 = .ok (.aload_n 0, 1)) rfl ?_
  refine pu_g21 hC fg_X4_9 (by decide +kernel : decode cX4_expectSign 8 = .ok (.getfield 9, 3)) hU ho (by decide) rfl rfl ?_
  have q_1 := H.1
  replace H := H.2
  refine pu_g0 hC fg_X4_240 (by decide +kernel : decode cX4_expectSign 11 = .ok (.getfield 240, 3)) hU q_1 (by decide) rfl rfl ?_
  refine pr_iload_n hC (by decide +kernel : decode cX4_expectSign 14 = .ok (.iload_n 1, 1)) rfl ?_
  refine pr_icmp_ne hC 28 (by decide +kernel : decode cX4_expectSign 15 = .ok (.if_icmp .ne 13, 3)) (by decide) (fun c_15 => ?_) (fun c_15 => ?_)
  · replace H := H.2 c_15
    refine pr_aload_n hC (by decide +kernel : decode cX4_expectSign 28 = .ok (.aload_n 0, 1)) rfl ?_
    refine pr_iconst hC (1) (by decide +kernel : decode cX4_expectSign 29 = .ok (.iconst 1, 1)) rfl ?_
    refine pr_aload_n hC (by decide +kernel : decode cX4_expectSign 30 = .ok (.aload_n 0, 1)) rfl ?_
    refine pu_g21 hC fg_X4_9 (by decide +kernel : decode cX4_expectSign 31 = .ok (.getfield 9, 3)) hU ho (by decide) rfl rfl ?_
    have q_5 := H.1
    replace H := H.2
    refine pu_g0 hC fg_X4_46 (by decide +kernel : decode cX4_expectSign 34 = .ok (.getfield 46, 3)) hU q_5 (by decide) rfl rfl ?_
    refine vc_Vv hC hR [.int 1, .int (uI U (uR U o 0) 2)] fv_X4_61 (by decide +kernel : decode cX4_expectSign 37 = .ok (.invokevirtual 61, 3)) hU (t_X4_fail ho H) ho (by decide) rfl rfl rfl (Nat.le_of_ble_eq_true rfl) (Nat.le_of_ble_eq_true rfl) (Nat.le_refl 0) (Nat.le_refl 0) (fun U_6 h H hU => ?_)
    exact pv_vret hM (by decide +kernel : decode cX4_expectSign 40 = .ok (.return_, 1)) hU H
  replace H := H.1 c_15
  refine pr_aload_n hC (by decide +kernel : decode cX4_expectSign 18 = .ok (.aload_n 0, 1)) rfl ?_
  refine pu_g21 hC fg_X4_9 (by decide +kernel : decode cX4_expectSign 19 = .ok (.getfield 9, 3)) hU ho (by decide) rfl rfl ?_
  have q_2 := H.1
  replace H := H.2
  refine vc_Vv hC hR [] fv_X4_65 (by decide +kernel : decode cX4_expectSign 22 = .ok (.invokevirtual 65, 3)) hU (t_X8_advance q_2 H) q_2 (by decide) rfl rfl rfl (Nat.le_of_ble_eq_true rfl) (Nat.le_of_ble_eq_true rfl) (Nat.le_refl 0) (Nat.le_refl 0) (fun U_3 h H hU => ?_)
  refine pr_goto hC 40 (by decide +kernel : decode cX4_expectSign 25 = .ok (.goto 15, 3)) (by decide) ?_
  exact pv_vret hM (by decide +kernel : decode cX4_expectSign 40 = .ok (.return_, 1)) hU H
def b_X4_readTerm_L7 (rec : Nat → Int32 → Um → (Um → Prop) → Prop) (o0 : Nat) (x1 : Int32) (post : Um → Prop) (k_94 : Um → Prop) (rec_ : Int32 → Um → Prop) (x2 : Int32) (U : Um) : Prop :=
  ((1200 : Int32) ≤ x2 → k_94 U) ∧ (¬ (1200 : Int32) ≤ x2 → ((uI U o0 2) = 0 → oc (uR U o0 0) = 7 ∧ (∀ K_4 : Prop, ((oc (uR U o0 0) = 7 ∧ ∀ (xs_6 : Int32), xs_6 = (if (uI U (uR U o0 0) 7) = 42 then (-13) else (-14)) → oc (uR U o0 0) = 7 ∧ w_X8_advance (uR U o0 0) U (fun U_8 => b_X4_readAtom rec o0 x1 U_8 (fun U_10 => uR U_10 o0 1 ≠ 99 ∧ oc (uR U_10 o0 1) = 8 ∧ oc (uR U_10 (uR U_10 o0 1) 11) = 2 ∧ w_X3_add (uR U_10 (uR U_10 o0 1) 11) xs_6 U_10 (fun U_14 => ∀ (x2_16 : Int32), x2_16 = x2 + 1 → rec_ x2_16 U_14)))) → K_4 ) → ((uI U (uR U o0 0) 7) = 42 → K_4) ∧ (¬ (uI U (uR U o0 0) 7) = 42 → oc (uR U o0 0) = 7 ∧ ((uI U (uR U o0 0) 7) = 47 → K_4) ∧ (¬ (uI U (uR U o0 0) 7) = 47 → k_94 U)))) ∧ (¬ (uI U o0 2) = 0 → k_94 U))
def w_X4_readTerm_L7 (rec : Nat → Int32 → Um → (Um → Prop) → Prop) (o0 : Nat) (x1 : Int32) (post : Um → Prop) (k_94 : Um → Prop) (n_ : Nat) : Int32 → Um → Prop := Nat.rec (motive := fun _ => Int32 → Um → Prop) (fun _ _ => False) (fun _ ih => b_X4_readTerm_L7 rec o0 x1 post k_94 ih) n_
def b_X4_readTerm (rec : Nat → Int32 → Um → (Um → Prop) → Prop) (o : Nat) (a1 : Int32) (U : Um) (post : Um → Prop) : Prop :=
  b_X4_readAtom rec o a1 U (fun U_1 => (∃ n_20, w_X4_readTerm_L7 rec o a1 post (fun U_19 => post U_19) n_20 0 U_1))
set_option maxHeartbeats 4000000 in
theorem tl_X4_readTerm_L7 {l : Launch} {Y : px_Y} {X : px_X} {h0 hh : pe_H} {sz : Nat} {dd : Nat} (rec : Nat → Int32 → Um → (Um → Prop) → Prop) (o0 : Nat) (x1 : Int32) (post : Um → Prop) (k_94 : Um → Prop) (ho0 : oc o0 = 3) (hrec : ∀ (l : Launch) (o : Nat) (a0 : Int32) (U : Um) (post : Um → Prop), oc o = 3 → rec o a0 U post → um l Y dd yX4_readSum cX4_readSum 4 none [.ref (Y.2.1 o), .int a0] U (pq_v post)) (hD : 3 ≤ dd) (hC : px_C X Y.1 (pm_A hh sz) cX4_readTerm RX4 4) (hM : px_M l X Y.1 hh sz yX4_readTerm cX4_readTerm 4 none (dd + 2) 0 0) (hR : X.2.2.2.1 = pm_rm (dd + 2) 0 0) (hk_94 : ∀ (U : Um) (h : pe_H), k_94 U → rF Y h0 U h → pw X Y.1 (pm_A hh sz) (pm_E X Y.1 hh sz 0 0 (pm_P Y h0 sz (pq_v post))) 94 [none, none, none, none] [] h sz 0 0) : ∀ (n_ : Nat) (x2 : Int32) (U : Um) (h : pe_H), rF Y h0 U h → w_X4_readTerm_L7 rec o0 x1 post k_94 n_ x2 U → pw X Y.1 (pm_A hh sz) (pm_E X Y.1 hh sz 0 0 (pm_P Y h0 sz (pq_v post))) 7 [some (.ref (Y.2.1 o0)), some (.int x1), some (.int x2), none] [] h sz 0 0 := by
  intro n_
  induction n_ with
  | zero => intro x2 U h hU H; exact False.elim H
  | succ n_ ih =>
    intro x2 U h hU H
    replace H : b_X4_readTerm_L7 rec o0 x1 post k_94 (w_X4_readTerm_L7 rec o0 x1 post k_94 n_) x2 U := H
    unfold b_X4_readTerm_L7 at H
    refine pr_iload_n hC (by decide +kernel : decode cX4_readTerm 7 = .ok (.iload_n 2, 1)) rfl ?_
    refine pr_sipush hC (1200) (by decide +kernel : decode cX4_readTerm 8 = .ok (.sipush 1200, 3)) rfl ?_
    refine pr_icmp_ge hC 94 (by decide +kernel : decode cX4_readTerm 11 = .ok (.if_icmp .ge 83, 3)) (by decide) (fun c_11 => ?_) (fun c_11 => ?_)
    · replace H := H.1 c_11
      exact pv_sub [none, none, none, none] (trivial) (hk_94 U h H hU)
    replace H := H.2 c_11
    refine pr_aload_n hC (by decide +kernel : decode cX4_readTerm 14 = .ok (.aload_n 0, 1)) rfl ?_
    refine pu_g0 hC fg_X4_28 (by decide +kernel : decode cX4_readTerm 15 = .ok (.getfield 28, 3)) hU ho0 (by decide) rfl rfl ?_
    refine pr_if_ne hC 94 (by decide +kernel : decode cX4_readTerm 18 = .ok (.ifCond .ne 76, 3)) (by decide) (fun c_18 => ?_) (fun c_18 => ?_)
    · replace H := H.2 c_18
      exact pv_sub [none, none, none, none] (trivial) (hk_94 U h H hU)
    replace H := H.1 c_18
    refine pr_aload_n hC (by decide +kernel : decode cX4_readTerm 21 = .ok (.aload_n 0, 1)) rfl ?_
    refine pu_g21 hC fg_X4_9 (by decide +kernel : decode cX4_readTerm 22 = .ok (.getfield 9, 3)) hU ho0 (by decide) rfl rfl ?_
    have q_3 := H.1
    replace H := H.2
    refine pu_g0 hC fg_X4_240 (by decide +kernel : decode cX4_readTerm 25 = .ok (.getfield 240, 3)) hU q_3 (by decide) rfl rfl ?_
    refine pr_bipush hC (42) (by decide +kernel : decode cX4_readTerm 28 = .ok (.bipush 42, 2)) rfl ?_
    replace H := H (pw X Y.1 (pm_A hh sz) (pm_E X Y.1 hh sz 0 0 (pm_P Y h0 sz (pq_v post))) 45 [some (.ref (Y.2.1 o0)), some (.int x1), some (.int x2), none] [] h sz 0 0) (by
      intro  H
      refine pr_aload_n hC (by decide +kernel : decode cX4_readTerm 45 = .ok (.aload_n 0, 1)) rfl ?_
      refine pu_g21 hC fg_X4_9 (by decide +kernel : decode cX4_readTerm 46 = .ok (.getfield 9, 3)) hU ho0 (by decide) rfl rfl ?_
      have q_5 := H.1
      replace H := H.2
      refine pu_g0 hC fg_X4_240 (by decide +kernel : decode cX4_readTerm 49 = .ok (.getfield 240, 3)) hU q_5 (by decide) rfl rfl ?_
      refine pr_bipush hC (42) (by decide +kernel : decode cX4_readTerm 52 = .ok (.bipush 42, 2)) rfl ?_
      have HJ_17 : ∀ (xs_6 : Int32), xs_6 = (if (uI U (uR U o0 0) 7) = 42 then (-13) else (-14)) → pw X Y.1 (pm_A hh sz) (pm_E X Y.1 hh sz 0 0 (pm_P Y h0 sz (pq_v post))) 64 [some (.ref (Y.2.1 o0)), some (.int x1), some (.int x2), none] [.int xs_6] h sz 0 0 := by
        intro xs_6 e_xs_6
        replace H := H xs_6 e_xs_6
        refine pr_istore_n hC (by decide +kernel : decode cX4_readTerm 64 = .ok (.istore_n 3, 1)) (by decide) rfl ?_
        refine pr_aload_n hC (by decide +kernel : decode cX4_readTerm 65 = .ok (.aload_n 0, 1)) rfl ?_
        refine pu_g21 hC fg_X4_9 (by decide +kernel : decode cX4_readTerm 66 = .ok (.getfield 9, 3)) hU ho0 (by decide) rfl rfl ?_
        have q_7 := H.1
        replace H := H.2
        refine vc_Vv hC hR [] fv_X4_65 (by decide +kernel : decode cX4_readTerm 69 = .ok (.invokevirtual 65, 3)) hU (t_X8_advance q_7 H) q_7 (by decide) rfl rfl rfl (Nat.le_of_ble_eq_true rfl) (by omega) (Nat.le_refl 0) (Nat.le_refl 0) (fun U_8 h H hU => ?_)
        refine pr_aload_n hC (by decide +kernel : decode cX4_readTerm 72 = .ok (.aload_n 0, 1)) rfl ?_
        refine pr_iload_n hC (by decide +kernel : decode cX4_readTerm 73 = .ok (.iload_n 1, 1)) rfl ?_
        refine vc_Vv hC hR [.int x1] fv_X4_246 (by decide +kernel : decode cX4_readTerm 74 = .ok (.invokevirtual 246, 3)) hU (tb_X4_readAtom hrec hD ho0 H) ho0 (by decide) rfl rfl rfl (Nat.le_of_ble_eq_true rfl) (by omega) (Nat.le_refl 0) (Nat.le_refl 0) (fun U_10 h H hU => ?_)
        refine pr_aload_n hC (by decide +kernel : decode cX4_readTerm 77 = .ok (.aload_n 0, 1)) rfl ?_
        refine pu_g22 hC fg_X4_19 (by decide +kernel : decode cX4_readTerm 78 = .ok (.getfield 19, 3)) hU ho0 (by decide) rfl rfl H.1 ?_
        replace H := H.2
        have q_12 := H.1
        replace H := H.2
        refine pu_g21 hC fg_X4_228 (by decide +kernel : decode cX4_readTerm 81 = .ok (.getfield 228, 3)) hU q_12 (by decide) rfl rfl ?_
        have q_13 := H.1
        replace H := H.2
        refine pr_iload_n hC (by decide +kernel : decode cX4_readTerm 84 = .ok (.iload_n 3, 1)) rfl ?_
        refine vc_Vv hC hR [.int xs_6] fv_X4_243 (by decide +kernel : decode cX4_readTerm 85 = .ok (.invokevirtual 243, 3)) hU (t_X3_add q_13 H) q_13 (by decide) rfl rfl rfl (Nat.le_of_ble_eq_true rfl) (by omega) (Nat.le_refl 0) (Nat.le_refl 0) (fun U_14 h H hU => ?_)
        refine pv_iinc hC (v := x2 + 1) (by decide +kernel : decode cX4_readTerm 88 = .ok (.iinc 2 1, 3)) rfl (by decide) rfl rfl (fun x2_16 e_x2_16 => ?_)
        replace H := H x2_16 e_x2_16
        refine pr_goto hC 7 (by decide +kernel : decode cX4_readTerm 91 = .ok (.goto (-84), 3)) (by decide) ?_
        exact pv_sub [some (.ref (Y.2.1 o0)), some (.int x1), some (.int x2_16), none] (And.intro rfl (And.intro rfl (And.intro rfl trivial))) (ih _ U_14 h hU H)
      replace H := trivial
      refine pr_icmp_ne hC 62 (by decide +kernel : decode cX4_readTerm 54 = .ok (.if_icmp .ne 8, 3)) (by decide) (fun c_54 => ?_) (fun c_54 => ?_)
      · skip
        refine pr_bipush hC (-14) (by decide +kernel : decode cX4_readTerm 62 = .ok (.bipush (-14), 2)) rfl ?_
        exact pv_sub [some (.ref (Y.2.1 o0)), some (.int x1), some (.int x2), none] (And.intro rfl (And.intro rfl (And.intro rfl trivial))) (HJ_17 _ (if_neg c_54).symm)
      skip
      refine pr_bipush hC (-13) (by decide +kernel : decode cX4_readTerm 57 = .ok (.bipush (-13), 2)) rfl ?_
      refine pr_goto hC 64 (by decide +kernel : decode cX4_readTerm 59 = .ok (.goto 5, 3)) (by decide) ?_
      exact pv_sub [some (.ref (Y.2.1 o0)), some (.int x1), some (.int x2), none] (And.intro rfl (And.intro rfl (And.intro rfl trivial))) (HJ_17 _ (if_pos c_54).symm))
    refine pr_icmp_eq hC 45 (by decide +kernel : decode cX4_readTerm 30 = .ok (.if_icmp .eq 15, 3)) (by decide) (fun c_30 => ?_) (fun c_30 => ?_)
    · replace H := H.1 c_30
      exact pv_sub [some (.ref (Y.2.1 o0)), some (.int x1), some (.int x2), none] (And.intro rfl (And.intro rfl (And.intro rfl trivial))) (H )
    replace H := H.2 c_30
    refine pr_aload_n hC (by decide +kernel : decode cX4_readTerm 33 = .ok (.aload_n 0, 1)) rfl ?_
    refine pu_g21 hC fg_X4_9 (by decide +kernel : decode cX4_readTerm 34 = .ok (.getfield 9, 3)) hU ho0 (by decide) rfl rfl ?_
    have q_18 := H.1
    replace H := H.2
    refine pu_g0 hC fg_X4_240 (by decide +kernel : decode cX4_readTerm 37 = .ok (.getfield 240, 3)) hU q_18 (by decide) rfl rfl ?_
    refine pr_bipush hC (47) (by decide +kernel : decode cX4_readTerm 40 = .ok (.bipush 47, 2)) rfl ?_
    refine pr_icmp_ne hC 94 (by decide +kernel : decode cX4_readTerm 42 = .ok (.if_icmp .ne 52, 3)) (by decide) (fun c_42 => ?_) (fun c_42 => ?_)
    · replace H := H.2 c_42
      exact pv_sub [none, none, none, none] (trivial) (hk_94 U h H hU)
    replace H := H.1 c_42
    exact pv_sub [some (.ref (Y.2.1 o0)), some (.int x1), some (.int x2), none] (And.intro rfl (And.intro rfl (And.intro rfl trivial))) (H )
set_option maxHeartbeats 4000000 in
theorem tb_X4_readTerm {l : Launch} {Y : px_Y} {dd : Nat} {rec : Nat → Int32 → Um → (Um → Prop) → Prop} (hrec : ∀ (l : Launch) (o : Nat) (a0 : Int32) (U : Um) (post : Um → Prop), oc o = 3 → rec o a0 U post → um l Y dd yX4_readSum cX4_readSum 4 none [.ref (Y.2.1 o), .int a0] U (pq_v post)) (hD : 3 ≤ dd) {o : Nat} {a1 : Int32} {U : Um} {post : Um → Prop} (ho : oc o = 3) (H : b_X4_readTerm rec o a1 U post) : um l Y (dd + 2) yX4_readTerm cX4_readTerm 4 none [.ref (Y.2.1 o), .int a1] U (pq_v post) := by
  unfold b_X4_readTerm at H
  refine um_of (by decide) (Nat.le_of_ble_eq_true rfl) [some (.ref (Y.2.1 o)), some (.int a1), none, none] rfl (fun X h0 hh sz hM hU => ?_)
  have hC := hM.1
  have hR := hM.2.2.1
  refine pr_aload_n hC (by decide +kernel : decode cX4_readTerm 0 = .ok (.aload_n 0, 1)) rfl ?_
  refine pr_iload_n hC (by decide +kernel : decode cX4_readTerm 1 = .ok (.iload_n 1, 1)) rfl ?_
  refine vc_Vv hC hR [.int a1] fv_X4_246 (by decide +kernel : decode cX4_readTerm 2 = .ok (.invokevirtual 246, 3)) hU (tb_X4_readAtom hrec hD ho H) ho (by decide) rfl rfl rfl (Nat.le_of_ble_eq_true rfl) (by omega) (Nat.le_refl 0) (Nat.le_refl 0) (fun U_1 h H hU => ?_)
  refine pr_iconst hC (0) (by decide +kernel : decode cX4_readTerm 5 = .ok (.iconst 0, 1)) rfl ?_
  refine pr_istore_n hC (by decide +kernel : decode cX4_readTerm 6 = .ok (.istore_n 2, 1)) (by decide) rfl ?_
  obtain ⟨n_20, H⟩ := H
  refine pv_sub [some (.ref (Y.2.1 o)), some (.int a1), some (.int 0), none] (And.intro rfl (And.intro rfl (And.intro rfl trivial))) ?_
  refine tl_X4_readTerm_L7 _ _ _ _ _ ho hrec hD hC hM hR (fun U_19 h H hU => ?_) n_20 _ U_1 h hU H
  exact pv_vret hM (by decide +kernel : decode cX4_readTerm 94 = .ok (.return_, 1)) hU H
def b_X4_readSum_L7 (rec : Nat → Int32 → Um → (Um → Prop) → Prop) (o0 : Nat) (x1 : Int32) (post : Um → Prop) (k_94 : Um → Prop) (rec_ : Int32 → Um → Prop) (x2 : Int32) (U : Um) : Prop :=
  ((1200 : Int32) ≤ x2 → k_94 U) ∧ (¬ (1200 : Int32) ≤ x2 → ((uI U o0 2) = 0 → oc (uR U o0 0) = 7 ∧ (∀ K_4 : Prop, ((oc (uR U o0 0) = 7 ∧ ∀ (xs_6 : Int32), xs_6 = (if (uI U (uR U o0 0) 7) = 43 then (-11) else (-12)) → oc (uR U o0 0) = 7 ∧ w_X8_advance (uR U o0 0) U (fun U_8 => b_X4_readTerm rec o0 x1 U_8 (fun U_10 => uR U_10 o0 1 ≠ 99 ∧ oc (uR U_10 o0 1) = 8 ∧ oc (uR U_10 (uR U_10 o0 1) 11) = 2 ∧ w_X3_add (uR U_10 (uR U_10 o0 1) 11) xs_6 U_10 (fun U_14 => ∀ (x2_16 : Int32), x2_16 = x2 + 1 → rec_ x2_16 U_14)))) → K_4 ) → ((uI U (uR U o0 0) 7) = 43 → K_4) ∧ (¬ (uI U (uR U o0 0) 7) = 43 → oc (uR U o0 0) = 7 ∧ ((uI U (uR U o0 0) 7) = 45 → K_4) ∧ (¬ (uI U (uR U o0 0) 7) = 45 → k_94 U)))) ∧ (¬ (uI U o0 2) = 0 → k_94 U))
def w_X4_readSum_L7 (rec : Nat → Int32 → Um → (Um → Prop) → Prop) (o0 : Nat) (x1 : Int32) (post : Um → Prop) (k_94 : Um → Prop) (n_ : Nat) : Int32 → Um → Prop := Nat.rec (motive := fun _ => Int32 → Um → Prop) (fun _ _ => False) (fun _ ih => b_X4_readSum_L7 rec o0 x1 post k_94 ih) n_
def b_X4_readSum (rec : Nat → Int32 → Um → (Um → Prop) → Prop) (o : Nat) (a1 : Int32) (U : Um) (post : Um → Prop) : Prop :=
  b_X4_readTerm rec o a1 U (fun U_1 => (∃ n_20, w_X4_readSum_L7 rec o a1 post (fun U_19 => post U_19) n_20 0 U_1))
def w_X4_readSum (n_ : Nat) : Nat → Int32 → Um → (Um → Prop) → Prop := Nat.rec (motive := fun _ => Nat → Int32 → Um → (Um → Prop) → Prop) (fun _ _ _ _ => False) (fun _ ih => b_X4_readSum ih) n_
set_option maxHeartbeats 4000000 in
theorem tl_X4_readSum_L7 {l : Launch} {Y : px_Y} {X : px_X} {h0 hh : pe_H} {sz : Nat} {dd : Nat} (rec : Nat → Int32 → Um → (Um → Prop) → Prop) (o0 : Nat) (x1 : Int32) (post : Um → Prop) (k_94 : Um → Prop) (ho0 : oc o0 = 3) (hrec : ∀ (l : Launch) (o : Nat) (a0 : Int32) (U : Um) (post : Um → Prop), oc o = 3 → rec o a0 U post → um l Y dd yX4_readSum cX4_readSum 4 none [.ref (Y.2.1 o), .int a0] U (pq_v post)) (hD : 3 ≤ dd) (hC : px_C X Y.1 (pm_A hh sz) cX4_readSum RX4 4) (hM : px_M l X Y.1 hh sz yX4_readSum cX4_readSum 4 none (dd + 3) 0 0) (hR : X.2.2.2.1 = pm_rm (dd + 3) 0 0) (hk_94 : ∀ (U : Um) (h : pe_H), k_94 U → rF Y h0 U h → pw X Y.1 (pm_A hh sz) (pm_E X Y.1 hh sz 0 0 (pm_P Y h0 sz (pq_v post))) 94 [none, none, none, none] [] h sz 0 0) : ∀ (n_ : Nat) (x2 : Int32) (U : Um) (h : pe_H), rF Y h0 U h → w_X4_readSum_L7 rec o0 x1 post k_94 n_ x2 U → pw X Y.1 (pm_A hh sz) (pm_E X Y.1 hh sz 0 0 (pm_P Y h0 sz (pq_v post))) 7 [some (.ref (Y.2.1 o0)), some (.int x1), some (.int x2), none] [] h sz 0 0 := by
  intro n_
  induction n_ with
  | zero => intro x2 U h hU H; exact False.elim H
  | succ n_ ih =>
    intro x2 U h hU H
    replace H : b_X4_readSum_L7 rec o0 x1 post k_94 (w_X4_readSum_L7 rec o0 x1 post k_94 n_) x2 U := H
    unfold b_X4_readSum_L7 at H
    refine pr_iload_n hC (by decide +kernel : decode cX4_readSum 7 = .ok (.iload_n 2, 1)) rfl ?_
    refine pr_sipush hC (1200) (by decide +kernel : decode cX4_readSum 8 = .ok (.sipush 1200, 3)) rfl ?_
    refine pr_icmp_ge hC 94 (by decide +kernel : decode cX4_readSum 11 = .ok (.if_icmp .ge 83, 3)) (by decide) (fun c_11 => ?_) (fun c_11 => ?_)
    · replace H := H.1 c_11
      exact pv_sub [none, none, none, none] (trivial) (hk_94 U h H hU)
    replace H := H.2 c_11
    refine pr_aload_n hC (by decide +kernel : decode cX4_readSum 14 = .ok (.aload_n 0, 1)) rfl ?_
    refine pu_g0 hC fg_X4_28 (by decide +kernel : decode cX4_readSum 15 = .ok (.getfield 28, 3)) hU ho0 (by decide) rfl rfl ?_
    refine pr_if_ne hC 94 (by decide +kernel : decode cX4_readSum 18 = .ok (.ifCond .ne 76, 3)) (by decide) (fun c_18 => ?_) (fun c_18 => ?_)
    · replace H := H.2 c_18
      exact pv_sub [none, none, none, none] (trivial) (hk_94 U h H hU)
    replace H := H.1 c_18
    refine pr_aload_n hC (by decide +kernel : decode cX4_readSum 21 = .ok (.aload_n 0, 1)) rfl ?_
    refine pu_g21 hC fg_X4_9 (by decide +kernel : decode cX4_readSum 22 = .ok (.getfield 9, 3)) hU ho0 (by decide) rfl rfl ?_
    have q_3 := H.1
    replace H := H.2
    refine pu_g0 hC fg_X4_240 (by decide +kernel : decode cX4_readSum 25 = .ok (.getfield 240, 3)) hU q_3 (by decide) rfl rfl ?_
    refine pr_bipush hC (43) (by decide +kernel : decode cX4_readSum 28 = .ok (.bipush 43, 2)) rfl ?_
    replace H := H (pw X Y.1 (pm_A hh sz) (pm_E X Y.1 hh sz 0 0 (pm_P Y h0 sz (pq_v post))) 45 [some (.ref (Y.2.1 o0)), some (.int x1), some (.int x2), none] [] h sz 0 0) (by
      intro  H
      refine pr_aload_n hC (by decide +kernel : decode cX4_readSum 45 = .ok (.aload_n 0, 1)) rfl ?_
      refine pu_g21 hC fg_X4_9 (by decide +kernel : decode cX4_readSum 46 = .ok (.getfield 9, 3)) hU ho0 (by decide) rfl rfl ?_
      have q_5 := H.1
      replace H := H.2
      refine pu_g0 hC fg_X4_240 (by decide +kernel : decode cX4_readSum 49 = .ok (.getfield 240, 3)) hU q_5 (by decide) rfl rfl ?_
      refine pr_bipush hC (43) (by decide +kernel : decode cX4_readSum 52 = .ok (.bipush 43, 2)) rfl ?_
      have HJ_17 : ∀ (xs_6 : Int32), xs_6 = (if (uI U (uR U o0 0) 7) = 43 then (-11) else (-12)) → pw X Y.1 (pm_A hh sz) (pm_E X Y.1 hh sz 0 0 (pm_P Y h0 sz (pq_v post))) 64 [some (.ref (Y.2.1 o0)), some (.int x1), some (.int x2), none] [.int xs_6] h sz 0 0 := by
        intro xs_6 e_xs_6
        replace H := H xs_6 e_xs_6
        refine pr_istore_n hC (by decide +kernel : decode cX4_readSum 64 = .ok (.istore_n 3, 1)) (by decide) rfl ?_
        refine pr_aload_n hC (by decide +kernel : decode cX4_readSum 65 = .ok (.aload_n 0, 1)) rfl ?_
        refine pu_g21 hC fg_X4_9 (by decide +kernel : decode cX4_readSum 66 = .ok (.getfield 9, 3)) hU ho0 (by decide) rfl rfl ?_
        have q_7 := H.1
        replace H := H.2
        refine vc_Vv hC hR [] fv_X4_65 (by decide +kernel : decode cX4_readSum 69 = .ok (.invokevirtual 65, 3)) hU (t_X8_advance q_7 H) q_7 (by decide) rfl rfl rfl (Nat.le_of_ble_eq_true rfl) (by omega) (Nat.le_refl 0) (Nat.le_refl 0) (fun U_8 h H hU => ?_)
        refine pr_aload_n hC (by decide +kernel : decode cX4_readSum 72 = .ok (.aload_n 0, 1)) rfl ?_
        refine pr_iload_n hC (by decide +kernel : decode cX4_readSum 73 = .ok (.iload_n 1, 1)) rfl ?_
        refine vc_Vv hC hR [.int x1] fv_X4_237 (by decide +kernel : decode cX4_readSum 74 = .ok (.invokevirtual 237, 3)) hU (tb_X4_readTerm hrec hD ho0 H) ho0 (by decide) rfl rfl rfl (Nat.le_of_ble_eq_true rfl) (by omega) (Nat.le_refl 0) (Nat.le_refl 0) (fun U_10 h H hU => ?_)
        refine pr_aload_n hC (by decide +kernel : decode cX4_readSum 77 = .ok (.aload_n 0, 1)) rfl ?_
        refine pu_g22 hC fg_X4_19 (by decide +kernel : decode cX4_readSum 78 = .ok (.getfield 19, 3)) hU ho0 (by decide) rfl rfl H.1 ?_
        replace H := H.2
        have q_12 := H.1
        replace H := H.2
        refine pu_g21 hC fg_X4_228 (by decide +kernel : decode cX4_readSum 81 = .ok (.getfield 228, 3)) hU q_12 (by decide) rfl rfl ?_
        have q_13 := H.1
        replace H := H.2
        refine pr_iload_n hC (by decide +kernel : decode cX4_readSum 84 = .ok (.iload_n 3, 1)) rfl ?_
        refine vc_Vv hC hR [.int xs_6] fv_X4_243 (by decide +kernel : decode cX4_readSum 85 = .ok (.invokevirtual 243, 3)) hU (t_X3_add q_13 H) q_13 (by decide) rfl rfl rfl (Nat.le_of_ble_eq_true rfl) (by omega) (Nat.le_refl 0) (Nat.le_refl 0) (fun U_14 h H hU => ?_)
        refine pv_iinc hC (v := x2 + 1) (by decide +kernel : decode cX4_readSum 88 = .ok (.iinc 2 1, 3)) rfl (by decide) rfl rfl (fun x2_16 e_x2_16 => ?_)
        replace H := H x2_16 e_x2_16
        refine pr_goto hC 7 (by decide +kernel : decode cX4_readSum 91 = .ok (.goto (-84), 3)) (by decide) ?_
        exact pv_sub [some (.ref (Y.2.1 o0)), some (.int x1), some (.int x2_16), none] (And.intro rfl (And.intro rfl (And.intro rfl trivial))) (ih _ U_14 h hU H)
      replace H := trivial
      refine pr_icmp_ne hC 62 (by decide +kernel : decode cX4_readSum 54 = .ok (.if_icmp .ne 8, 3)) (by decide) (fun c_54 => ?_) (fun c_54 => ?_)
      · skip
        refine pr_bipush hC (-12) (by decide +kernel : decode cX4_readSum 62 = .ok (.bipush (-12), 2)) rfl ?_
        exact pv_sub [some (.ref (Y.2.1 o0)), some (.int x1), some (.int x2), none] (And.intro rfl (And.intro rfl (And.intro rfl trivial))) (HJ_17 _ (if_neg c_54).symm)
      skip
      refine pr_bipush hC (-11) (by decide +kernel : decode cX4_readSum 57 = .ok (.bipush (-11), 2)) rfl ?_
      refine pr_goto hC 64 (by decide +kernel : decode cX4_readSum 59 = .ok (.goto 5, 3)) (by decide) ?_
      exact pv_sub [some (.ref (Y.2.1 o0)), some (.int x1), some (.int x2), none] (And.intro rfl (And.intro rfl (And.intro rfl trivial))) (HJ_17 _ (if_pos c_54).symm))
    refine pr_icmp_eq hC 45 (by decide +kernel : decode cX4_readSum 30 = .ok (.if_icmp .eq 15, 3)) (by decide) (fun c_30 => ?_) (fun c_30 => ?_)
    · replace H := H.1 c_30
      exact pv_sub [some (.ref (Y.2.1 o0)), some (.int x1), some (.int x2), none] (And.intro rfl (And.intro rfl (And.intro rfl trivial))) (H )
    replace H := H.2 c_30
    refine pr_aload_n hC (by decide +kernel : decode cX4_readSum 33 = .ok (.aload_n 0, 1)) rfl ?_
    refine pu_g21 hC fg_X4_9 (by decide +kernel : decode cX4_readSum 34 = .ok (.getfield 9, 3)) hU ho0 (by decide) rfl rfl ?_
    have q_18 := H.1
    replace H := H.2
    refine pu_g0 hC fg_X4_240 (by decide +kernel : decode cX4_readSum 37 = .ok (.getfield 240, 3)) hU q_18 (by decide) rfl rfl ?_
    refine pr_bipush hC (45) (by decide +kernel : decode cX4_readSum 40 = .ok (.bipush 45, 2)) rfl ?_
    refine pr_icmp_ne hC 94 (by decide +kernel : decode cX4_readSum 42 = .ok (.if_icmp .ne 52, 3)) (by decide) (fun c_42 => ?_) (fun c_42 => ?_)
    · replace H := H.2 c_42
      exact pv_sub [none, none, none, none] (trivial) (hk_94 U h H hU)
    replace H := H.1 c_42
    exact pv_sub [some (.ref (Y.2.1 o0)), some (.int x1), some (.int x2), none] (And.intro rfl (And.intro rfl (And.intro rfl trivial))) (H )
set_option maxHeartbeats 4000000 in
theorem tb_X4_readSum {l : Launch} {Y : px_Y} {dd : Nat} {rec : Nat → Int32 → Um → (Um → Prop) → Prop} (hrec : ∀ (l : Launch) (o : Nat) (a0 : Int32) (U : Um) (post : Um → Prop), oc o = 3 → rec o a0 U post → um l Y dd yX4_readSum cX4_readSum 4 none [.ref (Y.2.1 o), .int a0] U (pq_v post)) (hD : 3 ≤ dd) {o : Nat} {a1 : Int32} {U : Um} {post : Um → Prop} (ho : oc o = 3) (H : b_X4_readSum rec o a1 U post) : um l Y (dd + 3) yX4_readSum cX4_readSum 4 none [.ref (Y.2.1 o), .int a1] U (pq_v post) := by
  unfold b_X4_readSum at H
  refine um_of (by decide) (Nat.le_of_ble_eq_true rfl) [some (.ref (Y.2.1 o)), some (.int a1), none, none] rfl (fun X h0 hh sz hM hU => ?_)
  have hC := hM.1
  have hR := hM.2.2.1
  refine pr_aload_n hC (by decide +kernel : decode cX4_readSum 0 = .ok (.aload_n 0, 1)) rfl ?_
  refine pr_iload_n hC (by decide +kernel : decode cX4_readSum 1 = .ok (.iload_n 1, 1)) rfl ?_
  refine vc_Vv hC hR [.int a1] fv_X4_237 (by decide +kernel : decode cX4_readSum 2 = .ok (.invokevirtual 237, 3)) hU (tb_X4_readTerm hrec hD ho H) ho (by decide) rfl rfl rfl (Nat.le_of_ble_eq_true rfl) (by omega) (Nat.le_refl 0) (Nat.le_refl 0) (fun U_1 h H hU => ?_)
  refine pr_iconst hC (0) (by decide +kernel : decode cX4_readSum 5 = .ok (.iconst 0, 1)) rfl ?_
  refine pr_istore_n hC (by decide +kernel : decode cX4_readSum 6 = .ok (.istore_n 2, 1)) (by decide) rfl ?_
  obtain ⟨n_20, H⟩ := H
  refine pv_sub [some (.ref (Y.2.1 o)), some (.int a1), some (.int 0), none] (And.intro rfl (And.intro rfl (And.intro rfl trivial))) ?_
  refine tl_X4_readSum_L7 _ _ _ _ _ ho hrec hD hC hM hR (fun U_19 h H hU => ?_) n_20 _ U_1 h hU H
  exact pv_vret hM (by decide +kernel : decode cX4_readSum 94 = .ok (.return_, 1)) hU H
theorem tn_X4_readSum {l : Launch} {Y : px_Y} : ∀ (n_ : Nat) (o : Nat) (a1 : Int32) (U : Um) (post : Um → Prop), oc o = 3 → w_X4_readSum n_ o a1 U post → um l Y (3 + 3 * n_) yX4_readSum cX4_readSum 4 none [.ref (Y.2.1 o), .int a1] U (pq_v post)
  | 0 => fun _ _ _ _ _ H => False.elim H
  | n_ + 1 => fun o a1 U post ho H => tb_X4_readSum (fun _ => tn_X4_readSum n_) (Nat.le_add_right _ _) ho H
theorem t_X4_readSum {l : Launch} {Y : px_Y} (n_ : Nat) {o : Nat} {a1 : Int32} {U : Um} {post : Um → Prop} (ho : oc o = 3) (H : w_X4_readSum n_ o a1 U post) : um l Y (3 + 3 * n_) yX4_readSum cX4_readSum 4 none [.ref (Y.2.1 o), .int a1] U (pq_v post) := tn_X4_readSum n_ _ _ _ _ ho H
def b_X5_shorten_L12 (o0 : Nat) (x1 : Int32) (x2 : Int32) (post : Um → Prop) (k_99 : Um → Prop) (rec_ : Int32 → Um → Prop) (x3 : Int32) (U : Um) : Prop :=
  ((uI U o0 0) ≤ x3 → k_99 U) ∧ (¬ (uI U o0 0) ≤ x3 → vp_in x2 6 ∧ vp_in x1 6 ∧ ∀ (x4_2 : Int32), x4_2 = uA U o0 (ki 2 (Int32.toNatClampNeg x2)) (Int32.toNatClampNeg x1) → vp_in x1 6 ∧ vp_in x3 6 ∧ ∀ (x5_4 : Int32), x5_4 = uA U o0 (ki 2 (Int32.toNatClampNeg x1)) (Int32.toNatClampNeg x3) → (x4_2 = (-1) → ∀ (x3_5 : Int32), x3_5 = x3 + 1 → rec_ x3_5 U) ∧ (¬ x4_2 = (-1) → (x5_4 = (-1) → ∀ (x3_6 : Int32), x3_6 = x3 + 1 → rec_ x3_6 U) ∧ (¬ x5_4 = (-1) → vp_in x2 6 ∧ vp_in x3 6 ∧ (∀ K_8 : Prop, ((vp_in x2 6 ∧ vp_in x3 6 ∧ ∀ (U_10 : Um), U_10 = sA U o0 (ki 2 (Int32.toNatClampNeg x2)) (va_up (uA U o0 (ki 2 (Int32.toNatClampNeg x2))) (Int32.toNatClampNeg x3) (x4_2 + x5_4)) → ∀ (x3_11 : Int32), x3_11 = x3 + 1 → rec_ x3_11 U_10) → K_8 ) → ((uA U o0 (ki 2 (Int32.toNatClampNeg x2)) (Int32.toNatClampNeg x3)) = (-1) → K_8) ∧ (¬ (uA U o0 (ki 2 (Int32.toNatClampNeg x2)) (Int32.toNatClampNeg x3)) = (-1) → vp_in x2 6 ∧ vp_in x3 6 ∧ ((uA U o0 (ki 2 (Int32.toNatClampNeg x2)) (Int32.toNatClampNeg x3)) ≤ (x4_2 + x5_4) → ∀ (x3_13 : Int32), x3_13 = x3 + 1 → rec_ x3_13 U) ∧ (¬ (uA U o0 (ki 2 (Int32.toNatClampNeg x2)) (Int32.toNatClampNeg x3)) ≤ (x4_2 + x5_4) → K_8))))))
def w_X5_shorten_L12 (o0 : Nat) (x1 : Int32) (x2 : Int32) (post : Um → Prop) (k_99 : Um → Prop) (n_ : Nat) : Int32 → Um → Prop := Nat.rec (motive := fun _ => Int32 → Um → Prop) (fun _ _ => False) (fun _ ih => b_X5_shorten_L12 o0 x1 x2 post k_99 ih) n_
def b_X5_shorten_L2 (o0 : Nat) (x1 : Int32) (post : Um → Prop) (k_105 : Um → Prop) (rec_ : Int32 → Um → Prop) (x2 : Int32) (U : Um) : Prop :=
  ((uI U o0 0) ≤ x2 → k_105 U) ∧ (¬ (uI U o0 0) ≤ x2 → (∃ n_16, w_X5_shorten_L12 o0 x1 x2 post (fun U_14 => ∀ (x2_15 : Int32), x2_15 = x2 + 1 → rec_ x2_15 U_14) n_16 0 U))
def w_X5_shorten_L2 (o0 : Nat) (x1 : Int32) (post : Um → Prop) (k_105 : Um → Prop) (n_ : Nat) : Int32 → Um → Prop := Nat.rec (motive := fun _ => Int32 → Um → Prop) (fun _ _ => False) (fun _ ih => b_X5_shorten_L2 o0 x1 post k_105 ih) n_
def w_X5_shorten (o : Nat) (a1 : Int32) (U : Um) (post : Um → Prop) : Prop :=
  (∃ n_18, w_X5_shorten_L2 o a1 post (fun U_17 => post U_17) n_18 0 U)
set_option maxHeartbeats 4000000 in
theorem tl_X5_shorten_L12 {l : Launch} {Y : px_Y} {X : px_X} {h0 hh : pe_H} {sz : Nat} (o0 : Nat) (x1 : Int32) (x2 : Int32) (post : Um → Prop) (k_99 : Um → Prop) (ho0 : oc o0 = 4)  (hC : px_C X Y.1 (pm_A hh sz) cX5_shorten RX5 6) (hM : px_M l X Y.1 hh sz yX5_shorten cX5_shorten 6 none 0 0 0) (hR : X.2.2.2.1 = pm_rm 0 0 0) (hk_99 : ∀ (U : Um) (h : pe_H), k_99 U → rF Y h0 U h → pw X Y.1 (pm_A hh sz) (pm_E X Y.1 hh sz 0 0 (pm_P Y h0 sz (pq_v post))) 99 [some (.ref (Y.2.1 o0)), some (.int x1), some (.int x2), none, none, none] [] h sz 0 0) : ∀ (n_ : Nat) (x3 : Int32) (U : Um) (h : pe_H), rF Y h0 U h → w_X5_shorten_L12 o0 x1 x2 post k_99 n_ x3 U → pw X Y.1 (pm_A hh sz) (pm_E X Y.1 hh sz 0 0 (pm_P Y h0 sz (pq_v post))) 12 [some (.ref (Y.2.1 o0)), some (.int x1), some (.int x2), some (.int x3), none, none] [] h sz 0 0 := by
  intro n_
  induction n_ with
  | zero => intro x3 U h hU H; exact False.elim H
  | succ n_ ih =>
    intro x3 U h hU H
    replace H : b_X5_shorten_L12 o0 x1 x2 post k_99 (w_X5_shorten_L12 o0 x1 x2 post k_99 n_) x3 U := H
    unfold b_X5_shorten_L12 at H
    refine pr_iload_n hC (by decide +kernel : decode cX5_shorten 12 = .ok (.iload_n 3, 1)) rfl ?_
    refine pr_aload_n hC (by decide +kernel : decode cX5_shorten 13 = .ok (.aload_n 0, 1)) rfl ?_
    refine pu_g0 hC fg_X5_19 (by decide +kernel : decode cX5_shorten 14 = .ok (.getfield 19, 3)) hU ho0 (by decide) rfl rfl ?_
    refine pr_icmp_ge hC 99 (by decide +kernel : decode cX5_shorten 17 = .ok (.if_icmp .ge 82, 3)) (by decide) (fun c_17 => ?_) (fun c_17 => ?_)
    · replace H := H.1 c_17
      exact pv_sub [some (.ref (Y.2.1 o0)), some (.int x1), some (.int x2), none, none, none] (And.intro rfl (And.intro rfl (And.intro rfl trivial))) (hk_99 U h H hU)
    replace H := H.2 c_17
    refine pr_aload_n hC (by decide +kernel : decode cX5_shorten 20 = .ok (.aload_n 0, 1)) rfl ?_
    refine pu_g1 hC fg_X5_16 (by decide +kernel : decode cX5_shorten 21 = .ok (.getfield 16, 3)) hU ho0 (by decide) rfl (by decide) ?_
    refine pr_iload_n hC (by decide +kernel : decode cX5_shorten 24 = .ok (.iload_n 2, 1)) rfl ?_
    have q_1 := H.1
    replace H := H.2
    refine pu_aald6 hC (by decide +kernel : decode cX5_shorten 25 = .ok (.aaload, 1)) hU ho0 rfl q_1 ?_
    refine pr_iload_n hC (by decide +kernel : decode cX5_shorten 26 = .ok (.iload_n 1, 1)) rfl ?_
    refine pu_iald7 hC (by decide +kernel : decode cX5_shorten 27 = .ok (.iaload, 1)) hU ho0 rfl (vp_lt q_1) H.1 ?_
    replace H := H.2
    refine pv_topi (fun x4_2 e_x4_2 => ?_)
    replace H := H x4_2 e_x4_2
    refine pr_istore hC (by decide +kernel : decode cX5_shorten 28 = .ok (.istore 4, 2)) (by decide) rfl ?_
    refine pr_aload_n hC (by decide +kernel : decode cX5_shorten 30 = .ok (.aload_n 0, 1)) rfl ?_
    refine pu_g1 hC fg_X5_16 (by decide +kernel : decode cX5_shorten 31 = .ok (.getfield 16, 3)) hU ho0 (by decide) rfl (by decide) ?_
    refine pr_iload_n hC (by decide +kernel : decode cX5_shorten 34 = .ok (.iload_n 1, 1)) rfl ?_
    have q_3 := H.1
    replace H := H.2
    refine pu_aald6 hC (by decide +kernel : decode cX5_shorten 35 = .ok (.aaload, 1)) hU ho0 rfl q_3 ?_
    refine pr_iload_n hC (by decide +kernel : decode cX5_shorten 36 = .ok (.iload_n 3, 1)) rfl ?_
    refine pu_iald7 hC (by decide +kernel : decode cX5_shorten 37 = .ok (.iaload, 1)) hU ho0 rfl (vp_lt q_3) H.1 ?_
    replace H := H.2
    refine pv_topi (fun x5_4 e_x5_4 => ?_)
    replace H := H x5_4 e_x5_4
    refine pr_istore hC (by decide +kernel : decode cX5_shorten 38 = .ok (.istore 5, 2)) (by decide) rfl ?_
    refine pr_iload hC (by decide +kernel : decode cX5_shorten 40 = .ok (.iload 4, 2)) rfl ?_
    refine pr_iconst hC (-1) (by decide +kernel : decode cX5_shorten 42 = .ok (.iconst (-1), 1)) rfl ?_
    refine pr_icmp_eq hC 93 (by decide +kernel : decode cX5_shorten 43 = .ok (.if_icmp .eq 50, 3)) (by decide) (fun c_43 => ?_) (fun c_43 => ?_)
    · replace H := H.1 c_43
      refine pv_iinc hC (v := x3 + 1) (by decide +kernel : decode cX5_shorten 93 = .ok (.iinc 3 1, 3)) rfl (by decide) rfl rfl (fun x3_5 e_x3_5 => ?_)
      replace H := H x3_5 e_x3_5
      refine pr_goto hC 12 (by decide +kernel : decode cX5_shorten 96 = .ok (.goto (-84), 3)) (by decide) ?_
      exact pv_sub [some (.ref (Y.2.1 o0)), some (.int x1), some (.int x2), some (.int x3_5), none, none] (And.intro rfl (And.intro rfl (And.intro rfl (And.intro rfl trivial)))) (ih _ U h hU H)
    replace H := H.2 c_43
    refine pr_iload hC (by decide +kernel : decode cX5_shorten 46 = .ok (.iload 5, 2)) rfl ?_
    refine pr_iconst hC (-1) (by decide +kernel : decode cX5_shorten 48 = .ok (.iconst (-1), 1)) rfl ?_
    refine pr_icmp_eq hC 93 (by decide +kernel : decode cX5_shorten 49 = .ok (.if_icmp .eq 44, 3)) (by decide) (fun c_49 => ?_) (fun c_49 => ?_)
    · replace H := H.1 c_49
      refine pv_iinc hC (v := x3 + 1) (by decide +kernel : decode cX5_shorten 93 = .ok (.iinc 3 1, 3)) rfl (by decide) rfl rfl (fun x3_6 e_x3_6 => ?_)
      replace H := H x3_6 e_x3_6
      refine pr_goto hC 12 (by decide +kernel : decode cX5_shorten 96 = .ok (.goto (-84), 3)) (by decide) ?_
      exact pv_sub [some (.ref (Y.2.1 o0)), some (.int x1), some (.int x2), some (.int x3_6), none, none] (And.intro rfl (And.intro rfl (And.intro rfl (And.intro rfl trivial)))) (ih _ U h hU H)
    replace H := H.2 c_49
    refine pr_aload_n hC (by decide +kernel : decode cX5_shorten 52 = .ok (.aload_n 0, 1)) rfl ?_
    refine pu_g1 hC fg_X5_16 (by decide +kernel : decode cX5_shorten 53 = .ok (.getfield 16, 3)) hU ho0 (by decide) rfl (by decide) ?_
    refine pr_iload_n hC (by decide +kernel : decode cX5_shorten 56 = .ok (.iload_n 2, 1)) rfl ?_
    have q_7 := H.1
    replace H := H.2
    refine pu_aald6 hC (by decide +kernel : decode cX5_shorten 57 = .ok (.aaload, 1)) hU ho0 rfl q_7 ?_
    refine pr_iload_n hC (by decide +kernel : decode cX5_shorten 58 = .ok (.iload_n 3, 1)) rfl ?_
    refine pu_iald7 hC (by decide +kernel : decode cX5_shorten 59 = .ok (.iaload, 1)) hU ho0 rfl (vp_lt q_7) H.1 ?_
    replace H := H.2
    refine pr_iconst hC (-1) (by decide +kernel : decode cX5_shorten 60 = .ok (.iconst (-1), 1)) rfl ?_
    replace H := H (pw X Y.1 (pm_A hh sz) (pm_E X Y.1 hh sz 0 0 (pm_P Y h0 sz (pq_v post))) 80 [some (.ref (Y.2.1 o0)), some (.int x1), some (.int x2), some (.int x3), some (.int x4_2), some (.int x5_4)] [] h sz 0 0) (by
      intro  H
      refine pr_aload_n hC (by decide +kernel : decode cX5_shorten 80 = .ok (.aload_n 0, 1)) rfl ?_
      refine pu_g1 hC fg_X5_16 (by decide +kernel : decode cX5_shorten 81 = .ok (.getfield 16, 3)) hU ho0 (by decide) rfl (by decide) ?_
      refine pr_iload_n hC (by decide +kernel : decode cX5_shorten 84 = .ok (.iload_n 2, 1)) rfl ?_
      have q_9 := H.1
      replace H := H.2
      refine pu_aald6 hC (by decide +kernel : decode cX5_shorten 85 = .ok (.aaload, 1)) hU ho0 rfl q_9 ?_
      refine pr_iload_n hC (by decide +kernel : decode cX5_shorten 86 = .ok (.iload_n 3, 1)) rfl ?_
      refine pr_iload hC (by decide +kernel : decode cX5_shorten 87 = .ok (.iload 4, 2)) rfl ?_
      refine pr_iload hC (by decide +kernel : decode cX5_shorten 89 = .ok (.iload 5, 2)) rfl ?_
      refine pr_iadd hC (by decide +kernel : decode cX5_shorten 91 = .ok (.iadd, 1)) ?_
      refine pv_iast7 hC (by decide +kernel : decode cX5_shorten 92 = .ok (.iastore, 1)) hU ho0 rfl (vp_lt q_9) H.1 (fun U_10 h e_U_10 hU => ?_)
      replace H := H.2 U_10 e_U_10
      refine pv_iinc hC (v := x3 + 1) (by decide +kernel : decode cX5_shorten 93 = .ok (.iinc 3 1, 3)) rfl (by decide) rfl rfl (fun x3_11 e_x3_11 => ?_)
      replace H := H x3_11 e_x3_11
      refine pr_goto hC 12 (by decide +kernel : decode cX5_shorten 96 = .ok (.goto (-84), 3)) (by decide) ?_
      exact pv_sub [some (.ref (Y.2.1 o0)), some (.int x1), some (.int x2), some (.int x3_11), none, none] (And.intro rfl (And.intro rfl (And.intro rfl (And.intro rfl trivial)))) (ih _ U_10 h hU H))
    refine pr_icmp_eq hC 80 (by decide +kernel : decode cX5_shorten 61 = .ok (.if_icmp .eq 19, 3)) (by decide) (fun c_61 => ?_) (fun c_61 => ?_)
    · replace H := H.1 c_61
      exact pv_sub [some (.ref (Y.2.1 o0)), some (.int x1), some (.int x2), some (.int x3), some (.int x4_2), some (.int x5_4)] (And.intro rfl (And.intro rfl (And.intro rfl (And.intro rfl (And.intro rfl (And.intro rfl trivial)))))) (H )
    replace H := H.2 c_61
    refine pr_iload hC (by decide +kernel : decode cX5_shorten 64 = .ok (.iload 4, 2)) rfl ?_
    refine pr_iload hC (by decide +kernel : decode cX5_shorten 66 = .ok (.iload 5, 2)) rfl ?_
    refine pr_iadd hC (by decide +kernel : decode cX5_shorten 68 = .ok (.iadd, 1)) ?_
    refine pr_aload_n hC (by decide +kernel : decode cX5_shorten 69 = .ok (.aload_n 0, 1)) rfl ?_
    refine pu_g1 hC fg_X5_16 (by decide +kernel : decode cX5_shorten 70 = .ok (.getfield 16, 3)) hU ho0 (by decide) rfl (by decide) ?_
    refine pr_iload_n hC (by decide +kernel : decode cX5_shorten 73 = .ok (.iload_n 2, 1)) rfl ?_
    have q_12 := H.1
    replace H := H.2
    refine pu_aald6 hC (by decide +kernel : decode cX5_shorten 74 = .ok (.aaload, 1)) hU ho0 rfl q_12 ?_
    refine pr_iload_n hC (by decide +kernel : decode cX5_shorten 75 = .ok (.iload_n 3, 1)) rfl ?_
    refine pu_iald7 hC (by decide +kernel : decode cX5_shorten 76 = .ok (.iaload, 1)) hU ho0 rfl (vp_lt q_12) H.1 ?_
    replace H := H.2
    refine pr_icmp_ge hC 93 (by decide +kernel : decode cX5_shorten 77 = .ok (.if_icmp .ge 16, 3)) (by decide) (fun c_77 => ?_) (fun c_77 => ?_)
    · replace H := H.1 c_77
      refine pv_iinc hC (v := x3 + 1) (by decide +kernel : decode cX5_shorten 93 = .ok (.iinc 3 1, 3)) rfl (by decide) rfl rfl (fun x3_13 e_x3_13 => ?_)
      replace H := H x3_13 e_x3_13
      refine pr_goto hC 12 (by decide +kernel : decode cX5_shorten 96 = .ok (.goto (-84), 3)) (by decide) ?_
      exact pv_sub [some (.ref (Y.2.1 o0)), some (.int x1), some (.int x2), some (.int x3_13), none, none] (And.intro rfl (And.intro rfl (And.intro rfl (And.intro rfl trivial)))) (ih _ U h hU H)
    replace H := H.2 c_77
    exact pv_sub [some (.ref (Y.2.1 o0)), some (.int x1), some (.int x2), some (.int x3), some (.int x4_2), some (.int x5_4)] (And.intro rfl (And.intro rfl (And.intro rfl (And.intro rfl (And.intro rfl (And.intro rfl trivial)))))) (H )
set_option maxHeartbeats 4000000 in
theorem tl_X5_shorten_L2 {l : Launch} {Y : px_Y} {X : px_X} {h0 hh : pe_H} {sz : Nat} (o0 : Nat) (x1 : Int32) (post : Um → Prop) (k_105 : Um → Prop) (ho0 : oc o0 = 4)  (hC : px_C X Y.1 (pm_A hh sz) cX5_shorten RX5 6) (hM : px_M l X Y.1 hh sz yX5_shorten cX5_shorten 6 none 0 0 0) (hR : X.2.2.2.1 = pm_rm 0 0 0) (hk_105 : ∀ (U : Um) (h : pe_H), k_105 U → rF Y h0 U h → pw X Y.1 (pm_A hh sz) (pm_E X Y.1 hh sz 0 0 (pm_P Y h0 sz (pq_v post))) 105 [none, none, none, none, none, none] [] h sz 0 0) : ∀ (n_ : Nat) (x2 : Int32) (U : Um) (h : pe_H), rF Y h0 U h → w_X5_shorten_L2 o0 x1 post k_105 n_ x2 U → pw X Y.1 (pm_A hh sz) (pm_E X Y.1 hh sz 0 0 (pm_P Y h0 sz (pq_v post))) 2 [some (.ref (Y.2.1 o0)), some (.int x1), some (.int x2), none, none, none] [] h sz 0 0 := by
  intro n_
  induction n_ with
  | zero => intro x2 U h hU H; exact False.elim H
  | succ n_ ih =>
    intro x2 U h hU H
    replace H : b_X5_shorten_L2 o0 x1 post k_105 (w_X5_shorten_L2 o0 x1 post k_105 n_) x2 U := H
    unfold b_X5_shorten_L2 at H
    refine pr_iload_n hC (by decide +kernel : decode cX5_shorten 2 = .ok (.iload_n 2, 1)) rfl ?_
    refine pr_aload_n hC (by decide +kernel : decode cX5_shorten 3 = .ok (.aload_n 0, 1)) rfl ?_
    refine pu_g0 hC fg_X5_19 (by decide +kernel : decode cX5_shorten 4 = .ok (.getfield 19, 3)) hU ho0 (by decide) rfl rfl ?_
    refine pr_icmp_ge hC 105 (by decide +kernel : decode cX5_shorten 7 = .ok (.if_icmp .ge 98, 3)) (by decide) (fun c_7 => ?_) (fun c_7 => ?_)
    · replace H := H.1 c_7
      exact pv_sub [none, none, none, none, none, none] (trivial) (hk_105 U h H hU)
    replace H := H.2 c_7
    refine pr_iconst hC (0) (by decide +kernel : decode cX5_shorten 10 = .ok (.iconst 0, 1)) rfl ?_
    refine pr_istore_n hC (by decide +kernel : decode cX5_shorten 11 = .ok (.istore_n 3, 1)) (by decide) rfl ?_
    obtain ⟨n_16, H⟩ := H
    refine pv_sub [some (.ref (Y.2.1 o0)), some (.int x1), some (.int x2), some (.int 0), none, none] (And.intro rfl (And.intro rfl (And.intro rfl (And.intro rfl trivial)))) ?_
    refine tl_X5_shorten_L12 _ _ _ _ _ ho0 hC hM hR (fun U_14 h H hU => ?_) n_16 _ U h hU H
    refine pv_iinc hC (v := x2 + 1) (by decide +kernel : decode cX5_shorten 99 = .ok (.iinc 2 1, 3)) rfl (by decide) rfl rfl (fun x2_15 e_x2_15 => ?_)
    replace H := H x2_15 e_x2_15
    refine pr_goto hC 2 (by decide +kernel : decode cX5_shorten 102 = .ok (.goto (-100), 3)) (by decide) ?_
    exact pv_sub [some (.ref (Y.2.1 o0)), some (.int x1), some (.int x2_15), none, none, none] (And.intro rfl (And.intro rfl (And.intro rfl trivial))) (ih _ U_14 h hU H)
set_option maxHeartbeats 4000000 in
theorem t_X5_shorten {l : Launch} {Y : px_Y} {o : Nat} {a1 : Int32} {U : Um} {post : Um → Prop} (ho : oc o = 4) (H : w_X5_shorten o a1 U post) : um l Y 0 yX5_shorten cX5_shorten 6 none [.ref (Y.2.1 o), .int a1] U (pq_v post) := by
  unfold w_X5_shorten at H
  refine um_of (by decide) (Nat.le_of_ble_eq_true rfl) [some (.ref (Y.2.1 o)), some (.int a1), none, none, none, none] rfl (fun X h0 hh sz hM hU => ?_)
  have hC := hM.1
  have hR := hM.2.2.1
  refine pr_iconst hC (0) (by decide +kernel : decode cX5_shorten 0 = .ok (.iconst 0, 1)) rfl ?_
  refine pr_istore_n hC (by decide +kernel : decode cX5_shorten 1 = .ok (.istore_n 2, 1)) (by decide) rfl ?_
  obtain ⟨n_18, H⟩ := H
  refine pv_sub [some (.ref (Y.2.1 o)), some (.int a1), some (.int 0), none, none, none] (And.intro rfl (And.intro rfl (And.intro rfl trivial))) ?_
  refine tl_X5_shorten_L2 _ _ _ _ ho hC hM hR (fun U_17 h H hU => ?_) n_18 _ U hh hU H
  exact pv_vret hM (by decide +kernel : decode cX5_shorten 105 = .ok (.return_, 1)) hU H
def b_X5_settle_L17 (o0 : Nat) (x2 : Int32) (post : Um → Prop) (k_71 : Um → Prop) (rec_ : Int32 → Um → Prop) (x3 : Int32) (U : Um) : Prop :=
  ((uI U o0 0) ≤ x3 → k_71 U) ∧ (¬ (uI U o0 0) ≤ x3 → vp_in x2 6 ∧ (x2 = x3 → vp_in x3 6 ∧ ∀ (U_3 : Um), U_3 = sA U o0 (ki 2 (Int32.toNatClampNeg x2)) (va_up (uA U o0 (ki 2 (Int32.toNatClampNeg x2))) (Int32.toNatClampNeg x3) 0) → ∀ (x3_4 : Int32), x3_4 = x3 + 1 → rec_ x3_4 U_3) ∧ (¬ x2 = x3 → vp_in x2 6 ∧ vp_in x3 6 ∧ ((uA U o0 (ki 1 (Int32.toNatClampNeg x2)) (Int32.toNatClampNeg x3)) ≤ 0 → vp_in x3 6 ∧ ∀ (U_6 : Um), U_6 = sA U o0 (ki 2 (Int32.toNatClampNeg x2)) (va_up (uA U o0 (ki 2 (Int32.toNatClampNeg x2))) (Int32.toNatClampNeg x3) (-1)) → ∀ (x3_7 : Int32), x3_7 = x3 + 1 → rec_ x3_7 U_6) ∧ (¬ (uA U o0 (ki 1 (Int32.toNatClampNeg x2)) (Int32.toNatClampNeg x3)) ≤ 0 → vp_in x2 6 ∧ vp_in x3 6 ∧ vp_in x3 6 ∧ ∀ (U_9 : Um), U_9 = sA U o0 (ki 2 (Int32.toNatClampNeg x2)) (va_up (uA U o0 (ki 2 (Int32.toNatClampNeg x2))) (Int32.toNatClampNeg x3) (uA U o0 (ki 1 (Int32.toNatClampNeg x2)) (Int32.toNatClampNeg x3))) → ∀ (x3_10 : Int32), x3_10 = x3 + 1 → rec_ x3_10 U_9)))
def w_X5_settle_L17 (o0 : Nat) (x2 : Int32) (post : Um → Prop) (k_71 : Um → Prop) (n_ : Nat) : Int32 → Um → Prop := Nat.rec (motive := fun _ => Int32 → Um → Prop) (fun _ _ => False) (fun _ ih => b_X5_settle_L17 o0 x2 post k_71 ih) n_
def b_X5_settle_L7 (o0 : Nat) (post : Um → Prop) (k_77 : Um → Prop) (rec_ : Int32 → Um → Prop) (x2 : Int32) (U : Um) : Prop :=
  ((uI U o0 0) ≤ x2 → k_77 U) ∧ (¬ (uI U o0 0) ≤ x2 → (∃ n_13, w_X5_settle_L17 o0 x2 post (fun U_11 => ∀ (x2_12 : Int32), x2_12 = x2 + 1 → rec_ x2_12 U_11) n_13 0 U))
def w_X5_settle_L7 (o0 : Nat) (post : Um → Prop) (k_77 : Um → Prop) (n_ : Nat) : Int32 → Um → Prop := Nat.rec (motive := fun _ => Int32 → Um → Prop) (fun _ _ => False) (fun _ ih => b_X5_settle_L7 o0 post k_77 ih) n_
def b_X5_settle_L79 (o0 : Nat) (post : Um → Prop) (k_98 : Um → Prop) (rec_ : Int32 → Um → Prop) (x2 : Int32) (U : Um) : Prop :=
  ((uI U o0 0) ≤ x2 → k_98 U) ∧ (¬ (uI U o0 0) ≤ x2 → w_X5_shorten o0 x2 U (fun U_15 => ∀ (x2_17 : Int32), x2_17 = x2 + 1 → rec_ x2_17 U_15))
def w_X5_settle_L79 (o0 : Nat) (post : Um → Prop) (k_98 : Um → Prop) (n_ : Nat) : Int32 → Um → Prop := Nat.rec (motive := fun _ => Int32 → Um → Prop) (fun _ _ => False) (fun _ ih => b_X5_settle_L79 o0 post k_98 ih) n_
def w_X5_settle (o : Nat) (a1 : Int32) (U : Um) (post : Um → Prop) : Prop :=
  ∀ (U_1 : Um), U_1 = sI U o 0 a1 → (∃ n_20, w_X5_settle_L7 o post (fun U_14 => (∃ n_19, w_X5_settle_L79 o post (fun U_18 => post U_18) n_19 0 U_14)) n_20 0 U_1)
set_option maxHeartbeats 4000000 in
theorem tl_X5_settle_L17 {l : Launch} {Y : px_Y} {X : px_X} {h0 hh : pe_H} {sz : Nat} (o0 : Nat) (x2 : Int32) (post : Um → Prop) (k_71 : Um → Prop) (ho0 : oc o0 = 4)  (hC : px_C X Y.1 (pm_A hh sz) cX5_settle RX5 4) (hM : px_M l X Y.1 hh sz yX5_settle cX5_settle 4 none 1 0 0) (hR : X.2.2.2.1 = pm_rm 1 0 0) (hk_71 : ∀ (U : Um) (h : pe_H), k_71 U → rF Y h0 U h → pw X Y.1 (pm_A hh sz) (pm_E X Y.1 hh sz 0 0 (pm_P Y h0 sz (pq_v post))) 71 [some (.ref (Y.2.1 o0)), none, some (.int x2), none] [] h sz 0 0) : ∀ (n_ : Nat) (x3 : Int32) (U : Um) (h : pe_H), rF Y h0 U h → w_X5_settle_L17 o0 x2 post k_71 n_ x3 U → pw X Y.1 (pm_A hh sz) (pm_E X Y.1 hh sz 0 0 (pm_P Y h0 sz (pq_v post))) 17 [some (.ref (Y.2.1 o0)), none, some (.int x2), some (.int x3)] [] h sz 0 0 := by
  intro n_
  induction n_ with
  | zero => intro x3 U h hU H; exact False.elim H
  | succ n_ ih =>
    intro x3 U h hU H
    replace H : b_X5_settle_L17 o0 x2 post k_71 (w_X5_settle_L17 o0 x2 post k_71 n_) x3 U := H
    unfold b_X5_settle_L17 at H
    refine pr_iload_n hC (by decide +kernel : decode cX5_settle 17 = .ok (.iload_n 3, 1)) rfl ?_
    refine pr_aload_n hC (by decide +kernel : decode cX5_settle 18 = .ok (.aload_n 0, 1)) rfl ?_
    refine pu_g0 hC fg_X5_19 (by decide +kernel : decode cX5_settle 19 = .ok (.getfield 19, 3)) hU ho0 (by decide) rfl rfl ?_
    refine pr_icmp_ge hC 71 (by decide +kernel : decode cX5_settle 22 = .ok (.if_icmp .ge 49, 3)) (by decide) (fun c_22 => ?_) (fun c_22 => ?_)
    · replace H := H.1 c_22
      exact pv_sub [some (.ref (Y.2.1 o0)), none, some (.int x2), none] (And.intro rfl (And.intro rfl trivial)) (hk_71 U h H hU)
    replace H := H.2 c_22
    refine pr_aload_n hC (by decide +kernel : decode cX5_settle 25 = .ok (.aload_n 0, 1)) rfl ?_
    refine pu_g1 hC fg_X5_16 (by decide +kernel : decode cX5_settle 26 = .ok (.getfield 16, 3)) hU ho0 (by decide) rfl (by decide) ?_
    refine pr_iload_n hC (by decide +kernel : decode cX5_settle 29 = .ok (.iload_n 2, 1)) rfl ?_
    have q_2 := H.1
    replace H := H.2
    refine pu_aald6 hC (by decide +kernel : decode cX5_settle 30 = .ok (.aaload, 1)) hU ho0 rfl q_2 ?_
    refine pr_iload_n hC (by decide +kernel : decode cX5_settle 31 = .ok (.iload_n 3, 1)) rfl ?_
    refine pr_iload_n hC (by decide +kernel : decode cX5_settle 32 = .ok (.iload_n 2, 1)) rfl ?_
    refine pr_iload_n hC (by decide +kernel : decode cX5_settle 33 = .ok (.iload_n 3, 1)) rfl ?_
    refine pr_icmp_ne hC 41 (by decide +kernel : decode cX5_settle 34 = .ok (.if_icmp .ne 7, 3)) (by decide) (fun c_34 => ?_) (fun c_34 => ?_)
    · replace H := H.2 c_34
      refine pr_aload_n hC (by decide +kernel : decode cX5_settle 41 = .ok (.aload_n 0, 1)) rfl ?_
      refine pu_g1 hC fg_X5_13 (by decide +kernel : decode cX5_settle 42 = .ok (.getfield 13, 3)) hU ho0 (by decide) rfl (by decide) ?_
      refine pr_iload_n hC (by decide +kernel : decode cX5_settle 45 = .ok (.iload_n 2, 1)) rfl ?_
      have q_5 := H.1
      replace H := H.2
      refine pu_aald6 hC (by decide +kernel : decode cX5_settle 46 = .ok (.aaload, 1)) hU ho0 rfl q_5 ?_
      refine pr_iload_n hC (by decide +kernel : decode cX5_settle 47 = .ok (.iload_n 3, 1)) rfl ?_
      refine pu_iald7 hC (by decide +kernel : decode cX5_settle 48 = .ok (.iaload, 1)) hU ho0 rfl (vp_lt q_5) H.1 ?_
      replace H := H.2
      refine pr_if_le hC 63 (by decide +kernel : decode cX5_settle 49 = .ok (.ifCond .le 14, 3)) (by decide) (fun c_49 => ?_) (fun c_49 => ?_)
      · replace H := H.1 c_49
        refine pr_iconst hC (-1) (by decide +kernel : decode cX5_settle 63 = .ok (.iconst (-1), 1)) rfl ?_
        refine pv_iast7 hC (by decide +kernel : decode cX5_settle 64 = .ok (.iastore, 1)) hU ho0 rfl (vp_lt q_2) H.1 (fun U_6 h e_U_6 hU => ?_)
        replace H := H.2 U_6 e_U_6
        refine pv_iinc hC (v := x3 + 1) (by decide +kernel : decode cX5_settle 65 = .ok (.iinc 3 1, 3)) rfl (by decide) rfl rfl (fun x3_7 e_x3_7 => ?_)
        replace H := H x3_7 e_x3_7
        refine pr_goto hC 17 (by decide +kernel : decode cX5_settle 68 = .ok (.goto (-51), 3)) (by decide) ?_
        exact pv_sub [some (.ref (Y.2.1 o0)), none, some (.int x2), some (.int x3_7)] (And.intro rfl (And.intro rfl (And.intro rfl trivial))) (ih _ U_6 h hU H)
      replace H := H.2 c_49
      refine pr_aload_n hC (by decide +kernel : decode cX5_settle 52 = .ok (.aload_n 0, 1)) rfl ?_
      refine pu_g1 hC fg_X5_13 (by decide +kernel : decode cX5_settle 53 = .ok (.getfield 13, 3)) hU ho0 (by decide) rfl (by decide) ?_
      refine pr_iload_n hC (by decide +kernel : decode cX5_settle 56 = .ok (.iload_n 2, 1)) rfl ?_
      have q_8 := H.1
      replace H := H.2
      refine pu_aald6 hC (by decide +kernel : decode cX5_settle 57 = .ok (.aaload, 1)) hU ho0 rfl q_8 ?_
      refine pr_iload_n hC (by decide +kernel : decode cX5_settle 58 = .ok (.iload_n 3, 1)) rfl ?_
      refine pu_iald7 hC (by decide +kernel : decode cX5_settle 59 = .ok (.iaload, 1)) hU ho0 rfl (vp_lt q_8) H.1 ?_
      replace H := H.2
      refine pr_goto hC 64 (by decide +kernel : decode cX5_settle 60 = .ok (.goto 4, 3)) (by decide) ?_
      refine pv_iast7 hC (by decide +kernel : decode cX5_settle 64 = .ok (.iastore, 1)) hU ho0 rfl (vp_lt q_2) H.1 (fun U_9 h e_U_9 hU => ?_)
      replace H := H.2 U_9 e_U_9
      refine pv_iinc hC (v := x3 + 1) (by decide +kernel : decode cX5_settle 65 = .ok (.iinc 3 1, 3)) rfl (by decide) rfl rfl (fun x3_10 e_x3_10 => ?_)
      replace H := H x3_10 e_x3_10
      refine pr_goto hC 17 (by decide +kernel : decode cX5_settle 68 = .ok (.goto (-51), 3)) (by decide) ?_
      exact pv_sub [some (.ref (Y.2.1 o0)), none, some (.int x2), some (.int x3_10)] (And.intro rfl (And.intro rfl (And.intro rfl trivial))) (ih _ U_9 h hU H)
    replace H := H.1 c_34
    refine pr_iconst hC (0) (by decide +kernel : decode cX5_settle 37 = .ok (.iconst 0, 1)) rfl ?_
    refine pr_goto hC 64 (by decide +kernel : decode cX5_settle 38 = .ok (.goto 26, 3)) (by decide) ?_
    refine pv_iast7 hC (by decide +kernel : decode cX5_settle 64 = .ok (.iastore, 1)) hU ho0 rfl (vp_lt q_2) H.1 (fun U_3 h e_U_3 hU => ?_)
    replace H := H.2 U_3 e_U_3
    refine pv_iinc hC (v := x3 + 1) (by decide +kernel : decode cX5_settle 65 = .ok (.iinc 3 1, 3)) rfl (by decide) rfl rfl (fun x3_4 e_x3_4 => ?_)
    replace H := H x3_4 e_x3_4
    refine pr_goto hC 17 (by decide +kernel : decode cX5_settle 68 = .ok (.goto (-51), 3)) (by decide) ?_
    exact pv_sub [some (.ref (Y.2.1 o0)), none, some (.int x2), some (.int x3_4)] (And.intro rfl (And.intro rfl (And.intro rfl trivial))) (ih _ U_3 h hU H)
set_option maxHeartbeats 4000000 in
theorem tl_X5_settle_L7 {l : Launch} {Y : px_Y} {X : px_X} {h0 hh : pe_H} {sz : Nat} (o0 : Nat) (post : Um → Prop) (k_77 : Um → Prop) (ho0 : oc o0 = 4)  (hC : px_C X Y.1 (pm_A hh sz) cX5_settle RX5 4) (hM : px_M l X Y.1 hh sz yX5_settle cX5_settle 4 none 1 0 0) (hR : X.2.2.2.1 = pm_rm 1 0 0) (hk_77 : ∀ (U : Um) (h : pe_H), k_77 U → rF Y h0 U h → pw X Y.1 (pm_A hh sz) (pm_E X Y.1 hh sz 0 0 (pm_P Y h0 sz (pq_v post))) 77 [some (.ref (Y.2.1 o0)), none, none, none] [] h sz 0 0) : ∀ (n_ : Nat) (x2 : Int32) (U : Um) (h : pe_H), rF Y h0 U h → w_X5_settle_L7 o0 post k_77 n_ x2 U → pw X Y.1 (pm_A hh sz) (pm_E X Y.1 hh sz 0 0 (pm_P Y h0 sz (pq_v post))) 7 [some (.ref (Y.2.1 o0)), none, some (.int x2), none] [] h sz 0 0 := by
  intro n_
  induction n_ with
  | zero => intro x2 U h hU H; exact False.elim H
  | succ n_ ih =>
    intro x2 U h hU H
    replace H : b_X5_settle_L7 o0 post k_77 (w_X5_settle_L7 o0 post k_77 n_) x2 U := H
    unfold b_X5_settle_L7 at H
    refine pr_iload_n hC (by decide +kernel : decode cX5_settle 7 = .ok (.iload_n 2, 1)) rfl ?_
    refine pr_aload_n hC (by decide +kernel : decode cX5_settle 8 = .ok (.aload_n 0, 1)) rfl ?_
    refine pu_g0 hC fg_X5_19 (by decide +kernel : decode cX5_settle 9 = .ok (.getfield 19, 3)) hU ho0 (by decide) rfl rfl ?_
    refine pr_icmp_ge hC 77 (by decide +kernel : decode cX5_settle 12 = .ok (.if_icmp .ge 65, 3)) (by decide) (fun c_12 => ?_) (fun c_12 => ?_)
    · replace H := H.1 c_12
      exact pv_sub [some (.ref (Y.2.1 o0)), none, none, none] (And.intro rfl trivial) (hk_77 U h H hU)
    replace H := H.2 c_12
    refine pr_iconst hC (0) (by decide +kernel : decode cX5_settle 15 = .ok (.iconst 0, 1)) rfl ?_
    refine pr_istore_n hC (by decide +kernel : decode cX5_settle 16 = .ok (.istore_n 3, 1)) (by decide) rfl ?_
    obtain ⟨n_13, H⟩ := H
    refine pv_sub [some (.ref (Y.2.1 o0)), none, some (.int x2), some (.int 0)] (And.intro rfl (And.intro rfl (And.intro rfl trivial))) ?_
    refine tl_X5_settle_L17 _ _ _ _ ho0 hC hM hR (fun U_11 h H hU => ?_) n_13 _ U h hU H
    refine pv_iinc hC (v := x2 + 1) (by decide +kernel : decode cX5_settle 71 = .ok (.iinc 2 1, 3)) rfl (by decide) rfl rfl (fun x2_12 e_x2_12 => ?_)
    replace H := H x2_12 e_x2_12
    refine pr_goto hC 7 (by decide +kernel : decode cX5_settle 74 = .ok (.goto (-67), 3)) (by decide) ?_
    exact pv_sub [some (.ref (Y.2.1 o0)), none, some (.int x2_12), none] (And.intro rfl (And.intro rfl trivial)) (ih _ U_11 h hU H)
set_option maxHeartbeats 4000000 in
theorem tl_X5_settle_L79 {l : Launch} {Y : px_Y} {X : px_X} {h0 hh : pe_H} {sz : Nat} (o0 : Nat) (post : Um → Prop) (k_98 : Um → Prop) (ho0 : oc o0 = 4)  (hC : px_C X Y.1 (pm_A hh sz) cX5_settle RX5 4) (hM : px_M l X Y.1 hh sz yX5_settle cX5_settle 4 none 1 0 0) (hR : X.2.2.2.1 = pm_rm 1 0 0) (hk_98 : ∀ (U : Um) (h : pe_H), k_98 U → rF Y h0 U h → pw X Y.1 (pm_A hh sz) (pm_E X Y.1 hh sz 0 0 (pm_P Y h0 sz (pq_v post))) 98 [none, none, none, none] [] h sz 0 0) : ∀ (n_ : Nat) (x2 : Int32) (U : Um) (h : pe_H), rF Y h0 U h → w_X5_settle_L79 o0 post k_98 n_ x2 U → pw X Y.1 (pm_A hh sz) (pm_E X Y.1 hh sz 0 0 (pm_P Y h0 sz (pq_v post))) 79 [some (.ref (Y.2.1 o0)), none, some (.int x2), none] [] h sz 0 0 := by
  intro n_
  induction n_ with
  | zero => intro x2 U h hU H; exact False.elim H
  | succ n_ ih =>
    intro x2 U h hU H
    replace H : b_X5_settle_L79 o0 post k_98 (w_X5_settle_L79 o0 post k_98 n_) x2 U := H
    unfold b_X5_settle_L79 at H
    refine pr_iload_n hC (by decide +kernel : decode cX5_settle 79 = .ok (.iload_n 2, 1)) rfl ?_
    refine pr_aload_n hC (by decide +kernel : decode cX5_settle 80 = .ok (.aload_n 0, 1)) rfl ?_
    refine pu_g0 hC fg_X5_19 (by decide +kernel : decode cX5_settle 81 = .ok (.getfield 19, 3)) hU ho0 (by decide) rfl rfl ?_
    refine pr_icmp_ge hC 98 (by decide +kernel : decode cX5_settle 84 = .ok (.if_icmp .ge 14, 3)) (by decide) (fun c_84 => ?_) (fun c_84 => ?_)
    · replace H := H.1 c_84
      exact pv_sub [none, none, none, none] (trivial) (hk_98 U h H hU)
    replace H := H.2 c_84
    refine pr_aload_n hC (by decide +kernel : decode cX5_settle 87 = .ok (.aload_n 0, 1)) rfl ?_
    refine pr_iload_n hC (by decide +kernel : decode cX5_settle 88 = .ok (.iload_n 2, 1)) rfl ?_
    refine vc_Vv hC hR [.int x2] fv_X5_23 (by decide +kernel : decode cX5_settle 89 = .ok (.invokevirtual 23, 3)) hU (t_X5_shorten ho0 H) ho0 (by decide) rfl rfl rfl (Nat.le_of_ble_eq_true rfl) (Nat.le_of_ble_eq_true rfl) (Nat.le_refl 0) (Nat.le_refl 0) (fun U_15 h H hU => ?_)
    refine pv_iinc hC (v := x2 + 1) (by decide +kernel : decode cX5_settle 92 = .ok (.iinc 2 1, 3)) rfl (by decide) rfl rfl (fun x2_17 e_x2_17 => ?_)
    replace H := H x2_17 e_x2_17
    refine pr_goto hC 79 (by decide +kernel : decode cX5_settle 95 = .ok (.goto (-16), 3)) (by decide) ?_
    exact pv_sub [some (.ref (Y.2.1 o0)), none, some (.int x2_17), none] (And.intro rfl (And.intro rfl trivial)) (ih _ U_15 h hU H)
set_option maxHeartbeats 4000000 in
theorem t_X5_settle {l : Launch} {Y : px_Y} {o : Nat} {a1 : Int32} {U : Um} {post : Um → Prop} (ho : oc o = 4) (H : w_X5_settle o a1 U post) : um l Y 1 yX5_settle cX5_settle 4 none [.ref (Y.2.1 o), .int a1] U (pq_v post) := by
  unfold w_X5_settle at H
  refine um_of (by decide) (Nat.le_of_ble_eq_true rfl) [some (.ref (Y.2.1 o)), some (.int a1), none, none] rfl (fun X h0 hh sz hM hU => ?_)
  have hC := hM.1
  have hR := hM.2.2.1
  refine pr_aload_n hC (by decide +kernel : decode cX5_settle 0 = .ok (.aload_n 0, 1)) rfl ?_
  refine pr_iload_n hC (by decide +kernel : decode cX5_settle 1 = .ok (.iload_n 1, 1)) rfl ?_
  refine pv_p0 hC fp_X5_19 (by decide +kernel : decode cX5_settle 2 = .ok (.putfield 19, 3)) hU ho (by decide) rfl rfl rfl rfl (fun U_1 h e_U_1 hU => ?_)
  replace H := H U_1 e_U_1
  refine pr_iconst hC (0) (by decide +kernel : decode cX5_settle 5 = .ok (.iconst 0, 1)) rfl ?_
  refine pr_istore_n hC (by decide +kernel : decode cX5_settle 6 = .ok (.istore_n 2, 1)) (by decide) rfl ?_
  obtain ⟨n_20, H⟩ := H
  refine pv_sub [some (.ref (Y.2.1 o)), none, some (.int 0), none] (And.intro rfl (And.intro rfl trivial)) ?_
  refine tl_X5_settle_L7 _ _ _ ho hC hM hR (fun U_14 h H hU => ?_) n_20 _ U_1 h hU H
  refine pr_iconst hC (0) (by decide +kernel : decode cX5_settle 77 = .ok (.iconst 0, 1)) rfl ?_
  refine pr_istore_n hC (by decide +kernel : decode cX5_settle 78 = .ok (.istore_n 2, 1)) (by decide) rfl ?_
  obtain ⟨n_19, H⟩ := H
  refine pv_sub [some (.ref (Y.2.1 o)), none, some (.int 0), none] (And.intro rfl (And.intro rfl trivial)) ?_
  refine tl_X5_settle_L79 _ _ _ ho hC hM hR (fun U_18 h H hU => ?_) n_19 _ U_14 h hU H
  exact pv_vret hM (by decide +kernel : decode cX5_settle 98 = .ok (.return_, 1)) hU H
def b_X9_compareWithOthers_L19 (o0 : Nat) (x1 : Int32) (o2 : Nat) (post : Um → Prop) (k_108 : Um → Prop) (rec_ : Int32 → Um → Prop) (x3 : Int32) (U : Um) : Prop :=
  ((uI U o0 7) ≤ x3 → k_108 U) ∧ (¬ (uI U o0 7) ≤ x3 → (x3 = x1 → ∀ (x3_5 : Int32), x3_5 = x3 + 1 → rec_ x3_5 U) ∧ (¬ x3 = x1 → vp_in x3 16 ∧ oc (uAR U o0 6 (Int32.toNatClampNeg x3)) = 1 ∧ ((uI U (uAR U o0 6 (Int32.toNatClampNeg x3)) 3) = (uI U o2 3) → oc (uR U o0 10) = 4 ∧ vp_in (uI U o2 2) 6 ∧ vp_in x3 16 ∧ oc (uAR U o0 6 (Int32.toNatClampNeg x3)) = 1 ∧ vp_in (uI U (uAR U o0 6 (Int32.toNatClampNeg x3)) 2) 6 ∧ ∀ (x4_12 : Int32), x4_12 = uA U (uR U o0 10) (ki 2 (Int32.toNatClampNeg (uI U o2 2))) (Int32.toNatClampNeg (uI U (uAR U o0 6 (Int32.toNatClampNeg x3)) 2)) → vp_in x3 16 ∧ oc (uAR U o0 6 (Int32.toNatClampNeg x3)) = 1 ∧ ∀ (xs_15 : Int32), xs_15 = (if x4_12 = (-1) then (-1) else x4_12 + (uI U o0 8)) → w_X2_compare o2 (uAR U o0 6 (Int32.toNatClampNeg x3)) (1 <<< (x3 &&& 31)) xs_15 U (fun U_16 => ∀ (x3_18 : Int32), x3_18 = x3 + 1 → rec_ x3_18 U_16)) ∧ (¬ (uI U (uAR U o0 6 (Int32.toNatClampNeg x3)) 3) = (uI U o2 3) → ∀ (x3_20 : Int32), x3_20 = x3 + 1 → rec_ x3_20 U)))
def w_X9_compareWithOthers_L19 (o0 : Nat) (x1 : Int32) (o2 : Nat) (post : Um → Prop) (k_108 : Um → Prop) (n_ : Nat) : Int32 → Um → Prop := Nat.rec (motive := fun _ => Int32 → Um → Prop) (fun _ _ => False) (fun _ ih => b_X9_compareWithOthers_L19 o0 x1 o2 post k_108 ih) n_
def w_X9_compareWithOthers (o : Nat) (a1 : Int32) (U : Um) (post : Um → Prop) : Prop :=
  vp_in a1 16 ∧ oc (uAR U o 6 (Int32.toNatClampNeg a1)) = 1 ∧ ∀ (U_3 : Um), U_3 = sI U (uAR U o 6 (Int32.toNatClampNeg a1)) 8 0 → ∀ (U_4 : Um), U_4 = sI U_3 (uAR U o 6 (Int32.toNatClampNeg a1)) 9 0 → (∃ n_22, w_X9_compareWithOthers_L19 o a1 (uAR U o 6 (Int32.toNatClampNeg a1)) post (fun U_21 => post U_21) n_22 0 U_4)
set_option maxHeartbeats 4000000 in
theorem tl_X9_compareWithOthers_L19 {l : Launch} {Y : px_Y} {X : px_X} {h0 hh : pe_H} {sz : Nat} (o0 : Nat) (x1 : Int32) (o2 : Nat) (post : Um → Prop) (k_108 : Um → Prop) (ho0 : oc o0 = 8) (ho2 : oc o2 = 1)  (hC : px_C X Y.1 (pm_A hh sz) cX9_compareWithOthers RX9 5) (hM : px_M l X Y.1 hh sz yX9_compareWithOthers cX9_compareWithOthers 5 none 2 0 0) (hR : X.2.2.2.1 = pm_rm 2 0 0) (hk_108 : ∀ (U : Um) (h : pe_H), k_108 U → rF Y h0 U h → pw X Y.1 (pm_A hh sz) (pm_E X Y.1 hh sz 0 0 (pm_P Y h0 sz (pq_v post))) 108 [none, none, none, none, none] [] h sz 0 0) : ∀ (n_ : Nat) (x3 : Int32) (U : Um) (h : pe_H), rF Y h0 U h → w_X9_compareWithOthers_L19 o0 x1 o2 post k_108 n_ x3 U → pw X Y.1 (pm_A hh sz) (pm_E X Y.1 hh sz 0 0 (pm_P Y h0 sz (pq_v post))) 19 [some (.ref (Y.2.1 o0)), some (.int x1), some (.ref (Y.2.1 o2)), some (.int x3), none] [] h sz 0 0 := by
  intro n_
  induction n_ with
  | zero => intro x3 U h hU H; exact False.elim H
  | succ n_ ih =>
    intro x3 U h hU H
    replace H : b_X9_compareWithOthers_L19 o0 x1 o2 post k_108 (w_X9_compareWithOthers_L19 o0 x1 o2 post k_108 n_) x3 U := H
    unfold b_X9_compareWithOthers_L19 at H
    refine pr_iload_n hC (by decide +kernel : decode cX9_compareWithOthers 19 = .ok (.iload_n 3, 1)) rfl ?_
    refine pr_aload_n hC (by decide +kernel : decode cX9_compareWithOthers 20 = .ok (.aload_n 0, 1)) rfl ?_
    refine pu_g0 hC fg_X9_69 (by decide +kernel : decode cX9_compareWithOthers 21 = .ok (.getfield 69, 3)) hU ho0 (by decide) rfl rfl ?_
    refine pr_icmp_ge hC 108 (by decide +kernel : decode cX9_compareWithOthers 24 = .ok (.if_icmp .ge 84, 3)) (by decide) (fun c_24 => ?_) (fun c_24 => ?_)
    · replace H := H.1 c_24
      exact pv_sub [none, none, none, none, none] (trivial) (hk_108 U h H hU)
    replace H := H.2 c_24
    refine pr_iload_n hC (by decide +kernel : decode cX9_compareWithOthers 27 = .ok (.iload_n 3, 1)) rfl ?_
    refine pr_iload_n hC (by decide +kernel : decode cX9_compareWithOthers 28 = .ok (.iload_n 1, 1)) rfl ?_
    refine pr_icmp_eq hC 102 (by decide +kernel : decode cX9_compareWithOthers 29 = .ok (.if_icmp .eq 73, 3)) (by decide) (fun c_29 => ?_) (fun c_29 => ?_)
    · replace H := H.1 c_29
      refine pv_iinc hC (v := x3 + 1) (by decide +kernel : decode cX9_compareWithOthers 102 = .ok (.iinc 3 1, 3)) rfl (by decide) rfl rfl (fun x3_5 e_x3_5 => ?_)
      replace H := H x3_5 e_x3_5
      refine pr_goto hC 19 (by decide +kernel : decode cX9_compareWithOthers 105 = .ok (.goto (-86), 3)) (by decide) ?_
      exact pv_sub [some (.ref (Y.2.1 o0)), some (.int x1), some (.ref (Y.2.1 o2)), some (.int x3_5), none] (And.intro rfl (And.intro rfl (And.intro rfl (And.intro rfl trivial)))) (ih _ U h hU H)
    replace H := H.2 c_29
    refine pr_aload_n hC (by decide +kernel : decode cX9_compareWithOthers 32 = .ok (.aload_n 0, 1)) rfl ?_
    refine pu_g1 hC fg_X9_34 (by decide +kernel : decode cX9_compareWithOthers 33 = .ok (.getfield 34, 3)) hU ho0 (by decide) rfl (by decide) ?_
    refine pr_iload_n hC (by decide +kernel : decode cX9_compareWithOthers 36 = .ok (.iload_n 3, 1)) rfl ?_
    have q_6 := H.1
    replace H := H.2
    refine pu_aald8 hC (by decide +kernel : decode cX9_compareWithOthers 37 = .ok (.aaload, 1)) hU ho0 rfl q_6 ?_
    have q_7 := H.1
    replace H := H.2
    refine pu_g0 hC fg_X9_100 (by decide +kernel : decode cX9_compareWithOthers 38 = .ok (.getfield 100, 3)) hU q_7 (by decide) rfl rfl ?_
    refine pr_aload_n hC (by decide +kernel : decode cX9_compareWithOthers 41 = .ok (.aload_n 2, 1)) rfl ?_
    refine pu_g0 hC fg_X9_100 (by decide +kernel : decode cX9_compareWithOthers 42 = .ok (.getfield 100, 3)) hU ho2 (by decide) rfl rfl ?_
    refine pr_icmp_ne hC 102 (by decide +kernel : decode cX9_compareWithOthers 45 = .ok (.if_icmp .ne 57, 3)) (by decide) (fun c_45 => ?_) (fun c_45 => ?_)
    · replace H := H.2 c_45
      refine pv_iinc hC (v := x3 + 1) (by decide +kernel : decode cX9_compareWithOthers 102 = .ok (.iinc 3 1, 3)) rfl (by decide) rfl rfl (fun x3_20 e_x3_20 => ?_)
      replace H := H x3_20 e_x3_20
      refine pr_goto hC 19 (by decide +kernel : decode cX9_compareWithOthers 105 = .ok (.goto (-86), 3)) (by decide) ?_
      exact pv_sub [some (.ref (Y.2.1 o0)), some (.int x1), some (.ref (Y.2.1 o2)), some (.int x3_20), none] (And.intro rfl (And.intro rfl (And.intro rfl (And.intro rfl trivial)))) (ih _ U h hU H)
    replace H := H.1 c_45
    refine pr_aload_n hC (by decide +kernel : decode cX9_compareWithOthers 48 = .ok (.aload_n 0, 1)) rfl ?_
    refine pu_g21 hC fg_X9_42 (by decide +kernel : decode cX9_compareWithOthers 49 = .ok (.getfield 42, 3)) hU ho0 (by decide) rfl rfl ?_
    have q_8 := H.1
    replace H := H.2
    refine pu_g1 hC fg_X9_118 (by decide +kernel : decode cX9_compareWithOthers 52 = .ok (.getfield 118, 3)) hU q_8 (by decide) rfl (by decide) ?_
    refine pr_aload_n hC (by decide +kernel : decode cX9_compareWithOthers 55 = .ok (.aload_n 2, 1)) rfl ?_
    refine pu_g0 hC fg_X9_103 (by decide +kernel : decode cX9_compareWithOthers 56 = .ok (.getfield 103, 3)) hU ho2 (by decide) rfl rfl ?_
    have q_9 := H.1
    replace H := H.2
    refine pu_aald6 hC (by decide +kernel : decode cX9_compareWithOthers 59 = .ok (.aaload, 1)) hU q_8 rfl q_9 ?_
    refine pr_aload_n hC (by decide +kernel : decode cX9_compareWithOthers 60 = .ok (.aload_n 0, 1)) rfl ?_
    refine pu_g1 hC fg_X9_34 (by decide +kernel : decode cX9_compareWithOthers 61 = .ok (.getfield 34, 3)) hU ho0 (by decide) rfl (by decide) ?_
    refine pr_iload_n hC (by decide +kernel : decode cX9_compareWithOthers 64 = .ok (.iload_n 3, 1)) rfl ?_
    have q_10 := H.1
    replace H := H.2
    refine pu_aald8 hC (by decide +kernel : decode cX9_compareWithOthers 65 = .ok (.aaload, 1)) hU ho0 rfl q_10 ?_
    have q_11 := H.1
    replace H := H.2
    refine pu_g0 hC fg_X9_103 (by decide +kernel : decode cX9_compareWithOthers 66 = .ok (.getfield 103, 3)) hU q_11 (by decide) rfl rfl ?_
    refine pu_iald7 hC (by decide +kernel : decode cX9_compareWithOthers 69 = .ok (.iaload, 1)) hU q_8 rfl (vp_lt q_9) H.1 ?_
    replace H := H.2
    refine pv_topi (fun x4_12 e_x4_12 => ?_)
    replace H := H x4_12 e_x4_12
    refine pr_istore hC (by decide +kernel : decode cX9_compareWithOthers 70 = .ok (.istore 4, 2)) (by decide) rfl ?_
    refine pr_aload_n hC (by decide +kernel : decode cX9_compareWithOthers 72 = .ok (.aload_n 2, 1)) rfl ?_
    refine pr_aload_n hC (by decide +kernel : decode cX9_compareWithOthers 73 = .ok (.aload_n 0, 1)) rfl ?_
    refine pu_g1 hC fg_X9_34 (by decide +kernel : decode cX9_compareWithOthers 74 = .ok (.getfield 34, 3)) hU ho0 (by decide) rfl (by decide) ?_
    refine pr_iload_n hC (by decide +kernel : decode cX9_compareWithOthers 77 = .ok (.iload_n 3, 1)) rfl ?_
    have q_13 := H.1
    replace H := H.2
    refine pu_aald8 hC (by decide +kernel : decode cX9_compareWithOthers 78 = .ok (.aaload, 1)) hU ho0 rfl q_13 ?_
    have q_14 := H.1
    replace H := H.2
    refine pr_iconst hC (1) (by decide +kernel : decode cX9_compareWithOthers 79 = .ok (.iconst 1, 1)) rfl ?_
    refine pr_iload_n hC (by decide +kernel : decode cX9_compareWithOthers 80 = .ok (.iload_n 3, 1)) rfl ?_
    refine pr_ishl hC (by decide +kernel : decode cX9_compareWithOthers 81 = .ok (.ishl, 1)) ?_
    refine pr_iload hC (by decide +kernel : decode cX9_compareWithOthers 82 = .ok (.iload 4, 2)) rfl ?_
    refine pr_iconst hC (-1) (by decide +kernel : decode cX9_compareWithOthers 84 = .ok (.iconst (-1), 1)) rfl ?_
    have HJ_19 : ∀ (xs_15 : Int32), xs_15 = (if x4_12 = (-1) then (-1) else x4_12 + (uI U o0 8)) → pw X Y.1 (pm_A hh sz) (pm_E X Y.1 hh sz 0 0 (pm_P Y h0 sz (pq_v post))) 99 [some (.ref (Y.2.1 o0)), some (.int x1), some (.ref (Y.2.1 o2)), some (.int x3), none] [.int xs_15, .int (1 <<< (x3 &&& 31)), .ref (Y.2.1 (uAR U o0 6 (Int32.toNatClampNeg x3))), .ref (Y.2.1 o2)] h sz 0 0 := by
      intro xs_15 e_xs_15
      replace H := H xs_15 e_xs_15
      refine vc_Vv hC hR [.ref (Y.2.1 (uAR U o0 6 (Int32.toNatClampNeg x3))), .int (1 <<< (x3 &&& 31)), .int xs_15] fv_X9_121 (by decide +kernel : decode cX9_compareWithOthers 99 = .ok (.invokevirtual 121, 3)) hU (t_X2_compare ho2 q_14 H) ho2 (by decide) rfl rfl rfl (Nat.le_of_ble_eq_true rfl) (Nat.le_of_ble_eq_true rfl) (Nat.le_refl 0) (Nat.le_refl 0) (fun U_16 h H hU => ?_)
      refine pv_iinc hC (v := x3 + 1) (by decide +kernel : decode cX9_compareWithOthers 102 = .ok (.iinc 3 1, 3)) rfl (by decide) rfl rfl (fun x3_18 e_x3_18 => ?_)
      replace H := H x3_18 e_x3_18
      refine pr_goto hC 19 (by decide +kernel : decode cX9_compareWithOthers 105 = .ok (.goto (-86), 3)) (by decide) ?_
      exact pv_sub [some (.ref (Y.2.1 o0)), some (.int x1), some (.ref (Y.2.1 o2)), some (.int x3_18), none] (And.intro rfl (And.intro rfl (And.intro rfl (And.intro rfl trivial)))) (ih _ U_16 h hU H)
    replace H := trivial
    refine pr_icmp_ne hC 92 (by decide +kernel : decode cX9_compareWithOthers 85 = .ok (.if_icmp .ne 7, 3)) (by decide) (fun c_85 => ?_) (fun c_85 => ?_)
    · skip
      refine pr_iload hC (by decide +kernel : decode cX9_compareWithOthers 92 = .ok (.iload 4, 2)) rfl ?_
      refine pr_aload_n hC (by decide +kernel : decode cX9_compareWithOthers 94 = .ok (.aload_n 0, 1)) rfl ?_
      refine pu_g0 hC fg_X9_62 (by decide +kernel : decode cX9_compareWithOthers 95 = .ok (.getfield 62, 3)) hU ho0 (by decide) rfl rfl ?_
      refine pr_iadd hC (by decide +kernel : decode cX9_compareWithOthers 98 = .ok (.iadd, 1)) ?_
      exact pv_sub [some (.ref (Y.2.1 o0)), some (.int x1), some (.ref (Y.2.1 o2)), some (.int x3), none] (And.intro rfl (And.intro rfl (And.intro rfl (And.intro rfl trivial)))) (HJ_19 _ (if_neg c_85).symm)
    skip
    refine pr_iconst hC (-1) (by decide +kernel : decode cX9_compareWithOthers 88 = .ok (.iconst (-1), 1)) rfl ?_
    refine pr_goto hC 99 (by decide +kernel : decode cX9_compareWithOthers 89 = .ok (.goto 10, 3)) (by decide) ?_
    exact pv_sub [some (.ref (Y.2.1 o0)), some (.int x1), some (.ref (Y.2.1 o2)), some (.int x3), none] (And.intro rfl (And.intro rfl (And.intro rfl (And.intro rfl trivial)))) (HJ_19 _ (if_pos c_85).symm)
set_option maxHeartbeats 4000000 in
theorem t_X9_compareWithOthers {l : Launch} {Y : px_Y} {o : Nat} {a1 : Int32} {U : Um} {post : Um → Prop} (ho : oc o = 8) (H : w_X9_compareWithOthers o a1 U post) : um l Y 2 yX9_compareWithOthers cX9_compareWithOthers 5 none [.ref (Y.2.1 o), .int a1] U (pq_v post) := by
  unfold w_X9_compareWithOthers at H
  refine um_of (by decide) (Nat.le_of_ble_eq_true rfl) [some (.ref (Y.2.1 o)), some (.int a1), none, none, none] rfl (fun X h0 hh sz hM hU => ?_)
  have hC := hM.1
  have hR := hM.2.2.1
  refine pr_aload_n hC (by decide +kernel : decode cX9_compareWithOthers 0 = .ok (.aload_n 0, 1)) rfl ?_
  refine pu_g1 hC fg_X9_34 (by decide +kernel : decode cX9_compareWithOthers 1 = .ok (.getfield 34, 3)) hU ho (by decide) rfl (by decide) ?_
  refine pr_iload_n hC (by decide +kernel : decode cX9_compareWithOthers 4 = .ok (.iload_n 1, 1)) rfl ?_
  have q_1 := H.1
  replace H := H.2
  refine pu_aald8 hC (by decide +kernel : decode cX9_compareWithOthers 5 = .ok (.aaload, 1)) hU ho rfl q_1 ?_
  have q_2 := H.1
  replace H := H.2
  refine pr_astore_n hC (by decide +kernel : decode cX9_compareWithOthers 6 = .ok (.astore_n 2, 1)) (by decide) rfl ?_
  refine pr_aload_n hC (by decide +kernel : decode cX9_compareWithOthers 7 = .ok (.aload_n 2, 1)) rfl ?_
  refine pr_iconst hC (0) (by decide +kernel : decode cX9_compareWithOthers 8 = .ok (.iconst 0, 1)) rfl ?_
  refine pv_p0 hC fp_X9_112 (by decide +kernel : decode cX9_compareWithOthers 9 = .ok (.putfield 112, 3)) hU q_2 (by decide) rfl rfl rfl rfl (fun U_3 h e_U_3 hU => ?_)
  replace H := H U_3 e_U_3
  refine pr_aload_n hC (by decide +kernel : decode cX9_compareWithOthers 12 = .ok (.aload_n 2, 1)) rfl ?_
  refine pr_iconst hC (0) (by decide +kernel : decode cX9_compareWithOthers 13 = .ok (.iconst 0, 1)) rfl ?_
  refine pv_p0 hC fp_X9_115 (by decide +kernel : decode cX9_compareWithOthers 14 = .ok (.putfield 115, 3)) hU q_2 (by decide) rfl rfl rfl rfl (fun U_4 h e_U_4 hU => ?_)
  replace H := H U_4 e_U_4
  refine pr_iconst hC (0) (by decide +kernel : decode cX9_compareWithOthers 17 = .ok (.iconst 0, 1)) rfl ?_
  refine pr_istore_n hC (by decide +kernel : decode cX9_compareWithOthers 18 = .ok (.istore_n 3, 1)) (by decide) rfl ?_
  obtain ⟨n_22, H⟩ := H
  refine pv_sub [some (.ref (Y.2.1 o)), some (.int a1), some (.ref (Y.2.1 (uAR U o 6 (Int32.toNatClampNeg a1)))), some (.int 0), none] (And.intro rfl (And.intro rfl (And.intro rfl (And.intro rfl trivial)))) ?_
  refine tl_X9_compareWithOthers_L19 _ _ _ _ _ ho q_2 hC hM hR (fun U_21 h H hU => ?_) n_22 _ U_4 h hU H
  exact pv_vret hM (by decide +kernel : decode cX9_compareWithOthers 108 = .ok (.return_, 1)) hU H
def b_X9_sinkIntoOrder_L2 (o0 : Nat) (post : Um → Prop) (k_75 : Um → Prop) (rec_ : Int32 → Um → Prop) (x2 : Int32) (U : Um) : Prop :=
  (x2 ≤ 0 → k_75 U) ∧ (¬ x2 ≤ 0 → vp_in (x2 - 1) 16 ∧ vp_in (uA U o0 12 (Int32.toNatClampNeg (x2 - 1))) 16 ∧ oc (uAR U o0 6 (Int32.toNatClampNeg (uA U o0 12 (Int32.toNatClampNeg (x2 - 1))))) = 1 ∧ vp_in x2 16 ∧ vp_in (uA U o0 12 (Int32.toNatClampNeg x2)) 16 ∧ oc (uAR U o0 6 (Int32.toNatClampNeg (uA U o0 12 (Int32.toNatClampNeg x2)))) = 1 ∧ ((uI U (uAR U o0 6 (Int32.toNatClampNeg (uA U o0 12 (Int32.toNatClampNeg (x2 - 1))))) 4) ≤ (uI U (uAR U o0 6 (Int32.toNatClampNeg (uA U o0 12 (Int32.toNatClampNeg x2)))) 4) → k_75 U) ∧ (¬ (uI U (uAR U o0 6 (Int32.toNatClampNeg (uA U o0 12 (Int32.toNatClampNeg (x2 - 1))))) 4) ≤ (uI U (uAR U o0 6 (Int32.toNatClampNeg (uA U o0 12 (Int32.toNatClampNeg x2)))) 4) → vp_in (x2 - 1) 16 ∧ ∀ (x3_6 : Int32), x3_6 = uA U o0 12 (Int32.toNatClampNeg (x2 - 1)) → vp_in x2 16 ∧ vp_in (x2 - 1) 16 ∧ ∀ (U_7 : Um), U_7 = sA U o0 12 (va_up (uA U o0 12) (Int32.toNatClampNeg (x2 - 1)) (uA U o0 12 (Int32.toNatClampNeg x2))) → vp_in x2 16 ∧ ∀ (U_8 : Um), U_8 = sA U_7 o0 12 (va_up (uA U_7 o0 12) (Int32.toNatClampNeg x2) x3_6) → ∀ (x2_9 : Int32), x2_9 = x2 + (-1) → rec_ x2_9 U_8))
def w_X9_sinkIntoOrder_L2 (o0 : Nat) (post : Um → Prop) (k_75 : Um → Prop) (n_ : Nat) : Int32 → Um → Prop := Nat.rec (motive := fun _ => Int32 → Um → Prop) (fun _ _ => False) (fun _ ih => b_X9_sinkIntoOrder_L2 o0 post k_75 ih) n_
def w_X9_sinkIntoOrder (o : Nat) (a1 : Int32) (U : Um) (post : Um → Prop) : Prop :=
  ∀ (x2_1 : Int32), x2_1 = a1 → (∃ n_11, w_X9_sinkIntoOrder_L2 o post (fun U_10 => post U_10) n_11 x2_1 U)
set_option maxHeartbeats 4000000 in
theorem tl_X9_sinkIntoOrder_L2 {l : Launch} {Y : px_Y} {X : px_X} {h0 hh : pe_H} {sz : Nat} (o0 : Nat) (post : Um → Prop) (k_75 : Um → Prop) (ho0 : oc o0 = 8)  (hC : px_C X Y.1 (pm_A hh sz) cX9_sinkIntoOrder RX9 4) (hM : px_M l X Y.1 hh sz yX9_sinkIntoOrder cX9_sinkIntoOrder 4 none 0 0 0) (hR : X.2.2.2.1 = pm_rm 0 0 0) (hk_75 : ∀ (U : Um) (h : pe_H), k_75 U → rF Y h0 U h → pw X Y.1 (pm_A hh sz) (pm_E X Y.1 hh sz 0 0 (pm_P Y h0 sz (pq_v post))) 75 [none, none, none, none] [] h sz 0 0) : ∀ (n_ : Nat) (x2 : Int32) (U : Um) (h : pe_H), rF Y h0 U h → w_X9_sinkIntoOrder_L2 o0 post k_75 n_ x2 U → pw X Y.1 (pm_A hh sz) (pm_E X Y.1 hh sz 0 0 (pm_P Y h0 sz (pq_v post))) 2 [some (.ref (Y.2.1 o0)), none, some (.int x2), none] [] h sz 0 0 := by
  intro n_
  induction n_ with
  | zero => intro x2 U h hU H; exact False.elim H
  | succ n_ ih =>
    intro x2 U h hU H
    replace H : b_X9_sinkIntoOrder_L2 o0 post k_75 (w_X9_sinkIntoOrder_L2 o0 post k_75 n_) x2 U := H
    unfold b_X9_sinkIntoOrder_L2 at H
    refine pr_iload_n hC (by decide +kernel : decode cX9_sinkIntoOrder 2 = .ok (.iload_n 2, 1)) rfl ?_
    refine pr_if_le hC 75 (by decide +kernel : decode cX9_sinkIntoOrder 3 = .ok (.ifCond .le 72, 3)) (by decide) (fun c_3 => ?_) (fun c_3 => ?_)
    · replace H := H.1 c_3
      exact pv_sub [none, none, none, none] (trivial) (hk_75 U h H hU)
    replace H := H.2 c_3
    refine pr_aload_n hC (by decide +kernel : decode cX9_sinkIntoOrder 6 = .ok (.aload_n 0, 1)) rfl ?_
    refine pu_g1 hC fg_X9_34 (by decide +kernel : decode cX9_sinkIntoOrder 7 = .ok (.getfield 34, 3)) hU ho0 (by decide) rfl (by decide) ?_
    refine pr_aload_n hC (by decide +kernel : decode cX9_sinkIntoOrder 10 = .ok (.aload_n 0, 1)) rfl ?_
    refine pu_g1 hC fg_X9_53 (by decide +kernel : decode cX9_sinkIntoOrder 11 = .ok (.getfield 53, 3)) hU ho0 (by decide) rfl (by decide) ?_
    refine pr_iload_n hC (by decide +kernel : decode cX9_sinkIntoOrder 14 = .ok (.iload_n 2, 1)) rfl ?_
    refine pr_iconst hC (1) (by decide +kernel : decode cX9_sinkIntoOrder 15 = .ok (.iconst 1, 1)) rfl ?_
    refine pr_isub hC (by decide +kernel : decode cX9_sinkIntoOrder 16 = .ok (.isub, 1)) ?_
    refine pu_iald hC (by decide +kernel : decode cX9_sinkIntoOrder 17 = .ok (.iaload, 1)) hU ho0 rfl H.1 ?_
    replace H := H.2
    have q_2 := H.1
    replace H := H.2
    refine pu_aald8 hC (by decide +kernel : decode cX9_sinkIntoOrder 18 = .ok (.aaload, 1)) hU ho0 rfl q_2 ?_
    have q_3 := H.1
    replace H := H.2
    refine pu_g0 hC fg_X9_125 (by decide +kernel : decode cX9_sinkIntoOrder 19 = .ok (.getfield 125, 3)) hU q_3 (by decide) rfl rfl ?_
    refine pr_aload_n hC (by decide +kernel : decode cX9_sinkIntoOrder 22 = .ok (.aload_n 0, 1)) rfl ?_
    refine pu_g1 hC fg_X9_34 (by decide +kernel : decode cX9_sinkIntoOrder 23 = .ok (.getfield 34, 3)) hU ho0 (by decide) rfl (by decide) ?_
    refine pr_aload_n hC (by decide +kernel : decode cX9_sinkIntoOrder 26 = .ok (.aload_n 0, 1)) rfl ?_
    refine pu_g1 hC fg_X9_53 (by decide +kernel : decode cX9_sinkIntoOrder 27 = .ok (.getfield 53, 3)) hU ho0 (by decide) rfl (by decide) ?_
    refine pr_iload_n hC (by decide +kernel : decode cX9_sinkIntoOrder 30 = .ok (.iload_n 2, 1)) rfl ?_
    refine pu_iald hC (by decide +kernel : decode cX9_sinkIntoOrder 31 = .ok (.iaload, 1)) hU ho0 rfl H.1 ?_
    replace H := H.2
    have q_4 := H.1
    replace H := H.2
    refine pu_aald8 hC (by decide +kernel : decode cX9_sinkIntoOrder 32 = .ok (.aaload, 1)) hU ho0 rfl q_4 ?_
    have q_5 := H.1
    replace H := H.2
    refine pu_g0 hC fg_X9_125 (by decide +kernel : decode cX9_sinkIntoOrder 33 = .ok (.getfield 125, 3)) hU q_5 (by decide) rfl rfl ?_
    refine pr_icmp_le hC 75 (by decide +kernel : decode cX9_sinkIntoOrder 36 = .ok (.if_icmp .le 39, 3)) (by decide) (fun c_36 => ?_) (fun c_36 => ?_)
    · replace H := H.1 c_36
      exact pv_sub [none, none, none, none] (trivial) (hk_75 U h H hU)
    replace H := H.2 c_36
    refine pr_aload_n hC (by decide +kernel : decode cX9_sinkIntoOrder 39 = .ok (.aload_n 0, 1)) rfl ?_
    refine pu_g1 hC fg_X9_53 (by decide +kernel : decode cX9_sinkIntoOrder 40 = .ok (.getfield 53, 3)) hU ho0 (by decide) rfl (by decide) ?_
    refine pr_iload_n hC (by decide +kernel : decode cX9_sinkIntoOrder 43 = .ok (.iload_n 2, 1)) rfl ?_
    refine pr_iconst hC (1) (by decide +kernel : decode cX9_sinkIntoOrder 44 = .ok (.iconst 1, 1)) rfl ?_
    refine pr_isub hC (by decide +kernel : decode cX9_sinkIntoOrder 45 = .ok (.isub, 1)) ?_
    refine pu_iald hC (by decide +kernel : decode cX9_sinkIntoOrder 46 = .ok (.iaload, 1)) hU ho0 rfl H.1 ?_
    replace H := H.2
    refine pv_topi (fun x3_6 e_x3_6 => ?_)
    replace H := H x3_6 e_x3_6
    refine pr_istore_n hC (by decide +kernel : decode cX9_sinkIntoOrder 47 = .ok (.istore_n 3, 1)) (by decide) rfl ?_
    refine pr_aload_n hC (by decide +kernel : decode cX9_sinkIntoOrder 48 = .ok (.aload_n 0, 1)) rfl ?_
    refine pu_g1 hC fg_X9_53 (by decide +kernel : decode cX9_sinkIntoOrder 49 = .ok (.getfield 53, 3)) hU ho0 (by decide) rfl (by decide) ?_
    refine pr_iload_n hC (by decide +kernel : decode cX9_sinkIntoOrder 52 = .ok (.iload_n 2, 1)) rfl ?_
    refine pr_iconst hC (1) (by decide +kernel : decode cX9_sinkIntoOrder 53 = .ok (.iconst 1, 1)) rfl ?_
    refine pr_isub hC (by decide +kernel : decode cX9_sinkIntoOrder 54 = .ok (.isub, 1)) ?_
    refine pr_aload_n hC (by decide +kernel : decode cX9_sinkIntoOrder 55 = .ok (.aload_n 0, 1)) rfl ?_
    refine pu_g1 hC fg_X9_53 (by decide +kernel : decode cX9_sinkIntoOrder 56 = .ok (.getfield 53, 3)) hU ho0 (by decide) rfl (by decide) ?_
    refine pr_iload_n hC (by decide +kernel : decode cX9_sinkIntoOrder 59 = .ok (.iload_n 2, 1)) rfl ?_
    refine pu_iald hC (by decide +kernel : decode cX9_sinkIntoOrder 60 = .ok (.iaload, 1)) hU ho0 rfl H.1 ?_
    replace H := H.2
    refine pv_iast hC (by decide +kernel : decode cX9_sinkIntoOrder 61 = .ok (.iastore, 1)) hU ho0 rfl H.1 (fun U_7 h e_U_7 hU => ?_)
    replace H := H.2 U_7 e_U_7
    refine pr_aload_n hC (by decide +kernel : decode cX9_sinkIntoOrder 62 = .ok (.aload_n 0, 1)) rfl ?_
    refine pu_g1 hC fg_X9_53 (by decide +kernel : decode cX9_sinkIntoOrder 63 = .ok (.getfield 53, 3)) hU ho0 (by decide) rfl (by decide) ?_
    refine pr_iload_n hC (by decide +kernel : decode cX9_sinkIntoOrder 66 = .ok (.iload_n 2, 1)) rfl ?_
    refine pr_iload_n hC (by decide +kernel : decode cX9_sinkIntoOrder 67 = .ok (.iload_n 3, 1)) rfl ?_
    refine pv_iast hC (by decide +kernel : decode cX9_sinkIntoOrder 68 = .ok (.iastore, 1)) hU ho0 rfl H.1 (fun U_8 h e_U_8 hU => ?_)
    replace H := H.2 U_8 e_U_8
    refine pv_iinc hC (v := x2 + (-1)) (by decide +kernel : decode cX9_sinkIntoOrder 69 = .ok (.iinc 2 (-1), 3)) rfl (by decide) rfl rfl (fun x2_9 e_x2_9 => ?_)
    replace H := H x2_9 e_x2_9
    refine pr_goto hC 2 (by decide +kernel : decode cX9_sinkIntoOrder 72 = .ok (.goto (-70), 3)) (by decide) ?_
    exact pv_sub [some (.ref (Y.2.1 o0)), none, some (.int x2_9), none] (And.intro rfl (And.intro rfl trivial)) (ih _ U_8 h hU H)
set_option maxHeartbeats 4000000 in
theorem t_X9_sinkIntoOrder {l : Launch} {Y : px_Y} {o : Nat} {a1 : Int32} {U : Um} {post : Um → Prop} (ho : oc o = 8) (H : w_X9_sinkIntoOrder o a1 U post) : um l Y 0 yX9_sinkIntoOrder cX9_sinkIntoOrder 4 none [.ref (Y.2.1 o), .int a1] U (pq_v post) := by
  unfold w_X9_sinkIntoOrder at H
  refine um_of (by decide) (Nat.le_of_ble_eq_true rfl) [some (.ref (Y.2.1 o)), some (.int a1), none, none] rfl (fun X h0 hh sz hM hU => ?_)
  have hC := hM.1
  have hR := hM.2.2.1
  refine pr_iload_n hC (by decide +kernel : decode cX9_sinkIntoOrder 0 = .ok (.iload_n 1, 1)) rfl ?_
  refine pv_topi (fun x2_1 e_x2_1 => ?_)
  replace H := H x2_1 e_x2_1
  refine pr_istore_n hC (by decide +kernel : decode cX9_sinkIntoOrder 1 = .ok (.istore_n 2, 1)) (by decide) rfl ?_
  obtain ⟨n_11, H⟩ := H
  refine pv_sub [some (.ref (Y.2.1 o)), none, some (.int x2_1), none] (And.intro rfl (And.intro rfl trivial)) ?_
  refine tl_X9_sinkIntoOrder_L2 _ _ _ ho hC hM hR (fun U_10 h H hU => ?_) n_11 _ U hh hU H
  exact pv_vret hM (by decide +kernel : decode cX9_sinkIntoOrder 75 = .ok (.return_, 1)) hU H
def b_X9_settle_L15 (o0 : Nat) (post : Um → Prop) (k_34 : Um → Prop) (rec_ : Int32 → Um → Prop) (x1 : Int32) (U : Um) : Prop :=
  ((7 : Int32) ≤ x1 → k_34 U) ∧ (¬ (7 : Int32) ≤ x1 → vp_in x1 7 ∧ ∀ (U_4 : Um), U_4 = sA U o0 13 (va_up (uA U o0 13) (Int32.toNatClampNeg x1) 0) → ∀ (x1_5 : Int32), x1_5 = x1 + 1 → rec_ x1_5 U_4)
def w_X9_settle_L15 (o0 : Nat) (post : Um → Prop) (k_34 : Um → Prop) (n_ : Nat) : Int32 → Um → Prop := Nat.rec (motive := fun _ => Int32 → Um → Prop) (fun _ _ => False) (fun _ ih => b_X9_settle_L15 o0 post k_34 ih) n_
def b_X9_settle_L36 (o0 : Nat) (post : Um → Prop) (k_55 : Um → Prop) (rec_ : Int32 → Um → Prop) (x1 : Int32) (U : Um) : Prop :=
  ((6 : Int32) ≤ x1 → k_55 U) ∧ (¬ (6 : Int32) ≤ x1 → vp_in x1 6 ∧ ∀ (U_7 : Um), U_7 = sA U o0 14 (va_up (uA U o0 14) (Int32.toNatClampNeg x1) 0) → ∀ (x1_8 : Int32), x1_8 = x1 + 1 → rec_ x1_8 U_7)
def w_X9_settle_L36 (o0 : Nat) (post : Um → Prop) (k_55 : Um → Prop) (n_ : Nat) : Int32 → Um → Prop := Nat.rec (motive := fun _ => Int32 → Um → Prop) (fun _ _ => False) (fun _ ih => b_X9_settle_L36 o0 post k_55 ih) n_
def b_X9_settle_L57 (o0 : Nat) (post : Um → Prop) (k_118 : Um → Prop) (rec_ : Int32 → Um → Prop) (x1 : Int32) (U : Um) : Prop :=
  ((uI U o0 7) ≤ x1 → k_118 U) ∧ (¬ (uI U o0 7) ≤ x1 → vp_in x1 16 ∧ oc (uAR U o0 6 (Int32.toNatClampNeg x1)) = 1 ∧ vp_in (uI U (uAR U o0 6 (Int32.toNatClampNeg x1)) 3) 7 ∧ vp_in (uI U (uAR U o0 6 (Int32.toNatClampNeg x1)) 3) 7 ∧ ∀ (U_12 : Um), U_12 = sA U o0 13 (va_up (uA U o0 13) (Int32.toNatClampNeg (uI U (uAR U o0 6 (Int32.toNatClampNeg x1)) 3)) ((uA U o0 13 (Int32.toNatClampNeg (uI U (uAR U o0 6 (Int32.toNatClampNeg x1)) 3))) ||| (1 <<< (x1 &&& 31)))) → vp_in x1 16 ∧ oc (uAR U_12 o0 6 (Int32.toNatClampNeg x1)) = 1 ∧ vp_in (uI U_12 (uAR U_12 o0 6 (Int32.toNatClampNeg x1)) 2) 6 ∧ vp_in (uI U_12 (uAR U_12 o0 6 (Int32.toNatClampNeg x1)) 2) 6 ∧ ∀ (U_15 : Um), U_15 = sA U_12 o0 14 (va_up (uA U_12 o0 14) (Int32.toNatClampNeg (uI U_12 (uAR U_12 o0 6 (Int32.toNatClampNeg x1)) 2)) ((uA U_12 o0 14 (Int32.toNatClampNeg (uI U_12 (uAR U_12 o0 6 (Int32.toNatClampNeg x1)) 2))) ||| (1 <<< (x1 &&& 31)))) → vp_in x1 16 ∧ ∀ (U_16 : Um), U_16 = sA U_15 o0 12 (va_up (uA U_15 o0 12) (Int32.toNatClampNeg x1) x1) → ∀ (x1_17 : Int32), x1_17 = x1 + 1 → rec_ x1_17 U_16)
def w_X9_settle_L57 (o0 : Nat) (post : Um → Prop) (k_118 : Um → Prop) (n_ : Nat) : Int32 → Um → Prop := Nat.rec (motive := fun _ => Int32 → Um → Prop) (fun _ _ => False) (fun _ ih => b_X9_settle_L57 o0 post k_118 ih) n_
def b_X9_settle_L120 (o0 : Nat) (post : Um → Prop) (k_144 : Um → Prop) (rec_ : Int32 → Um → Prop) (x1 : Int32) (U : Um) : Prop :=
  ((uI U o0 7) ≤ x1 → k_144 U) ∧ (¬ (uI U o0 7) ≤ x1 → w_X9_compareWithOthers o0 x1 U (fun U_19 => w_X9_sinkIntoOrder o0 x1 U_19 (fun U_21 => ∀ (x1_23 : Int32), x1_23 = x1 + 1 → rec_ x1_23 U_21)))
def w_X9_settle_L120 (o0 : Nat) (post : Um → Prop) (k_144 : Um → Prop) (n_ : Nat) : Int32 → Um → Prop := Nat.rec (motive := fun _ => Int32 → Um → Prop) (fun _ _ => False) (fun _ ih => b_X9_settle_L120 o0 post k_144 ih) n_
def w_X9_settle (o : Nat) (U : Um) (post : Um → Prop) : Prop :=
  oc (uR U o 10) = 4 ∧ vp_in 0 3 ∧ w_X5_settle (uR U o 10) (uA U o 1 (Int32.toNatClampNeg 0)) U (fun U_2 => (∃ n_28, w_X9_settle_L15 o post (fun U_6 => (∃ n_27, w_X9_settle_L36 o post (fun U_9 => (∃ n_26, w_X9_settle_L57 o post (fun U_18 => (∃ n_25, w_X9_settle_L120 o post (fun U_24 => post U_24) n_25 0 U_18)) n_26 0 U_9)) n_27 0 U_6)) n_28 0 U_2))
set_option maxHeartbeats 4000000 in
theorem tl_X9_settle_L15 {l : Launch} {Y : px_Y} {X : px_X} {h0 hh : pe_H} {sz : Nat} (o0 : Nat) (post : Um → Prop) (k_34 : Um → Prop) (ho0 : oc o0 = 8)  (hC : px_C X Y.1 (pm_A hh sz) cX9_settle RX9 2) (hM : px_M l X Y.1 hh sz yX9_settle cX9_settle 2 none 3 0 0) (hR : X.2.2.2.1 = pm_rm 3 0 0) (hk_34 : ∀ (U : Um) (h : pe_H), k_34 U → rF Y h0 U h → pw X Y.1 (pm_A hh sz) (pm_E X Y.1 hh sz 0 0 (pm_P Y h0 sz (pq_v post))) 34 [some (.ref (Y.2.1 o0)), none] [] h sz 0 0) : ∀ (n_ : Nat) (x1 : Int32) (U : Um) (h : pe_H), rF Y h0 U h → w_X9_settle_L15 o0 post k_34 n_ x1 U → pw X Y.1 (pm_A hh sz) (pm_E X Y.1 hh sz 0 0 (pm_P Y h0 sz (pq_v post))) 15 [some (.ref (Y.2.1 o0)), some (.int x1)] [] h sz 0 0 := by
  intro n_
  induction n_ with
  | zero => intro x1 U h hU H; exact False.elim H
  | succ n_ ih =>
    intro x1 U h hU H
    replace H : b_X9_settle_L15 o0 post k_34 (w_X9_settle_L15 o0 post k_34 n_) x1 U := H
    unfold b_X9_settle_L15 at H
    refine pr_iload_n hC (by decide +kernel : decode cX9_settle 15 = .ok (.iload_n 1, 1)) rfl ?_
    refine pr_bipush hC (7) (by decide +kernel : decode cX9_settle 16 = .ok (.bipush 7, 2)) rfl ?_
    refine pr_icmp_ge hC 34 (by decide +kernel : decode cX9_settle 18 = .ok (.if_icmp .ge 16, 3)) (by decide) (fun c_18 => ?_) (fun c_18 => ?_)
    · replace H := H.1 c_18
      exact pv_sub [some (.ref (Y.2.1 o0)), none] (And.intro rfl trivial) (hk_34 U h H hU)
    replace H := H.2 c_18
    refine pr_aload_n hC (by decide +kernel : decode cX9_settle 21 = .ok (.aload_n 0, 1)) rfl ?_
    refine pu_g1 hC fg_X9_56 (by decide +kernel : decode cX9_settle 22 = .ok (.getfield 56, 3)) hU ho0 (by decide) rfl (by decide) ?_
    refine pr_iload_n hC (by decide +kernel : decode cX9_settle 25 = .ok (.iload_n 1, 1)) rfl ?_
    refine pr_iconst hC (0) (by decide +kernel : decode cX9_settle 26 = .ok (.iconst 0, 1)) rfl ?_
    refine pv_iast hC (by decide +kernel : decode cX9_settle 27 = .ok (.iastore, 1)) hU ho0 rfl H.1 (fun U_4 h e_U_4 hU => ?_)
    replace H := H.2 U_4 e_U_4
    refine pv_iinc hC (v := x1 + 1) (by decide +kernel : decode cX9_settle 28 = .ok (.iinc 1 1, 3)) rfl (by decide) rfl rfl (fun x1_5 e_x1_5 => ?_)
    replace H := H x1_5 e_x1_5
    refine pr_goto hC 15 (by decide +kernel : decode cX9_settle 31 = .ok (.goto (-16), 3)) (by decide) ?_
    exact pv_sub [some (.ref (Y.2.1 o0)), some (.int x1_5)] (And.intro rfl (And.intro rfl trivial)) (ih _ U_4 h hU H)
set_option maxHeartbeats 4000000 in
theorem tl_X9_settle_L36 {l : Launch} {Y : px_Y} {X : px_X} {h0 hh : pe_H} {sz : Nat} (o0 : Nat) (post : Um → Prop) (k_55 : Um → Prop) (ho0 : oc o0 = 8)  (hC : px_C X Y.1 (pm_A hh sz) cX9_settle RX9 2) (hM : px_M l X Y.1 hh sz yX9_settle cX9_settle 2 none 3 0 0) (hR : X.2.2.2.1 = pm_rm 3 0 0) (hk_55 : ∀ (U : Um) (h : pe_H), k_55 U → rF Y h0 U h → pw X Y.1 (pm_A hh sz) (pm_E X Y.1 hh sz 0 0 (pm_P Y h0 sz (pq_v post))) 55 [some (.ref (Y.2.1 o0)), none] [] h sz 0 0) : ∀ (n_ : Nat) (x1 : Int32) (U : Um) (h : pe_H), rF Y h0 U h → w_X9_settle_L36 o0 post k_55 n_ x1 U → pw X Y.1 (pm_A hh sz) (pm_E X Y.1 hh sz 0 0 (pm_P Y h0 sz (pq_v post))) 36 [some (.ref (Y.2.1 o0)), some (.int x1)] [] h sz 0 0 := by
  intro n_
  induction n_ with
  | zero => intro x1 U h hU H; exact False.elim H
  | succ n_ ih =>
    intro x1 U h hU H
    replace H : b_X9_settle_L36 o0 post k_55 (w_X9_settle_L36 o0 post k_55 n_) x1 U := H
    unfold b_X9_settle_L36 at H
    refine pr_iload_n hC (by decide +kernel : decode cX9_settle 36 = .ok (.iload_n 1, 1)) rfl ?_
    refine pr_bipush hC (6) (by decide +kernel : decode cX9_settle 37 = .ok (.bipush 6, 2)) rfl ?_
    refine pr_icmp_ge hC 55 (by decide +kernel : decode cX9_settle 39 = .ok (.if_icmp .ge 16, 3)) (by decide) (fun c_39 => ?_) (fun c_39 => ?_)
    · replace H := H.1 c_39
      exact pv_sub [some (.ref (Y.2.1 o0)), none] (And.intro rfl trivial) (hk_55 U h H hU)
    replace H := H.2 c_39
    refine pr_aload_n hC (by decide +kernel : decode cX9_settle 42 = .ok (.aload_n 0, 1)) rfl ?_
    refine pu_g1 hC fg_X9_59 (by decide +kernel : decode cX9_settle 43 = .ok (.getfield 59, 3)) hU ho0 (by decide) rfl (by decide) ?_
    refine pr_iload_n hC (by decide +kernel : decode cX9_settle 46 = .ok (.iload_n 1, 1)) rfl ?_
    refine pr_iconst hC (0) (by decide +kernel : decode cX9_settle 47 = .ok (.iconst 0, 1)) rfl ?_
    refine pv_iast hC (by decide +kernel : decode cX9_settle 48 = .ok (.iastore, 1)) hU ho0 rfl H.1 (fun U_7 h e_U_7 hU => ?_)
    replace H := H.2 U_7 e_U_7
    refine pv_iinc hC (v := x1 + 1) (by decide +kernel : decode cX9_settle 49 = .ok (.iinc 1 1, 3)) rfl (by decide) rfl rfl (fun x1_8 e_x1_8 => ?_)
    replace H := H x1_8 e_x1_8
    refine pr_goto hC 36 (by decide +kernel : decode cX9_settle 52 = .ok (.goto (-16), 3)) (by decide) ?_
    exact pv_sub [some (.ref (Y.2.1 o0)), some (.int x1_8)] (And.intro rfl (And.intro rfl trivial)) (ih _ U_7 h hU H)
set_option maxHeartbeats 4000000 in
theorem tl_X9_settle_L57 {l : Launch} {Y : px_Y} {X : px_X} {h0 hh : pe_H} {sz : Nat} (o0 : Nat) (post : Um → Prop) (k_118 : Um → Prop) (ho0 : oc o0 = 8)  (hC : px_C X Y.1 (pm_A hh sz) cX9_settle RX9 2) (hM : px_M l X Y.1 hh sz yX9_settle cX9_settle 2 none 3 0 0) (hR : X.2.2.2.1 = pm_rm 3 0 0) (hk_118 : ∀ (U : Um) (h : pe_H), k_118 U → rF Y h0 U h → pw X Y.1 (pm_A hh sz) (pm_E X Y.1 hh sz 0 0 (pm_P Y h0 sz (pq_v post))) 118 [some (.ref (Y.2.1 o0)), none] [] h sz 0 0) : ∀ (n_ : Nat) (x1 : Int32) (U : Um) (h : pe_H), rF Y h0 U h → w_X9_settle_L57 o0 post k_118 n_ x1 U → pw X Y.1 (pm_A hh sz) (pm_E X Y.1 hh sz 0 0 (pm_P Y h0 sz (pq_v post))) 57 [some (.ref (Y.2.1 o0)), some (.int x1)] [] h sz 0 0 := by
  intro n_
  induction n_ with
  | zero => intro x1 U h hU H; exact False.elim H
  | succ n_ ih =>
    intro x1 U h hU H
    replace H : b_X9_settle_L57 o0 post k_118 (w_X9_settle_L57 o0 post k_118 n_) x1 U := H
    unfold b_X9_settle_L57 at H
    refine pr_iload_n hC (by decide +kernel : decode cX9_settle 57 = .ok (.iload_n 1, 1)) rfl ?_
    refine pr_aload_n hC (by decide +kernel : decode cX9_settle 58 = .ok (.aload_n 0, 1)) rfl ?_
    refine pu_g0 hC fg_X9_69 (by decide +kernel : decode cX9_settle 59 = .ok (.getfield 69, 3)) hU ho0 (by decide) rfl rfl ?_
    refine pr_icmp_ge hC 118 (by decide +kernel : decode cX9_settle 62 = .ok (.if_icmp .ge 56, 3)) (by decide) (fun c_62 => ?_) (fun c_62 => ?_)
    · replace H := H.1 c_62
      exact pv_sub [some (.ref (Y.2.1 o0)), none] (And.intro rfl trivial) (hk_118 U h H hU)
    replace H := H.2 c_62
    refine pr_aload_n hC (by decide +kernel : decode cX9_settle 65 = .ok (.aload_n 0, 1)) rfl ?_
    refine pu_g1 hC fg_X9_56 (by decide +kernel : decode cX9_settle 66 = .ok (.getfield 56, 3)) hU ho0 (by decide) rfl (by decide) ?_
    refine pr_aload_n hC (by decide +kernel : decode cX9_settle 69 = .ok (.aload_n 0, 1)) rfl ?_
    refine pu_g1 hC fg_X9_34 (by decide +kernel : decode cX9_settle 70 = .ok (.getfield 34, 3)) hU ho0 (by decide) rfl (by decide) ?_
    refine pr_iload_n hC (by decide +kernel : decode cX9_settle 73 = .ok (.iload_n 1, 1)) rfl ?_
    have q_10 := H.1
    replace H := H.2
    refine pu_aald8 hC (by decide +kernel : decode cX9_settle 74 = .ok (.aaload, 1)) hU ho0 rfl q_10 ?_
    have q_11 := H.1
    replace H := H.2
    refine pu_g0 hC fg_X9_100 (by decide +kernel : decode cX9_settle 75 = .ok (.getfield 100, 3)) hU q_11 (by decide) rfl rfl ?_
    refine pr_dup2 hC (by decide +kernel : decode cX9_settle 78 = .ok (.dup2, 1)) rfl rfl ?_
    refine pu_iald hC (by decide +kernel : decode cX9_settle 79 = .ok (.iaload, 1)) hU ho0 rfl H.1 ?_
    replace H := H.2
    refine pr_iconst hC (1) (by decide +kernel : decode cX9_settle 80 = .ok (.iconst 1, 1)) rfl ?_
    refine pr_iload_n hC (by decide +kernel : decode cX9_settle 81 = .ok (.iload_n 1, 1)) rfl ?_
    refine pr_ishl hC (by decide +kernel : decode cX9_settle 82 = .ok (.ishl, 1)) ?_
    refine pr_ior hC (by decide +kernel : decode cX9_settle 83 = .ok (.ior, 1)) ?_
    refine pv_iast hC (by decide +kernel : decode cX9_settle 84 = .ok (.iastore, 1)) hU ho0 rfl H.1 (fun U_12 h e_U_12 hU => ?_)
    replace H := H.2 U_12 e_U_12
    refine pr_aload_n hC (by decide +kernel : decode cX9_settle 85 = .ok (.aload_n 0, 1)) rfl ?_
    refine pu_g1 hC fg_X9_59 (by decide +kernel : decode cX9_settle 86 = .ok (.getfield 59, 3)) hU ho0 (by decide) rfl (by decide) ?_
    refine pr_aload_n hC (by decide +kernel : decode cX9_settle 89 = .ok (.aload_n 0, 1)) rfl ?_
    refine pu_g1 hC fg_X9_34 (by decide +kernel : decode cX9_settle 90 = .ok (.getfield 34, 3)) hU ho0 (by decide) rfl (by decide) ?_
    refine pr_iload_n hC (by decide +kernel : decode cX9_settle 93 = .ok (.iload_n 1, 1)) rfl ?_
    have q_13 := H.1
    replace H := H.2
    refine pu_aald8 hC (by decide +kernel : decode cX9_settle 94 = .ok (.aaload, 1)) hU ho0 rfl q_13 ?_
    have q_14 := H.1
    replace H := H.2
    refine pu_g0 hC fg_X9_103 (by decide +kernel : decode cX9_settle 95 = .ok (.getfield 103, 3)) hU q_14 (by decide) rfl rfl ?_
    refine pr_dup2 hC (by decide +kernel : decode cX9_settle 98 = .ok (.dup2, 1)) rfl rfl ?_
    refine pu_iald hC (by decide +kernel : decode cX9_settle 99 = .ok (.iaload, 1)) hU ho0 rfl H.1 ?_
    replace H := H.2
    refine pr_iconst hC (1) (by decide +kernel : decode cX9_settle 100 = .ok (.iconst 1, 1)) rfl ?_
    refine pr_iload_n hC (by decide +kernel : decode cX9_settle 101 = .ok (.iload_n 1, 1)) rfl ?_
    refine pr_ishl hC (by decide +kernel : decode cX9_settle 102 = .ok (.ishl, 1)) ?_
    refine pr_ior hC (by decide +kernel : decode cX9_settle 103 = .ok (.ior, 1)) ?_
    refine pv_iast hC (by decide +kernel : decode cX9_settle 104 = .ok (.iastore, 1)) hU ho0 rfl H.1 (fun U_15 h e_U_15 hU => ?_)
    replace H := H.2 U_15 e_U_15
    refine pr_aload_n hC (by decide +kernel : decode cX9_settle 105 = .ok (.aload_n 0, 1)) rfl ?_
    refine pu_g1 hC fg_X9_53 (by decide +kernel : decode cX9_settle 106 = .ok (.getfield 53, 3)) hU ho0 (by decide) rfl (by decide) ?_
    refine pr_iload_n hC (by decide +kernel : decode cX9_settle 109 = .ok (.iload_n 1, 1)) rfl ?_
    refine pr_iload_n hC (by decide +kernel : decode cX9_settle 110 = .ok (.iload_n 1, 1)) rfl ?_
    refine pv_iast hC (by decide +kernel : decode cX9_settle 111 = .ok (.iastore, 1)) hU ho0 rfl H.1 (fun U_16 h e_U_16 hU => ?_)
    replace H := H.2 U_16 e_U_16
    refine pv_iinc hC (v := x1 + 1) (by decide +kernel : decode cX9_settle 112 = .ok (.iinc 1 1, 3)) rfl (by decide) rfl rfl (fun x1_17 e_x1_17 => ?_)
    replace H := H x1_17 e_x1_17
    refine pr_goto hC 57 (by decide +kernel : decode cX9_settle 115 = .ok (.goto (-58), 3)) (by decide) ?_
    exact pv_sub [some (.ref (Y.2.1 o0)), some (.int x1_17)] (And.intro rfl (And.intro rfl trivial)) (ih _ U_16 h hU H)
set_option maxHeartbeats 4000000 in
theorem tl_X9_settle_L120 {l : Launch} {Y : px_Y} {X : px_X} {h0 hh : pe_H} {sz : Nat} (o0 : Nat) (post : Um → Prop) (k_144 : Um → Prop) (ho0 : oc o0 = 8)  (hC : px_C X Y.1 (pm_A hh sz) cX9_settle RX9 2) (hM : px_M l X Y.1 hh sz yX9_settle cX9_settle 2 none 3 0 0) (hR : X.2.2.2.1 = pm_rm 3 0 0) (hk_144 : ∀ (U : Um) (h : pe_H), k_144 U → rF Y h0 U h → pw X Y.1 (pm_A hh sz) (pm_E X Y.1 hh sz 0 0 (pm_P Y h0 sz (pq_v post))) 144 [none, none] [] h sz 0 0) : ∀ (n_ : Nat) (x1 : Int32) (U : Um) (h : pe_H), rF Y h0 U h → w_X9_settle_L120 o0 post k_144 n_ x1 U → pw X Y.1 (pm_A hh sz) (pm_E X Y.1 hh sz 0 0 (pm_P Y h0 sz (pq_v post))) 120 [some (.ref (Y.2.1 o0)), some (.int x1)] [] h sz 0 0 := by
  intro n_
  induction n_ with
  | zero => intro x1 U h hU H; exact False.elim H
  | succ n_ ih =>
    intro x1 U h hU H
    replace H : b_X9_settle_L120 o0 post k_144 (w_X9_settle_L120 o0 post k_144 n_) x1 U := H
    unfold b_X9_settle_L120 at H
    refine pr_iload_n hC (by decide +kernel : decode cX9_settle 120 = .ok (.iload_n 1, 1)) rfl ?_
    refine pr_aload_n hC (by decide +kernel : decode cX9_settle 121 = .ok (.aload_n 0, 1)) rfl ?_
    refine pu_g0 hC fg_X9_69 (by decide +kernel : decode cX9_settle 122 = .ok (.getfield 69, 3)) hU ho0 (by decide) rfl rfl ?_
    refine pr_icmp_ge hC 144 (by decide +kernel : decode cX9_settle 125 = .ok (.if_icmp .ge 19, 3)) (by decide) (fun c_125 => ?_) (fun c_125 => ?_)
    · replace H := H.1 c_125
      exact pv_sub [none, none] (trivial) (hk_144 U h H hU)
    replace H := H.2 c_125
    refine pr_aload_n hC (by decide +kernel : decode cX9_settle 128 = .ok (.aload_n 0, 1)) rfl ?_
    refine pr_iload_n hC (by decide +kernel : decode cX9_settle 129 = .ok (.iload_n 1, 1)) rfl ?_
    refine vc_Vv hC hR [.int x1] fv_X9_106 (by decide +kernel : decode cX9_settle 130 = .ok (.invokevirtual 106, 3)) hU (t_X9_compareWithOthers ho0 H) ho0 (by decide) rfl rfl rfl (Nat.le_of_ble_eq_true rfl) (Nat.le_of_ble_eq_true rfl) (Nat.le_refl 0) (Nat.le_refl 0) (fun U_19 h H hU => ?_)
    refine pr_aload_n hC (by decide +kernel : decode cX9_settle 133 = .ok (.aload_n 0, 1)) rfl ?_
    refine pr_iload_n hC (by decide +kernel : decode cX9_settle 134 = .ok (.iload_n 1, 1)) rfl ?_
    refine vc_Vv hC hR [.int x1] fv_X9_109 (by decide +kernel : decode cX9_settle 135 = .ok (.invokevirtual 109, 3)) hU (t_X9_sinkIntoOrder ho0 H) ho0 (by decide) rfl rfl rfl (Nat.le_of_ble_eq_true rfl) (Nat.le_of_ble_eq_true rfl) (Nat.le_refl 0) (Nat.le_refl 0) (fun U_21 h H hU => ?_)
    refine pv_iinc hC (v := x1 + 1) (by decide +kernel : decode cX9_settle 138 = .ok (.iinc 1 1, 3)) rfl (by decide) rfl rfl (fun x1_23 e_x1_23 => ?_)
    replace H := H x1_23 e_x1_23
    refine pr_goto hC 120 (by decide +kernel : decode cX9_settle 141 = .ok (.goto (-21), 3)) (by decide) ?_
    exact pv_sub [some (.ref (Y.2.1 o0)), some (.int x1_23)] (And.intro rfl (And.intro rfl trivial)) (ih _ U_21 h hU H)
set_option maxHeartbeats 4000000 in
theorem t_X9_settle {l : Launch} {Y : px_Y} {o : Nat} {U : Um} {post : Um → Prop} (ho : oc o = 8) (H : w_X9_settle o U post) : um l Y 3 yX9_settle cX9_settle 2 none [.ref (Y.2.1 o)] U (pq_v post) := by
  unfold w_X9_settle at H
  refine um_of (by decide) (Nat.le_of_ble_eq_true rfl) [some (.ref (Y.2.1 o)), none] rfl (fun X h0 hh sz hM hU => ?_)
  have hC := hM.1
  have hR := hM.2.2.1
  refine pr_aload_n hC (by decide +kernel : decode cX9_settle 0 = .ok (.aload_n 0, 1)) rfl ?_
  refine pu_g21 hC fg_X9_42 (by decide +kernel : decode cX9_settle 1 = .ok (.getfield 42, 3)) hU ho (by decide) rfl rfl ?_
  have q_1 := H.1
  replace H := H.2
  refine pr_aload_n hC (by decide +kernel : decode cX9_settle 4 = .ok (.aload_n 0, 1)) rfl ?_
  refine pu_g1 hC fg_X9_16 (by decide +kernel : decode cX9_settle 5 = .ok (.getfield 16, 3)) hU ho (by decide) rfl (by decide) ?_
  refine pr_iconst hC (0) (by decide +kernel : decode cX9_settle 8 = .ok (.iconst 0, 1)) rfl ?_
  refine pu_iald hC (by decide +kernel : decode cX9_settle 9 = .ok (.iaload, 1)) hU ho rfl H.1 ?_
  replace H := H.2
  refine vc_Vv hC hR [.int (uA U o 1 (Int32.toNatClampNeg 0))] fv_X9_96 (by decide +kernel : decode cX9_settle 10 = .ok (.invokevirtual 96, 3)) hU (t_X5_settle q_1 H) q_1 (by decide) rfl rfl rfl (Nat.le_of_ble_eq_true rfl) (Nat.le_of_ble_eq_true rfl) (Nat.le_refl 0) (Nat.le_refl 0) (fun U_2 h H hU => ?_)
  refine pr_iconst hC (0) (by decide +kernel : decode cX9_settle 13 = .ok (.iconst 0, 1)) rfl ?_
  refine pr_istore_n hC (by decide +kernel : decode cX9_settle 14 = .ok (.istore_n 1, 1)) (by decide) rfl ?_
  obtain ⟨n_28, H⟩ := H
  refine pv_sub [some (.ref (Y.2.1 o)), some (.int 0)] (And.intro rfl (And.intro rfl trivial)) ?_
  refine tl_X9_settle_L15 _ _ _ ho hC hM hR (fun U_6 h H hU => ?_) n_28 _ U_2 h hU H
  refine pr_iconst hC (0) (by decide +kernel : decode cX9_settle 34 = .ok (.iconst 0, 1)) rfl ?_
  refine pr_istore_n hC (by decide +kernel : decode cX9_settle 35 = .ok (.istore_n 1, 1)) (by decide) rfl ?_
  obtain ⟨n_27, H⟩ := H
  refine pv_sub [some (.ref (Y.2.1 o)), some (.int 0)] (And.intro rfl (And.intro rfl trivial)) ?_
  refine tl_X9_settle_L36 _ _ _ ho hC hM hR (fun U_9 h H hU => ?_) n_27 _ U_6 h hU H
  refine pr_iconst hC (0) (by decide +kernel : decode cX9_settle 55 = .ok (.iconst 0, 1)) rfl ?_
  refine pr_istore_n hC (by decide +kernel : decode cX9_settle 56 = .ok (.istore_n 1, 1)) (by decide) rfl ?_
  obtain ⟨n_26, H⟩ := H
  refine pv_sub [some (.ref (Y.2.1 o)), some (.int 0)] (And.intro rfl (And.intro rfl trivial)) ?_
  refine tl_X9_settle_L57 _ _ _ ho hC hM hR (fun U_18 h H hU => ?_) n_26 _ U_9 h hU H
  refine pr_iconst hC (0) (by decide +kernel : decode cX9_settle 118 = .ok (.iconst 0, 1)) rfl ?_
  refine pr_istore_n hC (by decide +kernel : decode cX9_settle 119 = .ok (.istore_n 1, 1)) (by decide) rfl ?_
  obtain ⟨n_25, H⟩ := H
  refine pv_sub [some (.ref (Y.2.1 o)), some (.int 0)] (And.intro rfl (And.intro rfl trivial)) ?_
  refine tl_X9_settle_L120 _ _ _ ho hC hM hR (fun U_24 h H hU => ?_) n_25 _ U_18 h hU H
  exact pv_vret hM (by decide +kernel : decode cX9_settle 144 = .ok (.return_, 1)) hU H
def b_X5_firstOn_L12 (o0 : Nat) (x1 : Int32) (x2 : Int32) (x3 : Int32) (post : Int32 → Um → Prop) (k_85 : Um → Prop) (rec_ : Int32 → Um → Prop) (x4 : Int32) (U : Um) : Prop :=
  ((uI U o0 0) ≤ x4 → k_85 U) ∧ (¬ (uI U o0 0) ≤ x4 → (x1 = x2 → k_85 U) ∧ (¬ x1 = x2 → (x3 = (-1) → k_85 U) ∧ (¬ x3 = (-1) → vp_in x4 6 ∧ vp_in x2 6 ∧ ∀ (x5_4 : Int32), x5_4 = uA U o0 (ki 2 (Int32.toNatClampNeg x4)) (Int32.toNatClampNeg x2) → vp_in x1 6 ∧ vp_in x4 6 ∧ ((uA U o0 (ki 1 (Int32.toNatClampNeg x1)) (Int32.toNatClampNeg x4)) ≤ 0 → ∀ (x4_6 : Int32), x4_6 = x4 + 1 → rec_ x4_6 U) ∧ (¬ (uA U o0 (ki 1 (Int32.toNatClampNeg x1)) (Int32.toNatClampNeg x4)) ≤ 0 → (x5_4 = (-1) → ∀ (x4_7 : Int32), x4_7 = x4 + 1 → rec_ x4_7 U) ∧ (¬ x5_4 = (-1) → vp_in x1 6 ∧ vp_in x4 6 ∧ (((uA U o0 (ki 1 (Int32.toNatClampNeg x1)) (Int32.toNatClampNeg x4)) + x5_4) = x3 → post x4 U) ∧ (¬ ((uA U o0 (ki 1 (Int32.toNatClampNeg x1)) (Int32.toNatClampNeg x4)) + x5_4) = x3 → ∀ (x4_9 : Int32), x4_9 = x4 + 1 → rec_ x4_9 U))))))
def w_X5_firstOn_L12 (o0 : Nat) (x1 : Int32) (x2 : Int32) (x3 : Int32) (post : Int32 → Um → Prop) (k_85 : Um → Prop) (n_ : Nat) : Int32 → Um → Prop := Nat.rec (motive := fun _ => Int32 → Um → Prop) (fun _ _ => False) (fun _ ih => b_X5_firstOn_L12 o0 x1 x2 x3 post k_85 ih) n_
def w_X5_firstOn (o : Nat) (a1 : Int32) (a2 : Int32) (U : Um) (post : Int32 → Um → Prop) : Prop :=
  vp_in a1 6 ∧ vp_in a2 6 ∧ ∀ (x3_2 : Int32), x3_2 = uA U o (ki 2 (Int32.toNatClampNeg a1)) (Int32.toNatClampNeg a2) → (∃ n_11, w_X5_firstOn_L12 o a1 a2 x3_2 post (fun U_10 => post (-1) U_10) n_11 0 U)
set_option maxHeartbeats 4000000 in
theorem tl_X5_firstOn_L12 {l : Launch} {Y : px_Y} {X : px_X} {h0 hh : pe_H} {sz : Nat} (o0 : Nat) (x1 : Int32) (x2 : Int32) (x3 : Int32) (post : Int32 → Um → Prop) (k_85 : Um → Prop) (ho0 : oc o0 = 4)  (hC : px_C X Y.1 (pm_A hh sz) cX5_firstOn RX5 6) (hM : px_M l X Y.1 hh sz yX5_firstOn cX5_firstOn 6 (some (.int)) 0 0 0) (hR : X.2.2.2.1 = pm_rm 0 0 0) (hk_85 : ∀ (U : Um) (h : pe_H), k_85 U → rF Y h0 U h → pw X Y.1 (pm_A hh sz) (pm_E X Y.1 hh sz 0 0 (pm_P Y h0 sz (pq_i post))) 85 [none, none, none, none, none, none] [] h sz 0 0) : ∀ (n_ : Nat) (x4 : Int32) (U : Um) (h : pe_H), rF Y h0 U h → w_X5_firstOn_L12 o0 x1 x2 x3 post k_85 n_ x4 U → pw X Y.1 (pm_A hh sz) (pm_E X Y.1 hh sz 0 0 (pm_P Y h0 sz (pq_i post))) 12 [some (.ref (Y.2.1 o0)), some (.int x1), some (.int x2), some (.int x3), some (.int x4), none] [] h sz 0 0 := by
  intro n_
  induction n_ with
  | zero => intro x4 U h hU H; exact False.elim H
  | succ n_ ih =>
    intro x4 U h hU H
    replace H : b_X5_firstOn_L12 o0 x1 x2 x3 post k_85 (w_X5_firstOn_L12 o0 x1 x2 x3 post k_85 n_) x4 U := H
    unfold b_X5_firstOn_L12 at H
    refine pr_iload hC (by decide +kernel : decode cX5_firstOn 12 = .ok (.iload 4, 2)) rfl ?_
    refine pr_aload_n hC (by decide +kernel : decode cX5_firstOn 14 = .ok (.aload_n 0, 1)) rfl ?_
    refine pu_g0 hC fg_X5_19 (by decide +kernel : decode cX5_firstOn 15 = .ok (.getfield 19, 3)) hU ho0 (by decide) rfl rfl ?_
    refine pr_icmp_ge hC 85 (by decide +kernel : decode cX5_firstOn 18 = .ok (.if_icmp .ge 67, 3)) (by decide) (fun c_18 => ?_) (fun c_18 => ?_)
    · replace H := H.1 c_18
      exact pv_sub [none, none, none, none, none, none] (trivial) (hk_85 U h H hU)
    replace H := H.2 c_18
    refine pr_iload_n hC (by decide +kernel : decode cX5_firstOn 21 = .ok (.iload_n 1, 1)) rfl ?_
    refine pr_iload_n hC (by decide +kernel : decode cX5_firstOn 22 = .ok (.iload_n 2, 1)) rfl ?_
    refine pr_icmp_eq hC 85 (by decide +kernel : decode cX5_firstOn 23 = .ok (.if_icmp .eq 62, 3)) (by decide) (fun c_23 => ?_) (fun c_23 => ?_)
    · replace H := H.1 c_23
      exact pv_sub [none, none, none, none, none, none] (trivial) (hk_85 U h H hU)
    replace H := H.2 c_23
    refine pr_iload_n hC (by decide +kernel : decode cX5_firstOn 26 = .ok (.iload_n 3, 1)) rfl ?_
    refine pr_iconst hC (-1) (by decide +kernel : decode cX5_firstOn 27 = .ok (.iconst (-1), 1)) rfl ?_
    refine pr_icmp_eq hC 85 (by decide +kernel : decode cX5_firstOn 28 = .ok (.if_icmp .eq 57, 3)) (by decide) (fun c_28 => ?_) (fun c_28 => ?_)
    · replace H := H.1 c_28
      exact pv_sub [none, none, none, none, none, none] (trivial) (hk_85 U h H hU)
    replace H := H.2 c_28
    refine pr_aload_n hC (by decide +kernel : decode cX5_firstOn 31 = .ok (.aload_n 0, 1)) rfl ?_
    refine pu_g1 hC fg_X5_16 (by decide +kernel : decode cX5_firstOn 32 = .ok (.getfield 16, 3)) hU ho0 (by decide) rfl (by decide) ?_
    refine pr_iload hC (by decide +kernel : decode cX5_firstOn 35 = .ok (.iload 4, 2)) rfl ?_
    have q_3 := H.1
    replace H := H.2
    refine pu_aald6 hC (by decide +kernel : decode cX5_firstOn 37 = .ok (.aaload, 1)) hU ho0 rfl q_3 ?_
    refine pr_iload_n hC (by decide +kernel : decode cX5_firstOn 38 = .ok (.iload_n 2, 1)) rfl ?_
    refine pu_iald7 hC (by decide +kernel : decode cX5_firstOn 39 = .ok (.iaload, 1)) hU ho0 rfl (vp_lt q_3) H.1 ?_
    replace H := H.2
    refine pv_topi (fun x5_4 e_x5_4 => ?_)
    replace H := H x5_4 e_x5_4
    refine pr_istore hC (by decide +kernel : decode cX5_firstOn 40 = .ok (.istore 5, 2)) (by decide) rfl ?_
    refine pr_aload_n hC (by decide +kernel : decode cX5_firstOn 42 = .ok (.aload_n 0, 1)) rfl ?_
    refine pu_g1 hC fg_X5_13 (by decide +kernel : decode cX5_firstOn 43 = .ok (.getfield 13, 3)) hU ho0 (by decide) rfl (by decide) ?_
    refine pr_iload_n hC (by decide +kernel : decode cX5_firstOn 46 = .ok (.iload_n 1, 1)) rfl ?_
    have q_5 := H.1
    replace H := H.2
    refine pu_aald6 hC (by decide +kernel : decode cX5_firstOn 47 = .ok (.aaload, 1)) hU ho0 rfl q_5 ?_
    refine pr_iload hC (by decide +kernel : decode cX5_firstOn 48 = .ok (.iload 4, 2)) rfl ?_
    refine pu_iald7 hC (by decide +kernel : decode cX5_firstOn 50 = .ok (.iaload, 1)) hU ho0 rfl (vp_lt q_5) H.1 ?_
    replace H := H.2
    refine pr_if_le hC 79 (by decide +kernel : decode cX5_firstOn 51 = .ok (.ifCond .le 28, 3)) (by decide) (fun c_51 => ?_) (fun c_51 => ?_)
    · replace H := H.1 c_51
      refine pv_iinc hC (v := x4 + 1) (by decide +kernel : decode cX5_firstOn 79 = .ok (.iinc 4 1, 3)) rfl (by decide) rfl rfl (fun x4_6 e_x4_6 => ?_)
      replace H := H x4_6 e_x4_6
      refine pr_goto hC 12 (by decide +kernel : decode cX5_firstOn 82 = .ok (.goto (-70), 3)) (by decide) ?_
      exact pv_sub [some (.ref (Y.2.1 o0)), some (.int x1), some (.int x2), some (.int x3), some (.int x4_6), none] (And.intro rfl (And.intro rfl (And.intro rfl (And.intro rfl (And.intro rfl trivial))))) (ih _ U h hU H)
    replace H := H.2 c_51
    refine pr_iload hC (by decide +kernel : decode cX5_firstOn 54 = .ok (.iload 5, 2)) rfl ?_
    refine pr_iconst hC (-1) (by decide +kernel : decode cX5_firstOn 56 = .ok (.iconst (-1), 1)) rfl ?_
    refine pr_icmp_eq hC 79 (by decide +kernel : decode cX5_firstOn 57 = .ok (.if_icmp .eq 22, 3)) (by decide) (fun c_57 => ?_) (fun c_57 => ?_)
    · replace H := H.1 c_57
      refine pv_iinc hC (v := x4 + 1) (by decide +kernel : decode cX5_firstOn 79 = .ok (.iinc 4 1, 3)) rfl (by decide) rfl rfl (fun x4_7 e_x4_7 => ?_)
      replace H := H x4_7 e_x4_7
      refine pr_goto hC 12 (by decide +kernel : decode cX5_firstOn 82 = .ok (.goto (-70), 3)) (by decide) ?_
      exact pv_sub [some (.ref (Y.2.1 o0)), some (.int x1), some (.int x2), some (.int x3), some (.int x4_7), none] (And.intro rfl (And.intro rfl (And.intro rfl (And.intro rfl (And.intro rfl trivial))))) (ih _ U h hU H)
    replace H := H.2 c_57
    refine pr_aload_n hC (by decide +kernel : decode cX5_firstOn 60 = .ok (.aload_n 0, 1)) rfl ?_
    refine pu_g1 hC fg_X5_13 (by decide +kernel : decode cX5_firstOn 61 = .ok (.getfield 13, 3)) hU ho0 (by decide) rfl (by decide) ?_
    refine pr_iload_n hC (by decide +kernel : decode cX5_firstOn 64 = .ok (.iload_n 1, 1)) rfl ?_
    have q_8 := H.1
    replace H := H.2
    refine pu_aald6 hC (by decide +kernel : decode cX5_firstOn 65 = .ok (.aaload, 1)) hU ho0 rfl q_8 ?_
    refine pr_iload hC (by decide +kernel : decode cX5_firstOn 66 = .ok (.iload 4, 2)) rfl ?_
    refine pu_iald7 hC (by decide +kernel : decode cX5_firstOn 68 = .ok (.iaload, 1)) hU ho0 rfl (vp_lt q_8) H.1 ?_
    replace H := H.2
    refine pr_iload hC (by decide +kernel : decode cX5_firstOn 69 = .ok (.iload 5, 2)) rfl ?_
    refine pr_iadd hC (by decide +kernel : decode cX5_firstOn 71 = .ok (.iadd, 1)) ?_
    refine pr_iload_n hC (by decide +kernel : decode cX5_firstOn 72 = .ok (.iload_n 3, 1)) rfl ?_
    refine pr_icmp_ne hC 79 (by decide +kernel : decode cX5_firstOn 73 = .ok (.if_icmp .ne 6, 3)) (by decide) (fun c_73 => ?_) (fun c_73 => ?_)
    · replace H := H.2 c_73
      refine pv_iinc hC (v := x4 + 1) (by decide +kernel : decode cX5_firstOn 79 = .ok (.iinc 4 1, 3)) rfl (by decide) rfl rfl (fun x4_9 e_x4_9 => ?_)
      replace H := H x4_9 e_x4_9
      refine pr_goto hC 12 (by decide +kernel : decode cX5_firstOn 82 = .ok (.goto (-70), 3)) (by decide) ?_
      exact pv_sub [some (.ref (Y.2.1 o0)), some (.int x1), some (.int x2), some (.int x3), some (.int x4_9), none] (And.intro rfl (And.intro rfl (And.intro rfl (And.intro rfl (And.intro rfl trivial))))) (ih _ U h hU H)
    replace H := H.1 c_73
    refine pr_iload hC (by decide +kernel : decode cX5_firstOn 76 = .ok (.iload 4, 2)) rfl ?_
    exact pv_iret hM (by decide +kernel : decode cX5_firstOn 78 = .ok (.ireturn, 1)) hU H
set_option maxHeartbeats 4000000 in
theorem t_X5_firstOn {l : Launch} {Y : px_Y} {o : Nat} {a1 : Int32} {a2 : Int32} {U : Um} {post : Int32 → Um → Prop} (ho : oc o = 4) (H : w_X5_firstOn o a1 a2 U post) : um l Y 0 yX5_firstOn cX5_firstOn 6 (some (.int)) [.ref (Y.2.1 o), .int a1, .int a2] U (pq_i post) := by
  unfold w_X5_firstOn at H
  refine um_of (by decide) (Nat.le_of_ble_eq_true rfl) [some (.ref (Y.2.1 o)), some (.int a1), some (.int a2), none, none, none] rfl (fun X h0 hh sz hM hU => ?_)
  have hC := hM.1
  have hR := hM.2.2.1
  refine pr_aload_n hC (by decide +kernel : decode cX5_firstOn 0 = .ok (.aload_n 0, 1)) rfl ?_
  refine pu_g1 hC fg_X5_16 (by decide +kernel : decode cX5_firstOn 1 = .ok (.getfield 16, 3)) hU ho (by decide) rfl (by decide) ?_
  refine pr_iload_n hC (by decide +kernel : decode cX5_firstOn 4 = .ok (.iload_n 1, 1)) rfl ?_
  have q_1 := H.1
  replace H := H.2
  refine pu_aald6 hC (by decide +kernel : decode cX5_firstOn 5 = .ok (.aaload, 1)) hU ho rfl q_1 ?_
  refine pr_iload_n hC (by decide +kernel : decode cX5_firstOn 6 = .ok (.iload_n 2, 1)) rfl ?_
  refine pu_iald7 hC (by decide +kernel : decode cX5_firstOn 7 = .ok (.iaload, 1)) hU ho rfl (vp_lt q_1) H.1 ?_
  replace H := H.2
  refine pv_topi (fun x3_2 e_x3_2 => ?_)
  replace H := H x3_2 e_x3_2
  refine pr_istore_n hC (by decide +kernel : decode cX5_firstOn 8 = .ok (.istore_n 3, 1)) (by decide) rfl ?_
  refine pr_iconst hC (0) (by decide +kernel : decode cX5_firstOn 9 = .ok (.iconst 0, 1)) rfl ?_
  refine pr_istore hC (by decide +kernel : decode cX5_firstOn 10 = .ok (.istore 4, 2)) (by decide) rfl ?_
  obtain ⟨n_11, H⟩ := H
  refine pv_sub [some (.ref (Y.2.1 o)), some (.int a1), some (.int a2), some (.int x3_2), some (.int 0), none] (And.intro rfl (And.intro rfl (And.intro rfl (And.intro rfl (And.intro rfl trivial))))) ?_
  refine tl_X5_firstOn_L12 _ _ _ _ _ _ ho hC hM hR (fun U_10 h H hU => ?_) n_11 _ U hh hU H
  refine pr_iconst hC (-1) (by decide +kernel : decode cX5_firstOn 85 = .ok (.iconst (-1), 1)) rfl ?_
  exact pv_iret hM (by decide +kernel : decode cX5_firstOn 86 = .ok (.ireturn, 1)) hU H
def b_X5_middle_L20 (o0 : Nat) (x1 : Int32) (x2 : Int32) (x3 : Int32) (post : Int32 → Um → Prop) (k_47 : Int32 → Um → Prop) (rec_ : Int32 → Int32 → Um → Prop) (x4 : Int32) (x5 : Int32) (U : Um) : Prop :=
  ((uI U o0 0) ≤ x5 → k_47 x4 U) ∧ (¬ (uI U o0 0) ≤ x5 → w_X5_stretch o0 x3 x5 U (fun r_2 U_1 => ∀ (x4_3 : Int32), x4_3 = x4 + r_2 → ∀ (x5_4 : Int32), x5_4 = x5 + 1 → rec_ x4_3 x5_4 U_1))
def w_X5_middle_L20 (o0 : Nat) (x1 : Int32) (x2 : Int32) (x3 : Int32) (post : Int32 → Um → Prop) (k_47 : Int32 → Um → Prop) (n_ : Nat) : Int32 → Int32 → Um → Prop := Nat.rec (motive := fun _ => Int32 → Int32 → Um → Prop) (fun _ _ _ => False) (fun _ ih => b_X5_middle_L20 o0 x1 x2 x3 post k_47 ih) n_
def b_X5_middle_L6 (o0 : Nat) (post : Int32 → Um → Prop) (k_69 : Int32 → Um → Prop) (rec_ : Int32 → Int32 → Int32 → Um → Prop) (x1 : Int32) (x2 : Int32) (x3 : Int32) (U : Um) : Prop :=
  ((uI U o0 0) ≤ x3 → k_69 x1 U) ∧ (¬ (uI U o0 0) ≤ x3 → (∃ n_12, w_X5_middle_L20 o0 x1 x2 x3 post (fun x4_5 U_6 => (x1 = (-1) → ∀ (x1_7 : Int32), x1_7 = x3 → ∀ (x3_8 : Int32), x3_8 = x3 + 1 → rec_ x1_7 x4_5 x3_8 U_6) ∧ (¬ x1 = (-1) → (x2 ≤ x4_5 → ∀ (x3_9 : Int32), x3_9 = x3 + 1 → rec_ x1 x2 x3_9 U_6) ∧ (¬ x2 ≤ x4_5 → ∀ (x1_10 : Int32), x1_10 = x3 → ∀ (x3_11 : Int32), x3_11 = x3 + 1 → rec_ x1_10 x4_5 x3_11 U_6))) n_12 0 0 U))
def w_X5_middle_L6 (o0 : Nat) (post : Int32 → Um → Prop) (k_69 : Int32 → Um → Prop) (n_ : Nat) : Int32 → Int32 → Int32 → Um → Prop := Nat.rec (motive := fun _ => Int32 → Int32 → Int32 → Um → Prop) (fun _ _ _ _ => False) (fun _ ih => b_X5_middle_L6 o0 post k_69 ih) n_
def w_X5_middle (o : Nat) (U : Um) (post : Int32 → Um → Prop) : Prop :=
  (∃ n_15, w_X5_middle_L6 o post (fun x1_13 U_14 => post x1_13 U_14) n_15 (-1) 0 0 U)
set_option maxHeartbeats 4000000 in
theorem tl_X5_middle_L20 {l : Launch} {Y : px_Y} {X : px_X} {h0 hh : pe_H} {sz : Nat} (o0 : Nat) (x1 : Int32) (x2 : Int32) (x3 : Int32) (post : Int32 → Um → Prop) (k_47 : Int32 → Um → Prop) (ho0 : oc o0 = 4)  (hC : px_C X Y.1 (pm_A hh sz) cX5_middle RX5 6) (hM : px_M l X Y.1 hh sz yX5_middle cX5_middle 6 (some (.int)) 1 0 0) (hR : X.2.2.2.1 = pm_rm 1 0 0) (hk_47 : ∀ (y4 : Int32) (U : Um) (h : pe_H), k_47 y4 U → rF Y h0 U h → pw X Y.1 (pm_A hh sz) (pm_E X Y.1 hh sz 0 0 (pm_P Y h0 sz (pq_i post))) 47 [some (.ref (Y.2.1 o0)), some (.int x1), some (.int x2), some (.int x3), some (.int y4), none] [] h sz 0 0) : ∀ (n_ : Nat) (x4 : Int32) (x5 : Int32) (U : Um) (h : pe_H), rF Y h0 U h → w_X5_middle_L20 o0 x1 x2 x3 post k_47 n_ x4 x5 U → pw X Y.1 (pm_A hh sz) (pm_E X Y.1 hh sz 0 0 (pm_P Y h0 sz (pq_i post))) 20 [some (.ref (Y.2.1 o0)), some (.int x1), some (.int x2), some (.int x3), some (.int x4), some (.int x5)] [] h sz 0 0 := by
  intro n_
  induction n_ with
  | zero => intro x4 x5 U h hU H; exact False.elim H
  | succ n_ ih =>
    intro x4 x5 U h hU H
    replace H : b_X5_middle_L20 o0 x1 x2 x3 post k_47 (w_X5_middle_L20 o0 x1 x2 x3 post k_47 n_) x4 x5 U := H
    unfold b_X5_middle_L20 at H
    refine pr_iload hC (by decide +kernel : decode cX5_middle 20 = .ok (.iload 5, 2)) rfl ?_
    refine pr_aload_n hC (by decide +kernel : decode cX5_middle 22 = .ok (.aload_n 0, 1)) rfl ?_
    refine pu_g0 hC fg_X5_19 (by decide +kernel : decode cX5_middle 23 = .ok (.getfield 19, 3)) hU ho0 (by decide) rfl rfl ?_
    refine pr_icmp_ge hC 47 (by decide +kernel : decode cX5_middle 26 = .ok (.if_icmp .ge 21, 3)) (by decide) (fun c_26 => ?_) (fun c_26 => ?_)
    · replace H := H.1 c_26
      exact pv_sub [some (.ref (Y.2.1 o0)), some (.int x1), some (.int x2), some (.int x3), some (.int x4), none] (And.intro rfl (And.intro rfl (And.intro rfl (And.intro rfl (And.intro rfl trivial))))) (hk_47 _ U h H hU)
    replace H := H.2 c_26
    refine pr_iload hC (by decide +kernel : decode cX5_middle 29 = .ok (.iload 4, 2)) rfl ?_
    refine pr_aload_n hC (by decide +kernel : decode cX5_middle 31 = .ok (.aload_n 0, 1)) rfl ?_
    refine pr_iload_n hC (by decide +kernel : decode cX5_middle 32 = .ok (.iload_n 3, 1)) rfl ?_
    refine pr_iload hC (by decide +kernel : decode cX5_middle 33 = .ok (.iload 5, 2)) rfl ?_
    refine vc_Vi hC hR [.int x3, .int x5] fv_X5_27 (by decide +kernel : decode cX5_middle 35 = .ok (.invokevirtual 27, 3)) hU (t_X5_stretch ho0 H) ho0 (by decide) rfl rfl rfl (Nat.le_of_ble_eq_true rfl) (Nat.le_of_ble_eq_true rfl) (Nat.le_refl 0) (Nat.le_refl 0) (fun r_2 U_1 h H hU => ?_)
    refine pr_iadd hC (by decide +kernel : decode cX5_middle 38 = .ok (.iadd, 1)) ?_
    refine pv_topi (fun x4_3 e_x4_3 => ?_)
    replace H := H x4_3 e_x4_3
    refine pr_istore hC (by decide +kernel : decode cX5_middle 39 = .ok (.istore 4, 2)) (by decide) rfl ?_
    refine pv_iinc hC (v := x5 + 1) (by decide +kernel : decode cX5_middle 41 = .ok (.iinc 5 1, 3)) rfl (by decide) rfl rfl (fun x5_4 e_x5_4 => ?_)
    replace H := H x5_4 e_x5_4
    refine pr_goto hC 20 (by decide +kernel : decode cX5_middle 44 = .ok (.goto (-24), 3)) (by decide) ?_
    exact pv_sub [some (.ref (Y.2.1 o0)), some (.int x1), some (.int x2), some (.int x3), some (.int x4_3), some (.int x5_4)] (And.intro rfl (And.intro rfl (And.intro rfl (And.intro rfl (And.intro rfl (And.intro rfl trivial)))))) (ih _ _ U_1 h hU H)
set_option maxHeartbeats 4000000 in
theorem tl_X5_middle_L6 {l : Launch} {Y : px_Y} {X : px_X} {h0 hh : pe_H} {sz : Nat} (o0 : Nat) (post : Int32 → Um → Prop) (k_69 : Int32 → Um → Prop) (ho0 : oc o0 = 4)  (hC : px_C X Y.1 (pm_A hh sz) cX5_middle RX5 6) (hM : px_M l X Y.1 hh sz yX5_middle cX5_middle 6 (some (.int)) 1 0 0) (hR : X.2.2.2.1 = pm_rm 1 0 0) (hk_69 : ∀ (y1 : Int32) (U : Um) (h : pe_H), k_69 y1 U → rF Y h0 U h → pw X Y.1 (pm_A hh sz) (pm_E X Y.1 hh sz 0 0 (pm_P Y h0 sz (pq_i post))) 69 [none, some (.int y1), none, none, none, none] [] h sz 0 0) : ∀ (n_ : Nat) (x1 : Int32) (x2 : Int32) (x3 : Int32) (U : Um) (h : pe_H), rF Y h0 U h → w_X5_middle_L6 o0 post k_69 n_ x1 x2 x3 U → pw X Y.1 (pm_A hh sz) (pm_E X Y.1 hh sz 0 0 (pm_P Y h0 sz (pq_i post))) 6 [some (.ref (Y.2.1 o0)), some (.int x1), some (.int x2), some (.int x3), none, none] [] h sz 0 0 := by
  intro n_
  induction n_ with
  | zero => intro x1 x2 x3 U h hU H; exact False.elim H
  | succ n_ ih =>
    intro x1 x2 x3 U h hU H
    replace H : b_X5_middle_L6 o0 post k_69 (w_X5_middle_L6 o0 post k_69 n_) x1 x2 x3 U := H
    unfold b_X5_middle_L6 at H
    refine pr_iload_n hC (by decide +kernel : decode cX5_middle 6 = .ok (.iload_n 3, 1)) rfl ?_
    refine pr_aload_n hC (by decide +kernel : decode cX5_middle 7 = .ok (.aload_n 0, 1)) rfl ?_
    refine pu_g0 hC fg_X5_19 (by decide +kernel : decode cX5_middle 8 = .ok (.getfield 19, 3)) hU ho0 (by decide) rfl rfl ?_
    refine pr_icmp_ge hC 69 (by decide +kernel : decode cX5_middle 11 = .ok (.if_icmp .ge 58, 3)) (by decide) (fun c_11 => ?_) (fun c_11 => ?_)
    · replace H := H.1 c_11
      exact pv_sub [none, some (.int x1), none, none, none, none] (And.intro rfl trivial) (hk_69 _ U h H hU)
    replace H := H.2 c_11
    refine pr_iconst hC (0) (by decide +kernel : decode cX5_middle 14 = .ok (.iconst 0, 1)) rfl ?_
    refine pr_istore hC (by decide +kernel : decode cX5_middle 15 = .ok (.istore 4, 2)) (by decide) rfl ?_
    refine pr_iconst hC (0) (by decide +kernel : decode cX5_middle 17 = .ok (.iconst 0, 1)) rfl ?_
    refine pr_istore hC (by decide +kernel : decode cX5_middle 18 = .ok (.istore 5, 2)) (by decide) rfl ?_
    obtain ⟨n_12, H⟩ := H
    refine pv_sub [some (.ref (Y.2.1 o0)), some (.int x1), some (.int x2), some (.int x3), some (.int 0), some (.int 0)] (And.intro rfl (And.intro rfl (And.intro rfl (And.intro rfl (And.intro rfl (And.intro rfl trivial)))))) ?_
    refine tl_X5_middle_L20 _ _ _ _ _ _ ho0 hC hM hR (fun x4_5 U_6 h H hU => ?_) n_12 _ _ U h hU H
    refine pr_iload_n hC (by decide +kernel : decode cX5_middle 47 = .ok (.iload_n 1, 1)) rfl ?_
    refine pr_iconst hC (-1) (by decide +kernel : decode cX5_middle 48 = .ok (.iconst (-1), 1)) rfl ?_
    refine pr_icmp_eq hC 58 (by decide +kernel : decode cX5_middle 49 = .ok (.if_icmp .eq 9, 3)) (by decide) (fun c_49 => ?_) (fun c_49 => ?_)
    · replace H := H.1 c_49
      refine pr_iload_n hC (by decide +kernel : decode cX5_middle 58 = .ok (.iload_n 3, 1)) rfl ?_
      refine pv_topi (fun x1_7 e_x1_7 => ?_)
      replace H := H x1_7 e_x1_7
      refine pr_istore_n hC (by decide +kernel : decode cX5_middle 59 = .ok (.istore_n 1, 1)) (by decide) rfl ?_
      refine pr_iload hC (by decide +kernel : decode cX5_middle 60 = .ok (.iload 4, 2)) rfl ?_
      refine pr_istore_n hC (by decide +kernel : decode cX5_middle 62 = .ok (.istore_n 2, 1)) (by decide) rfl ?_
      refine pv_iinc hC (v := x3 + 1) (by decide +kernel : decode cX5_middle 63 = .ok (.iinc 3 1, 3)) rfl (by decide) rfl rfl (fun x3_8 e_x3_8 => ?_)
      replace H := H x3_8 e_x3_8
      refine pr_goto hC 6 (by decide +kernel : decode cX5_middle 66 = .ok (.goto (-60), 3)) (by decide) ?_
      exact pv_sub [some (.ref (Y.2.1 o0)), some (.int x1_7), some (.int x4_5), some (.int x3_8), none, none] (And.intro rfl (And.intro rfl (And.intro rfl (And.intro rfl trivial)))) (ih _ _ _ U_6 h hU H)
    replace H := H.2 c_49
    refine pr_iload hC (by decide +kernel : decode cX5_middle 52 = .ok (.iload 4, 2)) rfl ?_
    refine pr_iload_n hC (by decide +kernel : decode cX5_middle 54 = .ok (.iload_n 2, 1)) rfl ?_
    refine pr_icmp_ge hC 63 (by decide +kernel : decode cX5_middle 55 = .ok (.if_icmp .ge 8, 3)) (by decide) (fun c_55 => ?_) (fun c_55 => ?_)
    · replace H := H.1 c_55
      refine pv_iinc hC (v := x3 + 1) (by decide +kernel : decode cX5_middle 63 = .ok (.iinc 3 1, 3)) rfl (by decide) rfl rfl (fun x3_9 e_x3_9 => ?_)
      replace H := H x3_9 e_x3_9
      refine pr_goto hC 6 (by decide +kernel : decode cX5_middle 66 = .ok (.goto (-60), 3)) (by decide) ?_
      exact pv_sub [some (.ref (Y.2.1 o0)), some (.int x1), some (.int x2), some (.int x3_9), none, none] (And.intro rfl (And.intro rfl (And.intro rfl (And.intro rfl trivial)))) (ih _ _ _ U_6 h hU H)
    replace H := H.2 c_55
    refine pr_iload_n hC (by decide +kernel : decode cX5_middle 58 = .ok (.iload_n 3, 1)) rfl ?_
    refine pv_topi (fun x1_10 e_x1_10 => ?_)
    replace H := H x1_10 e_x1_10
    refine pr_istore_n hC (by decide +kernel : decode cX5_middle 59 = .ok (.istore_n 1, 1)) (by decide) rfl ?_
    refine pr_iload hC (by decide +kernel : decode cX5_middle 60 = .ok (.iload 4, 2)) rfl ?_
    refine pr_istore_n hC (by decide +kernel : decode cX5_middle 62 = .ok (.istore_n 2, 1)) (by decide) rfl ?_
    refine pv_iinc hC (v := x3 + 1) (by decide +kernel : decode cX5_middle 63 = .ok (.iinc 3 1, 3)) rfl (by decide) rfl rfl (fun x3_11 e_x3_11 => ?_)
    replace H := H x3_11 e_x3_11
    refine pr_goto hC 6 (by decide +kernel : decode cX5_middle 66 = .ok (.goto (-60), 3)) (by decide) ?_
    exact pv_sub [some (.ref (Y.2.1 o0)), some (.int x1_10), some (.int x4_5), some (.int x3_11), none, none] (And.intro rfl (And.intro rfl (And.intro rfl (And.intro rfl trivial)))) (ih _ _ _ U_6 h hU H)
set_option maxHeartbeats 4000000 in
theorem t_X5_middle {l : Launch} {Y : px_Y} {o : Nat} {U : Um} {post : Int32 → Um → Prop} (ho : oc o = 4) (H : w_X5_middle o U post) : um l Y 1 yX5_middle cX5_middle 6 (some (.int)) [.ref (Y.2.1 o)] U (pq_i post) := by
  unfold w_X5_middle at H
  refine um_of (by decide) (Nat.le_of_ble_eq_true rfl) [some (.ref (Y.2.1 o)), none, none, none, none, none] rfl (fun X h0 hh sz hM hU => ?_)
  have hC := hM.1
  have hR := hM.2.2.1
  refine pr_iconst hC (-1) (by decide +kernel : decode cX5_middle 0 = .ok (.iconst (-1), 1)) rfl ?_
  refine pr_istore_n hC (by decide +kernel : decode cX5_middle 1 = .ok (.istore_n 1, 1)) (by decide) rfl ?_
  refine pr_iconst hC (0) (by decide +kernel : decode cX5_middle 2 = .ok (.iconst 0, 1)) rfl ?_
  refine pr_istore_n hC (by decide +kernel : decode cX5_middle 3 = .ok (.istore_n 2, 1)) (by decide) rfl ?_
  refine pr_iconst hC (0) (by decide +kernel : decode cX5_middle 4 = .ok (.iconst 0, 1)) rfl ?_
  refine pr_istore_n hC (by decide +kernel : decode cX5_middle 5 = .ok (.istore_n 3, 1)) (by decide) rfl ?_
  obtain ⟨n_15, H⟩ := H
  refine pv_sub [some (.ref (Y.2.1 o)), some (.int (-1)), some (.int 0), some (.int 0), none, none] (And.intro rfl (And.intro rfl (And.intro rfl (And.intro rfl trivial)))) ?_
  refine tl_X5_middle_L6 _ _ _ ho hC hM hR (fun x1_13 U_14 h H hU => ?_) n_15 _ _ _ U hh hU H
  refine pr_iload_n hC (by decide +kernel : decode cX5_middle 69 = .ok (.iload_n 1, 1)) rfl ?_
  exact pv_iret hM (by decide +kernel : decode cX5_middle 70 = .ok (.ireturn, 1)) hU H
