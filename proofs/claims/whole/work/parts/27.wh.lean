def w_X12_round (o : Nat) (a1 : Int32) (a2 : Int32) (U : Um) (post : Int32 → Um → Prop) : Prop :=
  ∀ (U_1 : Um), U_1 = sI U o 0 0 → w_X12_isOne o a1 U_1 (fun r_3 U_2 => (r_3 = 0 → post (-1) U_2) ∧ (¬ r_3 = 0 → w_X12_isIn (Int32.toInt64 a2) 0 6 U_2 (fun r_5 U_4 => (r_5 = 0 → post (-1) U_4) ∧ (¬ r_5 = 0 → w_X12_roundOf o a1 a2 (-1) (-1) U_4 (fun r_7 U_6 => post r_7 U_6)))))
set_option maxHeartbeats 4000000 in
theorem t_X12_round {l : Launch} {Y : px_Y} {o : Nat} {a1 : Int32} {a2 : Int32} {U : Um} {post : Int32 → Um → Prop} (ho : oc o = 10) (H : w_X12_round o a1 a2 U post) : um l Y 4 yX12_round cX12_round 3 (some (.int)) [.ref (Y.2.1 o), .int a1, .int a2] U (pq_i post) := by
  unfold w_X12_round at H
  refine um_of (by decide) (Nat.le_of_ble_eq_true rfl) [some (.ref (Y.2.1 o)), some (.int a1), some (.int a2)] rfl (fun X h0 hh sz hM hU => ?_)
  have hC := hM.1
  have hR := hM.2.2.1
  refine pr_aload_n hC (by decide +kernel : decode cX12_round 0 = .ok (.aload_n 0, 1)) rfl ?_
  refine pr_iconst hC (0) (by decide +kernel : decode cX12_round 1 = .ok (.iconst 0, 1)) rfl ?_
  refine pv_p0 hC fp_X12_121 (by decide +kernel : decode cX12_round 2 = .ok (.putfield 121, 3)) hU ho (by decide) rfl rfl rfl rfl (fun U_1 h e_U_1 hU => ?_)
  replace H := H U_1 e_U_1
  refine pr_aload_n hC (by decide +kernel : decode cX12_round 5 = .ok (.aload_n 0, 1)) rfl ?_
  refine pr_iload_n hC (by decide +kernel : decode cX12_round 6 = .ok (.iload_n 1, 1)) rfl ?_
  refine vc_Vi hC hR [.int a1] fv_X12_368 (by decide +kernel : decode cX12_round 7 = .ok (.invokevirtual 368, 3)) hU (t_X12_isOne ho H) ho (by decide) rfl rfl rfl (Nat.le_of_ble_eq_true rfl) (Nat.le_of_ble_eq_true rfl) (Nat.le_refl 0) (Nat.le_refl 0) (fun r_3 U_2 h H hU => ?_)
  refine pr_if_eq hC 36 (by decide +kernel : decode cX12_round 10 = .ok (.ifCond .eq 26, 3)) (by decide) (fun c_10 => ?_) (fun c_10 => ?_)
  · replace H := H.1 c_10
    refine pr_iconst hC (-1) (by decide +kernel : decode cX12_round 36 = .ok (.iconst (-1), 1)) rfl ?_
    exact pv_iret hM (by decide +kernel : decode cX12_round 37 = .ok (.ireturn, 1)) hU H
  replace H := H.2 c_10
  refine pr_iload_n hC (by decide +kernel : decode cX12_round 13 = .ok (.iload_n 2, 1)) rfl ?_
  refine pr_i2l hC (by decide +kernel : decode cX12_round 14 = .ok (.i2l, 1)) ?_
  refine pr_lconst hC (0) (by decide +kernel : decode cX12_round 15 = .ok (.lconst 0, 1)) rfl ?_
  refine pr_ldc2 hC (6) (by decide +kernel : decode cX12_round 16 = .ok (.ldc2_w 452, 3)) fk_X12_452 ?_
  refine vc_Si hC hR [.long (Int32.toInt64 a2), .long 0, .long 6] fv_X12_131 (by decide +kernel : decode cX12_round 19 = .ok (.invokestatic 131, 3)) hU (t_X12_isIn  H) rfl rfl (Nat.le_of_ble_eq_true rfl) (Nat.le_of_ble_eq_true rfl) (Nat.le_refl 0) (Nat.le_refl 0) (fun r_5 U_4 h H hU => ?_)
  refine pr_if_eq hC 36 (by decide +kernel : decode cX12_round 22 = .ok (.ifCond .eq 14, 3)) (by decide) (fun c_22 => ?_) (fun c_22 => ?_)
  · replace H := H.1 c_22
    refine pr_iconst hC (-1) (by decide +kernel : decode cX12_round 36 = .ok (.iconst (-1), 1)) rfl ?_
    exact pv_iret hM (by decide +kernel : decode cX12_round 37 = .ok (.ireturn, 1)) hU H
  replace H := H.2 c_22
  refine pr_aload_n hC (by decide +kernel : decode cX12_round 25 = .ok (.aload_n 0, 1)) rfl ?_
  refine pr_iload_n hC (by decide +kernel : decode cX12_round 26 = .ok (.iload_n 1, 1)) rfl ?_
  refine pr_iload_n hC (by decide +kernel : decode cX12_round 27 = .ok (.iload_n 2, 1)) rfl ?_
  refine pr_iconst hC (-1) (by decide +kernel : decode cX12_round 28 = .ok (.iconst (-1), 1)) rfl ?_
  refine pr_iconst hC (-1) (by decide +kernel : decode cX12_round 29 = .ok (.iconst (-1), 1)) rfl ?_
  refine vc_Vi hC hR [.int a1, .int a2, .int (-1), .int (-1)] fv_X12_446 (by decide +kernel : decode cX12_round 30 = .ok (.invokevirtual 446, 3)) hU (t_X12_roundOf ho H) ho (by decide) rfl rfl rfl (Nat.le_of_ble_eq_true rfl) (Nat.le_of_ble_eq_true rfl) (Nat.le_refl 0) (Nat.le_refl 0) (fun r_7 U_6 h H hU => ?_)
  refine pr_goto hC 37 (by decide +kernel : decode cX12_round 33 = .ok (.goto 4, 3)) (by decide) ?_
  exact pv_iret hM (by decide +kernel : decode cX12_round 37 = .ok (.ireturn, 1)) hU H
def b_X12_trip_L57 (o0 : Nat) (x1 : Int32) (x3 : Int32) (x4 : Int32) (post : Int32 → Um → Prop) (k_89 : Int32 → Um → Prop) (rec_ : Int32 → Int32 → Um → Prop) (x5 : Int32) (x6 : Int32) (U : Um) : Prop :=
  (x4 ≤ x6 → k_89 x5 U) ∧ (¬ x4 ≤ x6 → vp_in x6 16 ∧ w_X12_of o0 (uA U o0 39 (Int32.toNatClampNeg x6)) 2 U (fun r_11 U_10 => ∀ (x5_12 : Int32), x5_12 = x5 ||| ((1 : Int32) <<< (r_11 &&& 31)) → ∀ (x6_13 : Int32), x6_13 = x6 + 1 → rec_ x5_12 x6_13 U_10))
def w_X12_trip_L57 (o0 : Nat) (x1 : Int32) (x3 : Int32) (x4 : Int32) (post : Int32 → Um → Prop) (k_89 : Int32 → Um → Prop) (n_ : Nat) : Int32 → Int32 → Um → Prop := Nat.rec (motive := fun _ => Int32 → Int32 → Um → Prop) (fun _ _ _ => False) (fun _ ih => b_X12_trip_L57 o0 x1 x3 x4 post k_89 ih) n_
def w_X12_trip (o : Nat) (a1 : Int32) (a2 : Int32) (a3 : Int32) (U : Um) (post : Int32 → Um → Prop) : Prop :=
  ∀ (U_1 : Um), U_1 = sI U o 0 0 → w_X12_isOne o a1 U_1 (fun r_3 U_2 => (r_3 = 0 → post (-10000) U_2) ∧ (¬ r_3 = 0 → w_X12_isIn (Int32.toInt64 a2) 0 6 U_2 (fun r_5 U_4 => (r_5 = 0 → post (-10000) U_4) ∧ (¬ r_5 = 0 → w_X12_isIn (Int32.toInt64 a3) 0 3 U_4 (fun r_7 U_6 => (r_7 = 0 → post (-10000) U_6) ∧ (¬ r_7 = 0 → w_X12_laysDay o a1 a2 (-1) (-1) U_6 (fun r_9 U_8 => (∃ n_27, w_X12_trip_L57 o a1 a3 r_9 post (fun x5_14 U_15 => (a3 ≤ 1 → (r_9 = 0 → post (-10000) U_15) ∧ (¬ r_9 = 0 → ∀ (xs_16 : Int32), xs_16 = (if a3 = 0 then 0 else r_9 - 1) → vp_in xs_16 16 ∧ ∀ (x6_17 : Int32), x6_17 = uA U_15 o 39 (Int32.toNatClampNeg xs_16) → vp_in a1 20 ∧ w_X12_of o x6_17 2 U_15 (fun r_19 U_18 => w_X12_wayOf o (uA U_15 o 6 (Int32.toNatClampNeg a1)) r_19 U_18 (fun r_21 U_20 => (r_21 = (-1) → post (-10000) U_20) ∧ (¬ r_21 = (-1) → (a3 = 0 → w_X12_of o x6_17 4 U_20 (fun r_23 U_22 => vp_in 4 14 ∧ post ((r_23 - (uA U_22 o 11 (Int32.toNatClampNeg 4))) - r_21) U_22)) ∧ (¬ a3 = 0 → w_X12_endOf o x6_17 U_20 (fun r_25 U_24 => post (r_25 + r_21) U_24))))))) ∧ (¬ a3 ≤ 1 → (a3 = 2 → post x5_14 U_15) ∧ (¬ a3 = 2 → post r_9 U_15))) n_27 0 0 U_8))))))))
set_option maxHeartbeats 4000000 in
theorem tl_X12_trip_L57 {l : Launch} {Y : px_Y} {X : px_X} {h0 hh : pe_H} {sz : Nat} (o0 : Nat) (x1 : Int32) (x3 : Int32) (x4 : Int32) (post : Int32 → Um → Prop) (k_89 : Int32 → Um → Prop) (ho0 : oc o0 = 10)  (hC : px_C X Y.1 (pm_A hh sz) cX12_trip RX12 8) (hM : px_M l X Y.1 hh sz yX12_trip cX12_trip 8 (some (.int)) 3 0 0) (hR : X.2.2.2.1 = pm_rm 3 0 0) (hk_89 : ∀ (y5 : Int32) (U : Um) (h : pe_H), k_89 y5 U → rF Y h0 U h → pw X Y.1 (pm_A hh sz) (pm_E X Y.1 hh sz 0 0 (pm_P Y h0 sz (pq_i post))) 89 [some (.ref (Y.2.1 o0)), some (.int x1), none, some (.int x3), some (.int x4), some (.int y5), none, none] [] h sz 0 0) : ∀ (n_ : Nat) (x5 : Int32) (x6 : Int32) (U : Um) (h : pe_H), rF Y h0 U h → w_X12_trip_L57 o0 x1 x3 x4 post k_89 n_ x5 x6 U → pw X Y.1 (pm_A hh sz) (pm_E X Y.1 hh sz 0 0 (pm_P Y h0 sz (pq_i post))) 57 [some (.ref (Y.2.1 o0)), some (.int x1), none, some (.int x3), some (.int x4), some (.int x5), some (.int x6), none] [] h sz 0 0 := by
  intro n_
  induction n_ with
  | zero => intro x5 x6 U h hU H; exact False.elim H
  | succ n_ ih =>
    intro x5 x6 U h hU H
    replace H : b_X12_trip_L57 o0 x1 x3 x4 post k_89 (w_X12_trip_L57 o0 x1 x3 x4 post k_89 n_) x5 x6 U := H
    unfold b_X12_trip_L57 at H
    refine pr_iload hC (by decide +kernel : decode cX12_trip 57 = .ok (.iload 6, 2)) rfl ?_
    refine pr_iload hC (by decide +kernel : decode cX12_trip 59 = .ok (.iload 4, 2)) rfl ?_
    refine pr_icmp_ge hC 89 (by decide +kernel : decode cX12_trip 61 = .ok (.if_icmp .ge 28, 3)) (by decide) (fun c_61 => ?_) (fun c_61 => ?_)
    · replace H := H.1 c_61
      exact pv_sub [some (.ref (Y.2.1 o0)), some (.int x1), none, some (.int x3), some (.int x4), some (.int x5), none, none] (And.intro rfl (And.intro rfl (And.intro rfl (And.intro rfl (And.intro rfl trivial))))) (hk_89 _ U h H hU)
    replace H := H.2 c_61
    refine pr_iload hC (by decide +kernel : decode cX12_trip 64 = .ok (.iload 5, 2)) rfl ?_
    refine pr_iconst hC (1) (by decide +kernel : decode cX12_trip 66 = .ok (.iconst 1, 1)) rfl ?_
    refine pr_aload_n hC (by decide +kernel : decode cX12_trip 67 = .ok (.aload_n 0, 1)) rfl ?_
    refine pr_aload_n hC (by decide +kernel : decode cX12_trip 68 = .ok (.aload_n 0, 1)) rfl ?_
    refine pu_g1 hC fg_X12_84 (by decide +kernel : decode cX12_trip 69 = .ok (.getfield 84, 3)) hU ho0 (by decide) rfl (by decide) ?_
    refine pr_iload hC (by decide +kernel : decode cX12_trip 72 = .ok (.iload 6, 2)) rfl ?_
    refine pu_iald hC (by decide +kernel : decode cX12_trip 74 = .ok (.iaload, 1)) hU ho0 rfl H.1 ?_
    replace H := H.2
    refine pr_iconst hC (2) (by decide +kernel : decode cX12_trip 75 = .ok (.iconst 2, 1)) rfl ?_
    refine vc_Vi hC hR [.int (uA U o0 39 (Int32.toNatClampNeg x6)), .int 2] fv_X12_353 (by decide +kernel : decode cX12_trip 76 = .ok (.invokevirtual 353, 3)) hU (t_X12_of ho0 H) ho0 (by decide) rfl rfl rfl (Nat.le_of_ble_eq_true rfl) (Nat.le_of_ble_eq_true rfl) (Nat.le_refl 0) (Nat.le_refl 0) (fun r_11 U_10 h H hU => ?_)
    refine pr_ishl hC (by decide +kernel : decode cX12_trip 79 = .ok (.ishl, 1)) ?_
    refine pr_ior hC (by decide +kernel : decode cX12_trip 80 = .ok (.ior, 1)) ?_
    refine pv_topi (fun x5_12 e_x5_12 => ?_)
    replace H := H x5_12 e_x5_12
    refine pr_istore hC (by decide +kernel : decode cX12_trip 81 = .ok (.istore 5, 2)) (by decide) rfl ?_
    refine pv_iinc hC (v := x6 + 1) (by decide +kernel : decode cX12_trip 83 = .ok (.iinc 6 1, 3)) rfl (by decide) rfl rfl (fun x6_13 e_x6_13 => ?_)
    replace H := H x6_13 e_x6_13
    refine pr_goto hC 57 (by decide +kernel : decode cX12_trip 86 = .ok (.goto (-29), 3)) (by decide) ?_
    exact pv_sub [some (.ref (Y.2.1 o0)), some (.int x1), none, some (.int x3), some (.int x4), some (.int x5_12), some (.int x6_13), none] (And.intro rfl (And.intro rfl (And.intro rfl (And.intro rfl (And.intro rfl (And.intro rfl trivial)))))) (ih _ _ U_10 h hU H)
set_option maxHeartbeats 4000000 in
theorem t_X12_trip {l : Launch} {Y : px_Y} {o : Nat} {a1 : Int32} {a2 : Int32} {a3 : Int32} {U : Um} {post : Int32 → Um → Prop} (ho : oc o = 10) (H : w_X12_trip o a1 a2 a3 U post) : um l Y 3 yX12_trip cX12_trip 8 (some (.int)) [.ref (Y.2.1 o), .int a1, .int a2, .int a3] U (pq_i post) := by
  unfold w_X12_trip at H
  refine um_of (by decide) (Nat.le_of_ble_eq_true rfl) [some (.ref (Y.2.1 o)), some (.int a1), some (.int a2), some (.int a3), none, none, none, none] rfl (fun X h0 hh sz hM hU => ?_)
  have hC := hM.1
  have hR := hM.2.2.1
  refine pr_aload_n hC (by decide +kernel : decode cX12_trip 0 = .ok (.aload_n 0, 1)) rfl ?_
  refine pr_iconst hC (0) (by decide +kernel : decode cX12_trip 1 = .ok (.iconst 0, 1)) rfl ?_
  refine pv_p0 hC fp_X12_121 (by decide +kernel : decode cX12_trip 2 = .ok (.putfield 121, 3)) hU ho (by decide) rfl rfl rfl rfl (fun U_1 h e_U_1 hU => ?_)
  replace H := H U_1 e_U_1
  refine pr_aload_n hC (by decide +kernel : decode cX12_trip 5 = .ok (.aload_n 0, 1)) rfl ?_
  refine pr_iload_n hC (by decide +kernel : decode cX12_trip 6 = .ok (.iload_n 1, 1)) rfl ?_
  refine vc_Vi hC hR [.int a1] fv_X12_368 (by decide +kernel : decode cX12_trip 7 = .ok (.invokevirtual 368, 3)) hU (t_X12_isOne ho H) ho (by decide) rfl rfl rfl (Nat.le_of_ble_eq_true rfl) (Nat.le_of_ble_eq_true rfl) (Nat.le_refl 0) (Nat.le_refl 0) (fun r_3 U_2 h H hU => ?_)
  refine pr_if_eq hC 37 (by decide +kernel : decode cX12_trip 10 = .ok (.ifCond .eq 27, 3)) (by decide) (fun c_10 => ?_) (fun c_10 => ?_)
  · replace H := H.1 c_10
    refine pr_sipush hC (-10000) (by decide +kernel : decode cX12_trip 37 = .ok (.sipush (-10000), 3)) rfl ?_
    exact pv_iret hM (by decide +kernel : decode cX12_trip 40 = .ok (.ireturn, 1)) hU H
  replace H := H.2 c_10
  refine pr_iload_n hC (by decide +kernel : decode cX12_trip 13 = .ok (.iload_n 2, 1)) rfl ?_
  refine pr_i2l hC (by decide +kernel : decode cX12_trip 14 = .ok (.i2l, 1)) ?_
  refine pr_lconst hC (0) (by decide +kernel : decode cX12_trip 15 = .ok (.lconst 0, 1)) rfl ?_
  refine pr_ldc2 hC (6) (by decide +kernel : decode cX12_trip 16 = .ok (.ldc2_w 452, 3)) fk_X12_452 ?_
  refine vc_Si hC hR [.long (Int32.toInt64 a2), .long 0, .long 6] fv_X12_131 (by decide +kernel : decode cX12_trip 19 = .ok (.invokestatic 131, 3)) hU (t_X12_isIn  H) rfl rfl (Nat.le_of_ble_eq_true rfl) (Nat.le_of_ble_eq_true rfl) (Nat.le_refl 0) (Nat.le_refl 0) (fun r_5 U_4 h H hU => ?_)
  refine pr_if_eq hC 37 (by decide +kernel : decode cX12_trip 22 = .ok (.ifCond .eq 15, 3)) (by decide) (fun c_22 => ?_) (fun c_22 => ?_)
  · replace H := H.1 c_22
    refine pr_sipush hC (-10000) (by decide +kernel : decode cX12_trip 37 = .ok (.sipush (-10000), 3)) rfl ?_
    exact pv_iret hM (by decide +kernel : decode cX12_trip 40 = .ok (.ireturn, 1)) hU H
  replace H := H.2 c_22
  refine pr_iload_n hC (by decide +kernel : decode cX12_trip 25 = .ok (.iload_n 3, 1)) rfl ?_
  refine pr_i2l hC (by decide +kernel : decode cX12_trip 26 = .ok (.i2l, 1)) ?_
  refine pr_lconst hC (0) (by decide +kernel : decode cX12_trip 27 = .ok (.lconst 0, 1)) rfl ?_
  refine pr_ldc2 hC (3) (by decide +kernel : decode cX12_trip 28 = .ok (.ldc2_w 454, 3)) fk_X12_454 ?_
  refine vc_Si hC hR [.long (Int32.toInt64 a3), .long 0, .long 3] fv_X12_131 (by decide +kernel : decode cX12_trip 31 = .ok (.invokestatic 131, 3)) hU (t_X12_isIn  H) rfl rfl (Nat.le_of_ble_eq_true rfl) (Nat.le_of_ble_eq_true rfl) (Nat.le_refl 0) (Nat.le_refl 0) (fun r_7 U_6 h H hU => ?_)
  refine pr_if_ne hC 41 (by decide +kernel : decode cX12_trip 34 = .ok (.ifCond .ne 7, 3)) (by decide) (fun c_34 => ?_) (fun c_34 => ?_)
  · replace H := H.2 c_34
    refine pr_aload_n hC (by decide +kernel : decode cX12_trip 41 = .ok (.aload_n 0, 1)) rfl ?_
    refine pr_iload_n hC (by decide +kernel : decode cX12_trip 42 = .ok (.iload_n 1, 1)) rfl ?_
    refine pr_iload_n hC (by decide +kernel : decode cX12_trip 43 = .ok (.iload_n 2, 1)) rfl ?_
    refine pr_iconst hC (-1) (by decide +kernel : decode cX12_trip 44 = .ok (.iconst (-1), 1)) rfl ?_
    refine pr_iconst hC (-1) (by decide +kernel : decode cX12_trip 45 = .ok (.iconst (-1), 1)) rfl ?_
    refine vc_Vi hC hR [.int a1, .int a2, .int (-1), .int (-1)] fv_X12_440 (by decide +kernel : decode cX12_trip 46 = .ok (.invokevirtual 440, 3)) hU (t_X12_laysDay ho H) ho (by decide) rfl rfl rfl (Nat.le_of_ble_eq_true rfl) (Nat.le_of_ble_eq_true rfl) (Nat.le_refl 0) (Nat.le_refl 0) (fun r_9 U_8 h H hU => ?_)
    refine pr_istore hC (by decide +kernel : decode cX12_trip 49 = .ok (.istore 4, 2)) (by decide) rfl ?_
    refine pr_iconst hC (0) (by decide +kernel : decode cX12_trip 51 = .ok (.iconst 0, 1)) rfl ?_
    refine pr_istore hC (by decide +kernel : decode cX12_trip 52 = .ok (.istore 5, 2)) (by decide) rfl ?_
    refine pr_iconst hC (0) (by decide +kernel : decode cX12_trip 54 = .ok (.iconst 0, 1)) rfl ?_
    refine pr_istore hC (by decide +kernel : decode cX12_trip 55 = .ok (.istore 6, 2)) (by decide) rfl ?_
    obtain ⟨n_27, H⟩ := H
    refine pv_sub [some (.ref (Y.2.1 o)), some (.int a1), none, some (.int a3), some (.int r_9), some (.int 0), some (.int 0), none] (And.intro rfl (And.intro rfl (And.intro rfl (And.intro rfl (And.intro rfl (And.intro rfl trivial)))))) ?_
    refine tl_X12_trip_L57 _ _ _ _ _ _ ho hC hM hR (fun x5_14 U_15 h H hU => ?_) n_27 _ _ U_8 h hU H
    refine pr_iload_n hC (by decide +kernel : decode cX12_trip 89 = .ok (.iload_n 3, 1)) rfl ?_
    refine pr_iconst hC (1) (by decide +kernel : decode cX12_trip 90 = .ok (.iconst 1, 1)) rfl ?_
    refine pr_icmp_le hC 107 (by decide +kernel : decode cX12_trip 91 = .ok (.if_icmp .le 16, 3)) (by decide) (fun c_91 => ?_) (fun c_91 => ?_)
    · replace H := H.1 c_91
      refine pr_iload hC (by decide +kernel : decode cX12_trip 107 = .ok (.iload 4, 2)) rfl ?_
      refine pr_if_ne hC 116 (by decide +kernel : decode cX12_trip 109 = .ok (.ifCond .ne 7, 3)) (by decide) (fun c_109 => ?_) (fun c_109 => ?_)
      · replace H := H.2 c_109
        refine pr_aload_n hC (by decide +kernel : decode cX12_trip 116 = .ok (.aload_n 0, 1)) rfl ?_
        refine pu_g1 hC fg_X12_84 (by decide +kernel : decode cX12_trip 117 = .ok (.getfield 84, 3)) hU ho (by decide) rfl (by decide) ?_
        refine pr_iload_n hC (by decide +kernel : decode cX12_trip 120 = .ok (.iload_n 3, 1)) rfl ?_
        have HJ_26 : ∀ (xs_16 : Int32), xs_16 = (if a3 = 0 then 0 else r_9 - 1) → pw X Y.1 (pm_A hh sz) (pm_E X Y.1 hh sz 0 0 (pm_P Y h0 sz (pq_i post))) 132 [some (.ref (Y.2.1 o)), some (.int a1), none, some (.int a3), none, none, none, none] [.int xs_16, .ref (Y.2.2 o 39)] h sz 0 0 := by
          intro xs_16 e_xs_16
          replace H := H xs_16 e_xs_16
          refine pu_iald hC (by decide +kernel : decode cX12_trip 132 = .ok (.iaload, 1)) hU ho rfl H.1 ?_
          replace H := H.2
          refine pv_topi (fun x6_17 e_x6_17 => ?_)
          replace H := H x6_17 e_x6_17
          refine pr_istore hC (by decide +kernel : decode cX12_trip 133 = .ok (.istore 6, 2)) (by decide) rfl ?_
          refine pr_aload_n hC (by decide +kernel : decode cX12_trip 135 = .ok (.aload_n 0, 1)) rfl ?_
          refine pr_aload_n hC (by decide +kernel : decode cX12_trip 136 = .ok (.aload_n 0, 1)) rfl ?_
          refine pu_g1 hC fg_X12_28 (by decide +kernel : decode cX12_trip 137 = .ok (.getfield 28, 3)) hU ho (by decide) rfl (by decide) ?_
          refine pr_iload_n hC (by decide +kernel : decode cX12_trip 140 = .ok (.iload_n 1, 1)) rfl ?_
          refine pu_iald hC (by decide +kernel : decode cX12_trip 141 = .ok (.iaload, 1)) hU ho rfl H.1 ?_
          replace H := H.2
          refine pr_aload_n hC (by decide +kernel : decode cX12_trip 142 = .ok (.aload_n 0, 1)) rfl ?_
          refine pr_iload hC (by decide +kernel : decode cX12_trip 143 = .ok (.iload 6, 2)) rfl ?_
          refine pr_iconst hC (2) (by decide +kernel : decode cX12_trip 145 = .ok (.iconst 2, 1)) rfl ?_
          refine vc_Vi hC hR [.int x6_17, .int 2] fv_X12_353 (by decide +kernel : decode cX12_trip 146 = .ok (.invokevirtual 353, 3)) hU (t_X12_of ho H) ho (by decide) rfl rfl rfl (Nat.le_of_ble_eq_true rfl) (Nat.le_of_ble_eq_true rfl) (Nat.le_refl 0) (Nat.le_refl 0) (fun r_19 U_18 h H hU => ?_)
          refine vc_Vi hC hR [.int (uA U_15 o 6 (Int32.toNatClampNeg a1)), .int r_19] fv_X12_394 (by decide +kernel : decode cX12_trip 149 = .ok (.invokevirtual 394, 3)) hU (t_X12_wayOf ho H) ho (by decide) rfl rfl rfl (Nat.le_of_ble_eq_true rfl) (Nat.le_of_ble_eq_true rfl) (Nat.le_refl 0) (Nat.le_refl 0) (fun r_21 U_20 h H hU => ?_)
          refine pr_istore hC (by decide +kernel : decode cX12_trip 152 = .ok (.istore 7, 2)) (by decide) rfl ?_
          refine pr_iload hC (by decide +kernel : decode cX12_trip 154 = .ok (.iload 7, 2)) rfl ?_
          refine pr_iconst hC (-1) (by decide +kernel : decode cX12_trip 156 = .ok (.iconst (-1), 1)) rfl ?_
          refine pr_icmp_ne hC 166 (by decide +kernel : decode cX12_trip 157 = .ok (.if_icmp .ne 9, 3)) (by decide) (fun c_157 => ?_) (fun c_157 => ?_)
          · replace H := H.2 c_157
            refine pr_iload_n hC (by decide +kernel : decode cX12_trip 166 = .ok (.iload_n 3, 1)) rfl ?_
            refine pr_if_ne hC 190 (by decide +kernel : decode cX12_trip 167 = .ok (.ifCond .ne 23, 3)) (by decide) (fun c_167 => ?_) (fun c_167 => ?_)
            · replace H := H.2 c_167
              refine pr_aload_n hC (by decide +kernel : decode cX12_trip 190 = .ok (.aload_n 0, 1)) rfl ?_
              refine pr_iload hC (by decide +kernel : decode cX12_trip 191 = .ok (.iload 6, 2)) rfl ?_
              refine vc_Vi hC hR [.int x6_17] fv_X12_402 (by decide +kernel : decode cX12_trip 193 = .ok (.invokevirtual 402, 3)) hU (t_X12_endOf ho H) ho (by decide) rfl rfl rfl (Nat.le_of_ble_eq_true rfl) (Nat.le_of_ble_eq_true rfl) (Nat.le_refl 0) (Nat.le_refl 0) (fun r_25 U_24 h H hU => ?_)
              refine pr_iload hC (by decide +kernel : decode cX12_trip 196 = .ok (.iload 7, 2)) rfl ?_
              refine pr_iadd hC (by decide +kernel : decode cX12_trip 198 = .ok (.iadd, 1)) ?_
              exact pv_iret hM (by decide +kernel : decode cX12_trip 199 = .ok (.ireturn, 1)) hU H
            replace H := H.1 c_167
            refine pr_aload_n hC (by decide +kernel : decode cX12_trip 170 = .ok (.aload_n 0, 1)) rfl ?_
            refine pr_iload hC (by decide +kernel : decode cX12_trip 171 = .ok (.iload 6, 2)) rfl ?_
            refine pr_iconst hC (4) (by decide +kernel : decode cX12_trip 173 = .ok (.iconst 4, 1)) rfl ?_
            refine vc_Vi hC hR [.int x6_17, .int 4] fv_X12_353 (by decide +kernel : decode cX12_trip 174 = .ok (.invokevirtual 353, 3)) hU (t_X12_of ho H) ho (by decide) rfl rfl rfl (Nat.le_of_ble_eq_true rfl) (Nat.le_of_ble_eq_true rfl) (Nat.le_refl 0) (Nat.le_refl 0) (fun r_23 U_22 h H hU => ?_)
            refine pr_aload_n hC (by decide +kernel : decode cX12_trip 177 = .ok (.aload_n 0, 1)) rfl ?_
            refine pu_g1 hC fg_X12_43 (by decide +kernel : decode cX12_trip 178 = .ok (.getfield 43, 3)) hU ho (by decide) rfl (by decide) ?_
            refine pr_iconst hC (4) (by decide +kernel : decode cX12_trip 181 = .ok (.iconst 4, 1)) rfl ?_
            refine pu_iald hC (by decide +kernel : decode cX12_trip 182 = .ok (.iaload, 1)) hU ho rfl H.1 ?_
            replace H := H.2
            refine pr_isub hC (by decide +kernel : decode cX12_trip 183 = .ok (.isub, 1)) ?_
            refine pr_iload hC (by decide +kernel : decode cX12_trip 184 = .ok (.iload 7, 2)) rfl ?_
            refine pr_isub hC (by decide +kernel : decode cX12_trip 186 = .ok (.isub, 1)) ?_
            refine pr_goto hC 199 (by decide +kernel : decode cX12_trip 187 = .ok (.goto 12, 3)) (by decide) ?_
            exact pv_iret hM (by decide +kernel : decode cX12_trip 199 = .ok (.ireturn, 1)) hU H
          replace H := H.1 c_157
          refine pr_sipush hC (-10000) (by decide +kernel : decode cX12_trip 160 = .ok (.sipush (-10000), 3)) rfl ?_
          refine pr_goto hC 199 (by decide +kernel : decode cX12_trip 163 = .ok (.goto 36, 3)) (by decide) ?_
          exact pv_iret hM (by decide +kernel : decode cX12_trip 199 = .ok (.ireturn, 1)) hU H
        replace H := trivial
        refine pr_if_ne hC 128 (by decide +kernel : decode cX12_trip 121 = .ok (.ifCond .ne 7, 3)) (by decide) (fun c_121 => ?_) (fun c_121 => ?_)
        · skip
          refine pr_iload hC (by decide +kernel : decode cX12_trip 128 = .ok (.iload 4, 2)) rfl ?_
          refine pr_iconst hC (1) (by decide +kernel : decode cX12_trip 130 = .ok (.iconst 1, 1)) rfl ?_
          refine pr_isub hC (by decide +kernel : decode cX12_trip 131 = .ok (.isub, 1)) ?_
          exact pv_sub [some (.ref (Y.2.1 o)), some (.int a1), none, some (.int a3), none, none, none, none] (And.intro rfl (And.intro rfl (And.intro rfl trivial))) (HJ_26 _ (if_neg c_121).symm)
        skip
        refine pr_iconst hC (0) (by decide +kernel : decode cX12_trip 124 = .ok (.iconst 0, 1)) rfl ?_
        refine pr_goto hC 132 (by decide +kernel : decode cX12_trip 125 = .ok (.goto 7, 3)) (by decide) ?_
        exact pv_sub [some (.ref (Y.2.1 o)), some (.int a1), none, some (.int a3), none, none, none, none] (And.intro rfl (And.intro rfl (And.intro rfl trivial))) (HJ_26 _ (if_pos c_121).symm)
      replace H := H.1 c_109
      refine pr_sipush hC (-10000) (by decide +kernel : decode cX12_trip 112 = .ok (.sipush (-10000), 3)) rfl ?_
      exact pv_iret hM (by decide +kernel : decode cX12_trip 115 = .ok (.ireturn, 1)) hU H
    replace H := H.2 c_91
    refine pr_iload_n hC (by decide +kernel : decode cX12_trip 94 = .ok (.iload_n 3, 1)) rfl ?_
    refine pr_iconst hC (2) (by decide +kernel : decode cX12_trip 95 = .ok (.iconst 2, 1)) rfl ?_
    refine pr_icmp_ne hC 104 (by decide +kernel : decode cX12_trip 96 = .ok (.if_icmp .ne 8, 3)) (by decide) (fun c_96 => ?_) (fun c_96 => ?_)
    · replace H := H.2 c_96
      refine pr_iload hC (by decide +kernel : decode cX12_trip 104 = .ok (.iload 4, 2)) rfl ?_
      exact pv_iret hM (by decide +kernel : decode cX12_trip 106 = .ok (.ireturn, 1)) hU H
    replace H := H.1 c_96
    refine pr_iload hC (by decide +kernel : decode cX12_trip 99 = .ok (.iload 5, 2)) rfl ?_
    refine pr_goto hC 106 (by decide +kernel : decode cX12_trip 101 = .ok (.goto 5, 3)) (by decide) ?_
    exact pv_iret hM (by decide +kernel : decode cX12_trip 106 = .ok (.ireturn, 1)) hU H
  replace H := H.1 c_34
  refine pr_sipush hC (-10000) (by decide +kernel : decode cX12_trip 37 = .ok (.sipush (-10000), 3)) rfl ?_
  exact pv_iret hM (by decide +kernel : decode cX12_trip 40 = .ok (.ireturn, 1)) hU H
def w_X12_wordTells (o : Nat) (a1 : Int32) (a2 : Int32) (a3 : Int32) (a4 : Int32) (U : Um) (post : Int32 → Um → Prop) : Prop :=
  (¬ a1 = 0 → ¬ a1 = 1 → ¬ a1 = 2 → ¬ a1 = 3 → ¬ a1 = 4 → ¬ a1 = 5 → ¬ a1 = 6 → vp_in a4 10 ∧ post (FP.f2i (uF U o 34 (Int32.toNatClampNeg a4))) U) ∧ (a1 = 0 → vp_in a4 10 ∧ post (uA U o 32 (Int32.toNatClampNeg a4)) U) ∧ (a1 = 1 → w_X12_needOf o a2 a3 U (fun r_2 U_1 => post r_2 U_1)) ∧ (a1 = 2 → post a3 U) ∧ (a1 = 3 → w_X12_of o a2 5 U (fun r_4 U_3 => post r_4 U_3)) ∧ (a1 = 4 → w_X12_of o a2 3 U (fun r_6 U_5 => post r_6 U_5)) ∧ (a1 = 5 → w_X12_of o a2 4 U (fun r_8 U_7 => post r_8 U_7)) ∧ (a1 = 6 → vp_in a4 20 ∧ w_X12_of o a2 2 U (fun r_10 U_9 => w_X12_wayOf o (uA U o 6 (Int32.toNatClampNeg a4)) r_10 U_9 (fun r_12 U_11 => post r_12 U_11)))
set_option maxHeartbeats 4000000 in
theorem t_X12_wordTells {l : Launch} {Y : px_Y} {o : Nat} {a1 : Int32} {a2 : Int32} {a3 : Int32} {a4 : Int32} {U : Um} {post : Int32 → Um → Prop} (ho : oc o = 10) (H : w_X12_wordTells o a1 a2 a3 a4 U post) : um l Y 2 yX12_wordTells cX12_wordTells 5 (some (.int)) [.ref (Y.2.1 o), .int a1, .int a2, .int a3, .int a4] U (pq_i post) := by
  unfold w_X12_wordTells at H
  refine um_of (by decide) (Nat.le_of_ble_eq_true rfl) [some (.ref (Y.2.1 o)), some (.int a1), some (.int a2), some (.int a3), some (.int a4)] rfl (fun X h0 hh sz hM hU => ?_)
  have hC := hM.1
  have hR := hM.2.2.1
  refine pr_iload_n hC (by decide +kernel : decode cX12_wordTells 0 = .ok (.iload_n 1, 1)) rfl ?_
  refine pv_table hC (by decide +kernel : decode cX12_wordTells 1 = .ok (.tableswitch 99 0 6 #[43, 51, 58, 60, 67, 74, 81], 43)) 100 (by decide) (fun hq => ?_) (fun hq => ?_)
  · replace H := H.1 (fun e => absurd hq (by rw [e]; decide)) (fun e => absurd hq (by rw [e]; decide)) (fun e => absurd hq (by rw [e]; decide)) (fun e => absurd hq (by rw [e]; decide)) (fun e => absurd hq (by rw [e]; decide)) (fun e => absurd hq (by rw [e]; decide)) (fun e => absurd hq (by rw [e]; decide))
    refine pr_aload_n hC (by decide +kernel : decode cX12_wordTells 100 = .ok (.aload_n 0, 1)) rfl ?_
    refine pu_g1 hC fg_X12_71 (by decide +kernel : decode cX12_wordTells 101 = .ok (.getfield 71, 3)) hU ho (by decide) rfl (by decide) ?_
    refine pr_iload hC (by decide +kernel : decode cX12_wordTells 104 = .ok (.iload 4, 2)) rfl ?_
    refine pu_fald hC (by decide +kernel : decode cX12_wordTells 106 = .ok (.faload, 1)) hU ho rfl H.1 ?_
    replace H := H.2
    refine pr_f2i hC (by decide +kernel : decode cX12_wordTells 107 = .ok (.f2i, 1)) ?_
    exact pv_iret hM (by decide +kernel : decode cX12_wordTells 108 = .ok (.ireturn, 1)) hU H
  · replace H := H.2
    rcases (show Int32.toInt a1 = 0 ∨ Int32.toInt a1 = 1 ∨ Int32.toInt a1 = 2 ∨ Int32.toInt a1 = 3 ∨ Int32.toInt a1 = 4 ∨ Int32.toInt a1 = 5 ∨ Int32.toInt a1 = 6 from by omega) with hq | hq | hq | hq | hq | hq | hq
    · have e_1 : a1 = 0 := Int32.toInt_inj.mp (hq.trans (by decide))
      replace H := H.1 e_1
      refine ⟨43, 44, by rw [hq]; rfl, by decide, ?_⟩
      refine pr_aload_n hC (by decide +kernel : decode cX12_wordTells 44 = .ok (.aload_n 0, 1)) rfl ?_
      refine pu_g1 hC fg_X12_65 (by decide +kernel : decode cX12_wordTells 45 = .ok (.getfield 65, 3)) hU ho (by decide) rfl (by decide) ?_
      refine pr_iload hC (by decide +kernel : decode cX12_wordTells 48 = .ok (.iload 4, 2)) rfl ?_
      refine pu_iald hC (by decide +kernel : decode cX12_wordTells 50 = .ok (.iaload, 1)) hU ho rfl H.1 ?_
      replace H := H.2
      exact pv_iret hM (by decide +kernel : decode cX12_wordTells 51 = .ok (.ireturn, 1)) hU H
    · have e_1 : a1 = 1 := Int32.toInt_inj.mp (hq.trans (by decide))
      replace H := H.2.1 e_1
      refine ⟨51, 52, by rw [hq]; rfl, by decide, ?_⟩
      refine pr_aload_n hC (by decide +kernel : decode cX12_wordTells 52 = .ok (.aload_n 0, 1)) rfl ?_
      refine pr_iload_n hC (by decide +kernel : decode cX12_wordTells 53 = .ok (.iload_n 2, 1)) rfl ?_
      refine pr_iload_n hC (by decide +kernel : decode cX12_wordTells 54 = .ok (.iload_n 3, 1)) rfl ?_
      refine vc_Vi hC hR [.int a2, .int a3] fv_X12_408 (by decide +kernel : decode cX12_wordTells 55 = .ok (.invokevirtual 408, 3)) hU (t_X12_needOf ho H) ho (by decide) rfl rfl rfl (Nat.le_of_ble_eq_true rfl) (Nat.le_of_ble_eq_true rfl) (Nat.le_refl 0) (Nat.le_refl 0) (fun r_2 U_1 h H hU => ?_)
      exact pv_iret hM (by decide +kernel : decode cX12_wordTells 58 = .ok (.ireturn, 1)) hU H
    · have e_1 : a1 = 2 := Int32.toInt_inj.mp (hq.trans (by decide))
      replace H := H.2.2.1 e_1
      refine ⟨58, 59, by rw [hq]; rfl, by decide, ?_⟩
      refine pr_iload_n hC (by decide +kernel : decode cX12_wordTells 59 = .ok (.iload_n 3, 1)) rfl ?_
      exact pv_iret hM (by decide +kernel : decode cX12_wordTells 60 = .ok (.ireturn, 1)) hU H
    · have e_1 : a1 = 3 := Int32.toInt_inj.mp (hq.trans (by decide))
      replace H := H.2.2.2.1 e_1
      refine ⟨60, 61, by rw [hq]; rfl, by decide, ?_⟩
      refine pr_aload_n hC (by decide +kernel : decode cX12_wordTells 61 = .ok (.aload_n 0, 1)) rfl ?_
      refine pr_iload_n hC (by decide +kernel : decode cX12_wordTells 62 = .ok (.iload_n 2, 1)) rfl ?_
      refine pr_iconst hC (5) (by decide +kernel : decode cX12_wordTells 63 = .ok (.iconst 5, 1)) rfl ?_
      refine vc_Vi hC hR [.int a2, .int 5] fv_X12_353 (by decide +kernel : decode cX12_wordTells 64 = .ok (.invokevirtual 353, 3)) hU (t_X12_of ho H) ho (by decide) rfl rfl rfl (Nat.le_of_ble_eq_true rfl) (Nat.le_of_ble_eq_true rfl) (Nat.le_refl 0) (Nat.le_refl 0) (fun r_4 U_3 h H hU => ?_)
      exact pv_iret hM (by decide +kernel : decode cX12_wordTells 67 = .ok (.ireturn, 1)) hU H
    · have e_1 : a1 = 4 := Int32.toInt_inj.mp (hq.trans (by decide))
      replace H := H.2.2.2.2.1 e_1
      refine ⟨67, 68, by rw [hq]; rfl, by decide, ?_⟩
      refine pr_aload_n hC (by decide +kernel : decode cX12_wordTells 68 = .ok (.aload_n 0, 1)) rfl ?_
      refine pr_iload_n hC (by decide +kernel : decode cX12_wordTells 69 = .ok (.iload_n 2, 1)) rfl ?_
      refine pr_iconst hC (3) (by decide +kernel : decode cX12_wordTells 70 = .ok (.iconst 3, 1)) rfl ?_
      refine vc_Vi hC hR [.int a2, .int 3] fv_X12_353 (by decide +kernel : decode cX12_wordTells 71 = .ok (.invokevirtual 353, 3)) hU (t_X12_of ho H) ho (by decide) rfl rfl rfl (Nat.le_of_ble_eq_true rfl) (Nat.le_of_ble_eq_true rfl) (Nat.le_refl 0) (Nat.le_refl 0) (fun r_6 U_5 h H hU => ?_)
      exact pv_iret hM (by decide +kernel : decode cX12_wordTells 74 = .ok (.ireturn, 1)) hU H
    · have e_1 : a1 = 5 := Int32.toInt_inj.mp (hq.trans (by decide))
      replace H := H.2.2.2.2.2.1 e_1
      refine ⟨74, 75, by rw [hq]; rfl, by decide, ?_⟩
      refine pr_aload_n hC (by decide +kernel : decode cX12_wordTells 75 = .ok (.aload_n 0, 1)) rfl ?_
      refine pr_iload_n hC (by decide +kernel : decode cX12_wordTells 76 = .ok (.iload_n 2, 1)) rfl ?_
      refine pr_iconst hC (4) (by decide +kernel : decode cX12_wordTells 77 = .ok (.iconst 4, 1)) rfl ?_
      refine vc_Vi hC hR [.int a2, .int 4] fv_X12_353 (by decide +kernel : decode cX12_wordTells 78 = .ok (.invokevirtual 353, 3)) hU (t_X12_of ho H) ho (by decide) rfl rfl rfl (Nat.le_of_ble_eq_true rfl) (Nat.le_of_ble_eq_true rfl) (Nat.le_refl 0) (Nat.le_refl 0) (fun r_8 U_7 h H hU => ?_)
      exact pv_iret hM (by decide +kernel : decode cX12_wordTells 81 = .ok (.ireturn, 1)) hU H
    · have e_1 : a1 = 6 := Int32.toInt_inj.mp (hq.trans (by decide))
      replace H := H.2.2.2.2.2.2 e_1
      refine ⟨81, 82, by rw [hq]; rfl, by decide, ?_⟩
      refine pr_aload_n hC (by decide +kernel : decode cX12_wordTells 82 = .ok (.aload_n 0, 1)) rfl ?_
      refine pr_aload_n hC (by decide +kernel : decode cX12_wordTells 83 = .ok (.aload_n 0, 1)) rfl ?_
      refine pu_g1 hC fg_X12_28 (by decide +kernel : decode cX12_wordTells 84 = .ok (.getfield 28, 3)) hU ho (by decide) rfl (by decide) ?_
      refine pr_iload hC (by decide +kernel : decode cX12_wordTells 87 = .ok (.iload 4, 2)) rfl ?_
      refine pu_iald hC (by decide +kernel : decode cX12_wordTells 89 = .ok (.iaload, 1)) hU ho rfl H.1 ?_
      replace H := H.2
      refine pr_aload_n hC (by decide +kernel : decode cX12_wordTells 90 = .ok (.aload_n 0, 1)) rfl ?_
      refine pr_iload_n hC (by decide +kernel : decode cX12_wordTells 91 = .ok (.iload_n 2, 1)) rfl ?_
      refine pr_iconst hC (2) (by decide +kernel : decode cX12_wordTells 92 = .ok (.iconst 2, 1)) rfl ?_
      refine vc_Vi hC hR [.int a2, .int 2] fv_X12_353 (by decide +kernel : decode cX12_wordTells 93 = .ok (.invokevirtual 353, 3)) hU (t_X12_of ho H) ho (by decide) rfl rfl rfl (Nat.le_of_ble_eq_true rfl) (Nat.le_of_ble_eq_true rfl) (Nat.le_refl 0) (Nat.le_refl 0) (fun r_10 U_9 h H hU => ?_)
      refine vc_Vi hC hR [.int (uA U o 6 (Int32.toNatClampNeg a4)), .int r_10] fv_X12_394 (by decide +kernel : decode cX12_wordTells 96 = .ok (.invokevirtual 394, 3)) hU (t_X12_wayOf ho H) ho (by decide) rfl rfl rfl (Nat.le_of_ble_eq_true rfl) (Nat.le_of_ble_eq_true rfl) (Nat.le_refl 0) (Nat.le_refl 0) (fun r_12 U_11 h H hU => ?_)
      exact pv_iret hM (by decide +kernel : decode cX12_wordTells 99 = .ok (.ireturn, 1)) hU H
def w_X12_floor (a1 : Int64) (a2 : Int64) (U : Um) (post : Int64 → Um → Prop) : Prop :=
  ¬ a2 = 0 ∧ ∀ (x4_1 : Int64), x4_1 = a1 / a2 → ¬ a2 = 0 ∧ ((lg_cmp (a1 - a1 / a2 * a2) 0) = 0 → post x4_1 U) ∧ (¬ (lg_cmp (a1 - a1 / a2 * a2) 0) = 0 → ∀ (xs_2 : Int32), xs_2 = (if (0 : Int32) ≤ (lg_cmp a1 0) then 0 else 1) → ((0 : Int32) ≤ (lg_cmp a2 0) → (xs_2 = 0 → post x4_1 U) ∧ (¬ xs_2 = 0 → post (x4_1 - 1) U)) ∧ (¬ (0 : Int32) ≤ (lg_cmp a2 0) → (xs_2 = 1 → post x4_1 U) ∧ (¬ xs_2 = 1 → post (x4_1 - 1) U)))
set_option maxHeartbeats 4000000 in
theorem t_X12_floor {l : Launch} {Y : px_Y} {a1 : Int64} {a2 : Int64} {U : Um} {post : Int64 → Um → Prop}  (H : w_X12_floor a1 a2 U post) : um l Y 0 yX12_floor cX12_floor 6 (some (.long)) [.long a1, .long a2] U (pq_l post) := by
  unfold w_X12_floor at H
  refine um_of (by decide) (Nat.le_of_ble_eq_true rfl) [some (.long a1), none, some (.long a2), none, none, none] rfl (fun X h0 hh sz hM hU => ?_)
  have hC := hM.1
  have hR := hM.2.2.1
  refine pr_lload_n hC (by decide +kernel : decode cX12_floor 0 = .ok (.lload_n 0, 1)) rfl ?_
  refine pr_lload_n hC (by decide +kernel : decode cX12_floor 1 = .ok (.lload_n 2, 1)) rfl ?_
  refine pr_ldiv hC (by decide +kernel : decode cX12_floor 2 = .ok (.ldiv, 1)) H.1 ?_
  replace H := H.2
  refine pv_topl (fun x4_1 e_x4_1 => ?_)
  replace H := H x4_1 e_x4_1
  refine pr_lstore hC (by decide +kernel : decode cX12_floor 3 = .ok (.lstore 4, 2)) (by decide) rfl ?_
  refine pr_lload_n hC (by decide +kernel : decode cX12_floor 5 = .ok (.lload_n 0, 1)) rfl ?_
  refine pr_lload_n hC (by decide +kernel : decode cX12_floor 6 = .ok (.lload_n 2, 1)) rfl ?_
  refine pr_lrem hC (by decide +kernel : decode cX12_floor 7 = .ok (.lrem, 1)) H.1 ?_
  replace H := H.2
  refine pr_lconst hC (0) (by decide +kernel : decode cX12_floor 8 = .ok (.lconst 0, 1)) rfl ?_
  refine pr_lcmp hC (by decide +kernel : decode cX12_floor 9 = .ok (.lcmp, 1)) ?_
  refine pr_if_eq hC 45 (by decide +kernel : decode cX12_floor 10 = .ok (.ifCond .eq 35, 3)) (by decide) (fun c_10 => ?_) (fun c_10 => ?_)
  · replace H := H.1 c_10
    refine pr_lload hC (by decide +kernel : decode cX12_floor 45 = .ok (.lload 4, 2)) rfl ?_
    exact pv_lret hM (by decide +kernel : decode cX12_floor 47 = .ok (.lreturn, 1)) hU H
  replace H := H.2 c_10
  refine pr_lload_n hC (by decide +kernel : decode cX12_floor 13 = .ok (.lload_n 0, 1)) rfl ?_
  refine pr_lconst hC (0) (by decide +kernel : decode cX12_floor 14 = .ok (.lconst 0, 1)) rfl ?_
  refine pr_lcmp hC (by decide +kernel : decode cX12_floor 15 = .ok (.lcmp, 1)) ?_
  have HJ_3 : ∀ (xs_2 : Int32), xs_2 = (if (0 : Int32) ≤ (lg_cmp a1 0) then 0 else 1) → pw X Y.1 (pm_A hh sz) (pm_E X Y.1 hh sz 0 0 (pm_P Y h0 sz (pq_l post))) 24 [none, none, some (.long a2), none, some (.long x4_1), none] [.int xs_2] hh sz 0 0 := by
    intro xs_2 e_xs_2
    replace H := H xs_2 e_xs_2
    refine pr_lload_n hC (by decide +kernel : decode cX12_floor 24 = .ok (.lload_n 2, 1)) rfl ?_
    refine pr_lconst hC (0) (by decide +kernel : decode cX12_floor 25 = .ok (.lconst 0, 1)) rfl ?_
    refine pr_lcmp hC (by decide +kernel : decode cX12_floor 26 = .ok (.lcmp, 1)) ?_
    refine pr_if_ge hC 34 (by decide +kernel : decode cX12_floor 27 = .ok (.ifCond .ge 7, 3)) (by decide) (fun c_27 => ?_) (fun c_27 => ?_)
    · replace H := H.1 c_27
      refine pr_iconst hC (0) (by decide +kernel : decode cX12_floor 34 = .ok (.iconst 0, 1)) rfl ?_
      refine pr_icmp_eq hC 45 (by decide +kernel : decode cX12_floor 35 = .ok (.if_icmp .eq 10, 3)) (by decide) (fun c_35 => ?_) (fun c_35 => ?_)
      · replace H := H.1 c_35
        refine pr_lload hC (by decide +kernel : decode cX12_floor 45 = .ok (.lload 4, 2)) rfl ?_
        exact pv_lret hM (by decide +kernel : decode cX12_floor 47 = .ok (.lreturn, 1)) hU H
      replace H := H.2 c_35
      refine pr_lload hC (by decide +kernel : decode cX12_floor 38 = .ok (.lload 4, 2)) rfl ?_
      refine pr_lconst hC (1) (by decide +kernel : decode cX12_floor 40 = .ok (.lconst 1, 1)) rfl ?_
      refine pr_lsub hC (by decide +kernel : decode cX12_floor 41 = .ok (.lsub, 1)) ?_
      refine pr_goto hC 47 (by decide +kernel : decode cX12_floor 42 = .ok (.goto 5, 3)) (by decide) ?_
      exact pv_lret hM (by decide +kernel : decode cX12_floor 47 = .ok (.lreturn, 1)) hU H
    replace H := H.2 c_27
    refine pr_iconst hC (1) (by decide +kernel : decode cX12_floor 30 = .ok (.iconst 1, 1)) rfl ?_
    refine pr_goto hC 35 (by decide +kernel : decode cX12_floor 31 = .ok (.goto 4, 3)) (by decide) ?_
    refine pr_icmp_eq hC 45 (by decide +kernel : decode cX12_floor 35 = .ok (.if_icmp .eq 10, 3)) (by decide) (fun c_35 => ?_) (fun c_35 => ?_)
    · replace H := H.1 c_35
      refine pr_lload hC (by decide +kernel : decode cX12_floor 45 = .ok (.lload 4, 2)) rfl ?_
      exact pv_lret hM (by decide +kernel : decode cX12_floor 47 = .ok (.lreturn, 1)) hU H
    replace H := H.2 c_35
    refine pr_lload hC (by decide +kernel : decode cX12_floor 38 = .ok (.lload 4, 2)) rfl ?_
    refine pr_lconst hC (1) (by decide +kernel : decode cX12_floor 40 = .ok (.lconst 1, 1)) rfl ?_
    refine pr_lsub hC (by decide +kernel : decode cX12_floor 41 = .ok (.lsub, 1)) ?_
    refine pr_goto hC 47 (by decide +kernel : decode cX12_floor 42 = .ok (.goto 5, 3)) (by decide) ?_
    exact pv_lret hM (by decide +kernel : decode cX12_floor 47 = .ok (.lreturn, 1)) hU H
  replace H := trivial
  refine pr_if_ge hC 23 (by decide +kernel : decode cX12_floor 16 = .ok (.ifCond .ge 7, 3)) (by decide) (fun c_16 => ?_) (fun c_16 => ?_)
  · skip
    refine pr_iconst hC (0) (by decide +kernel : decode cX12_floor 23 = .ok (.iconst 0, 1)) rfl ?_
    exact pv_sub [none, none, some (.long a2), none, some (.long x4_1), none] (And.intro rfl (And.intro rfl trivial)) (HJ_3 _ (if_pos c_16).symm)
  skip
  refine pr_iconst hC (1) (by decide +kernel : decode cX12_floor 19 = .ok (.iconst 1, 1)) rfl ?_
  refine pr_goto hC 24 (by decide +kernel : decode cX12_floor 20 = .ok (.goto 4, 3)) (by decide) ?_
  exact pv_sub [none, none, some (.long a2), none, some (.long x4_1), none] (And.intro rfl (And.intro rfl trivial)) (HJ_3 _ (if_neg c_16).symm)
def b_X12_feeOf_L18 (o0 : Nat) (x1 : Int32) (x2 : Int32) (x3 : Int32) (post : Int64 → Um → Prop) (k_256 : Um → Prop) (rec_ : Int32 → Int32 → Um → Prop) (x4 : Int32) (x5 : Int32) (U : Um) : Prop :=
  ((uI U o0 14) ≤ x5 → k_256 U) ∧ (¬ (uI U o0 14) ≤ x5 → vp_in x5 2600 ∧ ∀ (x6_1 : Int32), x6_1 = uA U o0 13 (Int32.toNatClampNeg x5) → (∀ K_2 : Prop, (((∀ K_3 : Um → Prop, (∀ (U_4 : Um), ((x6_1 = 0 → vp_in x5 2600 ∧ vp_in x4 1300 ∧ ∀ (U_5 : Um), U_5 = sJ U_4 o0 40 (va_up (uJ U_4 o0 40) (Int32.toNatClampNeg x4) (Int32.toInt64 (uA U_4 o0 12 (Int32.toNatClampNeg x5)))) → ∀ (x4_6 : Int32), x4_6 = x4 + 1 → ∀ (x5_7 : Int32), x5_7 = x5 + 1 → rec_ x4_6 x5_7 U_5) ∧ (¬ x6_1 = 0 → vp_in x5 2600 ∧ w_X12_wordTells o0 (uA U_4 o0 12 (Int32.toNatClampNeg x5)) x1 x2 x3 U_4 (fun r_9 U_8 => vp_in x4 1300 ∧ ∀ (U_10 : Um), U_10 = sJ U_8 o0 40 (va_up (uJ U_8 o0 40) (Int32.toNatClampNeg x4) (Int32.toInt64 r_9)) → ∀ (x4_11 : Int32), x4_11 = x4 + 1 → ∀ (x5_12 : Int32), x5_12 = x5 + 1 → rec_ x4_11 x5_12 U_10))) → K_3 U_4) → (x6_1 = 1 → vp_in x5 2600 ∧ ((uA U o0 12 (Int32.toNatClampNeg x5)) = 6 → w_X12_wordTells o0 6 x1 x2 x3 U (fun r_14 U_13 => (r_14 = (-1) → post (-9223372036854775808) U_13) ∧ (¬ r_14 = (-1) → K_3 U_13))) ∧ (¬ (uA U o0 12 (Int32.toNatClampNeg x5)) = 6 → K_3 U)) ∧ (¬ x6_1 = 1 → K_3 U))) → K_2 ) → (x6_1 = 0 → K_2) ∧ (¬ x6_1 = 0 → (x6_1 = 1 → K_2) ∧ (¬ x6_1 = 1 → ∀ (x4_15 : Int32), x4_15 = x4 + (-1) → vp_in (x4_15 - 1) 1300 ∧ ∀ (x7_16 : Int64), x7_16 = uJ U o0 40 (Int32.toNatClampNeg (x4_15 - 1)) → vp_in x4_15 1300 ∧ ∀ (x9_17 : Int64), x9_17 = uJ U o0 40 (Int32.toNatClampNeg x4_15) → (∀ K_18 : Prop, (((∀ K_19 : Int64 → Um → Prop, (∀ (xs_20 : Int64) (U_21 : Um), (w_X12_isIn xs_20 (-2147483648) 2147483647 U_21 (fun r_23 U_22 => (r_23 = 0 → post (-9223372036854775808) U_22) ∧ (¬ r_23 = 0 → vp_in (x4_15 - 1) 1300 ∧ ∀ (U_24 : Um), U_24 = sJ U_22 o0 40 (va_up (uJ U_22 o0 40) (Int32.toNatClampNeg (x4_15 - 1)) xs_20) → ∀ (x5_25 : Int32), x5_25 = x5 + 1 → rec_ x4_15 x5_25 U_24))) → K_19 xs_20 U_21) → (x6_1 = 43 → K_19 (x7_16 + x9_17) U) ∧ (¬ x6_1 = 43 → (x6_1 = 45 → K_19 (x7_16 - x9_17) U) ∧ (¬ x6_1 = 45 → (x6_1 = 42 → K_19 (x7_16 * x9_17) U) ∧ (¬ x6_1 = 42 → w_X12_floor x7_16 x9_17 U (fun r_27 U_26 => K_19 r_27 U_26)))))) → K_18 ) → (x6_1 = 47 → ((lg_cmp x9_17 0) = 0 → post (-9223372036854775808) U) ∧ (¬ (lg_cmp x9_17 0) = 0 → K_18)) ∧ (¬ x6_1 = 47 → K_18))))))
def w_X12_feeOf_L18 (o0 : Nat) (x1 : Int32) (x2 : Int32) (x3 : Int32) (post : Int64 → Um → Prop) (k_256 : Um → Prop) (n_ : Nat) : Int32 → Int32 → Um → Prop := Nat.rec (motive := fun _ => Int32 → Int32 → Um → Prop) (fun _ _ _ => False) (fun _ ih => b_X12_feeOf_L18 o0 x1 x2 x3 post k_256 ih) n_
def w_X12_feeOf (o : Nat) (a1 : Int32) (a2 : Int32) (a3 : Int32) (U : Um) (post : Int64 → Um → Prop) : Prop :=
  vp_in 6 14 ∧ ((uA U o 11 (Int32.toNatClampNeg 6)) = 0 → post 0 U) ∧ (¬ (uA U o 11 (Int32.toNatClampNeg 6)) = 0 → (∃ n_29, w_X12_feeOf_L18 o a1 a2 a3 post (fun U_28 => vp_in 0 1300 ∧ post (uJ U_28 o 40 (Int32.toNatClampNeg 0)) U_28) n_29 0 0 U))
set_option maxHeartbeats 4000000 in
theorem tl_X12_feeOf_L18 {l : Launch} {Y : px_Y} {X : px_X} {h0 hh : pe_H} {sz : Nat} (o0 : Nat) (x1 : Int32) (x2 : Int32) (x3 : Int32) (post : Int64 → Um → Prop) (k_256 : Um → Prop) (ho0 : oc o0 = 10)  (hC : px_C X Y.1 (pm_A hh sz) cX12_feeOf RX12 13) (hM : px_M l X Y.1 hh sz yX12_feeOf cX12_feeOf 13 (some (.long)) 3 0 0) (hR : X.2.2.2.1 = pm_rm 3 0 0) (hk_256 : ∀ (U : Um) (h : pe_H), k_256 U → rF Y h0 U h → pw X Y.1 (pm_A hh sz) (pm_E X Y.1 hh sz 0 0 (pm_P Y h0 sz (pq_l post))) 256 [some (.ref (Y.2.1 o0)), none, none, none, none, none, none, none, none, none, none, none, none] [] h sz 0 0) : ∀ (n_ : Nat) (x4 : Int32) (x5 : Int32) (U : Um) (h : pe_H), rF Y h0 U h → w_X12_feeOf_L18 o0 x1 x2 x3 post k_256 n_ x4 x5 U → pw X Y.1 (pm_A hh sz) (pm_E X Y.1 hh sz 0 0 (pm_P Y h0 sz (pq_l post))) 18 [some (.ref (Y.2.1 o0)), some (.int x1), some (.int x2), some (.int x3), some (.int x4), some (.int x5), none, none, none, none, none, none, none] [] h sz 0 0 := by
  intro n_
  induction n_ with
  | zero => intro x4 x5 U h hU H; exact False.elim H
  | succ n_ ih =>
    intro x4 x5 U h hU H
    replace H : b_X12_feeOf_L18 o0 x1 x2 x3 post k_256 (w_X12_feeOf_L18 o0 x1 x2 x3 post k_256 n_) x4 x5 U := H
    unfold b_X12_feeOf_L18 at H
    refine pr_iload hC (by decide +kernel : decode cX12_feeOf 18 = .ok (.iload 5, 2)) rfl ?_
    refine pr_aload_n hC (by decide +kernel : decode cX12_feeOf 20 = .ok (.aload_n 0, 1)) rfl ?_
    refine pu_g0 hC fg_X12_340 (by decide +kernel : decode cX12_feeOf 21 = .ok (.getfield 340, 3)) hU ho0 (by decide) rfl rfl ?_
    refine pr_icmp_ge hC 256 (by decide +kernel : decode cX12_feeOf 24 = .ok (.if_icmp .ge 232, 3)) (by decide) (fun c_24 => ?_) (fun c_24 => ?_)
    · replace H := H.1 c_24
      exact pv_sub [some (.ref (Y.2.1 o0)), none, none, none, none, none, none, none, none, none, none, none, none] (And.intro rfl trivial) (hk_256 U h H hU)
    replace H := H.2 c_24
    refine pr_aload_n hC (by decide +kernel : decode cX12_feeOf 27 = .ok (.aload_n 0, 1)) rfl ?_
    refine pu_g1 hC fg_X12_49 (by decide +kernel : decode cX12_feeOf 28 = .ok (.getfield 49, 3)) hU ho0 (by decide) rfl (by decide) ?_
    refine pr_iload hC (by decide +kernel : decode cX12_feeOf 31 = .ok (.iload 5, 2)) rfl ?_
    refine pu_iald hC (by decide +kernel : decode cX12_feeOf 33 = .ok (.iaload, 1)) hU ho0 rfl H.1 ?_
    replace H := H.2
    refine pv_topi (fun x6_1 e_x6_1 => ?_)
    replace H := H x6_1 e_x6_1
    refine pr_istore hC (by decide +kernel : decode cX12_feeOf 34 = .ok (.istore 6, 2)) (by decide) rfl ?_
    refine pr_iload hC (by decide +kernel : decode cX12_feeOf 36 = .ok (.iload 6, 2)) rfl ?_
    replace H := H (pw X Y.1 (pm_A hh sz) (pm_E X Y.1 hh sz 0 0 (pm_P Y h0 sz (pq_l post))) 47 [some (.ref (Y.2.1 o0)), some (.int x1), some (.int x2), some (.int x3), some (.int x4), some (.int x5), some (.int x6_1), none, none, none, none, none, none] [] h sz 0 0) (by
      intro  H
      refine pr_iload hC (by decide +kernel : decode cX12_feeOf 47 = .ok (.iload 6, 2)) rfl ?_
      refine pr_iconst hC (1) (by decide +kernel : decode cX12_feeOf 49 = .ok (.iconst 1, 1)) rfl ?_
      replace H := H (fun U_4 => ∀ h : pe_H, rF Y h0 U_4 h → pw X Y.1 (pm_A hh sz) (pm_E X Y.1 hh sz 0 0 (pm_P Y h0 sz (pq_l post))) 82 [some (.ref (Y.2.1 o0)), some (.int x1), some (.int x2), some (.int x3), some (.int x4), some (.int x5), some (.int x6_1), none, none, none, none, none, none] [] h sz 0 0) (by
        intro U_4 H h hU
        refine pr_aload_n hC (by decide +kernel : decode cX12_feeOf 82 = .ok (.aload_n 0, 1)) rfl ?_
        refine pu_g1 hC fg_X12_87 (by decide +kernel : decode cX12_feeOf 83 = .ok (.getfield 87, 3)) hU ho0 (by decide) rfl (by decide) ?_
        refine pr_iload hC (by decide +kernel : decode cX12_feeOf 86 = .ok (.iload 4, 2)) rfl ?_
        refine pr_iload hC (by decide +kernel : decode cX12_feeOf 88 = .ok (.iload 6, 2)) rfl ?_
        refine pr_if_ne hC 104 (by decide +kernel : decode cX12_feeOf 90 = .ok (.ifCond .ne 14, 3)) (by decide) (fun c_90 => ?_) (fun c_90 => ?_)
        · replace H := H.2 c_90
          refine pr_aload_n hC (by decide +kernel : decode cX12_feeOf 104 = .ok (.aload_n 0, 1)) rfl ?_
          refine pr_aload_n hC (by decide +kernel : decode cX12_feeOf 105 = .ok (.aload_n 0, 1)) rfl ?_
          refine pu_g1 hC fg_X12_46 (by decide +kernel : decode cX12_feeOf 106 = .ok (.getfield 46, 3)) hU ho0 (by decide) rfl (by decide) ?_
          refine pr_iload hC (by decide +kernel : decode cX12_feeOf 109 = .ok (.iload 5, 2)) rfl ?_
          refine pu_iald hC (by decide +kernel : decode cX12_feeOf 111 = .ok (.iaload, 1)) hU ho0 rfl H.1 ?_
          replace H := H.2
          refine pr_iload_n hC (by decide +kernel : decode cX12_feeOf 112 = .ok (.iload_n 1, 1)) rfl ?_
          refine pr_iload_n hC (by decide +kernel : decode cX12_feeOf 113 = .ok (.iload_n 2, 1)) rfl ?_
          refine pr_iload_n hC (by decide +kernel : decode cX12_feeOf 114 = .ok (.iload_n 3, 1)) rfl ?_
          refine vc_Vi hC hR [.int (uA U_4 o0 12 (Int32.toNatClampNeg x5)), .int x1, .int x2, .int x3] fv_X12_456 (by decide +kernel : decode cX12_feeOf 115 = .ok (.invokevirtual 456, 3)) hU (t_X12_wordTells ho0 H) ho0 (by decide) rfl rfl rfl (Nat.le_of_ble_eq_true rfl) (Nat.le_of_ble_eq_true rfl) (Nat.le_refl 0) (Nat.le_refl 0) (fun r_9 U_8 h H hU => ?_)
          refine pr_i2l hC (by decide +kernel : decode cX12_feeOf 118 = .ok (.i2l, 1)) ?_
          refine pv_last hC (by decide +kernel : decode cX12_feeOf 119 = .ok (.lastore, 1)) hU ho0 rfl H.1 (fun U_10 h e_U_10 hU => ?_)
          replace H := H.2 U_10 e_U_10
          refine pv_iinc hC (v := x4 + 1) (by decide +kernel : decode cX12_feeOf 120 = .ok (.iinc 4 1, 3)) rfl (by decide) rfl rfl (fun x4_11 e_x4_11 => ?_)
          replace H := H x4_11 e_x4_11
          refine pr_goto hC 250 (by decide +kernel : decode cX12_feeOf 123 = .ok (.goto 127, 3)) (by decide) ?_
          refine pv_iinc hC (v := x5 + 1) (by decide +kernel : decode cX12_feeOf 250 = .ok (.iinc 5 1, 3)) rfl (by decide) rfl rfl (fun x5_12 e_x5_12 => ?_)
          replace H := H x5_12 e_x5_12
          refine pr_goto hC 18 (by decide +kernel : decode cX12_feeOf 253 = .ok (.goto (-235), 3)) (by decide) ?_
          exact pv_sub [some (.ref (Y.2.1 o0)), some (.int x1), some (.int x2), some (.int x3), some (.int x4_11), some (.int x5_12), none, none, none, none, none, none, none] (And.intro rfl (And.intro rfl (And.intro rfl (And.intro rfl (And.intro rfl (And.intro rfl trivial)))))) (ih _ _ U_10 h hU H)
        replace H := H.1 c_90
        refine pr_aload_n hC (by decide +kernel : decode cX12_feeOf 93 = .ok (.aload_n 0, 1)) rfl ?_
        refine pu_g1 hC fg_X12_46 (by decide +kernel : decode cX12_feeOf 94 = .ok (.getfield 46, 3)) hU ho0 (by decide) rfl (by decide) ?_
        refine pr_iload hC (by decide +kernel : decode cX12_feeOf 97 = .ok (.iload 5, 2)) rfl ?_
        refine pu_iald hC (by decide +kernel : decode cX12_feeOf 99 = .ok (.iaload, 1)) hU ho0 rfl H.1 ?_
        replace H := H.2
        refine pr_i2l hC (by decide +kernel : decode cX12_feeOf 100 = .ok (.i2l, 1)) ?_
        refine pr_goto hC 119 (by decide +kernel : decode cX12_feeOf 101 = .ok (.goto 18, 3)) (by decide) ?_
        refine pv_last hC (by decide +kernel : decode cX12_feeOf 119 = .ok (.lastore, 1)) hU ho0 rfl H.1 (fun U_5 h e_U_5 hU => ?_)
        replace H := H.2 U_5 e_U_5
        refine pv_iinc hC (v := x4 + 1) (by decide +kernel : decode cX12_feeOf 120 = .ok (.iinc 4 1, 3)) rfl (by decide) rfl rfl (fun x4_6 e_x4_6 => ?_)
        replace H := H x4_6 e_x4_6
        refine pr_goto hC 250 (by decide +kernel : decode cX12_feeOf 123 = .ok (.goto 127, 3)) (by decide) ?_
        refine pv_iinc hC (v := x5 + 1) (by decide +kernel : decode cX12_feeOf 250 = .ok (.iinc 5 1, 3)) rfl (by decide) rfl rfl (fun x5_7 e_x5_7 => ?_)
        replace H := H x5_7 e_x5_7
        refine pr_goto hC 18 (by decide +kernel : decode cX12_feeOf 253 = .ok (.goto (-235), 3)) (by decide) ?_
        exact pv_sub [some (.ref (Y.2.1 o0)), some (.int x1), some (.int x2), some (.int x3), some (.int x4_6), some (.int x5_7), none, none, none, none, none, none, none] (And.intro rfl (And.intro rfl (And.intro rfl (And.intro rfl (And.intro rfl (And.intro rfl trivial)))))) (ih _ _ U_5 h hU H))
      refine pr_icmp_ne hC 82 (by decide +kernel : decode cX12_feeOf 50 = .ok (.if_icmp .ne 32, 3)) (by decide) (fun c_50 => ?_) (fun c_50 => ?_)
      · replace H := H.2 c_50
        exact pv_sub [some (.ref (Y.2.1 o0)), some (.int x1), some (.int x2), some (.int x3), some (.int x4), some (.int x5), some (.int x6_1), none, none, none, none, none, none] (And.intro rfl (And.intro rfl (And.intro rfl (And.intro rfl (And.intro rfl (And.intro rfl (And.intro rfl trivial))))))) (H h hU)
      replace H := H.1 c_50
      refine pr_aload_n hC (by decide +kernel : decode cX12_feeOf 53 = .ok (.aload_n 0, 1)) rfl ?_
      refine pu_g1 hC fg_X12_46 (by decide +kernel : decode cX12_feeOf 54 = .ok (.getfield 46, 3)) hU ho0 (by decide) rfl (by decide) ?_
      refine pr_iload hC (by decide +kernel : decode cX12_feeOf 57 = .ok (.iload 5, 2)) rfl ?_
      refine pu_iald hC (by decide +kernel : decode cX12_feeOf 59 = .ok (.iaload, 1)) hU ho0 rfl H.1 ?_
      replace H := H.2
      refine pr_bipush hC (6) (by decide +kernel : decode cX12_feeOf 60 = .ok (.bipush 6, 2)) rfl ?_
      refine pr_icmp_ne hC 82 (by decide +kernel : decode cX12_feeOf 62 = .ok (.if_icmp .ne 20, 3)) (by decide) (fun c_62 => ?_) (fun c_62 => ?_)
      · replace H := H.2 c_62
        exact pv_sub [some (.ref (Y.2.1 o0)), some (.int x1), some (.int x2), some (.int x3), some (.int x4), some (.int x5), some (.int x6_1), none, none, none, none, none, none] (And.intro rfl (And.intro rfl (And.intro rfl (And.intro rfl (And.intro rfl (And.intro rfl (And.intro rfl trivial))))))) (H h hU)
      replace H := H.1 c_62
      refine pr_aload_n hC (by decide +kernel : decode cX12_feeOf 65 = .ok (.aload_n 0, 1)) rfl ?_
      refine pr_bipush hC (6) (by decide +kernel : decode cX12_feeOf 66 = .ok (.bipush 6, 2)) rfl ?_
      refine pr_iload_n hC (by decide +kernel : decode cX12_feeOf 68 = .ok (.iload_n 1, 1)) rfl ?_
      refine pr_iload_n hC (by decide +kernel : decode cX12_feeOf 69 = .ok (.iload_n 2, 1)) rfl ?_
      refine pr_iload_n hC (by decide +kernel : decode cX12_feeOf 70 = .ok (.iload_n 3, 1)) rfl ?_
      refine vc_Vi hC hR [.int 6, .int x1, .int x2, .int x3] fv_X12_456 (by decide +kernel : decode cX12_feeOf 71 = .ok (.invokevirtual 456, 3)) hU (t_X12_wordTells ho0 H) ho0 (by decide) rfl rfl rfl (Nat.le_of_ble_eq_true rfl) (Nat.le_of_ble_eq_true rfl) (Nat.le_refl 0) (Nat.le_refl 0) (fun r_14 U_13 h H hU => ?_)
      refine pr_iconst hC (-1) (by decide +kernel : decode cX12_feeOf 74 = .ok (.iconst (-1), 1)) rfl ?_
      refine pr_icmp_ne hC 82 (by decide +kernel : decode cX12_feeOf 75 = .ok (.if_icmp .ne 7, 3)) (by decide) (fun c_75 => ?_) (fun c_75 => ?_)
      · replace H := H.2 c_75
        exact pv_sub [some (.ref (Y.2.1 o0)), some (.int x1), some (.int x2), some (.int x3), some (.int x4), some (.int x5), some (.int x6_1), none, none, none, none, none, none] (And.intro rfl (And.intro rfl (And.intro rfl (And.intro rfl (And.intro rfl (And.intro rfl (And.intro rfl trivial))))))) (H h hU)
      replace H := H.1 c_75
      refine pr_ldc2 hC (-9223372036854775808) (by decide +kernel : decode cX12_feeOf 78 = .ok (.ldc2_w 459, 3)) fk_X12_459 ?_
      exact pv_lret hM (by decide +kernel : decode cX12_feeOf 81 = .ok (.lreturn, 1)) hU H)
    refine pr_if_eq hC 47 (by decide +kernel : decode cX12_feeOf 38 = .ok (.ifCond .eq 9, 3)) (by decide) (fun c_38 => ?_) (fun c_38 => ?_)
    · replace H := H.1 c_38
      exact pv_sub [some (.ref (Y.2.1 o0)), some (.int x1), some (.int x2), some (.int x3), some (.int x4), some (.int x5), some (.int x6_1), none, none, none, none, none, none] (And.intro rfl (And.intro rfl (And.intro rfl (And.intro rfl (And.intro rfl (And.intro rfl (And.intro rfl trivial))))))) (H )
    replace H := H.2 c_38
    refine pr_iload hC (by decide +kernel : decode cX12_feeOf 41 = .ok (.iload 6, 2)) rfl ?_
    refine pr_iconst hC (1) (by decide +kernel : decode cX12_feeOf 43 = .ok (.iconst 1, 1)) rfl ?_
    refine pr_icmp_ne hC 126 (by decide +kernel : decode cX12_feeOf 44 = .ok (.if_icmp .ne 82, 3)) (by decide) (fun c_44 => ?_) (fun c_44 => ?_)
    · replace H := H.2 c_44
      refine pv_iinc hC (v := x4 + (-1)) (by decide +kernel : decode cX12_feeOf 126 = .ok (.iinc 4 (-1), 3)) rfl (by decide) rfl rfl (fun x4_15 e_x4_15 => ?_)
      replace H := H x4_15 e_x4_15
      refine pr_aload_n hC (by decide +kernel : decode cX12_feeOf 129 = .ok (.aload_n 0, 1)) rfl ?_
      refine pu_g1 hC fg_X12_87 (by decide +kernel : decode cX12_feeOf 130 = .ok (.getfield 87, 3)) hU ho0 (by decide) rfl (by decide) ?_
      refine pr_iload hC (by decide +kernel : decode cX12_feeOf 133 = .ok (.iload 4, 2)) rfl ?_
      refine pr_iconst hC (1) (by decide +kernel : decode cX12_feeOf 135 = .ok (.iconst 1, 1)) rfl ?_
      refine pr_isub hC (by decide +kernel : decode cX12_feeOf 136 = .ok (.isub, 1)) ?_
      refine pu_lald hC (by decide +kernel : decode cX12_feeOf 137 = .ok (.laload, 1)) hU ho0 rfl H.1 ?_
      replace H := H.2
      refine pv_topl (fun x7_16 e_x7_16 => ?_)
      replace H := H x7_16 e_x7_16
      refine pr_lstore hC (by decide +kernel : decode cX12_feeOf 138 = .ok (.lstore 7, 2)) (by decide) rfl ?_
      refine pr_aload_n hC (by decide +kernel : decode cX12_feeOf 140 = .ok (.aload_n 0, 1)) rfl ?_
      refine pu_g1 hC fg_X12_87 (by decide +kernel : decode cX12_feeOf 141 = .ok (.getfield 87, 3)) hU ho0 (by decide) rfl (by decide) ?_
      refine pr_iload hC (by decide +kernel : decode cX12_feeOf 144 = .ok (.iload 4, 2)) rfl ?_
      refine pu_lald hC (by decide +kernel : decode cX12_feeOf 146 = .ok (.laload, 1)) hU ho0 rfl H.1 ?_
      replace H := H.2
      refine pv_topl (fun x9_17 e_x9_17 => ?_)
      replace H := H x9_17 e_x9_17
      refine pr_lstore hC (by decide +kernel : decode cX12_feeOf 147 = .ok (.lstore 9, 2)) (by decide) rfl ?_
      refine pr_iload hC (by decide +kernel : decode cX12_feeOf 149 = .ok (.iload 6, 2)) rfl ?_
      refine pr_bipush hC (47) (by decide +kernel : decode cX12_feeOf 151 = .ok (.bipush 47, 2)) rfl ?_
      replace H := H (pw X Y.1 (pm_A hh sz) (pm_E X Y.1 hh sz 0 0 (pm_P Y h0 sz (pq_l post))) 167 [some (.ref (Y.2.1 o0)), some (.int x1), some (.int x2), some (.int x3), some (.int x4_15), some (.int x5), some (.int x6_1), some (.long x7_16), none, some (.long x9_17), none, none, none] [] h sz 0 0) (by
        intro  H
        refine pr_iload hC (by decide +kernel : decode cX12_feeOf 167 = .ok (.iload 6, 2)) rfl ?_
        refine pr_bipush hC (43) (by decide +kernel : decode cX12_feeOf 169 = .ok (.bipush 43, 2)) rfl ?_
        replace H := H (fun xs_20 U_21 => ∀ h : pe_H, rF Y h0 U_21 h → pw X Y.1 (pm_A hh sz) (pm_E X Y.1 hh sz 0 0 (pm_P Y h0 sz (pq_l post))) 219 [some (.ref (Y.2.1 o0)), some (.int x1), some (.int x2), some (.int x3), some (.int x4_15), some (.int x5), none, none, none, none, none, none, none] [.long xs_20] h sz 0 0) (by
          intro xs_20 U_21 H h hU
          refine pr_lstore hC (by decide +kernel : decode cX12_feeOf 219 = .ok (.lstore 11, 2)) (by decide) rfl ?_
          refine pr_lload hC (by decide +kernel : decode cX12_feeOf 221 = .ok (.lload 11, 2)) rfl ?_
          refine pr_ldc2 hC (-2147483648) (by decide +kernel : decode cX12_feeOf 223 = .ok (.ldc2_w 465, 3)) fk_X12_465 ?_
          refine pr_ldc2 hC (2147483647) (by decide +kernel : decode cX12_feeOf 226 = .ok (.ldc2_w 467, 3)) fk_X12_467 ?_
          refine vc_Si hC hR [.long xs_20, .long (-2147483648), .long 2147483647] fv_X12_131 (by decide +kernel : decode cX12_feeOf 229 = .ok (.invokestatic 131, 3)) hU (t_X12_isIn  H) rfl rfl (Nat.le_of_ble_eq_true rfl) (Nat.le_of_ble_eq_true rfl) (Nat.le_refl 0) (Nat.le_refl 0) (fun r_23 U_22 h H hU => ?_)
          refine pr_if_ne hC 239 (by decide +kernel : decode cX12_feeOf 232 = .ok (.ifCond .ne 7, 3)) (by decide) (fun c_232 => ?_) (fun c_232 => ?_)
          · replace H := H.2 c_232
            refine pr_aload_n hC (by decide +kernel : decode cX12_feeOf 239 = .ok (.aload_n 0, 1)) rfl ?_
            refine pu_g1 hC fg_X12_87 (by decide +kernel : decode cX12_feeOf 240 = .ok (.getfield 87, 3)) hU ho0 (by decide) rfl (by decide) ?_
            refine pr_iload hC (by decide +kernel : decode cX12_feeOf 243 = .ok (.iload 4, 2)) rfl ?_
            refine pr_iconst hC (1) (by decide +kernel : decode cX12_feeOf 245 = .ok (.iconst 1, 1)) rfl ?_
            refine pr_isub hC (by decide +kernel : decode cX12_feeOf 246 = .ok (.isub, 1)) ?_
            refine pr_lload hC (by decide +kernel : decode cX12_feeOf 247 = .ok (.lload 11, 2)) rfl ?_
            refine pv_last hC (by decide +kernel : decode cX12_feeOf 249 = .ok (.lastore, 1)) hU ho0 rfl H.1 (fun U_24 h e_U_24 hU => ?_)
            replace H := H.2 U_24 e_U_24
            refine pv_iinc hC (v := x5 + 1) (by decide +kernel : decode cX12_feeOf 250 = .ok (.iinc 5 1, 3)) rfl (by decide) rfl rfl (fun x5_25 e_x5_25 => ?_)
            replace H := H x5_25 e_x5_25
            refine pr_goto hC 18 (by decide +kernel : decode cX12_feeOf 253 = .ok (.goto (-235), 3)) (by decide) ?_
            exact pv_sub [some (.ref (Y.2.1 o0)), some (.int x1), some (.int x2), some (.int x3), some (.int x4_15), some (.int x5_25), none, none, none, none, none, none, none] (And.intro rfl (And.intro rfl (And.intro rfl (And.intro rfl (And.intro rfl (And.intro rfl trivial)))))) (ih _ _ U_24 h hU H)
          replace H := H.1 c_232
          refine pr_ldc2 hC (-9223372036854775808) (by decide +kernel : decode cX12_feeOf 235 = .ok (.ldc2_w 459, 3)) fk_X12_459 ?_
          exact pv_lret hM (by decide +kernel : decode cX12_feeOf 238 = .ok (.lreturn, 1)) hU H)
        refine pr_icmp_ne hC 182 (by decide +kernel : decode cX12_feeOf 171 = .ok (.if_icmp .ne 11, 3)) (by decide) (fun c_171 => ?_) (fun c_171 => ?_)
        · replace H := H.2 c_171
          refine pr_iload hC (by decide +kernel : decode cX12_feeOf 182 = .ok (.iload 6, 2)) rfl ?_
          refine pr_bipush hC (45) (by decide +kernel : decode cX12_feeOf 184 = .ok (.bipush 45, 2)) rfl ?_
          refine pr_icmp_ne hC 197 (by decide +kernel : decode cX12_feeOf 186 = .ok (.if_icmp .ne 11, 3)) (by decide) (fun c_186 => ?_) (fun c_186 => ?_)
          · replace H := H.2 c_186
            refine pr_iload hC (by decide +kernel : decode cX12_feeOf 197 = .ok (.iload 6, 2)) rfl ?_
            refine pr_bipush hC (42) (by decide +kernel : decode cX12_feeOf 199 = .ok (.bipush 42, 2)) rfl ?_
            refine pr_icmp_ne hC 212 (by decide +kernel : decode cX12_feeOf 201 = .ok (.if_icmp .ne 11, 3)) (by decide) (fun c_201 => ?_) (fun c_201 => ?_)
            · replace H := H.2 c_201
              refine pr_lload hC (by decide +kernel : decode cX12_feeOf 212 = .ok (.lload 7, 2)) rfl ?_
              refine pr_lload hC (by decide +kernel : decode cX12_feeOf 214 = .ok (.lload 9, 2)) rfl ?_
              refine vc_Sl hC hR [.long x7_16, .long x9_17] fv_X12_461 (by decide +kernel : decode cX12_feeOf 216 = .ok (.invokestatic 461, 3)) hU (t_X12_floor  H) rfl rfl (Nat.le_of_ble_eq_true rfl) (Nat.le_of_ble_eq_true rfl) (Nat.le_refl 0) (Nat.le_refl 0) (fun r_27 U_26 h H hU => ?_)
              exact pv_sub [some (.ref (Y.2.1 o0)), some (.int x1), some (.int x2), some (.int x3), some (.int x4_15), some (.int x5), none, none, none, none, none, none, none] (And.intro rfl (And.intro rfl (And.intro rfl (And.intro rfl (And.intro rfl (And.intro rfl trivial)))))) (H h hU)
            replace H := H.1 c_201
            refine pr_lload hC (by decide +kernel : decode cX12_feeOf 204 = .ok (.lload 7, 2)) rfl ?_
            refine pr_lload hC (by decide +kernel : decode cX12_feeOf 206 = .ok (.lload 9, 2)) rfl ?_
            refine pr_lmul hC (by decide +kernel : decode cX12_feeOf 208 = .ok (.lmul, 1)) ?_
            refine pr_goto hC 219 (by decide +kernel : decode cX12_feeOf 209 = .ok (.goto 10, 3)) (by decide) ?_
            exact pv_sub [some (.ref (Y.2.1 o0)), some (.int x1), some (.int x2), some (.int x3), some (.int x4_15), some (.int x5), none, none, none, none, none, none, none] (And.intro rfl (And.intro rfl (And.intro rfl (And.intro rfl (And.intro rfl (And.intro rfl trivial)))))) (H h hU)
          replace H := H.1 c_186
          refine pr_lload hC (by decide +kernel : decode cX12_feeOf 189 = .ok (.lload 7, 2)) rfl ?_
          refine pr_lload hC (by decide +kernel : decode cX12_feeOf 191 = .ok (.lload 9, 2)) rfl ?_
          refine pr_lsub hC (by decide +kernel : decode cX12_feeOf 193 = .ok (.lsub, 1)) ?_
          refine pr_goto hC 219 (by decide +kernel : decode cX12_feeOf 194 = .ok (.goto 25, 3)) (by decide) ?_
          exact pv_sub [some (.ref (Y.2.1 o0)), some (.int x1), some (.int x2), some (.int x3), some (.int x4_15), some (.int x5), none, none, none, none, none, none, none] (And.intro rfl (And.intro rfl (And.intro rfl (And.intro rfl (And.intro rfl (And.intro rfl trivial)))))) (H h hU)
        replace H := H.1 c_171
        refine pr_lload hC (by decide +kernel : decode cX12_feeOf 174 = .ok (.lload 7, 2)) rfl ?_
        refine pr_lload hC (by decide +kernel : decode cX12_feeOf 176 = .ok (.lload 9, 2)) rfl ?_
        refine pr_ladd hC (by decide +kernel : decode cX12_feeOf 178 = .ok (.ladd, 1)) ?_
        refine pr_goto hC 219 (by decide +kernel : decode cX12_feeOf 179 = .ok (.goto 40, 3)) (by decide) ?_
        exact pv_sub [some (.ref (Y.2.1 o0)), some (.int x1), some (.int x2), some (.int x3), some (.int x4_15), some (.int x5), none, none, none, none, none, none, none] (And.intro rfl (And.intro rfl (And.intro rfl (And.intro rfl (And.intro rfl (And.intro rfl trivial)))))) (H h hU))
      refine pr_icmp_ne hC 167 (by decide +kernel : decode cX12_feeOf 153 = .ok (.if_icmp .ne 14, 3)) (by decide) (fun c_153 => ?_) (fun c_153 => ?_)
      · replace H := H.2 c_153
        exact pv_sub [some (.ref (Y.2.1 o0)), some (.int x1), some (.int x2), some (.int x3), some (.int x4_15), some (.int x5), some (.int x6_1), some (.long x7_16), none, some (.long x9_17), none, none, none] (And.intro rfl (And.intro rfl (And.intro rfl (And.intro rfl (And.intro rfl (And.intro rfl (And.intro rfl (And.intro rfl (And.intro rfl trivial))))))))) (H )
      replace H := H.1 c_153
      refine pr_lload hC (by decide +kernel : decode cX12_feeOf 156 = .ok (.lload 9, 2)) rfl ?_
      refine pr_lconst hC (0) (by decide +kernel : decode cX12_feeOf 158 = .ok (.lconst 0, 1)) rfl ?_
      refine pr_lcmp hC (by decide +kernel : decode cX12_feeOf 159 = .ok (.lcmp, 1)) ?_
      refine pr_if_ne hC 167 (by decide +kernel : decode cX12_feeOf 160 = .ok (.ifCond .ne 7, 3)) (by decide) (fun c_160 => ?_) (fun c_160 => ?_)
      · replace H := H.2 c_160
        exact pv_sub [some (.ref (Y.2.1 o0)), some (.int x1), some (.int x2), some (.int x3), some (.int x4_15), some (.int x5), some (.int x6_1), some (.long x7_16), none, some (.long x9_17), none, none, none] (And.intro rfl (And.intro rfl (And.intro rfl (And.intro rfl (And.intro rfl (And.intro rfl (And.intro rfl (And.intro rfl (And.intro rfl trivial))))))))) (H )
      replace H := H.1 c_160
      refine pr_ldc2 hC (-9223372036854775808) (by decide +kernel : decode cX12_feeOf 163 = .ok (.ldc2_w 459, 3)) fk_X12_459 ?_
      exact pv_lret hM (by decide +kernel : decode cX12_feeOf 166 = .ok (.lreturn, 1)) hU H
    replace H := H.1 c_44
    exact pv_sub [some (.ref (Y.2.1 o0)), some (.int x1), some (.int x2), some (.int x3), some (.int x4), some (.int x5), some (.int x6_1), none, none, none, none, none, none] (And.intro rfl (And.intro rfl (And.intro rfl (And.intro rfl (And.intro rfl (And.intro rfl (And.intro rfl trivial))))))) (H )
set_option maxHeartbeats 4000000 in
theorem t_X12_feeOf {l : Launch} {Y : px_Y} {o : Nat} {a1 : Int32} {a2 : Int32} {a3 : Int32} {U : Um} {post : Int64 → Um → Prop} (ho : oc o = 10) (H : w_X12_feeOf o a1 a2 a3 U post) : um l Y 3 yX12_feeOf cX12_feeOf 13 (some (.long)) [.ref (Y.2.1 o), .int a1, .int a2, .int a3] U (pq_l post) := by
  unfold w_X12_feeOf at H
  refine um_of (by decide) (Nat.le_of_ble_eq_true rfl) [some (.ref (Y.2.1 o)), some (.int a1), some (.int a2), some (.int a3), none, none, none, none, none, none, none, none, none] rfl (fun X h0 hh sz hM hU => ?_)
  have hC := hM.1
  have hR := hM.2.2.1
  refine pr_aload_n hC (by decide +kernel : decode cX12_feeOf 0 = .ok (.aload_n 0, 1)) rfl ?_
  refine pu_g1 hC fg_X12_43 (by decide +kernel : decode cX12_feeOf 1 = .ok (.getfield 43, 3)) hU ho (by decide) rfl (by decide) ?_
  refine pr_bipush hC (6) (by decide +kernel : decode cX12_feeOf 4 = .ok (.bipush 6, 2)) rfl ?_
  refine pu_iald hC (by decide +kernel : decode cX12_feeOf 6 = .ok (.iaload, 1)) hU ho rfl H.1 ?_
  replace H := H.2
  refine pr_if_ne hC 12 (by decide +kernel : decode cX12_feeOf 7 = .ok (.ifCond .ne 5, 3)) (by decide) (fun c_7 => ?_) (fun c_7 => ?_)
  · replace H := H.2 c_7
    refine pr_iconst hC (0) (by decide +kernel : decode cX12_feeOf 12 = .ok (.iconst 0, 1)) rfl ?_
    refine pr_istore hC (by decide +kernel : decode cX12_feeOf 13 = .ok (.istore 4, 2)) (by decide) rfl ?_
    refine pr_iconst hC (0) (by decide +kernel : decode cX12_feeOf 15 = .ok (.iconst 0, 1)) rfl ?_
    refine pr_istore hC (by decide +kernel : decode cX12_feeOf 16 = .ok (.istore 5, 2)) (by decide) rfl ?_
    obtain ⟨n_29, H⟩ := H
    refine pv_sub [some (.ref (Y.2.1 o)), some (.int a1), some (.int a2), some (.int a3), some (.int 0), some (.int 0), none, none, none, none, none, none, none] (And.intro rfl (And.intro rfl (And.intro rfl (And.intro rfl (And.intro rfl (And.intro rfl trivial)))))) ?_
    refine tl_X12_feeOf_L18 _ _ _ _ _ _ ho hC hM hR (fun U_28 h H hU => ?_) n_29 _ _ U hh hU H
    refine pr_aload_n hC (by decide +kernel : decode cX12_feeOf 256 = .ok (.aload_n 0, 1)) rfl ?_
    refine pu_g1 hC fg_X12_87 (by decide +kernel : decode cX12_feeOf 257 = .ok (.getfield 87, 3)) hU ho (by decide) rfl (by decide) ?_
    refine pr_iconst hC (0) (by decide +kernel : decode cX12_feeOf 260 = .ok (.iconst 0, 1)) rfl ?_
    refine pu_lald hC (by decide +kernel : decode cX12_feeOf 261 = .ok (.laload, 1)) hU ho rfl H.1 ?_
    replace H := H.2
    exact pv_lret hM (by decide +kernel : decode cX12_feeOf 262 = .ok (.lreturn, 1)) hU H
  replace H := H.1 c_7
  refine pr_lconst hC (0) (by decide +kernel : decode cX12_feeOf 10 = .ok (.lconst 0, 1)) rfl ?_
  exact pv_lret hM (by decide +kernel : decode cX12_feeOf 11 = .ok (.lreturn, 1)) hU H
def w_X12_fee (o : Nat) (a1 : Int32) (a2 : Int32) (a3 : Int32) (U : Um) (post : Int64 → Um → Prop) : Prop :=
  ∀ (U_1 : Um), U_1 = sI U o 0 0 → w_X12_isSeat o a1 a2 U_1 (fun r_3 U_2 => (r_3 = 0 → post (-9223372036854775808) U_2) ∧ (¬ r_3 = 0 → w_X12_isOne o a3 U_2 (fun r_5 U_4 => (r_5 = 0 → post (-9223372036854775808) U_4) ∧ (¬ r_5 = 0 → w_X12_feeOf o a1 a2 a3 U_4 (fun r_7 U_6 => post r_7 U_6)))))
set_option maxHeartbeats 4000000 in
theorem t_X12_fee {l : Launch} {Y : px_Y} {o : Nat} {a1 : Int32} {a2 : Int32} {a3 : Int32} {U : Um} {post : Int64 → Um → Prop} (ho : oc o = 10) (H : w_X12_fee o a1 a2 a3 U post) : um l Y 4 yX12_fee cX12_fee 4 (some (.long)) [.ref (Y.2.1 o), .int a1, .int a2, .int a3] U (pq_l post) := by
  unfold w_X12_fee at H
  refine um_of (by decide) (Nat.le_of_ble_eq_true rfl) [some (.ref (Y.2.1 o)), some (.int a1), some (.int a2), some (.int a3)] rfl (fun X h0 hh sz hM hU => ?_)
  have hC := hM.1
  have hR := hM.2.2.1
  refine pr_aload_n hC (by decide +kernel : decode cX12_fee 0 = .ok (.aload_n 0, 1)) rfl ?_
  refine pr_iconst hC (0) (by decide +kernel : decode cX12_fee 1 = .ok (.iconst 0, 1)) rfl ?_
  refine pv_p0 hC fp_X12_121 (by decide +kernel : decode cX12_fee 2 = .ok (.putfield 121, 3)) hU ho (by decide) rfl rfl rfl rfl (fun U_1 h e_U_1 hU => ?_)
  replace H := H U_1 e_U_1
  refine pr_aload_n hC (by decide +kernel : decode cX12_fee 5 = .ok (.aload_n 0, 1)) rfl ?_
  refine pr_iload_n hC (by decide +kernel : decode cX12_fee 6 = .ok (.iload_n 1, 1)) rfl ?_
  refine pr_iload_n hC (by decide +kernel : decode cX12_fee 7 = .ok (.iload_n 2, 1)) rfl ?_
  refine vc_Vi hC hR [.int a1, .int a2] fv_X12_388 (by decide +kernel : decode cX12_fee 8 = .ok (.invokevirtual 388, 3)) hU (t_X12_isSeat ho H) ho (by decide) rfl rfl rfl (Nat.le_of_ble_eq_true rfl) (Nat.le_of_ble_eq_true rfl) (Nat.le_refl 0) (Nat.le_refl 0) (fun r_3 U_2 h H hU => ?_)
  refine pr_if_eq hC 32 (by decide +kernel : decode cX12_fee 11 = .ok (.ifCond .eq 21, 3)) (by decide) (fun c_11 => ?_) (fun c_11 => ?_)
  · replace H := H.1 c_11
    refine pr_ldc2 hC (-9223372036854775808) (by decide +kernel : decode cX12_fee 32 = .ok (.ldc2_w 459, 3)) fk_X12_459 ?_
    exact pv_lret hM (by decide +kernel : decode cX12_fee 35 = .ok (.lreturn, 1)) hU H
  replace H := H.2 c_11
  refine pr_aload_n hC (by decide +kernel : decode cX12_fee 14 = .ok (.aload_n 0, 1)) rfl ?_
  refine pr_iload_n hC (by decide +kernel : decode cX12_fee 15 = .ok (.iload_n 3, 1)) rfl ?_
  refine vc_Vi hC hR [.int a3] fv_X12_368 (by decide +kernel : decode cX12_fee 16 = .ok (.invokevirtual 368, 3)) hU (t_X12_isOne ho H) ho (by decide) rfl rfl rfl (Nat.le_of_ble_eq_true rfl) (Nat.le_of_ble_eq_true rfl) (Nat.le_refl 0) (Nat.le_refl 0) (fun r_5 U_4 h H hU => ?_)
  refine pr_if_eq hC 32 (by decide +kernel : decode cX12_fee 19 = .ok (.ifCond .eq 13, 3)) (by decide) (fun c_19 => ?_) (fun c_19 => ?_)
  · replace H := H.1 c_19
    refine pr_ldc2 hC (-9223372036854775808) (by decide +kernel : decode cX12_fee 32 = .ok (.ldc2_w 459, 3)) fk_X12_459 ?_
    exact pv_lret hM (by decide +kernel : decode cX12_fee 35 = .ok (.lreturn, 1)) hU H
  replace H := H.2 c_19
  refine pr_aload_n hC (by decide +kernel : decode cX12_fee 22 = .ok (.aload_n 0, 1)) rfl ?_
  refine pr_iload_n hC (by decide +kernel : decode cX12_fee 23 = .ok (.iload_n 1, 1)) rfl ?_
  refine pr_iload_n hC (by decide +kernel : decode cX12_fee 24 = .ok (.iload_n 2, 1)) rfl ?_
  refine pr_iload_n hC (by decide +kernel : decode cX12_fee 25 = .ok (.iload_n 3, 1)) rfl ?_
  refine vc_Vl hC hR [.int a1, .int a2, .int a3] fv_X12_469 (by decide +kernel : decode cX12_fee 26 = .ok (.invokevirtual 469, 3)) hU (t_X12_feeOf ho H) ho (by decide) rfl rfl rfl (Nat.le_of_ble_eq_true rfl) (Nat.le_of_ble_eq_true rfl) (Nat.le_refl 0) (Nat.le_refl 0) (fun r_7 U_6 h H hU => ?_)
  refine pr_goto hC 35 (by decide +kernel : decode cX12_fee 29 = .ok (.goto 6, 3)) (by decide) ?_
  exact pv_lret hM (by decide +kernel : decode cX12_fee 35 = .ok (.lreturn, 1)) hU H
def b_X12_fees_L41 (o0 : Nat) (x1 : Int32) (x4 : Int32) (post : Int64 → Um → Prop) (k_124 : Int64 → Um → Prop) (rec_ : Int64 → Int32 → Um → Prop) (x2 : Int64) (x5 : Int32) (U : Um) : Prop :=
  w_X12_of o0 x4 7 U (fun r_5 U_4 => (r_5 ≤ x5 → k_124 x2 U_4) ∧ (¬ r_5 ≤ x5 → w_X12_at x4 x5 U_4 (fun r_7 U_6 => vp_in r_7 48 ∧ ∀ (x6_8 : Int32), x6_8 = uA U_6 o0 30 (Int32.toNatClampNeg r_7) → (x6_8 = (-1) → ∀ (x5_9 : Int32), x5_9 = x5 + 1 → rec_ x2 x5_9 U_6) ∧ (¬ x6_8 = (-1) → (∀ K_10 : Prop, ((w_X12_feeOf o0 x4 x5 x6_8 U_6 (fun r_12 U_11 => ((lg_cmp r_12 (-9223372036854775808)) = 0 → ∀ (x2_13 : Int64), x2_13 = x2 + 0 → ∀ (x5_14 : Int32), x5_14 = x5 + 1 → rec_ x2_13 x5_14 U_11) ∧ (¬ (lg_cmp r_12 (-9223372036854775808)) = 0 → ∀ (x2_15 : Int64), x2_15 = x2 + r_12 → ∀ (x5_16 : Int32), x5_16 = x5 + 1 → rec_ x2_15 x5_16 U_11))) → K_10 ) → (x1 = (-1) → K_10) ∧ (¬ x1 = (-1) → (x6_8 = x1 → K_10) ∧ (¬ x6_8 = x1 → ∀ (x5_17 : Int32), x5_17 = x5 + 1 → rec_ x2 x5_17 U_6)))))))
def w_X12_fees_L41 (o0 : Nat) (x1 : Int32) (x4 : Int32) (post : Int64 → Um → Prop) (k_124 : Int64 → Um → Prop) (n_ : Nat) : Int64 → Int32 → Um → Prop := Nat.rec (motive := fun _ => Int64 → Int32 → Um → Prop) (fun _ _ _ => False) (fun _ ih => b_X12_fees_L41 o0 x1 x4 post k_124 ih) n_
def b_X12_fees_L27 (o0 : Nat) (x1 : Int32) (post : Int64 → Um → Prop) (k_130 : Int64 → Um → Prop) (rec_ : Int64 → Int32 → Um → Prop) (x2 : Int64) (x4 : Int32) (U : Um) : Prop :=
  vp_in 3 14 ∧ ((uA U o0 11 (Int32.toNatClampNeg 3)) ≤ x4 → k_130 x2 U) ∧ (¬ (uA U o0 11 (Int32.toNatClampNeg 3)) ≤ x4 → (∃ n_21, w_X12_fees_L41 o0 x1 x4 post (fun x2_18 U_19 => ∀ (x4_20 : Int32), x4_20 = x4 + 1 → rec_ x2_18 x4_20 U_19) n_21 x2 0 U))
def w_X12_fees_L27 (o0 : Nat) (x1 : Int32) (post : Int64 → Um → Prop) (k_130 : Int64 → Um → Prop) (n_ : Nat) : Int64 → Int32 → Um → Prop := Nat.rec (motive := fun _ => Int64 → Int32 → Um → Prop) (fun _ _ _ => False) (fun _ ih => b_X12_fees_L27 o0 x1 post k_130 ih) n_
def w_X12_fees (o : Nat) (a1 : Int32) (U : Um) (post : Int64 → Um → Prop) : Prop :=
  ∀ (U_1 : Um), U_1 = sI U o 0 0 → (∀ K_2 : Um → Prop, (∀ (U_3 : Um), ((∃ n_24, w_X12_fees_L27 o a1 post (fun x2_22 U_23 => post x2_22 U_23) n_24 0 0 U_3)) → K_2 U_3) → (a1 = (-1) → K_2 U_1) ∧ (¬ a1 = (-1) → w_X12_isOne o a1 U_1 (fun r_26 U_25 => (r_26 = 0 → post (-9223372036854775808) U_25) ∧ (¬ r_26 = 0 → K_2 U_25))))
set_option maxHeartbeats 4000000 in
theorem tl_X12_fees_L41 {l : Launch} {Y : px_Y} {X : px_X} {h0 hh : pe_H} {sz : Nat} (o0 : Nat) (x1 : Int32) (x4 : Int32) (post : Int64 → Um → Prop) (k_124 : Int64 → Um → Prop) (ho0 : oc o0 = 10)  (hC : px_C X Y.1 (pm_A hh sz) cX12_fees RX12 9) (hM : px_M l X Y.1 hh sz yX12_fees cX12_fees 9 (some (.long)) 4 0 0) (hR : X.2.2.2.1 = pm_rm 4 0 0) (hk_124 : ∀ (y2 : Int64) (U : Um) (h : pe_H), k_124 y2 U → rF Y h0 U h → pw X Y.1 (pm_A hh sz) (pm_E X Y.1 hh sz 0 0 (pm_P Y h0 sz (pq_l post))) 124 [some (.ref (Y.2.1 o0)), some (.int x1), some (.long y2), none, some (.int x4), none, none, none, none] [] h sz 0 0) : ∀ (n_ : Nat) (x2 : Int64) (x5 : Int32) (U : Um) (h : pe_H), rF Y h0 U h → w_X12_fees_L41 o0 x1 x4 post k_124 n_ x2 x5 U → pw X Y.1 (pm_A hh sz) (pm_E X Y.1 hh sz 0 0 (pm_P Y h0 sz (pq_l post))) 41 [some (.ref (Y.2.1 o0)), some (.int x1), some (.long x2), none, some (.int x4), some (.int x5), none, none, none] [] h sz 0 0 := by
  intro n_
  induction n_ with
  | zero => intro x2 x5 U h hU H; exact False.elim H
  | succ n_ ih =>
    intro x2 x5 U h hU H
    replace H : b_X12_fees_L41 o0 x1 x4 post k_124 (w_X12_fees_L41 o0 x1 x4 post k_124 n_) x2 x5 U := H
    unfold b_X12_fees_L41 at H
    refine pr_iload hC (by decide +kernel : decode cX12_fees 41 = .ok (.iload 5, 2)) rfl ?_
    refine pr_aload_n hC (by decide +kernel : decode cX12_fees 43 = .ok (.aload_n 0, 1)) rfl ?_
    refine pr_iload hC (by decide +kernel : decode cX12_fees 44 = .ok (.iload 4, 2)) rfl ?_
    refine pr_bipush hC (7) (by decide +kernel : decode cX12_fees 46 = .ok (.bipush 7, 2)) rfl ?_
    refine vc_Vi hC hR [.int x4, .int 7] fv_X12_353 (by decide +kernel : decode cX12_fees 48 = .ok (.invokevirtual 353, 3)) hU (t_X12_of ho0 H) ho0 (by decide) rfl rfl rfl (Nat.le_of_ble_eq_true rfl) (Nat.le_of_ble_eq_true rfl) (Nat.le_refl 0) (Nat.le_refl 0) (fun r_5 U_4 h H hU => ?_)
    refine pr_icmp_ge hC 124 (by decide +kernel : decode cX12_fees 51 = .ok (.if_icmp .ge 73, 3)) (by decide) (fun c_51 => ?_) (fun c_51 => ?_)
    · replace H := H.1 c_51
      exact pv_sub [some (.ref (Y.2.1 o0)), some (.int x1), some (.long x2), none, some (.int x4), none, none, none, none] (And.intro rfl (And.intro rfl (And.intro rfl (And.intro rfl trivial)))) (hk_124 _ U_4 h H hU)
    replace H := H.2 c_51
    refine pr_aload_n hC (by decide +kernel : decode cX12_fees 54 = .ok (.aload_n 0, 1)) rfl ?_
    refine pu_g1 hC fg_X12_59 (by decide +kernel : decode cX12_fees 55 = .ok (.getfield 59, 3)) hU ho0 (by decide) rfl (by decide) ?_
    refine pr_iload hC (by decide +kernel : decode cX12_fees 58 = .ok (.iload 4, 2)) rfl ?_
    refine pr_iload hC (by decide +kernel : decode cX12_fees 60 = .ok (.iload 5, 2)) rfl ?_
    refine vc_Si hC hR [.int x4, .int x5] fv_X12_360 (by decide +kernel : decode cX12_fees 62 = .ok (.invokestatic 360, 3)) hU (t_X12_at  H) rfl rfl (Nat.le_of_ble_eq_true rfl) (Nat.le_of_ble_eq_true rfl) (Nat.le_refl 0) (Nat.le_refl 0) (fun r_7 U_6 h H hU => ?_)
    refine pu_iald hC (by decide +kernel : decode cX12_fees 65 = .ok (.iaload, 1)) hU ho0 rfl H.1 ?_
    replace H := H.2
    refine pv_topi (fun x6_8 e_x6_8 => ?_)
    replace H := H x6_8 e_x6_8
    refine pr_istore hC (by decide +kernel : decode cX12_fees 66 = .ok (.istore 6, 2)) (by decide) rfl ?_
    refine pr_iload hC (by decide +kernel : decode cX12_fees 68 = .ok (.iload 6, 2)) rfl ?_
    refine pr_iconst hC (-1) (by decide +kernel : decode cX12_fees 70 = .ok (.iconst (-1), 1)) rfl ?_
    refine pr_icmp_eq hC 118 (by decide +kernel : decode cX12_fees 71 = .ok (.if_icmp .eq 47, 3)) (by decide) (fun c_71 => ?_) (fun c_71 => ?_)
    · replace H := H.1 c_71
      refine pv_iinc hC (v := x5 + 1) (by decide +kernel : decode cX12_fees 118 = .ok (.iinc 5 1, 3)) rfl (by decide) rfl rfl (fun x5_9 e_x5_9 => ?_)
      replace H := H x5_9 e_x5_9
      refine pr_goto hC 41 (by decide +kernel : decode cX12_fees 121 = .ok (.goto (-80), 3)) (by decide) ?_
      exact pv_sub [some (.ref (Y.2.1 o0)), some (.int x1), some (.long x2), none, some (.int x4), some (.int x5_9), none, none, none] (And.intro rfl (And.intro rfl (And.intro rfl (And.intro rfl (And.intro rfl trivial))))) (ih _ _ U_6 h hU H)
    replace H := H.2 c_71
    refine pr_iload_n hC (by decide +kernel : decode cX12_fees 74 = .ok (.iload_n 1, 1)) rfl ?_
    refine pr_iconst hC (-1) (by decide +kernel : decode cX12_fees 75 = .ok (.iconst (-1), 1)) rfl ?_
    replace H := H (pw X Y.1 (pm_A hh sz) (pm_E X Y.1 hh sz 0 0 (pm_P Y h0 sz (pq_l post))) 88 [some (.ref (Y.2.1 o0)), some (.int x1), some (.long x2), none, some (.int x4), some (.int x5), some (.int x6_8), none, none] [] h sz 0 0) (by
      intro  H
      refine pr_aload_n hC (by decide +kernel : decode cX12_fees 88 = .ok (.aload_n 0, 1)) rfl ?_
      refine pr_iload hC (by decide +kernel : decode cX12_fees 89 = .ok (.iload 4, 2)) rfl ?_
      refine pr_iload hC (by decide +kernel : decode cX12_fees 91 = .ok (.iload 5, 2)) rfl ?_
      refine pr_iload hC (by decide +kernel : decode cX12_fees 93 = .ok (.iload 6, 2)) rfl ?_
      refine vc_Vl hC hR [.int x4, .int x5, .int x6_8] fv_X12_469 (by decide +kernel : decode cX12_fees 95 = .ok (.invokevirtual 469, 3)) hU (t_X12_feeOf ho0 H) ho0 (by decide) rfl rfl rfl (Nat.le_of_ble_eq_true rfl) (Nat.le_of_ble_eq_true rfl) (Nat.le_refl 0) (Nat.le_refl 0) (fun r_12 U_11 h H hU => ?_)
      refine pr_lstore hC (by decide +kernel : decode cX12_fees 98 = .ok (.lstore 7, 2)) (by decide) rfl ?_
      refine pr_lload_n hC (by decide +kernel : decode cX12_fees 100 = .ok (.lload_n 2, 1)) rfl ?_
      refine pr_lload hC (by decide +kernel : decode cX12_fees 101 = .ok (.lload 7, 2)) rfl ?_
      refine pr_ldc2 hC (-9223372036854775808) (by decide +kernel : decode cX12_fees 103 = .ok (.ldc2_w 459, 3)) fk_X12_459 ?_
      refine pr_lcmp hC (by decide +kernel : decode cX12_fees 106 = .ok (.lcmp, 1)) ?_
      refine pr_if_ne hC 114 (by decide +kernel : decode cX12_fees 107 = .ok (.ifCond .ne 7, 3)) (by decide) (fun c_107 => ?_) (fun c_107 => ?_)
      · replace H := H.2 c_107
        refine pr_lload hC (by decide +kernel : decode cX12_fees 114 = .ok (.lload 7, 2)) rfl ?_
        refine pr_ladd hC (by decide +kernel : decode cX12_fees 116 = .ok (.ladd, 1)) ?_
        refine pv_topl (fun x2_15 e_x2_15 => ?_)
        replace H := H x2_15 e_x2_15
        refine pr_lstore_n hC (by decide +kernel : decode cX12_fees 117 = .ok (.lstore_n 2, 1)) (by decide) rfl ?_
        refine pv_iinc hC (v := x5 + 1) (by decide +kernel : decode cX12_fees 118 = .ok (.iinc 5 1, 3)) rfl (by decide) rfl rfl (fun x5_16 e_x5_16 => ?_)
        replace H := H x5_16 e_x5_16
        refine pr_goto hC 41 (by decide +kernel : decode cX12_fees 121 = .ok (.goto (-80), 3)) (by decide) ?_
        exact pv_sub [some (.ref (Y.2.1 o0)), some (.int x1), some (.long x2_15), none, some (.int x4), some (.int x5_16), none, none, none] (And.intro rfl (And.intro rfl (And.intro rfl (And.intro rfl (And.intro rfl trivial))))) (ih _ _ U_11 h hU H)
      replace H := H.1 c_107
      refine pr_lconst hC (0) (by decide +kernel : decode cX12_fees 110 = .ok (.lconst 0, 1)) rfl ?_
      refine pr_goto hC 116 (by decide +kernel : decode cX12_fees 111 = .ok (.goto 5, 3)) (by decide) ?_
      refine pr_ladd hC (by decide +kernel : decode cX12_fees 116 = .ok (.ladd, 1)) ?_
      refine pv_topl (fun x2_13 e_x2_13 => ?_)
      replace H := H x2_13 e_x2_13
      refine pr_lstore_n hC (by decide +kernel : decode cX12_fees 117 = .ok (.lstore_n 2, 1)) (by decide) rfl ?_
      refine pv_iinc hC (v := x5 + 1) (by decide +kernel : decode cX12_fees 118 = .ok (.iinc 5 1, 3)) rfl (by decide) rfl rfl (fun x5_14 e_x5_14 => ?_)
      replace H := H x5_14 e_x5_14
      refine pr_goto hC 41 (by decide +kernel : decode cX12_fees 121 = .ok (.goto (-80), 3)) (by decide) ?_
      exact pv_sub [some (.ref (Y.2.1 o0)), some (.int x1), some (.long x2_13), none, some (.int x4), some (.int x5_14), none, none, none] (And.intro rfl (And.intro rfl (And.intro rfl (And.intro rfl (And.intro rfl trivial))))) (ih _ _ U_11 h hU H))
    refine pr_icmp_eq hC 88 (by decide +kernel : decode cX12_fees 76 = .ok (.if_icmp .eq 12, 3)) (by decide) (fun c_76 => ?_) (fun c_76 => ?_)
    · replace H := H.1 c_76
      exact pv_sub [some (.ref (Y.2.1 o0)), some (.int x1), some (.long x2), none, some (.int x4), some (.int x5), some (.int x6_8), none, none] (And.intro rfl (And.intro rfl (And.intro rfl (And.intro rfl (And.intro rfl (And.intro rfl trivial)))))) (H )
    replace H := H.2 c_76
    refine pr_iload hC (by decide +kernel : decode cX12_fees 79 = .ok (.iload 6, 2)) rfl ?_
    refine pr_iload_n hC (by decide +kernel : decode cX12_fees 81 = .ok (.iload_n 1, 1)) rfl ?_
    refine pr_icmp_eq hC 88 (by decide +kernel : decode cX12_fees 82 = .ok (.if_icmp .eq 6, 3)) (by decide) (fun c_82 => ?_) (fun c_82 => ?_)
    · replace H := H.1 c_82
      exact pv_sub [some (.ref (Y.2.1 o0)), some (.int x1), some (.long x2), none, some (.int x4), some (.int x5), some (.int x6_8), none, none] (And.intro rfl (And.intro rfl (And.intro rfl (And.intro rfl (And.intro rfl (And.intro rfl trivial)))))) (H )
    replace H := H.2 c_82
    refine pr_goto hC 118 (by decide +kernel : decode cX12_fees 85 = .ok (.goto 33, 3)) (by decide) ?_
    refine pv_iinc hC (v := x5 + 1) (by decide +kernel : decode cX12_fees 118 = .ok (.iinc 5 1, 3)) rfl (by decide) rfl rfl (fun x5_17 e_x5_17 => ?_)
    replace H := H x5_17 e_x5_17
    refine pr_goto hC 41 (by decide +kernel : decode cX12_fees 121 = .ok (.goto (-80), 3)) (by decide) ?_
    exact pv_sub [some (.ref (Y.2.1 o0)), some (.int x1), some (.long x2), none, some (.int x4), some (.int x5_17), none, none, none] (And.intro rfl (And.intro rfl (And.intro rfl (And.intro rfl (And.intro rfl trivial))))) (ih _ _ U_6 h hU H)
set_option maxHeartbeats 4000000 in
theorem tl_X12_fees_L27 {l : Launch} {Y : px_Y} {X : px_X} {h0 hh : pe_H} {sz : Nat} (o0 : Nat) (x1 : Int32) (post : Int64 → Um → Prop) (k_130 : Int64 → Um → Prop) (ho0 : oc o0 = 10)  (hC : px_C X Y.1 (pm_A hh sz) cX12_fees RX12 9) (hM : px_M l X Y.1 hh sz yX12_fees cX12_fees 9 (some (.long)) 4 0 0) (hR : X.2.2.2.1 = pm_rm 4 0 0) (hk_130 : ∀ (y2 : Int64) (U : Um) (h : pe_H), k_130 y2 U → rF Y h0 U h → pw X Y.1 (pm_A hh sz) (pm_E X Y.1 hh sz 0 0 (pm_P Y h0 sz (pq_l post))) 130 [none, none, some (.long y2), none, none, none, none, none, none] [] h sz 0 0) : ∀ (n_ : Nat) (x2 : Int64) (x4 : Int32) (U : Um) (h : pe_H), rF Y h0 U h → w_X12_fees_L27 o0 x1 post k_130 n_ x2 x4 U → pw X Y.1 (pm_A hh sz) (pm_E X Y.1 hh sz 0 0 (pm_P Y h0 sz (pq_l post))) 27 [some (.ref (Y.2.1 o0)), some (.int x1), some (.long x2), none, some (.int x4), none, none, none, none] [] h sz 0 0 := by
  intro n_
  induction n_ with
  | zero => intro x2 x4 U h hU H; exact False.elim H
  | succ n_ ih =>
    intro x2 x4 U h hU H
    replace H : b_X12_fees_L27 o0 x1 post k_130 (w_X12_fees_L27 o0 x1 post k_130 n_) x2 x4 U := H
    unfold b_X12_fees_L27 at H
    refine pr_iload hC (by decide +kernel : decode cX12_fees 27 = .ok (.iload 4, 2)) rfl ?_
    refine pr_aload_n hC (by decide +kernel : decode cX12_fees 29 = .ok (.aload_n 0, 1)) rfl ?_
    refine pu_g1 hC fg_X12_43 (by decide +kernel : decode cX12_fees 30 = .ok (.getfield 43, 3)) hU ho0 (by decide) rfl (by decide) ?_
    refine pr_iconst hC (3) (by decide +kernel : decode cX12_fees 33 = .ok (.iconst 3, 1)) rfl ?_
    refine pu_iald hC (by decide +kernel : decode cX12_fees 34 = .ok (.iaload, 1)) hU ho0 rfl H.1 ?_
    replace H := H.2
    refine pr_icmp_ge hC 130 (by decide +kernel : decode cX12_fees 35 = .ok (.if_icmp .ge 95, 3)) (by decide) (fun c_35 => ?_) (fun c_35 => ?_)
    · replace H := H.1 c_35
      exact pv_sub [none, none, some (.long x2), none, none, none, none, none, none] (And.intro rfl trivial) (hk_130 _ U h H hU)
    replace H := H.2 c_35
    refine pr_iconst hC (0) (by decide +kernel : decode cX12_fees 38 = .ok (.iconst 0, 1)) rfl ?_
    refine pr_istore hC (by decide +kernel : decode cX12_fees 39 = .ok (.istore 5, 2)) (by decide) rfl ?_
    obtain ⟨n_21, H⟩ := H
    refine pv_sub [some (.ref (Y.2.1 o0)), some (.int x1), some (.long x2), none, some (.int x4), some (.int 0), none, none, none] (And.intro rfl (And.intro rfl (And.intro rfl (And.intro rfl (And.intro rfl trivial))))) ?_
    refine tl_X12_fees_L41 _ _ _ _ _ ho0 hC hM hR (fun x2_18 U_19 h H hU => ?_) n_21 _ _ U h hU H
    refine pv_iinc hC (v := x4 + 1) (by decide +kernel : decode cX12_fees 124 = .ok (.iinc 4 1, 3)) rfl (by decide) rfl rfl (fun x4_20 e_x4_20 => ?_)
    replace H := H x4_20 e_x4_20
    refine pr_goto hC 27 (by decide +kernel : decode cX12_fees 127 = .ok (.goto (-100), 3)) (by decide) ?_
    exact pv_sub [some (.ref (Y.2.1 o0)), some (.int x1), some (.long x2_18), none, some (.int x4_20), none, none, none, none] (And.intro rfl (And.intro rfl (And.intro rfl (And.intro rfl trivial)))) (ih _ _ U_19 h hU H)
set_option maxHeartbeats 4000000 in
theorem t_X12_fees {l : Launch} {Y : px_Y} {o : Nat} {a1 : Int32} {U : Um} {post : Int64 → Um → Prop} (ho : oc o = 10) (H : w_X12_fees o a1 U post) : um l Y 4 yX12_fees cX12_fees 9 (some (.long)) [.ref (Y.2.1 o), .int a1] U (pq_l post) := by
  unfold w_X12_fees at H
  refine um_of (by decide) (Nat.le_of_ble_eq_true rfl) [some (.ref (Y.2.1 o)), some (.int a1), none, none, none, none, none, none, none] rfl (fun X h0 hh sz hM hU => ?_)
  have hC := hM.1
  have hR := hM.2.2.1
  refine pr_aload_n hC (by decide +kernel : decode cX12_fees 0 = .ok (.aload_n 0, 1)) rfl ?_
  refine pr_iconst hC (0) (by decide +kernel : decode cX12_fees 1 = .ok (.iconst 0, 1)) rfl ?_
  refine pv_p0 hC fp_X12_121 (by decide +kernel : decode cX12_fees 2 = .ok (.putfield 121, 3)) hU ho (by decide) rfl rfl rfl rfl (fun U_1 h e_U_1 hU => ?_)
  replace H := H U_1 e_U_1
  refine pr_iload_n hC (by decide +kernel : decode cX12_fees 5 = .ok (.iload_n 1, 1)) rfl ?_
  refine pr_iconst hC (-1) (by decide +kernel : decode cX12_fees 6 = .ok (.iconst (-1), 1)) rfl ?_
  replace H := H (fun U_3 => ∀ h : pe_H, rF Y h0 U_3 h → pw X Y.1 (pm_A hh sz) (pm_E X Y.1 hh sz 0 0 (pm_P Y h0 sz (pq_l post))) 22 [some (.ref (Y.2.1 o)), some (.int a1), none, none, none, none, none, none, none] [] h sz 0 0) (by
    intro U_3 H h hU
    refine pr_lconst hC (0) (by decide +kernel : decode cX12_fees 22 = .ok (.lconst 0, 1)) rfl ?_
    refine pr_lstore_n hC (by decide +kernel : decode cX12_fees 23 = .ok (.lstore_n 2, 1)) (by decide) rfl ?_
    refine pr_iconst hC (0) (by decide +kernel : decode cX12_fees 24 = .ok (.iconst 0, 1)) rfl ?_
    refine pr_istore hC (by decide +kernel : decode cX12_fees 25 = .ok (.istore 4, 2)) (by decide) rfl ?_
    obtain ⟨n_24, H⟩ := H
    refine pv_sub [some (.ref (Y.2.1 o)), some (.int a1), some (.long 0), none, some (.int 0), none, none, none, none] (And.intro rfl (And.intro rfl (And.intro rfl (And.intro rfl trivial)))) ?_
    refine tl_X12_fees_L27 _ _ _ _ ho hC hM hR (fun x2_22 U_23 h H hU => ?_) n_24 _ _ U_3 h hU H
    refine pr_lload_n hC (by decide +kernel : decode cX12_fees 130 = .ok (.lload_n 2, 1)) rfl ?_
    exact pv_lret hM (by decide +kernel : decode cX12_fees 131 = .ok (.lreturn, 1)) hU H)
  refine pr_icmp_eq hC 22 (by decide +kernel : decode cX12_fees 7 = .ok (.if_icmp .eq 15, 3)) (by decide) (fun c_7 => ?_) (fun c_7 => ?_)
  · replace H := H.1 c_7
    exact pv_sub [some (.ref (Y.2.1 o)), some (.int a1), none, none, none, none, none, none, none] (And.intro rfl (And.intro rfl trivial)) (H h hU)
  replace H := H.2 c_7
  refine pr_aload_n hC (by decide +kernel : decode cX12_fees 10 = .ok (.aload_n 0, 1)) rfl ?_
  refine pr_iload_n hC (by decide +kernel : decode cX12_fees 11 = .ok (.iload_n 1, 1)) rfl ?_
  refine vc_Vi hC hR [.int a1] fv_X12_368 (by decide +kernel : decode cX12_fees 12 = .ok (.invokevirtual 368, 3)) hU (t_X12_isOne ho H) ho (by decide) rfl rfl rfl (Nat.le_of_ble_eq_true rfl) (Nat.le_of_ble_eq_true rfl) (Nat.le_refl 0) (Nat.le_refl 0) (fun r_26 U_25 h H hU => ?_)
  refine pr_if_ne hC 22 (by decide +kernel : decode cX12_fees 15 = .ok (.ifCond .ne 7, 3)) (by decide) (fun c_15 => ?_) (fun c_15 => ?_)
  · replace H := H.2 c_15
    exact pv_sub [some (.ref (Y.2.1 o)), some (.int a1), none, none, none, none, none, none, none] (And.intro rfl (And.intro rfl trivial)) (H h hU)
  replace H := H.1 c_15
  refine pr_ldc2 hC (-9223372036854775808) (by decide +kernel : decode cX12_fees 18 = .ok (.ldc2_w 459, 3)) fk_X12_459 ?_
  exact pv_lret hM (by decide +kernel : decode cX12_fees 21 = .ok (.lreturn, 1)) hU H
def b_X12_best_L27 (o0 : Nat) (x1 : Int32) (x2 : Int32) (post : Int32 → Um → Prop) (k_133 : Int32 → Um → Prop) (rec_ : Int32 → Int32 → Int64 → Int32 → Um → Prop) (x3 : Int32) (x4 : Int32) (x5 : Int64) (x7 : Int32) (U : Um) : Prop :=
  vp_in 2 14 ∧ ((uA U o0 11 (Int32.toNatClampNeg 2)) ≤ x7 → k_133 x3 U) ∧ (¬ (uA U o0 11 (Int32.toNatClampNeg 2)) ≤ x7 → w_X12_whyOf o0 x1 x2 x7 U (fun r_5 U_4 => (r_5 = 0 → w_X12_extraOf o0 x1 x2 x7 U_4 (fun r_7 U_6 => w_X12_feeOf o0 x1 x2 x7 U_6 (fun r_9 U_8 => ∀ (x9_10 : Int64), x9_10 = (if (lg_cmp r_9 (-9223372036854775808)) = 0 then 9223372036854775807 else r_9) → (∀ K_11 : Prop, ((∀ (x3_12 : Int32), x3_12 = x7 → ∀ (x7_13 : Int32), x7_13 = x7 + 1 → rec_ x3_12 r_7 x9_10 x7_13 U_8) → K_11 ) → (x3 = (-1) → K_11) ∧ (¬ x3 = (-1) → (x4 < r_7 → ∀ (x7_14 : Int32), x7_14 = x7 + 1 → rec_ x3 x4 x5 x7_14 U_8) ∧ (¬ x4 < r_7 → (r_7 = x4 → ((lg_cmp x9_10 x5) < 0 → K_11) ∧ (¬ (lg_cmp x9_10 x5) < 0 → ∀ (x7_15 : Int32), x7_15 = x7 + 1 → rec_ x3 x4 x5 x7_15 U_8)) ∧ (¬ r_7 = x4 → K_11))))))) ∧ (¬ r_5 = 0 → ∀ (x7_17 : Int32), x7_17 = x7 + 1 → rec_ x3 x4 x5 x7_17 U_4)))
def w_X12_best_L27 (o0 : Nat) (x1 : Int32) (x2 : Int32) (post : Int32 → Um → Prop) (k_133 : Int32 → Um → Prop) (n_ : Nat) : Int32 → Int32 → Int64 → Int32 → Um → Prop := Nat.rec (motive := fun _ => Int32 → Int32 → Int64 → Int32 → Um → Prop) (fun _ _ _ _ _ => False) (fun _ ih => b_X12_best_L27 o0 x1 x2 post k_133 ih) n_
def w_X12_best (o : Nat) (a1 : Int32) (a2 : Int32) (U : Um) (post : Int32 → Um → Prop) : Prop :=
  ∀ (U_1 : Um), U_1 = sI U o 0 0 → w_X12_isSeat o a1 a2 U_1 (fun r_3 U_2 => (r_3 = 0 → post (-1) U_2) ∧ (¬ r_3 = 0 → (∃ n_20, w_X12_best_L27 o a1 a2 post (fun x3_18 U_19 => post x3_18 U_19) n_20 (-1) 0 0 0 U_2)))
set_option maxHeartbeats 4000000 in
theorem tl_X12_best_L27 {l : Launch} {Y : px_Y} {X : px_X} {h0 hh : pe_H} {sz : Nat} (o0 : Nat) (x1 : Int32) (x2 : Int32) (post : Int32 → Um → Prop) (k_133 : Int32 → Um → Prop) (ho0 : oc o0 = 10)  (hC : px_C X Y.1 (pm_A hh sz) cX12_best RX12 11) (hM : px_M l X Y.1 hh sz yX12_best cX12_best 11 (some (.int)) 5 0 0) (hR : X.2.2.2.1 = pm_rm 5 0 0) (hk_133 : ∀ (y3 : Int32) (U : Um) (h : pe_H), k_133 y3 U → rF Y h0 U h → pw X Y.1 (pm_A hh sz) (pm_E X Y.1 hh sz 0 0 (pm_P Y h0 sz (pq_i post))) 133 [none, none, none, some (.int y3), none, none, none, none, none, none, none] [] h sz 0 0) : ∀ (n_ : Nat) (x3 : Int32) (x4 : Int32) (x5 : Int64) (x7 : Int32) (U : Um) (h : pe_H), rF Y h0 U h → w_X12_best_L27 o0 x1 x2 post k_133 n_ x3 x4 x5 x7 U → pw X Y.1 (pm_A hh sz) (pm_E X Y.1 hh sz 0 0 (pm_P Y h0 sz (pq_i post))) 27 [some (.ref (Y.2.1 o0)), some (.int x1), some (.int x2), some (.int x3), some (.int x4), some (.long x5), none, some (.int x7), none, none, none] [] h sz 0 0 := by
  intro n_
  induction n_ with
  | zero => intro x3 x4 x5 x7 U h hU H; exact False.elim H
  | succ n_ ih =>
    intro x3 x4 x5 x7 U h hU H
    replace H : b_X12_best_L27 o0 x1 x2 post k_133 (w_X12_best_L27 o0 x1 x2 post k_133 n_) x3 x4 x5 x7 U := H
    unfold b_X12_best_L27 at H
    refine pr_iload hC (by decide +kernel : decode cX12_best 27 = .ok (.iload 7, 2)) rfl ?_
    refine pr_aload_n hC (by decide +kernel : decode cX12_best 29 = .ok (.aload_n 0, 1)) rfl ?_
    refine pu_g1 hC fg_X12_43 (by decide +kernel : decode cX12_best 30 = .ok (.getfield 43, 3)) hU ho0 (by decide) rfl (by decide) ?_
    refine pr_iconst hC (2) (by decide +kernel : decode cX12_best 33 = .ok (.iconst 2, 1)) rfl ?_
    refine pu_iald hC (by decide +kernel : decode cX12_best 34 = .ok (.iaload, 1)) hU ho0 rfl H.1 ?_
    replace H := H.2
    refine pr_icmp_ge hC 133 (by decide +kernel : decode cX12_best 35 = .ok (.if_icmp .ge 98, 3)) (by decide) (fun c_35 => ?_) (fun c_35 => ?_)
    · replace H := H.1 c_35
      exact pv_sub [none, none, none, some (.int x3), none, none, none, none, none, none, none] (And.intro rfl trivial) (hk_133 _ U h H hU)
    replace H := H.2 c_35
    refine pr_aload_n hC (by decide +kernel : decode cX12_best 38 = .ok (.aload_n 0, 1)) rfl ?_
    refine pr_iload_n hC (by decide +kernel : decode cX12_best 39 = .ok (.iload_n 1, 1)) rfl ?_
    refine pr_iload_n hC (by decide +kernel : decode cX12_best 40 = .ok (.iload_n 2, 1)) rfl ?_
    refine pr_iload hC (by decide +kernel : decode cX12_best 41 = .ok (.iload 7, 2)) rfl ?_
    refine vc_Vi hC hR [.int x1, .int x2, .int x7] fv_X12_427 (by decide +kernel : decode cX12_best 43 = .ok (.invokevirtual 427, 3)) hU (t_X12_whyOf ho0 H) ho0 (by decide) rfl rfl rfl (Nat.le_of_ble_eq_true rfl) (Nat.le_of_ble_eq_true rfl) (Nat.le_refl 0) (Nat.le_refl 0) (fun r_5 U_4 h H hU => ?_)
    refine pr_if_eq hC 52 (by decide +kernel : decode cX12_best 46 = .ok (.ifCond .eq 6, 3)) (by decide) (fun c_46 => ?_) (fun c_46 => ?_)
    · replace H := H.1 c_46
      refine pr_aload_n hC (by decide +kernel : decode cX12_best 52 = .ok (.aload_n 0, 1)) rfl ?_
      refine pr_iload_n hC (by decide +kernel : decode cX12_best 53 = .ok (.iload_n 1, 1)) rfl ?_
      refine pr_iload_n hC (by decide +kernel : decode cX12_best 54 = .ok (.iload_n 2, 1)) rfl ?_
      refine pr_iload hC (by decide +kernel : decode cX12_best 55 = .ok (.iload 7, 2)) rfl ?_
      refine vc_Vi hC hR [.int x1, .int x2, .int x7] fv_X12_449 (by decide +kernel : decode cX12_best 57 = .ok (.invokevirtual 449, 3)) hU (t_X12_extraOf ho0 H) ho0 (by decide) rfl rfl rfl (Nat.le_of_ble_eq_true rfl) (Nat.le_of_ble_eq_true rfl) (Nat.le_refl 0) (Nat.le_refl 0) (fun r_7 U_6 h H hU => ?_)
      refine pr_istore hC (by decide +kernel : decode cX12_best 60 = .ok (.istore 8, 2)) (by decide) rfl ?_
      refine pr_aload_n hC (by decide +kernel : decode cX12_best 62 = .ok (.aload_n 0, 1)) rfl ?_
      refine pr_iload_n hC (by decide +kernel : decode cX12_best 63 = .ok (.iload_n 1, 1)) rfl ?_
      refine pr_iload_n hC (by decide +kernel : decode cX12_best 64 = .ok (.iload_n 2, 1)) rfl ?_
      refine pr_iload hC (by decide +kernel : decode cX12_best 65 = .ok (.iload 7, 2)) rfl ?_
      refine vc_Vl hC hR [.int x1, .int x2, .int x7] fv_X12_469 (by decide +kernel : decode cX12_best 67 = .ok (.invokevirtual 469, 3)) hU (t_X12_feeOf ho0 H) ho0 (by decide) rfl rfl rfl (Nat.le_of_ble_eq_true rfl) (Nat.le_of_ble_eq_true rfl) (Nat.le_refl 0) (Nat.le_refl 0) (fun r_9 U_8 h H hU => ?_)
      refine pr_lstore hC (by decide +kernel : decode cX12_best 70 = .ok (.lstore 9, 2)) (by decide) rfl ?_
      refine pr_lload hC (by decide +kernel : decode cX12_best 72 = .ok (.lload 9, 2)) rfl ?_
      refine pr_ldc2 hC (-9223372036854775808) (by decide +kernel : decode cX12_best 74 = .ok (.ldc2_w 459, 3)) fk_X12_459 ?_
      refine pr_lcmp hC (by decide +kernel : decode cX12_best 77 = .ok (.lcmp, 1)) ?_
      have HJ_16 : ∀ (x9_10 : Int64), x9_10 = (if (lg_cmp r_9 (-9223372036854775808)) = 0 then 9223372036854775807 else r_9) → pw X Y.1 (pm_A hh sz) (pm_E X Y.1 hh sz 0 0 (pm_P Y h0 sz (pq_i post))) 86 [some (.ref (Y.2.1 o0)), some (.int x1), some (.int x2), some (.int x3), some (.int x4), some (.long x5), none, some (.int x7), some (.int r_7), some (.long x9_10), none] [] h sz 0 0 := by
        intro x9_10 e_x9_10
        replace H := H x9_10 e_x9_10
        refine pr_iload_n hC (by decide +kernel : decode cX12_best 86 = .ok (.iload_n 3, 1)) rfl ?_
        refine pr_iconst hC (-1) (by decide +kernel : decode cX12_best 87 = .ok (.iconst (-1), 1)) rfl ?_
        replace H := H (pw X Y.1 (pm_A hh sz) (pm_E X Y.1 hh sz 0 0 (pm_P Y h0 sz (pq_i post))) 116 [some (.ref (Y.2.1 o0)), some (.int x1), some (.int x2), none, none, none, none, some (.int x7), some (.int r_7), some (.long x9_10), none] [] h sz 0 0) (by
          intro  H
          refine pr_iload hC (by decide +kernel : decode cX12_best 116 = .ok (.iload 7, 2)) rfl ?_
          refine pv_topi (fun x3_12 e_x3_12 => ?_)
          replace H := H x3_12 e_x3_12
          refine pr_istore_n hC (by decide +kernel : decode cX12_best 118 = .ok (.istore_n 3, 1)) (by decide) rfl ?_
          refine pr_iload hC (by decide +kernel : decode cX12_best 119 = .ok (.iload 8, 2)) rfl ?_
          refine pr_istore hC (by decide +kernel : decode cX12_best 121 = .ok (.istore 4, 2)) (by decide) rfl ?_
          refine pr_lload hC (by decide +kernel : decode cX12_best 123 = .ok (.lload 9, 2)) rfl ?_
          refine pr_lstore hC (by decide +kernel : decode cX12_best 125 = .ok (.lstore 5, 2)) (by decide) rfl ?_
          refine pv_iinc hC (v := x7 + 1) (by decide +kernel : decode cX12_best 127 = .ok (.iinc 7 1, 3)) rfl (by decide) rfl rfl (fun x7_13 e_x7_13 => ?_)
          replace H := H x7_13 e_x7_13
          refine pr_goto hC 27 (by decide +kernel : decode cX12_best 130 = .ok (.goto (-103), 3)) (by decide) ?_
          exact pv_sub [some (.ref (Y.2.1 o0)), some (.int x1), some (.int x2), some (.int x3_12), some (.int r_7), some (.long x9_10), none, some (.int x7_13), none, none, none] (And.intro rfl (And.intro rfl (And.intro rfl (And.intro rfl (And.intro rfl (And.intro rfl (And.intro rfl trivial))))))) (ih _ _ _ _ U_8 h hU H))
        refine pr_icmp_eq hC 116 (by decide +kernel : decode cX12_best 88 = .ok (.if_icmp .eq 28, 3)) (by decide) (fun c_88 => ?_) (fun c_88 => ?_)
        · replace H := H.1 c_88
          exact pv_sub [some (.ref (Y.2.1 o0)), some (.int x1), some (.int x2), none, none, none, none, some (.int x7), some (.int r_7), some (.long x9_10), none] (And.intro rfl (And.intro rfl (And.intro rfl (And.intro rfl (And.intro rfl (And.intro rfl trivial)))))) (H )
        replace H := H.2 c_88
        refine pr_iload hC (by decide +kernel : decode cX12_best 91 = .ok (.iload 8, 2)) rfl ?_
        refine pr_iload hC (by decide +kernel : decode cX12_best 93 = .ok (.iload 4, 2)) rfl ?_
        refine pr_icmp_gt hC 127 (by decide +kernel : decode cX12_best 95 = .ok (.if_icmp .gt 32, 3)) (by decide) (fun c_95 => ?_) (fun c_95 => ?_)
        · replace H := H.1 c_95
          refine pv_iinc hC (v := x7 + 1) (by decide +kernel : decode cX12_best 127 = .ok (.iinc 7 1, 3)) rfl (by decide) rfl rfl (fun x7_14 e_x7_14 => ?_)
          replace H := H x7_14 e_x7_14
          refine pr_goto hC 27 (by decide +kernel : decode cX12_best 130 = .ok (.goto (-103), 3)) (by decide) ?_
          exact pv_sub [some (.ref (Y.2.1 o0)), some (.int x1), some (.int x2), some (.int x3), some (.int x4), some (.long x5), none, some (.int x7_14), none, none, none] (And.intro rfl (And.intro rfl (And.intro rfl (And.intro rfl (And.intro rfl (And.intro rfl (And.intro rfl trivial))))))) (ih _ _ _ _ U_8 h hU H)
        replace H := H.2 c_95
        refine pr_iload hC (by decide +kernel : decode cX12_best 98 = .ok (.iload 8, 2)) rfl ?_
        refine pr_iload hC (by decide +kernel : decode cX12_best 100 = .ok (.iload 4, 2)) rfl ?_
        refine pr_icmp_ne hC 116 (by decide +kernel : decode cX12_best 102 = .ok (.if_icmp .ne 14, 3)) (by decide) (fun c_102 => ?_) (fun c_102 => ?_)
        · replace H := H.2 c_102
          exact pv_sub [some (.ref (Y.2.1 o0)), some (.int x1), some (.int x2), none, none, none, none, some (.int x7), some (.int r_7), some (.long x9_10), none] (And.intro rfl (And.intro rfl (And.intro rfl (And.intro rfl (And.intro rfl (And.intro rfl trivial)))))) (H )
        replace H := H.1 c_102
        refine pr_lload hC (by decide +kernel : decode cX12_best 105 = .ok (.lload 9, 2)) rfl ?_
        refine pr_lload hC (by decide +kernel : decode cX12_best 107 = .ok (.lload 5, 2)) rfl ?_
        refine pr_lcmp hC (by decide +kernel : decode cX12_best 109 = .ok (.lcmp, 1)) ?_
        refine pr_if_lt hC 116 (by decide +kernel : decode cX12_best 110 = .ok (.ifCond .lt 6, 3)) (by decide) (fun c_110 => ?_) (fun c_110 => ?_)
        · replace H := H.1 c_110
          exact pv_sub [some (.ref (Y.2.1 o0)), some (.int x1), some (.int x2), none, none, none, none, some (.int x7), some (.int r_7), some (.long x9_10), none] (And.intro rfl (And.intro rfl (And.intro rfl (And.intro rfl (And.intro rfl (And.intro rfl trivial)))))) (H )
        replace H := H.2 c_110
        refine pr_goto hC 127 (by decide +kernel : decode cX12_best 113 = .ok (.goto 14, 3)) (by decide) ?_
        refine pv_iinc hC (v := x7 + 1) (by decide +kernel : decode cX12_best 127 = .ok (.iinc 7 1, 3)) rfl (by decide) rfl rfl (fun x7_15 e_x7_15 => ?_)
        replace H := H x7_15 e_x7_15
        refine pr_goto hC 27 (by decide +kernel : decode cX12_best 130 = .ok (.goto (-103), 3)) (by decide) ?_
        exact pv_sub [some (.ref (Y.2.1 o0)), some (.int x1), some (.int x2), some (.int x3), some (.int x4), some (.long x5), none, some (.int x7_15), none, none, none] (And.intro rfl (And.intro rfl (And.intro rfl (And.intro rfl (And.intro rfl (And.intro rfl (And.intro rfl trivial))))))) (ih _ _ _ _ U_8 h hU H)
      replace H := trivial
      refine pr_if_ne hC 86 (by decide +kernel : decode cX12_best 78 = .ok (.ifCond .ne 8, 3)) (by decide) (fun c_78 => ?_) (fun c_78 => ?_)
      · skip
        exact pv_sub [some (.ref (Y.2.1 o0)), some (.int x1), some (.int x2), some (.int x3), some (.int x4), some (.long x5), none, some (.int x7), some (.int r_7), some (.long r_9), none] (And.intro rfl (And.intro rfl (And.intro rfl (And.intro rfl (And.intro rfl (And.intro rfl (And.intro rfl (And.intro rfl (And.intro rfl trivial))))))))) (HJ_16 _ (if_neg c_78).symm)
      skip
      refine pr_ldc2 hC (9223372036854775807) (by decide +kernel : decode cX12_best 81 = .ok (.ldc2_w 473, 3)) fk_X12_473 ?_
      refine pr_lstore hC (by decide +kernel : decode cX12_best 84 = .ok (.lstore 9, 2)) (by decide) rfl ?_
      exact pv_sub [some (.ref (Y.2.1 o0)), some (.int x1), some (.int x2), some (.int x3), some (.int x4), some (.long x5), none, some (.int x7), some (.int r_7), some (.long 9223372036854775807), none] (And.intro rfl (And.intro rfl (And.intro rfl (And.intro rfl (And.intro rfl (And.intro rfl (And.intro rfl (And.intro rfl (And.intro rfl trivial))))))))) (HJ_16 _ (if_pos c_78).symm)
    replace H := H.2 c_46
    refine pr_goto hC 127 (by decide +kernel : decode cX12_best 49 = .ok (.goto 78, 3)) (by decide) ?_
    refine pv_iinc hC (v := x7 + 1) (by decide +kernel : decode cX12_best 127 = .ok (.iinc 7 1, 3)) rfl (by decide) rfl rfl (fun x7_17 e_x7_17 => ?_)
    replace H := H x7_17 e_x7_17
    refine pr_goto hC 27 (by decide +kernel : decode cX12_best 130 = .ok (.goto (-103), 3)) (by decide) ?_
    exact pv_sub [some (.ref (Y.2.1 o0)), some (.int x1), some (.int x2), some (.int x3), some (.int x4), some (.long x5), none, some (.int x7_17), none, none, none] (And.intro rfl (And.intro rfl (And.intro rfl (And.intro rfl (And.intro rfl (And.intro rfl (And.intro rfl trivial))))))) (ih _ _ _ _ U_4 h hU H)
set_option maxHeartbeats 4000000 in
theorem t_X12_best {l : Launch} {Y : px_Y} {o : Nat} {a1 : Int32} {a2 : Int32} {U : Um} {post : Int32 → Um → Prop} (ho : oc o = 10) (H : w_X12_best o a1 a2 U post) : um l Y 5 yX12_best cX12_best 11 (some (.int)) [.ref (Y.2.1 o), .int a1, .int a2] U (pq_i post) := by
  unfold w_X12_best at H
  refine um_of (by decide) (Nat.le_of_ble_eq_true rfl) [some (.ref (Y.2.1 o)), some (.int a1), some (.int a2), none, none, none, none, none, none, none, none] rfl (fun X h0 hh sz hM hU => ?_)
  have hC := hM.1
  have hR := hM.2.2.1
  refine pr_aload_n hC (by decide +kernel : decode cX12_best 0 = .ok (.aload_n 0, 1)) rfl ?_
  refine pr_iconst hC (0) (by decide +kernel : decode cX12_best 1 = .ok (.iconst 0, 1)) rfl ?_
  refine pv_p0 hC fp_X12_121 (by decide +kernel : decode cX12_best 2 = .ok (.putfield 121, 3)) hU ho (by decide) rfl rfl rfl rfl (fun U_1 h e_U_1 hU => ?_)
  replace H := H U_1 e_U_1
  refine pr_aload_n hC (by decide +kernel : decode cX12_best 5 = .ok (.aload_n 0, 1)) rfl ?_
  refine pr_iload_n hC (by decide +kernel : decode cX12_best 6 = .ok (.iload_n 1, 1)) rfl ?_
  refine pr_iload_n hC (by decide +kernel : decode cX12_best 7 = .ok (.iload_n 2, 1)) rfl ?_
  refine vc_Vi hC hR [.int a1, .int a2] fv_X12_388 (by decide +kernel : decode cX12_best 8 = .ok (.invokevirtual 388, 3)) hU (t_X12_isSeat ho H) ho (by decide) rfl rfl rfl (Nat.le_of_ble_eq_true rfl) (Nat.le_of_ble_eq_true rfl) (Nat.le_refl 0) (Nat.le_refl 0) (fun r_3 U_2 h H hU => ?_)
  refine pr_if_ne hC 16 (by decide +kernel : decode cX12_best 11 = .ok (.ifCond .ne 5, 3)) (by decide) (fun c_11 => ?_) (fun c_11 => ?_)
  · replace H := H.2 c_11
    refine pr_iconst hC (-1) (by decide +kernel : decode cX12_best 16 = .ok (.iconst (-1), 1)) rfl ?_
    refine pr_istore_n hC (by decide +kernel : decode cX12_best 17 = .ok (.istore_n 3, 1)) (by decide) rfl ?_
    refine pr_iconst hC (0) (by decide +kernel : decode cX12_best 18 = .ok (.iconst 0, 1)) rfl ?_
    refine pr_istore hC (by decide +kernel : decode cX12_best 19 = .ok (.istore 4, 2)) (by decide) rfl ?_
    refine pr_lconst hC (0) (by decide +kernel : decode cX12_best 21 = .ok (.lconst 0, 1)) rfl ?_
    refine pr_lstore hC (by decide +kernel : decode cX12_best 22 = .ok (.lstore 5, 2)) (by decide) rfl ?_
    refine pr_iconst hC (0) (by decide +kernel : decode cX12_best 24 = .ok (.iconst 0, 1)) rfl ?_
    refine pr_istore hC (by decide +kernel : decode cX12_best 25 = .ok (.istore 7, 2)) (by decide) rfl ?_
    obtain ⟨n_20, H⟩ := H
    refine pv_sub [some (.ref (Y.2.1 o)), some (.int a1), some (.int a2), some (.int (-1)), some (.int 0), some (.long 0), none, some (.int 0), none, none, none] (And.intro rfl (And.intro rfl (And.intro rfl (And.intro rfl (And.intro rfl (And.intro rfl (And.intro rfl trivial))))))) ?_
    refine tl_X12_best_L27 _ _ _ _ _ ho hC hM hR (fun x3_18 U_19 h H hU => ?_) n_20 _ _ _ _ U_2 h hU H
    refine pr_iload_n hC (by decide +kernel : decode cX12_best 133 = .ok (.iload_n 3, 1)) rfl ?_
    exact pv_iret hM (by decide +kernel : decode cX12_best 134 = .ok (.ireturn, 1)) hU H
  replace H := H.1 c_11
  refine pr_iconst hC (-1) (by decide +kernel : decode cX12_best 14 = .ok (.iconst (-1), 1)) rfl ?_
  exact pv_iret hM (by decide +kernel : decode cX12_best 15 = .ok (.ireturn, 1)) hU H
def b_X12_crews_L40 (rec : Nat → Int32 → Int32 → Int32 → Um → (Um → Prop) → Prop) (o0 : Nat) (post : Um → Prop) (k_66 : Um → Prop) (rec_ : Int32 → Um → Prop) (x4 : Int32) (U : Um) : Prop :=
  ((3 : Int32) ≤ x4 → k_66 U) ∧ (¬ (3 : Int32) ≤ x4 → vp_in x4 3 ∧ vp_in x4 3 ∧ ∀ (U_6 : Um), U_6 = sA U o0 41 (va_up (uA U o0 41) (Int32.toNatClampNeg x4) (uA U o0 42 (Int32.toNatClampNeg x4))) → ∀ (x4_7 : Int32), x4_7 = x4 + 1 → rec_ x4_7 U_6)
def w_X12_crews_L40 (rec : Nat → Int32 → Int32 → Int32 → Um → (Um → Prop) → Prop) (o0 : Nat) (post : Um → Prop) (k_66 : Um → Prop) (n_ : Nat) : Int32 → Um → Prop := Nat.rec (motive := fun _ => Int32 → Um → Prop) (fun _ _ => False) (fun _ ih => b_X12_crews_L40 rec o0 post k_66 ih) n_
def b_X12_crews_L111 (rec : Nat → Int32 → Int32 → Int32 → Um → (Um → Prop) → Prop) (o0 : Nat) (x1 : Int32) (x2 : Int32) (x3 : Int32) (x4 : Int32) (post : Um → Prop) (k_189 : Um → Prop) (rec_ : Int32 → Um → Prop) (x5 : Int32) (U : Um) : Prop :=
  vp_in 2 14 ∧ ((uA U o0 11 (Int32.toNatClampNeg 2)) ≤ x5 → k_189 U) ∧ (¬ (uA U o0 11 (Int32.toNatClampNeg 2)) ≤ x5 → w_X12_whyNot o0 x1 x2 x5 U (fun r_13 U_12 => (r_13 = 0 → w_X12_extraOf o0 x1 x2 x5 U_12 (fun r_15 U_14 => vp_in x4 48 ∧ ∀ (U_16 : Um), U_16 = sA U_14 o0 30 (va_up (uA U_14 o0 30) (Int32.toNatClampNeg x4) x5) → vp_in x2 3 ∧ ∀ (U_17 : Um), U_17 = sA U_16 o0 42 (va_up (uA U_16 o0 42) (Int32.toNatClampNeg x2) x5) → rec o0 x1 (x2 + 1) (x3 + r_15) U_17 (fun U_18 => vp_in x4 48 ∧ ∀ (U_20 : Um), U_20 = sA U_18 o0 30 (va_up (uA U_18 o0 30) (Int32.toNatClampNeg x4) (-1)) → ∀ (x5_21 : Int32), x5_21 = x5 + 1 → rec_ x5_21 U_20))) ∧ (¬ r_13 = 0 → ∀ (x5_22 : Int32), x5_22 = x5 + 1 → rec_ x5_22 U_12)))
def w_X12_crews_L111 (rec : Nat → Int32 → Int32 → Int32 → Um → (Um → Prop) → Prop) (o0 : Nat) (x1 : Int32) (x2 : Int32) (x3 : Int32) (x4 : Int32) (post : Um → Prop) (k_189 : Um → Prop) (n_ : Nat) : Int32 → Um → Prop := Nat.rec (motive := fun _ => Int32 → Um → Prop) (fun _ _ => False) (fun _ ih => b_X12_crews_L111 rec o0 x1 x2 x3 x4 post k_189 ih) n_
def b_X12_crews (rec : Nat → Int32 → Int32 → Int32 → Um → (Um → Prop) → Prop) (o : Nat) (a1 : Int32) (a2 : Int32) (a3 : Int32) (U : Um) (post : Um → Prop) : Prop :=
  w_X12_of o a1 7 U (fun r_2 U_1 => (a2 = r_2 → (∀ K_3 : Prop, ((∀ (U_4 : Um), U_4 = sI U_1 o 44 1 → ∀ (U_5 : Um), U_5 = sI U_4 o 43 a3 → (∃ n_9, w_X12_crews_L40 rec o post (fun U_8 => post U_8) n_9 0 U_5)) → K_3 ) → ((uI U_1 o 44) = 0 → K_3) ∧ (¬ (uI U_1 o 44) = 0 → (a3 < (uI U_1 o 43) → K_3) ∧ (¬ a3 < (uI U_1 o 43) → post U_1)))) ∧ (¬ a2 = r_2 → w_X12_at a1 a2 U_1 (fun r_11 U_10 => vp_in r_11 48 ∧ ((uA U_10 o 30 (Int32.toNatClampNeg r_11)) = (-1) → (∃ n_24, w_X12_crews_L111 rec o a1 a2 a3 r_11 post (fun U_23 => post U_23) n_24 0 U_10)) ∧ (¬ (uA U_10 o 30 (Int32.toNatClampNeg r_11)) = (-1) → vp_in r_11 48 ∧ vp_in a2 3 ∧ ∀ (U_25 : Um), U_25 = sA U_10 o 42 (va_up (uA U_10 o 42) (Int32.toNatClampNeg a2) (uA U_10 o 30 (Int32.toNatClampNeg r_11))) → rec o a1 (a2 + 1) a3 U_25 (fun U_26 => post U_26)))))
def w_X12_crews (n_ : Nat) : Nat → Int32 → Int32 → Int32 → Um → (Um → Prop) → Prop := Nat.rec (motive := fun _ => Nat → Int32 → Int32 → Int32 → Um → (Um → Prop) → Prop) (fun _ _ _ _ _ _ => False) (fun _ ih => b_X12_crews ih) n_
set_option maxHeartbeats 4000000 in
theorem tl_X12_crews_L40 {l : Launch} {Y : px_Y} {X : px_X} {h0 hh : pe_H} {sz : Nat} {dd : Nat} (rec : Nat → Int32 → Int32 → Int32 → Um → (Um → Prop) → Prop) (o0 : Nat) (post : Um → Prop) (k_66 : Um → Prop) (ho0 : oc o0 = 10) (hrec : ∀ (l : Launch) (o : Nat) (a0 : Int32) (a1 : Int32) (a2 : Int32) (U : Um) (post : Um → Prop), oc o = 10 → rec o a0 a1 a2 U post → um l Y dd yX12_crews cX12_crews 7 none [.ref (Y.2.1 o), .int a0, .int a1, .int a2] U (pq_v post)) (hD : 5 ≤ dd) (hC : px_C X Y.1 (pm_A hh sz) cX12_crews RX12 7) (hM : px_M l X Y.1 hh sz yX12_crews cX12_crews 7 none (dd + 1) 0 0) (hR : X.2.2.2.1 = pm_rm (dd + 1) 0 0) (hk_66 : ∀ (U : Um) (h : pe_H), k_66 U → rF Y h0 U h → pw X Y.1 (pm_A hh sz) (pm_E X Y.1 hh sz 0 0 (pm_P Y h0 sz (pq_v post))) 66 [none, none, none, none, none, none, none] [] h sz 0 0) : ∀ (n_ : Nat) (x4 : Int32) (U : Um) (h : pe_H), rF Y h0 U h → w_X12_crews_L40 rec o0 post k_66 n_ x4 U → pw X Y.1 (pm_A hh sz) (pm_E X Y.1 hh sz 0 0 (pm_P Y h0 sz (pq_v post))) 40 [some (.ref (Y.2.1 o0)), none, none, none, some (.int x4), none, none] [] h sz 0 0 := by
  intro n_
  induction n_ with
  | zero => intro x4 U h hU H; exact False.elim H
  | succ n_ ih =>
    intro x4 U h hU H
    replace H : b_X12_crews_L40 rec o0 post k_66 (w_X12_crews_L40 rec o0 post k_66 n_) x4 U := H
    unfold b_X12_crews_L40 at H
    refine pr_iload hC (by decide +kernel : decode cX12_crews 40 = .ok (.iload 4, 2)) rfl ?_
    refine pr_iconst hC (3) (by decide +kernel : decode cX12_crews 42 = .ok (.iconst 3, 1)) rfl ?_
    refine pr_icmp_ge hC 66 (by decide +kernel : decode cX12_crews 43 = .ok (.if_icmp .ge 23, 3)) (by decide) (fun c_43 => ?_) (fun c_43 => ?_)
    · replace H := H.1 c_43
      exact pv_sub [none, none, none, none, none, none, none] (trivial) (hk_66 U h H hU)
    replace H := H.2 c_43
    refine pr_aload_n hC (by decide +kernel : decode cX12_crews 46 = .ok (.aload_n 0, 1)) rfl ?_
    refine pu_g1 hC fg_X12_90 (by decide +kernel : decode cX12_crews 47 = .ok (.getfield 90, 3)) hU ho0 (by decide) rfl (by decide) ?_
    refine pr_iload hC (by decide +kernel : decode cX12_crews 50 = .ok (.iload 4, 2)) rfl ?_
    refine pr_aload_n hC (by decide +kernel : decode cX12_crews 52 = .ok (.aload_n 0, 1)) rfl ?_
    refine pu_g1 hC fg_X12_93 (by decide +kernel : decode cX12_crews 53 = .ok (.getfield 93, 3)) hU ho0 (by decide) rfl (by decide) ?_
    refine pr_iload hC (by decide +kernel : decode cX12_crews 56 = .ok (.iload 4, 2)) rfl ?_
    refine pu_iald hC (by decide +kernel : decode cX12_crews 58 = .ok (.iaload, 1)) hU ho0 rfl H.1 ?_
    replace H := H.2
    refine pv_iast hC (by decide +kernel : decode cX12_crews 59 = .ok (.iastore, 1)) hU ho0 rfl H.1 (fun U_6 h e_U_6 hU => ?_)
    replace H := H.2 U_6 e_U_6
    refine pv_iinc hC (v := x4 + 1) (by decide +kernel : decode cX12_crews 60 = .ok (.iinc 4 1, 3)) rfl (by decide) rfl rfl (fun x4_7 e_x4_7 => ?_)
    replace H := H x4_7 e_x4_7
    refine pr_goto hC 40 (by decide +kernel : decode cX12_crews 63 = .ok (.goto (-23), 3)) (by decide) ?_
    exact pv_sub [some (.ref (Y.2.1 o0)), none, none, none, some (.int x4_7), none, none] (And.intro rfl (And.intro rfl trivial)) (ih _ U_6 h hU H)
set_option maxHeartbeats 4000000 in
theorem tl_X12_crews_L111 {l : Launch} {Y : px_Y} {X : px_X} {h0 hh : pe_H} {sz : Nat} {dd : Nat} (rec : Nat → Int32 → Int32 → Int32 → Um → (Um → Prop) → Prop) (o0 : Nat) (x1 : Int32) (x2 : Int32) (x3 : Int32) (x4 : Int32) (post : Um → Prop) (k_189 : Um → Prop) (ho0 : oc o0 = 10) (hrec : ∀ (l : Launch) (o : Nat) (a0 : Int32) (a1 : Int32) (a2 : Int32) (U : Um) (post : Um → Prop), oc o = 10 → rec o a0 a1 a2 U post → um l Y dd yX12_crews cX12_crews 7 none [.ref (Y.2.1 o), .int a0, .int a1, .int a2] U (pq_v post)) (hD : 5 ≤ dd) (hC : px_C X Y.1 (pm_A hh sz) cX12_crews RX12 7) (hM : px_M l X Y.1 hh sz yX12_crews cX12_crews 7 none (dd + 1) 0 0) (hR : X.2.2.2.1 = pm_rm (dd + 1) 0 0) (hk_189 : ∀ (U : Um) (h : pe_H), k_189 U → rF Y h0 U h → pw X Y.1 (pm_A hh sz) (pm_E X Y.1 hh sz 0 0 (pm_P Y h0 sz (pq_v post))) 189 [none, none, none, none, none, none, none] [] h sz 0 0) : ∀ (n_ : Nat) (x5 : Int32) (U : Um) (h : pe_H), rF Y h0 U h → w_X12_crews_L111 rec o0 x1 x2 x3 x4 post k_189 n_ x5 U → pw X Y.1 (pm_A hh sz) (pm_E X Y.1 hh sz 0 0 (pm_P Y h0 sz (pq_v post))) 111 [some (.ref (Y.2.1 o0)), some (.int x1), some (.int x2), some (.int x3), some (.int x4), some (.int x5), none] [] h sz 0 0 := by
  intro n_
  induction n_ with
  | zero => intro x5 U h hU H; exact False.elim H
  | succ n_ ih =>
    intro x5 U h hU H
    replace H : b_X12_crews_L111 rec o0 x1 x2 x3 x4 post k_189 (w_X12_crews_L111 rec o0 x1 x2 x3 x4 post k_189 n_) x5 U := H
    unfold b_X12_crews_L111 at H
    refine pr_iload hC (by decide +kernel : decode cX12_crews 111 = .ok (.iload 5, 2)) rfl ?_
    refine pr_aload_n hC (by decide +kernel : decode cX12_crews 113 = .ok (.aload_n 0, 1)) rfl ?_
    refine pu_g1 hC fg_X12_43 (by decide +kernel : decode cX12_crews 114 = .ok (.getfield 43, 3)) hU ho0 (by decide) rfl (by decide) ?_
    refine pr_iconst hC (2) (by decide +kernel : decode cX12_crews 117 = .ok (.iconst 2, 1)) rfl ?_
    refine pu_iald hC (by decide +kernel : decode cX12_crews 118 = .ok (.iaload, 1)) hU ho0 rfl H.1 ?_
    replace H := H.2
    refine pr_icmp_ge hC 189 (by decide +kernel : decode cX12_crews 119 = .ok (.if_icmp .ge 70, 3)) (by decide) (fun c_119 => ?_) (fun c_119 => ?_)
    · replace H := H.1 c_119
      exact pv_sub [none, none, none, none, none, none, none] (trivial) (hk_189 U h H hU)
    replace H := H.2 c_119
    refine pr_aload_n hC (by decide +kernel : decode cX12_crews 122 = .ok (.aload_n 0, 1)) rfl ?_
    refine pr_iload_n hC (by decide +kernel : decode cX12_crews 123 = .ok (.iload_n 1, 1)) rfl ?_
    refine pr_iload_n hC (by decide +kernel : decode cX12_crews 124 = .ok (.iload_n 2, 1)) rfl ?_
    refine pr_iload hC (by decide +kernel : decode cX12_crews 125 = .ok (.iload 5, 2)) rfl ?_
    refine vc_Vi hC hR [.int x1, .int x2, .int x5] fv_X12_423 (by decide +kernel : decode cX12_crews 127 = .ok (.invokevirtual 423, 3)) hU (t_X12_whyNot ho0 H) ho0 (by decide) rfl rfl rfl (Nat.le_of_ble_eq_true rfl) (by omega) (Nat.le_refl 0) (Nat.le_refl 0) (fun r_13 U_12 h H hU => ?_)
    refine pr_if_eq hC 136 (by decide +kernel : decode cX12_crews 130 = .ok (.ifCond .eq 6, 3)) (by decide) (fun c_130 => ?_) (fun c_130 => ?_)
    · replace H := H.1 c_130
      refine pr_aload_n hC (by decide +kernel : decode cX12_crews 136 = .ok (.aload_n 0, 1)) rfl ?_
      refine pr_iload_n hC (by decide +kernel : decode cX12_crews 137 = .ok (.iload_n 1, 1)) rfl ?_
      refine pr_iload_n hC (by decide +kernel : decode cX12_crews 138 = .ok (.iload_n 2, 1)) rfl ?_
      refine pr_iload hC (by decide +kernel : decode cX12_crews 139 = .ok (.iload 5, 2)) rfl ?_
      refine vc_Vi hC hR [.int x1, .int x2, .int x5] fv_X12_449 (by decide +kernel : decode cX12_crews 141 = .ok (.invokevirtual 449, 3)) hU (t_X12_extraOf ho0 H) ho0 (by decide) rfl rfl rfl (Nat.le_of_ble_eq_true rfl) (by omega) (Nat.le_refl 0) (Nat.le_refl 0) (fun r_15 U_14 h H hU => ?_)
      refine pr_istore hC (by decide +kernel : decode cX12_crews 144 = .ok (.istore 6, 2)) (by decide) rfl ?_
      refine pr_aload_n hC (by decide +kernel : decode cX12_crews 146 = .ok (.aload_n 0, 1)) rfl ?_
      refine pu_g1 hC fg_X12_59 (by decide +kernel : decode cX12_crews 147 = .ok (.getfield 59, 3)) hU ho0 (by decide) rfl (by decide) ?_
      refine pr_iload hC (by decide +kernel : decode cX12_crews 150 = .ok (.iload 4, 2)) rfl ?_
      refine pr_iload hC (by decide +kernel : decode cX12_crews 152 = .ok (.iload 5, 2)) rfl ?_
      refine pv_iast hC (by decide +kernel : decode cX12_crews 154 = .ok (.iastore, 1)) hU ho0 rfl H.1 (fun U_16 h e_U_16 hU => ?_)
      replace H := H.2 U_16 e_U_16
      refine pr_aload_n hC (by decide +kernel : decode cX12_crews 155 = .ok (.aload_n 0, 1)) rfl ?_
      refine pu_g1 hC fg_X12_93 (by decide +kernel : decode cX12_crews 156 = .ok (.getfield 93, 3)) hU ho0 (by decide) rfl (by decide) ?_
      refine pr_iload_n hC (by decide +kernel : decode cX12_crews 159 = .ok (.iload_n 2, 1)) rfl ?_
      refine pr_iload hC (by decide +kernel : decode cX12_crews 160 = .ok (.iload 5, 2)) rfl ?_
      refine pv_iast hC (by decide +kernel : decode cX12_crews 162 = .ok (.iastore, 1)) hU ho0 rfl H.1 (fun U_17 h e_U_17 hU => ?_)
      replace H := H.2 U_17 e_U_17
      refine pr_aload_n hC (by decide +kernel : decode cX12_crews 163 = .ok (.aload_n 0, 1)) rfl ?_
      refine pr_iload_n hC (by decide +kernel : decode cX12_crews 164 = .ok (.iload_n 1, 1)) rfl ?_
      refine pr_iload_n hC (by decide +kernel : decode cX12_crews 165 = .ok (.iload_n 2, 1)) rfl ?_
      refine pr_iconst hC (1) (by decide +kernel : decode cX12_crews 166 = .ok (.iconst 1, 1)) rfl ?_
      refine pr_iadd hC (by decide +kernel : decode cX12_crews 167 = .ok (.iadd, 1)) ?_
      refine pr_iload_n hC (by decide +kernel : decode cX12_crews 168 = .ok (.iload_n 3, 1)) rfl ?_
      refine pr_iload hC (by decide +kernel : decode cX12_crews 169 = .ok (.iload 6, 2)) rfl ?_
      refine pr_iadd hC (by decide +kernel : decode cX12_crews 171 = .ok (.iadd, 1)) ?_
      refine vc_Vv hC hR [.int x1, .int (x2 + 1), .int (x3 + r_15)] fv_X12_482 (by decide +kernel : decode cX12_crews 172 = .ok (.invokevirtual 482, 3)) hU (hrec _ _ _ _ _ _ _ ho0 H) ho0 (by decide) rfl rfl rfl (Nat.le_of_ble_eq_true rfl) (by omega) (Nat.le_refl 0) (Nat.le_refl 0) (fun U_18 h H hU => ?_)
      refine pr_aload_n hC (by decide +kernel : decode cX12_crews 175 = .ok (.aload_n 0, 1)) rfl ?_
      refine pu_g1 hC fg_X12_59 (by decide +kernel : decode cX12_crews 176 = .ok (.getfield 59, 3)) hU ho0 (by decide) rfl (by decide) ?_
      refine pr_iload hC (by decide +kernel : decode cX12_crews 179 = .ok (.iload 4, 2)) rfl ?_
      refine pr_iconst hC (-1) (by decide +kernel : decode cX12_crews 181 = .ok (.iconst (-1), 1)) rfl ?_
      refine pv_iast hC (by decide +kernel : decode cX12_crews 182 = .ok (.iastore, 1)) hU ho0 rfl H.1 (fun U_20 h e_U_20 hU => ?_)
      replace H := H.2 U_20 e_U_20
      refine pv_iinc hC (v := x5 + 1) (by decide +kernel : decode cX12_crews 183 = .ok (.iinc 5 1, 3)) rfl (by decide) rfl rfl (fun x5_21 e_x5_21 => ?_)
      replace H := H x5_21 e_x5_21
      refine pr_goto hC 111 (by decide +kernel : decode cX12_crews 186 = .ok (.goto (-75), 3)) (by decide) ?_
      exact pv_sub [some (.ref (Y.2.1 o0)), some (.int x1), some (.int x2), some (.int x3), some (.int x4), some (.int x5_21), none] (And.intro rfl (And.intro rfl (And.intro rfl (And.intro rfl (And.intro rfl (And.intro rfl trivial)))))) (ih _ U_20 h hU H)
    replace H := H.2 c_130
    refine pr_goto hC 183 (by decide +kernel : decode cX12_crews 133 = .ok (.goto 50, 3)) (by decide) ?_
    refine pv_iinc hC (v := x5 + 1) (by decide +kernel : decode cX12_crews 183 = .ok (.iinc 5 1, 3)) rfl (by decide) rfl rfl (fun x5_22 e_x5_22 => ?_)
    replace H := H x5_22 e_x5_22
    refine pr_goto hC 111 (by decide +kernel : decode cX12_crews 186 = .ok (.goto (-75), 3)) (by decide) ?_
    exact pv_sub [some (.ref (Y.2.1 o0)), some (.int x1), some (.int x2), some (.int x3), some (.int x4), some (.int x5_22), none] (And.intro rfl (And.intro rfl (And.intro rfl (And.intro rfl (And.intro rfl (And.intro rfl trivial)))))) (ih _ U_12 h hU H)
set_option maxHeartbeats 4000000 in
theorem tb_X12_crews {l : Launch} {Y : px_Y} {dd : Nat} {rec : Nat → Int32 → Int32 → Int32 → Um → (Um → Prop) → Prop} (hrec : ∀ (l : Launch) (o : Nat) (a0 : Int32) (a1 : Int32) (a2 : Int32) (U : Um) (post : Um → Prop), oc o = 10 → rec o a0 a1 a2 U post → um l Y dd yX12_crews cX12_crews 7 none [.ref (Y.2.1 o), .int a0, .int a1, .int a2] U (pq_v post)) (hD : 5 ≤ dd) {o : Nat} {a1 : Int32} {a2 : Int32} {a3 : Int32} {U : Um} {post : Um → Prop} (ho : oc o = 10) (H : b_X12_crews rec o a1 a2 a3 U post) : um l Y (dd + 1) yX12_crews cX12_crews 7 none [.ref (Y.2.1 o), .int a1, .int a2, .int a3] U (pq_v post) := by
  unfold b_X12_crews at H
  refine um_of (by decide) (Nat.le_of_ble_eq_true rfl) [some (.ref (Y.2.1 o)), some (.int a1), some (.int a2), some (.int a3), none, none, none] rfl (fun X h0 hh sz hM hU => ?_)
  have hC := hM.1
  have hR := hM.2.2.1
  refine pr_iload_n hC (by decide +kernel : decode cX12_crews 0 = .ok (.iload_n 2, 1)) rfl ?_
  refine pr_aload_n hC (by decide +kernel : decode cX12_crews 1 = .ok (.aload_n 0, 1)) rfl ?_
  refine pr_iload_n hC (by decide +kernel : decode cX12_crews 2 = .ok (.iload_n 1, 1)) rfl ?_
  refine pr_bipush hC (7) (by decide +kernel : decode cX12_crews 3 = .ok (.bipush 7, 2)) rfl ?_
  refine vc_Vi hC hR [.int a1, .int 7] fv_X12_353 (by decide +kernel : decode cX12_crews 5 = .ok (.invokevirtual 353, 3)) hU (t_X12_of ho H) ho (by decide) rfl rfl rfl (Nat.le_of_ble_eq_true rfl) (by omega) (Nat.le_refl 0) (Nat.le_refl 0) (fun r_2 U_1 h H hU => ?_)
  refine pr_icmp_ne hC 67 (by decide +kernel : decode cX12_crews 8 = .ok (.if_icmp .ne 59, 3)) (by decide) (fun c_8 => ?_) (fun c_8 => ?_)
  · replace H := H.2 c_8
    refine pr_iload_n hC (by decide +kernel : decode cX12_crews 67 = .ok (.iload_n 1, 1)) rfl ?_
    refine pr_iload_n hC (by decide +kernel : decode cX12_crews 68 = .ok (.iload_n 2, 1)) rfl ?_
    refine vc_Si hC hR [.int a1, .int a2] fv_X12_360 (by decide +kernel : decode cX12_crews 69 = .ok (.invokestatic 360, 3)) hU (t_X12_at  H) rfl rfl (Nat.le_of_ble_eq_true rfl) (by omega) (Nat.le_refl 0) (Nat.le_refl 0) (fun r_11 U_10 h H hU => ?_)
    refine pr_istore hC (by decide +kernel : decode cX12_crews 72 = .ok (.istore 4, 2)) (by decide) rfl ?_
    refine pr_aload_n hC (by decide +kernel : decode cX12_crews 74 = .ok (.aload_n 0, 1)) rfl ?_
    refine pu_g1 hC fg_X12_59 (by decide +kernel : decode cX12_crews 75 = .ok (.getfield 59, 3)) hU ho (by decide) rfl (by decide) ?_
    refine pr_iload hC (by decide +kernel : decode cX12_crews 78 = .ok (.iload 4, 2)) rfl ?_
    refine pu_iald hC (by decide +kernel : decode cX12_crews 80 = .ok (.iaload, 1)) hU ho rfl H.1 ?_
    replace H := H.2
    refine pr_iconst hC (-1) (by decide +kernel : decode cX12_crews 81 = .ok (.iconst (-1), 1)) rfl ?_
    refine pr_icmp_eq hC 108 (by decide +kernel : decode cX12_crews 82 = .ok (.if_icmp .eq 26, 3)) (by decide) (fun c_82 => ?_) (fun c_82 => ?_)
    · replace H := H.1 c_82
      refine pr_iconst hC (0) (by decide +kernel : decode cX12_crews 108 = .ok (.iconst 0, 1)) rfl ?_
      refine pr_istore hC (by decide +kernel : decode cX12_crews 109 = .ok (.istore 5, 2)) (by decide) rfl ?_
      obtain ⟨n_24, H⟩ := H
      refine pv_sub [some (.ref (Y.2.1 o)), some (.int a1), some (.int a2), some (.int a3), some (.int r_11), some (.int 0), none] (And.intro rfl (And.intro rfl (And.intro rfl (And.intro rfl (And.intro rfl (And.intro rfl trivial)))))) ?_
      refine tl_X12_crews_L111 _ _ _ _ _ _ _ _ ho hrec hD hC hM hR (fun U_23 h H hU => ?_) n_24 _ U_10 h hU H
      exact pv_vret hM (by decide +kernel : decode cX12_crews 189 = .ok (.return_, 1)) hU H
    replace H := H.2 c_82
    refine pr_aload_n hC (by decide +kernel : decode cX12_crews 85 = .ok (.aload_n 0, 1)) rfl ?_
    refine pu_g1 hC fg_X12_93 (by decide +kernel : decode cX12_crews 86 = .ok (.getfield 93, 3)) hU ho (by decide) rfl (by decide) ?_
    refine pr_iload_n hC (by decide +kernel : decode cX12_crews 89 = .ok (.iload_n 2, 1)) rfl ?_
    refine pr_aload_n hC (by decide +kernel : decode cX12_crews 90 = .ok (.aload_n 0, 1)) rfl ?_
    refine pu_g1 hC fg_X12_59 (by decide +kernel : decode cX12_crews 91 = .ok (.getfield 59, 3)) hU ho (by decide) rfl (by decide) ?_
    refine pr_iload hC (by decide +kernel : decode cX12_crews 94 = .ok (.iload 4, 2)) rfl ?_
    refine pu_iald hC (by decide +kernel : decode cX12_crews 96 = .ok (.iaload, 1)) hU ho rfl H.1 ?_
    replace H := H.2
    refine pv_iast hC (by decide +kernel : decode cX12_crews 97 = .ok (.iastore, 1)) hU ho rfl H.1 (fun U_25 h e_U_25 hU => ?_)
    replace H := H.2 U_25 e_U_25
    refine pr_aload_n hC (by decide +kernel : decode cX12_crews 98 = .ok (.aload_n 0, 1)) rfl ?_
    refine pr_iload_n hC (by decide +kernel : decode cX12_crews 99 = .ok (.iload_n 1, 1)) rfl ?_
    refine pr_iload_n hC (by decide +kernel : decode cX12_crews 100 = .ok (.iload_n 2, 1)) rfl ?_
    refine pr_iconst hC (1) (by decide +kernel : decode cX12_crews 101 = .ok (.iconst 1, 1)) rfl ?_
    refine pr_iadd hC (by decide +kernel : decode cX12_crews 102 = .ok (.iadd, 1)) ?_
    refine pr_iload_n hC (by decide +kernel : decode cX12_crews 103 = .ok (.iload_n 3, 1)) rfl ?_
    refine vc_Vv hC hR [.int a1, .int (a2 + 1), .int a3] fv_X12_482 (by decide +kernel : decode cX12_crews 104 = .ok (.invokevirtual 482, 3)) hU (hrec _ _ _ _ _ _ _ ho H) ho (by decide) rfl rfl rfl (Nat.le_of_ble_eq_true rfl) (by omega) (Nat.le_refl 0) (Nat.le_refl 0) (fun U_26 h H hU => ?_)
    exact pv_vret hM (by decide +kernel : decode cX12_crews 107 = .ok (.return_, 1)) hU H
  replace H := H.1 c_8
  refine pr_aload_n hC (by decide +kernel : decode cX12_crews 11 = .ok (.aload_n 0, 1)) rfl ?_
  refine pu_g0 hC fg_X12_475 (by decide +kernel : decode cX12_crews 12 = .ok (.getfield 475, 3)) hU ho (by decide) rfl rfl ?_
  replace H := H (pw X Y.1 (pm_A hh sz) (pm_E X Y.1 hh sz 0 0 (pm_P Y h0 sz (pq_v post))) 27 [some (.ref (Y.2.1 o)), none, none, some (.int a3), none, none, none] [] h sz 0 0) (by
    intro  H
    refine pr_aload_n hC (by decide +kernel : decode cX12_crews 27 = .ok (.aload_n 0, 1)) rfl ?_
    refine pr_iconst hC (1) (by decide +kernel : decode cX12_crews 28 = .ok (.iconst 1, 1)) rfl ?_
    refine pv_p0 hC fp_X12_475 (by decide +kernel : decode cX12_crews 29 = .ok (.putfield 475, 3)) hU ho (by decide) rfl rfl rfl rfl (fun U_4 h e_U_4 hU => ?_)
    replace H := H U_4 e_U_4
    refine pr_aload_n hC (by decide +kernel : decode cX12_crews 32 = .ok (.aload_n 0, 1)) rfl ?_
    refine pr_iload_n hC (by decide +kernel : decode cX12_crews 33 = .ok (.iload_n 3, 1)) rfl ?_
    refine pv_p0 hC fp_X12_479 (by decide +kernel : decode cX12_crews 34 = .ok (.putfield 479, 3)) hU ho (by decide) rfl rfl rfl rfl (fun U_5 h e_U_5 hU => ?_)
    replace H := H U_5 e_U_5
    refine pr_iconst hC (0) (by decide +kernel : decode cX12_crews 37 = .ok (.iconst 0, 1)) rfl ?_
    refine pr_istore hC (by decide +kernel : decode cX12_crews 38 = .ok (.istore 4, 2)) (by decide) rfl ?_
    obtain ⟨n_9, H⟩ := H
    refine pv_sub [some (.ref (Y.2.1 o)), none, none, none, some (.int 0), none, none] (And.intro rfl (And.intro rfl trivial)) ?_
    refine tl_X12_crews_L40 _ _ _ _ ho hrec hD hC hM hR (fun U_8 h H hU => ?_) n_9 _ U_5 h hU H
    exact pv_vret hM (by decide +kernel : decode cX12_crews 66 = .ok (.return_, 1)) hU H)
  refine pr_if_eq hC 27 (by decide +kernel : decode cX12_crews 15 = .ok (.ifCond .eq 12, 3)) (by decide) (fun c_15 => ?_) (fun c_15 => ?_)
  · replace H := H.1 c_15
    exact pv_sub [some (.ref (Y.2.1 o)), none, none, some (.int a3), none, none, none] (And.intro rfl (And.intro rfl trivial)) (H )
  replace H := H.2 c_15
  refine pr_iload_n hC (by decide +kernel : decode cX12_crews 18 = .ok (.iload_n 3, 1)) rfl ?_
  refine pr_aload_n hC (by decide +kernel : decode cX12_crews 19 = .ok (.aload_n 0, 1)) rfl ?_
  refine pu_g0 hC fg_X12_479 (by decide +kernel : decode cX12_crews 20 = .ok (.getfield 479, 3)) hU ho (by decide) rfl rfl ?_
  refine pr_icmp_lt hC 27 (by decide +kernel : decode cX12_crews 23 = .ok (.if_icmp .lt 4, 3)) (by decide) (fun c_23 => ?_) (fun c_23 => ?_)
  · replace H := H.1 c_23
    exact pv_sub [some (.ref (Y.2.1 o)), none, none, some (.int a3), none, none, none] (And.intro rfl (And.intro rfl trivial)) (H )
  replace H := H.2 c_23
  exact pv_vret hM (by decide +kernel : decode cX12_crews 26 = .ok (.return_, 1)) hU H
theorem tn_X12_crews {l : Launch} {Y : px_Y} : ∀ (n_ : Nat) (o : Nat) (a1 : Int32) (a2 : Int32) (a3 : Int32) (U : Um) (post : Um → Prop), oc o = 10 → w_X12_crews n_ o a1 a2 a3 U post → um l Y (5 + 1 * n_) yX12_crews cX12_crews 7 none [.ref (Y.2.1 o), .int a1, .int a2, .int a3] U (pq_v post)
  | 0 => fun _ _ _ _ _ _ _ H => False.elim H
  | n_ + 1 => fun o a1 a2 a3 U post ho H => tb_X12_crews (fun _ => tn_X12_crews n_) (Nat.le_add_right _ _) ho H
theorem t_X12_crews {l : Launch} {Y : px_Y} (n_ : Nat) {o : Nat} {a1 : Int32} {a2 : Int32} {a3 : Int32} {U : Um} {post : Um → Prop} (ho : oc o = 10) (H : w_X12_crews n_ o a1 a2 a3 U post) : um l Y (5 + 1 * n_) yX12_crews cX12_crews 7 none [.ref (Y.2.1 o), .int a1, .int a2, .int a3] U (pq_v post) := tn_X12_crews n_ _ _ _ _ _ _ ho H
def w_X12_crew (o : Nat) (a1 : Int32) (a2 : Int32) (U : Um) (post : Int32 → Um → Prop) : Prop :=
  ∀ (U_1 : Um), U_1 = sI U o 0 0 → w_X12_isGame o a1 U_1 (fun r_3 U_2 => (r_3 = 0 → post (-1) U_2) ∧ (¬ r_3 = 0 → w_X12_isPlayed o a1 U_2 (fun r_5 U_4 => (r_5 = 0 → w_X12_of o a1 7 U_4 (fun r_7 U_6 => w_X12_isIn (Int32.toInt64 a2) 0 (Int32.toInt64 r_7) U_6 (fun r_9 U_8 => (r_9 = 0 → post (-1) U_8) ∧ (¬ r_9 = 0 → ∀ (U_10 : Um), U_10 = sI U_8 o 44 0 → w_X12_crews 4 o a1 0 0 U_10 (fun U_11 => ((uI U_11 o 44) = 0 → post (-1) U_11) ∧ (¬ (uI U_11 o 44) = 0 → (a2 = 0 → post (uI U_11 o 43) U_11) ∧ (¬ a2 = 0 → vp_in (a2 - 1) 3 ∧ post (uA U_11 o 41 (Int32.toNatClampNeg (a2 - 1))) U_11))))))) ∧ (¬ r_5 = 0 → post (-1) U_4))))
set_option maxHeartbeats 4000000 in
theorem t_X12_crew {l : Launch} {Y : px_Y} {o : Nat} {a1 : Int32} {a2 : Int32} {U : Um} {post : Int32 → Um → Prop} (ho : oc o = 10) (H : w_X12_crew o a1 a2 U post) : um l Y 10 yX12_crew cX12_crew 3 (some (.int)) [.ref (Y.2.1 o), .int a1, .int a2] U (pq_i post) := by
  unfold w_X12_crew at H
  refine um_of (by decide) (Nat.le_of_ble_eq_true rfl) [some (.ref (Y.2.1 o)), some (.int a1), some (.int a2)] rfl (fun X h0 hh sz hM hU => ?_)
  have hC := hM.1
  have hR := hM.2.2.1
  refine pr_aload_n hC (by decide +kernel : decode cX12_crew 0 = .ok (.aload_n 0, 1)) rfl ?_
  refine pr_iconst hC (0) (by decide +kernel : decode cX12_crew 1 = .ok (.iconst 0, 1)) rfl ?_
  refine pv_p0 hC fp_X12_121 (by decide +kernel : decode cX12_crew 2 = .ok (.putfield 121, 3)) hU ho (by decide) rfl rfl rfl rfl (fun U_1 h e_U_1 hU => ?_)
  replace H := H U_1 e_U_1
  refine pr_aload_n hC (by decide +kernel : decode cX12_crew 5 = .ok (.aload_n 0, 1)) rfl ?_
  refine pr_iload_n hC (by decide +kernel : decode cX12_crew 6 = .ok (.iload_n 1, 1)) rfl ?_
  refine vc_Vi hC hR [.int a1] fv_X12_350 (by decide +kernel : decode cX12_crew 7 = .ok (.invokevirtual 350, 3)) hU (t_X12_isGame ho H) ho (by decide) rfl rfl rfl (Nat.le_of_ble_eq_true rfl) (Nat.le_of_ble_eq_true rfl) (Nat.le_refl 0) (Nat.le_refl 0) (fun r_3 U_2 h H hU => ?_)
  refine pr_if_eq hC 38 (by decide +kernel : decode cX12_crew 10 = .ok (.ifCond .eq 28, 3)) (by decide) (fun c_10 => ?_) (fun c_10 => ?_)
  · replace H := H.1 c_10
    refine pr_iconst hC (-1) (by decide +kernel : decode cX12_crew 38 = .ok (.iconst (-1), 1)) rfl ?_
    exact pv_iret hM (by decide +kernel : decode cX12_crew 39 = .ok (.ireturn, 1)) hU H
  replace H := H.2 c_10
  refine pr_aload_n hC (by decide +kernel : decode cX12_crew 13 = .ok (.aload_n 0, 1)) rfl ?_
  refine pr_iload_n hC (by decide +kernel : decode cX12_crew 14 = .ok (.iload_n 1, 1)) rfl ?_
  refine vc_Vi hC hR [.int a1] fv_X12_382 (by decide +kernel : decode cX12_crew 15 = .ok (.invokevirtual 382, 3)) hU (t_X12_isPlayed ho H) ho (by decide) rfl rfl rfl (Nat.le_of_ble_eq_true rfl) (Nat.le_of_ble_eq_true rfl) (Nat.le_refl 0) (Nat.le_refl 0) (fun r_5 U_4 h H hU => ?_)
  refine pr_if_ne hC 38 (by decide +kernel : decode cX12_crew 18 = .ok (.ifCond .ne 20, 3)) (by decide) (fun c_18 => ?_) (fun c_18 => ?_)
  · replace H := H.2 c_18
    refine pr_iconst hC (-1) (by decide +kernel : decode cX12_crew 38 = .ok (.iconst (-1), 1)) rfl ?_
    exact pv_iret hM (by decide +kernel : decode cX12_crew 39 = .ok (.ireturn, 1)) hU H
  replace H := H.1 c_18
  refine pr_iload_n hC (by decide +kernel : decode cX12_crew 21 = .ok (.iload_n 2, 1)) rfl ?_
  refine pr_i2l hC (by decide +kernel : decode cX12_crew 22 = .ok (.i2l, 1)) ?_
  refine pr_lconst hC (0) (by decide +kernel : decode cX12_crew 23 = .ok (.lconst 0, 1)) rfl ?_
  refine pr_aload_n hC (by decide +kernel : decode cX12_crew 24 = .ok (.aload_n 0, 1)) rfl ?_
  refine pr_iload_n hC (by decide +kernel : decode cX12_crew 25 = .ok (.iload_n 1, 1)) rfl ?_
  refine pr_bipush hC (7) (by decide +kernel : decode cX12_crew 26 = .ok (.bipush 7, 2)) rfl ?_
  refine vc_Vi hC hR [.int a1, .int 7] fv_X12_353 (by decide +kernel : decode cX12_crew 28 = .ok (.invokevirtual 353, 3)) hU (t_X12_of ho H) ho (by decide) rfl rfl rfl (Nat.le_of_ble_eq_true rfl) (Nat.le_of_ble_eq_true rfl) (Nat.le_refl 0) (Nat.le_refl 0) (fun r_7 U_6 h H hU => ?_)
  refine pr_i2l hC (by decide +kernel : decode cX12_crew 31 = .ok (.i2l, 1)) ?_
  refine vc_Si hC hR [.long (Int32.toInt64 a2), .long 0, .long (Int32.toInt64 r_7)] fv_X12_131 (by decide +kernel : decode cX12_crew 32 = .ok (.invokestatic 131, 3)) hU (t_X12_isIn  H) rfl rfl (Nat.le_of_ble_eq_true rfl) (Nat.le_of_ble_eq_true rfl) (Nat.le_refl 0) (Nat.le_refl 0) (fun r_9 U_8 h H hU => ?_)
  refine pr_if_ne hC 40 (by decide +kernel : decode cX12_crew 35 = .ok (.ifCond .ne 5, 3)) (by decide) (fun c_35 => ?_) (fun c_35 => ?_)
  · replace H := H.2 c_35
    refine pr_aload_n hC (by decide +kernel : decode cX12_crew 40 = .ok (.aload_n 0, 1)) rfl ?_
    refine pr_iconst hC (0) (by decide +kernel : decode cX12_crew 41 = .ok (.iconst 0, 1)) rfl ?_
    refine pv_p0 hC fp_X12_475 (by decide +kernel : decode cX12_crew 42 = .ok (.putfield 475, 3)) hU ho (by decide) rfl rfl rfl rfl (fun U_10 h e_U_10 hU => ?_)
    replace H := H U_10 e_U_10
    refine pr_aload_n hC (by decide +kernel : decode cX12_crew 45 = .ok (.aload_n 0, 1)) rfl ?_
    refine pr_iload_n hC (by decide +kernel : decode cX12_crew 46 = .ok (.iload_n 1, 1)) rfl ?_
    refine pr_iconst hC (0) (by decide +kernel : decode cX12_crew 47 = .ok (.iconst 0, 1)) rfl ?_
    refine pr_iconst hC (0) (by decide +kernel : decode cX12_crew 48 = .ok (.iconst 0, 1)) rfl ?_
    refine vc_Vv hC hR [.int a1, .int 0, .int 0] fv_X12_482 (by decide +kernel : decode cX12_crew 49 = .ok (.invokevirtual 482, 3)) hU (t_X12_crews 4 ho H) ho (by decide) rfl rfl rfl (Nat.le_of_ble_eq_true rfl) (Nat.le_of_ble_eq_true rfl) (Nat.le_refl 0) (Nat.le_refl 0) (fun U_11 h H hU => ?_)
    refine pr_aload_n hC (by decide +kernel : decode cX12_crew 52 = .ok (.aload_n 0, 1)) rfl ?_
    refine pu_g0 hC fg_X12_475 (by decide +kernel : decode cX12_crew 53 = .ok (.getfield 475, 3)) hU ho (by decide) rfl rfl ?_
    refine pr_if_ne hC 63 (by decide +kernel : decode cX12_crew 56 = .ok (.ifCond .ne 7, 3)) (by decide) (fun c_56 => ?_) (fun c_56 => ?_)
    · replace H := H.2 c_56
      refine pr_iload_n hC (by decide +kernel : decode cX12_crew 63 = .ok (.iload_n 2, 1)) rfl ?_
      refine pr_if_ne hC 74 (by decide +kernel : decode cX12_crew 64 = .ok (.ifCond .ne 10, 3)) (by decide) (fun c_64 => ?_) (fun c_64 => ?_)
      · replace H := H.2 c_64
        refine pr_aload_n hC (by decide +kernel : decode cX12_crew 74 = .ok (.aload_n 0, 1)) rfl ?_
        refine pu_g1 hC fg_X12_90 (by decide +kernel : decode cX12_crew 75 = .ok (.getfield 90, 3)) hU ho (by decide) rfl (by decide) ?_
        refine pr_iload_n hC (by decide +kernel : decode cX12_crew 78 = .ok (.iload_n 2, 1)) rfl ?_
        refine pr_iconst hC (1) (by decide +kernel : decode cX12_crew 79 = .ok (.iconst 1, 1)) rfl ?_
        refine pr_isub hC (by decide +kernel : decode cX12_crew 80 = .ok (.isub, 1)) ?_
        refine pu_iald hC (by decide +kernel : decode cX12_crew 81 = .ok (.iaload, 1)) hU ho rfl H.1 ?_
        replace H := H.2
        exact pv_iret hM (by decide +kernel : decode cX12_crew 82 = .ok (.ireturn, 1)) hU H
      replace H := H.1 c_64
      refine pr_aload_n hC (by decide +kernel : decode cX12_crew 67 = .ok (.aload_n 0, 1)) rfl ?_
      refine pu_g0 hC fg_X12_479 (by decide +kernel : decode cX12_crew 68 = .ok (.getfield 479, 3)) hU ho (by decide) rfl rfl ?_
      refine pr_goto hC 82 (by decide +kernel : decode cX12_crew 71 = .ok (.goto 11, 3)) (by decide) ?_
      exact pv_iret hM (by decide +kernel : decode cX12_crew 82 = .ok (.ireturn, 1)) hU H
    replace H := H.1 c_56
    refine pr_iconst hC (-1) (by decide +kernel : decode cX12_crew 59 = .ok (.iconst (-1), 1)) rfl ?_
    refine pr_goto hC 82 (by decide +kernel : decode cX12_crew 60 = .ok (.goto 22, 3)) (by decide) ?_
    exact pv_iret hM (by decide +kernel : decode cX12_crew 82 = .ok (.ireturn, 1)) hU H
  replace H := H.1 c_35
  refine pr_iconst hC (-1) (by decide +kernel : decode cX12_crew 38 = .ok (.iconst (-1), 1)) rfl ?_
  exact pv_iret hM (by decide +kernel : decode cX12_crew 39 = .ok (.ireturn, 1)) hU H
def w_X12_isOpen (o : Nat) (a1 : Int32) (U : Um) (post : Int32 → Um → Prop) : Prop :=
  w_X12_isSeat o (a1 / 3) (a1 - a1 / 3 * 3) U (fun r_2 U_1 => (r_2 = 0 → post 0 U_1) ∧ (¬ r_2 = 0 → vp_in a1 48 ∧ ((uA U_1 o 30 (Int32.toNatClampNeg a1)) = (-1) → w_X12_isPlayed o (a1 / 3) U_1 (fun r_4 U_3 => (r_4 = 0 → w_X12_isLate o (a1 / 3) U_3 (fun r_6 U_5 => (r_6 = 0 → post 1 U_5) ∧ (¬ r_6 = 0 → post 0 U_5))) ∧ (¬ r_4 = 0 → post 0 U_3))) ∧ (¬ (uA U_1 o 30 (Int32.toNatClampNeg a1)) = (-1) → post 0 U_1)))
set_option maxHeartbeats 4000000 in
theorem t_X12_isOpen {l : Launch} {Y : px_Y} {o : Nat} {a1 : Int32} {U : Um} {post : Int32 → Um → Prop} (ho : oc o = 10) (H : w_X12_isOpen o a1 U post) : um l Y 3 yX12_isOpen cX12_isOpen 2 (some (.boolean)) [.ref (Y.2.1 o), .int a1] U (pq_i post) := by
  unfold w_X12_isOpen at H
  refine um_of (by decide) (Nat.le_of_ble_eq_true rfl) [some (.ref (Y.2.1 o)), some (.int a1)] rfl (fun X h0 hh sz hM hU => ?_)
  have hC := hM.1
  have hR := hM.2.2.1
  refine pr_aload_n hC (by decide +kernel : decode cX12_isOpen 0 = .ok (.aload_n 0, 1)) rfl ?_
  refine pr_iload_n hC (by decide +kernel : decode cX12_isOpen 1 = .ok (.iload_n 1, 1)) rfl ?_
  refine pr_iconst hC (3) (by decide +kernel : decode cX12_isOpen 2 = .ok (.iconst 3, 1)) rfl ?_
  refine pr_idiv hC (by decide +kernel : decode cX12_isOpen 3 = .ok (.idiv, 1)) (by decide) ?_
  refine pr_iload_n hC (by decide +kernel : decode cX12_isOpen 4 = .ok (.iload_n 1, 1)) rfl ?_
  refine pr_iconst hC (3) (by decide +kernel : decode cX12_isOpen 5 = .ok (.iconst 3, 1)) rfl ?_
  refine pr_irem hC (by decide +kernel : decode cX12_isOpen 6 = .ok (.irem, 1)) (by decide) ?_
  refine vc_Vi hC hR [.int (a1 / 3), .int (a1 - a1 / 3 * 3)] fv_X12_388 (by decide +kernel : decode cX12_isOpen 7 = .ok (.invokevirtual 388, 3)) hU (t_X12_isSeat ho H) ho (by decide) rfl rfl rfl (Nat.le_of_ble_eq_true rfl) (Nat.le_of_ble_eq_true rfl) (Nat.le_refl 0) (Nat.le_refl 0) (fun r_2 U_1 h H hU => ?_)
  refine pr_if_eq hC 47 (by decide +kernel : decode cX12_isOpen 10 = .ok (.ifCond .eq 37, 3)) (by decide) (fun c_10 => ?_) (fun c_10 => ?_)
  · replace H := H.1 c_10
    refine pr_iconst hC (0) (by decide +kernel : decode cX12_isOpen 47 = .ok (.iconst 0, 1)) rfl ?_
    exact pv_zret hM (by decide +kernel : decode cX12_isOpen 48 = .ok (.ireturn, 1)) (Or.inl rfl) hU H
  replace H := H.2 c_10
  refine pr_aload_n hC (by decide +kernel : decode cX12_isOpen 13 = .ok (.aload_n 0, 1)) rfl ?_
  refine pu_g1 hC fg_X12_59 (by decide +kernel : decode cX12_isOpen 14 = .ok (.getfield 59, 3)) hU ho (by decide) rfl (by decide) ?_
  refine pr_iload_n hC (by decide +kernel : decode cX12_isOpen 17 = .ok (.iload_n 1, 1)) rfl ?_
  refine pu_iald hC (by decide +kernel : decode cX12_isOpen 18 = .ok (.iaload, 1)) hU ho rfl H.1 ?_
  replace H := H.2
  refine pr_iconst hC (-1) (by decide +kernel : decode cX12_isOpen 19 = .ok (.iconst (-1), 1)) rfl ?_
  refine pr_icmp_ne hC 47 (by decide +kernel : decode cX12_isOpen 20 = .ok (.if_icmp .ne 27, 3)) (by decide) (fun c_20 => ?_) (fun c_20 => ?_)
  · replace H := H.2 c_20
    refine pr_iconst hC (0) (by decide +kernel : decode cX12_isOpen 47 = .ok (.iconst 0, 1)) rfl ?_
    exact pv_zret hM (by decide +kernel : decode cX12_isOpen 48 = .ok (.ireturn, 1)) (Or.inl rfl) hU H
  replace H := H.1 c_20
  refine pr_aload_n hC (by decide +kernel : decode cX12_isOpen 23 = .ok (.aload_n 0, 1)) rfl ?_
  refine pr_iload_n hC (by decide +kernel : decode cX12_isOpen 24 = .ok (.iload_n 1, 1)) rfl ?_
  refine pr_iconst hC (3) (by decide +kernel : decode cX12_isOpen 25 = .ok (.iconst 3, 1)) rfl ?_
  refine pr_idiv hC (by decide +kernel : decode cX12_isOpen 26 = .ok (.idiv, 1)) (by decide) ?_
  refine vc_Vi hC hR [.int (a1 / 3)] fv_X12_382 (by decide +kernel : decode cX12_isOpen 27 = .ok (.invokevirtual 382, 3)) hU (t_X12_isPlayed ho H) ho (by decide) rfl rfl rfl (Nat.le_of_ble_eq_true rfl) (Nat.le_of_ble_eq_true rfl) (Nat.le_refl 0) (Nat.le_refl 0) (fun r_4 U_3 h H hU => ?_)
  refine pr_if_ne hC 47 (by decide +kernel : decode cX12_isOpen 30 = .ok (.ifCond .ne 17, 3)) (by decide) (fun c_30 => ?_) (fun c_30 => ?_)
  · replace H := H.2 c_30
    refine pr_iconst hC (0) (by decide +kernel : decode cX12_isOpen 47 = .ok (.iconst 0, 1)) rfl ?_
    exact pv_zret hM (by decide +kernel : decode cX12_isOpen 48 = .ok (.ireturn, 1)) (Or.inl rfl) hU H
  replace H := H.1 c_30
  refine pr_aload_n hC (by decide +kernel : decode cX12_isOpen 33 = .ok (.aload_n 0, 1)) rfl ?_
  refine pr_iload_n hC (by decide +kernel : decode cX12_isOpen 34 = .ok (.iload_n 1, 1)) rfl ?_
  refine pr_iconst hC (3) (by decide +kernel : decode cX12_isOpen 35 = .ok (.iconst 3, 1)) rfl ?_
  refine pr_idiv hC (by decide +kernel : decode cX12_isOpen 36 = .ok (.idiv, 1)) (by decide) ?_
  refine vc_Vi hC hR [.int (a1 / 3)] fv_X12_385 (by decide +kernel : decode cX12_isOpen 37 = .ok (.invokevirtual 385, 3)) hU (t_X12_isLate ho H) ho (by decide) rfl rfl rfl (Nat.le_of_ble_eq_true rfl) (Nat.le_of_ble_eq_true rfl) (Nat.le_refl 0) (Nat.le_refl 0) (fun r_6 U_5 h H hU => ?_)
  refine pr_if_ne hC 47 (by decide +kernel : decode cX12_isOpen 40 = .ok (.ifCond .ne 7, 3)) (by decide) (fun c_40 => ?_) (fun c_40 => ?_)
  · replace H := H.2 c_40
    refine pr_iconst hC (0) (by decide +kernel : decode cX12_isOpen 47 = .ok (.iconst 0, 1)) rfl ?_
    exact pv_zret hM (by decide +kernel : decode cX12_isOpen 48 = .ok (.ireturn, 1)) (Or.inl rfl) hU H
  replace H := H.1 c_40
  refine pr_iconst hC (1) (by decide +kernel : decode cX12_isOpen 43 = .ok (.iconst 1, 1)) rfl ?_
  refine pr_goto hC 48 (by decide +kernel : decode cX12_isOpen 44 = .ok (.goto 4, 3)) (by decide) ?_
  exact pv_zret hM (by decide +kernel : decode cX12_isOpen 48 = .ok (.ireturn, 1)) (Or.inr rfl) hU H
def b_X12_fills_L2 (rec : Nat → Int32 → Um → (Int32 → Um → Prop) → Prop) (o0 : Nat) (post : Int32 → Um → Prop) (k_22 : Int32 → Um → Prop) (rec_ : Int32 → Um → Prop) (x2 : Int32) (U : Um) : Prop :=
  ((48 : Int32) ≤ x2 → k_22 x2 U) ∧ (¬ (48 : Int32) ≤ x2 → w_X12_isOpen o0 x2 U (fun r_3 U_2 => (r_3 = 0 → ∀ (x2_4 : Int32), x2_4 = x2 + 1 → rec_ x2_4 U_2) ∧ (¬ r_3 = 0 → k_22 x2 U_2)))
def w_X12_fills_L2 (rec : Nat → Int32 → Um → (Int32 → Um → Prop) → Prop) (o0 : Nat) (post : Int32 → Um → Prop) (k_22 : Int32 → Um → Prop) (n_ : Nat) : Int32 → Um → Prop := Nat.rec (motive := fun _ => Int32 → Um → Prop) (fun _ _ => False) (fun _ ih => b_X12_fills_L2 rec o0 post k_22 ih) n_
def b_X12_fills_L32 (rec : Nat → Int32 → Um → (Int32 → Um → Prop) → Prop) (o0 : Nat) (x2 : Int32) (post : Int32 → Um → Prop) (k_123 : Um → Prop) (rec_ : Int32 → Um → Prop) (x3 : Int32) (U : Um) : Prop :=
  vp_in 2 14 ∧ ((uA U o0 11 (Int32.toNatClampNeg 2)) ≤ x3 → k_123 U) ∧ (¬ (uA U o0 11 (Int32.toNatClampNeg 2)) ≤ x3 → ((20000 : Int32) < (uI U o0 45) → k_123 U) ∧ (¬ (20000 : Int32) < (uI U o0 45) → w_X12_whyNot o0 (x2 / 3) (x2 - x2 / 3 * 3) x3 U (fun r_8 U_7 => (r_8 = 0 → ∀ (U_9 : Um), U_9 = sI U_7 o0 45 ((uI U_7 o0 45) + 1) → ((uI U_9 o0 45) ≤ 20000 → vp_in x2 48 ∧ ∀ (U_10 : Um), U_10 = sA U_9 o0 30 (va_up (uA U_9 o0 30) (Int32.toNatClampNeg x2) x3) → rec o0 (x2 + 1) U_10 (fun r_12 U_11 => (r_12 = 0 → vp_in x2 48 ∧ ∀ (U_13 : Um), U_13 = sA U_11 o0 30 (va_up (uA U_11 o0 30) (Int32.toNatClampNeg x2) (-1)) → ∀ (x3_14 : Int32), x3_14 = x3 + 1 → rec_ x3_14 U_13) ∧ (¬ r_12 = 0 → post 1 U_11))) ∧ (¬ (uI U_9 o0 45) ≤ 20000 → post 0 U_9)) ∧ (¬ r_8 = 0 → ∀ (x3_15 : Int32), x3_15 = x3 + 1 → rec_ x3_15 U_7))))
def w_X12_fills_L32 (rec : Nat → Int32 → Um → (Int32 → Um → Prop) → Prop) (o0 : Nat) (x2 : Int32) (post : Int32 → Um → Prop) (k_123 : Um → Prop) (n_ : Nat) : Int32 → Um → Prop := Nat.rec (motive := fun _ => Int32 → Um → Prop) (fun _ _ => False) (fun _ ih => b_X12_fills_L32 rec o0 x2 post k_123 ih) n_
def b_X12_fills (rec : Nat → Int32 → Um → (Int32 → Um → Prop) → Prop) (o : Nat) (a1 : Int32) (U : Um) (post : Int32 → Um → Prop) : Prop :=
  ∀ (x2_1 : Int32), x2_1 = a1 → (∃ n_18, w_X12_fills_L2 rec o post (fun x2_5 U_6 => (x2_5 = 48 → post 1 U_6) ∧ (¬ x2_5 = 48 → (∃ n_17, w_X12_fills_L32 rec o x2_5 post (fun U_16 => post 0 U_16) n_17 0 U_6))) n_18 x2_1 U)
def w_X12_fills (n_ : Nat) : Nat → Int32 → Um → (Int32 → Um → Prop) → Prop := Nat.rec (motive := fun _ => Nat → Int32 → Um → (Int32 → Um → Prop) → Prop) (fun _ _ _ _ => False) (fun _ ih => b_X12_fills ih) n_
set_option maxHeartbeats 4000000 in
theorem tl_X12_fills_L2 {l : Launch} {Y : px_Y} {X : px_X} {h0 hh : pe_H} {sz : Nat} {dd : Nat} (rec : Nat → Int32 → Um → (Int32 → Um → Prop) → Prop) (o0 : Nat) (post : Int32 → Um → Prop) (k_22 : Int32 → Um → Prop) (ho0 : oc o0 = 10) (hrec : ∀ (l : Launch) (o : Nat) (a0 : Int32) (U : Um) (post : Int32 → Um → Prop), oc o = 10 → rec o a0 U post → um l Y dd yX12_fills cX12_fills 4 (some (.boolean)) [.ref (Y.2.1 o), .int a0] U (pq_i post)) (hD : 5 ≤ dd) (hC : px_C X Y.1 (pm_A hh sz) cX12_fills RX12 4) (hM : px_M l X Y.1 hh sz yX12_fills cX12_fills 4 (some (.boolean)) (dd + 1) 0 0) (hR : X.2.2.2.1 = pm_rm (dd + 1) 0 0) (hk_22 : ∀ (y2 : Int32) (U : Um) (h : pe_H), k_22 y2 U → rF Y h0 U h → pw X Y.1 (pm_A hh sz) (pm_E X Y.1 hh sz 0 0 (pm_P Y h0 sz (pq_i post))) 22 [some (.ref (Y.2.1 o0)), none, some (.int y2), none] [] h sz 0 0) : ∀ (n_ : Nat) (x2 : Int32) (U : Um) (h : pe_H), rF Y h0 U h → w_X12_fills_L2 rec o0 post k_22 n_ x2 U → pw X Y.1 (pm_A hh sz) (pm_E X Y.1 hh sz 0 0 (pm_P Y h0 sz (pq_i post))) 2 [some (.ref (Y.2.1 o0)), none, some (.int x2), none] [] h sz 0 0 := by
  intro n_
  induction n_ with
  | zero => intro x2 U h hU H; exact False.elim H
  | succ n_ ih =>
    intro x2 U h hU H
    replace H : b_X12_fills_L2 rec o0 post k_22 (w_X12_fills_L2 rec o0 post k_22 n_) x2 U := H
    unfold b_X12_fills_L2 at H
    refine pr_iload_n hC (by decide +kernel : decode cX12_fills 2 = .ok (.iload_n 2, 1)) rfl ?_
    refine pr_bipush hC (48) (by decide +kernel : decode cX12_fills 3 = .ok (.bipush 48, 2)) rfl ?_
    refine pr_icmp_ge hC 22 (by decide +kernel : decode cX12_fills 5 = .ok (.if_icmp .ge 17, 3)) (by decide) (fun c_5 => ?_) (fun c_5 => ?_)
    · replace H := H.1 c_5
      exact pv_sub [some (.ref (Y.2.1 o0)), none, some (.int x2), none] (And.intro rfl (And.intro rfl trivial)) (hk_22 _ U h H hU)
    replace H := H.2 c_5
    refine pr_aload_n hC (by decide +kernel : decode cX12_fills 8 = .ok (.aload_n 0, 1)) rfl ?_
    refine pr_iload_n hC (by decide +kernel : decode cX12_fills 9 = .ok (.iload_n 2, 1)) rfl ?_
    refine vc_Vi hC hR [.int x2] fv_X12_486 (by decide +kernel : decode cX12_fills 10 = .ok (.invokevirtual 486, 3)) hU (t_X12_isOpen ho0 H) ho0 (by decide) rfl rfl rfl (Nat.le_of_ble_eq_true rfl) (by omega) (Nat.le_refl 0) (Nat.le_refl 0) (fun r_3 U_2 h H hU => ?_)
    refine pr_if_ne hC 22 (by decide +kernel : decode cX12_fills 13 = .ok (.ifCond .ne 9, 3)) (by decide) (fun c_13 => ?_) (fun c_13 => ?_)
    · replace H := H.2 c_13
      exact pv_sub [some (.ref (Y.2.1 o0)), none, some (.int x2), none] (And.intro rfl (And.intro rfl trivial)) (hk_22 _ U_2 h H hU)
    replace H := H.1 c_13
    refine pv_iinc hC (v := x2 + 1) (by decide +kernel : decode cX12_fills 16 = .ok (.iinc 2 1, 3)) rfl (by decide) rfl rfl (fun x2_4 e_x2_4 => ?_)
    replace H := H x2_4 e_x2_4
    refine pr_goto hC 2 (by decide +kernel : decode cX12_fills 19 = .ok (.goto (-17), 3)) (by decide) ?_
    exact pv_sub [some (.ref (Y.2.1 o0)), none, some (.int x2_4), none] (And.intro rfl (And.intro rfl trivial)) (ih _ U_2 h hU H)
set_option maxHeartbeats 4000000 in
theorem tl_X12_fills_L32 {l : Launch} {Y : px_Y} {X : px_X} {h0 hh : pe_H} {sz : Nat} {dd : Nat} (rec : Nat → Int32 → Um → (Int32 → Um → Prop) → Prop) (o0 : Nat) (x2 : Int32) (post : Int32 → Um → Prop) (k_123 : Um → Prop) (ho0 : oc o0 = 10) (hrec : ∀ (l : Launch) (o : Nat) (a0 : Int32) (U : Um) (post : Int32 → Um → Prop), oc o = 10 → rec o a0 U post → um l Y dd yX12_fills cX12_fills 4 (some (.boolean)) [.ref (Y.2.1 o), .int a0] U (pq_i post)) (hD : 5 ≤ dd) (hC : px_C X Y.1 (pm_A hh sz) cX12_fills RX12 4) (hM : px_M l X Y.1 hh sz yX12_fills cX12_fills 4 (some (.boolean)) (dd + 1) 0 0) (hR : X.2.2.2.1 = pm_rm (dd + 1) 0 0) (hk_123 : ∀ (U : Um) (h : pe_H), k_123 U → rF Y h0 U h → pw X Y.1 (pm_A hh sz) (pm_E X Y.1 hh sz 0 0 (pm_P Y h0 sz (pq_i post))) 123 [none, none, none, none] [] h sz 0 0) : ∀ (n_ : Nat) (x3 : Int32) (U : Um) (h : pe_H), rF Y h0 U h → w_X12_fills_L32 rec o0 x2 post k_123 n_ x3 U → pw X Y.1 (pm_A hh sz) (pm_E X Y.1 hh sz 0 0 (pm_P Y h0 sz (pq_i post))) 32 [some (.ref (Y.2.1 o0)), none, some (.int x2), some (.int x3)] [] h sz 0 0 := by
  intro n_
  induction n_ with
  | zero => intro x3 U h hU H; exact False.elim H
  | succ n_ ih =>
    intro x3 U h hU H
    replace H : b_X12_fills_L32 rec o0 x2 post k_123 (w_X12_fills_L32 rec o0 x2 post k_123 n_) x3 U := H
    unfold b_X12_fills_L32 at H
    refine pr_iload_n hC (by decide +kernel : decode cX12_fills 32 = .ok (.iload_n 3, 1)) rfl ?_
    refine pr_aload_n hC (by decide +kernel : decode cX12_fills 33 = .ok (.aload_n 0, 1)) rfl ?_
    refine pu_g1 hC fg_X12_43 (by decide +kernel : decode cX12_fills 34 = .ok (.getfield 43, 3)) hU ho0 (by decide) rfl (by decide) ?_
    refine pr_iconst hC (2) (by decide +kernel : decode cX12_fills 37 = .ok (.iconst 2, 1)) rfl ?_
    refine pu_iald hC (by decide +kernel : decode cX12_fills 38 = .ok (.iaload, 1)) hU ho0 rfl H.1 ?_
    replace H := H.2
    refine pr_icmp_ge hC 123 (by decide +kernel : decode cX12_fills 39 = .ok (.if_icmp .ge 84, 3)) (by decide) (fun c_39 => ?_) (fun c_39 => ?_)
    · replace H := H.1 c_39
      exact pv_sub [none, none, none, none] (trivial) (hk_123 U h H hU)
    replace H := H.2 c_39
    refine pr_aload_n hC (by decide +kernel : decode cX12_fills 42 = .ok (.aload_n 0, 1)) rfl ?_
    refine pu_g0 hC fg_X12_489 (by decide +kernel : decode cX12_fills 43 = .ok (.getfield 489, 3)) hU ho0 (by decide) rfl rfl ?_
    refine pr_sipush hC (20000) (by decide +kernel : decode cX12_fills 46 = .ok (.sipush 20000, 3)) rfl ?_
    refine pr_icmp_gt hC 123 (by decide +kernel : decode cX12_fills 49 = .ok (.if_icmp .gt 74, 3)) (by decide) (fun c_49 => ?_) (fun c_49 => ?_)
    · replace H := H.1 c_49
      exact pv_sub [none, none, none, none] (trivial) (hk_123 U h H hU)
    replace H := H.2 c_49
    refine pr_aload_n hC (by decide +kernel : decode cX12_fills 52 = .ok (.aload_n 0, 1)) rfl ?_
    refine pr_iload_n hC (by decide +kernel : decode cX12_fills 53 = .ok (.iload_n 2, 1)) rfl ?_
    refine pr_iconst hC (3) (by decide +kernel : decode cX12_fills 54 = .ok (.iconst 3, 1)) rfl ?_
    refine pr_idiv hC (by decide +kernel : decode cX12_fills 55 = .ok (.idiv, 1)) (by decide) ?_
    refine pr_iload_n hC (by decide +kernel : decode cX12_fills 56 = .ok (.iload_n 2, 1)) rfl ?_
    refine pr_iconst hC (3) (by decide +kernel : decode cX12_fills 57 = .ok (.iconst 3, 1)) rfl ?_
    refine pr_irem hC (by decide +kernel : decode cX12_fills 58 = .ok (.irem, 1)) (by decide) ?_
    refine pr_iload_n hC (by decide +kernel : decode cX12_fills 59 = .ok (.iload_n 3, 1)) rfl ?_
    refine vc_Vi hC hR [.int (x2 / 3), .int (x2 - x2 / 3 * 3), .int x3] fv_X12_423 (by decide +kernel : decode cX12_fills 60 = .ok (.invokevirtual 423, 3)) hU (t_X12_whyNot ho0 H) ho0 (by decide) rfl rfl rfl (Nat.le_of_ble_eq_true rfl) (by omega) (Nat.le_refl 0) (Nat.le_refl 0) (fun r_8 U_7 h H hU => ?_)
    refine pr_if_eq hC 69 (by decide +kernel : decode cX12_fills 63 = .ok (.ifCond .eq 6, 3)) (by decide) (fun c_63 => ?_) (fun c_63 => ?_)
    · replace H := H.1 c_63
      refine pr_aload_n hC (by decide +kernel : decode cX12_fills 69 = .ok (.aload_n 0, 1)) rfl ?_
      refine pr_dup hC (by decide +kernel : decode cX12_fills 70 = .ok (.dup, 1)) rfl ?_
      refine pu_g0 hC fg_X12_489 (by decide +kernel : decode cX12_fills 71 = .ok (.getfield 489, 3)) hU ho0 (by decide) rfl rfl ?_
      refine pr_iconst hC (1) (by decide +kernel : decode cX12_fills 74 = .ok (.iconst 1, 1)) rfl ?_
      refine pr_iadd hC (by decide +kernel : decode cX12_fills 75 = .ok (.iadd, 1)) ?_
      refine pv_p0 hC fp_X12_489 (by decide +kernel : decode cX12_fills 76 = .ok (.putfield 489, 3)) hU ho0 (by decide) rfl rfl rfl rfl (fun U_9 h e_U_9 hU => ?_)
      replace H := H U_9 e_U_9
      refine pr_aload_n hC (by decide +kernel : decode cX12_fills 79 = .ok (.aload_n 0, 1)) rfl ?_
      refine pu_g0 hC fg_X12_489 (by decide +kernel : decode cX12_fills 80 = .ok (.getfield 489, 3)) hU ho0 (by decide) rfl rfl ?_
      refine pr_sipush hC (20000) (by decide +kernel : decode cX12_fills 83 = .ok (.sipush 20000, 3)) rfl ?_
      refine pr_icmp_le hC 91 (by decide +kernel : decode cX12_fills 86 = .ok (.if_icmp .le 5, 3)) (by decide) (fun c_86 => ?_) (fun c_86 => ?_)
      · replace H := H.1 c_86
        refine pr_aload_n hC (by decide +kernel : decode cX12_fills 91 = .ok (.aload_n 0, 1)) rfl ?_
        refine pu_g1 hC fg_X12_59 (by decide +kernel : decode cX12_fills 92 = .ok (.getfield 59, 3)) hU ho0 (by decide) rfl (by decide) ?_
        refine pr_iload_n hC (by decide +kernel : decode cX12_fills 95 = .ok (.iload_n 2, 1)) rfl ?_
        refine pr_iload_n hC (by decide +kernel : decode cX12_fills 96 = .ok (.iload_n 3, 1)) rfl ?_
        refine pv_iast hC (by decide +kernel : decode cX12_fills 97 = .ok (.iastore, 1)) hU ho0 rfl H.1 (fun U_10 h e_U_10 hU => ?_)
        replace H := H.2 U_10 e_U_10
        refine pr_aload_n hC (by decide +kernel : decode cX12_fills 98 = .ok (.aload_n 0, 1)) rfl ?_
        refine pr_iload_n hC (by decide +kernel : decode cX12_fills 99 = .ok (.iload_n 2, 1)) rfl ?_
        refine pr_iconst hC (1) (by decide +kernel : decode cX12_fills 100 = .ok (.iconst 1, 1)) rfl ?_
        refine pr_iadd hC (by decide +kernel : decode cX12_fills 101 = .ok (.iadd, 1)) ?_
        refine vc_Vi hC hR [.int (x2 + 1)] fv_X12_492 (by decide +kernel : decode cX12_fills 102 = .ok (.invokevirtual 492, 3)) hU (hrec _ _ _ _ _ ho0 H) ho0 (by decide) rfl rfl rfl (Nat.le_of_ble_eq_true rfl) (by omega) (Nat.le_refl 0) (Nat.le_refl 0) (fun r_12 U_11 h H hU => ?_)
        refine pr_if_eq hC 110 (by decide +kernel : decode cX12_fills 105 = .ok (.ifCond .eq 5, 3)) (by decide) (fun c_105 => ?_) (fun c_105 => ?_)
        · replace H := H.1 c_105
          refine pr_aload_n hC (by decide +kernel : decode cX12_fills 110 = .ok (.aload_n 0, 1)) rfl ?_
          refine pu_g1 hC fg_X12_59 (by decide +kernel : decode cX12_fills 111 = .ok (.getfield 59, 3)) hU ho0 (by decide) rfl (by decide) ?_
          refine pr_iload_n hC (by decide +kernel : decode cX12_fills 114 = .ok (.iload_n 2, 1)) rfl ?_
          refine pr_iconst hC (-1) (by decide +kernel : decode cX12_fills 115 = .ok (.iconst (-1), 1)) rfl ?_
          refine pv_iast hC (by decide +kernel : decode cX12_fills 116 = .ok (.iastore, 1)) hU ho0 rfl H.1 (fun U_13 h e_U_13 hU => ?_)
          replace H := H.2 U_13 e_U_13
          refine pv_iinc hC (v := x3 + 1) (by decide +kernel : decode cX12_fills 117 = .ok (.iinc 3 1, 3)) rfl (by decide) rfl rfl (fun x3_14 e_x3_14 => ?_)
          replace H := H x3_14 e_x3_14
          refine pr_goto hC 32 (by decide +kernel : decode cX12_fills 120 = .ok (.goto (-88), 3)) (by decide) ?_
          exact pv_sub [some (.ref (Y.2.1 o0)), none, some (.int x2), some (.int x3_14)] (And.intro rfl (And.intro rfl (And.intro rfl trivial))) (ih _ U_13 h hU H)
        replace H := H.2 c_105
        refine pr_iconst hC (1) (by decide +kernel : decode cX12_fills 108 = .ok (.iconst 1, 1)) rfl ?_
        exact pv_zret hM (by decide +kernel : decode cX12_fills 109 = .ok (.ireturn, 1)) (Or.inr rfl) hU H
      replace H := H.2 c_86
      refine pr_iconst hC (0) (by decide +kernel : decode cX12_fills 89 = .ok (.iconst 0, 1)) rfl ?_
      exact pv_zret hM (by decide +kernel : decode cX12_fills 90 = .ok (.ireturn, 1)) (Or.inl rfl) hU H
    replace H := H.2 c_63
    refine pr_goto hC 117 (by decide +kernel : decode cX12_fills 66 = .ok (.goto 51, 3)) (by decide) ?_
    refine pv_iinc hC (v := x3 + 1) (by decide +kernel : decode cX12_fills 117 = .ok (.iinc 3 1, 3)) rfl (by decide) rfl rfl (fun x3_15 e_x3_15 => ?_)
    replace H := H x3_15 e_x3_15
    refine pr_goto hC 32 (by decide +kernel : decode cX12_fills 120 = .ok (.goto (-88), 3)) (by decide) ?_
    exact pv_sub [some (.ref (Y.2.1 o0)), none, some (.int x2), some (.int x3_15)] (And.intro rfl (And.intro rfl (And.intro rfl trivial))) (ih _ U_7 h hU H)
set_option maxHeartbeats 4000000 in
theorem tb_X12_fills {l : Launch} {Y : px_Y} {dd : Nat} {rec : Nat → Int32 → Um → (Int32 → Um → Prop) → Prop} (hrec : ∀ (l : Launch) (o : Nat) (a0 : Int32) (U : Um) (post : Int32 → Um → Prop), oc o = 10 → rec o a0 U post → um l Y dd yX12_fills cX12_fills 4 (some (.boolean)) [.ref (Y.2.1 o), .int a0] U (pq_i post)) (hD : 5 ≤ dd) {o : Nat} {a1 : Int32} {U : Um} {post : Int32 → Um → Prop} (ho : oc o = 10) (H : b_X12_fills rec o a1 U post) : um l Y (dd + 1) yX12_fills cX12_fills 4 (some (.boolean)) [.ref (Y.2.1 o), .int a1] U (pq_i post) := by
  unfold b_X12_fills at H
  refine um_of (by decide) (Nat.le_of_ble_eq_true rfl) [some (.ref (Y.2.1 o)), some (.int a1), none, none] rfl (fun X h0 hh sz hM hU => ?_)
  have hC := hM.1
  have hR := hM.2.2.1
  refine pr_iload_n hC (by decide +kernel : decode cX12_fills 0 = .ok (.iload_n 1, 1)) rfl ?_
  refine pv_topi (fun x2_1 e_x2_1 => ?_)
  replace H := H x2_1 e_x2_1
  refine pr_istore_n hC (by decide +kernel : decode cX12_fills 1 = .ok (.istore_n 2, 1)) (by decide) rfl ?_
  obtain ⟨n_18, H⟩ := H
  refine pv_sub [some (.ref (Y.2.1 o)), none, some (.int x2_1), none] (And.intro rfl (And.intro rfl trivial)) ?_
  refine tl_X12_fills_L2 _ _ _ _ ho hrec hD hC hM hR (fun x2_5 U_6 h H hU => ?_) n_18 _ U hh hU H
  refine pr_iload_n hC (by decide +kernel : decode cX12_fills 22 = .ok (.iload_n 2, 1)) rfl ?_
  refine pr_bipush hC (48) (by decide +kernel : decode cX12_fills 23 = .ok (.bipush 48, 2)) rfl ?_
  refine pr_icmp_ne hC 30 (by decide +kernel : decode cX12_fills 25 = .ok (.if_icmp .ne 5, 3)) (by decide) (fun c_25 => ?_) (fun c_25 => ?_)
  · replace H := H.2 c_25
    refine pr_iconst hC (0) (by decide +kernel : decode cX12_fills 30 = .ok (.iconst 0, 1)) rfl ?_
    refine pr_istore_n hC (by decide +kernel : decode cX12_fills 31 = .ok (.istore_n 3, 1)) (by decide) rfl ?_
    obtain ⟨n_17, H⟩ := H
    refine pv_sub [some (.ref (Y.2.1 o)), none, some (.int x2_5), some (.int 0)] (And.intro rfl (And.intro rfl (And.intro rfl trivial))) ?_
    refine tl_X12_fills_L32 _ _ _ _ _ ho hrec hD hC hM hR (fun U_16 h H hU => ?_) n_17 _ U_6 h hU H
    refine pr_iconst hC (0) (by decide +kernel : decode cX12_fills 123 = .ok (.iconst 0, 1)) rfl ?_
    exact pv_zret hM (by decide +kernel : decode cX12_fills 124 = .ok (.ireturn, 1)) (Or.inl rfl) hU H
  replace H := H.1 c_25
  refine pr_iconst hC (1) (by decide +kernel : decode cX12_fills 28 = .ok (.iconst 1, 1)) rfl ?_
  exact pv_zret hM (by decide +kernel : decode cX12_fills 29 = .ok (.ireturn, 1)) (Or.inr rfl) hU H
theorem tn_X12_fills {l : Launch} {Y : px_Y} : ∀ (n_ : Nat) (o : Nat) (a1 : Int32) (U : Um) (post : Int32 → Um → Prop), oc o = 10 → w_X12_fills n_ o a1 U post → um l Y (5 + 1 * n_) yX12_fills cX12_fills 4 (some (.boolean)) [.ref (Y.2.1 o), .int a1] U (pq_i post)
  | 0 => fun _ _ _ _ _ H => False.elim H
  | n_ + 1 => fun o a1 U post ho H => tb_X12_fills (fun _ => tn_X12_fills n_) (Nat.le_add_right _ _) ho H
theorem t_X12_fills {l : Launch} {Y : px_Y} (n_ : Nat) {o : Nat} {a1 : Int32} {U : Um} {post : Int32 → Um → Prop} (ho : oc o = 10) (H : w_X12_fills n_ o a1 U post) : um l Y (5 + 1 * n_) yX12_fills cX12_fills 4 (some (.boolean)) [.ref (Y.2.1 o), .int a1] U (pq_i post) := tn_X12_fills n_ _ _ _ _ ho H
def b_X12_fill_L9 (o0 : Nat) (post : Int32 → Um → Prop) (k_44 : Int32 → Um → Prop) (rec_ : Int32 → Int32 → Um → Prop) (x1 : Int32) (x2 : Int32) (U : Um) : Prop :=
  ((48 : Int32) ≤ x2 → k_44 x1 U) ∧ (¬ (48 : Int32) ≤ x2 → w_X12_isOpen o0 x2 U (fun r_3 U_2 => w_X12_one r_3 U_2 (fun r_5 U_4 => ∀ (x1_6 : Int32), x1_6 = x1 + r_5 → vp_in x2 48 ∧ vp_in x2 48 ∧ ∀ (U_7 : Um), U_7 = sA U_4 o0 46 (va_up (uA U_4 o0 46) (Int32.toNatClampNeg x2) (uA U_4 o0 30 (Int32.toNatClampNeg x2))) → ∀ (x2_8 : Int32), x2_8 = x2 + 1 → rec_ x1_6 x2_8 U_7)))
def w_X12_fill_L9 (o0 : Nat) (post : Int32 → Um → Prop) (k_44 : Int32 → Um → Prop) (n_ : Nat) : Int32 → Int32 → Um → Prop := Nat.rec (motive := fun _ => Int32 → Int32 → Um → Prop) (fun _ _ _ => False) (fun _ ih => b_X12_fill_L9 o0 post k_44 ih) n_
def b_X12_fill_L149 (o0 : Nat) (post : Int32 → Um → Prop) (k_173 : Um → Prop) (rec_ : Int32 → Um → Prop) (x2 : Int32) (U : Um) : Prop :=
  ((48 : Int32) ≤ x2 → k_173 U) ∧ (¬ (48 : Int32) ≤ x2 → vp_in x2 48 ∧ vp_in x2 48 ∧ ∀ (U_14 : Um), U_14 = sA U o0 30 (va_up (uA U o0 30) (Int32.toNatClampNeg x2) (uA U o0 46 (Int32.toNatClampNeg x2))) → ∀ (x2_15 : Int32), x2_15 = x2 + 1 → rec_ x2_15 U_14)
def w_X12_fill_L149 (o0 : Nat) (post : Int32 → Um → Prop) (k_173 : Um → Prop) (n_ : Nat) : Int32 → Um → Prop := Nat.rec (motive := fun _ => Int32 → Um → Prop) (fun _ _ => False) (fun _ ih => b_X12_fill_L149 o0 post k_173 ih) n_
def b_X12_fill_L65 (o0 : Nat) (x1 : Int32) (post : Int32 → Um → Prop) (k_89 : Um → Prop) (rec_ : Int32 → Um → Prop) (x2 : Int32) (U : Um) : Prop :=
  ((48 : Int32) ≤ x2 → k_89 U) ∧ (¬ (48 : Int32) ≤ x2 → vp_in x2 48 ∧ vp_in x2 48 ∧ ∀ (U_18 : Um), U_18 = sA U o0 47 (va_up (uA U o0 47) (Int32.toNatClampNeg x2) (uA U o0 30 (Int32.toNatClampNeg x2))) → ∀ (x2_19 : Int32), x2_19 = x2 + 1 → rec_ x2_19 U_18)
def w_X12_fill_L65 (o0 : Nat) (x1 : Int32) (post : Int32 → Um → Prop) (k_89 : Um → Prop) (n_ : Nat) : Int32 → Um → Prop := Nat.rec (motive := fun _ => Int32 → Um → Prop) (fun _ _ => False) (fun _ ih => b_X12_fill_L65 o0 x1 post k_89 ih) n_
def b_X12_fill_L91 (o0 : Nat) (x1 : Int32) (post : Int32 → Um → Prop) (k_115 : Um → Prop) (rec_ : Int32 → Um → Prop) (x2 : Int32) (U : Um) : Prop :=
  ((48 : Int32) ≤ x2 → k_115 U) ∧ (¬ (48 : Int32) ≤ x2 → vp_in x2 48 ∧ vp_in x2 48 ∧ ∀ (U_21 : Um), U_21 = sA U o0 30 (va_up (uA U o0 30) (Int32.toNatClampNeg x2) (uA U o0 46 (Int32.toNatClampNeg x2))) → ∀ (x2_22 : Int32), x2_22 = x2 + 1 → rec_ x2_22 U_21)
def w_X12_fill_L91 (o0 : Nat) (x1 : Int32) (post : Int32 → Um → Prop) (k_115 : Um → Prop) (n_ : Nat) : Int32 → Um → Prop := Nat.rec (motive := fun _ => Int32 → Um → Prop) (fun _ _ => False) (fun _ ih => b_X12_fill_L91 o0 x1 post k_115 ih) n_
def b_X12_fill_L121 (o0 : Nat) (x1 : Int32) (post : Int32 → Um → Prop) (k_145 : Um → Prop) (rec_ : Int32 → Um → Prop) (x2 : Int32) (U : Um) : Prop :=
  ((48 : Int32) ≤ x2 → k_145 U) ∧ (¬ (48 : Int32) ≤ x2 → vp_in x2 48 ∧ vp_in x2 48 ∧ ∀ (U_26 : Um), U_26 = sA U o0 30 (va_up (uA U o0 30) (Int32.toNatClampNeg x2) (uA U o0 47 (Int32.toNatClampNeg x2))) → ∀ (x2_27 : Int32), x2_27 = x2 + 1 → rec_ x2_27 U_26)
def w_X12_fill_L121 (o0 : Nat) (x1 : Int32) (post : Int32 → Um → Prop) (k_145 : Um → Prop) (n_ : Nat) : Int32 → Um → Prop := Nat.rec (motive := fun _ => Int32 → Um → Prop) (fun _ _ => False) (fun _ ih => b_X12_fill_L121 o0 x1 post k_145 ih) n_
def w_X12_fill (o : Nat) (U : Um) (post : Int32 → Um → Prop) : Prop :=
  ∀ (U_1 : Um), U_1 = sI U o 0 0 → (∃ n_32, w_X12_fill_L9 o post (fun x1_9 U_10 => (x1_9 = 0 → post 0 U_10) ∧ (¬ x1_9 = 0 → ∀ (U_11 : Um), U_11 = sI U_10 o 45 0 → w_X12_fills 49 o 0 U_11 (fun r_13 U_12 => (r_13 = 0 → (∃ n_17, w_X12_fill_L149 o post (fun U_16 => ((uI U_16 o 45) ≤ 20000 → post (-1) U_16) ∧ (¬ (uI U_16 o 45) ≤ 20000 → post (-2) U_16)) n_17 0 U_12)) ∧ (¬ r_13 = 0 → (∃ n_31, w_X12_fill_L65 o x1_9 post (fun U_20 => (∃ n_30, w_X12_fill_L91 o x1_9 post (fun U_23 => w_X12_keeps o U_23 (fun U_24 => (∃ n_29, w_X12_fill_L121 o x1_9 post (fun U_28 => post x1_9 U_28) n_29 0 U_24))) n_30 0 U_20)) n_31 0 U_12))))) n_32 0 0 U_1)
set_option maxHeartbeats 4000000 in
theorem tl_X12_fill_L9 {l : Launch} {Y : px_Y} {X : px_X} {h0 hh : pe_H} {sz : Nat} (o0 : Nat) (post : Int32 → Um → Prop) (k_44 : Int32 → Um → Prop) (ho0 : oc o0 = 10)  (hC : px_C X Y.1 (pm_A hh sz) cX12_fill RX12 3) (hM : px_M l X Y.1 hh sz yX12_fill cX12_fill 3 (some (.int)) 55 0 0) (hR : X.2.2.2.1 = pm_rm 55 0 0) (hk_44 : ∀ (y1 : Int32) (U : Um) (h : pe_H), k_44 y1 U → rF Y h0 U h → pw X Y.1 (pm_A hh sz) (pm_E X Y.1 hh sz 0 0 (pm_P Y h0 sz (pq_i post))) 44 [some (.ref (Y.2.1 o0)), some (.int y1), none] [] h sz 0 0) : ∀ (n_ : Nat) (x1 : Int32) (x2 : Int32) (U : Um) (h : pe_H), rF Y h0 U h → w_X12_fill_L9 o0 post k_44 n_ x1 x2 U → pw X Y.1 (pm_A hh sz) (pm_E X Y.1 hh sz 0 0 (pm_P Y h0 sz (pq_i post))) 9 [some (.ref (Y.2.1 o0)), some (.int x1), some (.int x2)] [] h sz 0 0 := by
  intro n_
  induction n_ with
  | zero => intro x1 x2 U h hU H; exact False.elim H
  | succ n_ ih =>
    intro x1 x2 U h hU H
    replace H : b_X12_fill_L9 o0 post k_44 (w_X12_fill_L9 o0 post k_44 n_) x1 x2 U := H
    unfold b_X12_fill_L9 at H
    refine pr_iload_n hC (by decide +kernel : decode cX12_fill 9 = .ok (.iload_n 2, 1)) rfl ?_
    refine pr_bipush hC (48) (by decide +kernel : decode cX12_fill 10 = .ok (.bipush 48, 2)) rfl ?_
    refine pr_icmp_ge hC 44 (by decide +kernel : decode cX12_fill 12 = .ok (.if_icmp .ge 32, 3)) (by decide) (fun c_12 => ?_) (fun c_12 => ?_)
    · replace H := H.1 c_12
      exact pv_sub [some (.ref (Y.2.1 o0)), some (.int x1), none] (And.intro rfl (And.intro rfl trivial)) (hk_44 _ U h H hU)
    replace H := H.2 c_12
    refine pr_iload_n hC (by decide +kernel : decode cX12_fill 15 = .ok (.iload_n 1, 1)) rfl ?_
    refine pr_aload_n hC (by decide +kernel : decode cX12_fill 16 = .ok (.aload_n 0, 1)) rfl ?_
    refine pr_iload_n hC (by decide +kernel : decode cX12_fill 17 = .ok (.iload_n 2, 1)) rfl ?_
    refine vc_Vi hC hR [.int x2] fv_X12_486 (by decide +kernel : decode cX12_fill 18 = .ok (.invokevirtual 486, 3)) hU (t_X12_isOpen ho0 H) ho0 (by decide) rfl rfl rfl (Nat.le_of_ble_eq_true rfl) (Nat.le_of_ble_eq_true rfl) (Nat.le_refl 0) (Nat.le_refl 0) (fun r_3 U_2 h H hU => ?_)
    refine vc_Si hC hR [.int r_3] fv_X12_357 (by decide +kernel : decode cX12_fill 21 = .ok (.invokestatic 357, 3)) hU (t_X12_one  H) rfl rfl (Nat.le_of_ble_eq_true rfl) (Nat.le_of_ble_eq_true rfl) (Nat.le_refl 0) (Nat.le_refl 0) (fun r_5 U_4 h H hU => ?_)
    refine pr_iadd hC (by decide +kernel : decode cX12_fill 24 = .ok (.iadd, 1)) ?_
    refine pv_topi (fun x1_6 e_x1_6 => ?_)
    replace H := H x1_6 e_x1_6
    refine pr_istore_n hC (by decide +kernel : decode cX12_fill 25 = .ok (.istore_n 1, 1)) (by decide) rfl ?_
    refine pr_aload_n hC (by decide +kernel : decode cX12_fill 26 = .ok (.aload_n 0, 1)) rfl ?_
    refine pu_g1 hC fg_X12_96 (by decide +kernel : decode cX12_fill 27 = .ok (.getfield 96, 3)) hU ho0 (by decide) rfl (by decide) ?_
    refine pr_iload_n hC (by decide +kernel : decode cX12_fill 30 = .ok (.iload_n 2, 1)) rfl ?_
    refine pr_aload_n hC (by decide +kernel : decode cX12_fill 31 = .ok (.aload_n 0, 1)) rfl ?_
    refine pu_g1 hC fg_X12_59 (by decide +kernel : decode cX12_fill 32 = .ok (.getfield 59, 3)) hU ho0 (by decide) rfl (by decide) ?_
    refine pr_iload_n hC (by decide +kernel : decode cX12_fill 35 = .ok (.iload_n 2, 1)) rfl ?_
    refine pu_iald hC (by decide +kernel : decode cX12_fill 36 = .ok (.iaload, 1)) hU ho0 rfl H.1 ?_
    replace H := H.2
    refine pv_iast hC (by decide +kernel : decode cX12_fill 37 = .ok (.iastore, 1)) hU ho0 rfl H.1 (fun U_7 h e_U_7 hU => ?_)
    replace H := H.2 U_7 e_U_7
    refine pv_iinc hC (v := x2 + 1) (by decide +kernel : decode cX12_fill 38 = .ok (.iinc 2 1, 3)) rfl (by decide) rfl rfl (fun x2_8 e_x2_8 => ?_)
    replace H := H x2_8 e_x2_8
    refine pr_goto hC 9 (by decide +kernel : decode cX12_fill 41 = .ok (.goto (-32), 3)) (by decide) ?_
    exact pv_sub [some (.ref (Y.2.1 o0)), some (.int x1_6), some (.int x2_8)] (And.intro rfl (And.intro rfl (And.intro rfl trivial))) (ih _ _ U_7 h hU H)
set_option maxHeartbeats 4000000 in
theorem tl_X12_fill_L149 {l : Launch} {Y : px_Y} {X : px_X} {h0 hh : pe_H} {sz : Nat} (o0 : Nat) (post : Int32 → Um → Prop) (k_173 : Um → Prop) (ho0 : oc o0 = 10)  (hC : px_C X Y.1 (pm_A hh sz) cX12_fill RX12 3) (hM : px_M l X Y.1 hh sz yX12_fill cX12_fill 3 (some (.int)) 55 0 0) (hR : X.2.2.2.1 = pm_rm 55 0 0) (hk_173 : ∀ (U : Um) (h : pe_H), k_173 U → rF Y h0 U h → pw X Y.1 (pm_A hh sz) (pm_E X Y.1 hh sz 0 0 (pm_P Y h0 sz (pq_i post))) 173 [some (.ref (Y.2.1 o0)), none, none] [] h sz 0 0) : ∀ (n_ : Nat) (x2 : Int32) (U : Um) (h : pe_H), rF Y h0 U h → w_X12_fill_L149 o0 post k_173 n_ x2 U → pw X Y.1 (pm_A hh sz) (pm_E X Y.1 hh sz 0 0 (pm_P Y h0 sz (pq_i post))) 149 [some (.ref (Y.2.1 o0)), none, some (.int x2)] [] h sz 0 0 := by
  intro n_
  induction n_ with
  | zero => intro x2 U h hU H; exact False.elim H
  | succ n_ ih =>
    intro x2 U h hU H
    replace H : b_X12_fill_L149 o0 post k_173 (w_X12_fill_L149 o0 post k_173 n_) x2 U := H
    unfold b_X12_fill_L149 at H
    refine pr_iload_n hC (by decide +kernel : decode cX12_fill 149 = .ok (.iload_n 2, 1)) rfl ?_
    refine pr_bipush hC (48) (by decide +kernel : decode cX12_fill 150 = .ok (.bipush 48, 2)) rfl ?_
    refine pr_icmp_ge hC 173 (by decide +kernel : decode cX12_fill 152 = .ok (.if_icmp .ge 21, 3)) (by decide) (fun c_152 => ?_) (fun c_152 => ?_)
    · replace H := H.1 c_152
      exact pv_sub [some (.ref (Y.2.1 o0)), none, none] (And.intro rfl trivial) (hk_173 U h H hU)
    replace H := H.2 c_152
    refine pr_aload_n hC (by decide +kernel : decode cX12_fill 155 = .ok (.aload_n 0, 1)) rfl ?_
    refine pu_g1 hC fg_X12_59 (by decide +kernel : decode cX12_fill 156 = .ok (.getfield 59, 3)) hU ho0 (by decide) rfl (by decide) ?_
    refine pr_iload_n hC (by decide +kernel : decode cX12_fill 159 = .ok (.iload_n 2, 1)) rfl ?_
    refine pr_aload_n hC (by decide +kernel : decode cX12_fill 160 = .ok (.aload_n 0, 1)) rfl ?_
    refine pu_g1 hC fg_X12_96 (by decide +kernel : decode cX12_fill 161 = .ok (.getfield 96, 3)) hU ho0 (by decide) rfl (by decide) ?_
    refine pr_iload_n hC (by decide +kernel : decode cX12_fill 164 = .ok (.iload_n 2, 1)) rfl ?_
    refine pu_iald hC (by decide +kernel : decode cX12_fill 165 = .ok (.iaload, 1)) hU ho0 rfl H.1 ?_
    replace H := H.2
    refine pv_iast hC (by decide +kernel : decode cX12_fill 166 = .ok (.iastore, 1)) hU ho0 rfl H.1 (fun U_14 h e_U_14 hU => ?_)
    replace H := H.2 U_14 e_U_14
    refine pv_iinc hC (v := x2 + 1) (by decide +kernel : decode cX12_fill 167 = .ok (.iinc 2 1, 3)) rfl (by decide) rfl rfl (fun x2_15 e_x2_15 => ?_)
    replace H := H x2_15 e_x2_15
    refine pr_goto hC 149 (by decide +kernel : decode cX12_fill 170 = .ok (.goto (-21), 3)) (by decide) ?_
    exact pv_sub [some (.ref (Y.2.1 o0)), none, some (.int x2_15)] (And.intro rfl (And.intro rfl trivial)) (ih _ U_14 h hU H)
set_option maxHeartbeats 4000000 in
theorem tl_X12_fill_L65 {l : Launch} {Y : px_Y} {X : px_X} {h0 hh : pe_H} {sz : Nat} (o0 : Nat) (x1 : Int32) (post : Int32 → Um → Prop) (k_89 : Um → Prop) (ho0 : oc o0 = 10)  (hC : px_C X Y.1 (pm_A hh sz) cX12_fill RX12 3) (hM : px_M l X Y.1 hh sz yX12_fill cX12_fill 3 (some (.int)) 55 0 0) (hR : X.2.2.2.1 = pm_rm 55 0 0) (hk_89 : ∀ (U : Um) (h : pe_H), k_89 U → rF Y h0 U h → pw X Y.1 (pm_A hh sz) (pm_E X Y.1 hh sz 0 0 (pm_P Y h0 sz (pq_i post))) 89 [some (.ref (Y.2.1 o0)), some (.int x1), none] [] h sz 0 0) : ∀ (n_ : Nat) (x2 : Int32) (U : Um) (h : pe_H), rF Y h0 U h → w_X12_fill_L65 o0 x1 post k_89 n_ x2 U → pw X Y.1 (pm_A hh sz) (pm_E X Y.1 hh sz 0 0 (pm_P Y h0 sz (pq_i post))) 65 [some (.ref (Y.2.1 o0)), some (.int x1), some (.int x2)] [] h sz 0 0 := by
  intro n_
  induction n_ with
  | zero => intro x2 U h hU H; exact False.elim H
  | succ n_ ih =>
    intro x2 U h hU H
    replace H : b_X12_fill_L65 o0 x1 post k_89 (w_X12_fill_L65 o0 x1 post k_89 n_) x2 U := H
    unfold b_X12_fill_L65 at H
    refine pr_iload_n hC (by decide +kernel : decode cX12_fill 65 = .ok (.iload_n 2, 1)) rfl ?_
    refine pr_bipush hC (48) (by decide +kernel : decode cX12_fill 66 = .ok (.bipush 48, 2)) rfl ?_
    refine pr_icmp_ge hC 89 (by decide +kernel : decode cX12_fill 68 = .ok (.if_icmp .ge 21, 3)) (by decide) (fun c_68 => ?_) (fun c_68 => ?_)
    · replace H := H.1 c_68
      exact pv_sub [some (.ref (Y.2.1 o0)), some (.int x1), none] (And.intro rfl (And.intro rfl trivial)) (hk_89 U h H hU)
    replace H := H.2 c_68
    refine pr_aload_n hC (by decide +kernel : decode cX12_fill 71 = .ok (.aload_n 0, 1)) rfl ?_
    refine pu_g1 hC fg_X12_99 (by decide +kernel : decode cX12_fill 72 = .ok (.getfield 99, 3)) hU ho0 (by decide) rfl (by decide) ?_
    refine pr_iload_n hC (by decide +kernel : decode cX12_fill 75 = .ok (.iload_n 2, 1)) rfl ?_
    refine pr_aload_n hC (by decide +kernel : decode cX12_fill 76 = .ok (.aload_n 0, 1)) rfl ?_
    refine pu_g1 hC fg_X12_59 (by decide +kernel : decode cX12_fill 77 = .ok (.getfield 59, 3)) hU ho0 (by decide) rfl (by decide) ?_
    refine pr_iload_n hC (by decide +kernel : decode cX12_fill 80 = .ok (.iload_n 2, 1)) rfl ?_
    refine pu_iald hC (by decide +kernel : decode cX12_fill 81 = .ok (.iaload, 1)) hU ho0 rfl H.1 ?_
    replace H := H.2
    refine pv_iast hC (by decide +kernel : decode cX12_fill 82 = .ok (.iastore, 1)) hU ho0 rfl H.1 (fun U_18 h e_U_18 hU => ?_)
    replace H := H.2 U_18 e_U_18
    refine pv_iinc hC (v := x2 + 1) (by decide +kernel : decode cX12_fill 83 = .ok (.iinc 2 1, 3)) rfl (by decide) rfl rfl (fun x2_19 e_x2_19 => ?_)
    replace H := H x2_19 e_x2_19
    refine pr_goto hC 65 (by decide +kernel : decode cX12_fill 86 = .ok (.goto (-21), 3)) (by decide) ?_
    exact pv_sub [some (.ref (Y.2.1 o0)), some (.int x1), some (.int x2_19)] (And.intro rfl (And.intro rfl (And.intro rfl trivial))) (ih _ U_18 h hU H)
set_option maxHeartbeats 4000000 in
theorem tl_X12_fill_L91 {l : Launch} {Y : px_Y} {X : px_X} {h0 hh : pe_H} {sz : Nat} (o0 : Nat) (x1 : Int32) (post : Int32 → Um → Prop) (k_115 : Um → Prop) (ho0 : oc o0 = 10)  (hC : px_C X Y.1 (pm_A hh sz) cX12_fill RX12 3) (hM : px_M l X Y.1 hh sz yX12_fill cX12_fill 3 (some (.int)) 55 0 0) (hR : X.2.2.2.1 = pm_rm 55 0 0) (hk_115 : ∀ (U : Um) (h : pe_H), k_115 U → rF Y h0 U h → pw X Y.1 (pm_A hh sz) (pm_E X Y.1 hh sz 0 0 (pm_P Y h0 sz (pq_i post))) 115 [some (.ref (Y.2.1 o0)), some (.int x1), none] [] h sz 0 0) : ∀ (n_ : Nat) (x2 : Int32) (U : Um) (h : pe_H), rF Y h0 U h → w_X12_fill_L91 o0 x1 post k_115 n_ x2 U → pw X Y.1 (pm_A hh sz) (pm_E X Y.1 hh sz 0 0 (pm_P Y h0 sz (pq_i post))) 91 [some (.ref (Y.2.1 o0)), some (.int x1), some (.int x2)] [] h sz 0 0 := by
  intro n_
  induction n_ with
  | zero => intro x2 U h hU H; exact False.elim H
  | succ n_ ih =>
    intro x2 U h hU H
    replace H : b_X12_fill_L91 o0 x1 post k_115 (w_X12_fill_L91 o0 x1 post k_115 n_) x2 U := H
    unfold b_X12_fill_L91 at H
    refine pr_iload_n hC (by decide +kernel : decode cX12_fill 91 = .ok (.iload_n 2, 1)) rfl ?_
    refine pr_bipush hC (48) (by decide +kernel : decode cX12_fill 92 = .ok (.bipush 48, 2)) rfl ?_
    refine pr_icmp_ge hC 115 (by decide +kernel : decode cX12_fill 94 = .ok (.if_icmp .ge 21, 3)) (by decide) (fun c_94 => ?_) (fun c_94 => ?_)
    · replace H := H.1 c_94
      exact pv_sub [some (.ref (Y.2.1 o0)), some (.int x1), none] (And.intro rfl (And.intro rfl trivial)) (hk_115 U h H hU)
    replace H := H.2 c_94
    refine pr_aload_n hC (by decide +kernel : decode cX12_fill 97 = .ok (.aload_n 0, 1)) rfl ?_
    refine pu_g1 hC fg_X12_59 (by decide +kernel : decode cX12_fill 98 = .ok (.getfield 59, 3)) hU ho0 (by decide) rfl (by decide) ?_
    refine pr_iload_n hC (by decide +kernel : decode cX12_fill 101 = .ok (.iload_n 2, 1)) rfl ?_
    refine pr_aload_n hC (by decide +kernel : decode cX12_fill 102 = .ok (.aload_n 0, 1)) rfl ?_
    refine pu_g1 hC fg_X12_96 (by decide +kernel : decode cX12_fill 103 = .ok (.getfield 96, 3)) hU ho0 (by decide) rfl (by decide) ?_
    refine pr_iload_n hC (by decide +kernel : decode cX12_fill 106 = .ok (.iload_n 2, 1)) rfl ?_
    refine pu_iald hC (by decide +kernel : decode cX12_fill 107 = .ok (.iaload, 1)) hU ho0 rfl H.1 ?_
    replace H := H.2
    refine pv_iast hC (by decide +kernel : decode cX12_fill 108 = .ok (.iastore, 1)) hU ho0 rfl H.1 (fun U_21 h e_U_21 hU => ?_)
    replace H := H.2 U_21 e_U_21
    refine pv_iinc hC (v := x2 + 1) (by decide +kernel : decode cX12_fill 109 = .ok (.iinc 2 1, 3)) rfl (by decide) rfl rfl (fun x2_22 e_x2_22 => ?_)
    replace H := H x2_22 e_x2_22
    refine pr_goto hC 91 (by decide +kernel : decode cX12_fill 112 = .ok (.goto (-21), 3)) (by decide) ?_
    exact pv_sub [some (.ref (Y.2.1 o0)), some (.int x1), some (.int x2_22)] (And.intro rfl (And.intro rfl (And.intro rfl trivial))) (ih _ U_21 h hU H)
set_option maxHeartbeats 4000000 in
theorem tl_X12_fill_L121 {l : Launch} {Y : px_Y} {X : px_X} {h0 hh : pe_H} {sz : Nat} (o0 : Nat) (x1 : Int32) (post : Int32 → Um → Prop) (k_145 : Um → Prop) (ho0 : oc o0 = 10)  (hC : px_C X Y.1 (pm_A hh sz) cX12_fill RX12 3) (hM : px_M l X Y.1 hh sz yX12_fill cX12_fill 3 (some (.int)) 55 0 0) (hR : X.2.2.2.1 = pm_rm 55 0 0) (hk_145 : ∀ (U : Um) (h : pe_H), k_145 U → rF Y h0 U h → pw X Y.1 (pm_A hh sz) (pm_E X Y.1 hh sz 0 0 (pm_P Y h0 sz (pq_i post))) 145 [none, some (.int x1), none] [] h sz 0 0) : ∀ (n_ : Nat) (x2 : Int32) (U : Um) (h : pe_H), rF Y h0 U h → w_X12_fill_L121 o0 x1 post k_145 n_ x2 U → pw X Y.1 (pm_A hh sz) (pm_E X Y.1 hh sz 0 0 (pm_P Y h0 sz (pq_i post))) 121 [some (.ref (Y.2.1 o0)), some (.int x1), some (.int x2)] [] h sz 0 0 := by
  intro n_
  induction n_ with
  | zero => intro x2 U h hU H; exact False.elim H
  | succ n_ ih =>
    intro x2 U h hU H
    replace H : b_X12_fill_L121 o0 x1 post k_145 (w_X12_fill_L121 o0 x1 post k_145 n_) x2 U := H
    unfold b_X12_fill_L121 at H
    refine pr_iload_n hC (by decide +kernel : decode cX12_fill 121 = .ok (.iload_n 2, 1)) rfl ?_
    refine pr_bipush hC (48) (by decide +kernel : decode cX12_fill 122 = .ok (.bipush 48, 2)) rfl ?_
    refine pr_icmp_ge hC 145 (by decide +kernel : decode cX12_fill 124 = .ok (.if_icmp .ge 21, 3)) (by decide) (fun c_124 => ?_) (fun c_124 => ?_)
    · replace H := H.1 c_124
      exact pv_sub [none, some (.int x1), none] (And.intro rfl trivial) (hk_145 U h H hU)
    replace H := H.2 c_124
    refine pr_aload_n hC (by decide +kernel : decode cX12_fill 127 = .ok (.aload_n 0, 1)) rfl ?_
    refine pu_g1 hC fg_X12_59 (by decide +kernel : decode cX12_fill 128 = .ok (.getfield 59, 3)) hU ho0 (by decide) rfl (by decide) ?_
    refine pr_iload_n hC (by decide +kernel : decode cX12_fill 131 = .ok (.iload_n 2, 1)) rfl ?_
    refine pr_aload_n hC (by decide +kernel : decode cX12_fill 132 = .ok (.aload_n 0, 1)) rfl ?_
    refine pu_g1 hC fg_X12_99 (by decide +kernel : decode cX12_fill 133 = .ok (.getfield 99, 3)) hU ho0 (by decide) rfl (by decide) ?_
    refine pr_iload_n hC (by decide +kernel : decode cX12_fill 136 = .ok (.iload_n 2, 1)) rfl ?_
    refine pu_iald hC (by decide +kernel : decode cX12_fill 137 = .ok (.iaload, 1)) hU ho0 rfl H.1 ?_
    replace H := H.2
    refine pv_iast hC (by decide +kernel : decode cX12_fill 138 = .ok (.iastore, 1)) hU ho0 rfl H.1 (fun U_26 h e_U_26 hU => ?_)
    replace H := H.2 U_26 e_U_26
    refine pv_iinc hC (v := x2 + 1) (by decide +kernel : decode cX12_fill 139 = .ok (.iinc 2 1, 3)) rfl (by decide) rfl rfl (fun x2_27 e_x2_27 => ?_)
    replace H := H x2_27 e_x2_27
    refine pr_goto hC 121 (by decide +kernel : decode cX12_fill 142 = .ok (.goto (-21), 3)) (by decide) ?_
    exact pv_sub [some (.ref (Y.2.1 o0)), some (.int x1), some (.int x2_27)] (And.intro rfl (And.intro rfl (And.intro rfl trivial))) (ih _ U_26 h hU H)
set_option maxHeartbeats 4000000 in
theorem t_X12_fill {l : Launch} {Y : px_Y} {o : Nat} {U : Um} {post : Int32 → Um → Prop} (ho : oc o = 10) (H : w_X12_fill o U post) : um l Y 55 yX12_fill cX12_fill 3 (some (.int)) [.ref (Y.2.1 o)] U (pq_i post) := by
  unfold w_X12_fill at H
  refine um_of (by decide) (Nat.le_of_ble_eq_true rfl) [some (.ref (Y.2.1 o)), none, none] rfl (fun X h0 hh sz hM hU => ?_)
  have hC := hM.1
  have hR := hM.2.2.1
  refine pr_aload_n hC (by decide +kernel : decode cX12_fill 0 = .ok (.aload_n 0, 1)) rfl ?_
  refine pr_iconst hC (0) (by decide +kernel : decode cX12_fill 1 = .ok (.iconst 0, 1)) rfl ?_
  refine pv_p0 hC fp_X12_121 (by decide +kernel : decode cX12_fill 2 = .ok (.putfield 121, 3)) hU ho (by decide) rfl rfl rfl rfl (fun U_1 h e_U_1 hU => ?_)
  replace H := H U_1 e_U_1
  refine pr_iconst hC (0) (by decide +kernel : decode cX12_fill 5 = .ok (.iconst 0, 1)) rfl ?_
  refine pr_istore_n hC (by decide +kernel : decode cX12_fill 6 = .ok (.istore_n 1, 1)) (by decide) rfl ?_
  refine pr_iconst hC (0) (by decide +kernel : decode cX12_fill 7 = .ok (.iconst 0, 1)) rfl ?_
  refine pr_istore_n hC (by decide +kernel : decode cX12_fill 8 = .ok (.istore_n 2, 1)) (by decide) rfl ?_
  obtain ⟨n_32, H⟩ := H
  refine pv_sub [some (.ref (Y.2.1 o)), some (.int 0), some (.int 0)] (And.intro rfl (And.intro rfl (And.intro rfl trivial))) ?_
  refine tl_X12_fill_L9 _ _ _ ho hC hM hR (fun x1_9 U_10 h H hU => ?_) n_32 _ _ U_1 h hU H
  refine pr_iload_n hC (by decide +kernel : decode cX12_fill 44 = .ok (.iload_n 1, 1)) rfl ?_
  refine pr_if_ne hC 50 (by decide +kernel : decode cX12_fill 45 = .ok (.ifCond .ne 5, 3)) (by decide) (fun c_45 => ?_) (fun c_45 => ?_)
  · replace H := H.2 c_45
    refine pr_aload_n hC (by decide +kernel : decode cX12_fill 50 = .ok (.aload_n 0, 1)) rfl ?_
    refine pr_iconst hC (0) (by decide +kernel : decode cX12_fill 51 = .ok (.iconst 0, 1)) rfl ?_
    refine pv_p0 hC fp_X12_489 (by decide +kernel : decode cX12_fill 52 = .ok (.putfield 489, 3)) hU ho (by decide) rfl rfl rfl rfl (fun U_11 h e_U_11 hU => ?_)
    replace H := H U_11 e_U_11
    refine pr_aload_n hC (by decide +kernel : decode cX12_fill 55 = .ok (.aload_n 0, 1)) rfl ?_
    refine pr_iconst hC (0) (by decide +kernel : decode cX12_fill 56 = .ok (.iconst 0, 1)) rfl ?_
    refine vc_Vi hC hR [.int 0] fv_X12_492 (by decide +kernel : decode cX12_fill 57 = .ok (.invokevirtual 492, 3)) hU (t_X12_fills 49 ho H) ho (by decide) rfl rfl rfl (Nat.le_of_ble_eq_true rfl) (Nat.le_of_ble_eq_true rfl) (Nat.le_refl 0) (Nat.le_refl 0) (fun r_13 U_12 h H hU => ?_)
    refine pr_if_eq hC 147 (by decide +kernel : decode cX12_fill 60 = .ok (.ifCond .eq 87, 3)) (by decide) (fun c_60 => ?_) (fun c_60 => ?_)
    · replace H := H.1 c_60
      refine pr_iconst hC (0) (by decide +kernel : decode cX12_fill 147 = .ok (.iconst 0, 1)) rfl ?_
      refine pr_istore_n hC (by decide +kernel : decode cX12_fill 148 = .ok (.istore_n 2, 1)) (by decide) rfl ?_
      obtain ⟨n_17, H⟩ := H
      refine pv_sub [some (.ref (Y.2.1 o)), none, some (.int 0)] (And.intro rfl (And.intro rfl trivial)) ?_
      refine tl_X12_fill_L149 _ _ _ ho hC hM hR (fun U_16 h H hU => ?_) n_17 _ U_12 h hU H
      refine pr_aload_n hC (by decide +kernel : decode cX12_fill 173 = .ok (.aload_n 0, 1)) rfl ?_
      refine pu_g0 hC fg_X12_489 (by decide +kernel : decode cX12_fill 174 = .ok (.getfield 489, 3)) hU ho (by decide) rfl rfl ?_
      refine pr_sipush hC (20000) (by decide +kernel : decode cX12_fill 177 = .ok (.sipush 20000, 3)) rfl ?_
      refine pr_icmp_le hC 188 (by decide +kernel : decode cX12_fill 180 = .ok (.if_icmp .le 8, 3)) (by decide) (fun c_180 => ?_) (fun c_180 => ?_)
      · replace H := H.1 c_180
        refine pr_iconst hC (-1) (by decide +kernel : decode cX12_fill 188 = .ok (.iconst (-1), 1)) rfl ?_
        exact pv_iret hM (by decide +kernel : decode cX12_fill 189 = .ok (.ireturn, 1)) hU H
      replace H := H.2 c_180
      refine pr_bipush hC (-2) (by decide +kernel : decode cX12_fill 183 = .ok (.bipush (-2), 2)) rfl ?_
      refine pr_goto hC 189 (by decide +kernel : decode cX12_fill 185 = .ok (.goto 4, 3)) (by decide) ?_
      exact pv_iret hM (by decide +kernel : decode cX12_fill 189 = .ok (.ireturn, 1)) hU H
    replace H := H.2 c_60
    refine pr_iconst hC (0) (by decide +kernel : decode cX12_fill 63 = .ok (.iconst 0, 1)) rfl ?_
    refine pr_istore_n hC (by decide +kernel : decode cX12_fill 64 = .ok (.istore_n 2, 1)) (by decide) rfl ?_
    obtain ⟨n_31, H⟩ := H
    refine pv_sub [some (.ref (Y.2.1 o)), some (.int x1_9), some (.int 0)] (And.intro rfl (And.intro rfl (And.intro rfl trivial))) ?_
    refine tl_X12_fill_L65 _ _ _ _ ho hC hM hR (fun U_20 h H hU => ?_) n_31 _ U_12 h hU H
    refine pr_iconst hC (0) (by decide +kernel : decode cX12_fill 89 = .ok (.iconst 0, 1)) rfl ?_
    refine pr_istore_n hC (by decide +kernel : decode cX12_fill 90 = .ok (.istore_n 2, 1)) (by decide) rfl ?_
    obtain ⟨n_30, H⟩ := H
    refine pv_sub [some (.ref (Y.2.1 o)), some (.int x1_9), some (.int 0)] (And.intro rfl (And.intro rfl (And.intro rfl trivial))) ?_
    refine tl_X12_fill_L91 _ _ _ _ ho hC hM hR (fun U_23 h H hU => ?_) n_30 _ U_20 h hU H
    refine pr_aload_n hC (by decide +kernel : decode cX12_fill 115 = .ok (.aload_n 0, 1)) rfl ?_
    refine vc_Vv hC hR [] fv_X12_430 (by decide +kernel : decode cX12_fill 116 = .ok (.invokevirtual 430, 3)) hU (t_X12_keeps ho H) ho (by decide) rfl rfl rfl (Nat.le_of_ble_eq_true rfl) (Nat.le_of_ble_eq_true rfl) (Nat.le_refl 0) (Nat.le_refl 0) (fun U_24 h H hU => ?_)
    refine pr_iconst hC (0) (by decide +kernel : decode cX12_fill 119 = .ok (.iconst 0, 1)) rfl ?_
    refine pr_istore_n hC (by decide +kernel : decode cX12_fill 120 = .ok (.istore_n 2, 1)) (by decide) rfl ?_
    obtain ⟨n_29, H⟩ := H
    refine pv_sub [some (.ref (Y.2.1 o)), some (.int x1_9), some (.int 0)] (And.intro rfl (And.intro rfl (And.intro rfl trivial))) ?_
    refine tl_X12_fill_L121 _ _ _ _ ho hC hM hR (fun U_28 h H hU => ?_) n_29 _ U_24 h hU H
    refine pr_iload_n hC (by decide +kernel : decode cX12_fill 145 = .ok (.iload_n 1, 1)) rfl ?_
    exact pv_iret hM (by decide +kernel : decode cX12_fill 146 = .ok (.ireturn, 1)) hU H
  replace H := H.1 c_45
  refine pr_iconst hC (0) (by decide +kernel : decode cX12_fill 48 = .ok (.iconst 0, 1)) rfl ?_
  exact pv_iret hM (by decide +kernel : decode cX12_fill 49 = .ok (.ireturn, 1)) hU H
def b_X12_findsFollower_L44 (o0 : Nat) (x1 : Int32) (x2 : Int32) (x3 : Int32) (x4 : Int32) (x5 : Int32) (post : Int32 → Um → Prop) (k_89 : Int32 → Um → Prop) (rec_ : Int32 → Int32 → Um → Prop) (x6 : Int32) (x7 : Int32) (U : Um) : Prop :=
  (x7 < 0 → k_89 x6 U) ∧ (¬ x7 < 0 → (x7 = x3 → ∀ (x7_8 : Int32), x7_8 = x7 + (-1) → rec_ x6 x7_8 U) ∧ (¬ x7 = x3 → (x7 = x4 → ∀ (x7_9 : Int32), x7_9 = x7 + (-1) → rec_ x6 x7_9 U) ∧ (¬ x7 = x4 → w_X12_whyNot o0 (x5 / 3) (x5 - x5 / 3 * 3) x7 U (fun r_11 U_10 => (r_11 = 0 → ∀ (x6_12 : Int32), x6_12 = x7 → ∀ (x7_13 : Int32), x7_13 = x7 + (-1) → rec_ x6_12 x7_13 U_10) ∧ (¬ r_11 = 0 → ∀ (x7_14 : Int32), x7_14 = x7 + (-1) → rec_ x6 x7_14 U_10)))))
def w_X12_findsFollower_L44 (o0 : Nat) (x1 : Int32) (x2 : Int32) (x3 : Int32) (x4 : Int32) (x5 : Int32) (post : Int32 → Um → Prop) (k_89 : Int32 → Um → Prop) (n_ : Nat) : Int32 → Int32 → Um → Prop := Nat.rec (motive := fun _ => Int32 → Int32 → Um → Prop) (fun _ _ _ => False) (fun _ ih => b_X12_findsFollower_L44 o0 x1 x2 x3 x4 x5 post k_89 ih) n_
def w_X12_findsFollower (o : Nat) (a1 : Int32) (a2 : Int32) (a3 : Int32) (a4 : Int32) (a5 : Int32) (U : Um) (post : Int32 → Um → Prop) : Prop :=
  vp_in a5 48 ∧ ∀ (U_1 : Um), U_1 = sA U o 30 (va_up (uA U o 30) (Int32.toNatClampNeg a5) (-1)) → w_X12_whyNot o a1 a2 a4 U_1 (fun r_3 U_2 => (r_3 = 0 → w_X12_at a1 a2 U_2 (fun r_5 U_4 => vp_in r_5 48 ∧ ∀ (U_6 : Um), U_6 = sA U_4 o 30 (va_up (uA U_4 o 30) (Int32.toNatClampNeg r_5) a4) → vp_in 2 14 ∧ ∀ (x7_7 : Int32), x7_7 = (uA U_6 o 11 (Int32.toNatClampNeg 2)) - 1 → (∃ n_22, w_X12_findsFollower_L44 o a1 a2 a3 a4 a5 post (fun x6_15 U_16 => w_X12_at a1 a2 U_16 (fun r_18 U_17 => vp_in r_18 48 ∧ ∀ (U_19 : Um), U_19 = sA U_17 o 30 (va_up (uA U_17 o 30) (Int32.toNatClampNeg r_18) (-1)) → vp_in a5 48 ∧ ∀ (U_20 : Um), U_20 = sA U_19 o 30 (va_up (uA U_19 o 30) (Int32.toNatClampNeg a5) a4) → vp_in 4 5 ∧ ∀ (U_21 : Um), U_21 = sA U_20 o 48 (va_up (uA U_20 o 48) (Int32.toNatClampNeg 4) x6_15) → (x6_15 = (-1) → post 0 U_21) ∧ (¬ x6_15 = (-1) → post 1 U_21))) n_22 (-1) x7_7 U_6))) ∧ (¬ r_3 = 0 → vp_in a5 48 ∧ ∀ (U_23 : Um), U_23 = sA U_2 o 30 (va_up (uA U_2 o 30) (Int32.toNatClampNeg a5) a4) → vp_in 4 5 ∧ ∀ (U_24 : Um), U_24 = sA U_23 o 48 (va_up (uA U_23 o 48) (Int32.toNatClampNeg 4) (-1)) → (((-1) : Int32) = (-1) → post 0 U_24) ∧ (¬ ((-1) : Int32) = (-1) → post 1 U_24)))
set_option maxHeartbeats 4000000 in
theorem tl_X12_findsFollower_L44 {l : Launch} {Y : px_Y} {X : px_X} {h0 hh : pe_H} {sz : Nat} (o0 : Nat) (x1 : Int32) (x2 : Int32) (x3 : Int32) (x4 : Int32) (x5 : Int32) (post : Int32 → Um → Prop) (k_89 : Int32 → Um → Prop) (ho0 : oc o0 = 10)  (hC : px_C X Y.1 (pm_A hh sz) cX12_findsFollower RX12 8) (hM : px_M l X Y.1 hh sz yX12_findsFollower cX12_findsFollower 8 (some (.boolean)) 4 0 0) (hR : X.2.2.2.1 = pm_rm 4 0 0) (hk_89 : ∀ (y6 : Int32) (U : Um) (h : pe_H), k_89 y6 U → rF Y h0 U h → pw X Y.1 (pm_A hh sz) (pm_E X Y.1 hh sz 0 0 (pm_P Y h0 sz (pq_i post))) 89 [some (.ref (Y.2.1 o0)), some (.int x1), some (.int x2), none, some (.int x4), some (.int x5), some (.int y6), none] [] h sz 0 0) : ∀ (n_ : Nat) (x6 : Int32) (x7 : Int32) (U : Um) (h : pe_H), rF Y h0 U h → w_X12_findsFollower_L44 o0 x1 x2 x3 x4 x5 post k_89 n_ x6 x7 U → pw X Y.1 (pm_A hh sz) (pm_E X Y.1 hh sz 0 0 (pm_P Y h0 sz (pq_i post))) 44 [some (.ref (Y.2.1 o0)), some (.int x1), some (.int x2), some (.int x3), some (.int x4), some (.int x5), some (.int x6), some (.int x7)] [] h sz 0 0 := by
  intro n_
  induction n_ with
  | zero => intro x6 x7 U h hU H; exact False.elim H
  | succ n_ ih =>
    intro x6 x7 U h hU H
    replace H : b_X12_findsFollower_L44 o0 x1 x2 x3 x4 x5 post k_89 (w_X12_findsFollower_L44 o0 x1 x2 x3 x4 x5 post k_89 n_) x6 x7 U := H
    unfold b_X12_findsFollower_L44 at H
    refine pr_iload hC (by decide +kernel : decode cX12_findsFollower 44 = .ok (.iload 7, 2)) rfl ?_
    refine pr_if_lt hC 89 (by decide +kernel : decode cX12_findsFollower 46 = .ok (.ifCond .lt 43, 3)) (by decide) (fun c_46 => ?_) (fun c_46 => ?_)
    · replace H := H.1 c_46
      exact pv_sub [some (.ref (Y.2.1 o0)), some (.int x1), some (.int x2), none, some (.int x4), some (.int x5), some (.int x6), none] (And.intro rfl (And.intro rfl (And.intro rfl (And.intro rfl (And.intro rfl (And.intro rfl trivial)))))) (hk_89 _ U h H hU)
    replace H := H.2 c_46
    refine pr_iload hC (by decide +kernel : decode cX12_findsFollower 49 = .ok (.iload 7, 2)) rfl ?_
    refine pr_iload_n hC (by decide +kernel : decode cX12_findsFollower 51 = .ok (.iload_n 3, 1)) rfl ?_
    refine pr_icmp_eq hC 83 (by decide +kernel : decode cX12_findsFollower 52 = .ok (.if_icmp .eq 31, 3)) (by decide) (fun c_52 => ?_) (fun c_52 => ?_)
    · replace H := H.1 c_52
      refine pv_iinc hC (v := x7 + (-1)) (by decide +kernel : decode cX12_findsFollower 83 = .ok (.iinc 7 (-1), 3)) rfl (by decide) rfl rfl (fun x7_8 e_x7_8 => ?_)
      replace H := H x7_8 e_x7_8
      refine pr_goto hC 44 (by decide +kernel : decode cX12_findsFollower 86 = .ok (.goto (-42), 3)) (by decide) ?_
      exact pv_sub [some (.ref (Y.2.1 o0)), some (.int x1), some (.int x2), some (.int x3), some (.int x4), some (.int x5), some (.int x6), some (.int x7_8)] (And.intro rfl (And.intro rfl (And.intro rfl (And.intro rfl (And.intro rfl (And.intro rfl (And.intro rfl (And.intro rfl trivial)))))))) (ih _ _ U h hU H)
    replace H := H.2 c_52
    refine pr_iload hC (by decide +kernel : decode cX12_findsFollower 55 = .ok (.iload 7, 2)) rfl ?_
    refine pr_iload hC (by decide +kernel : decode cX12_findsFollower 57 = .ok (.iload 4, 2)) rfl ?_
    refine pr_icmp_eq hC 83 (by decide +kernel : decode cX12_findsFollower 59 = .ok (.if_icmp .eq 24, 3)) (by decide) (fun c_59 => ?_) (fun c_59 => ?_)
    · replace H := H.1 c_59
      refine pv_iinc hC (v := x7 + (-1)) (by decide +kernel : decode cX12_findsFollower 83 = .ok (.iinc 7 (-1), 3)) rfl (by decide) rfl rfl (fun x7_9 e_x7_9 => ?_)
      replace H := H x7_9 e_x7_9
      refine pr_goto hC 44 (by decide +kernel : decode cX12_findsFollower 86 = .ok (.goto (-42), 3)) (by decide) ?_
      exact pv_sub [some (.ref (Y.2.1 o0)), some (.int x1), some (.int x2), some (.int x3), some (.int x4), some (.int x5), some (.int x6), some (.int x7_9)] (And.intro rfl (And.intro rfl (And.intro rfl (And.intro rfl (And.intro rfl (And.intro rfl (And.intro rfl (And.intro rfl trivial)))))))) (ih _ _ U h hU H)
    replace H := H.2 c_59
    refine pr_aload_n hC (by decide +kernel : decode cX12_findsFollower 62 = .ok (.aload_n 0, 1)) rfl ?_
    refine pr_iload hC (by decide +kernel : decode cX12_findsFollower 63 = .ok (.iload 5, 2)) rfl ?_
    refine pr_iconst hC (3) (by decide +kernel : decode cX12_findsFollower 65 = .ok (.iconst 3, 1)) rfl ?_
    refine pr_idiv hC (by decide +kernel : decode cX12_findsFollower 66 = .ok (.idiv, 1)) (by decide) ?_
    refine pr_iload hC (by decide +kernel : decode cX12_findsFollower 67 = .ok (.iload 5, 2)) rfl ?_
    refine pr_iconst hC (3) (by decide +kernel : decode cX12_findsFollower 69 = .ok (.iconst 3, 1)) rfl ?_
    refine pr_irem hC (by decide +kernel : decode cX12_findsFollower 70 = .ok (.irem, 1)) (by decide) ?_
    refine pr_iload hC (by decide +kernel : decode cX12_findsFollower 71 = .ok (.iload 7, 2)) rfl ?_
    refine vc_Vi hC hR [.int (x5 / 3), .int (x5 - x5 / 3 * 3), .int x7] fv_X12_423 (by decide +kernel : decode cX12_findsFollower 73 = .ok (.invokevirtual 423, 3)) hU (t_X12_whyNot ho0 H) ho0 (by decide) rfl rfl rfl (Nat.le_of_ble_eq_true rfl) (Nat.le_of_ble_eq_true rfl) (Nat.le_refl 0) (Nat.le_refl 0) (fun r_11 U_10 h H hU => ?_)
    refine pr_if_ne hC 83 (by decide +kernel : decode cX12_findsFollower 76 = .ok (.ifCond .ne 7, 3)) (by decide) (fun c_76 => ?_) (fun c_76 => ?_)
    · replace H := H.2 c_76
      refine pv_iinc hC (v := x7 + (-1)) (by decide +kernel : decode cX12_findsFollower 83 = .ok (.iinc 7 (-1), 3)) rfl (by decide) rfl rfl (fun x7_14 e_x7_14 => ?_)
      replace H := H x7_14 e_x7_14
      refine pr_goto hC 44 (by decide +kernel : decode cX12_findsFollower 86 = .ok (.goto (-42), 3)) (by decide) ?_
      exact pv_sub [some (.ref (Y.2.1 o0)), some (.int x1), some (.int x2), some (.int x3), some (.int x4), some (.int x5), some (.int x6), some (.int x7_14)] (And.intro rfl (And.intro rfl (And.intro rfl (And.intro rfl (And.intro rfl (And.intro rfl (And.intro rfl (And.intro rfl trivial)))))))) (ih _ _ U_10 h hU H)
    replace H := H.1 c_76
    refine pr_iload hC (by decide +kernel : decode cX12_findsFollower 79 = .ok (.iload 7, 2)) rfl ?_
    refine pv_topi (fun x6_12 e_x6_12 => ?_)
    replace H := H x6_12 e_x6_12
    refine pr_istore hC (by decide +kernel : decode cX12_findsFollower 81 = .ok (.istore 6, 2)) (by decide) rfl ?_
    refine pv_iinc hC (v := x7 + (-1)) (by decide +kernel : decode cX12_findsFollower 83 = .ok (.iinc 7 (-1), 3)) rfl (by decide) rfl rfl (fun x7_13 e_x7_13 => ?_)
    replace H := H x7_13 e_x7_13
    refine pr_goto hC 44 (by decide +kernel : decode cX12_findsFollower 86 = .ok (.goto (-42), 3)) (by decide) ?_
    exact pv_sub [some (.ref (Y.2.1 o0)), some (.int x1), some (.int x2), some (.int x3), some (.int x4), some (.int x5), some (.int x6_12), some (.int x7_13)] (And.intro rfl (And.intro rfl (And.intro rfl (And.intro rfl (And.intro rfl (And.intro rfl (And.intro rfl (And.intro rfl trivial)))))))) (ih _ _ U_10 h hU H)
set_option maxHeartbeats 4000000 in
theorem t_X12_findsFollower {l : Launch} {Y : px_Y} {o : Nat} {a1 : Int32} {a2 : Int32} {a3 : Int32} {a4 : Int32} {a5 : Int32} {U : Um} {post : Int32 → Um → Prop} (ho : oc o = 10) (H : w_X12_findsFollower o a1 a2 a3 a4 a5 U post) : um l Y 4 yX12_findsFollower cX12_findsFollower 8 (some (.boolean)) [.ref (Y.2.1 o), .int a1, .int a2, .int a3, .int a4, .int a5] U (pq_i post) := by
  unfold w_X12_findsFollower at H
  refine um_of (by decide) (Nat.le_of_ble_eq_true rfl) [some (.ref (Y.2.1 o)), some (.int a1), some (.int a2), some (.int a3), some (.int a4), some (.int a5), none, none] rfl (fun X h0 hh sz hM hU => ?_)
  have hC := hM.1
  have hR := hM.2.2.1
  refine pr_aload_n hC (by decide +kernel : decode cX12_findsFollower 0 = .ok (.aload_n 0, 1)) rfl ?_
  refine pu_g1 hC fg_X12_59 (by decide +kernel : decode cX12_findsFollower 1 = .ok (.getfield 59, 3)) hU ho (by decide) rfl (by decide) ?_
  refine pr_iload hC (by decide +kernel : decode cX12_findsFollower 4 = .ok (.iload 5, 2)) rfl ?_
  refine pr_iconst hC (-1) (by decide +kernel : decode cX12_findsFollower 6 = .ok (.iconst (-1), 1)) rfl ?_
  refine pv_iast hC (by decide +kernel : decode cX12_findsFollower 7 = .ok (.iastore, 1)) hU ho rfl H.1 (fun U_1 h e_U_1 hU => ?_)
  replace H := H.2 U_1 e_U_1
  refine pr_iconst hC (-1) (by decide +kernel : decode cX12_findsFollower 8 = .ok (.iconst (-1), 1)) rfl ?_
  refine pr_istore hC (by decide +kernel : decode cX12_findsFollower 9 = .ok (.istore 6, 2)) (by decide) rfl ?_
  refine pr_aload_n hC (by decide +kernel : decode cX12_findsFollower 11 = .ok (.aload_n 0, 1)) rfl ?_
  refine pr_iload_n hC (by decide +kernel : decode cX12_findsFollower 12 = .ok (.iload_n 1, 1)) rfl ?_
  refine pr_iload_n hC (by decide +kernel : decode cX12_findsFollower 13 = .ok (.iload_n 2, 1)) rfl ?_
  refine pr_iload hC (by decide +kernel : decode cX12_findsFollower 14 = .ok (.iload 4, 2)) rfl ?_
  refine vc_Vi hC hR [.int a1, .int a2, .int a4] fv_X12_423 (by decide +kernel : decode cX12_findsFollower 16 = .ok (.invokevirtual 423, 3)) hU (t_X12_whyNot ho H) ho (by decide) rfl rfl rfl (Nat.le_of_ble_eq_true rfl) (Nat.le_of_ble_eq_true rfl) (Nat.le_refl 0) (Nat.le_refl 0) (fun r_3 U_2 h H hU => ?_)
  refine pr_if_ne hC 100 (by decide +kernel : decode cX12_findsFollower 19 = .ok (.ifCond .ne 81, 3)) (by decide) (fun c_19 => ?_) (fun c_19 => ?_)
  · replace H := H.2 c_19
    refine pr_aload_n hC (by decide +kernel : decode cX12_findsFollower 100 = .ok (.aload_n 0, 1)) rfl ?_
    refine pu_g1 hC fg_X12_59 (by decide +kernel : decode cX12_findsFollower 101 = .ok (.getfield 59, 3)) hU ho (by decide) rfl (by decide) ?_
    refine pr_iload hC (by decide +kernel : decode cX12_findsFollower 104 = .ok (.iload 5, 2)) rfl ?_
    refine pr_iload hC (by decide +kernel : decode cX12_findsFollower 106 = .ok (.iload 4, 2)) rfl ?_
    refine pv_iast hC (by decide +kernel : decode cX12_findsFollower 108 = .ok (.iastore, 1)) hU ho rfl H.1 (fun U_23 h e_U_23 hU => ?_)
    replace H := H.2 U_23 e_U_23
    refine pr_aload_n hC (by decide +kernel : decode cX12_findsFollower 109 = .ok (.aload_n 0, 1)) rfl ?_
    refine pu_g1 hC fg_X12_102 (by decide +kernel : decode cX12_findsFollower 110 = .ok (.getfield 102, 3)) hU ho (by decide) rfl (by decide) ?_
    refine pr_iconst hC (4) (by decide +kernel : decode cX12_findsFollower 113 = .ok (.iconst 4, 1)) rfl ?_
    refine pr_iload hC (by decide +kernel : decode cX12_findsFollower 114 = .ok (.iload 6, 2)) rfl ?_
    refine pv_iast hC (by decide +kernel : decode cX12_findsFollower 116 = .ok (.iastore, 1)) hU ho rfl H.1 (fun U_24 h e_U_24 hU => ?_)
    replace H := H.2 U_24 e_U_24
    refine pr_iload hC (by decide +kernel : decode cX12_findsFollower 117 = .ok (.iload 6, 2)) rfl ?_
    refine pr_iconst hC (-1) (by decide +kernel : decode cX12_findsFollower 119 = .ok (.iconst (-1), 1)) rfl ?_
    refine pr_icmp_eq hC 127 (by decide +kernel : decode cX12_findsFollower 120 = .ok (.if_icmp .eq 7, 3)) (by decide) (fun c_120 => ?_) (fun c_120 => ?_)
    · replace H := H.1 c_120
      refine pr_iconst hC (0) (by decide +kernel : decode cX12_findsFollower 127 = .ok (.iconst 0, 1)) rfl ?_
      exact pv_zret hM (by decide +kernel : decode cX12_findsFollower 128 = .ok (.ireturn, 1)) (Or.inl rfl) hU H
    replace H := H.2 c_120
    refine pr_iconst hC (1) (by decide +kernel : decode cX12_findsFollower 123 = .ok (.iconst 1, 1)) rfl ?_
    refine pr_goto hC 128 (by decide +kernel : decode cX12_findsFollower 124 = .ok (.goto 4, 3)) (by decide) ?_
    exact pv_zret hM (by decide +kernel : decode cX12_findsFollower 128 = .ok (.ireturn, 1)) (Or.inr rfl) hU H
  replace H := H.1 c_19
  refine pr_aload_n hC (by decide +kernel : decode cX12_findsFollower 22 = .ok (.aload_n 0, 1)) rfl ?_
  refine pu_g1 hC fg_X12_59 (by decide +kernel : decode cX12_findsFollower 23 = .ok (.getfield 59, 3)) hU ho (by decide) rfl (by decide) ?_
  refine pr_iload_n hC (by decide +kernel : decode cX12_findsFollower 26 = .ok (.iload_n 1, 1)) rfl ?_
  refine pr_iload_n hC (by decide +kernel : decode cX12_findsFollower 27 = .ok (.iload_n 2, 1)) rfl ?_
  refine vc_Si hC hR [.int a1, .int a2] fv_X12_360 (by decide +kernel : decode cX12_findsFollower 28 = .ok (.invokestatic 360, 3)) hU (t_X12_at  H) rfl rfl (Nat.le_of_ble_eq_true rfl) (Nat.le_of_ble_eq_true rfl) (Nat.le_refl 0) (Nat.le_refl 0) (fun r_5 U_4 h H hU => ?_)
  refine pr_iload hC (by decide +kernel : decode cX12_findsFollower 31 = .ok (.iload 4, 2)) rfl ?_
  refine pv_iast hC (by decide +kernel : decode cX12_findsFollower 33 = .ok (.iastore, 1)) hU ho rfl H.1 (fun U_6 h e_U_6 hU => ?_)
  replace H := H.2 U_6 e_U_6
  refine pr_aload_n hC (by decide +kernel : decode cX12_findsFollower 34 = .ok (.aload_n 0, 1)) rfl ?_
  refine pu_g1 hC fg_X12_43 (by decide +kernel : decode cX12_findsFollower 35 = .ok (.getfield 43, 3)) hU ho (by decide) rfl (by decide) ?_
  refine pr_iconst hC (2) (by decide +kernel : decode cX12_findsFollower 38 = .ok (.iconst 2, 1)) rfl ?_
  refine pu_iald hC (by decide +kernel : decode cX12_findsFollower 39 = .ok (.iaload, 1)) hU ho rfl H.1 ?_
  replace H := H.2
  refine pr_iconst hC (1) (by decide +kernel : decode cX12_findsFollower 40 = .ok (.iconst 1, 1)) rfl ?_
  refine pr_isub hC (by decide +kernel : decode cX12_findsFollower 41 = .ok (.isub, 1)) ?_
  refine pv_topi (fun x7_7 e_x7_7 => ?_)
  replace H := H x7_7 e_x7_7
  refine pr_istore hC (by decide +kernel : decode cX12_findsFollower 42 = .ok (.istore 7, 2)) (by decide) rfl ?_
  obtain ⟨n_22, H⟩ := H
  refine pv_sub [some (.ref (Y.2.1 o)), some (.int a1), some (.int a2), some (.int a3), some (.int a4), some (.int a5), some (.int (-1)), some (.int x7_7)] (And.intro rfl (And.intro rfl (And.intro rfl (And.intro rfl (And.intro rfl (And.intro rfl (And.intro rfl (And.intro rfl trivial)))))))) ?_
  refine tl_X12_findsFollower_L44 _ _ _ _ _ _ _ _ ho hC hM hR (fun x6_15 U_16 h H hU => ?_) n_22 _ _ U_6 h hU H
  refine pr_aload_n hC (by decide +kernel : decode cX12_findsFollower 89 = .ok (.aload_n 0, 1)) rfl ?_
  refine pu_g1 hC fg_X12_59 (by decide +kernel : decode cX12_findsFollower 90 = .ok (.getfield 59, 3)) hU ho (by decide) rfl (by decide) ?_
  refine pr_iload_n hC (by decide +kernel : decode cX12_findsFollower 93 = .ok (.iload_n 1, 1)) rfl ?_
  refine pr_iload_n hC (by decide +kernel : decode cX12_findsFollower 94 = .ok (.iload_n 2, 1)) rfl ?_
  refine vc_Si hC hR [.int a1, .int a2] fv_X12_360 (by decide +kernel : decode cX12_findsFollower 95 = .ok (.invokestatic 360, 3)) hU (t_X12_at  H) rfl rfl (Nat.le_of_ble_eq_true rfl) (Nat.le_of_ble_eq_true rfl) (Nat.le_refl 0) (Nat.le_refl 0) (fun r_18 U_17 h H hU => ?_)
  refine pr_iconst hC (-1) (by decide +kernel : decode cX12_findsFollower 98 = .ok (.iconst (-1), 1)) rfl ?_
  refine pv_iast hC (by decide +kernel : decode cX12_findsFollower 99 = .ok (.iastore, 1)) hU ho rfl H.1 (fun U_19 h e_U_19 hU => ?_)
  replace H := H.2 U_19 e_U_19
  refine pr_aload_n hC (by decide +kernel : decode cX12_findsFollower 100 = .ok (.aload_n 0, 1)) rfl ?_
  refine pu_g1 hC fg_X12_59 (by decide +kernel : decode cX12_findsFollower 101 = .ok (.getfield 59, 3)) hU ho (by decide) rfl (by decide) ?_
  refine pr_iload hC (by decide +kernel : decode cX12_findsFollower 104 = .ok (.iload 5, 2)) rfl ?_
  refine pr_iload hC (by decide +kernel : decode cX12_findsFollower 106 = .ok (.iload 4, 2)) rfl ?_
  refine pv_iast hC (by decide +kernel : decode cX12_findsFollower 108 = .ok (.iastore, 1)) hU ho rfl H.1 (fun U_20 h e_U_20 hU => ?_)
  replace H := H.2 U_20 e_U_20
  refine pr_aload_n hC (by decide +kernel : decode cX12_findsFollower 109 = .ok (.aload_n 0, 1)) rfl ?_
  refine pu_g1 hC fg_X12_102 (by decide +kernel : decode cX12_findsFollower 110 = .ok (.getfield 102, 3)) hU ho (by decide) rfl (by decide) ?_
  refine pr_iconst hC (4) (by decide +kernel : decode cX12_findsFollower 113 = .ok (.iconst 4, 1)) rfl ?_
  refine pr_iload hC (by decide +kernel : decode cX12_findsFollower 114 = .ok (.iload 6, 2)) rfl ?_
  refine pv_iast hC (by decide +kernel : decode cX12_findsFollower 116 = .ok (.iastore, 1)) hU ho rfl H.1 (fun U_21 h e_U_21 hU => ?_)
  replace H := H.2 U_21 e_U_21
  refine pr_iload hC (by decide +kernel : decode cX12_findsFollower 117 = .ok (.iload 6, 2)) rfl ?_
  refine pr_iconst hC (-1) (by decide +kernel : decode cX12_findsFollower 119 = .ok (.iconst (-1), 1)) rfl ?_
  refine pr_icmp_eq hC 127 (by decide +kernel : decode cX12_findsFollower 120 = .ok (.if_icmp .eq 7, 3)) (by decide) (fun c_120 => ?_) (fun c_120 => ?_)
  · replace H := H.1 c_120
    refine pr_iconst hC (0) (by decide +kernel : decode cX12_findsFollower 127 = .ok (.iconst 0, 1)) rfl ?_
    exact pv_zret hM (by decide +kernel : decode cX12_findsFollower 128 = .ok (.ireturn, 1)) (Or.inl rfl) hU H
  replace H := H.2 c_120
  refine pr_iconst hC (1) (by decide +kernel : decode cX12_findsFollower 123 = .ok (.iconst 1, 1)) rfl ?_
  refine pr_goto hC 128 (by decide +kernel : decode cX12_findsFollower 124 = .ok (.goto 4, 3)) (by decide) ?_
  exact pv_zret hM (by decide +kernel : decode cX12_findsFollower 128 = .ok (.ireturn, 1)) (Or.inr rfl) hU H
def b_X12_findsStep_L3 (o0 : Nat) (x1 : Int32) (x2 : Int32) (x3 : Int32) (post : Int32 → Um → Prop) (k_23 : Um → Prop) (rec_ : Int32 → Um → Prop) (x4 : Int32) (U : Um) : Prop :=
  ((5 : Int32) ≤ x4 → k_23 U) ∧ (¬ (5 : Int32) ≤ x4 → vp_in x4 5 ∧ ∀ (U_1 : Um), U_1 = sA U o0 48 (va_up (uA U o0 48) (Int32.toNatClampNeg x4) (-1)) → ∀ (x4_2 : Int32), x4_2 = x4 + 1 → rec_ x4_2 U_1)
def w_X12_findsStep_L3 (o0 : Nat) (x1 : Int32) (x2 : Int32) (x3 : Int32) (post : Int32 → Um → Prop) (k_23 : Um → Prop) (n_ : Nat) : Int32 → Um → Prop := Nat.rec (motive := fun _ => Int32 → Um → Prop) (fun _ _ => False) (fun _ ih => b_X12_findsStep_L3 o0 x1 x2 x3 post k_23 ih) n_
def b_X12_findsStep_L26 (o0 : Nat) (x1 : Int32) (x2 : Int32) (x3 : Int32) (post : Int32 → Um → Prop) (k_57 : Int32 → Um → Prop) (k_80 : Um → Prop) (rec_ : Int32 → Um → Prop) (x4 : Int32) (U : Um) : Prop :=
  vp_in 2 14 ∧ ((uA U o0 11 (Int32.toNatClampNeg 2)) ≤ x4 → k_80 U) ∧ (¬ (uA U o0 11 (Int32.toNatClampNeg 2)) ≤ x4 → (x4 = x3 → ∀ (x4_4 : Int32), x4_4 = x4 + 1 → rec_ x4_4 U) ∧ (¬ x4 = x3 → w_X12_whyNot o0 x1 x2 x4 U (fun r_6 U_5 => (r_6 = 0 → k_57 x4 U_5) ∧ (¬ r_6 = 0 → ∀ (x4_7 : Int32), x4_7 = x4 + 1 → rec_ x4_7 U_5))))
def w_X12_findsStep_L26 (o0 : Nat) (x1 : Int32) (x2 : Int32) (x3 : Int32) (post : Int32 → Um → Prop) (k_57 : Int32 → Um → Prop) (k_80 : Um → Prop) (n_ : Nat) : Int32 → Um → Prop := Nat.rec (motive := fun _ => Int32 → Um → Prop) (fun _ _ => False) (fun _ ih => b_X12_findsStep_L26 o0 x1 x2 x3 post k_57 k_80 ih) n_
def b_X12_findsStep_L97 (o0 : Nat) (x1 : Int32) (x2 : Int32) (x3 : Int32) (x4 : Int32) (post : Int32 → Um → Prop) (k_158 : Int32 → Um → Prop) (k_201 : Um → Prop) (rec_ : Int32 → Um → Prop) (x5 : Int32) (U : Um) : Prop :=
  ((48 : Int32) ≤ x5 → k_201 U) ∧ (¬ (48 : Int32) ≤ x5 → (x4 = x3 → k_201 U) ∧ (¬ x4 = x3 → vp_in x5 48 ∧ ((uA U o0 30 (Int32.toNatClampNeg x5)) = x4 → ((x5 / 3) = x1 → ∀ (x5_13 : Int32), x5_13 = x5 + 1 → rec_ x5_13 U) ∧ (¬ (x5 / 3) = x1 → w_X12_isPlayed o0 (x5 / 3) U (fun r_15 U_14 => (r_15 = 0 → w_X12_findsFollower o0 x1 x2 x3 x4 x5 U_14 (fun r_17 U_16 => (r_17 = 0 → ∀ (x5_18 : Int32), x5_18 = x5 + 1 → rec_ x5_18 U_16) ∧ (¬ r_17 = 0 → k_158 x5 U_16))) ∧ (¬ r_15 = 0 → ∀ (x5_19 : Int32), x5_19 = x5 + 1 → rec_ x5_19 U_14)))) ∧ (¬ (uA U o0 30 (Int32.toNatClampNeg x5)) = x4 → ∀ (x5_20 : Int32), x5_20 = x5 + 1 → rec_ x5_20 U)))
def w_X12_findsStep_L97 (o0 : Nat) (x1 : Int32) (x2 : Int32) (x3 : Int32) (x4 : Int32) (post : Int32 → Um → Prop) (k_158 : Int32 → Um → Prop) (k_201 : Um → Prop) (n_ : Nat) : Int32 → Um → Prop := Nat.rec (motive := fun _ => Int32 → Um → Prop) (fun _ _ => False) (fun _ ih => b_X12_findsStep_L97 o0 x1 x2 x3 x4 post k_158 k_201 ih) n_
def b_X12_findsStep_L83 (o0 : Nat) (x1 : Int32) (x2 : Int32) (x3 : Int32) (post : Int32 → Um → Prop) (k_158 : Int32 → Int32 → Um → Prop) (rec_ : Int32 → Um → Prop) (x4 : Int32) (U : Um) : Prop :=
  vp_in 2 14 ∧ ((uA U o0 11 (Int32.toNatClampNeg 2)) ≤ x4 → post 0 U) ∧ (¬ (uA U o0 11 (Int32.toNatClampNeg 2)) ≤ x4 → (∃ n_25, w_X12_findsStep_L97 o0 x1 x2 x3 x4 post (fun x5_21 U_22 => k_158 x4 x5_21 U_22) (fun U_23 => ∀ (x4_24 : Int32), x4_24 = x4 + 1 → rec_ x4_24 U_23) n_25 0 U))
def w_X12_findsStep_L83 (o0 : Nat) (x1 : Int32) (x2 : Int32) (x3 : Int32) (post : Int32 → Um → Prop) (k_158 : Int32 → Int32 → Um → Prop) (n_ : Nat) : Int32 → Um → Prop := Nat.rec (motive := fun _ => Int32 → Um → Prop) (fun _ _ => False) (fun _ ih => b_X12_findsStep_L83 o0 x1 x2 x3 post k_158 ih) n_
def w_X12_findsStep (o : Nat) (a1 : Int32) (a2 : Int32) (a3 : Int32) (U : Um) (post : Int32 → Um → Prop) : Prop :=
  (∃ n_35, w_X12_findsStep_L3 o a1 a2 a3 post (fun U_3 => (∃ n_34, w_X12_findsStep_L26 o a1 a2 a3 post (fun x4_8 U_9 => vp_in 0 5 ∧ ∀ (U_10 : Um), U_10 = sA U_9 o 48 (va_up (uA U_9 o 48) (Int32.toNatClampNeg 0) 1) → vp_in 1 5 ∧ ∀ (U_11 : Um), U_11 = sA U_10 o 48 (va_up (uA U_10 o 48) (Int32.toNatClampNeg 1) x4_8) → post 1 U_11) (fun U_12 => (∃ n_33, w_X12_findsStep_L83 o a1 a2 a3 post (fun x4_26 x5_27 U_28 => vp_in 0 5 ∧ ∀ (U_29 : Um), U_29 = sA U_28 o 48 (va_up (uA U_28 o 48) (Int32.toNatClampNeg 0) 2) → vp_in 1 5 ∧ ∀ (U_30 : Um), U_30 = sA U_29 o 48 (va_up (uA U_29 o 48) (Int32.toNatClampNeg 1) x4_26) → vp_in 2 5 ∧ ∀ (U_31 : Um), U_31 = sA U_30 o 48 (va_up (uA U_30 o 48) (Int32.toNatClampNeg 2) (x5_27 / 3)) → vp_in 3 5 ∧ ∀ (U_32 : Um), U_32 = sA U_31 o 48 (va_up (uA U_31 o 48) (Int32.toNatClampNeg 3) (x5_27 - x5_27 / 3 * 3)) → post 1 U_32) n_33 0 U_12)) n_34 0 U_3)) n_35 1 U)
set_option maxHeartbeats 4000000 in
theorem tl_X12_findsStep_L3 {l : Launch} {Y : px_Y} {X : px_X} {h0 hh : pe_H} {sz : Nat} (o0 : Nat) (x1 : Int32) (x2 : Int32) (x3 : Int32) (post : Int32 → Um → Prop) (k_23 : Um → Prop) (ho0 : oc o0 = 10)  (hC : px_C X Y.1 (pm_A hh sz) cX12_findsStep RX12 6) (hM : px_M l X Y.1 hh sz yX12_findsStep cX12_findsStep 6 (some (.boolean)) 5 0 0) (hR : X.2.2.2.1 = pm_rm 5 0 0) (hk_23 : ∀ (U : Um) (h : pe_H), k_23 U → rF Y h0 U h → pw X Y.1 (pm_A hh sz) (pm_E X Y.1 hh sz 0 0 (pm_P Y h0 sz (pq_i post))) 23 [some (.ref (Y.2.1 o0)), some (.int x1), some (.int x2), some (.int x3), none, none] [] h sz 0 0) : ∀ (n_ : Nat) (x4 : Int32) (U : Um) (h : pe_H), rF Y h0 U h → w_X12_findsStep_L3 o0 x1 x2 x3 post k_23 n_ x4 U → pw X Y.1 (pm_A hh sz) (pm_E X Y.1 hh sz 0 0 (pm_P Y h0 sz (pq_i post))) 3 [some (.ref (Y.2.1 o0)), some (.int x1), some (.int x2), some (.int x3), some (.int x4), none] [] h sz 0 0 := by
  intro n_
  induction n_ with
  | zero => intro x4 U h hU H; exact False.elim H
  | succ n_ ih =>
    intro x4 U h hU H
    replace H : b_X12_findsStep_L3 o0 x1 x2 x3 post k_23 (w_X12_findsStep_L3 o0 x1 x2 x3 post k_23 n_) x4 U := H
    unfold b_X12_findsStep_L3 at H
    refine pr_iload hC (by decide +kernel : decode cX12_findsStep 3 = .ok (.iload 4, 2)) rfl ?_
    refine pr_iconst hC (5) (by decide +kernel : decode cX12_findsStep 5 = .ok (.iconst 5, 1)) rfl ?_
    refine pr_icmp_ge hC 23 (by decide +kernel : decode cX12_findsStep 6 = .ok (.if_icmp .ge 17, 3)) (by decide) (fun c_6 => ?_) (fun c_6 => ?_)
    · replace H := H.1 c_6
      exact pv_sub [some (.ref (Y.2.1 o0)), some (.int x1), some (.int x2), some (.int x3), none, none] (And.intro rfl (And.intro rfl (And.intro rfl (And.intro rfl trivial)))) (hk_23 U h H hU)
    replace H := H.2 c_6
    refine pr_aload_n hC (by decide +kernel : decode cX12_findsStep 9 = .ok (.aload_n 0, 1)) rfl ?_
    refine pu_g1 hC fg_X12_102 (by decide +kernel : decode cX12_findsStep 10 = .ok (.getfield 102, 3)) hU ho0 (by decide) rfl (by decide) ?_
    refine pr_iload hC (by decide +kernel : decode cX12_findsStep 13 = .ok (.iload 4, 2)) rfl ?_
    refine pr_iconst hC (-1) (by decide +kernel : decode cX12_findsStep 15 = .ok (.iconst (-1), 1)) rfl ?_
    refine pv_iast hC (by decide +kernel : decode cX12_findsStep 16 = .ok (.iastore, 1)) hU ho0 rfl H.1 (fun U_1 h e_U_1 hU => ?_)
    replace H := H.2 U_1 e_U_1
    refine pv_iinc hC (v := x4 + 1) (by decide +kernel : decode cX12_findsStep 17 = .ok (.iinc 4 1, 3)) rfl (by decide) rfl rfl (fun x4_2 e_x4_2 => ?_)
    replace H := H x4_2 e_x4_2
    refine pr_goto hC 3 (by decide +kernel : decode cX12_findsStep 20 = .ok (.goto (-17), 3)) (by decide) ?_
    exact pv_sub [some (.ref (Y.2.1 o0)), some (.int x1), some (.int x2), some (.int x3), some (.int x4_2), none] (And.intro rfl (And.intro rfl (And.intro rfl (And.intro rfl (And.intro rfl trivial))))) (ih _ U_1 h hU H)
set_option maxHeartbeats 4000000 in
theorem tl_X12_findsStep_L26 {l : Launch} {Y : px_Y} {X : px_X} {h0 hh : pe_H} {sz : Nat} (o0 : Nat) (x1 : Int32) (x2 : Int32) (x3 : Int32) (post : Int32 → Um → Prop) (k_57 : Int32 → Um → Prop) (k_80 : Um → Prop) (ho0 : oc o0 = 10)  (hC : px_C X Y.1 (pm_A hh sz) cX12_findsStep RX12 6) (hM : px_M l X Y.1 hh sz yX12_findsStep cX12_findsStep 6 (some (.boolean)) 5 0 0) (hR : X.2.2.2.1 = pm_rm 5 0 0) (hk_57 : ∀ (y4 : Int32) (U : Um) (h : pe_H), k_57 y4 U → rF Y h0 U h → pw X Y.1 (pm_A hh sz) (pm_E X Y.1 hh sz 0 0 (pm_P Y h0 sz (pq_i post))) 57 [some (.ref (Y.2.1 o0)), none, none, none, some (.int y4), none] [] h sz 0 0) (hk_80 : ∀ (U : Um) (h : pe_H), k_80 U → rF Y h0 U h → pw X Y.1 (pm_A hh sz) (pm_E X Y.1 hh sz 0 0 (pm_P Y h0 sz (pq_i post))) 80 [some (.ref (Y.2.1 o0)), some (.int x1), some (.int x2), some (.int x3), none, none] [] h sz 0 0) : ∀ (n_ : Nat) (x4 : Int32) (U : Um) (h : pe_H), rF Y h0 U h → w_X12_findsStep_L26 o0 x1 x2 x3 post k_57 k_80 n_ x4 U → pw X Y.1 (pm_A hh sz) (pm_E X Y.1 hh sz 0 0 (pm_P Y h0 sz (pq_i post))) 26 [some (.ref (Y.2.1 o0)), some (.int x1), some (.int x2), some (.int x3), some (.int x4), none] [] h sz 0 0 := by
  intro n_
  induction n_ with
  | zero => intro x4 U h hU H; exact False.elim H
  | succ n_ ih =>
    intro x4 U h hU H
    replace H : b_X12_findsStep_L26 o0 x1 x2 x3 post k_57 k_80 (w_X12_findsStep_L26 o0 x1 x2 x3 post k_57 k_80 n_) x4 U := H
    unfold b_X12_findsStep_L26 at H
    refine pr_iload hC (by decide +kernel : decode cX12_findsStep 26 = .ok (.iload 4, 2)) rfl ?_
    refine pr_aload_n hC (by decide +kernel : decode cX12_findsStep 28 = .ok (.aload_n 0, 1)) rfl ?_
    refine pu_g1 hC fg_X12_43 (by decide +kernel : decode cX12_findsStep 29 = .ok (.getfield 43, 3)) hU ho0 (by decide) rfl (by decide) ?_
    refine pr_iconst hC (2) (by decide +kernel : decode cX12_findsStep 32 = .ok (.iconst 2, 1)) rfl ?_
    refine pu_iald hC (by decide +kernel : decode cX12_findsStep 33 = .ok (.iaload, 1)) hU ho0 rfl H.1 ?_
    replace H := H.2
    refine pr_icmp_ge hC 80 (by decide +kernel : decode cX12_findsStep 34 = .ok (.if_icmp .ge 46, 3)) (by decide) (fun c_34 => ?_) (fun c_34 => ?_)
    · replace H := H.1 c_34
      exact pv_sub [some (.ref (Y.2.1 o0)), some (.int x1), some (.int x2), some (.int x3), none, none] (And.intro rfl (And.intro rfl (And.intro rfl (And.intro rfl trivial)))) (hk_80 U h H hU)
    replace H := H.2 c_34
    refine pr_iload hC (by decide +kernel : decode cX12_findsStep 37 = .ok (.iload 4, 2)) rfl ?_
    refine pr_iload_n hC (by decide +kernel : decode cX12_findsStep 39 = .ok (.iload_n 3, 1)) rfl ?_
    refine pr_icmp_eq hC 74 (by decide +kernel : decode cX12_findsStep 40 = .ok (.if_icmp .eq 34, 3)) (by decide) (fun c_40 => ?_) (fun c_40 => ?_)
    · replace H := H.1 c_40
      refine pv_iinc hC (v := x4 + 1) (by decide +kernel : decode cX12_findsStep 74 = .ok (.iinc 4 1, 3)) rfl (by decide) rfl rfl (fun x4_4 e_x4_4 => ?_)
      replace H := H x4_4 e_x4_4
      refine pr_goto hC 26 (by decide +kernel : decode cX12_findsStep 77 = .ok (.goto (-51), 3)) (by decide) ?_
      exact pv_sub [some (.ref (Y.2.1 o0)), some (.int x1), some (.int x2), some (.int x3), some (.int x4_4), none] (And.intro rfl (And.intro rfl (And.intro rfl (And.intro rfl (And.intro rfl trivial))))) (ih _ U h hU H)
    replace H := H.2 c_40
    refine pr_aload_n hC (by decide +kernel : decode cX12_findsStep 43 = .ok (.aload_n 0, 1)) rfl ?_
    refine pr_iload_n hC (by decide +kernel : decode cX12_findsStep 44 = .ok (.iload_n 1, 1)) rfl ?_
    refine pr_iload_n hC (by decide +kernel : decode cX12_findsStep 45 = .ok (.iload_n 2, 1)) rfl ?_
    refine pr_iload hC (by decide +kernel : decode cX12_findsStep 46 = .ok (.iload 4, 2)) rfl ?_
    refine vc_Vi hC hR [.int x1, .int x2, .int x4] fv_X12_423 (by decide +kernel : decode cX12_findsStep 48 = .ok (.invokevirtual 423, 3)) hU (t_X12_whyNot ho0 H) ho0 (by decide) rfl rfl rfl (Nat.le_of_ble_eq_true rfl) (Nat.le_of_ble_eq_true rfl) (Nat.le_refl 0) (Nat.le_refl 0) (fun r_6 U_5 h H hU => ?_)
    refine pr_if_eq hC 57 (by decide +kernel : decode cX12_findsStep 51 = .ok (.ifCond .eq 6, 3)) (by decide) (fun c_51 => ?_) (fun c_51 => ?_)
    · replace H := H.1 c_51
      exact pv_sub [some (.ref (Y.2.1 o0)), none, none, none, some (.int x4), none] (And.intro rfl (And.intro rfl trivial)) (hk_57 _ U_5 h H hU)
    replace H := H.2 c_51
    refine pr_goto hC 74 (by decide +kernel : decode cX12_findsStep 54 = .ok (.goto 20, 3)) (by decide) ?_
    refine pv_iinc hC (v := x4 + 1) (by decide +kernel : decode cX12_findsStep 74 = .ok (.iinc 4 1, 3)) rfl (by decide) rfl rfl (fun x4_7 e_x4_7 => ?_)
    replace H := H x4_7 e_x4_7
    refine pr_goto hC 26 (by decide +kernel : decode cX12_findsStep 77 = .ok (.goto (-51), 3)) (by decide) ?_
    exact pv_sub [some (.ref (Y.2.1 o0)), some (.int x1), some (.int x2), some (.int x3), some (.int x4_7), none] (And.intro rfl (And.intro rfl (And.intro rfl (And.intro rfl (And.intro rfl trivial))))) (ih _ U_5 h hU H)
set_option maxHeartbeats 4000000 in
theorem tl_X12_findsStep_L97 {l : Launch} {Y : px_Y} {X : px_X} {h0 hh : pe_H} {sz : Nat} (o0 : Nat) (x1 : Int32) (x2 : Int32) (x3 : Int32) (x4 : Int32) (post : Int32 → Um → Prop) (k_158 : Int32 → Um → Prop) (k_201 : Um → Prop) (ho0 : oc o0 = 10)  (hC : px_C X Y.1 (pm_A hh sz) cX12_findsStep RX12 6) (hM : px_M l X Y.1 hh sz yX12_findsStep cX12_findsStep 6 (some (.boolean)) 5 0 0) (hR : X.2.2.2.1 = pm_rm 5 0 0) (hk_158 : ∀ (y5 : Int32) (U : Um) (h : pe_H), k_158 y5 U → rF Y h0 U h → pw X Y.1 (pm_A hh sz) (pm_E X Y.1 hh sz 0 0 (pm_P Y h0 sz (pq_i post))) 158 [some (.ref (Y.2.1 o0)), none, none, none, some (.int x4), some (.int y5)] [] h sz 0 0) (hk_201 : ∀ (U : Um) (h : pe_H), k_201 U → rF Y h0 U h → pw X Y.1 (pm_A hh sz) (pm_E X Y.1 hh sz 0 0 (pm_P Y h0 sz (pq_i post))) 201 [some (.ref (Y.2.1 o0)), some (.int x1), some (.int x2), some (.int x3), some (.int x4), none] [] h sz 0 0) : ∀ (n_ : Nat) (x5 : Int32) (U : Um) (h : pe_H), rF Y h0 U h → w_X12_findsStep_L97 o0 x1 x2 x3 x4 post k_158 k_201 n_ x5 U → pw X Y.1 (pm_A hh sz) (pm_E X Y.1 hh sz 0 0 (pm_P Y h0 sz (pq_i post))) 97 [some (.ref (Y.2.1 o0)), some (.int x1), some (.int x2), some (.int x3), some (.int x4), some (.int x5)] [] h sz 0 0 := by
  intro n_
  induction n_ with
  | zero => intro x5 U h hU H; exact False.elim H
  | succ n_ ih =>
    intro x5 U h hU H
    replace H : b_X12_findsStep_L97 o0 x1 x2 x3 x4 post k_158 k_201 (w_X12_findsStep_L97 o0 x1 x2 x3 x4 post k_158 k_201 n_) x5 U := H
    unfold b_X12_findsStep_L97 at H
    refine pr_iload hC (by decide +kernel : decode cX12_findsStep 97 = .ok (.iload 5, 2)) rfl ?_
    refine pr_bipush hC (48) (by decide +kernel : decode cX12_findsStep 99 = .ok (.bipush 48, 2)) rfl ?_
    refine pr_icmp_ge hC 201 (by decide +kernel : decode cX12_findsStep 101 = .ok (.if_icmp .ge 100, 3)) (by decide) (fun c_101 => ?_) (fun c_101 => ?_)
    · replace H := H.1 c_101
      exact pv_sub [some (.ref (Y.2.1 o0)), some (.int x1), some (.int x2), some (.int x3), some (.int x4), none] (And.intro rfl (And.intro rfl (And.intro rfl (And.intro rfl (And.intro rfl trivial))))) (hk_201 U h H hU)
    replace H := H.2 c_101
    refine pr_iload hC (by decide +kernel : decode cX12_findsStep 104 = .ok (.iload 4, 2)) rfl ?_
    refine pr_iload_n hC (by decide +kernel : decode cX12_findsStep 106 = .ok (.iload_n 3, 1)) rfl ?_
    refine pr_icmp_eq hC 201 (by decide +kernel : decode cX12_findsStep 107 = .ok (.if_icmp .eq 94, 3)) (by decide) (fun c_107 => ?_) (fun c_107 => ?_)
    · replace H := H.1 c_107
      exact pv_sub [some (.ref (Y.2.1 o0)), some (.int x1), some (.int x2), some (.int x3), some (.int x4), none] (And.intro rfl (And.intro rfl (And.intro rfl (And.intro rfl (And.intro rfl trivial))))) (hk_201 U h H hU)
    replace H := H.2 c_107
    refine pr_aload_n hC (by decide +kernel : decode cX12_findsStep 110 = .ok (.aload_n 0, 1)) rfl ?_
    refine pu_g1 hC fg_X12_59 (by decide +kernel : decode cX12_findsStep 111 = .ok (.getfield 59, 3)) hU ho0 (by decide) rfl (by decide) ?_
    refine pr_iload hC (by decide +kernel : decode cX12_findsStep 114 = .ok (.iload 5, 2)) rfl ?_
    refine pu_iald hC (by decide +kernel : decode cX12_findsStep 116 = .ok (.iaload, 1)) hU ho0 rfl H.1 ?_
    replace H := H.2
    refine pr_iload hC (by decide +kernel : decode cX12_findsStep 117 = .ok (.iload 4, 2)) rfl ?_
    refine pr_icmp_ne hC 195 (by decide +kernel : decode cX12_findsStep 119 = .ok (.if_icmp .ne 76, 3)) (by decide) (fun c_119 => ?_) (fun c_119 => ?_)
    · replace H := H.2 c_119
      refine pv_iinc hC (v := x5 + 1) (by decide +kernel : decode cX12_findsStep 195 = .ok (.iinc 5 1, 3)) rfl (by decide) rfl rfl (fun x5_20 e_x5_20 => ?_)
      replace H := H x5_20 e_x5_20
      refine pr_goto hC 97 (by decide +kernel : decode cX12_findsStep 198 = .ok (.goto (-101), 3)) (by decide) ?_
      exact pv_sub [some (.ref (Y.2.1 o0)), some (.int x1), some (.int x2), some (.int x3), some (.int x4), some (.int x5_20)] (And.intro rfl (And.intro rfl (And.intro rfl (And.intro rfl (And.intro rfl (And.intro rfl trivial)))))) (ih _ U h hU H)
    replace H := H.1 c_119
    refine pr_iload hC (by decide +kernel : decode cX12_findsStep 122 = .ok (.iload 5, 2)) rfl ?_
    refine pr_iconst hC (3) (by decide +kernel : decode cX12_findsStep 124 = .ok (.iconst 3, 1)) rfl ?_
    refine pr_idiv hC (by decide +kernel : decode cX12_findsStep 125 = .ok (.idiv, 1)) (by decide) ?_
    refine pr_iload_n hC (by decide +kernel : decode cX12_findsStep 126 = .ok (.iload_n 1, 1)) rfl ?_
    refine pr_icmp_eq hC 195 (by decide +kernel : decode cX12_findsStep 127 = .ok (.if_icmp .eq 68, 3)) (by decide) (fun c_127 => ?_) (fun c_127 => ?_)
    · replace H := H.1 c_127
      refine pv_iinc hC (v := x5 + 1) (by decide +kernel : decode cX12_findsStep 195 = .ok (.iinc 5 1, 3)) rfl (by decide) rfl rfl (fun x5_13 e_x5_13 => ?_)
      replace H := H x5_13 e_x5_13
      refine pr_goto hC 97 (by decide +kernel : decode cX12_findsStep 198 = .ok (.goto (-101), 3)) (by decide) ?_
      exact pv_sub [some (.ref (Y.2.1 o0)), some (.int x1), some (.int x2), some (.int x3), some (.int x4), some (.int x5_13)] (And.intro rfl (And.intro rfl (And.intro rfl (And.intro rfl (And.intro rfl (And.intro rfl trivial)))))) (ih _ U h hU H)
    replace H := H.2 c_127
    refine pr_aload_n hC (by decide +kernel : decode cX12_findsStep 130 = .ok (.aload_n 0, 1)) rfl ?_
    refine pr_iload hC (by decide +kernel : decode cX12_findsStep 131 = .ok (.iload 5, 2)) rfl ?_
    refine pr_iconst hC (3) (by decide +kernel : decode cX12_findsStep 133 = .ok (.iconst 3, 1)) rfl ?_
    refine pr_idiv hC (by decide +kernel : decode cX12_findsStep 134 = .ok (.idiv, 1)) (by decide) ?_
    refine vc_Vi hC hR [.int (x5 / 3)] fv_X12_382 (by decide +kernel : decode cX12_findsStep 135 = .ok (.invokevirtual 382, 3)) hU (t_X12_isPlayed ho0 H) ho0 (by decide) rfl rfl rfl (Nat.le_of_ble_eq_true rfl) (Nat.le_of_ble_eq_true rfl) (Nat.le_refl 0) (Nat.le_refl 0) (fun r_15 U_14 h H hU => ?_)
    refine pr_if_ne hC 195 (by decide +kernel : decode cX12_findsStep 138 = .ok (.ifCond .ne 57, 3)) (by decide) (fun c_138 => ?_) (fun c_138 => ?_)
    · replace H := H.2 c_138
      refine pv_iinc hC (v := x5 + 1) (by decide +kernel : decode cX12_findsStep 195 = .ok (.iinc 5 1, 3)) rfl (by decide) rfl rfl (fun x5_19 e_x5_19 => ?_)
      replace H := H x5_19 e_x5_19
      refine pr_goto hC 97 (by decide +kernel : decode cX12_findsStep 198 = .ok (.goto (-101), 3)) (by decide) ?_
      exact pv_sub [some (.ref (Y.2.1 o0)), some (.int x1), some (.int x2), some (.int x3), some (.int x4), some (.int x5_19)] (And.intro rfl (And.intro rfl (And.intro rfl (And.intro rfl (And.intro rfl (And.intro rfl trivial)))))) (ih _ U_14 h hU H)
    replace H := H.1 c_138
    refine pr_aload_n hC (by decide +kernel : decode cX12_findsStep 141 = .ok (.aload_n 0, 1)) rfl ?_
    refine pr_iload_n hC (by decide +kernel : decode cX12_findsStep 142 = .ok (.iload_n 1, 1)) rfl ?_
    refine pr_iload_n hC (by decide +kernel : decode cX12_findsStep 143 = .ok (.iload_n 2, 1)) rfl ?_
    refine pr_iload_n hC (by decide +kernel : decode cX12_findsStep 144 = .ok (.iload_n 3, 1)) rfl ?_
    refine pr_iload hC (by decide +kernel : decode cX12_findsStep 145 = .ok (.iload 4, 2)) rfl ?_
    refine pr_iload hC (by decide +kernel : decode cX12_findsStep 147 = .ok (.iload 5, 2)) rfl ?_
    refine vc_Vi hC hR [.int x1, .int x2, .int x3, .int x4, .int x5] fv_X12_495 (by decide +kernel : decode cX12_findsStep 149 = .ok (.invokevirtual 495, 3)) hU (t_X12_findsFollower ho0 H) ho0 (by decide) rfl rfl rfl (Nat.le_of_ble_eq_true rfl) (Nat.le_of_ble_eq_true rfl) (Nat.le_refl 0) (Nat.le_refl 0) (fun r_17 U_16 h H hU => ?_)
    refine pr_if_ne hC 158 (by decide +kernel : decode cX12_findsStep 152 = .ok (.ifCond .ne 6, 3)) (by decide) (fun c_152 => ?_) (fun c_152 => ?_)
    · replace H := H.2 c_152
      exact pv_sub [some (.ref (Y.2.1 o0)), none, none, none, some (.int x4), some (.int x5)] (And.intro rfl (And.intro rfl (And.intro rfl trivial))) (hk_158 _ U_16 h H hU)
    replace H := H.1 c_152
    refine pr_goto hC 195 (by decide +kernel : decode cX12_findsStep 155 = .ok (.goto 40, 3)) (by decide) ?_
    refine pv_iinc hC (v := x5 + 1) (by decide +kernel : decode cX12_findsStep 195 = .ok (.iinc 5 1, 3)) rfl (by decide) rfl rfl (fun x5_18 e_x5_18 => ?_)
    replace H := H x5_18 e_x5_18
    refine pr_goto hC 97 (by decide +kernel : decode cX12_findsStep 198 = .ok (.goto (-101), 3)) (by decide) ?_
    exact pv_sub [some (.ref (Y.2.1 o0)), some (.int x1), some (.int x2), some (.int x3), some (.int x4), some (.int x5_18)] (And.intro rfl (And.intro rfl (And.intro rfl (And.intro rfl (And.intro rfl (And.intro rfl trivial)))))) (ih _ U_16 h hU H)
set_option maxHeartbeats 4000000 in
theorem tl_X12_findsStep_L83 {l : Launch} {Y : px_Y} {X : px_X} {h0 hh : pe_H} {sz : Nat} (o0 : Nat) (x1 : Int32) (x2 : Int32) (x3 : Int32) (post : Int32 → Um → Prop) (k_158 : Int32 → Int32 → Um → Prop) (ho0 : oc o0 = 10)  (hC : px_C X Y.1 (pm_A hh sz) cX12_findsStep RX12 6) (hM : px_M l X Y.1 hh sz yX12_findsStep cX12_findsStep 6 (some (.boolean)) 5 0 0) (hR : X.2.2.2.1 = pm_rm 5 0 0) (hk_158 : ∀ (y4 : Int32) (y5 : Int32) (U : Um) (h : pe_H), k_158 y4 y5 U → rF Y h0 U h → pw X Y.1 (pm_A hh sz) (pm_E X Y.1 hh sz 0 0 (pm_P Y h0 sz (pq_i post))) 158 [some (.ref (Y.2.1 o0)), none, none, none, some (.int y4), some (.int y5)] [] h sz 0 0) : ∀ (n_ : Nat) (x4 : Int32) (U : Um) (h : pe_H), rF Y h0 U h → w_X12_findsStep_L83 o0 x1 x2 x3 post k_158 n_ x4 U → pw X Y.1 (pm_A hh sz) (pm_E X Y.1 hh sz 0 0 (pm_P Y h0 sz (pq_i post))) 83 [some (.ref (Y.2.1 o0)), some (.int x1), some (.int x2), some (.int x3), some (.int x4), none] [] h sz 0 0 := by
  intro n_
  induction n_ with
  | zero => intro x4 U h hU H; exact False.elim H
  | succ n_ ih =>
    intro x4 U h hU H
    replace H : b_X12_findsStep_L83 o0 x1 x2 x3 post k_158 (w_X12_findsStep_L83 o0 x1 x2 x3 post k_158 n_) x4 U := H
    unfold b_X12_findsStep_L83 at H
    refine pr_iload hC (by decide +kernel : decode cX12_findsStep 83 = .ok (.iload 4, 2)) rfl ?_
    refine pr_aload_n hC (by decide +kernel : decode cX12_findsStep 85 = .ok (.aload_n 0, 1)) rfl ?_
    refine pu_g1 hC fg_X12_43 (by decide +kernel : decode cX12_findsStep 86 = .ok (.getfield 43, 3)) hU ho0 (by decide) rfl (by decide) ?_
    refine pr_iconst hC (2) (by decide +kernel : decode cX12_findsStep 89 = .ok (.iconst 2, 1)) rfl ?_
    refine pu_iald hC (by decide +kernel : decode cX12_findsStep 90 = .ok (.iaload, 1)) hU ho0 rfl H.1 ?_
    replace H := H.2
    refine pr_icmp_ge hC 207 (by decide +kernel : decode cX12_findsStep 91 = .ok (.if_icmp .ge 116, 3)) (by decide) (fun c_91 => ?_) (fun c_91 => ?_)
    · replace H := H.1 c_91
      refine pr_iconst hC (0) (by decide +kernel : decode cX12_findsStep 207 = .ok (.iconst 0, 1)) rfl ?_
      exact pv_zret hM (by decide +kernel : decode cX12_findsStep 208 = .ok (.ireturn, 1)) (Or.inl rfl) hU H
    replace H := H.2 c_91
    refine pr_iconst hC (0) (by decide +kernel : decode cX12_findsStep 94 = .ok (.iconst 0, 1)) rfl ?_
    refine pr_istore hC (by decide +kernel : decode cX12_findsStep 95 = .ok (.istore 5, 2)) (by decide) rfl ?_
    obtain ⟨n_25, H⟩ := H
    refine pv_sub [some (.ref (Y.2.1 o0)), some (.int x1), some (.int x2), some (.int x3), some (.int x4), some (.int 0)] (And.intro rfl (And.intro rfl (And.intro rfl (And.intro rfl (And.intro rfl (And.intro rfl trivial)))))) ?_
    refine tl_X12_findsStep_L97 _ _ _ _ _ _ _ _ ho0 hC hM hR (fun x5_21 U_22 h H hU => ?_) (fun U_23 h H hU => ?_) n_25 _ U h hU H
    · exact pv_sub [some (.ref (Y.2.1 o0)), none, none, none, some (.int x4), some (.int x5_21)] (And.intro rfl (And.intro rfl (And.intro rfl trivial))) (hk_158 _ _ U_22 h H hU)
    refine pv_iinc hC (v := x4 + 1) (by decide +kernel : decode cX12_findsStep 201 = .ok (.iinc 4 1, 3)) rfl (by decide) rfl rfl (fun x4_24 e_x4_24 => ?_)
    replace H := H x4_24 e_x4_24
    refine pr_goto hC 83 (by decide +kernel : decode cX12_findsStep 204 = .ok (.goto (-121), 3)) (by decide) ?_
    exact pv_sub [some (.ref (Y.2.1 o0)), some (.int x1), some (.int x2), some (.int x3), some (.int x4_24), none] (And.intro rfl (And.intro rfl (And.intro rfl (And.intro rfl (And.intro rfl trivial))))) (ih _ U_23 h hU H)
set_option maxHeartbeats 4000000 in
theorem t_X12_findsStep {l : Launch} {Y : px_Y} {o : Nat} {a1 : Int32} {a2 : Int32} {a3 : Int32} {U : Um} {post : Int32 → Um → Prop} (ho : oc o = 10) (H : w_X12_findsStep o a1 a2 a3 U post) : um l Y 5 yX12_findsStep cX12_findsStep 6 (some (.boolean)) [.ref (Y.2.1 o), .int a1, .int a2, .int a3] U (pq_i post) := by
  unfold w_X12_findsStep at H
  refine um_of (by decide) (Nat.le_of_ble_eq_true rfl) [some (.ref (Y.2.1 o)), some (.int a1), some (.int a2), some (.int a3), none, none] rfl (fun X h0 hh sz hM hU => ?_)
  have hC := hM.1
  have hR := hM.2.2.1
  refine pr_iconst hC (1) (by decide +kernel : decode cX12_findsStep 0 = .ok (.iconst 1, 1)) rfl ?_
  refine pr_istore hC (by decide +kernel : decode cX12_findsStep 1 = .ok (.istore 4, 2)) (by decide) rfl ?_
  obtain ⟨n_35, H⟩ := H
  refine pv_sub [some (.ref (Y.2.1 o)), some (.int a1), some (.int a2), some (.int a3), some (.int 1), none] (And.intro rfl (And.intro rfl (And.intro rfl (And.intro rfl (And.intro rfl trivial))))) ?_
  refine tl_X12_findsStep_L3 _ _ _ _ _ _ ho hC hM hR (fun U_3 h H hU => ?_) n_35 _ U hh hU H
  refine pr_iconst hC (0) (by decide +kernel : decode cX12_findsStep 23 = .ok (.iconst 0, 1)) rfl ?_
  refine pr_istore hC (by decide +kernel : decode cX12_findsStep 24 = .ok (.istore 4, 2)) (by decide) rfl ?_
  obtain ⟨n_34, H⟩ := H
  refine pv_sub [some (.ref (Y.2.1 o)), some (.int a1), some (.int a2), some (.int a3), some (.int 0), none] (And.intro rfl (And.intro rfl (And.intro rfl (And.intro rfl (And.intro rfl trivial))))) ?_
  refine tl_X12_findsStep_L26 _ _ _ _ _ _ _ ho hC hM hR (fun x4_8 U_9 h H hU => ?_) (fun U_12 h H hU => ?_) n_34 _ U_3 h hU H
  · refine pr_aload_n hC (by decide +kernel : decode cX12_findsStep 57 = .ok (.aload_n 0, 1)) rfl ?_
    refine pu_g1 hC fg_X12_102 (by decide +kernel : decode cX12_findsStep 58 = .ok (.getfield 102, 3)) hU ho (by decide) rfl (by decide) ?_
    refine pr_iconst hC (0) (by decide +kernel : decode cX12_findsStep 61 = .ok (.iconst 0, 1)) rfl ?_
    refine pr_iconst hC (1) (by decide +kernel : decode cX12_findsStep 62 = .ok (.iconst 1, 1)) rfl ?_
    refine pv_iast hC (by decide +kernel : decode cX12_findsStep 63 = .ok (.iastore, 1)) hU ho rfl H.1 (fun U_10 h e_U_10 hU => ?_)
    replace H := H.2 U_10 e_U_10
    refine pr_aload_n hC (by decide +kernel : decode cX12_findsStep 64 = .ok (.aload_n 0, 1)) rfl ?_
    refine pu_g1 hC fg_X12_102 (by decide +kernel : decode cX12_findsStep 65 = .ok (.getfield 102, 3)) hU ho (by decide) rfl (by decide) ?_
    refine pr_iconst hC (1) (by decide +kernel : decode cX12_findsStep 68 = .ok (.iconst 1, 1)) rfl ?_
    refine pr_iload hC (by decide +kernel : decode cX12_findsStep 69 = .ok (.iload 4, 2)) rfl ?_
    refine pv_iast hC (by decide +kernel : decode cX12_findsStep 71 = .ok (.iastore, 1)) hU ho rfl H.1 (fun U_11 h e_U_11 hU => ?_)
    replace H := H.2 U_11 e_U_11
    refine pr_iconst hC (1) (by decide +kernel : decode cX12_findsStep 72 = .ok (.iconst 1, 1)) rfl ?_
    exact pv_zret hM (by decide +kernel : decode cX12_findsStep 73 = .ok (.ireturn, 1)) (Or.inr rfl) hU H
  refine pr_iconst hC (0) (by decide +kernel : decode cX12_findsStep 80 = .ok (.iconst 0, 1)) rfl ?_
  refine pr_istore hC (by decide +kernel : decode cX12_findsStep 81 = .ok (.istore 4, 2)) (by decide) rfl ?_
  obtain ⟨n_33, H⟩ := H
  refine pv_sub [some (.ref (Y.2.1 o)), some (.int a1), some (.int a2), some (.int a3), some (.int 0), none] (And.intro rfl (And.intro rfl (And.intro rfl (And.intro rfl (And.intro rfl trivial))))) ?_
  refine tl_X12_findsStep_L83 _ _ _ _ _ _ ho hC hM hR (fun x4_26 x5_27 U_28 h H hU => ?_) n_33 _ U_12 h hU H
  refine pr_aload_n hC (by decide +kernel : decode cX12_findsStep 158 = .ok (.aload_n 0, 1)) rfl ?_
  refine pu_g1 hC fg_X12_102 (by decide +kernel : decode cX12_findsStep 159 = .ok (.getfield 102, 3)) hU ho (by decide) rfl (by decide) ?_
  refine pr_iconst hC (0) (by decide +kernel : decode cX12_findsStep 162 = .ok (.iconst 0, 1)) rfl ?_
  refine pr_iconst hC (2) (by decide +kernel : decode cX12_findsStep 163 = .ok (.iconst 2, 1)) rfl ?_
  refine pv_iast hC (by decide +kernel : decode cX12_findsStep 164 = .ok (.iastore, 1)) hU ho rfl H.1 (fun U_29 h e_U_29 hU => ?_)
  replace H := H.2 U_29 e_U_29
  refine pr_aload_n hC (by decide +kernel : decode cX12_findsStep 165 = .ok (.aload_n 0, 1)) rfl ?_
  refine pu_g1 hC fg_X12_102 (by decide +kernel : decode cX12_findsStep 166 = .ok (.getfield 102, 3)) hU ho (by decide) rfl (by decide) ?_
  refine pr_iconst hC (1) (by decide +kernel : decode cX12_findsStep 169 = .ok (.iconst 1, 1)) rfl ?_
  refine pr_iload hC (by decide +kernel : decode cX12_findsStep 170 = .ok (.iload 4, 2)) rfl ?_
  refine pv_iast hC (by decide +kernel : decode cX12_findsStep 172 = .ok (.iastore, 1)) hU ho rfl H.1 (fun U_30 h e_U_30 hU => ?_)
  replace H := H.2 U_30 e_U_30
  refine pr_aload_n hC (by decide +kernel : decode cX12_findsStep 173 = .ok (.aload_n 0, 1)) rfl ?_
  refine pu_g1 hC fg_X12_102 (by decide +kernel : decode cX12_findsStep 174 = .ok (.getfield 102, 3)) hU ho (by decide) rfl (by decide) ?_
  refine pr_iconst hC (2) (by decide +kernel : decode cX12_findsStep 177 = .ok (.iconst 2, 1)) rfl ?_
  refine pr_iload hC (by decide +kernel : decode cX12_findsStep 178 = .ok (.iload 5, 2)) rfl ?_
  refine pr_iconst hC (3) (by decide +kernel : decode cX12_findsStep 180 = .ok (.iconst 3, 1)) rfl ?_
  refine pr_idiv hC (by decide +kernel : decode cX12_findsStep 181 = .ok (.idiv, 1)) (by decide) ?_
  refine pv_iast hC (by decide +kernel : decode cX12_findsStep 182 = .ok (.iastore, 1)) hU ho rfl H.1 (fun U_31 h e_U_31 hU => ?_)
  replace H := H.2 U_31 e_U_31
  refine pr_aload_n hC (by decide +kernel : decode cX12_findsStep 183 = .ok (.aload_n 0, 1)) rfl ?_
  refine pu_g1 hC fg_X12_102 (by decide +kernel : decode cX12_findsStep 184 = .ok (.getfield 102, 3)) hU ho (by decide) rfl (by decide) ?_
  refine pr_iconst hC (3) (by decide +kernel : decode cX12_findsStep 187 = .ok (.iconst 3, 1)) rfl ?_
  refine pr_iload hC (by decide +kernel : decode cX12_findsStep 188 = .ok (.iload 5, 2)) rfl ?_
  refine pr_iconst hC (3) (by decide +kernel : decode cX12_findsStep 190 = .ok (.iconst 3, 1)) rfl ?_
  refine pr_irem hC (by decide +kernel : decode cX12_findsStep 191 = .ok (.irem, 1)) (by decide) ?_
  refine pv_iast hC (by decide +kernel : decode cX12_findsStep 192 = .ok (.iastore, 1)) hU ho rfl H.1 (fun U_32 h e_U_32 hU => ?_)
  replace H := H.2 U_32 e_U_32
  refine pr_iconst hC (1) (by decide +kernel : decode cX12_findsStep 193 = .ok (.iconst 1, 1)) rfl ?_
  exact pv_zret hM (by decide +kernel : decode cX12_findsStep 194 = .ok (.ireturn, 1)) (Or.inr rfl) hU H
def w_X12_steps (o : Nat) (a1 : Int32) (a2 : Int32) (a3 : Int32) (U : Um) (post : Int32 → Um → Prop) : Prop :=
  ∀ (U_1 : Um), U_1 = sI U o 0 0 → w_X12_isSeat o a1 a2 U_1 (fun r_3 U_2 => (r_3 = 0 → post (-1) U_2) ∧ (¬ r_3 = 0 → w_X12_isIn (Int32.toInt64 a3) 0 4 U_2 (fun r_5 U_4 => (r_5 = 0 → post (-1) U_4) ∧ (¬ r_5 = 0 → w_X12_isPlayed o a1 U_4 (fun r_7 U_6 => (r_7 = 0 → w_X12_at a1 a2 U_6 (fun r_9 U_8 => vp_in r_9 48 ∧ ((uA U_8 o 30 (Int32.toNatClampNeg r_9)) = (-1) → post (-1) U_8) ∧ (¬ (uA U_8 o 30 (Int32.toNatClampNeg r_9)) = (-1) → w_X12_at a1 a2 U_8 (fun r_11 U_10 => vp_in r_11 48 ∧ ∀ (x4_12 : Int32), x4_12 = uA U_10 o 30 (Int32.toNatClampNeg r_11) → w_X12_at a1 a2 U_10 (fun r_14 U_13 => vp_in r_14 48 ∧ ∀ (U_15 : Um), U_15 = sA U_13 o 30 (va_up (uA U_13 o 30) (Int32.toNatClampNeg r_14) (-1)) → w_X12_findsStep o a1 a2 x4_12 U_15 (fun r_17 U_16 => w_X12_at a1 a2 U_16 (fun r_19 U_18 => vp_in r_19 48 ∧ ∀ (U_20 : Um), U_20 = sA U_18 o 30 (va_up (uA U_18 o 30) (Int32.toNatClampNeg r_19) x4_12) → (r_17 = 0 → post (-1) U_20) ∧ (¬ r_17 = 0 → vp_in a3 5 ∧ post (uA U_20 o 48 (Int32.toNatClampNeg a3)) U_20)))))))) ∧ (¬ r_7 = 0 → post (-1) U_6))))))
set_option maxHeartbeats 4000000 in
theorem t_X12_steps {l : Launch} {Y : px_Y} {o : Nat} {a1 : Int32} {a2 : Int32} {a3 : Int32} {U : Um} {post : Int32 → Um → Prop} (ho : oc o = 10) (H : w_X12_steps o a1 a2 a3 U post) : um l Y 6 yX12_steps cX12_steps 6 (some (.int)) [.ref (Y.2.1 o), .int a1, .int a2, .int a3] U (pq_i post) := by
  unfold w_X12_steps at H
  refine um_of (by decide) (Nat.le_of_ble_eq_true rfl) [some (.ref (Y.2.1 o)), some (.int a1), some (.int a2), some (.int a3), none, none] rfl (fun X h0 hh sz hM hU => ?_)
  have hC := hM.1
  have hR := hM.2.2.1
  refine pr_aload_n hC (by decide +kernel : decode cX12_steps 0 = .ok (.aload_n 0, 1)) rfl ?_
  refine pr_iconst hC (0) (by decide +kernel : decode cX12_steps 1 = .ok (.iconst 0, 1)) rfl ?_
  refine pv_p0 hC fp_X12_121 (by decide +kernel : decode cX12_steps 2 = .ok (.putfield 121, 3)) hU ho (by decide) rfl rfl rfl rfl (fun U_1 h e_U_1 hU => ?_)
  replace H := H U_1 e_U_1
  refine pr_aload_n hC (by decide +kernel : decode cX12_steps 5 = .ok (.aload_n 0, 1)) rfl ?_
  refine pr_iload_n hC (by decide +kernel : decode cX12_steps 6 = .ok (.iload_n 1, 1)) rfl ?_
  refine pr_iload_n hC (by decide +kernel : decode cX12_steps 7 = .ok (.iload_n 2, 1)) rfl ?_
  refine vc_Vi hC hR [.int a1, .int a2] fv_X12_388 (by decide +kernel : decode cX12_steps 8 = .ok (.invokevirtual 388, 3)) hU (t_X12_isSeat ho H) ho (by decide) rfl rfl rfl (Nat.le_of_ble_eq_true rfl) (Nat.le_of_ble_eq_true rfl) (Nat.le_refl 0) (Nat.le_refl 0) (fun r_3 U_2 h H hU => ?_)
  refine pr_if_eq hC 48 (by decide +kernel : decode cX12_steps 11 = .ok (.ifCond .eq 37, 3)) (by decide) (fun c_11 => ?_) (fun c_11 => ?_)
  · replace H := H.1 c_11
    refine pr_iconst hC (-1) (by decide +kernel : decode cX12_steps 48 = .ok (.iconst (-1), 1)) rfl ?_
    exact pv_iret hM (by decide +kernel : decode cX12_steps 49 = .ok (.ireturn, 1)) hU H
  replace H := H.2 c_11
  refine pr_iload_n hC (by decide +kernel : decode cX12_steps 14 = .ok (.iload_n 3, 1)) rfl ?_
  refine pr_i2l hC (by decide +kernel : decode cX12_steps 15 = .ok (.i2l, 1)) ?_
  refine pr_lconst hC (0) (by decide +kernel : decode cX12_steps 16 = .ok (.lconst 0, 1)) rfl ?_
  refine pr_ldc2 hC (4) (by decide +kernel : decode cX12_steps 17 = .ok (.ldc2_w 499, 3)) fk_X12_499 ?_
  refine vc_Si hC hR [.long (Int32.toInt64 a3), .long 0, .long 4] fv_X12_131 (by decide +kernel : decode cX12_steps 20 = .ok (.invokestatic 131, 3)) hU (t_X12_isIn  H) rfl rfl (Nat.le_of_ble_eq_true rfl) (Nat.le_of_ble_eq_true rfl) (Nat.le_refl 0) (Nat.le_refl 0) (fun r_5 U_4 h H hU => ?_)
  refine pr_if_eq hC 48 (by decide +kernel : decode cX12_steps 23 = .ok (.ifCond .eq 25, 3)) (by decide) (fun c_23 => ?_) (fun c_23 => ?_)
  · replace H := H.1 c_23
    refine pr_iconst hC (-1) (by decide +kernel : decode cX12_steps 48 = .ok (.iconst (-1), 1)) rfl ?_
    exact pv_iret hM (by decide +kernel : decode cX12_steps 49 = .ok (.ireturn, 1)) hU H
  replace H := H.2 c_23
  refine pr_aload_n hC (by decide +kernel : decode cX12_steps 26 = .ok (.aload_n 0, 1)) rfl ?_
  refine pr_iload_n hC (by decide +kernel : decode cX12_steps 27 = .ok (.iload_n 1, 1)) rfl ?_
  refine vc_Vi hC hR [.int a1] fv_X12_382 (by decide +kernel : decode cX12_steps 28 = .ok (.invokevirtual 382, 3)) hU (t_X12_isPlayed ho H) ho (by decide) rfl rfl rfl (Nat.le_of_ble_eq_true rfl) (Nat.le_of_ble_eq_true rfl) (Nat.le_refl 0) (Nat.le_refl 0) (fun r_7 U_6 h H hU => ?_)
  refine pr_if_ne hC 48 (by decide +kernel : decode cX12_steps 31 = .ok (.ifCond .ne 17, 3)) (by decide) (fun c_31 => ?_) (fun c_31 => ?_)
  · replace H := H.2 c_31
    refine pr_iconst hC (-1) (by decide +kernel : decode cX12_steps 48 = .ok (.iconst (-1), 1)) rfl ?_
    exact pv_iret hM (by decide +kernel : decode cX12_steps 49 = .ok (.ireturn, 1)) hU H
  replace H := H.1 c_31
  refine pr_aload_n hC (by decide +kernel : decode cX12_steps 34 = .ok (.aload_n 0, 1)) rfl ?_
  refine pu_g1 hC fg_X12_59 (by decide +kernel : decode cX12_steps 35 = .ok (.getfield 59, 3)) hU ho (by decide) rfl (by decide) ?_
  refine pr_iload_n hC (by decide +kernel : decode cX12_steps 38 = .ok (.iload_n 1, 1)) rfl ?_
  refine pr_iload_n hC (by decide +kernel : decode cX12_steps 39 = .ok (.iload_n 2, 1)) rfl ?_
  refine vc_Si hC hR [.int a1, .int a2] fv_X12_360 (by decide +kernel : decode cX12_steps 40 = .ok (.invokestatic 360, 3)) hU (t_X12_at  H) rfl rfl (Nat.le_of_ble_eq_true rfl) (Nat.le_of_ble_eq_true rfl) (Nat.le_refl 0) (Nat.le_refl 0) (fun r_9 U_8 h H hU => ?_)
  refine pu_iald hC (by decide +kernel : decode cX12_steps 43 = .ok (.iaload, 1)) hU ho rfl H.1 ?_
  replace H := H.2
  refine pr_iconst hC (-1) (by decide +kernel : decode cX12_steps 44 = .ok (.iconst (-1), 1)) rfl ?_
  refine pr_icmp_ne hC 50 (by decide +kernel : decode cX12_steps 45 = .ok (.if_icmp .ne 5, 3)) (by decide) (fun c_45 => ?_) (fun c_45 => ?_)
  · replace H := H.2 c_45
    refine pr_aload_n hC (by decide +kernel : decode cX12_steps 50 = .ok (.aload_n 0, 1)) rfl ?_
    refine pu_g1 hC fg_X12_59 (by decide +kernel : decode cX12_steps 51 = .ok (.getfield 59, 3)) hU ho (by decide) rfl (by decide) ?_
    refine pr_iload_n hC (by decide +kernel : decode cX12_steps 54 = .ok (.iload_n 1, 1)) rfl ?_
    refine pr_iload_n hC (by decide +kernel : decode cX12_steps 55 = .ok (.iload_n 2, 1)) rfl ?_
    refine vc_Si hC hR [.int a1, .int a2] fv_X12_360 (by decide +kernel : decode cX12_steps 56 = .ok (.invokestatic 360, 3)) hU (t_X12_at  H) rfl rfl (Nat.le_of_ble_eq_true rfl) (Nat.le_of_ble_eq_true rfl) (Nat.le_refl 0) (Nat.le_refl 0) (fun r_11 U_10 h H hU => ?_)
    refine pu_iald hC (by decide +kernel : decode cX12_steps 59 = .ok (.iaload, 1)) hU ho rfl H.1 ?_
    replace H := H.2
    refine pv_topi (fun x4_12 e_x4_12 => ?_)
    replace H := H x4_12 e_x4_12
    refine pr_istore hC (by decide +kernel : decode cX12_steps 60 = .ok (.istore 4, 2)) (by decide) rfl ?_
    refine pr_aload_n hC (by decide +kernel : decode cX12_steps 62 = .ok (.aload_n 0, 1)) rfl ?_
    refine pu_g1 hC fg_X12_59 (by decide +kernel : decode cX12_steps 63 = .ok (.getfield 59, 3)) hU ho (by decide) rfl (by decide) ?_
    refine pr_iload_n hC (by decide +kernel : decode cX12_steps 66 = .ok (.iload_n 1, 1)) rfl ?_
    refine pr_iload_n hC (by decide +kernel : decode cX12_steps 67 = .ok (.iload_n 2, 1)) rfl ?_
    refine vc_Si hC hR [.int a1, .int a2] fv_X12_360 (by decide +kernel : decode cX12_steps 68 = .ok (.invokestatic 360, 3)) hU (t_X12_at  H) rfl rfl (Nat.le_of_ble_eq_true rfl) (Nat.le_of_ble_eq_true rfl) (Nat.le_refl 0) (Nat.le_refl 0) (fun r_14 U_13 h H hU => ?_)
    refine pr_iconst hC (-1) (by decide +kernel : decode cX12_steps 71 = .ok (.iconst (-1), 1)) rfl ?_
    refine pv_iast hC (by decide +kernel : decode cX12_steps 72 = .ok (.iastore, 1)) hU ho rfl H.1 (fun U_15 h e_U_15 hU => ?_)
    replace H := H.2 U_15 e_U_15
    refine pr_aload_n hC (by decide +kernel : decode cX12_steps 73 = .ok (.aload_n 0, 1)) rfl ?_
    refine pr_iload_n hC (by decide +kernel : decode cX12_steps 74 = .ok (.iload_n 1, 1)) rfl ?_
    refine pr_iload_n hC (by decide +kernel : decode cX12_steps 75 = .ok (.iload_n 2, 1)) rfl ?_
    refine pr_iload hC (by decide +kernel : decode cX12_steps 76 = .ok (.iload 4, 2)) rfl ?_
    refine vc_Vi hC hR [.int a1, .int a2, .int x4_12] fv_X12_501 (by decide +kernel : decode cX12_steps 78 = .ok (.invokevirtual 501, 3)) hU (t_X12_findsStep ho H) ho (by decide) rfl rfl rfl (Nat.le_of_ble_eq_true rfl) (Nat.le_of_ble_eq_true rfl) (Nat.le_refl 0) (Nat.le_refl 0) (fun r_17 U_16 h H hU => ?_)
    refine pr_istore hC (by decide +kernel : decode cX12_steps 81 = .ok (.istore 5, 2)) (by decide) rfl ?_
    refine pr_aload_n hC (by decide +kernel : decode cX12_steps 83 = .ok (.aload_n 0, 1)) rfl ?_
    refine pu_g1 hC fg_X12_59 (by decide +kernel : decode cX12_steps 84 = .ok (.getfield 59, 3)) hU ho (by decide) rfl (by decide) ?_
    refine pr_iload_n hC (by decide +kernel : decode cX12_steps 87 = .ok (.iload_n 1, 1)) rfl ?_
    refine pr_iload_n hC (by decide +kernel : decode cX12_steps 88 = .ok (.iload_n 2, 1)) rfl ?_
    refine vc_Si hC hR [.int a1, .int a2] fv_X12_360 (by decide +kernel : decode cX12_steps 89 = .ok (.invokestatic 360, 3)) hU (t_X12_at  H) rfl rfl (Nat.le_of_ble_eq_true rfl) (Nat.le_of_ble_eq_true rfl) (Nat.le_refl 0) (Nat.le_refl 0) (fun r_19 U_18 h H hU => ?_)
    refine pr_iload hC (by decide +kernel : decode cX12_steps 92 = .ok (.iload 4, 2)) rfl ?_
    refine pv_iast hC (by decide +kernel : decode cX12_steps 94 = .ok (.iastore, 1)) hU ho rfl H.1 (fun U_20 h e_U_20 hU => ?_)
    replace H := H.2 U_20 e_U_20
    refine pr_iload hC (by decide +kernel : decode cX12_steps 95 = .ok (.iload 5, 2)) rfl ?_
    refine pr_if_eq hC 109 (by decide +kernel : decode cX12_steps 97 = .ok (.ifCond .eq 12, 3)) (by decide) (fun c_97 => ?_) (fun c_97 => ?_)
    · replace H := H.1 c_97
      refine pr_iconst hC (-1) (by decide +kernel : decode cX12_steps 109 = .ok (.iconst (-1), 1)) rfl ?_
      exact pv_iret hM (by decide +kernel : decode cX12_steps 110 = .ok (.ireturn, 1)) hU H
    replace H := H.2 c_97
    refine pr_aload_n hC (by decide +kernel : decode cX12_steps 100 = .ok (.aload_n 0, 1)) rfl ?_
    refine pu_g1 hC fg_X12_102 (by decide +kernel : decode cX12_steps 101 = .ok (.getfield 102, 3)) hU ho (by decide) rfl (by decide) ?_
    refine pr_iload_n hC (by decide +kernel : decode cX12_steps 104 = .ok (.iload_n 3, 1)) rfl ?_
    refine pu_iald hC (by decide +kernel : decode cX12_steps 105 = .ok (.iaload, 1)) hU ho rfl H.1 ?_
    replace H := H.2
    refine pr_goto hC 110 (by decide +kernel : decode cX12_steps 106 = .ok (.goto 4, 3)) (by decide) ?_
    exact pv_iret hM (by decide +kernel : decode cX12_steps 110 = .ok (.ireturn, 1)) hU H
  replace H := H.1 c_45
  refine pr_iconst hC (-1) (by decide +kernel : decode cX12_steps 48 = .ok (.iconst (-1), 1)) rfl ?_
  exact pv_iret hM (by decide +kernel : decode cX12_steps 49 = .ok (.ireturn, 1)) hU H
def w_X12_isSound (o : Nat) (a1 : Int32) (U : Um) (post : Int32 → Um → Prop) : Prop :=
  vp_in a1 48 ∧ ∀ (x2_1 : Int32), x2_1 = uA U o 30 (Int32.toNatClampNeg a1) → vp_in a1 48 ∧ ∀ (U_2 : Um), U_2 = sA U o 30 (va_up (uA U o 30) (Int32.toNatClampNeg a1) (-1)) → w_X12_whyNot o (a1 / 3) (a1 - a1 / 3 * 3) x2_1 U_2 (fun r_4 U_3 => (r_4 = 0 → vp_in a1 48 ∧ ∀ (U_5 : Um), U_5 = sA U_3 o 30 (va_up (uA U_3 o 30) (Int32.toNatClampNeg a1) x2_1) → post 1 U_5) ∧ (¬ r_4 = 0 → vp_in a1 48 ∧ ∀ (U_6 : Um), U_6 = sA U_3 o 30 (va_up (uA U_3 o 30) (Int32.toNatClampNeg a1) x2_1) → post 0 U_6))
set_option maxHeartbeats 4000000 in
theorem t_X12_isSound {l : Launch} {Y : px_Y} {o : Nat} {a1 : Int32} {U : Um} {post : Int32 → Um → Prop} (ho : oc o = 10) (H : w_X12_isSound o a1 U post) : um l Y 4 yX12_isSound cX12_isSound 4 (some (.boolean)) [.ref (Y.2.1 o), .int a1] U (pq_i post) := by
  unfold w_X12_isSound at H
  refine um_of (by decide) (Nat.le_of_ble_eq_true rfl) [some (.ref (Y.2.1 o)), some (.int a1), none, none] rfl (fun X h0 hh sz hM hU => ?_)
  have hC := hM.1
  have hR := hM.2.2.1
  refine pr_aload_n hC (by decide +kernel : decode cX12_isSound 0 = .ok (.aload_n 0, 1)) rfl ?_
  refine pu_g1 hC fg_X12_59 (by decide +kernel : decode cX12_isSound 1 = .ok (.getfield 59, 3)) hU ho (by decide) rfl (by decide) ?_
  refine pr_iload_n hC (by decide +kernel : decode cX12_isSound 4 = .ok (.iload_n 1, 1)) rfl ?_
  refine pu_iald hC (by decide +kernel : decode cX12_isSound 5 = .ok (.iaload, 1)) hU ho rfl H.1 ?_
  replace H := H.2
  refine pv_topi (fun x2_1 e_x2_1 => ?_)
  replace H := H x2_1 e_x2_1
  refine pr_istore_n hC (by decide +kernel : decode cX12_isSound 6 = .ok (.istore_n 2, 1)) (by decide) rfl ?_
  refine pr_aload_n hC (by decide +kernel : decode cX12_isSound 7 = .ok (.aload_n 0, 1)) rfl ?_
  refine pu_g1 hC fg_X12_59 (by decide +kernel : decode cX12_isSound 8 = .ok (.getfield 59, 3)) hU ho (by decide) rfl (by decide) ?_
  refine pr_iload_n hC (by decide +kernel : decode cX12_isSound 11 = .ok (.iload_n 1, 1)) rfl ?_
  refine pr_iconst hC (-1) (by decide +kernel : decode cX12_isSound 12 = .ok (.iconst (-1), 1)) rfl ?_
  refine pv_iast hC (by decide +kernel : decode cX12_isSound 13 = .ok (.iastore, 1)) hU ho rfl H.1 (fun U_2 h e_U_2 hU => ?_)
  replace H := H.2 U_2 e_U_2
  refine pr_aload_n hC (by decide +kernel : decode cX12_isSound 14 = .ok (.aload_n 0, 1)) rfl ?_
  refine pr_iload_n hC (by decide +kernel : decode cX12_isSound 15 = .ok (.iload_n 1, 1)) rfl ?_
  refine pr_iconst hC (3) (by decide +kernel : decode cX12_isSound 16 = .ok (.iconst 3, 1)) rfl ?_
  refine pr_idiv hC (by decide +kernel : decode cX12_isSound 17 = .ok (.idiv, 1)) (by decide) ?_
  refine pr_iload_n hC (by decide +kernel : decode cX12_isSound 18 = .ok (.iload_n 1, 1)) rfl ?_
  refine pr_iconst hC (3) (by decide +kernel : decode cX12_isSound 19 = .ok (.iconst 3, 1)) rfl ?_
  refine pr_irem hC (by decide +kernel : decode cX12_isSound 20 = .ok (.irem, 1)) (by decide) ?_
  refine pr_iload_n hC (by decide +kernel : decode cX12_isSound 21 = .ok (.iload_n 2, 1)) rfl ?_
  refine vc_Vi hC hR [.int (a1 / 3), .int (a1 - a1 / 3 * 3), .int x2_1] fv_X12_423 (by decide +kernel : decode cX12_isSound 22 = .ok (.invokevirtual 423, 3)) hU (t_X12_whyNot ho H) ho (by decide) rfl rfl rfl (Nat.le_of_ble_eq_true rfl) (Nat.le_of_ble_eq_true rfl) (Nat.le_refl 0) (Nat.le_refl 0) (fun r_4 U_3 h H hU => ?_)
  refine pr_if_ne hC 32 (by decide +kernel : decode cX12_isSound 25 = .ok (.ifCond .ne 7, 3)) (by decide) (fun c_25 => ?_) (fun c_25 => ?_)
  · replace H := H.2 c_25
    refine pr_iconst hC (0) (by decide +kernel : decode cX12_isSound 32 = .ok (.iconst 0, 1)) rfl ?_
    refine pr_istore_n hC (by decide +kernel : decode cX12_isSound 33 = .ok (.istore_n 3, 1)) (by decide) rfl ?_
    refine pr_aload_n hC (by decide +kernel : decode cX12_isSound 34 = .ok (.aload_n 0, 1)) rfl ?_
    refine pu_g1 hC fg_X12_59 (by decide +kernel : decode cX12_isSound 35 = .ok (.getfield 59, 3)) hU ho (by decide) rfl (by decide) ?_
    refine pr_iload_n hC (by decide +kernel : decode cX12_isSound 38 = .ok (.iload_n 1, 1)) rfl ?_
    refine pr_iload_n hC (by decide +kernel : decode cX12_isSound 39 = .ok (.iload_n 2, 1)) rfl ?_
    refine pv_iast hC (by decide +kernel : decode cX12_isSound 40 = .ok (.iastore, 1)) hU ho rfl H.1 (fun U_6 h e_U_6 hU => ?_)
    replace H := H.2 U_6 e_U_6
    refine pr_iload_n hC (by decide +kernel : decode cX12_isSound 41 = .ok (.iload_n 3, 1)) rfl ?_
    exact pv_zret hM (by decide +kernel : decode cX12_isSound 42 = .ok (.ireturn, 1)) (Or.inl rfl) hU H
  replace H := H.1 c_25
  refine pr_iconst hC (1) (by decide +kernel : decode cX12_isSound 28 = .ok (.iconst 1, 1)) rfl ?_
  refine pr_goto hC 33 (by decide +kernel : decode cX12_isSound 29 = .ok (.goto 4, 3)) (by decide) ?_
  refine pr_istore_n hC (by decide +kernel : decode cX12_isSound 33 = .ok (.istore_n 3, 1)) (by decide) rfl ?_
  refine pr_aload_n hC (by decide +kernel : decode cX12_isSound 34 = .ok (.aload_n 0, 1)) rfl ?_
  refine pu_g1 hC fg_X12_59 (by decide +kernel : decode cX12_isSound 35 = .ok (.getfield 59, 3)) hU ho (by decide) rfl (by decide) ?_
  refine pr_iload_n hC (by decide +kernel : decode cX12_isSound 38 = .ok (.iload_n 1, 1)) rfl ?_
  refine pr_iload_n hC (by decide +kernel : decode cX12_isSound 39 = .ok (.iload_n 2, 1)) rfl ?_
  refine pv_iast hC (by decide +kernel : decode cX12_isSound 40 = .ok (.iastore, 1)) hU ho rfl H.1 (fun U_5 h e_U_5 hU => ?_)
  replace H := H.2 U_5 e_U_5
  refine pr_iload_n hC (by decide +kernel : decode cX12_isSound 41 = .ok (.iload_n 3, 1)) rfl ?_
  exact pv_zret hM (by decide +kernel : decode cX12_isSound 42 = .ok (.ireturn, 1)) (Or.inr rfl) hU H
def b_X12_unsound_L9 (o0 : Nat) (x1 : Int32) (post : Int32 → Um → Prop) (k_52 : Int32 → Um → Prop) (rec_ : Int32 → Int32 → Um → Prop) (x2 : Int32) (x3 : Int32) (U : Um) : Prop :=
  ((48 : Int32) ≤ x3 → k_52 x2 U) ∧ (¬ (48 : Int32) ≤ x3 → vp_in x3 48 ∧ ((uA U o0 30 (Int32.toNatClampNeg x3)) = (-1) → ∀ (x3_2 : Int32), x3_2 = x3 + 1 → rec_ x2 x3_2 U) ∧ (¬ (uA U o0 30 (Int32.toNatClampNeg x3)) = (-1) → w_X12_isSound o0 x3 U (fun r_4 U_3 => (r_4 = 0 → (x2 = x1 → post x3 U_3) ∧ (¬ x2 = x1 → ∀ (x2_5 : Int32), x2_5 = x2 + 1 → ∀ (x3_6 : Int32), x3_6 = x3 + 1 → rec_ x2_5 x3_6 U_3)) ∧ (¬ r_4 = 0 → ∀ (x3_7 : Int32), x3_7 = x3 + 1 → rec_ x2 x3_7 U_3))))
def w_X12_unsound_L9 (o0 : Nat) (x1 : Int32) (post : Int32 → Um → Prop) (k_52 : Int32 → Um → Prop) (n_ : Nat) : Int32 → Int32 → Um → Prop := Nat.rec (motive := fun _ => Int32 → Int32 → Um → Prop) (fun _ _ _ => False) (fun _ ih => b_X12_unsound_L9 o0 x1 post k_52 ih) n_
def w_X12_unsound (o : Nat) (a1 : Int32) (U : Um) (post : Int32 → Um → Prop) : Prop :=
  ∀ (U_1 : Um), U_1 = sI U o 0 0 → (∃ n_10, w_X12_unsound_L9 o a1 post (fun x2_8 U_9 => (a1 = (-1) → post x2_8 U_9) ∧ (¬ a1 = (-1) → post (-1) U_9)) n_10 0 0 U_1)
set_option maxHeartbeats 4000000 in
theorem tl_X12_unsound_L9 {l : Launch} {Y : px_Y} {X : px_X} {h0 hh : pe_H} {sz : Nat} (o0 : Nat) (x1 : Int32) (post : Int32 → Um → Prop) (k_52 : Int32 → Um → Prop) (ho0 : oc o0 = 10)  (hC : px_C X Y.1 (pm_A hh sz) cX12_unsound RX12 4) (hM : px_M l X Y.1 hh sz yX12_unsound cX12_unsound 4 (some (.int)) 5 0 0) (hR : X.2.2.2.1 = pm_rm 5 0 0) (hk_52 : ∀ (y2 : Int32) (U : Um) (h : pe_H), k_52 y2 U → rF Y h0 U h → pw X Y.1 (pm_A hh sz) (pm_E X Y.1 hh sz 0 0 (pm_P Y h0 sz (pq_i post))) 52 [none, some (.int x1), some (.int y2), none] [] h sz 0 0) : ∀ (n_ : Nat) (x2 : Int32) (x3 : Int32) (U : Um) (h : pe_H), rF Y h0 U h → w_X12_unsound_L9 o0 x1 post k_52 n_ x2 x3 U → pw X Y.1 (pm_A hh sz) (pm_E X Y.1 hh sz 0 0 (pm_P Y h0 sz (pq_i post))) 9 [some (.ref (Y.2.1 o0)), some (.int x1), some (.int x2), some (.int x3)] [] h sz 0 0 := by
  intro n_
  induction n_ with
  | zero => intro x2 x3 U h hU H; exact False.elim H
  | succ n_ ih =>
    intro x2 x3 U h hU H
    replace H : b_X12_unsound_L9 o0 x1 post k_52 (w_X12_unsound_L9 o0 x1 post k_52 n_) x2 x3 U := H
    unfold b_X12_unsound_L9 at H
    refine pr_iload_n hC (by decide +kernel : decode cX12_unsound 9 = .ok (.iload_n 3, 1)) rfl ?_
    refine pr_bipush hC (48) (by decide +kernel : decode cX12_unsound 10 = .ok (.bipush 48, 2)) rfl ?_
    refine pr_icmp_ge hC 52 (by decide +kernel : decode cX12_unsound 12 = .ok (.if_icmp .ge 40, 3)) (by decide) (fun c_12 => ?_) (fun c_12 => ?_)
    · replace H := H.1 c_12
      exact pv_sub [none, some (.int x1), some (.int x2), none] (And.intro rfl (And.intro rfl trivial)) (hk_52 _ U h H hU)
    replace H := H.2 c_12
    refine pr_aload_n hC (by decide +kernel : decode cX12_unsound 15 = .ok (.aload_n 0, 1)) rfl ?_
    refine pu_g1 hC fg_X12_59 (by decide +kernel : decode cX12_unsound 16 = .ok (.getfield 59, 3)) hU ho0 (by decide) rfl (by decide) ?_
    refine pr_iload_n hC (by decide +kernel : decode cX12_unsound 19 = .ok (.iload_n 3, 1)) rfl ?_
    refine pu_iald hC (by decide +kernel : decode cX12_unsound 20 = .ok (.iaload, 1)) hU ho0 rfl H.1 ?_
    replace H := H.2
    refine pr_iconst hC (-1) (by decide +kernel : decode cX12_unsound 21 = .ok (.iconst (-1), 1)) rfl ?_
    refine pr_icmp_eq hC 46 (by decide +kernel : decode cX12_unsound 22 = .ok (.if_icmp .eq 24, 3)) (by decide) (fun c_22 => ?_) (fun c_22 => ?_)
    · replace H := H.1 c_22
      refine pv_iinc hC (v := x3 + 1) (by decide +kernel : decode cX12_unsound 46 = .ok (.iinc 3 1, 3)) rfl (by decide) rfl rfl (fun x3_2 e_x3_2 => ?_)
      replace H := H x3_2 e_x3_2
      refine pr_goto hC 9 (by decide +kernel : decode cX12_unsound 49 = .ok (.goto (-40), 3)) (by decide) ?_
      exact pv_sub [some (.ref (Y.2.1 o0)), some (.int x1), some (.int x2), some (.int x3_2)] (And.intro rfl (And.intro rfl (And.intro rfl (And.intro rfl trivial)))) (ih _ _ U h hU H)
    replace H := H.2 c_22
    refine pr_aload_n hC (by decide +kernel : decode cX12_unsound 25 = .ok (.aload_n 0, 1)) rfl ?_
    refine pr_iload_n hC (by decide +kernel : decode cX12_unsound 26 = .ok (.iload_n 3, 1)) rfl ?_
    refine vc_Vi hC hR [.int x3] fv_X12_504 (by decide +kernel : decode cX12_unsound 27 = .ok (.invokevirtual 504, 3)) hU (t_X12_isSound ho0 H) ho0 (by decide) rfl rfl rfl (Nat.le_of_ble_eq_true rfl) (Nat.le_of_ble_eq_true rfl) (Nat.le_refl 0) (Nat.le_refl 0) (fun r_4 U_3 h H hU => ?_)
    refine pr_if_eq hC 36 (by decide +kernel : decode cX12_unsound 30 = .ok (.ifCond .eq 6, 3)) (by decide) (fun c_30 => ?_) (fun c_30 => ?_)
    · replace H := H.1 c_30
      refine pr_iload_n hC (by decide +kernel : decode cX12_unsound 36 = .ok (.iload_n 2, 1)) rfl ?_
      refine pr_iload_n hC (by decide +kernel : decode cX12_unsound 37 = .ok (.iload_n 1, 1)) rfl ?_
      refine pr_icmp_ne hC 43 (by decide +kernel : decode cX12_unsound 38 = .ok (.if_icmp .ne 5, 3)) (by decide) (fun c_38 => ?_) (fun c_38 => ?_)
      · replace H := H.2 c_38
        refine pv_iinc hC (v := x2 + 1) (by decide +kernel : decode cX12_unsound 43 = .ok (.iinc 2 1, 3)) rfl (by decide) rfl rfl (fun x2_5 e_x2_5 => ?_)
        replace H := H x2_5 e_x2_5
        refine pv_iinc hC (v := x3 + 1) (by decide +kernel : decode cX12_unsound 46 = .ok (.iinc 3 1, 3)) rfl (by decide) rfl rfl (fun x3_6 e_x3_6 => ?_)
        replace H := H x3_6 e_x3_6
        refine pr_goto hC 9 (by decide +kernel : decode cX12_unsound 49 = .ok (.goto (-40), 3)) (by decide) ?_
        exact pv_sub [some (.ref (Y.2.1 o0)), some (.int x1), some (.int x2_5), some (.int x3_6)] (And.intro rfl (And.intro rfl (And.intro rfl (And.intro rfl trivial)))) (ih _ _ U_3 h hU H)
      replace H := H.1 c_38
      refine pr_iload_n hC (by decide +kernel : decode cX12_unsound 41 = .ok (.iload_n 3, 1)) rfl ?_
      exact pv_iret hM (by decide +kernel : decode cX12_unsound 42 = .ok (.ireturn, 1)) hU H
    replace H := H.2 c_30
    refine pr_goto hC 46 (by decide +kernel : decode cX12_unsound 33 = .ok (.goto 13, 3)) (by decide) ?_
    refine pv_iinc hC (v := x3 + 1) (by decide +kernel : decode cX12_unsound 46 = .ok (.iinc 3 1, 3)) rfl (by decide) rfl rfl (fun x3_7 e_x3_7 => ?_)
    replace H := H x3_7 e_x3_7
    refine pr_goto hC 9 (by decide +kernel : decode cX12_unsound 49 = .ok (.goto (-40), 3)) (by decide) ?_
    exact pv_sub [some (.ref (Y.2.1 o0)), some (.int x1), some (.int x2), some (.int x3_7)] (And.intro rfl (And.intro rfl (And.intro rfl (And.intro rfl trivial)))) (ih _ _ U_3 h hU H)
set_option maxHeartbeats 4000000 in
theorem t_X12_unsound {l : Launch} {Y : px_Y} {o : Nat} {a1 : Int32} {U : Um} {post : Int32 → Um → Prop} (ho : oc o = 10) (H : w_X12_unsound o a1 U post) : um l Y 5 yX12_unsound cX12_unsound 4 (some (.int)) [.ref (Y.2.1 o), .int a1] U (pq_i post) := by
  unfold w_X12_unsound at H
  refine um_of (by decide) (Nat.le_of_ble_eq_true rfl) [some (.ref (Y.2.1 o)), some (.int a1), none, none] rfl (fun X h0 hh sz hM hU => ?_)
  have hC := hM.1
  have hR := hM.2.2.1
  refine pr_aload_n hC (by decide +kernel : decode cX12_unsound 0 = .ok (.aload_n 0, 1)) rfl ?_
  refine pr_iconst hC (0) (by decide +kernel : decode cX12_unsound 1 = .ok (.iconst 0, 1)) rfl ?_
  refine pv_p0 hC fp_X12_121 (by decide +kernel : decode cX12_unsound 2 = .ok (.putfield 121, 3)) hU ho (by decide) rfl rfl rfl rfl (fun U_1 h e_U_1 hU => ?_)
  replace H := H U_1 e_U_1
  refine pr_iconst hC (0) (by decide +kernel : decode cX12_unsound 5 = .ok (.iconst 0, 1)) rfl ?_
  refine pr_istore_n hC (by decide +kernel : decode cX12_unsound 6 = .ok (.istore_n 2, 1)) (by decide) rfl ?_
  refine pr_iconst hC (0) (by decide +kernel : decode cX12_unsound 7 = .ok (.iconst 0, 1)) rfl ?_
  refine pr_istore_n hC (by decide +kernel : decode cX12_unsound 8 = .ok (.istore_n 3, 1)) (by decide) rfl ?_
  obtain ⟨n_10, H⟩ := H
  refine pv_sub [some (.ref (Y.2.1 o)), some (.int a1), some (.int 0), some (.int 0)] (And.intro rfl (And.intro rfl (And.intro rfl (And.intro rfl trivial)))) ?_
  refine tl_X12_unsound_L9 _ _ _ _ ho hC hM hR (fun x2_8 U_9 h H hU => ?_) n_10 _ _ U_1 h hU H
  refine pr_iload_n hC (by decide +kernel : decode cX12_unsound 52 = .ok (.iload_n 1, 1)) rfl ?_
  refine pr_iconst hC (-1) (by decide +kernel : decode cX12_unsound 53 = .ok (.iconst (-1), 1)) rfl ?_
  refine pr_icmp_ne hC 61 (by decide +kernel : decode cX12_unsound 54 = .ok (.if_icmp .ne 7, 3)) (by decide) (fun c_54 => ?_) (fun c_54 => ?_)
  · replace H := H.2 c_54
    refine pr_iconst hC (-1) (by decide +kernel : decode cX12_unsound 61 = .ok (.iconst (-1), 1)) rfl ?_
    exact pv_iret hM (by decide +kernel : decode cX12_unsound 62 = .ok (.ireturn, 1)) hU H
  replace H := H.1 c_54
  refine pr_iload_n hC (by decide +kernel : decode cX12_unsound 57 = .ok (.iload_n 2, 1)) rfl ?_
  refine pr_goto hC 62 (by decide +kernel : decode cX12_unsound 58 = .ok (.goto 4, 3)) (by decide) ?_
  exact pv_iret hM (by decide +kernel : decode cX12_unsound 62 = .ok (.ireturn, 1)) hU H
def b_X12_roundsOf_L4 (o0 : Nat) (x1 : Int32) (post : Int32 → Um → Prop) (k_27 : Int32 → Um → Prop) (rec_ : Int32 → Int32 → Um → Prop) (x2 : Int32) (x3 : Int32) (U : Um) : Prop :=
  ((7 : Int32) ≤ x3 → k_27 x2 U) ∧ (¬ (7 : Int32) ≤ x3 → w_X12_roundOf o0 x1 x3 (-1) (-1) U (fun r_2 U_1 => ∀ (x2_3 : Int32), x2_3 = x2 + r_2 → ∀ (x3_4 : Int32), x3_4 = x3 + 1 → rec_ x2_3 x3_4 U_1))
def w_X12_roundsOf_L4 (o0 : Nat) (x1 : Int32) (post : Int32 → Um → Prop) (k_27 : Int32 → Um → Prop) (n_ : Nat) : Int32 → Int32 → Um → Prop := Nat.rec (motive := fun _ => Int32 → Int32 → Um → Prop) (fun _ _ _ => False) (fun _ ih => b_X12_roundsOf_L4 o0 x1 post k_27 ih) n_
def w_X12_roundsOf (o : Nat) (a1 : Int32) (U : Um) (post : Int32 → Um → Prop) : Prop :=
  (∃ n_7, w_X12_roundsOf_L4 o a1 post (fun x2_5 U_6 => post x2_5 U_6) n_7 0 0 U)
set_option maxHeartbeats 4000000 in
theorem tl_X12_roundsOf_L4 {l : Launch} {Y : px_Y} {X : px_X} {h0 hh : pe_H} {sz : Nat} (o0 : Nat) (x1 : Int32) (post : Int32 → Um → Prop) (k_27 : Int32 → Um → Prop) (ho0 : oc o0 = 10)  (hC : px_C X Y.1 (pm_A hh sz) cX12_roundsOf RX12 4) (hM : px_M l X Y.1 hh sz yX12_roundsOf cX12_roundsOf 4 (some (.int)) 4 0 0) (hR : X.2.2.2.1 = pm_rm 4 0 0) (hk_27 : ∀ (y2 : Int32) (U : Um) (h : pe_H), k_27 y2 U → rF Y h0 U h → pw X Y.1 (pm_A hh sz) (pm_E X Y.1 hh sz 0 0 (pm_P Y h0 sz (pq_i post))) 27 [none, none, some (.int y2), none] [] h sz 0 0) : ∀ (n_ : Nat) (x2 : Int32) (x3 : Int32) (U : Um) (h : pe_H), rF Y h0 U h → w_X12_roundsOf_L4 o0 x1 post k_27 n_ x2 x3 U → pw X Y.1 (pm_A hh sz) (pm_E X Y.1 hh sz 0 0 (pm_P Y h0 sz (pq_i post))) 4 [some (.ref (Y.2.1 o0)), some (.int x1), some (.int x2), some (.int x3)] [] h sz 0 0 := by
  intro n_
  induction n_ with
  | zero => intro x2 x3 U h hU H; exact False.elim H
  | succ n_ ih =>
    intro x2 x3 U h hU H
    replace H : b_X12_roundsOf_L4 o0 x1 post k_27 (w_X12_roundsOf_L4 o0 x1 post k_27 n_) x2 x3 U := H
    unfold b_X12_roundsOf_L4 at H
    refine pr_iload_n hC (by decide +kernel : decode cX12_roundsOf 4 = .ok (.iload_n 3, 1)) rfl ?_
    refine pr_bipush hC (7) (by decide +kernel : decode cX12_roundsOf 5 = .ok (.bipush 7, 2)) rfl ?_
    refine pr_icmp_ge hC 27 (by decide +kernel : decode cX12_roundsOf 7 = .ok (.if_icmp .ge 20, 3)) (by decide) (fun c_7 => ?_) (fun c_7 => ?_)
    · replace H := H.1 c_7
      exact pv_sub [none, none, some (.int x2), none] (And.intro rfl trivial) (hk_27 _ U h H hU)
    replace H := H.2 c_7
    refine pr_iload_n hC (by decide +kernel : decode cX12_roundsOf 10 = .ok (.iload_n 2, 1)) rfl ?_
    refine pr_aload_n hC (by decide +kernel : decode cX12_roundsOf 11 = .ok (.aload_n 0, 1)) rfl ?_
    refine pr_iload_n hC (by decide +kernel : decode cX12_roundsOf 12 = .ok (.iload_n 1, 1)) rfl ?_
    refine pr_iload_n hC (by decide +kernel : decode cX12_roundsOf 13 = .ok (.iload_n 3, 1)) rfl ?_
    refine pr_iconst hC (-1) (by decide +kernel : decode cX12_roundsOf 14 = .ok (.iconst (-1), 1)) rfl ?_
    refine pr_iconst hC (-1) (by decide +kernel : decode cX12_roundsOf 15 = .ok (.iconst (-1), 1)) rfl ?_
    refine vc_Vi hC hR [.int x1, .int x3, .int (-1), .int (-1)] fv_X12_446 (by decide +kernel : decode cX12_roundsOf 16 = .ok (.invokevirtual 446, 3)) hU (t_X12_roundOf ho0 H) ho0 (by decide) rfl rfl rfl (Nat.le_of_ble_eq_true rfl) (Nat.le_of_ble_eq_true rfl) (Nat.le_refl 0) (Nat.le_refl 0) (fun r_2 U_1 h H hU => ?_)
    refine pr_iadd hC (by decide +kernel : decode cX12_roundsOf 19 = .ok (.iadd, 1)) ?_
    refine pv_topi (fun x2_3 e_x2_3 => ?_)
    replace H := H x2_3 e_x2_3
    refine pr_istore_n hC (by decide +kernel : decode cX12_roundsOf 20 = .ok (.istore_n 2, 1)) (by decide) rfl ?_
    refine pv_iinc hC (v := x3 + 1) (by decide +kernel : decode cX12_roundsOf 21 = .ok (.iinc 3 1, 3)) rfl (by decide) rfl rfl (fun x3_4 e_x3_4 => ?_)
    replace H := H x3_4 e_x3_4
    refine pr_goto hC 4 (by decide +kernel : decode cX12_roundsOf 24 = .ok (.goto (-20), 3)) (by decide) ?_
    exact pv_sub [some (.ref (Y.2.1 o0)), some (.int x1), some (.int x2_3), some (.int x3_4)] (And.intro rfl (And.intro rfl (And.intro rfl (And.intro rfl trivial)))) (ih _ _ U_1 h hU H)
set_option maxHeartbeats 4000000 in
theorem t_X12_roundsOf {l : Launch} {Y : px_Y} {o : Nat} {a1 : Int32} {U : Um} {post : Int32 → Um → Prop} (ho : oc o = 10) (H : w_X12_roundsOf o a1 U post) : um l Y 4 yX12_roundsOf cX12_roundsOf 4 (some (.int)) [.ref (Y.2.1 o), .int a1] U (pq_i post) := by
  unfold w_X12_roundsOf at H
  refine um_of (by decide) (Nat.le_of_ble_eq_true rfl) [some (.ref (Y.2.1 o)), some (.int a1), none, none] rfl (fun X h0 hh sz hM hU => ?_)
  have hC := hM.1
  have hR := hM.2.2.1
  refine pr_iconst hC (0) (by decide +kernel : decode cX12_roundsOf 0 = .ok (.iconst 0, 1)) rfl ?_
  refine pr_istore_n hC (by decide +kernel : decode cX12_roundsOf 1 = .ok (.istore_n 2, 1)) (by decide) rfl ?_
  refine pr_iconst hC (0) (by decide +kernel : decode cX12_roundsOf 2 = .ok (.iconst 0, 1)) rfl ?_
  refine pr_istore_n hC (by decide +kernel : decode cX12_roundsOf 3 = .ok (.istore_n 3, 1)) (by decide) rfl ?_
  obtain ⟨n_7, H⟩ := H
  refine pv_sub [some (.ref (Y.2.1 o)), some (.int a1), some (.int 0), some (.int 0)] (And.intro rfl (And.intro rfl (And.intro rfl (And.intro rfl trivial)))) ?_
  refine tl_X12_roundsOf_L4 _ _ _ _ ho hC hM hR (fun x2_5 U_6 h H hU => ?_) n_7 _ _ U hh hU H
  refine pr_iload_n hC (by decide +kernel : decode cX12_roundsOf 27 = .ok (.iload_n 2, 1)) rfl ?_
  exact pv_iret hM (by decide +kernel : decode cX12_roundsOf 28 = .ok (.ireturn, 1)) hU H
def b_X12_exchange_L43 (o0 : Nat) (x1 : Int32) (x5 : Int32) (post : Int32 → Um → Prop) (k_190 : Int32 → Int32 → Int32 → Um → Prop) (rec_ : Int32 → Int32 → Int32 → Int32 → Um → Prop) (x2 : Int32) (x3 : Int32) (x4 : Int32) (x6 : Int32) (U : Um) : Prop :=
  ((48 : Int32) ≤ x6 → k_190 x2 x3 x4 U) ∧ (¬ (48 : Int32) ≤ x6 → vp_in x5 48 ∧ ((uA U o0 30 (Int32.toNatClampNeg x5)) = (-1) → ∀ (x6_5 : Int32), x6_5 = x6 + 1 → rec_ x2 x3 x4 x6_5 U) ∧ (¬ (uA U o0 30 (Int32.toNatClampNeg x5)) = (-1) → vp_in x6 48 ∧ ((uA U o0 30 (Int32.toNatClampNeg x6)) = (-1) → ∀ (x6_6 : Int32), x6_6 = x6 + 1 → rec_ x2 x3 x4 x6_6 U) ∧ (¬ (uA U o0 30 (Int32.toNatClampNeg x6)) = (-1) → w_X12_swaps o0 (x5 / 3) (x5 - x5 / 3 * 3) (x6 / 3) (x6 - x6 / 3 * 3) U (fun r_8 U_7 => (r_8 = 0 → vp_in x5 48 ∧ ∀ (x7_9 : Int32), x7_9 = uA U_7 o0 30 (Int32.toNatClampNeg x5) → vp_in x6 48 ∧ ∀ (x8_10 : Int32), x8_10 = uA U_7 o0 30 (Int32.toNatClampNeg x6) → w_X12_roundsOf o0 x7_9 U_7 (fun r_12 U_11 => w_X12_roundsOf o0 x8_10 U_11 (fun r_14 U_13 => ∀ (x9_15 : Int32), x9_15 = r_12 + r_14 → w_X12_exchanges o0 x5 x6 U_13 (fun U_16 => w_X12_roundsOf o0 x7_9 U_16 (fun r_19 U_18 => w_X12_roundsOf o0 x8_10 U_18 (fun r_21 U_20 => ∀ (x9_22 : Int32), x9_22 = x9_15 - (r_19 + r_21) → w_X12_exchanges o0 x5 x6 U_20 (fun U_23 => (x2 < x9_22 → ∀ (x3_25 : Int32), x3_25 = x5 → ∀ (x4_26 : Int32), x4_26 = x6 → ∀ (x6_27 : Int32), x6_27 = x6 + 1 → rec_ x9_22 x3_25 x4_26 x6_27 U_23) ∧ (¬ x2 < x9_22 → ∀ (x6_28 : Int32), x6_28 = x6 + 1 → rec_ x2 x3 x4 x6_28 U_23)))))))) ∧ (¬ r_8 = 0 → ∀ (x6_29 : Int32), x6_29 = x6 + 1 → rec_ x2 x3 x4 x6_29 U_7)))))
def w_X12_exchange_L43 (o0 : Nat) (x1 : Int32) (x5 : Int32) (post : Int32 → Um → Prop) (k_190 : Int32 → Int32 → Int32 → Um → Prop) (n_ : Nat) : Int32 → Int32 → Int32 → Int32 → Um → Prop := Nat.rec (motive := fun _ => Int32 → Int32 → Int32 → Int32 → Um → Prop) (fun _ _ _ _ _ => False) (fun _ ih => b_X12_exchange_L43 o0 x1 x5 post k_190 ih) n_
def b_X12_exchange_L30 (o0 : Nat) (x1 : Int32) (post : Int32 → Um → Prop) (k_196 : Int32 → Int32 → Int32 → Um → Prop) (rec_ : Int32 → Int32 → Int32 → Int32 → Um → Prop) (x2 : Int32) (x3 : Int32) (x4 : Int32) (x5 : Int32) (U : Um) : Prop :=
  ((48 : Int32) ≤ x5 → k_196 x2 x3 x4 U) ∧ (¬ (48 : Int32) ≤ x5 → ∀ (x6_4 : Int32), x6_4 = x5 + 1 → (∃ n_35, w_X12_exchange_L43 o0 x1 x5 post (fun x2_30 x3_31 x4_32 U_33 => ∀ (x5_34 : Int32), x5_34 = x5 + 1 → rec_ x2_30 x3_31 x4_32 x5_34 U_33) n_35 x2 x3 x4 x6_4 U))
def w_X12_exchange_L30 (o0 : Nat) (x1 : Int32) (post : Int32 → Um → Prop) (k_196 : Int32 → Int32 → Int32 → Um → Prop) (n_ : Nat) : Int32 → Int32 → Int32 → Int32 → Um → Prop := Nat.rec (motive := fun _ => Int32 → Int32 → Int32 → Int32 → Um → Prop) (fun _ _ _ _ _ => False) (fun _ ih => b_X12_exchange_L30 o0 x1 post k_196 ih) n_
def w_X12_exchange (o : Nat) (a1 : Int32) (U : Um) (post : Int32 → Um → Prop) : Prop :=
  ∀ (U_1 : Um), U_1 = sI U o 0 0 → w_X12_isIn (Int32.toInt64 a1) 0 4 U_1 (fun r_3 U_2 => (r_3 = 0 → post (-2) U_2) ∧ (¬ r_3 = 0 → (∃ n_40, w_X12_exchange_L30 o a1 post (fun x2_36 x3_37 x4_38 U_39 => (a1 = 0 → (a1 = 0 → post x2_36 U_39) ∧ (¬ a1 = 0 → post (-1) U_39)) ∧ (¬ a1 = 0 → (x3_37 = (-1) → (a1 = 0 → post x2_36 U_39) ∧ (¬ a1 = 0 → post (-1) U_39)) ∧ (¬ x3_37 = (-1) → (a1 = 1 → post (x3_37 / 3) U_39) ∧ (¬ a1 = 1 → (a1 = 2 → post (x3_37 - x3_37 / 3 * 3) U_39) ∧ (¬ a1 = 2 → (a1 = 3 → post (x4_38 / 3) U_39) ∧ (¬ a1 = 3 → post (x4_38 - x4_38 / 3 * 3) U_39)))))) n_40 0 (-1) (-1) 0 U_2)))
set_option maxHeartbeats 4000000 in
theorem tl_X12_exchange_L43 {l : Launch} {Y : px_Y} {X : px_X} {h0 hh : pe_H} {sz : Nat} (o0 : Nat) (x1 : Int32) (x5 : Int32) (post : Int32 → Um → Prop) (k_190 : Int32 → Int32 → Int32 → Um → Prop) (ho0 : oc o0 = 10)  (hC : px_C X Y.1 (pm_A hh sz) cX12_exchange RX12 10) (hM : px_M l X Y.1 hh sz yX12_exchange cX12_exchange 10 (some (.int)) 5 0 0) (hR : X.2.2.2.1 = pm_rm 5 0 0) (hk_190 : ∀ (y2 : Int32) (y3 : Int32) (y4 : Int32) (U : Um) (h : pe_H), k_190 y2 y3 y4 U → rF Y h0 U h → pw X Y.1 (pm_A hh sz) (pm_E X Y.1 hh sz 0 0 (pm_P Y h0 sz (pq_i post))) 190 [some (.ref (Y.2.1 o0)), some (.int x1), some (.int y2), some (.int y3), some (.int y4), some (.int x5), none, none, none, none] [] h sz 0 0) : ∀ (n_ : Nat) (x2 : Int32) (x3 : Int32) (x4 : Int32) (x6 : Int32) (U : Um) (h : pe_H), rF Y h0 U h → w_X12_exchange_L43 o0 x1 x5 post k_190 n_ x2 x3 x4 x6 U → pw X Y.1 (pm_A hh sz) (pm_E X Y.1 hh sz 0 0 (pm_P Y h0 sz (pq_i post))) 43 [some (.ref (Y.2.1 o0)), some (.int x1), some (.int x2), some (.int x3), some (.int x4), some (.int x5), some (.int x6), none, none, none] [] h sz 0 0 := by
  intro n_
  induction n_ with
  | zero => intro x2 x3 x4 x6 U h hU H; exact False.elim H
  | succ n_ ih =>
    intro x2 x3 x4 x6 U h hU H
    replace H : b_X12_exchange_L43 o0 x1 x5 post k_190 (w_X12_exchange_L43 o0 x1 x5 post k_190 n_) x2 x3 x4 x6 U := H
    unfold b_X12_exchange_L43 at H
    refine pr_iload hC (by decide +kernel : decode cX12_exchange 43 = .ok (.iload 6, 2)) rfl ?_
    refine pr_bipush hC (48) (by decide +kernel : decode cX12_exchange 45 = .ok (.bipush 48, 2)) rfl ?_
    refine pr_icmp_ge hC 190 (by decide +kernel : decode cX12_exchange 47 = .ok (.if_icmp .ge 143, 3)) (by decide) (fun c_47 => ?_) (fun c_47 => ?_)
    · replace H := H.1 c_47
      exact pv_sub [some (.ref (Y.2.1 o0)), some (.int x1), some (.int x2), some (.int x3), some (.int x4), some (.int x5), none, none, none, none] (And.intro rfl (And.intro rfl (And.intro rfl (And.intro rfl (And.intro rfl (And.intro rfl trivial)))))) (hk_190 _ _ _ U h H hU)
    replace H := H.2 c_47
    refine pr_aload_n hC (by decide +kernel : decode cX12_exchange 50 = .ok (.aload_n 0, 1)) rfl ?_
    refine pu_g1 hC fg_X12_59 (by decide +kernel : decode cX12_exchange 51 = .ok (.getfield 59, 3)) hU ho0 (by decide) rfl (by decide) ?_
    refine pr_iload hC (by decide +kernel : decode cX12_exchange 54 = .ok (.iload 5, 2)) rfl ?_
    refine pu_iald hC (by decide +kernel : decode cX12_exchange 56 = .ok (.iaload, 1)) hU ho0 rfl H.1 ?_
    replace H := H.2
    refine pr_iconst hC (-1) (by decide +kernel : decode cX12_exchange 57 = .ok (.iconst (-1), 1)) rfl ?_
    refine pr_icmp_eq hC 184 (by decide +kernel : decode cX12_exchange 58 = .ok (.if_icmp .eq 126, 3)) (by decide) (fun c_58 => ?_) (fun c_58 => ?_)
    · replace H := H.1 c_58
      refine pv_iinc hC (v := x6 + 1) (by decide +kernel : decode cX12_exchange 184 = .ok (.iinc 6 1, 3)) rfl (by decide) rfl rfl (fun x6_5 e_x6_5 => ?_)
      replace H := H x6_5 e_x6_5
      refine pr_goto hC 43 (by decide +kernel : decode cX12_exchange 187 = .ok (.goto (-144), 3)) (by decide) ?_
      exact pv_sub [some (.ref (Y.2.1 o0)), some (.int x1), some (.int x2), some (.int x3), some (.int x4), some (.int x5), some (.int x6_5), none, none, none] (And.intro rfl (And.intro rfl (And.intro rfl (And.intro rfl (And.intro rfl (And.intro rfl (And.intro rfl trivial))))))) (ih _ _ _ _ U h hU H)
    replace H := H.2 c_58
    refine pr_aload_n hC (by decide +kernel : decode cX12_exchange 61 = .ok (.aload_n 0, 1)) rfl ?_
    refine pu_g1 hC fg_X12_59 (by decide +kernel : decode cX12_exchange 62 = .ok (.getfield 59, 3)) hU ho0 (by decide) rfl (by decide) ?_
    refine pr_iload hC (by decide +kernel : decode cX12_exchange 65 = .ok (.iload 6, 2)) rfl ?_
    refine pu_iald hC (by decide +kernel : decode cX12_exchange 67 = .ok (.iaload, 1)) hU ho0 rfl H.1 ?_
    replace H := H.2
    refine pr_iconst hC (-1) (by decide +kernel : decode cX12_exchange 68 = .ok (.iconst (-1), 1)) rfl ?_
    refine pr_icmp_eq hC 184 (by decide +kernel : decode cX12_exchange 69 = .ok (.if_icmp .eq 115, 3)) (by decide) (fun c_69 => ?_) (fun c_69 => ?_)
    · replace H := H.1 c_69
      refine pv_iinc hC (v := x6 + 1) (by decide +kernel : decode cX12_exchange 184 = .ok (.iinc 6 1, 3)) rfl (by decide) rfl rfl (fun x6_6 e_x6_6 => ?_)
      replace H := H x6_6 e_x6_6
      refine pr_goto hC 43 (by decide +kernel : decode cX12_exchange 187 = .ok (.goto (-144), 3)) (by decide) ?_
      exact pv_sub [some (.ref (Y.2.1 o0)), some (.int x1), some (.int x2), some (.int x3), some (.int x4), some (.int x5), some (.int x6_6), none, none, none] (And.intro rfl (And.intro rfl (And.intro rfl (And.intro rfl (And.intro rfl (And.intro rfl (And.intro rfl trivial))))))) (ih _ _ _ _ U h hU H)
    replace H := H.2 c_69
    refine pr_aload_n hC (by decide +kernel : decode cX12_exchange 72 = .ok (.aload_n 0, 1)) rfl ?_
    refine pr_iload hC (by decide +kernel : decode cX12_exchange 73 = .ok (.iload 5, 2)) rfl ?_
    refine pr_iconst hC (3) (by decide +kernel : decode cX12_exchange 75 = .ok (.iconst 3, 1)) rfl ?_
    refine pr_idiv hC (by decide +kernel : decode cX12_exchange 76 = .ok (.idiv, 1)) (by decide) ?_
    refine pr_iload hC (by decide +kernel : decode cX12_exchange 77 = .ok (.iload 5, 2)) rfl ?_
    refine pr_iconst hC (3) (by decide +kernel : decode cX12_exchange 79 = .ok (.iconst 3, 1)) rfl ?_
    refine pr_irem hC (by decide +kernel : decode cX12_exchange 80 = .ok (.irem, 1)) (by decide) ?_
    refine pr_iload hC (by decide +kernel : decode cX12_exchange 81 = .ok (.iload 6, 2)) rfl ?_
    refine pr_iconst hC (3) (by decide +kernel : decode cX12_exchange 83 = .ok (.iconst 3, 1)) rfl ?_
    refine pr_idiv hC (by decide +kernel : decode cX12_exchange 84 = .ok (.idiv, 1)) (by decide) ?_
    refine pr_iload hC (by decide +kernel : decode cX12_exchange 85 = .ok (.iload 6, 2)) rfl ?_
    refine pr_iconst hC (3) (by decide +kernel : decode cX12_exchange 87 = .ok (.iconst 3, 1)) rfl ?_
    refine pr_irem hC (by decide +kernel : decode cX12_exchange 88 = .ok (.irem, 1)) (by decide) ?_
    refine vc_Vi hC hR [.int (x5 / 3), .int (x5 - x5 / 3 * 3), .int (x6 / 3), .int (x6 - x6 / 3 * 3)] fv_X12_433 (by decide +kernel : decode cX12_exchange 89 = .ok (.invokevirtual 433, 3)) hU (t_X12_swaps ho0 H) ho0 (by decide) rfl rfl rfl (Nat.le_of_ble_eq_true rfl) (Nat.le_of_ble_eq_true rfl) (Nat.le_refl 0) (Nat.le_refl 0) (fun r_8 U_7 h H hU => ?_)
    refine pr_if_eq hC 98 (by decide +kernel : decode cX12_exchange 92 = .ok (.ifCond .eq 6, 3)) (by decide) (fun c_92 => ?_) (fun c_92 => ?_)
    · replace H := H.1 c_92
      refine pr_aload_n hC (by decide +kernel : decode cX12_exchange 98 = .ok (.aload_n 0, 1)) rfl ?_
      refine pu_g1 hC fg_X12_59 (by decide +kernel : decode cX12_exchange 99 = .ok (.getfield 59, 3)) hU ho0 (by decide) rfl (by decide) ?_
      refine pr_iload hC (by decide +kernel : decode cX12_exchange 102 = .ok (.iload 5, 2)) rfl ?_
      refine pu_iald hC (by decide +kernel : decode cX12_exchange 104 = .ok (.iaload, 1)) hU ho0 rfl H.1 ?_
      replace H := H.2
      refine pv_topi (fun x7_9 e_x7_9 => ?_)
      replace H := H x7_9 e_x7_9
      refine pr_istore hC (by decide +kernel : decode cX12_exchange 105 = .ok (.istore 7, 2)) (by decide) rfl ?_
      refine pr_aload_n hC (by decide +kernel : decode cX12_exchange 107 = .ok (.aload_n 0, 1)) rfl ?_
      refine pu_g1 hC fg_X12_59 (by decide +kernel : decode cX12_exchange 108 = .ok (.getfield 59, 3)) hU ho0 (by decide) rfl (by decide) ?_
      refine pr_iload hC (by decide +kernel : decode cX12_exchange 111 = .ok (.iload 6, 2)) rfl ?_
      refine pu_iald hC (by decide +kernel : decode cX12_exchange 113 = .ok (.iaload, 1)) hU ho0 rfl H.1 ?_
      replace H := H.2
      refine pv_topi (fun x8_10 e_x8_10 => ?_)
      replace H := H x8_10 e_x8_10
      refine pr_istore hC (by decide +kernel : decode cX12_exchange 114 = .ok (.istore 8, 2)) (by decide) rfl ?_
      refine pr_aload_n hC (by decide +kernel : decode cX12_exchange 116 = .ok (.aload_n 0, 1)) rfl ?_
      refine pr_iload hC (by decide +kernel : decode cX12_exchange 117 = .ok (.iload 7, 2)) rfl ?_
      refine vc_Vi hC hR [.int x7_9] fv_X12_507 (by decide +kernel : decode cX12_exchange 119 = .ok (.invokevirtual 507, 3)) hU (t_X12_roundsOf ho0 H) ho0 (by decide) rfl rfl rfl (Nat.le_of_ble_eq_true rfl) (Nat.le_of_ble_eq_true rfl) (Nat.le_refl 0) (Nat.le_refl 0) (fun r_12 U_11 h H hU => ?_)
      refine pr_aload_n hC (by decide +kernel : decode cX12_exchange 122 = .ok (.aload_n 0, 1)) rfl ?_
      refine pr_iload hC (by decide +kernel : decode cX12_exchange 123 = .ok (.iload 8, 2)) rfl ?_
      refine vc_Vi hC hR [.int x8_10] fv_X12_507 (by decide +kernel : decode cX12_exchange 125 = .ok (.invokevirtual 507, 3)) hU (t_X12_roundsOf ho0 H) ho0 (by decide) rfl rfl rfl (Nat.le_of_ble_eq_true rfl) (Nat.le_of_ble_eq_true rfl) (Nat.le_refl 0) (Nat.le_refl 0) (fun r_14 U_13 h H hU => ?_)
      refine pr_iadd hC (by decide +kernel : decode cX12_exchange 128 = .ok (.iadd, 1)) ?_
      refine pv_topi (fun x9_15 e_x9_15 => ?_)
      replace H := H x9_15 e_x9_15
      refine pr_istore hC (by decide +kernel : decode cX12_exchange 129 = .ok (.istore 9, 2)) (by decide) rfl ?_
      refine pr_aload_n hC (by decide +kernel : decode cX12_exchange 131 = .ok (.aload_n 0, 1)) rfl ?_
      refine pr_iload hC (by decide +kernel : decode cX12_exchange 132 = .ok (.iload 5, 2)) rfl ?_
      refine pr_iload hC (by decide +kernel : decode cX12_exchange 134 = .ok (.iload 6, 2)) rfl ?_
      refine vc_Vv hC hR [.int x5, .int x6] fv_X12_437 (by decide +kernel : decode cX12_exchange 136 = .ok (.invokevirtual 437, 3)) hU (t_X12_exchanges ho0 H) ho0 (by decide) rfl rfl rfl (Nat.le_of_ble_eq_true rfl) (Nat.le_of_ble_eq_true rfl) (Nat.le_refl 0) (Nat.le_refl 0) (fun U_16 h H hU => ?_)
      refine pr_iload hC (by decide +kernel : decode cX12_exchange 139 = .ok (.iload 9, 2)) rfl ?_
      refine pr_aload_n hC (by decide +kernel : decode cX12_exchange 141 = .ok (.aload_n 0, 1)) rfl ?_
      refine pr_iload hC (by decide +kernel : decode cX12_exchange 142 = .ok (.iload 7, 2)) rfl ?_
      refine vc_Vi hC hR [.int x7_9] fv_X12_507 (by decide +kernel : decode cX12_exchange 144 = .ok (.invokevirtual 507, 3)) hU (t_X12_roundsOf ho0 H) ho0 (by decide) rfl rfl rfl (Nat.le_of_ble_eq_true rfl) (Nat.le_of_ble_eq_true rfl) (Nat.le_refl 0) (Nat.le_refl 0) (fun r_19 U_18 h H hU => ?_)
      refine pr_aload_n hC (by decide +kernel : decode cX12_exchange 147 = .ok (.aload_n 0, 1)) rfl ?_
      refine pr_iload hC (by decide +kernel : decode cX12_exchange 148 = .ok (.iload 8, 2)) rfl ?_
      refine vc_Vi hC hR [.int x8_10] fv_X12_507 (by decide +kernel : decode cX12_exchange 150 = .ok (.invokevirtual 507, 3)) hU (t_X12_roundsOf ho0 H) ho0 (by decide) rfl rfl rfl (Nat.le_of_ble_eq_true rfl) (Nat.le_of_ble_eq_true rfl) (Nat.le_refl 0) (Nat.le_refl 0) (fun r_21 U_20 h H hU => ?_)
      refine pr_iadd hC (by decide +kernel : decode cX12_exchange 153 = .ok (.iadd, 1)) ?_
      refine pr_isub hC (by decide +kernel : decode cX12_exchange 154 = .ok (.isub, 1)) ?_
      refine pv_topi (fun x9_22 e_x9_22 => ?_)
      replace H := H x9_22 e_x9_22
      refine pr_istore hC (by decide +kernel : decode cX12_exchange 155 = .ok (.istore 9, 2)) (by decide) rfl ?_
      refine pr_aload_n hC (by decide +kernel : decode cX12_exchange 157 = .ok (.aload_n 0, 1)) rfl ?_
      refine pr_iload hC (by decide +kernel : decode cX12_exchange 158 = .ok (.iload 5, 2)) rfl ?_
      refine pr_iload hC (by decide +kernel : decode cX12_exchange 160 = .ok (.iload 6, 2)) rfl ?_
      refine vc_Vv hC hR [.int x5, .int x6] fv_X12_437 (by decide +kernel : decode cX12_exchange 162 = .ok (.invokevirtual 437, 3)) hU (t_X12_exchanges ho0 H) ho0 (by decide) rfl rfl rfl (Nat.le_of_ble_eq_true rfl) (Nat.le_of_ble_eq_true rfl) (Nat.le_refl 0) (Nat.le_refl 0) (fun U_23 h H hU => ?_)
      refine pr_iload hC (by decide +kernel : decode cX12_exchange 165 = .ok (.iload 9, 2)) rfl ?_
      refine pr_iload_n hC (by decide +kernel : decode cX12_exchange 167 = .ok (.iload_n 2, 1)) rfl ?_
      refine pr_icmp_gt hC 174 (by decide +kernel : decode cX12_exchange 168 = .ok (.if_icmp .gt 6, 3)) (by decide) (fun c_168 => ?_) (fun c_168 => ?_)
      · replace H := H.1 c_168
        refine pr_iload hC (by decide +kernel : decode cX12_exchange 174 = .ok (.iload 9, 2)) rfl ?_
        refine pr_istore_n hC (by decide +kernel : decode cX12_exchange 176 = .ok (.istore_n 2, 1)) (by decide) rfl ?_
        refine pr_iload hC (by decide +kernel : decode cX12_exchange 177 = .ok (.iload 5, 2)) rfl ?_
        refine pv_topi (fun x3_25 e_x3_25 => ?_)
        replace H := H x3_25 e_x3_25
        refine pr_istore_n hC (by decide +kernel : decode cX12_exchange 179 = .ok (.istore_n 3, 1)) (by decide) rfl ?_
        refine pr_iload hC (by decide +kernel : decode cX12_exchange 180 = .ok (.iload 6, 2)) rfl ?_
        refine pv_topi (fun x4_26 e_x4_26 => ?_)
        replace H := H x4_26 e_x4_26
        refine pr_istore hC (by decide +kernel : decode cX12_exchange 182 = .ok (.istore 4, 2)) (by decide) rfl ?_
        refine pv_iinc hC (v := x6 + 1) (by decide +kernel : decode cX12_exchange 184 = .ok (.iinc 6 1, 3)) rfl (by decide) rfl rfl (fun x6_27 e_x6_27 => ?_)
        replace H := H x6_27 e_x6_27
        refine pr_goto hC 43 (by decide +kernel : decode cX12_exchange 187 = .ok (.goto (-144), 3)) (by decide) ?_
        exact pv_sub [some (.ref (Y.2.1 o0)), some (.int x1), some (.int x9_22), some (.int x3_25), some (.int x4_26), some (.int x5), some (.int x6_27), none, none, none] (And.intro rfl (And.intro rfl (And.intro rfl (And.intro rfl (And.intro rfl (And.intro rfl (And.intro rfl trivial))))))) (ih _ _ _ _ U_23 h hU H)
      replace H := H.2 c_168
      refine pr_goto hC 184 (by decide +kernel : decode cX12_exchange 171 = .ok (.goto 13, 3)) (by decide) ?_
      refine pv_iinc hC (v := x6 + 1) (by decide +kernel : decode cX12_exchange 184 = .ok (.iinc 6 1, 3)) rfl (by decide) rfl rfl (fun x6_28 e_x6_28 => ?_)
      replace H := H x6_28 e_x6_28
      refine pr_goto hC 43 (by decide +kernel : decode cX12_exchange 187 = .ok (.goto (-144), 3)) (by decide) ?_
      exact pv_sub [some (.ref (Y.2.1 o0)), some (.int x1), some (.int x2), some (.int x3), some (.int x4), some (.int x5), some (.int x6_28), none, none, none] (And.intro rfl (And.intro rfl (And.intro rfl (And.intro rfl (And.intro rfl (And.intro rfl (And.intro rfl trivial))))))) (ih _ _ _ _ U_23 h hU H)
    replace H := H.2 c_92
    refine pr_goto hC 184 (by decide +kernel : decode cX12_exchange 95 = .ok (.goto 89, 3)) (by decide) ?_
    refine pv_iinc hC (v := x6 + 1) (by decide +kernel : decode cX12_exchange 184 = .ok (.iinc 6 1, 3)) rfl (by decide) rfl rfl (fun x6_29 e_x6_29 => ?_)
    replace H := H x6_29 e_x6_29
    refine pr_goto hC 43 (by decide +kernel : decode cX12_exchange 187 = .ok (.goto (-144), 3)) (by decide) ?_
    exact pv_sub [some (.ref (Y.2.1 o0)), some (.int x1), some (.int x2), some (.int x3), some (.int x4), some (.int x5), some (.int x6_29), none, none, none] (And.intro rfl (And.intro rfl (And.intro rfl (And.intro rfl (And.intro rfl (And.intro rfl (And.intro rfl trivial))))))) (ih _ _ _ _ U_7 h hU H)
set_option maxHeartbeats 4000000 in
theorem tl_X12_exchange_L30 {l : Launch} {Y : px_Y} {X : px_X} {h0 hh : pe_H} {sz : Nat} (o0 : Nat) (x1 : Int32) (post : Int32 → Um → Prop) (k_196 : Int32 → Int32 → Int32 → Um → Prop) (ho0 : oc o0 = 10)  (hC : px_C X Y.1 (pm_A hh sz) cX12_exchange RX12 10) (hM : px_M l X Y.1 hh sz yX12_exchange cX12_exchange 10 (some (.int)) 5 0 0) (hR : X.2.2.2.1 = pm_rm 5 0 0) (hk_196 : ∀ (y2 : Int32) (y3 : Int32) (y4 : Int32) (U : Um) (h : pe_H), k_196 y2 y3 y4 U → rF Y h0 U h → pw X Y.1 (pm_A hh sz) (pm_E X Y.1 hh sz 0 0 (pm_P Y h0 sz (pq_i post))) 196 [none, some (.int x1), some (.int y2), some (.int y3), some (.int y4), none, none, none, none, none] [] h sz 0 0) : ∀ (n_ : Nat) (x2 : Int32) (x3 : Int32) (x4 : Int32) (x5 : Int32) (U : Um) (h : pe_H), rF Y h0 U h → w_X12_exchange_L30 o0 x1 post k_196 n_ x2 x3 x4 x5 U → pw X Y.1 (pm_A hh sz) (pm_E X Y.1 hh sz 0 0 (pm_P Y h0 sz (pq_i post))) 30 [some (.ref (Y.2.1 o0)), some (.int x1), some (.int x2), some (.int x3), some (.int x4), some (.int x5), none, none, none, none] [] h sz 0 0 := by
  intro n_
  induction n_ with
  | zero => intro x2 x3 x4 x5 U h hU H; exact False.elim H
  | succ n_ ih =>
    intro x2 x3 x4 x5 U h hU H
    replace H : b_X12_exchange_L30 o0 x1 post k_196 (w_X12_exchange_L30 o0 x1 post k_196 n_) x2 x3 x4 x5 U := H
    unfold b_X12_exchange_L30 at H
    refine pr_iload hC (by decide +kernel : decode cX12_exchange 30 = .ok (.iload 5, 2)) rfl ?_
    refine pr_bipush hC (48) (by decide +kernel : decode cX12_exchange 32 = .ok (.bipush 48, 2)) rfl ?_
    refine pr_icmp_ge hC 196 (by decide +kernel : decode cX12_exchange 34 = .ok (.if_icmp .ge 162, 3)) (by decide) (fun c_34 => ?_) (fun c_34 => ?_)
    · replace H := H.1 c_34
      exact pv_sub [none, some (.int x1), some (.int x2), some (.int x3), some (.int x4), none, none, none, none, none] (And.intro rfl (And.intro rfl (And.intro rfl (And.intro rfl trivial)))) (hk_196 _ _ _ U h H hU)
    replace H := H.2 c_34
    refine pr_iload hC (by decide +kernel : decode cX12_exchange 37 = .ok (.iload 5, 2)) rfl ?_
    refine pr_iconst hC (1) (by decide +kernel : decode cX12_exchange 39 = .ok (.iconst 1, 1)) rfl ?_
    refine pr_iadd hC (by decide +kernel : decode cX12_exchange 40 = .ok (.iadd, 1)) ?_
    refine pv_topi (fun x6_4 e_x6_4 => ?_)
    replace H := H x6_4 e_x6_4
    refine pr_istore hC (by decide +kernel : decode cX12_exchange 41 = .ok (.istore 6, 2)) (by decide) rfl ?_
    obtain ⟨n_35, H⟩ := H
    refine pv_sub [some (.ref (Y.2.1 o0)), some (.int x1), some (.int x2), some (.int x3), some (.int x4), some (.int x5), some (.int x6_4), none, none, none] (And.intro rfl (And.intro rfl (And.intro rfl (And.intro rfl (And.intro rfl (And.intro rfl (And.intro rfl trivial))))))) ?_
    refine tl_X12_exchange_L43 _ _ _ _ _ ho0 hC hM hR (fun x2_30 x3_31 x4_32 U_33 h H hU => ?_) n_35 _ _ _ _ U h hU H
    refine pv_iinc hC (v := x5 + 1) (by decide +kernel : decode cX12_exchange 190 = .ok (.iinc 5 1, 3)) rfl (by decide) rfl rfl (fun x5_34 e_x5_34 => ?_)
    replace H := H x5_34 e_x5_34
    refine pr_goto hC 30 (by decide +kernel : decode cX12_exchange 193 = .ok (.goto (-163), 3)) (by decide) ?_
    exact pv_sub [some (.ref (Y.2.1 o0)), some (.int x1), some (.int x2_30), some (.int x3_31), some (.int x4_32), some (.int x5_34), none, none, none, none] (And.intro rfl (And.intro rfl (And.intro rfl (And.intro rfl (And.intro rfl (And.intro rfl trivial)))))) (ih _ _ _ _ U_33 h hU H)
set_option maxHeartbeats 4000000 in
theorem t_X12_exchange {l : Launch} {Y : px_Y} {o : Nat} {a1 : Int32} {U : Um} {post : Int32 → Um → Prop} (ho : oc o = 10) (H : w_X12_exchange o a1 U post) : um l Y 5 yX12_exchange cX12_exchange 10 (some (.int)) [.ref (Y.2.1 o), .int a1] U (pq_i post) := by
  unfold w_X12_exchange at H
  refine um_of (by decide) (Nat.le_of_ble_eq_true rfl) [some (.ref (Y.2.1 o)), some (.int a1), none, none, none, none, none, none, none, none] rfl (fun X h0 hh sz hM hU => ?_)
  have hC := hM.1
  have hR := hM.2.2.1
  refine pr_aload_n hC (by decide +kernel : decode cX12_exchange 0 = .ok (.aload_n 0, 1)) rfl ?_
  refine pr_iconst hC (0) (by decide +kernel : decode cX12_exchange 1 = .ok (.iconst 0, 1)) rfl ?_
  refine pv_p0 hC fp_X12_121 (by decide +kernel : decode cX12_exchange 2 = .ok (.putfield 121, 3)) hU ho (by decide) rfl rfl rfl rfl (fun U_1 h e_U_1 hU => ?_)
  replace H := H U_1 e_U_1
  refine pr_iload_n hC (by decide +kernel : decode cX12_exchange 5 = .ok (.iload_n 1, 1)) rfl ?_
  refine pr_i2l hC (by decide +kernel : decode cX12_exchange 6 = .ok (.i2l, 1)) ?_
  refine pr_lconst hC (0) (by decide +kernel : decode cX12_exchange 7 = .ok (.lconst 0, 1)) rfl ?_
  refine pr_ldc2 hC (4) (by decide +kernel : decode cX12_exchange 8 = .ok (.ldc2_w 499, 3)) fk_X12_499 ?_
  refine vc_Si hC hR [.long (Int32.toInt64 a1), .long 0, .long 4] fv_X12_131 (by decide +kernel : decode cX12_exchange 11 = .ok (.invokestatic 131, 3)) hU (t_X12_isIn  H) rfl rfl (Nat.le_of_ble_eq_true rfl) (Nat.le_of_ble_eq_true rfl) (Nat.le_refl 0) (Nat.le_refl 0) (fun r_3 U_2 h H hU => ?_)
  refine pr_if_ne hC 20 (by decide +kernel : decode cX12_exchange 14 = .ok (.ifCond .ne 6, 3)) (by decide) (fun c_14 => ?_) (fun c_14 => ?_)
  · replace H := H.2 c_14
    refine pr_iconst hC (0) (by decide +kernel : decode cX12_exchange 20 = .ok (.iconst 0, 1)) rfl ?_
    refine pr_istore_n hC (by decide +kernel : decode cX12_exchange 21 = .ok (.istore_n 2, 1)) (by decide) rfl ?_
    refine pr_iconst hC (-1) (by decide +kernel : decode cX12_exchange 22 = .ok (.iconst (-1), 1)) rfl ?_
    refine pr_istore_n hC (by decide +kernel : decode cX12_exchange 23 = .ok (.istore_n 3, 1)) (by decide) rfl ?_
    refine pr_iconst hC (-1) (by decide +kernel : decode cX12_exchange 24 = .ok (.iconst (-1), 1)) rfl ?_
    refine pr_istore hC (by decide +kernel : decode cX12_exchange 25 = .ok (.istore 4, 2)) (by decide) rfl ?_
    refine pr_iconst hC (0) (by decide +kernel : decode cX12_exchange 27 = .ok (.iconst 0, 1)) rfl ?_
    refine pr_istore hC (by decide +kernel : decode cX12_exchange 28 = .ok (.istore 5, 2)) (by decide) rfl ?_
    obtain ⟨n_40, H⟩ := H
    refine pv_sub [some (.ref (Y.2.1 o)), some (.int a1), some (.int 0), some (.int (-1)), some (.int (-1)), some (.int 0), none, none, none, none] (And.intro rfl (And.intro rfl (And.intro rfl (And.intro rfl (And.intro rfl (And.intro rfl trivial)))))) ?_
    refine tl_X12_exchange_L30 _ _ _ _ ho hC hM hR (fun x2_36 x3_37 x4_38 U_39 h H hU => ?_) n_40 _ _ _ _ U_2 h hU H
    refine pr_iload_n hC (by decide +kernel : decode cX12_exchange 196 = .ok (.iload_n 1, 1)) rfl ?_
    refine pr_if_eq hC 205 (by decide +kernel : decode cX12_exchange 197 = .ok (.ifCond .eq 8, 3)) (by decide) (fun c_197 => ?_) (fun c_197 => ?_)
    · replace H := H.1 c_197
      refine pr_iload_n hC (by decide +kernel : decode cX12_exchange 205 = .ok (.iload_n 1, 1)) rfl ?_
      refine pr_if_ne hC 213 (by decide +kernel : decode cX12_exchange 206 = .ok (.ifCond .ne 7, 3)) (by decide) (fun c_206 => ?_) (fun c_206 => ?_)
      · replace H := H.2 c_206
        refine pr_iconst hC (-1) (by decide +kernel : decode cX12_exchange 213 = .ok (.iconst (-1), 1)) rfl ?_
        exact pv_iret hM (by decide +kernel : decode cX12_exchange 214 = .ok (.ireturn, 1)) hU H
      replace H := H.1 c_206
      refine pr_iload_n hC (by decide +kernel : decode cX12_exchange 209 = .ok (.iload_n 2, 1)) rfl ?_
      refine pr_goto hC 214 (by decide +kernel : decode cX12_exchange 210 = .ok (.goto 4, 3)) (by decide) ?_
      exact pv_iret hM (by decide +kernel : decode cX12_exchange 214 = .ok (.ireturn, 1)) hU H
    replace H := H.2 c_197
    refine pr_iload_n hC (by decide +kernel : decode cX12_exchange 200 = .ok (.iload_n 3, 1)) rfl ?_
    refine pr_iconst hC (-1) (by decide +kernel : decode cX12_exchange 201 = .ok (.iconst (-1), 1)) rfl ?_
    refine pr_icmp_ne hC 215 (by decide +kernel : decode cX12_exchange 202 = .ok (.if_icmp .ne 13, 3)) (by decide) (fun c_202 => ?_) (fun c_202 => ?_)
    · replace H := H.2 c_202
      refine pr_iload_n hC (by decide +kernel : decode cX12_exchange 215 = .ok (.iload_n 1, 1)) rfl ?_
      refine pr_iconst hC (1) (by decide +kernel : decode cX12_exchange 216 = .ok (.iconst 1, 1)) rfl ?_
      refine pr_icmp_ne hC 226 (by decide +kernel : decode cX12_exchange 217 = .ok (.if_icmp .ne 9, 3)) (by decide) (fun c_217 => ?_) (fun c_217 => ?_)
      · replace H := H.2 c_217
        refine pr_iload_n hC (by decide +kernel : decode cX12_exchange 226 = .ok (.iload_n 1, 1)) rfl ?_
        refine pr_iconst hC (2) (by decide +kernel : decode cX12_exchange 227 = .ok (.iconst 2, 1)) rfl ?_
        refine pr_icmp_ne hC 237 (by decide +kernel : decode cX12_exchange 228 = .ok (.if_icmp .ne 9, 3)) (by decide) (fun c_228 => ?_) (fun c_228 => ?_)
        · replace H := H.2 c_228
          refine pr_iload_n hC (by decide +kernel : decode cX12_exchange 237 = .ok (.iload_n 1, 1)) rfl ?_
          refine pr_iconst hC (3) (by decide +kernel : decode cX12_exchange 238 = .ok (.iconst 3, 1)) rfl ?_
          refine pr_icmp_ne hC 249 (by decide +kernel : decode cX12_exchange 239 = .ok (.if_icmp .ne 10, 3)) (by decide) (fun c_239 => ?_) (fun c_239 => ?_)
          · replace H := H.2 c_239
            refine pr_iload hC (by decide +kernel : decode cX12_exchange 249 = .ok (.iload 4, 2)) rfl ?_
            refine pr_iconst hC (3) (by decide +kernel : decode cX12_exchange 251 = .ok (.iconst 3, 1)) rfl ?_
            refine pr_irem hC (by decide +kernel : decode cX12_exchange 252 = .ok (.irem, 1)) (by decide) ?_
            exact pv_iret hM (by decide +kernel : decode cX12_exchange 253 = .ok (.ireturn, 1)) hU H
          replace H := H.1 c_239
          refine pr_iload hC (by decide +kernel : decode cX12_exchange 242 = .ok (.iload 4, 2)) rfl ?_
          refine pr_iconst hC (3) (by decide +kernel : decode cX12_exchange 244 = .ok (.iconst 3, 1)) rfl ?_
          refine pr_idiv hC (by decide +kernel : decode cX12_exchange 245 = .ok (.idiv, 1)) (by decide) ?_
          refine pr_goto hC 253 (by decide +kernel : decode cX12_exchange 246 = .ok (.goto 7, 3)) (by decide) ?_
          exact pv_iret hM (by decide +kernel : decode cX12_exchange 253 = .ok (.ireturn, 1)) hU H
        replace H := H.1 c_228
        refine pr_iload_n hC (by decide +kernel : decode cX12_exchange 231 = .ok (.iload_n 3, 1)) rfl ?_
        refine pr_iconst hC (3) (by decide +kernel : decode cX12_exchange 232 = .ok (.iconst 3, 1)) rfl ?_
        refine pr_irem hC (by decide +kernel : decode cX12_exchange 233 = .ok (.irem, 1)) (by decide) ?_
        refine pr_goto hC 253 (by decide +kernel : decode cX12_exchange 234 = .ok (.goto 19, 3)) (by decide) ?_
        exact pv_iret hM (by decide +kernel : decode cX12_exchange 253 = .ok (.ireturn, 1)) hU H
      replace H := H.1 c_217
      refine pr_iload_n hC (by decide +kernel : decode cX12_exchange 220 = .ok (.iload_n 3, 1)) rfl ?_
      refine pr_iconst hC (3) (by decide +kernel : decode cX12_exchange 221 = .ok (.iconst 3, 1)) rfl ?_
      refine pr_idiv hC (by decide +kernel : decode cX12_exchange 222 = .ok (.idiv, 1)) (by decide) ?_
      refine pr_goto hC 253 (by decide +kernel : decode cX12_exchange 223 = .ok (.goto 30, 3)) (by decide) ?_
      exact pv_iret hM (by decide +kernel : decode cX12_exchange 253 = .ok (.ireturn, 1)) hU H
    replace H := H.1 c_202
    refine pr_iload_n hC (by decide +kernel : decode cX12_exchange 205 = .ok (.iload_n 1, 1)) rfl ?_
    refine pr_if_ne hC 213 (by decide +kernel : decode cX12_exchange 206 = .ok (.ifCond .ne 7, 3)) (by decide) (fun c_206 => ?_) (fun c_206 => ?_)
    · replace H := H.2 c_206
      refine pr_iconst hC (-1) (by decide +kernel : decode cX12_exchange 213 = .ok (.iconst (-1), 1)) rfl ?_
      exact pv_iret hM (by decide +kernel : decode cX12_exchange 214 = .ok (.ireturn, 1)) hU H
    replace H := H.1 c_206
    refine pr_iload_n hC (by decide +kernel : decode cX12_exchange 209 = .ok (.iload_n 2, 1)) rfl ?_
    refine pr_goto hC 214 (by decide +kernel : decode cX12_exchange 210 = .ok (.goto 4, 3)) (by decide) ?_
    exact pv_iret hM (by decide +kernel : decode cX12_exchange 214 = .ok (.ireturn, 1)) hU H
  replace H := H.1 c_14
  refine pr_bipush hC (-2) (by decide +kernel : decode cX12_exchange 17 = .ok (.bipush (-2), 2)) rfl ?_
  exact pv_iret hM (by decide +kernel : decode cX12_exchange 19 = .ok (.ireturn, 1)) hU H
