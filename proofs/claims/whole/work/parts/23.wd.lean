def b_X6_spreadOfSeats_L25 (o0 : Nat) (x1 : Int32) (post : Int32 → Um → Prop) (k_94 : Int32 → Int32 → Um → Prop) (rec_ : Int32 → Int32 → Int32 → Um → Prop) (x2 : Int32) (x3 : Int32) (x4 : Int32) (U : Um) : Prop :=
  w_X6_officials o0 U (fun r_4 U_3 => (r_4 ≤ x4 → k_94 x2 x3 U_3) ∧ (¬ r_4 ≤ x4 → vp_in x4 10 ∧ w_J6_bitCount_0f7a4 (uA U_3 o0 7 (Int32.toNatClampNeg x4)) U_3 (fun r_6 U_5 => vp_in x2 10 ∧ w_J6_bitCount_0f7a4 (uA U_5 o0 7 (Int32.toNatClampNeg x2)) U_5 (fun r_8 U_7 => ∀ (xs_9 : Int32), xs_9 = (if r_6 ≤ r_8 then x2 else x4) → vp_in x3 10 ∧ w_J6_bitCount_0f7a4 (uA U_7 o0 7 (Int32.toNatClampNeg x3)) U_7 (fun r_11 U_10 => (r_11 ≤ r_6 → ∀ (x3_12 : Int32), x3_12 = x3 → ∀ (x4_13 : Int32), x4_13 = x4 + 1 → rec_ xs_9 x3_12 x4_13 U_10) ∧ (¬ r_11 ≤ r_6 → ∀ (x3_14 : Int32), x3_14 = x4 → ∀ (x4_15 : Int32), x4_15 = x4 + 1 → rec_ xs_9 x3_14 x4_15 U_10))))))
def w_X6_spreadOfSeats_L25 (o0 : Nat) (x1 : Int32) (post : Int32 → Um → Prop) (k_94 : Int32 → Int32 → Um → Prop) (n_ : Nat) : Int32 → Int32 → Int32 → Um → Prop := Nat.rec (motive := fun _ => Int32 → Int32 → Int32 → Um → Prop) (fun _ _ _ _ => False) (fun _ ih => b_X6_spreadOfSeats_L25 o0 x1 post k_94 ih) n_
def w_X6_spreadOfSeats (o : Nat) (a1 : Int32) (U : Um) (post : Int32 → Um → Prop) : Prop :=
  (a1 < 0 → post (-1) U) ∧ (¬ a1 < 0 → ((2 : Int32) < a1 → post (-1) U) ∧ (¬ (2 : Int32) < a1 → w_X6_officials o U (fun r_2 U_1 => (r_2 = 0 → post (-1) U_1) ∧ (¬ r_2 = 0 → (∃ n_24, w_X6_spreadOfSeats_L25 o a1 post (fun x2_17 x3_18 U_19 => (a1 = 0 → vp_in x2_17 10 ∧ w_J6_bitCount_0f7a4 (uA U_19 o 7 (Int32.toNatClampNeg x2_17)) U_19 (fun r_21 U_20 => vp_in x3_18 10 ∧ w_J6_bitCount_0f7a4 (uA U_20 o 7 (Int32.toNatClampNeg x3_18)) U_20 (fun r_23 U_22 => post (r_21 - r_23) U_22))) ∧ (¬ a1 = 0 → (a1 = 1 → post x2_17 U_19) ∧ (¬ a1 = 1 → post x3_18 U_19))) n_24 0 0 1 U_1)))))
set_option maxHeartbeats 4000000 in
theorem tl_X6_spreadOfSeats_L25 {l : Launch} {Y : px_Y} {X : px_X} {h0 hh : pe_H} {sz : Nat} (o0 : Nat) (x1 : Int32) (post : Int32 → Um → Prop) (k_94 : Int32 → Int32 → Um → Prop) (ho0 : oc o0 = 5)  (hC : px_C X Y.1 (pm_A hh sz) cX6_spreadOfSeats RX6 6) (hM : px_M l X Y.1 hh sz yX6_spreadOfSeats cX6_spreadOfSeats 6 (some (.int)) 1 0 0) (hR : X.2.2.2.1 = pm_rm 1 0 0) (hk_94 : ∀ (y2 : Int32) (y3 : Int32) (U : Um) (h : pe_H), k_94 y2 y3 U → rF Y h0 U h → pw X Y.1 (pm_A hh sz) (pm_E X Y.1 hh sz 0 0 (pm_P Y h0 sz (pq_i post))) 94 [some (.ref (Y.2.1 o0)), some (.int x1), some (.int y2), some (.int y3), none, none] [] h sz 0 0) : ∀ (n_ : Nat) (x2 : Int32) (x3 : Int32) (x4 : Int32) (U : Um) (h : pe_H), rF Y h0 U h → w_X6_spreadOfSeats_L25 o0 x1 post k_94 n_ x2 x3 x4 U → pw X Y.1 (pm_A hh sz) (pm_E X Y.1 hh sz 0 0 (pm_P Y h0 sz (pq_i post))) 25 [some (.ref (Y.2.1 o0)), some (.int x1), some (.int x2), some (.int x3), some (.int x4), none] [] h sz 0 0 := by
  intro n_
  induction n_ with
  | zero => intro x2 x3 x4 U h hU H; exact False.elim H
  | succ n_ ih =>
    intro x2 x3 x4 U h hU H
    replace H : b_X6_spreadOfSeats_L25 o0 x1 post k_94 (w_X6_spreadOfSeats_L25 o0 x1 post k_94 n_) x2 x3 x4 U := H
    unfold b_X6_spreadOfSeats_L25 at H
    refine pr_iload hC (by decide +kernel : decode cX6_spreadOfSeats 25 = .ok (.iload 4, 2)) rfl ?_
    refine pr_aload_n hC (by decide +kernel : decode cX6_spreadOfSeats 27 = .ok (.aload_n 0, 1)) rfl ?_
    refine vc_Vi hC hR [] fv_X6_75 (by decide +kernel : decode cX6_spreadOfSeats 28 = .ok (.invokevirtual 75, 3)) hU (t_X6_officials ho0 H) ho0 (by decide) rfl rfl rfl (Nat.le_of_ble_eq_true rfl) (Nat.le_of_ble_eq_true rfl) (Nat.le_refl 0) (Nat.le_refl 0) (fun r_4 U_3 h H hU => ?_)
    refine pr_icmp_ge hC 94 (by decide +kernel : decode cX6_spreadOfSeats 31 = .ok (.if_icmp .ge 63, 3)) (by decide) (fun c_31 => ?_) (fun c_31 => ?_)
    · replace H := H.1 c_31
      exact pv_sub [some (.ref (Y.2.1 o0)), some (.int x1), some (.int x2), some (.int x3), none, none] (And.intro rfl (And.intro rfl (And.intro rfl (And.intro rfl trivial)))) (hk_94 _ _ U_3 h H hU)
    replace H := H.2 c_31
    refine pr_aload_n hC (by decide +kernel : decode cX6_spreadOfSeats 34 = .ok (.aload_n 0, 1)) rfl ?_
    refine pu_g1 hC fg_X6_28 (by decide +kernel : decode cX6_spreadOfSeats 35 = .ok (.getfield 28, 3)) hU ho0 (by decide) rfl (by decide) ?_
    refine pr_iload hC (by decide +kernel : decode cX6_spreadOfSeats 38 = .ok (.iload 4, 2)) rfl ?_
    refine pu_iald hC (by decide +kernel : decode cX6_spreadOfSeats 40 = .ok (.iaload, 1)) hU ho0 rfl H.1 ?_
    replace H := H.2
    refine vc_Si hC hR [.int (uA U_3 o0 7 (Int32.toNatClampNeg x4))] fv_X6_79 (by decide +kernel : decode cX6_spreadOfSeats 41 = .ok (.invokestatic 79, 3)) hU (t_J6_bitCount_0f7a4  H) rfl rfl (Nat.le_of_ble_eq_true rfl) (Nat.le_of_ble_eq_true rfl) (Nat.le_refl 0) (Nat.le_refl 0) (fun r_6 U_5 h H hU => ?_)
    refine pr_istore hC (by decide +kernel : decode cX6_spreadOfSeats 44 = .ok (.istore 5, 2)) (by decide) rfl ?_
    refine pr_iload hC (by decide +kernel : decode cX6_spreadOfSeats 46 = .ok (.iload 5, 2)) rfl ?_
    refine pr_aload_n hC (by decide +kernel : decode cX6_spreadOfSeats 48 = .ok (.aload_n 0, 1)) rfl ?_
    refine pu_g1 hC fg_X6_28 (by decide +kernel : decode cX6_spreadOfSeats 49 = .ok (.getfield 28, 3)) hU ho0 (by decide) rfl (by decide) ?_
    refine pr_iload_n hC (by decide +kernel : decode cX6_spreadOfSeats 52 = .ok (.iload_n 2, 1)) rfl ?_
    refine pu_iald hC (by decide +kernel : decode cX6_spreadOfSeats 53 = .ok (.iaload, 1)) hU ho0 rfl H.1 ?_
    replace H := H.2
    refine vc_Si hC hR [.int (uA U_5 o0 7 (Int32.toNatClampNeg x2))] fv_X6_79 (by decide +kernel : decode cX6_spreadOfSeats 54 = .ok (.invokestatic 79, 3)) hU (t_J6_bitCount_0f7a4  H) rfl rfl (Nat.le_of_ble_eq_true rfl) (Nat.le_of_ble_eq_true rfl) (Nat.le_refl 0) (Nat.le_refl 0) (fun r_8 U_7 h H hU => ?_)
    have HJ_16 : ∀ (xs_9 : Int32), xs_9 = (if r_6 ≤ r_8 then x2 else x4) → pw X Y.1 (pm_A hh sz) (pm_E X Y.1 hh sz 0 0 (pm_P Y h0 sz (pq_i post))) 66 [some (.ref (Y.2.1 o0)), some (.int x1), none, some (.int x3), some (.int x4), some (.int r_6)] [.int xs_9] h sz 0 0 := by
      intro xs_9 e_xs_9
      replace H := H xs_9 e_xs_9
      refine pr_istore_n hC (by decide +kernel : decode cX6_spreadOfSeats 66 = .ok (.istore_n 2, 1)) (by decide) rfl ?_
      refine pr_iload hC (by decide +kernel : decode cX6_spreadOfSeats 67 = .ok (.iload 5, 2)) rfl ?_
      refine pr_aload_n hC (by decide +kernel : decode cX6_spreadOfSeats 69 = .ok (.aload_n 0, 1)) rfl ?_
      refine pu_g1 hC fg_X6_28 (by decide +kernel : decode cX6_spreadOfSeats 70 = .ok (.getfield 28, 3)) hU ho0 (by decide) rfl (by decide) ?_
      refine pr_iload_n hC (by decide +kernel : decode cX6_spreadOfSeats 73 = .ok (.iload_n 3, 1)) rfl ?_
      refine pu_iald hC (by decide +kernel : decode cX6_spreadOfSeats 74 = .ok (.iaload, 1)) hU ho0 rfl H.1 ?_
      replace H := H.2
      refine vc_Si hC hR [.int (uA U_7 o0 7 (Int32.toNatClampNeg x3))] fv_X6_79 (by decide +kernel : decode cX6_spreadOfSeats 75 = .ok (.invokestatic 79, 3)) hU (t_J6_bitCount_0f7a4  H) rfl rfl (Nat.le_of_ble_eq_true rfl) (Nat.le_of_ble_eq_true rfl) (Nat.le_refl 0) (Nat.le_refl 0) (fun r_11 U_10 h H hU => ?_)
      refine pr_icmp_ge hC 86 (by decide +kernel : decode cX6_spreadOfSeats 78 = .ok (.if_icmp .ge 8, 3)) (by decide) (fun c_78 => ?_) (fun c_78 => ?_)
      · replace H := H.1 c_78
        refine pr_iload_n hC (by decide +kernel : decode cX6_spreadOfSeats 86 = .ok (.iload_n 3, 1)) rfl ?_
        refine pv_topi (fun x3_12 e_x3_12 => ?_)
        replace H := H x3_12 e_x3_12
        refine pr_istore_n hC (by decide +kernel : decode cX6_spreadOfSeats 87 = .ok (.istore_n 3, 1)) (by decide) rfl ?_
        refine pv_iinc hC (v := x4 + 1) (by decide +kernel : decode cX6_spreadOfSeats 88 = .ok (.iinc 4 1, 3)) rfl (by decide) rfl rfl (fun x4_13 e_x4_13 => ?_)
        replace H := H x4_13 e_x4_13
        refine pr_goto hC 25 (by decide +kernel : decode cX6_spreadOfSeats 91 = .ok (.goto (-66), 3)) (by decide) ?_
        exact pv_sub [some (.ref (Y.2.1 o0)), some (.int x1), some (.int xs_9), some (.int x3_12), some (.int x4_13), none] (And.intro rfl (And.intro rfl (And.intro rfl (And.intro rfl (And.intro rfl trivial))))) (ih _ _ _ U_10 h hU H)
      replace H := H.2 c_78
      refine pr_iload hC (by decide +kernel : decode cX6_spreadOfSeats 81 = .ok (.iload 4, 2)) rfl ?_
      refine pr_goto hC 87 (by decide +kernel : decode cX6_spreadOfSeats 83 = .ok (.goto 4, 3)) (by decide) ?_
      refine pv_topi (fun x3_14 e_x3_14 => ?_)
      replace H := H x3_14 e_x3_14
      refine pr_istore_n hC (by decide +kernel : decode cX6_spreadOfSeats 87 = .ok (.istore_n 3, 1)) (by decide) rfl ?_
      refine pv_iinc hC (v := x4 + 1) (by decide +kernel : decode cX6_spreadOfSeats 88 = .ok (.iinc 4 1, 3)) rfl (by decide) rfl rfl (fun x4_15 e_x4_15 => ?_)
      replace H := H x4_15 e_x4_15
      refine pr_goto hC 25 (by decide +kernel : decode cX6_spreadOfSeats 91 = .ok (.goto (-66), 3)) (by decide) ?_
      exact pv_sub [some (.ref (Y.2.1 o0)), some (.int x1), some (.int xs_9), some (.int x3_14), some (.int x4_15), none] (And.intro rfl (And.intro rfl (And.intro rfl (And.intro rfl (And.intro rfl trivial))))) (ih _ _ _ U_10 h hU H)
    replace H := trivial
    refine pr_icmp_le hC 65 (by decide +kernel : decode cX6_spreadOfSeats 57 = .ok (.if_icmp .le 8, 3)) (by decide) (fun c_57 => ?_) (fun c_57 => ?_)
    · skip
      refine pr_iload_n hC (by decide +kernel : decode cX6_spreadOfSeats 65 = .ok (.iload_n 2, 1)) rfl ?_
      exact pv_sub [some (.ref (Y.2.1 o0)), some (.int x1), none, some (.int x3), some (.int x4), some (.int r_6)] (And.intro rfl (And.intro rfl (And.intro rfl (And.intro rfl (And.intro rfl trivial))))) (HJ_16 _ (if_pos c_57).symm)
    skip
    refine pr_iload hC (by decide +kernel : decode cX6_spreadOfSeats 60 = .ok (.iload 4, 2)) rfl ?_
    refine pr_goto hC 66 (by decide +kernel : decode cX6_spreadOfSeats 62 = .ok (.goto 4, 3)) (by decide) ?_
    exact pv_sub [some (.ref (Y.2.1 o0)), some (.int x1), none, some (.int x3), some (.int x4), some (.int r_6)] (And.intro rfl (And.intro rfl (And.intro rfl (And.intro rfl (And.intro rfl trivial))))) (HJ_16 _ (if_neg c_57).symm)
set_option maxHeartbeats 4000000 in
theorem t_X6_spreadOfSeats {l : Launch} {Y : px_Y} {o : Nat} {a1 : Int32} {U : Um} {post : Int32 → Um → Prop} (ho : oc o = 5) (H : w_X6_spreadOfSeats o a1 U post) : um l Y 1 yX6_spreadOfSeats cX6_spreadOfSeats 6 (some (.int)) [.ref (Y.2.1 o), .int a1] U (pq_i post) := by
  unfold w_X6_spreadOfSeats at H
  refine um_of (by decide) (Nat.le_of_ble_eq_true rfl) [some (.ref (Y.2.1 o)), some (.int a1), none, none, none, none] rfl (fun X h0 hh sz hM hU => ?_)
  have hC := hM.1
  have hR := hM.2.2.1
  refine pr_iload_n hC (by decide +kernel : decode cX6_spreadOfSeats 0 = .ok (.iload_n 1, 1)) rfl ?_
  refine pr_if_lt hC 16 (by decide +kernel : decode cX6_spreadOfSeats 1 = .ok (.ifCond .lt 15, 3)) (by decide) (fun c_1 => ?_) (fun c_1 => ?_)
  · replace H := H.1 c_1
    refine pr_iconst hC (-1) (by decide +kernel : decode cX6_spreadOfSeats 16 = .ok (.iconst (-1), 1)) rfl ?_
    exact pv_iret hM (by decide +kernel : decode cX6_spreadOfSeats 17 = .ok (.ireturn, 1)) hU H
  replace H := H.2 c_1
  refine pr_iload_n hC (by decide +kernel : decode cX6_spreadOfSeats 4 = .ok (.iload_n 1, 1)) rfl ?_
  refine pr_iconst hC (2) (by decide +kernel : decode cX6_spreadOfSeats 5 = .ok (.iconst 2, 1)) rfl ?_
  refine pr_icmp_gt hC 16 (by decide +kernel : decode cX6_spreadOfSeats 6 = .ok (.if_icmp .gt 10, 3)) (by decide) (fun c_6 => ?_) (fun c_6 => ?_)
  · replace H := H.1 c_6
    refine pr_iconst hC (-1) (by decide +kernel : decode cX6_spreadOfSeats 16 = .ok (.iconst (-1), 1)) rfl ?_
    exact pv_iret hM (by decide +kernel : decode cX6_spreadOfSeats 17 = .ok (.ireturn, 1)) hU H
  replace H := H.2 c_6
  refine pr_aload_n hC (by decide +kernel : decode cX6_spreadOfSeats 9 = .ok (.aload_n 0, 1)) rfl ?_
  refine vc_Vi hC hR [] fv_X6_75 (by decide +kernel : decode cX6_spreadOfSeats 10 = .ok (.invokevirtual 75, 3)) hU (t_X6_officials ho H) ho (by decide) rfl rfl rfl (Nat.le_of_ble_eq_true rfl) (Nat.le_of_ble_eq_true rfl) (Nat.le_refl 0) (Nat.le_refl 0) (fun r_2 U_1 h H hU => ?_)
  refine pr_if_ne hC 18 (by decide +kernel : decode cX6_spreadOfSeats 13 = .ok (.ifCond .ne 5, 3)) (by decide) (fun c_13 => ?_) (fun c_13 => ?_)
  · replace H := H.2 c_13
    refine pr_iconst hC (0) (by decide +kernel : decode cX6_spreadOfSeats 18 = .ok (.iconst 0, 1)) rfl ?_
    refine pr_istore_n hC (by decide +kernel : decode cX6_spreadOfSeats 19 = .ok (.istore_n 2, 1)) (by decide) rfl ?_
    refine pr_iconst hC (0) (by decide +kernel : decode cX6_spreadOfSeats 20 = .ok (.iconst 0, 1)) rfl ?_
    refine pr_istore_n hC (by decide +kernel : decode cX6_spreadOfSeats 21 = .ok (.istore_n 3, 1)) (by decide) rfl ?_
    refine pr_iconst hC (1) (by decide +kernel : decode cX6_spreadOfSeats 22 = .ok (.iconst 1, 1)) rfl ?_
    refine pr_istore hC (by decide +kernel : decode cX6_spreadOfSeats 23 = .ok (.istore 4, 2)) (by decide) rfl ?_
    obtain ⟨n_24, H⟩ := H
    refine pv_sub [some (.ref (Y.2.1 o)), some (.int a1), some (.int 0), some (.int 0), some (.int 1), none] (And.intro rfl (And.intro rfl (And.intro rfl (And.intro rfl (And.intro rfl trivial))))) ?_
    refine tl_X6_spreadOfSeats_L25 _ _ _ _ ho hC hM hR (fun x2_17 x3_18 U_19 h H hU => ?_) n_24 _ _ _ U_1 h hU H
    refine pr_iload_n hC (by decide +kernel : decode cX6_spreadOfSeats 94 = .ok (.iload_n 1, 1)) rfl ?_
    refine pr_if_ne hC 118 (by decide +kernel : decode cX6_spreadOfSeats 95 = .ok (.ifCond .ne 23, 3)) (by decide) (fun c_95 => ?_) (fun c_95 => ?_)
    · replace H := H.2 c_95
      refine pr_iload_n hC (by decide +kernel : decode cX6_spreadOfSeats 118 = .ok (.iload_n 1, 1)) rfl ?_
      refine pr_iconst hC (1) (by decide +kernel : decode cX6_spreadOfSeats 119 = .ok (.iconst 1, 1)) rfl ?_
      refine pr_icmp_ne hC 127 (by decide +kernel : decode cX6_spreadOfSeats 120 = .ok (.if_icmp .ne 7, 3)) (by decide) (fun c_120 => ?_) (fun c_120 => ?_)
      · replace H := H.2 c_120
        refine pr_iload_n hC (by decide +kernel : decode cX6_spreadOfSeats 127 = .ok (.iload_n 3, 1)) rfl ?_
        exact pv_iret hM (by decide +kernel : decode cX6_spreadOfSeats 128 = .ok (.ireturn, 1)) hU H
      replace H := H.1 c_120
      refine pr_iload_n hC (by decide +kernel : decode cX6_spreadOfSeats 123 = .ok (.iload_n 2, 1)) rfl ?_
      refine pr_goto hC 128 (by decide +kernel : decode cX6_spreadOfSeats 124 = .ok (.goto 4, 3)) (by decide) ?_
      exact pv_iret hM (by decide +kernel : decode cX6_spreadOfSeats 128 = .ok (.ireturn, 1)) hU H
    replace H := H.1 c_95
    refine pr_aload_n hC (by decide +kernel : decode cX6_spreadOfSeats 98 = .ok (.aload_n 0, 1)) rfl ?_
    refine pu_g1 hC fg_X6_28 (by decide +kernel : decode cX6_spreadOfSeats 99 = .ok (.getfield 28, 3)) hU ho (by decide) rfl (by decide) ?_
    refine pr_iload_n hC (by decide +kernel : decode cX6_spreadOfSeats 102 = .ok (.iload_n 2, 1)) rfl ?_
    refine pu_iald hC (by decide +kernel : decode cX6_spreadOfSeats 103 = .ok (.iaload, 1)) hU ho rfl H.1 ?_
    replace H := H.2
    refine vc_Si hC hR [.int (uA U_19 o 7 (Int32.toNatClampNeg x2_17))] fv_X6_79 (by decide +kernel : decode cX6_spreadOfSeats 104 = .ok (.invokestatic 79, 3)) hU (t_J6_bitCount_0f7a4  H) rfl rfl (Nat.le_of_ble_eq_true rfl) (Nat.le_of_ble_eq_true rfl) (Nat.le_refl 0) (Nat.le_refl 0) (fun r_21 U_20 h H hU => ?_)
    refine pr_aload_n hC (by decide +kernel : decode cX6_spreadOfSeats 107 = .ok (.aload_n 0, 1)) rfl ?_
    refine pu_g1 hC fg_X6_28 (by decide +kernel : decode cX6_spreadOfSeats 108 = .ok (.getfield 28, 3)) hU ho (by decide) rfl (by decide) ?_
    refine pr_iload_n hC (by decide +kernel : decode cX6_spreadOfSeats 111 = .ok (.iload_n 3, 1)) rfl ?_
    refine pu_iald hC (by decide +kernel : decode cX6_spreadOfSeats 112 = .ok (.iaload, 1)) hU ho rfl H.1 ?_
    replace H := H.2
    refine vc_Si hC hR [.int (uA U_20 o 7 (Int32.toNatClampNeg x3_18))] fv_X6_79 (by decide +kernel : decode cX6_spreadOfSeats 113 = .ok (.invokestatic 79, 3)) hU (t_J6_bitCount_0f7a4  H) rfl rfl (Nat.le_of_ble_eq_true rfl) (Nat.le_of_ble_eq_true rfl) (Nat.le_refl 0) (Nat.le_refl 0) (fun r_23 U_22 h H hU => ?_)
    refine pr_isub hC (by decide +kernel : decode cX6_spreadOfSeats 116 = .ok (.isub, 1)) ?_
    exact pv_iret hM (by decide +kernel : decode cX6_spreadOfSeats 117 = .ok (.ireturn, 1)) hU H
  replace H := H.1 c_13
  refine pr_iconst hC (-1) (by decide +kernel : decode cX6_spreadOfSeats 16 = .ok (.iconst (-1), 1)) rfl ?_
  exact pv_iret hM (by decide +kernel : decode cX6_spreadOfSeats 17 = .ok (.ireturn, 1)) hU H
def w_X6_giveMark (o : Nat) (a1 : Int32) (a2 : Int32) (U : Um) (post : Um → Prop) : Prop :=
  vp_in a1 48 ∧ ∀ (x3_1 : Int32), x3_1 = uA U o 2 (Int32.toNatClampNeg a1) → vp_in x3_1 10 ∧ vf_n32 (FP.fmul (uF U o 5 (Int32.toNatClampNeg x3_1)) 1061158912) ∧ ∀ (x4_2 : UInt32), x4_2 = FP.fmul (uF U o 5 (Int32.toNatClampNeg x3_1)) 1061158912 → vf_n32 (FP.fmul (FP.i2f a2) 1048576000) ∧ ∀ (x5_3 : UInt32), x5_3 = FP.fmul (FP.i2f a2) 1048576000 → vf_n32 (FP.fadd x4_2 x5_3) ∧ vp_in x3_1 10 ∧ ∀ (U_4 : Um), U_4 = sF U o 5 (va_up (uF U o 5) (Int32.toNatClampNeg x3_1) (FP.fadd x4_2 x5_3)) → vp_in x3_1 10 ∧ vp_in x3_1 10 ∧ ∀ (U_5 : Um), U_5 = sA U_4 o 6 (va_up (uA U_4 o 6) (Int32.toNatClampNeg x3_1) ((uA U_4 o 6 (Int32.toNatClampNeg x3_1)) + 1)) → vp_in a1 48 ∧ ∀ (U_6 : Um), U_6 = sA U_5 o 3 (va_up (uA U_5 o 3) (Int32.toNatClampNeg a1) a2) → post U_6
set_option maxHeartbeats 4000000 in
theorem t_X6_giveMark {l : Launch} {Y : px_Y} {o : Nat} {a1 : Int32} {a2 : Int32} {U : Um} {post : Um → Prop} (ho : oc o = 5) (H : w_X6_giveMark o a1 a2 U post) : um l Y 0 yX6_giveMark cX6_giveMark 6 none [.ref (Y.2.1 o), .int a1, .int a2] U (pq_v post) := by
  unfold w_X6_giveMark at H
  refine um_of (by decide) (Nat.le_of_ble_eq_true rfl) [some (.ref (Y.2.1 o)), some (.int a1), some (.int a2), none, none, none] rfl (fun X h0 hh sz hM hU => ?_)
  have hC := hM.1
  have hR := hM.2.2.1
  refine pr_aload_n hC (by decide +kernel : decode cX6_giveMark 0 = .ok (.aload_n 0, 1)) rfl ?_
  refine pu_g1 hC fg_X6_9 (by decide +kernel : decode cX6_giveMark 1 = .ok (.getfield 9, 3)) hU ho (by decide) rfl (by decide) ?_
  refine pr_iload_n hC (by decide +kernel : decode cX6_giveMark 4 = .ok (.iload_n 1, 1)) rfl ?_
  refine pu_iald hC (by decide +kernel : decode cX6_giveMark 5 = .ok (.iaload, 1)) hU ho rfl H.1 ?_
  replace H := H.2
  refine pv_topi (fun x3_1 e_x3_1 => ?_)
  replace H := H x3_1 e_x3_1
  refine pr_istore_n hC (by decide +kernel : decode cX6_giveMark 6 = .ok (.istore_n 3, 1)) (by decide) rfl ?_
  refine pr_aload_n hC (by decide +kernel : decode cX6_giveMark 7 = .ok (.aload_n 0, 1)) rfl ?_
  refine pu_g1 hC fg_X6_21 (by decide +kernel : decode cX6_giveMark 8 = .ok (.getfield 21, 3)) hU ho (by decide) rfl (by decide) ?_
  refine pr_iload_n hC (by decide +kernel : decode cX6_giveMark 11 = .ok (.iload_n 3, 1)) rfl ?_
  refine pu_fald hC (by decide +kernel : decode cX6_giveMark 12 = .ok (.faload, 1)) hU ho rfl H.1 ?_
  replace H := H.2
  refine pr_ldcf hC (1061158912) (by decide +kernel : decode cX6_giveMark 13 = .ok (.ldc 212, 2)) fk_X6_212 ?_
  refine pr_fmul hC (by decide +kernel : decode cX6_giveMark 15 = .ok (.fmul, 1)) H.1 ?_
  replace H := H.2
  refine pv_topf (fun x4_2 e_x4_2 => ?_)
  replace H := H x4_2 e_x4_2
  refine pr_fstore hC (by decide +kernel : decode cX6_giveMark 16 = .ok (.fstore 4, 2)) (by decide) rfl ?_
  refine pr_iload_n hC (by decide +kernel : decode cX6_giveMark 18 = .ok (.iload_n 2, 1)) rfl ?_
  refine pr_i2f hC (by decide +kernel : decode cX6_giveMark 19 = .ok (.i2f, 1)) ?_
  refine pr_ldcf hC (1048576000) (by decide +kernel : decode cX6_giveMark 20 = .ok (.ldc 213, 2)) fk_X6_213 ?_
  refine pr_fmul hC (by decide +kernel : decode cX6_giveMark 22 = .ok (.fmul, 1)) H.1 ?_
  replace H := H.2
  refine pv_topf (fun x5_3 e_x5_3 => ?_)
  replace H := H x5_3 e_x5_3
  refine pr_fstore hC (by decide +kernel : decode cX6_giveMark 23 = .ok (.fstore 5, 2)) (by decide) rfl ?_
  refine pr_aload_n hC (by decide +kernel : decode cX6_giveMark 25 = .ok (.aload_n 0, 1)) rfl ?_
  refine pu_g1 hC fg_X6_21 (by decide +kernel : decode cX6_giveMark 26 = .ok (.getfield 21, 3)) hU ho (by decide) rfl (by decide) ?_
  refine pr_iload_n hC (by decide +kernel : decode cX6_giveMark 29 = .ok (.iload_n 3, 1)) rfl ?_
  refine pr_fload hC (by decide +kernel : decode cX6_giveMark 30 = .ok (.fload 4, 2)) rfl ?_
  refine pr_fload hC (by decide +kernel : decode cX6_giveMark 32 = .ok (.fload 5, 2)) rfl ?_
  refine pr_fadd hC (by decide +kernel : decode cX6_giveMark 34 = .ok (.fadd, 1)) H.1 ?_
  replace H := H.2
  refine pv_fast hC (by decide +kernel : decode cX6_giveMark 35 = .ok (.fastore, 1)) hU ho rfl H.1 (fun U_4 h e_U_4 hU => ?_)
  replace H := H.2 U_4 e_U_4
  refine pr_aload_n hC (by decide +kernel : decode cX6_giveMark 36 = .ok (.aload_n 0, 1)) rfl ?_
  refine pu_g1 hC fg_X6_25 (by decide +kernel : decode cX6_giveMark 37 = .ok (.getfield 25, 3)) hU ho (by decide) rfl (by decide) ?_
  refine pr_iload_n hC (by decide +kernel : decode cX6_giveMark 40 = .ok (.iload_n 3, 1)) rfl ?_
  refine pr_dup2 hC (by decide +kernel : decode cX6_giveMark 41 = .ok (.dup2, 1)) rfl rfl ?_
  refine pu_iald hC (by decide +kernel : decode cX6_giveMark 42 = .ok (.iaload, 1)) hU ho rfl H.1 ?_
  replace H := H.2
  refine pr_iconst hC (1) (by decide +kernel : decode cX6_giveMark 43 = .ok (.iconst 1, 1)) rfl ?_
  refine pr_iadd hC (by decide +kernel : decode cX6_giveMark 44 = .ok (.iadd, 1)) ?_
  refine pv_iast hC (by decide +kernel : decode cX6_giveMark 45 = .ok (.iastore, 1)) hU ho rfl H.1 (fun U_5 h e_U_5 hU => ?_)
  replace H := H.2 U_5 e_U_5
  refine pr_aload_n hC (by decide +kernel : decode cX6_giveMark 46 = .ok (.aload_n 0, 1)) rfl ?_
  refine pu_g1 hC fg_X6_15 (by decide +kernel : decode cX6_giveMark 47 = .ok (.getfield 15, 3)) hU ho (by decide) rfl (by decide) ?_
  refine pr_iload_n hC (by decide +kernel : decode cX6_giveMark 50 = .ok (.iload_n 1, 1)) rfl ?_
  refine pr_iload_n hC (by decide +kernel : decode cX6_giveMark 51 = .ok (.iload_n 2, 1)) rfl ?_
  refine pv_iast hC (by decide +kernel : decode cX6_giveMark 52 = .ok (.iastore, 1)) hU ho rfl H.1 (fun U_6 h e_U_6 hU => ?_)
  replace H := H.2 U_6 e_U_6
  exact pv_vret hM (by decide +kernel : decode cX6_giveMark 53 = .ok (.return_, 1)) hU H
def b_X6_playDay_L38 (o0 : Nat) (x4 : Int32) (x5 : Int32) (post : Int32 → Um → Prop) (k_125 : Int32 → Int32 → Um → Prop) (rec_ : Int32 → Int32 → Int32 → Um → Prop) (x2 : Int32) (x3 : Int32) (x6 : Int32) (U : Um) : Prop :=
  oc (uR U o0 0) = 8 ∧ vp_in x5 16 ∧ oc (uAR U (uR U o0 0) 6 (Int32.toNatClampNeg x5)) = 1 ∧ ((uI U (uAR U (uR U o0 0) 6 (Int32.toNatClampNeg x5)) 7) ≤ x6 → k_125 x2 x3 U) ∧ (¬ (uI U (uAR U (uR U o0 0) 6 (Int32.toNatClampNeg x5)) 7) ≤ x6 → w_X9_placeOf x5 x6 U (fun r_9 U_8 => oc (uR U_8 o0 0) = 8 ∧ vp_in x5 16 ∧ oc (uAR U_8 (uR U_8 o0 0) 6 (Int32.toNatClampNeg x5)) = 1 ∧ ((uI U_8 (uAR U_8 (uR U_8 o0 0) 6 (Int32.toNatClampNeg x5)) 3) = x4 → vp_in r_9 48 ∧ ((uA U_8 o0 2 (Int32.toNatClampNeg r_9)) = (-1) → ∀ (x6_13 : Int32), x6_13 = x6 + 1 → rec_ x2 x3 x6_13 U_8) ∧ (¬ (uA U_8 o0 2 (Int32.toNatClampNeg r_9)) = (-1) → ∀ (x2_14 : Int32), x2_14 = (1103515245 * x2) + 12345 → w_X6_giveMark o0 r_9 (((x2_14.toUInt32 >>> ((Int32.toUInt32 16) &&& Int32.toUInt32 31)).toInt32) - ((x2_14.toUInt32 >>> ((Int32.toUInt32 16) &&& Int32.toUInt32 31)).toInt32) / 101 * 101) U_8 (fun U_15 => ∀ (x3_17 : Int32), x3_17 = x3 + 1 → ∀ (x6_18 : Int32), x6_18 = x6 + 1 → rec_ x2_14 x3_17 x6_18 U_15))) ∧ (¬ (uI U_8 (uAR U_8 (uR U_8 o0 0) 6 (Int32.toNatClampNeg x5)) 3) = x4 → ∀ (x6_19 : Int32), x6_19 = x6 + 1 → rec_ x2 x3 x6_19 U_8)))
def w_X6_playDay_L38 (o0 : Nat) (x4 : Int32) (x5 : Int32) (post : Int32 → Um → Prop) (k_125 : Int32 → Int32 → Um → Prop) (n_ : Nat) : Int32 → Int32 → Int32 → Um → Prop := Nat.rec (motive := fun _ => Int32 → Int32 → Int32 → Um → Prop) (fun _ _ _ _ => False) (fun _ ih => b_X6_playDay_L38 o0 x4 x5 post k_125 ih) n_
def b_X6_playDay_L23 (o0 : Nat) (x4 : Int32) (post : Int32 → Um → Prop) (k_131 : Int32 → Um → Prop) (rec_ : Int32 → Int32 → Int32 → Um → Prop) (x2 : Int32) (x3 : Int32) (x5 : Int32) (U : Um) : Prop :=
  oc (uR U o0 0) = 8 ∧ ((uI U (uR U o0 0) 7) ≤ x5 → k_131 x3 U) ∧ (¬ (uI U (uR U o0 0) 7) ≤ x5 → (∃ n_24, w_X6_playDay_L38 o0 x4 x5 post (fun x2_20 x3_21 U_22 => ∀ (x5_23 : Int32), x5_23 = x5 + 1 → rec_ x2_20 x3_21 x5_23 U_22) n_24 x2 x3 0 U))
def w_X6_playDay_L23 (o0 : Nat) (x4 : Int32) (post : Int32 → Um → Prop) (k_131 : Int32 → Um → Prop) (n_ : Nat) : Int32 → Int32 → Int32 → Um → Prop := Nat.rec (motive := fun _ => Int32 → Int32 → Int32 → Um → Prop) (fun _ _ _ _ => False) (fun _ ih => b_X6_playDay_L23 o0 x4 post k_131 ih) n_
def w_X6_playDay (o : Nat) (a1 : Int32) (U : Um) (post : Int32 → Um → Prop) : Prop :=
  ∀ (x2_1 : Int32), x2_1 = a1 → ∀ (x4_2 : Int32), x4_2 = uI U o 1 → ∀ (U_3 : Um), U_3 = sI U o 1 ((uI U o 1) + 1) → (∃ n_27, w_X6_playDay_L23 o x4_2 post (fun x3_25 U_26 => post x3_25 U_26) n_27 x2_1 0 0 U_3)
set_option maxHeartbeats 4000000 in
theorem tl_X6_playDay_L38 {l : Launch} {Y : px_Y} {X : px_X} {h0 hh : pe_H} {sz : Nat} (o0 : Nat) (x4 : Int32) (x5 : Int32) (post : Int32 → Um → Prop) (k_125 : Int32 → Int32 → Um → Prop) (ho0 : oc o0 = 5)  (hC : px_C X Y.1 (pm_A hh sz) cX6_playDay RX6 8) (hM : px_M l X Y.1 hh sz yX6_playDay cX6_playDay 8 (some (.int)) 1 0 0) (hR : X.2.2.2.1 = pm_rm 1 0 0) (hk_125 : ∀ (y2 : Int32) (y3 : Int32) (U : Um) (h : pe_H), k_125 y2 y3 U → rF Y h0 U h → pw X Y.1 (pm_A hh sz) (pm_E X Y.1 hh sz 0 0 (pm_P Y h0 sz (pq_i post))) 125 [some (.ref (Y.2.1 o0)), none, some (.int y2), some (.int y3), some (.int x4), some (.int x5), none, none] [] h sz 0 0) : ∀ (n_ : Nat) (x2 : Int32) (x3 : Int32) (x6 : Int32) (U : Um) (h : pe_H), rF Y h0 U h → w_X6_playDay_L38 o0 x4 x5 post k_125 n_ x2 x3 x6 U → pw X Y.1 (pm_A hh sz) (pm_E X Y.1 hh sz 0 0 (pm_P Y h0 sz (pq_i post))) 38 [some (.ref (Y.2.1 o0)), none, some (.int x2), some (.int x3), some (.int x4), some (.int x5), some (.int x6), none] [] h sz 0 0 := by
  intro n_
  induction n_ with
  | zero => intro x2 x3 x6 U h hU H; exact False.elim H
  | succ n_ ih =>
    intro x2 x3 x6 U h hU H
    replace H : b_X6_playDay_L38 o0 x4 x5 post k_125 (w_X6_playDay_L38 o0 x4 x5 post k_125 n_) x2 x3 x6 U := H
    unfold b_X6_playDay_L38 at H
    refine pr_iload hC (by decide +kernel : decode cX6_playDay 38 = .ok (.iload 6, 2)) rfl ?_
    refine pr_aload_n hC (by decide +kernel : decode cX6_playDay 40 = .ok (.aload_n 0, 1)) rfl ?_
    refine pu_g21 hC fg_X6_41 (by decide +kernel : decode cX6_playDay 41 = .ok (.getfield 41, 3)) hU ho0 (by decide) rfl rfl ?_
    have q_5 := H.1
    replace H := H.2
    refine pu_g1 hC fg_X6_62 (by decide +kernel : decode cX6_playDay 44 = .ok (.getfield 62, 3)) hU q_5 (by decide) rfl (by decide) ?_
    refine pr_iload hC (by decide +kernel : decode cX6_playDay 47 = .ok (.iload 5, 2)) rfl ?_
    have q_6 := H.1
    replace H := H.2
    refine pu_aald8 hC (by decide +kernel : decode cX6_playDay 49 = .ok (.aaload, 1)) hU q_5 rfl q_6 ?_
    have q_7 := H.1
    replace H := H.2
    refine pu_g0 hC fg_X6_189 (by decide +kernel : decode cX6_playDay 50 = .ok (.getfield 189, 3)) hU q_7 (by decide) rfl rfl ?_
    refine pr_icmp_ge hC 125 (by decide +kernel : decode cX6_playDay 53 = .ok (.if_icmp .ge 72, 3)) (by decide) (fun c_53 => ?_) (fun c_53 => ?_)
    · replace H := H.1 c_53
      exact pv_sub [some (.ref (Y.2.1 o0)), none, some (.int x2), some (.int x3), some (.int x4), some (.int x5), none, none] (And.intro rfl (And.intro rfl (And.intro rfl (And.intro rfl (And.intro rfl trivial))))) (hk_125 _ _ U h H hU)
    replace H := H.2 c_53
    refine pr_iload hC (by decide +kernel : decode cX6_playDay 56 = .ok (.iload 5, 2)) rfl ?_
    refine pr_iload hC (by decide +kernel : decode cX6_playDay 58 = .ok (.iload 6, 2)) rfl ?_
    refine vc_Si hC hR [.int x5, .int x6] fv_X6_71 (by decide +kernel : decode cX6_playDay 60 = .ok (.invokestatic 71, 3)) hU (t_X9_placeOf  H) rfl rfl (Nat.le_of_ble_eq_true rfl) (Nat.le_of_ble_eq_true rfl) (Nat.le_refl 0) (Nat.le_refl 0) (fun r_9 U_8 h H hU => ?_)
    refine pr_istore hC (by decide +kernel : decode cX6_playDay 63 = .ok (.istore 7, 2)) (by decide) rfl ?_
    refine pr_aload_n hC (by decide +kernel : decode cX6_playDay 65 = .ok (.aload_n 0, 1)) rfl ?_
    refine pu_g21 hC fg_X6_41 (by decide +kernel : decode cX6_playDay 66 = .ok (.getfield 41, 3)) hU ho0 (by decide) rfl rfl ?_
    have q_10 := H.1
    replace H := H.2
    refine pu_g1 hC fg_X6_62 (by decide +kernel : decode cX6_playDay 69 = .ok (.getfield 62, 3)) hU q_10 (by decide) rfl (by decide) ?_
    refine pr_iload hC (by decide +kernel : decode cX6_playDay 72 = .ok (.iload 5, 2)) rfl ?_
    have q_11 := H.1
    replace H := H.2
    refine pu_aald8 hC (by decide +kernel : decode cX6_playDay 74 = .ok (.aaload, 1)) hU q_10 rfl q_11 ?_
    have q_12 := H.1
    replace H := H.2
    refine pu_g0 hC fg_X6_66 (by decide +kernel : decode cX6_playDay 75 = .ok (.getfield 66, 3)) hU q_12 (by decide) rfl rfl ?_
    refine pr_iload hC (by decide +kernel : decode cX6_playDay 78 = .ok (.iload 4, 2)) rfl ?_
    refine pr_icmp_ne hC 119 (by decide +kernel : decode cX6_playDay 80 = .ok (.if_icmp .ne 39, 3)) (by decide) (fun c_80 => ?_) (fun c_80 => ?_)
    · replace H := H.2 c_80
      refine pv_iinc hC (v := x6 + 1) (by decide +kernel : decode cX6_playDay 119 = .ok (.iinc 6 1, 3)) rfl (by decide) rfl rfl (fun x6_19 e_x6_19 => ?_)
      replace H := H x6_19 e_x6_19
      refine pr_goto hC 38 (by decide +kernel : decode cX6_playDay 122 = .ok (.goto (-84), 3)) (by decide) ?_
      exact pv_sub [some (.ref (Y.2.1 o0)), none, some (.int x2), some (.int x3), some (.int x4), some (.int x5), some (.int x6_19), none] (And.intro rfl (And.intro rfl (And.intro rfl (And.intro rfl (And.intro rfl (And.intro rfl trivial)))))) (ih _ _ _ U_8 h hU H)
    replace H := H.1 c_80
    refine pr_aload_n hC (by decide +kernel : decode cX6_playDay 83 = .ok (.aload_n 0, 1)) rfl ?_
    refine pu_g1 hC fg_X6_9 (by decide +kernel : decode cX6_playDay 84 = .ok (.getfield 9, 3)) hU ho0 (by decide) rfl (by decide) ?_
    refine pr_iload hC (by decide +kernel : decode cX6_playDay 87 = .ok (.iload 7, 2)) rfl ?_
    refine pu_iald hC (by decide +kernel : decode cX6_playDay 89 = .ok (.iaload, 1)) hU ho0 rfl H.1 ?_
    replace H := H.2
    refine pr_iconst hC (-1) (by decide +kernel : decode cX6_playDay 90 = .ok (.iconst (-1), 1)) rfl ?_
    refine pr_icmp_eq hC 119 (by decide +kernel : decode cX6_playDay 91 = .ok (.if_icmp .eq 28, 3)) (by decide) (fun c_91 => ?_) (fun c_91 => ?_)
    · replace H := H.1 c_91
      refine pv_iinc hC (v := x6 + 1) (by decide +kernel : decode cX6_playDay 119 = .ok (.iinc 6 1, 3)) rfl (by decide) rfl rfl (fun x6_13 e_x6_13 => ?_)
      replace H := H x6_13 e_x6_13
      refine pr_goto hC 38 (by decide +kernel : decode cX6_playDay 122 = .ok (.goto (-84), 3)) (by decide) ?_
      exact pv_sub [some (.ref (Y.2.1 o0)), none, some (.int x2), some (.int x3), some (.int x4), some (.int x5), some (.int x6_13), none] (And.intro rfl (And.intro rfl (And.intro rfl (And.intro rfl (And.intro rfl (And.intro rfl trivial)))))) (ih _ _ _ U_8 h hU H)
    replace H := H.2 c_91
    refine pr_ldc hC (1103515245) (by decide +kernel : decode cX6_playDay 94 = .ok (.ldc 208, 2)) fk_X6_208 ?_
    refine pr_iload_n hC (by decide +kernel : decode cX6_playDay 96 = .ok (.iload_n 2, 1)) rfl ?_
    refine pr_imul hC (by decide +kernel : decode cX6_playDay 97 = .ok (.imul, 1)) ?_
    refine pr_sipush hC (12345) (by decide +kernel : decode cX6_playDay 98 = .ok (.sipush 12345, 3)) rfl ?_
    refine pr_iadd hC (by decide +kernel : decode cX6_playDay 101 = .ok (.iadd, 1)) ?_
    refine pv_topi (fun x2_14 e_x2_14 => ?_)
    replace H := H x2_14 e_x2_14
    refine pr_istore_n hC (by decide +kernel : decode cX6_playDay 102 = .ok (.istore_n 2, 1)) (by decide) rfl ?_
    refine pr_aload_n hC (by decide +kernel : decode cX6_playDay 103 = .ok (.aload_n 0, 1)) rfl ?_
    refine pr_iload hC (by decide +kernel : decode cX6_playDay 104 = .ok (.iload 7, 2)) rfl ?_
    refine pr_iload_n hC (by decide +kernel : decode cX6_playDay 106 = .ok (.iload_n 2, 1)) rfl ?_
    refine pr_bipush hC (16) (by decide +kernel : decode cX6_playDay 107 = .ok (.bipush 16, 2)) rfl ?_
    refine pr_iushr hC (by decide +kernel : decode cX6_playDay 109 = .ok (.iushr, 1)) ?_
    refine pr_bipush hC (101) (by decide +kernel : decode cX6_playDay 110 = .ok (.bipush 101, 2)) rfl ?_
    refine pr_irem hC (by decide +kernel : decode cX6_playDay 112 = .ok (.irem, 1)) (by decide) ?_
    refine vc_Vv hC hR [.int r_9, .int (((x2_14.toUInt32 >>> ((Int32.toUInt32 16) &&& Int32.toUInt32 31)).toInt32) - ((x2_14.toUInt32 >>> ((Int32.toUInt32 16) &&& Int32.toUInt32 31)).toInt32) / 101 * 101)] fv_X6_209 (by decide +kernel : decode cX6_playDay 113 = .ok (.invokevirtual 209, 3)) hU (t_X6_giveMark ho0 H) ho0 (by decide) rfl rfl rfl (Nat.le_of_ble_eq_true rfl) (Nat.le_of_ble_eq_true rfl) (Nat.le_refl 0) (Nat.le_refl 0) (fun U_15 h H hU => ?_)
    refine pv_iinc hC (v := x3 + 1) (by decide +kernel : decode cX6_playDay 116 = .ok (.iinc 3 1, 3)) rfl (by decide) rfl rfl (fun x3_17 e_x3_17 => ?_)
    replace H := H x3_17 e_x3_17
    refine pv_iinc hC (v := x6 + 1) (by decide +kernel : decode cX6_playDay 119 = .ok (.iinc 6 1, 3)) rfl (by decide) rfl rfl (fun x6_18 e_x6_18 => ?_)
    replace H := H x6_18 e_x6_18
    refine pr_goto hC 38 (by decide +kernel : decode cX6_playDay 122 = .ok (.goto (-84), 3)) (by decide) ?_
    exact pv_sub [some (.ref (Y.2.1 o0)), none, some (.int x2_14), some (.int x3_17), some (.int x4), some (.int x5), some (.int x6_18), none] (And.intro rfl (And.intro rfl (And.intro rfl (And.intro rfl (And.intro rfl (And.intro rfl trivial)))))) (ih _ _ _ U_15 h hU H)
set_option maxHeartbeats 4000000 in
theorem tl_X6_playDay_L23 {l : Launch} {Y : px_Y} {X : px_X} {h0 hh : pe_H} {sz : Nat} (o0 : Nat) (x4 : Int32) (post : Int32 → Um → Prop) (k_131 : Int32 → Um → Prop) (ho0 : oc o0 = 5)  (hC : px_C X Y.1 (pm_A hh sz) cX6_playDay RX6 8) (hM : px_M l X Y.1 hh sz yX6_playDay cX6_playDay 8 (some (.int)) 1 0 0) (hR : X.2.2.2.1 = pm_rm 1 0 0) (hk_131 : ∀ (y3 : Int32) (U : Um) (h : pe_H), k_131 y3 U → rF Y h0 U h → pw X Y.1 (pm_A hh sz) (pm_E X Y.1 hh sz 0 0 (pm_P Y h0 sz (pq_i post))) 131 [none, none, none, some (.int y3), none, none, none, none] [] h sz 0 0) : ∀ (n_ : Nat) (x2 : Int32) (x3 : Int32) (x5 : Int32) (U : Um) (h : pe_H), rF Y h0 U h → w_X6_playDay_L23 o0 x4 post k_131 n_ x2 x3 x5 U → pw X Y.1 (pm_A hh sz) (pm_E X Y.1 hh sz 0 0 (pm_P Y h0 sz (pq_i post))) 23 [some (.ref (Y.2.1 o0)), none, some (.int x2), some (.int x3), some (.int x4), some (.int x5), none, none] [] h sz 0 0 := by
  intro n_
  induction n_ with
  | zero => intro x2 x3 x5 U h hU H; exact False.elim H
  | succ n_ ih =>
    intro x2 x3 x5 U h hU H
    replace H : b_X6_playDay_L23 o0 x4 post k_131 (w_X6_playDay_L23 o0 x4 post k_131 n_) x2 x3 x5 U := H
    unfold b_X6_playDay_L23 at H
    refine pr_iload hC (by decide +kernel : decode cX6_playDay 23 = .ok (.iload 5, 2)) rfl ?_
    refine pr_aload_n hC (by decide +kernel : decode cX6_playDay 25 = .ok (.aload_n 0, 1)) rfl ?_
    refine pu_g21 hC fg_X6_41 (by decide +kernel : decode cX6_playDay 26 = .ok (.getfield 41, 3)) hU ho0 (by decide) rfl rfl ?_
    have q_4 := H.1
    replace H := H.2
    refine pu_g0 hC fg_X6_157 (by decide +kernel : decode cX6_playDay 29 = .ok (.getfield 157, 3)) hU q_4 (by decide) rfl rfl ?_
    refine pr_icmp_ge hC 131 (by decide +kernel : decode cX6_playDay 32 = .ok (.if_icmp .ge 99, 3)) (by decide) (fun c_32 => ?_) (fun c_32 => ?_)
    · replace H := H.1 c_32
      exact pv_sub [none, none, none, some (.int x3), none, none, none, none] (And.intro rfl trivial) (hk_131 _ U h H hU)
    replace H := H.2 c_32
    refine pr_iconst hC (0) (by decide +kernel : decode cX6_playDay 35 = .ok (.iconst 0, 1)) rfl ?_
    refine pr_istore hC (by decide +kernel : decode cX6_playDay 36 = .ok (.istore 6, 2)) (by decide) rfl ?_
    obtain ⟨n_24, H⟩ := H
    refine pv_sub [some (.ref (Y.2.1 o0)), none, some (.int x2), some (.int x3), some (.int x4), some (.int x5), some (.int 0), none] (And.intro rfl (And.intro rfl (And.intro rfl (And.intro rfl (And.intro rfl (And.intro rfl trivial)))))) ?_
    refine tl_X6_playDay_L38 _ _ _ _ _ ho0 hC hM hR (fun x2_20 x3_21 U_22 h H hU => ?_) n_24 _ _ _ U h hU H
    refine pv_iinc hC (v := x5 + 1) (by decide +kernel : decode cX6_playDay 125 = .ok (.iinc 5 1, 3)) rfl (by decide) rfl rfl (fun x5_23 e_x5_23 => ?_)
    replace H := H x5_23 e_x5_23
    refine pr_goto hC 23 (by decide +kernel : decode cX6_playDay 128 = .ok (.goto (-105), 3)) (by decide) ?_
    exact pv_sub [some (.ref (Y.2.1 o0)), none, some (.int x2_20), some (.int x3_21), some (.int x4), some (.int x5_23), none, none] (And.intro rfl (And.intro rfl (And.intro rfl (And.intro rfl (And.intro rfl trivial))))) (ih _ _ _ U_22 h hU H)
set_option maxHeartbeats 4000000 in
theorem t_X6_playDay {l : Launch} {Y : px_Y} {o : Nat} {a1 : Int32} {U : Um} {post : Int32 → Um → Prop} (ho : oc o = 5) (H : w_X6_playDay o a1 U post) : um l Y 1 yX6_playDay cX6_playDay 8 (some (.int)) [.ref (Y.2.1 o), .int a1] U (pq_i post) := by
  unfold w_X6_playDay at H
  refine um_of (by decide) (Nat.le_of_ble_eq_true rfl) [some (.ref (Y.2.1 o)), some (.int a1), none, none, none, none, none, none] rfl (fun X h0 hh sz hM hU => ?_)
  have hC := hM.1
  have hR := hM.2.2.1
  refine pr_iload_n hC (by decide +kernel : decode cX6_playDay 0 = .ok (.iload_n 1, 1)) rfl ?_
  refine pv_topi (fun x2_1 e_x2_1 => ?_)
  replace H := H x2_1 e_x2_1
  refine pr_istore_n hC (by decide +kernel : decode cX6_playDay 1 = .ok (.istore_n 2, 1)) (by decide) rfl ?_
  refine pr_iconst hC (0) (by decide +kernel : decode cX6_playDay 2 = .ok (.iconst 0, 1)) rfl ?_
  refine pr_istore_n hC (by decide +kernel : decode cX6_playDay 3 = .ok (.istore_n 3, 1)) (by decide) rfl ?_
  refine pr_aload_n hC (by decide +kernel : decode cX6_playDay 4 = .ok (.aload_n 0, 1)) rfl ?_
  refine pu_g0 hC fg_X6_45 (by decide +kernel : decode cX6_playDay 5 = .ok (.getfield 45, 3)) hU ho (by decide) rfl rfl ?_
  refine pv_topi (fun x4_2 e_x4_2 => ?_)
  replace H := H x4_2 e_x4_2
  refine pr_istore hC (by decide +kernel : decode cX6_playDay 8 = .ok (.istore 4, 2)) (by decide) rfl ?_
  refine pr_aload_n hC (by decide +kernel : decode cX6_playDay 10 = .ok (.aload_n 0, 1)) rfl ?_
  refine pr_dup hC (by decide +kernel : decode cX6_playDay 11 = .ok (.dup, 1)) rfl ?_
  refine pu_g0 hC fg_X6_45 (by decide +kernel : decode cX6_playDay 12 = .ok (.getfield 45, 3)) hU ho (by decide) rfl rfl ?_
  refine pr_iconst hC (1) (by decide +kernel : decode cX6_playDay 15 = .ok (.iconst 1, 1)) rfl ?_
  refine pr_iadd hC (by decide +kernel : decode cX6_playDay 16 = .ok (.iadd, 1)) ?_
  refine pv_p0 hC fp_X6_45 (by decide +kernel : decode cX6_playDay 17 = .ok (.putfield 45, 3)) hU ho (by decide) rfl rfl rfl rfl (fun U_3 h e_U_3 hU => ?_)
  replace H := H U_3 e_U_3
  refine pr_iconst hC (0) (by decide +kernel : decode cX6_playDay 20 = .ok (.iconst 0, 1)) rfl ?_
  refine pr_istore hC (by decide +kernel : decode cX6_playDay 21 = .ok (.istore 5, 2)) (by decide) rfl ?_
  obtain ⟨n_27, H⟩ := H
  refine pv_sub [some (.ref (Y.2.1 o)), none, some (.int x2_1), some (.int 0), some (.int x4_2), some (.int 0), none, none] (And.intro rfl (And.intro rfl (And.intro rfl (And.intro rfl (And.intro rfl trivial))))) ?_
  refine tl_X6_playDay_L23 _ _ _ _ ho hC hM hR (fun x3_25 U_26 h H hU => ?_) n_27 _ _ _ U_3 h hU H
  refine pr_iload_n hC (by decide +kernel : decode cX6_playDay 131 = .ok (.iload_n 3, 1)) rfl ?_
  exact pv_iret hM (by decide +kernel : decode cX6_playDay 132 = .ok (.ireturn, 1)) hU H
def w_X6_isMarkable (o : Nat) (a1 : Int32) (a2 : Int32) (U : Um) (post : Int32 → Um → Prop) : Prop :=
  oc (uR U o 0) = 8 ∧ w_X9_isSeat (uR U o 0) a1 a2 U (fun r_3 U_2 => (r_3 = 0 → post 0 U_2) ∧ (¬ r_3 = 0 → w_X6_isPlayed o a1 U_2 (fun r_5 U_4 => (r_5 = 0 → post 0 U_4) ∧ (¬ r_5 = 0 → w_X9_placeOf a1 a2 U_4 (fun r_7 U_6 => vp_in r_7 48 ∧ ((uA U_6 o 2 (Int32.toNatClampNeg r_7)) = (-1) → post 0 U_6) ∧ (¬ (uA U_6 o 2 (Int32.toNatClampNeg r_7)) = (-1) → vp_in r_7 48 ∧ ((uA U_6 o 3 (Int32.toNatClampNeg r_7)) = (-1) → post 1 U_6) ∧ (¬ (uA U_6 o 3 (Int32.toNatClampNeg r_7)) = (-1) → post 0 U_6)))))))
set_option maxHeartbeats 4000000 in
theorem t_X6_isMarkable {l : Launch} {Y : px_Y} {o : Nat} {a1 : Int32} {a2 : Int32} {U : Um} {post : Int32 → Um → Prop} (ho : oc o = 5) (H : w_X6_isMarkable o a1 a2 U post) : um l Y 2 yX6_isMarkable cX6_isMarkable 4 (some (.boolean)) [.ref (Y.2.1 o), .int a1, .int a2] U (pq_i post) := by
  unfold w_X6_isMarkable at H
  refine um_of (by decide) (Nat.le_of_ble_eq_true rfl) [some (.ref (Y.2.1 o)), some (.int a1), some (.int a2), none] rfl (fun X h0 hh sz hM hU => ?_)
  have hC := hM.1
  have hR := hM.2.2.1
  refine pr_aload_n hC (by decide +kernel : decode cX6_isMarkable 0 = .ok (.aload_n 0, 1)) rfl ?_
  refine pu_g21 hC fg_X6_41 (by decide +kernel : decode cX6_isMarkable 1 = .ok (.getfield 41, 3)) hU ho (by decide) rfl rfl ?_
  have q_1 := H.1
  replace H := H.2
  refine pr_iload_n hC (by decide +kernel : decode cX6_isMarkable 4 = .ok (.iload_n 1, 1)) rfl ?_
  refine pr_iload_n hC (by decide +kernel : decode cX6_isMarkable 5 = .ok (.iload_n 2, 1)) rfl ?_
  refine vc_Vi hC hR [.int a1, .int a2] fv_X6_85 (by decide +kernel : decode cX6_isMarkable 6 = .ok (.invokevirtual 85, 3)) hU (t_X9_isSeat q_1 H) q_1 (by decide) rfl rfl rfl (Nat.le_of_ble_eq_true rfl) (Nat.le_of_ble_eq_true rfl) (Nat.le_refl 0) (Nat.le_refl 0) (fun r_3 U_2 h H hU => ?_)
  refine pr_if_eq hC 20 (by decide +kernel : decode cX6_isMarkable 9 = .ok (.ifCond .eq 11, 3)) (by decide) (fun c_9 => ?_) (fun c_9 => ?_)
  · replace H := H.1 c_9
    refine pr_iconst hC (0) (by decide +kernel : decode cX6_isMarkable 20 = .ok (.iconst 0, 1)) rfl ?_
    exact pv_zret hM (by decide +kernel : decode cX6_isMarkable 21 = .ok (.ireturn, 1)) (Or.inl rfl) hU H
  replace H := H.2 c_9
  refine pr_aload_n hC (by decide +kernel : decode cX6_isMarkable 12 = .ok (.aload_n 0, 1)) rfl ?_
  refine pr_iload_n hC (by decide +kernel : decode cX6_isMarkable 13 = .ok (.iload_n 1, 1)) rfl ?_
  refine vc_Vi hC hR [.int a1] fv_X6_92 (by decide +kernel : decode cX6_isMarkable 14 = .ok (.invokevirtual 92, 3)) hU (t_X6_isPlayed ho H) ho (by decide) rfl rfl rfl (Nat.le_of_ble_eq_true rfl) (Nat.le_of_ble_eq_true rfl) (Nat.le_refl 0) (Nat.le_refl 0) (fun r_5 U_4 h H hU => ?_)
  refine pr_if_ne hC 22 (by decide +kernel : decode cX6_isMarkable 17 = .ok (.ifCond .ne 5, 3)) (by decide) (fun c_17 => ?_) (fun c_17 => ?_)
  · replace H := H.2 c_17
    refine pr_iload_n hC (by decide +kernel : decode cX6_isMarkable 22 = .ok (.iload_n 1, 1)) rfl ?_
    refine pr_iload_n hC (by decide +kernel : decode cX6_isMarkable 23 = .ok (.iload_n 2, 1)) rfl ?_
    refine vc_Si hC hR [.int a1, .int a2] fv_X6_71 (by decide +kernel : decode cX6_isMarkable 24 = .ok (.invokestatic 71, 3)) hU (t_X9_placeOf  H) rfl rfl (Nat.le_of_ble_eq_true rfl) (Nat.le_of_ble_eq_true rfl) (Nat.le_refl 0) (Nat.le_refl 0) (fun r_7 U_6 h H hU => ?_)
    refine pr_istore_n hC (by decide +kernel : decode cX6_isMarkable 27 = .ok (.istore_n 3, 1)) (by decide) rfl ?_
    refine pr_aload_n hC (by decide +kernel : decode cX6_isMarkable 28 = .ok (.aload_n 0, 1)) rfl ?_
    refine pu_g1 hC fg_X6_9 (by decide +kernel : decode cX6_isMarkable 29 = .ok (.getfield 9, 3)) hU ho (by decide) rfl (by decide) ?_
    refine pr_iload_n hC (by decide +kernel : decode cX6_isMarkable 32 = .ok (.iload_n 3, 1)) rfl ?_
    refine pu_iald hC (by decide +kernel : decode cX6_isMarkable 33 = .ok (.iaload, 1)) hU ho rfl H.1 ?_
    replace H := H.2
    refine pr_iconst hC (-1) (by decide +kernel : decode cX6_isMarkable 34 = .ok (.iconst (-1), 1)) rfl ?_
    refine pr_icmp_eq hC 52 (by decide +kernel : decode cX6_isMarkable 35 = .ok (.if_icmp .eq 17, 3)) (by decide) (fun c_35 => ?_) (fun c_35 => ?_)
    · replace H := H.1 c_35
      refine pr_iconst hC (0) (by decide +kernel : decode cX6_isMarkable 52 = .ok (.iconst 0, 1)) rfl ?_
      exact pv_zret hM (by decide +kernel : decode cX6_isMarkable 53 = .ok (.ireturn, 1)) (Or.inl rfl) hU H
    replace H := H.2 c_35
    refine pr_aload_n hC (by decide +kernel : decode cX6_isMarkable 38 = .ok (.aload_n 0, 1)) rfl ?_
    refine pu_g1 hC fg_X6_15 (by decide +kernel : decode cX6_isMarkable 39 = .ok (.getfield 15, 3)) hU ho (by decide) rfl (by decide) ?_
    refine pr_iload_n hC (by decide +kernel : decode cX6_isMarkable 42 = .ok (.iload_n 3, 1)) rfl ?_
    refine pu_iald hC (by decide +kernel : decode cX6_isMarkable 43 = .ok (.iaload, 1)) hU ho rfl H.1 ?_
    replace H := H.2
    refine pr_iconst hC (-1) (by decide +kernel : decode cX6_isMarkable 44 = .ok (.iconst (-1), 1)) rfl ?_
    refine pr_icmp_ne hC 52 (by decide +kernel : decode cX6_isMarkable 45 = .ok (.if_icmp .ne 7, 3)) (by decide) (fun c_45 => ?_) (fun c_45 => ?_)
    · replace H := H.2 c_45
      refine pr_iconst hC (0) (by decide +kernel : decode cX6_isMarkable 52 = .ok (.iconst 0, 1)) rfl ?_
      exact pv_zret hM (by decide +kernel : decode cX6_isMarkable 53 = .ok (.ireturn, 1)) (Or.inl rfl) hU H
    replace H := H.1 c_45
    refine pr_iconst hC (1) (by decide +kernel : decode cX6_isMarkable 48 = .ok (.iconst 1, 1)) rfl ?_
    refine pr_goto hC 53 (by decide +kernel : decode cX6_isMarkable 49 = .ok (.goto 4, 3)) (by decide) ?_
    exact pv_zret hM (by decide +kernel : decode cX6_isMarkable 53 = .ok (.ireturn, 1)) (Or.inr rfl) hU H
  replace H := H.1 c_17
  refine pr_iconst hC (0) (by decide +kernel : decode cX6_isMarkable 20 = .ok (.iconst 0, 1)) rfl ?_
  exact pv_zret hM (by decide +kernel : decode cX6_isMarkable 21 = .ok (.ireturn, 1)) (Or.inl rfl) hU H
def b_X6_bitsOfForm_L18  (post : Int32 → Um → Prop) (k_41 : UInt32 → Int32 → Um → Prop) (rec_ : UInt32 → Int32 → Um → Prop) (x2 : UInt32) (x3 : Int32) (U : Um) : Prop :=
  ((Op.cmpValue (FP.fcmp x2 FP.fconst2) .l) < 0 → k_41 x2 x3 U) ∧ (¬ (Op.cmpValue (FP.fcmp x2 FP.fconst2) .l) < 0 → ((254 : Int32) ≤ x3 → k_41 x2 x3 U) ∧ (¬ (254 : Int32) ≤ x3 → vf_n32 (FP.fdiv x2 FP.fconst2) ∧ ∀ (x2_2 : UInt32), x2_2 = FP.fdiv x2 FP.fconst2 → ∀ (x3_3 : Int32), x3_3 = x3 + 1 → rec_ x2_2 x3_3 U))
def w_X6_bitsOfForm_L18  (post : Int32 → Um → Prop) (k_41 : UInt32 → Int32 → Um → Prop) (n_ : Nat) : UInt32 → Int32 → Um → Prop := Nat.rec (motive := fun _ => UInt32 → Int32 → Um → Prop) (fun _ _ _ => False) (fun _ ih => b_X6_bitsOfForm_L18  post k_41 ih) n_
def b_X6_bitsOfForm_L41  (post : Int32 → Um → Prop) (k_62 : UInt32 → Int32 → Um → Prop) (rec_ : UInt32 → Int32 → Um → Prop) (x2 : UInt32) (x3 : Int32) (U : Um) : Prop :=
  ((0 : Int32) ≤ (Op.cmpValue (FP.fcmp x2 FP.fconst1) .g) → k_62 x2 x3 U) ∧ (¬ (0 : Int32) ≤ (Op.cmpValue (FP.fcmp x2 FP.fconst1) .g) → (x3 ≤ 1 → k_62 x2 x3 U) ∧ (¬ x3 ≤ 1 → vf_n32 (FP.fmul x2 FP.fconst2) ∧ ∀ (x2_7 : UInt32), x2_7 = FP.fmul x2 FP.fconst2 → ∀ (x3_8 : Int32), x3_8 = x3 + (-1) → rec_ x2_7 x3_8 U))
def w_X6_bitsOfForm_L41  (post : Int32 → Um → Prop) (k_62 : UInt32 → Int32 → Um → Prop) (n_ : Nat) : UInt32 → Int32 → Um → Prop := Nat.rec (motive := fun _ => UInt32 → Int32 → Um → Prop) (fun _ _ _ => False) (fun _ ih => b_X6_bitsOfForm_L41  post k_62 ih) n_
def w_X6_bitsOfForm (o : Nat) (a1 : Int32) (U : Um) (post : Int32 → Um → Prop) : Prop :=
  vp_in a1 10 ∧ ∀ (x2_1 : UInt32), x2_1 = uF U o 5 (Int32.toNatClampNeg a1) → ((0 : Int32) < (Op.cmpValue (FP.fcmp x2_1 FP.fconst0) .g) → (∃ n_13, w_X6_bitsOfForm_L18  post (fun x2_4 x3_5 U_6 => (∃ n_12, w_X6_bitsOfForm_L41  post (fun x2_9 x3_10 U_11 => ((0 : Int32) ≤ (Op.cmpValue (FP.fcmp x2_9 FP.fconst1) .g) → vf_n32 (FP.fsub x2_9 FP.fconst1) ∧ vf_n32 (FP.fmul (FP.fsub x2_9 FP.fconst1) 1258291200) ∧ post ((x3_10 <<< (23 &&& 31)) + (FP.f2i (FP.fmul (FP.fsub x2_9 FP.fconst1) 1258291200))) U_11) ∧ (¬ (0 : Int32) ≤ (Op.cmpValue (FP.fcmp x2_9 FP.fconst1) .g) → vf_n32 (FP.fmul x2_9 1258291200) ∧ post (FP.f2i (FP.fmul x2_9 1258291200)) U_11)) n_12 x2_4 x3_5 U_6)) n_13 x2_1 127 U)) ∧ (¬ (0 : Int32) < (Op.cmpValue (FP.fcmp x2_1 FP.fconst0) .g) → post 0 U)
set_option maxHeartbeats 4000000 in
theorem tl_X6_bitsOfForm_L18 {l : Launch} {Y : px_Y} {X : px_X} {h0 hh : pe_H} {sz : Nat}  (post : Int32 → Um → Prop) (k_41 : UInt32 → Int32 → Um → Prop)   (hC : px_C X Y.1 (pm_A hh sz) cX6_bitsOfForm RX6 4) (hM : px_M l X Y.1 hh sz yX6_bitsOfForm cX6_bitsOfForm 4 (some (.int)) 0 0 0) (hR : X.2.2.2.1 = pm_rm 0 0 0) (hk_41 : ∀ (y2 : UInt32) (y3 : Int32) (U : Um) (h : pe_H), k_41 y2 y3 U → rF Y h0 U h → pw X Y.1 (pm_A hh sz) (pm_E X Y.1 hh sz 0 0 (pm_P Y h0 sz (pq_i post))) 41 [none, none, some (.float y2), some (.int y3)] [] h sz 0 0) : ∀ (n_ : Nat) (x2 : UInt32) (x3 : Int32) (U : Um) (h : pe_H), rF Y h0 U h → w_X6_bitsOfForm_L18  post k_41 n_ x2 x3 U → pw X Y.1 (pm_A hh sz) (pm_E X Y.1 hh sz 0 0 (pm_P Y h0 sz (pq_i post))) 18 [none, none, some (.float x2), some (.int x3)] [] h sz 0 0 := by
  intro n_
  induction n_ with
  | zero => intro x2 x3 U h hU H; exact False.elim H
  | succ n_ ih =>
    intro x2 x3 U h hU H
    replace H : b_X6_bitsOfForm_L18  post k_41 (w_X6_bitsOfForm_L18  post k_41 n_) x2 x3 U := H
    unfold b_X6_bitsOfForm_L18 at H
    refine pr_fload_n hC (by decide +kernel : decode cX6_bitsOfForm 18 = .ok (.fload_n 2, 1)) rfl ?_
    refine pr_fconst2 hC (by decide +kernel : decode cX6_bitsOfForm 19 = .ok (.fconst 2, 1)) ?_
    refine pr_fcmp hC (by decide +kernel : decode cX6_bitsOfForm 20 = .ok (.fcmp .l, 1)) ?_
    refine pr_if_lt hC 41 (by decide +kernel : decode cX6_bitsOfForm 21 = .ok (.ifCond .lt 20, 3)) (by decide) (fun c_21 => ?_) (fun c_21 => ?_)
    · replace H := H.1 c_21
      exact pv_sub [none, none, some (.float x2), some (.int x3)] (And.intro rfl (And.intro rfl trivial)) (hk_41 _ _ U h H hU)
    replace H := H.2 c_21
    refine pr_iload_n hC (by decide +kernel : decode cX6_bitsOfForm 24 = .ok (.iload_n 3, 1)) rfl ?_
    refine pr_sipush hC (254) (by decide +kernel : decode cX6_bitsOfForm 25 = .ok (.sipush 254, 3)) rfl ?_
    refine pr_icmp_ge hC 41 (by decide +kernel : decode cX6_bitsOfForm 28 = .ok (.if_icmp .ge 13, 3)) (by decide) (fun c_28 => ?_) (fun c_28 => ?_)
    · replace H := H.1 c_28
      exact pv_sub [none, none, some (.float x2), some (.int x3)] (And.intro rfl (And.intro rfl trivial)) (hk_41 _ _ U h H hU)
    replace H := H.2 c_28
    refine pr_fload_n hC (by decide +kernel : decode cX6_bitsOfForm 31 = .ok (.fload_n 2, 1)) rfl ?_
    refine pr_fconst2 hC (by decide +kernel : decode cX6_bitsOfForm 32 = .ok (.fconst 2, 1)) ?_
    refine pr_fdiv hC (by decide +kernel : decode cX6_bitsOfForm 33 = .ok (.fdiv, 1)) H.1 ?_
    replace H := H.2
    refine pv_topf (fun x2_2 e_x2_2 => ?_)
    replace H := H x2_2 e_x2_2
    refine pr_fstore_n hC (by decide +kernel : decode cX6_bitsOfForm 34 = .ok (.fstore_n 2, 1)) (by decide) rfl ?_
    refine pv_iinc hC (v := x3 + 1) (by decide +kernel : decode cX6_bitsOfForm 35 = .ok (.iinc 3 1, 3)) rfl (by decide) rfl rfl (fun x3_3 e_x3_3 => ?_)
    replace H := H x3_3 e_x3_3
    refine pr_goto hC 18 (by decide +kernel : decode cX6_bitsOfForm 38 = .ok (.goto (-20), 3)) (by decide) ?_
    exact pv_sub [none, none, some (.float x2_2), some (.int x3_3)] (And.intro rfl (And.intro rfl trivial)) (ih _ _ U h hU H)
set_option maxHeartbeats 4000000 in
theorem tl_X6_bitsOfForm_L41 {l : Launch} {Y : px_Y} {X : px_X} {h0 hh : pe_H} {sz : Nat}  (post : Int32 → Um → Prop) (k_62 : UInt32 → Int32 → Um → Prop)   (hC : px_C X Y.1 (pm_A hh sz) cX6_bitsOfForm RX6 4) (hM : px_M l X Y.1 hh sz yX6_bitsOfForm cX6_bitsOfForm 4 (some (.int)) 0 0 0) (hR : X.2.2.2.1 = pm_rm 0 0 0) (hk_62 : ∀ (y2 : UInt32) (y3 : Int32) (U : Um) (h : pe_H), k_62 y2 y3 U → rF Y h0 U h → pw X Y.1 (pm_A hh sz) (pm_E X Y.1 hh sz 0 0 (pm_P Y h0 sz (pq_i post))) 62 [none, none, some (.float y2), some (.int y3)] [] h sz 0 0) : ∀ (n_ : Nat) (x2 : UInt32) (x3 : Int32) (U : Um) (h : pe_H), rF Y h0 U h → w_X6_bitsOfForm_L41  post k_62 n_ x2 x3 U → pw X Y.1 (pm_A hh sz) (pm_E X Y.1 hh sz 0 0 (pm_P Y h0 sz (pq_i post))) 41 [none, none, some (.float x2), some (.int x3)] [] h sz 0 0 := by
  intro n_
  induction n_ with
  | zero => intro x2 x3 U h hU H; exact False.elim H
  | succ n_ ih =>
    intro x2 x3 U h hU H
    replace H : b_X6_bitsOfForm_L41  post k_62 (w_X6_bitsOfForm_L41  post k_62 n_) x2 x3 U := H
    unfold b_X6_bitsOfForm_L41 at H
    refine pr_fload_n hC (by decide +kernel : decode cX6_bitsOfForm 41 = .ok (.fload_n 2, 1)) rfl ?_
    refine pr_fconst1 hC (by decide +kernel : decode cX6_bitsOfForm 42 = .ok (.fconst 1, 1)) ?_
    refine pr_fcmp hC (by decide +kernel : decode cX6_bitsOfForm 43 = .ok (.fcmp .g, 1)) ?_
    refine pr_if_ge hC 62 (by decide +kernel : decode cX6_bitsOfForm 44 = .ok (.ifCond .ge 18, 3)) (by decide) (fun c_44 => ?_) (fun c_44 => ?_)
    · replace H := H.1 c_44
      exact pv_sub [none, none, some (.float x2), some (.int x3)] (And.intro rfl (And.intro rfl trivial)) (hk_62 _ _ U h H hU)
    replace H := H.2 c_44
    refine pr_iload_n hC (by decide +kernel : decode cX6_bitsOfForm 47 = .ok (.iload_n 3, 1)) rfl ?_
    refine pr_iconst hC (1) (by decide +kernel : decode cX6_bitsOfForm 48 = .ok (.iconst 1, 1)) rfl ?_
    refine pr_icmp_le hC 62 (by decide +kernel : decode cX6_bitsOfForm 49 = .ok (.if_icmp .le 13, 3)) (by decide) (fun c_49 => ?_) (fun c_49 => ?_)
    · replace H := H.1 c_49
      exact pv_sub [none, none, some (.float x2), some (.int x3)] (And.intro rfl (And.intro rfl trivial)) (hk_62 _ _ U h H hU)
    replace H := H.2 c_49
    refine pr_fload_n hC (by decide +kernel : decode cX6_bitsOfForm 52 = .ok (.fload_n 2, 1)) rfl ?_
    refine pr_fconst2 hC (by decide +kernel : decode cX6_bitsOfForm 53 = .ok (.fconst 2, 1)) ?_
    refine pr_fmul hC (by decide +kernel : decode cX6_bitsOfForm 54 = .ok (.fmul, 1)) H.1 ?_
    replace H := H.2
    refine pv_topf (fun x2_7 e_x2_7 => ?_)
    replace H := H x2_7 e_x2_7
    refine pr_fstore_n hC (by decide +kernel : decode cX6_bitsOfForm 55 = .ok (.fstore_n 2, 1)) (by decide) rfl ?_
    refine pv_iinc hC (v := x3 + (-1)) (by decide +kernel : decode cX6_bitsOfForm 56 = .ok (.iinc 3 (-1), 3)) rfl (by decide) rfl rfl (fun x3_8 e_x3_8 => ?_)
    replace H := H x3_8 e_x3_8
    refine pr_goto hC 41 (by decide +kernel : decode cX6_bitsOfForm 59 = .ok (.goto (-18), 3)) (by decide) ?_
    exact pv_sub [none, none, some (.float x2_7), some (.int x3_8)] (And.intro rfl (And.intro rfl trivial)) (ih _ _ U h hU H)
set_option maxHeartbeats 4000000 in
theorem t_X6_bitsOfForm {l : Launch} {Y : px_Y} {o : Nat} {a1 : Int32} {U : Um} {post : Int32 → Um → Prop} (ho : oc o = 5) (H : w_X6_bitsOfForm o a1 U post) : um l Y 0 yX6_bitsOfForm cX6_bitsOfForm 4 (some (.int)) [.ref (Y.2.1 o), .int a1] U (pq_i post) := by
  unfold w_X6_bitsOfForm at H
  refine um_of (by decide) (Nat.le_of_ble_eq_true rfl) [some (.ref (Y.2.1 o)), some (.int a1), none, none] rfl (fun X h0 hh sz hM hU => ?_)
  have hC := hM.1
  have hR := hM.2.2.1
  refine pr_aload_n hC (by decide +kernel : decode cX6_bitsOfForm 0 = .ok (.aload_n 0, 1)) rfl ?_
  refine pu_g1 hC fg_X6_21 (by decide +kernel : decode cX6_bitsOfForm 1 = .ok (.getfield 21, 3)) hU ho (by decide) rfl (by decide) ?_
  refine pr_iload_n hC (by decide +kernel : decode cX6_bitsOfForm 4 = .ok (.iload_n 1, 1)) rfl ?_
  refine pu_fald hC (by decide +kernel : decode cX6_bitsOfForm 5 = .ok (.faload, 1)) hU ho rfl H.1 ?_
  replace H := H.2
  refine pv_topf (fun x2_1 e_x2_1 => ?_)
  replace H := H x2_1 e_x2_1
  refine pr_fstore_n hC (by decide +kernel : decode cX6_bitsOfForm 6 = .ok (.fstore_n 2, 1)) (by decide) rfl ?_
  refine pr_fload_n hC (by decide +kernel : decode cX6_bitsOfForm 7 = .ok (.fload_n 2, 1)) rfl ?_
  refine pr_fconst0 hC (by decide +kernel : decode cX6_bitsOfForm 8 = .ok (.fconst 0, 1)) ?_
  refine pr_fcmp hC (by decide +kernel : decode cX6_bitsOfForm 9 = .ok (.fcmp .g, 1)) ?_
  refine pr_if_gt hC 15 (by decide +kernel : decode cX6_bitsOfForm 10 = .ok (.ifCond .gt 5, 3)) (by decide) (fun c_10 => ?_) (fun c_10 => ?_)
  · replace H := H.1 c_10
    refine pr_bipush hC (127) (by decide +kernel : decode cX6_bitsOfForm 15 = .ok (.bipush 127, 2)) rfl ?_
    refine pr_istore_n hC (by decide +kernel : decode cX6_bitsOfForm 17 = .ok (.istore_n 3, 1)) (by decide) rfl ?_
    obtain ⟨n_13, H⟩ := H
    refine pv_sub [none, none, some (.float x2_1), some (.int 127)] (And.intro rfl (And.intro rfl trivial)) ?_
    refine tl_X6_bitsOfForm_L18 _ _ hC hM hR (fun x2_4 x3_5 U_6 h H hU => ?_) n_13 _ _ U hh hU H
    obtain ⟨n_12, H⟩ := H
    refine pv_sub [none, none, some (.float x2_4), some (.int x3_5)] (And.intro rfl (And.intro rfl trivial)) ?_
    refine tl_X6_bitsOfForm_L41 _ _ hC hM hR (fun x2_9 x3_10 U_11 h H hU => ?_) n_12 _ _ U_6 h hU H
    refine pr_fload_n hC (by decide +kernel : decode cX6_bitsOfForm 62 = .ok (.fload_n 2, 1)) rfl ?_
    refine pr_fconst1 hC (by decide +kernel : decode cX6_bitsOfForm 63 = .ok (.fconst 1, 1)) ?_
    refine pr_fcmp hC (by decide +kernel : decode cX6_bitsOfForm 64 = .ok (.fcmp .g, 1)) ?_
    refine pr_if_ge hC 74 (by decide +kernel : decode cX6_bitsOfForm 65 = .ok (.ifCond .ge 9, 3)) (by decide) (fun c_65 => ?_) (fun c_65 => ?_)
    · replace H := H.1 c_65
      refine pr_iload_n hC (by decide +kernel : decode cX6_bitsOfForm 74 = .ok (.iload_n 3, 1)) rfl ?_
      refine pr_bipush hC (23) (by decide +kernel : decode cX6_bitsOfForm 75 = .ok (.bipush 23, 2)) rfl ?_
      refine pr_ishl hC (by decide +kernel : decode cX6_bitsOfForm 77 = .ok (.ishl, 1)) ?_
      refine pr_fload_n hC (by decide +kernel : decode cX6_bitsOfForm 78 = .ok (.fload_n 2, 1)) rfl ?_
      refine pr_fconst1 hC (by decide +kernel : decode cX6_bitsOfForm 79 = .ok (.fconst 1, 1)) ?_
      refine pr_fsub hC (by decide +kernel : decode cX6_bitsOfForm 80 = .ok (.fsub, 1)) H.1 ?_
      replace H := H.2
      refine pr_ldcf hC (1258291200) (by decide +kernel : decode cX6_bitsOfForm 81 = .ok (.ldc 214, 2)) fk_X6_214 ?_
      refine pr_fmul hC (by decide +kernel : decode cX6_bitsOfForm 83 = .ok (.fmul, 1)) H.1 ?_
      replace H := H.2
      refine pr_f2i hC (by decide +kernel : decode cX6_bitsOfForm 84 = .ok (.f2i, 1)) ?_
      refine pr_iadd hC (by decide +kernel : decode cX6_bitsOfForm 85 = .ok (.iadd, 1)) ?_
      exact pv_iret hM (by decide +kernel : decode cX6_bitsOfForm 86 = .ok (.ireturn, 1)) hU H
    replace H := H.2 c_65
    refine pr_fload_n hC (by decide +kernel : decode cX6_bitsOfForm 68 = .ok (.fload_n 2, 1)) rfl ?_
    refine pr_ldcf hC (1258291200) (by decide +kernel : decode cX6_bitsOfForm 69 = .ok (.ldc 214, 2)) fk_X6_214 ?_
    refine pr_fmul hC (by decide +kernel : decode cX6_bitsOfForm 71 = .ok (.fmul, 1)) H.1 ?_
    replace H := H.2
    refine pr_f2i hC (by decide +kernel : decode cX6_bitsOfForm 72 = .ok (.f2i, 1)) ?_
    exact pv_iret hM (by decide +kernel : decode cX6_bitsOfForm 73 = .ok (.ireturn, 1)) hU H
  replace H := H.2 c_10
  refine pr_iconst hC (0) (by decide +kernel : decode cX6_bitsOfForm 13 = .ok (.iconst 0, 1)) rfl ?_
  exact pv_iret hM (by decide +kernel : decode cX6_bitsOfForm 14 = .ok (.ireturn, 1)) hU H
def w_X6_isAhead (o : Nat) (a1 : Int32) (a2 : Int32) (U : Um) (post : Int32 → Um → Prop) : Prop :=
  vp_in a1 10 ∧ vp_in a2 10 ∧ ((Op.cmpValue (FP.fcmp (uF U o 5 (Int32.toNatClampNeg a1)) (uF U o 5 (Int32.toNatClampNeg a2))) .l) = 0 → vp_in a1 10 ∧ vp_in a2 10 ∧ ((uA U o 6 (Int32.toNatClampNeg a1)) = (uA U o 6 (Int32.toNatClampNeg a2)) → (a2 ≤ a1 → post 0 U) ∧ (¬ a2 ≤ a1 → post 1 U)) ∧ (¬ (uA U o 6 (Int32.toNatClampNeg a1)) = (uA U o 6 (Int32.toNatClampNeg a2)) → vp_in a1 10 ∧ vp_in a2 10 ∧ ((uA U o 6 (Int32.toNatClampNeg a1)) ≤ (uA U o 6 (Int32.toNatClampNeg a2)) → post 0 U) ∧ (¬ (uA U o 6 (Int32.toNatClampNeg a1)) ≤ (uA U o 6 (Int32.toNatClampNeg a2)) → post 1 U))) ∧ (¬ (Op.cmpValue (FP.fcmp (uF U o 5 (Int32.toNatClampNeg a1)) (uF U o 5 (Int32.toNatClampNeg a2))) .l) = 0 → vp_in a1 10 ∧ vp_in a2 10 ∧ ((Op.cmpValue (FP.fcmp (uF U o 5 (Int32.toNatClampNeg a1)) (uF U o 5 (Int32.toNatClampNeg a2))) .l) ≤ 0 → post 0 U) ∧ (¬ (Op.cmpValue (FP.fcmp (uF U o 5 (Int32.toNatClampNeg a1)) (uF U o 5 (Int32.toNatClampNeg a2))) .l) ≤ 0 → post 1 U))
set_option maxHeartbeats 4000000 in
theorem t_X6_isAhead {l : Launch} {Y : px_Y} {o : Nat} {a1 : Int32} {a2 : Int32} {U : Um} {post : Int32 → Um → Prop} (ho : oc o = 5) (H : w_X6_isAhead o a1 a2 U post) : um l Y 0 yX6_isAhead cX6_isAhead 3 (some (.boolean)) [.ref (Y.2.1 o), .int a1, .int a2] U (pq_i post) := by
  unfold w_X6_isAhead at H
  refine um_of (by decide) (Nat.le_of_ble_eq_true rfl) [some (.ref (Y.2.1 o)), some (.int a1), some (.int a2)] rfl (fun X h0 hh sz hM hU => ?_)
  have hC := hM.1
  have hR := hM.2.2.1
  refine pr_aload_n hC (by decide +kernel : decode cX6_isAhead 0 = .ok (.aload_n 0, 1)) rfl ?_
  refine pu_g1 hC fg_X6_21 (by decide +kernel : decode cX6_isAhead 1 = .ok (.getfield 21, 3)) hU ho (by decide) rfl (by decide) ?_
  refine pr_iload_n hC (by decide +kernel : decode cX6_isAhead 4 = .ok (.iload_n 1, 1)) rfl ?_
  refine pu_fald hC (by decide +kernel : decode cX6_isAhead 5 = .ok (.faload, 1)) hU ho rfl H.1 ?_
  replace H := H.2
  refine pr_aload_n hC (by decide +kernel : decode cX6_isAhead 6 = .ok (.aload_n 0, 1)) rfl ?_
  refine pu_g1 hC fg_X6_21 (by decide +kernel : decode cX6_isAhead 7 = .ok (.getfield 21, 3)) hU ho (by decide) rfl (by decide) ?_
  refine pr_iload_n hC (by decide +kernel : decode cX6_isAhead 10 = .ok (.iload_n 2, 1)) rfl ?_
  refine pu_fald hC (by decide +kernel : decode cX6_isAhead 11 = .ok (.faload, 1)) hU ho rfl H.1 ?_
  replace H := H.2
  refine pr_fcmp hC (by decide +kernel : decode cX6_isAhead 12 = .ok (.fcmp .l, 1)) ?_
  refine pr_if_eq hC 38 (by decide +kernel : decode cX6_isAhead 13 = .ok (.ifCond .eq 25, 3)) (by decide) (fun c_13 => ?_) (fun c_13 => ?_)
  · replace H := H.1 c_13
    refine pr_aload_n hC (by decide +kernel : decode cX6_isAhead 38 = .ok (.aload_n 0, 1)) rfl ?_
    refine pu_g1 hC fg_X6_25 (by decide +kernel : decode cX6_isAhead 39 = .ok (.getfield 25, 3)) hU ho (by decide) rfl (by decide) ?_
    refine pr_iload_n hC (by decide +kernel : decode cX6_isAhead 42 = .ok (.iload_n 1, 1)) rfl ?_
    refine pu_iald hC (by decide +kernel : decode cX6_isAhead 43 = .ok (.iaload, 1)) hU ho rfl H.1 ?_
    replace H := H.2
    refine pr_aload_n hC (by decide +kernel : decode cX6_isAhead 44 = .ok (.aload_n 0, 1)) rfl ?_
    refine pu_g1 hC fg_X6_25 (by decide +kernel : decode cX6_isAhead 45 = .ok (.getfield 25, 3)) hU ho (by decide) rfl (by decide) ?_
    refine pr_iload_n hC (by decide +kernel : decode cX6_isAhead 48 = .ok (.iload_n 2, 1)) rfl ?_
    refine pu_iald hC (by decide +kernel : decode cX6_isAhead 49 = .ok (.iaload, 1)) hU ho rfl H.1 ?_
    replace H := H.2
    refine pr_icmp_eq hC 76 (by decide +kernel : decode cX6_isAhead 50 = .ok (.if_icmp .eq 26, 3)) (by decide) (fun c_50 => ?_) (fun c_50 => ?_)
    · replace H := H.1 c_50
      refine pr_iload_n hC (by decide +kernel : decode cX6_isAhead 76 = .ok (.iload_n 1, 1)) rfl ?_
      refine pr_iload_n hC (by decide +kernel : decode cX6_isAhead 77 = .ok (.iload_n 2, 1)) rfl ?_
      refine pr_icmp_ge hC 85 (by decide +kernel : decode cX6_isAhead 78 = .ok (.if_icmp .ge 7, 3)) (by decide) (fun c_78 => ?_) (fun c_78 => ?_)
      · replace H := H.1 c_78
        refine pr_iconst hC (0) (by decide +kernel : decode cX6_isAhead 85 = .ok (.iconst 0, 1)) rfl ?_
        exact pv_zret hM (by decide +kernel : decode cX6_isAhead 86 = .ok (.ireturn, 1)) (Or.inl rfl) hU H
      replace H := H.2 c_78
      refine pr_iconst hC (1) (by decide +kernel : decode cX6_isAhead 81 = .ok (.iconst 1, 1)) rfl ?_
      refine pr_goto hC 86 (by decide +kernel : decode cX6_isAhead 82 = .ok (.goto 4, 3)) (by decide) ?_
      exact pv_zret hM (by decide +kernel : decode cX6_isAhead 86 = .ok (.ireturn, 1)) (Or.inr rfl) hU H
    replace H := H.2 c_50
    refine pr_aload_n hC (by decide +kernel : decode cX6_isAhead 53 = .ok (.aload_n 0, 1)) rfl ?_
    refine pu_g1 hC fg_X6_25 (by decide +kernel : decode cX6_isAhead 54 = .ok (.getfield 25, 3)) hU ho (by decide) rfl (by decide) ?_
    refine pr_iload_n hC (by decide +kernel : decode cX6_isAhead 57 = .ok (.iload_n 1, 1)) rfl ?_
    refine pu_iald hC (by decide +kernel : decode cX6_isAhead 58 = .ok (.iaload, 1)) hU ho rfl H.1 ?_
    replace H := H.2
    refine pr_aload_n hC (by decide +kernel : decode cX6_isAhead 59 = .ok (.aload_n 0, 1)) rfl ?_
    refine pu_g1 hC fg_X6_25 (by decide +kernel : decode cX6_isAhead 60 = .ok (.getfield 25, 3)) hU ho (by decide) rfl (by decide) ?_
    refine pr_iload_n hC (by decide +kernel : decode cX6_isAhead 63 = .ok (.iload_n 2, 1)) rfl ?_
    refine pu_iald hC (by decide +kernel : decode cX6_isAhead 64 = .ok (.iaload, 1)) hU ho rfl H.1 ?_
    replace H := H.2
    refine pr_icmp_le hC 72 (by decide +kernel : decode cX6_isAhead 65 = .ok (.if_icmp .le 7, 3)) (by decide) (fun c_65 => ?_) (fun c_65 => ?_)
    · replace H := H.1 c_65
      refine pr_iconst hC (0) (by decide +kernel : decode cX6_isAhead 72 = .ok (.iconst 0, 1)) rfl ?_
      refine pr_goto hC 86 (by decide +kernel : decode cX6_isAhead 73 = .ok (.goto 13, 3)) (by decide) ?_
      exact pv_zret hM (by decide +kernel : decode cX6_isAhead 86 = .ok (.ireturn, 1)) (Or.inl rfl) hU H
    replace H := H.2 c_65
    refine pr_iconst hC (1) (by decide +kernel : decode cX6_isAhead 68 = .ok (.iconst 1, 1)) rfl ?_
    refine pr_goto hC 86 (by decide +kernel : decode cX6_isAhead 69 = .ok (.goto 17, 3)) (by decide) ?_
    exact pv_zret hM (by decide +kernel : decode cX6_isAhead 86 = .ok (.ireturn, 1)) (Or.inr rfl) hU H
  replace H := H.2 c_13
  refine pr_aload_n hC (by decide +kernel : decode cX6_isAhead 16 = .ok (.aload_n 0, 1)) rfl ?_
  refine pu_g1 hC fg_X6_21 (by decide +kernel : decode cX6_isAhead 17 = .ok (.getfield 21, 3)) hU ho (by decide) rfl (by decide) ?_
  refine pr_iload_n hC (by decide +kernel : decode cX6_isAhead 20 = .ok (.iload_n 1, 1)) rfl ?_
  refine pu_fald hC (by decide +kernel : decode cX6_isAhead 21 = .ok (.faload, 1)) hU ho rfl H.1 ?_
  replace H := H.2
  refine pr_aload_n hC (by decide +kernel : decode cX6_isAhead 22 = .ok (.aload_n 0, 1)) rfl ?_
  refine pu_g1 hC fg_X6_21 (by decide +kernel : decode cX6_isAhead 23 = .ok (.getfield 21, 3)) hU ho (by decide) rfl (by decide) ?_
  refine pr_iload_n hC (by decide +kernel : decode cX6_isAhead 26 = .ok (.iload_n 2, 1)) rfl ?_
  refine pu_fald hC (by decide +kernel : decode cX6_isAhead 27 = .ok (.faload, 1)) hU ho rfl H.1 ?_
  replace H := H.2
  refine pr_fcmp hC (by decide +kernel : decode cX6_isAhead 28 = .ok (.fcmp .l, 1)) ?_
  refine pr_if_le hC 36 (by decide +kernel : decode cX6_isAhead 29 = .ok (.ifCond .le 7, 3)) (by decide) (fun c_29 => ?_) (fun c_29 => ?_)
  · replace H := H.1 c_29
    refine pr_iconst hC (0) (by decide +kernel : decode cX6_isAhead 36 = .ok (.iconst 0, 1)) rfl ?_
    exact pv_zret hM (by decide +kernel : decode cX6_isAhead 37 = .ok (.ireturn, 1)) (Or.inl rfl) hU H
  replace H := H.2 c_29
  refine pr_iconst hC (1) (by decide +kernel : decode cX6_isAhead 32 = .ok (.iconst 1, 1)) rfl ?_
  refine pr_goto hC 37 (by decide +kernel : decode cX6_isAhead 33 = .ok (.goto 4, 3)) (by decide) ?_
  exact pv_zret hM (by decide +kernel : decode cX6_isAhead 37 = .ok (.ireturn, 1)) (Or.inr rfl) hU H
def b_X6_sortByForm_L14 (o0 : Nat) (x1 : Int32) (post : Um → Prop) (k_40 : Int32 → Um → Prop) (rec_ : Int32 → Int32 → Um → Prop) (x2 : Int32) (x3 : Int32) (U : Um) : Prop :=
  w_X6_officials o0 U (fun r_4 U_3 => (r_4 ≤ x3 → k_40 x2 U_3) ∧ (¬ r_4 ≤ x3 → w_X6_isAhead o0 x3 x1 U_3 (fun r_6 U_5 => (r_6 = 0 → ∀ (x3_7 : Int32), x3_7 = x3 + 1 → rec_ x2 x3_7 U_5) ∧ (¬ r_6 = 0 → ∀ (x2_8 : Int32), x2_8 = x2 + 1 → ∀ (x3_9 : Int32), x3_9 = x3 + 1 → rec_ x2_8 x3_9 U_5))))
def w_X6_sortByForm_L14 (o0 : Nat) (x1 : Int32) (post : Um → Prop) (k_40 : Int32 → Um → Prop) (n_ : Nat) : Int32 → Int32 → Um → Prop := Nat.rec (motive := fun _ => Int32 → Int32 → Um → Prop) (fun _ _ _ => False) (fun _ ih => b_X6_sortByForm_L14 o0 x1 post k_40 ih) n_
def b_X6_sortByForm_L2 (o0 : Nat) (post : Um → Prop) (k_53 : Um → Prop) (rec_ : Int32 → Um → Prop) (x1 : Int32) (U : Um) : Prop :=
  w_X6_officials o0 U (fun r_2 U_1 => (r_2 ≤ x1 → k_53 U_1) ∧ (¬ r_2 ≤ x1 → (∃ n_14, w_X6_sortByForm_L14 o0 x1 post (fun x2_10 U_11 => vp_in x2_10 10 ∧ ∀ (U_12 : Um), U_12 = sA U_11 o0 8 (va_up (uA U_11 o0 8) (Int32.toNatClampNeg x2_10) x1) → ∀ (x1_13 : Int32), x1_13 = x1 + 1 → rec_ x1_13 U_12) n_14 0 0 U_1)))
def w_X6_sortByForm_L2 (o0 : Nat) (post : Um → Prop) (k_53 : Um → Prop) (n_ : Nat) : Int32 → Um → Prop := Nat.rec (motive := fun _ => Int32 → Um → Prop) (fun _ _ => False) (fun _ ih => b_X6_sortByForm_L2 o0 post k_53 ih) n_
def w_X6_sortByForm (o : Nat) (U : Um) (post : Um → Prop) : Prop :=
  (∃ n_16, w_X6_sortByForm_L2 o post (fun U_15 => post U_15) n_16 0 U)
set_option maxHeartbeats 4000000 in
theorem tl_X6_sortByForm_L14 {l : Launch} {Y : px_Y} {X : px_X} {h0 hh : pe_H} {sz : Nat} (o0 : Nat) (x1 : Int32) (post : Um → Prop) (k_40 : Int32 → Um → Prop) (ho0 : oc o0 = 5)  (hC : px_C X Y.1 (pm_A hh sz) cX6_sortByForm RX6 4) (hM : px_M l X Y.1 hh sz yX6_sortByForm cX6_sortByForm 4 none 1 0 0) (hR : X.2.2.2.1 = pm_rm 1 0 0) (hk_40 : ∀ (y2 : Int32) (U : Um) (h : pe_H), k_40 y2 U → rF Y h0 U h → pw X Y.1 (pm_A hh sz) (pm_E X Y.1 hh sz 0 0 (pm_P Y h0 sz (pq_v post))) 40 [some (.ref (Y.2.1 o0)), some (.int x1), some (.int y2), none] [] h sz 0 0) : ∀ (n_ : Nat) (x2 : Int32) (x3 : Int32) (U : Um) (h : pe_H), rF Y h0 U h → w_X6_sortByForm_L14 o0 x1 post k_40 n_ x2 x3 U → pw X Y.1 (pm_A hh sz) (pm_E X Y.1 hh sz 0 0 (pm_P Y h0 sz (pq_v post))) 14 [some (.ref (Y.2.1 o0)), some (.int x1), some (.int x2), some (.int x3)] [] h sz 0 0 := by
  intro n_
  induction n_ with
  | zero => intro x2 x3 U h hU H; exact False.elim H
  | succ n_ ih =>
    intro x2 x3 U h hU H
    replace H : b_X6_sortByForm_L14 o0 x1 post k_40 (w_X6_sortByForm_L14 o0 x1 post k_40 n_) x2 x3 U := H
    unfold b_X6_sortByForm_L14 at H
    refine pr_iload_n hC (by decide +kernel : decode cX6_sortByForm 14 = .ok (.iload_n 3, 1)) rfl ?_
    refine pr_aload_n hC (by decide +kernel : decode cX6_sortByForm 15 = .ok (.aload_n 0, 1)) rfl ?_
    refine vc_Vi hC hR [] fv_X6_75 (by decide +kernel : decode cX6_sortByForm 16 = .ok (.invokevirtual 75, 3)) hU (t_X6_officials ho0 H) ho0 (by decide) rfl rfl rfl (Nat.le_of_ble_eq_true rfl) (Nat.le_of_ble_eq_true rfl) (Nat.le_refl 0) (Nat.le_refl 0) (fun r_4 U_3 h H hU => ?_)
    refine pr_icmp_ge hC 40 (by decide +kernel : decode cX6_sortByForm 19 = .ok (.if_icmp .ge 21, 3)) (by decide) (fun c_19 => ?_) (fun c_19 => ?_)
    · replace H := H.1 c_19
      exact pv_sub [some (.ref (Y.2.1 o0)), some (.int x1), some (.int x2), none] (And.intro rfl (And.intro rfl (And.intro rfl trivial))) (hk_40 _ U_3 h H hU)
    replace H := H.2 c_19
    refine pr_aload_n hC (by decide +kernel : decode cX6_sortByForm 22 = .ok (.aload_n 0, 1)) rfl ?_
    refine pr_iload_n hC (by decide +kernel : decode cX6_sortByForm 23 = .ok (.iload_n 3, 1)) rfl ?_
    refine pr_iload_n hC (by decide +kernel : decode cX6_sortByForm 24 = .ok (.iload_n 1, 1)) rfl ?_
    refine vc_Vi hC hR [.int x3, .int x1] fv_X6_215 (by decide +kernel : decode cX6_sortByForm 25 = .ok (.invokevirtual 215, 3)) hU (t_X6_isAhead ho0 H) ho0 (by decide) rfl rfl rfl (Nat.le_of_ble_eq_true rfl) (Nat.le_of_ble_eq_true rfl) (Nat.le_refl 0) (Nat.le_refl 0) (fun r_6 U_5 h H hU => ?_)
    refine pr_if_eq hC 34 (by decide +kernel : decode cX6_sortByForm 28 = .ok (.ifCond .eq 6, 3)) (by decide) (fun c_28 => ?_) (fun c_28 => ?_)
    · replace H := H.1 c_28
      refine pv_iinc hC (v := x3 + 1) (by decide +kernel : decode cX6_sortByForm 34 = .ok (.iinc 3 1, 3)) rfl (by decide) rfl rfl (fun x3_7 e_x3_7 => ?_)
      replace H := H x3_7 e_x3_7
      refine pr_goto hC 14 (by decide +kernel : decode cX6_sortByForm 37 = .ok (.goto (-23), 3)) (by decide) ?_
      exact pv_sub [some (.ref (Y.2.1 o0)), some (.int x1), some (.int x2), some (.int x3_7)] (And.intro rfl (And.intro rfl (And.intro rfl (And.intro rfl trivial)))) (ih _ _ U_5 h hU H)
    replace H := H.2 c_28
    refine pv_iinc hC (v := x2 + 1) (by decide +kernel : decode cX6_sortByForm 31 = .ok (.iinc 2 1, 3)) rfl (by decide) rfl rfl (fun x2_8 e_x2_8 => ?_)
    replace H := H x2_8 e_x2_8
    refine pv_iinc hC (v := x3 + 1) (by decide +kernel : decode cX6_sortByForm 34 = .ok (.iinc 3 1, 3)) rfl (by decide) rfl rfl (fun x3_9 e_x3_9 => ?_)
    replace H := H x3_9 e_x3_9
    refine pr_goto hC 14 (by decide +kernel : decode cX6_sortByForm 37 = .ok (.goto (-23), 3)) (by decide) ?_
    exact pv_sub [some (.ref (Y.2.1 o0)), some (.int x1), some (.int x2_8), some (.int x3_9)] (And.intro rfl (And.intro rfl (And.intro rfl (And.intro rfl trivial)))) (ih _ _ U_5 h hU H)
set_option maxHeartbeats 4000000 in
theorem tl_X6_sortByForm_L2 {l : Launch} {Y : px_Y} {X : px_X} {h0 hh : pe_H} {sz : Nat} (o0 : Nat) (post : Um → Prop) (k_53 : Um → Prop) (ho0 : oc o0 = 5)  (hC : px_C X Y.1 (pm_A hh sz) cX6_sortByForm RX6 4) (hM : px_M l X Y.1 hh sz yX6_sortByForm cX6_sortByForm 4 none 1 0 0) (hR : X.2.2.2.1 = pm_rm 1 0 0) (hk_53 : ∀ (U : Um) (h : pe_H), k_53 U → rF Y h0 U h → pw X Y.1 (pm_A hh sz) (pm_E X Y.1 hh sz 0 0 (pm_P Y h0 sz (pq_v post))) 53 [none, none, none, none] [] h sz 0 0) : ∀ (n_ : Nat) (x1 : Int32) (U : Um) (h : pe_H), rF Y h0 U h → w_X6_sortByForm_L2 o0 post k_53 n_ x1 U → pw X Y.1 (pm_A hh sz) (pm_E X Y.1 hh sz 0 0 (pm_P Y h0 sz (pq_v post))) 2 [some (.ref (Y.2.1 o0)), some (.int x1), none, none] [] h sz 0 0 := by
  intro n_
  induction n_ with
  | zero => intro x1 U h hU H; exact False.elim H
  | succ n_ ih =>
    intro x1 U h hU H
    replace H : b_X6_sortByForm_L2 o0 post k_53 (w_X6_sortByForm_L2 o0 post k_53 n_) x1 U := H
    unfold b_X6_sortByForm_L2 at H
    refine pr_iload_n hC (by decide +kernel : decode cX6_sortByForm 2 = .ok (.iload_n 1, 1)) rfl ?_
    refine pr_aload_n hC (by decide +kernel : decode cX6_sortByForm 3 = .ok (.aload_n 0, 1)) rfl ?_
    refine vc_Vi hC hR [] fv_X6_75 (by decide +kernel : decode cX6_sortByForm 4 = .ok (.invokevirtual 75, 3)) hU (t_X6_officials ho0 H) ho0 (by decide) rfl rfl rfl (Nat.le_of_ble_eq_true rfl) (Nat.le_of_ble_eq_true rfl) (Nat.le_refl 0) (Nat.le_refl 0) (fun r_2 U_1 h H hU => ?_)
    refine pr_icmp_ge hC 53 (by decide +kernel : decode cX6_sortByForm 7 = .ok (.if_icmp .ge 46, 3)) (by decide) (fun c_7 => ?_) (fun c_7 => ?_)
    · replace H := H.1 c_7
      exact pv_sub [none, none, none, none] (trivial) (hk_53 U_1 h H hU)
    replace H := H.2 c_7
    refine pr_iconst hC (0) (by decide +kernel : decode cX6_sortByForm 10 = .ok (.iconst 0, 1)) rfl ?_
    refine pr_istore_n hC (by decide +kernel : decode cX6_sortByForm 11 = .ok (.istore_n 2, 1)) (by decide) rfl ?_
    refine pr_iconst hC (0) (by decide +kernel : decode cX6_sortByForm 12 = .ok (.iconst 0, 1)) rfl ?_
    refine pr_istore_n hC (by decide +kernel : decode cX6_sortByForm 13 = .ok (.istore_n 3, 1)) (by decide) rfl ?_
    obtain ⟨n_14, H⟩ := H
    refine pv_sub [some (.ref (Y.2.1 o0)), some (.int x1), some (.int 0), some (.int 0)] (And.intro rfl (And.intro rfl (And.intro rfl (And.intro rfl trivial)))) ?_
    refine tl_X6_sortByForm_L14 _ _ _ _ ho0 hC hM hR (fun x2_10 U_11 h H hU => ?_) n_14 _ _ U_1 h hU H
    refine pr_aload_n hC (by decide +kernel : decode cX6_sortByForm 40 = .ok (.aload_n 0, 1)) rfl ?_
    refine pu_g1 hC fg_X6_31 (by decide +kernel : decode cX6_sortByForm 41 = .ok (.getfield 31, 3)) hU ho0 (by decide) rfl (by decide) ?_
    refine pr_iload_n hC (by decide +kernel : decode cX6_sortByForm 44 = .ok (.iload_n 2, 1)) rfl ?_
    refine pr_iload_n hC (by decide +kernel : decode cX6_sortByForm 45 = .ok (.iload_n 1, 1)) rfl ?_
    refine pv_iast hC (by decide +kernel : decode cX6_sortByForm 46 = .ok (.iastore, 1)) hU ho0 rfl H.1 (fun U_12 h e_U_12 hU => ?_)
    replace H := H.2 U_12 e_U_12
    refine pv_iinc hC (v := x1 + 1) (by decide +kernel : decode cX6_sortByForm 47 = .ok (.iinc 1 1, 3)) rfl (by decide) rfl rfl (fun x1_13 e_x1_13 => ?_)
    replace H := H x1_13 e_x1_13
    refine pr_goto hC 2 (by decide +kernel : decode cX6_sortByForm 50 = .ok (.goto (-48), 3)) (by decide) ?_
    exact pv_sub [some (.ref (Y.2.1 o0)), some (.int x1_13), none, none] (And.intro rfl (And.intro rfl trivial)) (ih _ U_12 h hU H)
set_option maxHeartbeats 4000000 in
theorem t_X6_sortByForm {l : Launch} {Y : px_Y} {o : Nat} {U : Um} {post : Um → Prop} (ho : oc o = 5) (H : w_X6_sortByForm o U post) : um l Y 1 yX6_sortByForm cX6_sortByForm 4 none [.ref (Y.2.1 o)] U (pq_v post) := by
  unfold w_X6_sortByForm at H
  refine um_of (by decide) (Nat.le_of_ble_eq_true rfl) [some (.ref (Y.2.1 o)), none, none, none] rfl (fun X h0 hh sz hM hU => ?_)
  have hC := hM.1
  have hR := hM.2.2.1
  refine pr_iconst hC (0) (by decide +kernel : decode cX6_sortByForm 0 = .ok (.iconst 0, 1)) rfl ?_
  refine pr_istore_n hC (by decide +kernel : decode cX6_sortByForm 1 = .ok (.istore_n 1, 1)) (by decide) rfl ?_
  obtain ⟨n_16, H⟩ := H
  refine pv_sub [some (.ref (Y.2.1 o)), some (.int 0), none, none] (And.intro rfl (And.intro rfl trivial)) ?_
  refine tl_X6_sortByForm_L2 _ _ _ ho hC hM hR (fun U_15 h H hU => ?_) n_16 _ U hh hU H
  exact pv_vret hM (by decide +kernel : decode cX6_sortByForm 53 = .ok (.return_, 1)) hU H
def b_X6_markRisers_L5 (o0 : Nat) (x1 : Int32) (x2 : Int32) (post : Int32 → Um → Prop) (k_80 : Int32 → Um → Prop) (rec_ : Int32 → Int32 → Um → Prop) (x3 : Int32) (x4 : Int32) (U : Um) : Prop :=
  w_X6_officials o0 U (fun r_2 U_1 => (r_2 ≤ x4 → k_80 x3 U_1) ∧ (¬ r_2 ≤ x4 → (x2 ≤ x3 → k_80 x3 U_1) ∧ (¬ x2 ≤ x3 → vp_in x4 10 ∧ ∀ (x5_3 : Int32), x5_3 = uA U_1 o0 8 (Int32.toNatClampNeg x4) → vp_in x5_3 10 ∧ ((uA U_1 o0 4 (Int32.toNatClampNeg x5_3)) = x1 → vp_in x5_3 10 ∧ ((uA U_1 o0 6 (Int32.toNatClampNeg x5_3)) < 2 → ∀ (x4_4 : Int32), x4_4 = x4 + 1 → rec_ x3 x4_4 U_1) ∧ (¬ (uA U_1 o0 6 (Int32.toNatClampNeg x5_3)) < 2 → vp_in x5_3 10 ∧ ((Op.cmpValue (FP.fcmp (uF U_1 o0 5 (Int32.toNatClampNeg x5_3)) 1114636288) .l) < 0 → ∀ (x4_5 : Int32), x4_5 = x4 + 1 → rec_ x3 x4_5 U_1) ∧ (¬ (Op.cmpValue (FP.fcmp (uF U_1 o0 5 (Int32.toNatClampNeg x5_3)) 1114636288) .l) < 0 → vp_in x5_3 10 ∧ ∀ (U_6 : Um), U_6 = sA U_1 o0 9 (va_up (uA U_1 o0 9) (Int32.toNatClampNeg x5_3) 1) → ∀ (x3_7 : Int32), x3_7 = x3 + 1 → ∀ (x4_8 : Int32), x4_8 = x4 + 1 → rec_ x3_7 x4_8 U_6))) ∧ (¬ (uA U_1 o0 4 (Int32.toNatClampNeg x5_3)) = x1 → ∀ (x4_9 : Int32), x4_9 = x4 + 1 → rec_ x3 x4_9 U_1))))
def w_X6_markRisers_L5 (o0 : Nat) (x1 : Int32) (x2 : Int32) (post : Int32 → Um → Prop) (k_80 : Int32 → Um → Prop) (n_ : Nat) : Int32 → Int32 → Um → Prop := Nat.rec (motive := fun _ => Int32 → Int32 → Um → Prop) (fun _ _ _ => False) (fun _ ih => b_X6_markRisers_L5 o0 x1 x2 post k_80 ih) n_
def w_X6_markRisers (o : Nat) (a1 : Int32) (a2 : Int32) (U : Um) (post : Int32 → Um → Prop) : Prop :=
  (∃ n_12, w_X6_markRisers_L5 o a1 a2 post (fun x3_10 U_11 => post x3_10 U_11) n_12 0 0 U)
set_option maxHeartbeats 4000000 in
theorem tl_X6_markRisers_L5 {l : Launch} {Y : px_Y} {X : px_X} {h0 hh : pe_H} {sz : Nat} (o0 : Nat) (x1 : Int32) (x2 : Int32) (post : Int32 → Um → Prop) (k_80 : Int32 → Um → Prop) (ho0 : oc o0 = 5)  (hC : px_C X Y.1 (pm_A hh sz) cX6_markRisers RX6 6) (hM : px_M l X Y.1 hh sz yX6_markRisers cX6_markRisers 6 (some (.int)) 1 0 0) (hR : X.2.2.2.1 = pm_rm 1 0 0) (hk_80 : ∀ (y3 : Int32) (U : Um) (h : pe_H), k_80 y3 U → rF Y h0 U h → pw X Y.1 (pm_A hh sz) (pm_E X Y.1 hh sz 0 0 (pm_P Y h0 sz (pq_i post))) 80 [none, none, none, some (.int y3), none, none] [] h sz 0 0) : ∀ (n_ : Nat) (x3 : Int32) (x4 : Int32) (U : Um) (h : pe_H), rF Y h0 U h → w_X6_markRisers_L5 o0 x1 x2 post k_80 n_ x3 x4 U → pw X Y.1 (pm_A hh sz) (pm_E X Y.1 hh sz 0 0 (pm_P Y h0 sz (pq_i post))) 5 [some (.ref (Y.2.1 o0)), some (.int x1), some (.int x2), some (.int x3), some (.int x4), none] [] h sz 0 0 := by
  intro n_
  induction n_ with
  | zero => intro x3 x4 U h hU H; exact False.elim H
  | succ n_ ih =>
    intro x3 x4 U h hU H
    replace H : b_X6_markRisers_L5 o0 x1 x2 post k_80 (w_X6_markRisers_L5 o0 x1 x2 post k_80 n_) x3 x4 U := H
    unfold b_X6_markRisers_L5 at H
    refine pr_iload hC (by decide +kernel : decode cX6_markRisers 5 = .ok (.iload 4, 2)) rfl ?_
    refine pr_aload_n hC (by decide +kernel : decode cX6_markRisers 7 = .ok (.aload_n 0, 1)) rfl ?_
    refine vc_Vi hC hR [] fv_X6_75 (by decide +kernel : decode cX6_markRisers 8 = .ok (.invokevirtual 75, 3)) hU (t_X6_officials ho0 H) ho0 (by decide) rfl rfl rfl (Nat.le_of_ble_eq_true rfl) (Nat.le_of_ble_eq_true rfl) (Nat.le_refl 0) (Nat.le_refl 0) (fun r_2 U_1 h H hU => ?_)
    refine pr_icmp_ge hC 80 (by decide +kernel : decode cX6_markRisers 11 = .ok (.if_icmp .ge 69, 3)) (by decide) (fun c_11 => ?_) (fun c_11 => ?_)
    · replace H := H.1 c_11
      exact pv_sub [none, none, none, some (.int x3), none, none] (And.intro rfl trivial) (hk_80 _ U_1 h H hU)
    replace H := H.2 c_11
    refine pr_iload_n hC (by decide +kernel : decode cX6_markRisers 14 = .ok (.iload_n 3, 1)) rfl ?_
    refine pr_iload_n hC (by decide +kernel : decode cX6_markRisers 15 = .ok (.iload_n 2, 1)) rfl ?_
    refine pr_icmp_ge hC 80 (by decide +kernel : decode cX6_markRisers 16 = .ok (.if_icmp .ge 64, 3)) (by decide) (fun c_16 => ?_) (fun c_16 => ?_)
    · replace H := H.1 c_16
      exact pv_sub [none, none, none, some (.int x3), none, none] (And.intro rfl trivial) (hk_80 _ U_1 h H hU)
    replace H := H.2 c_16
    refine pr_aload_n hC (by decide +kernel : decode cX6_markRisers 19 = .ok (.aload_n 0, 1)) rfl ?_
    refine pu_g1 hC fg_X6_31 (by decide +kernel : decode cX6_markRisers 20 = .ok (.getfield 31, 3)) hU ho0 (by decide) rfl (by decide) ?_
    refine pr_iload hC (by decide +kernel : decode cX6_markRisers 23 = .ok (.iload 4, 2)) rfl ?_
    refine pu_iald hC (by decide +kernel : decode cX6_markRisers 25 = .ok (.iaload, 1)) hU ho0 rfl H.1 ?_
    replace H := H.2
    refine pv_topi (fun x5_3 e_x5_3 => ?_)
    replace H := H x5_3 e_x5_3
    refine pr_istore hC (by decide +kernel : decode cX6_markRisers 26 = .ok (.istore 5, 2)) (by decide) rfl ?_
    refine pr_aload_n hC (by decide +kernel : decode cX6_markRisers 28 = .ok (.aload_n 0, 1)) rfl ?_
    refine pu_g1 hC fg_X6_18 (by decide +kernel : decode cX6_markRisers 29 = .ok (.getfield 18, 3)) hU ho0 (by decide) rfl (by decide) ?_
    refine pr_iload hC (by decide +kernel : decode cX6_markRisers 32 = .ok (.iload 5, 2)) rfl ?_
    refine pu_iald hC (by decide +kernel : decode cX6_markRisers 34 = .ok (.iaload, 1)) hU ho0 rfl H.1 ?_
    replace H := H.2
    refine pr_iload_n hC (by decide +kernel : decode cX6_markRisers 35 = .ok (.iload_n 1, 1)) rfl ?_
    refine pr_icmp_ne hC 74 (by decide +kernel : decode cX6_markRisers 36 = .ok (.if_icmp .ne 38, 3)) (by decide) (fun c_36 => ?_) (fun c_36 => ?_)
    · replace H := H.2 c_36
      refine pv_iinc hC (v := x4 + 1) (by decide +kernel : decode cX6_markRisers 74 = .ok (.iinc 4 1, 3)) rfl (by decide) rfl rfl (fun x4_9 e_x4_9 => ?_)
      replace H := H x4_9 e_x4_9
      refine pr_goto hC 5 (by decide +kernel : decode cX6_markRisers 77 = .ok (.goto (-72), 3)) (by decide) ?_
      exact pv_sub [some (.ref (Y.2.1 o0)), some (.int x1), some (.int x2), some (.int x3), some (.int x4_9), none] (And.intro rfl (And.intro rfl (And.intro rfl (And.intro rfl (And.intro rfl trivial))))) (ih _ _ U_1 h hU H)
    replace H := H.1 c_36
    refine pr_aload_n hC (by decide +kernel : decode cX6_markRisers 39 = .ok (.aload_n 0, 1)) rfl ?_
    refine pu_g1 hC fg_X6_25 (by decide +kernel : decode cX6_markRisers 40 = .ok (.getfield 25, 3)) hU ho0 (by decide) rfl (by decide) ?_
    refine pr_iload hC (by decide +kernel : decode cX6_markRisers 43 = .ok (.iload 5, 2)) rfl ?_
    refine pu_iald hC (by decide +kernel : decode cX6_markRisers 45 = .ok (.iaload, 1)) hU ho0 rfl H.1 ?_
    replace H := H.2
    refine pr_iconst hC (2) (by decide +kernel : decode cX6_markRisers 46 = .ok (.iconst 2, 1)) rfl ?_
    refine pr_icmp_lt hC 74 (by decide +kernel : decode cX6_markRisers 47 = .ok (.if_icmp .lt 27, 3)) (by decide) (fun c_47 => ?_) (fun c_47 => ?_)
    · replace H := H.1 c_47
      refine pv_iinc hC (v := x4 + 1) (by decide +kernel : decode cX6_markRisers 74 = .ok (.iinc 4 1, 3)) rfl (by decide) rfl rfl (fun x4_4 e_x4_4 => ?_)
      replace H := H x4_4 e_x4_4
      refine pr_goto hC 5 (by decide +kernel : decode cX6_markRisers 77 = .ok (.goto (-72), 3)) (by decide) ?_
      exact pv_sub [some (.ref (Y.2.1 o0)), some (.int x1), some (.int x2), some (.int x3), some (.int x4_4), none] (And.intro rfl (And.intro rfl (And.intro rfl (And.intro rfl (And.intro rfl trivial))))) (ih _ _ U_1 h hU H)
    replace H := H.2 c_47
    refine pr_aload_n hC (by decide +kernel : decode cX6_markRisers 50 = .ok (.aload_n 0, 1)) rfl ?_
    refine pu_g1 hC fg_X6_21 (by decide +kernel : decode cX6_markRisers 51 = .ok (.getfield 21, 3)) hU ho0 (by decide) rfl (by decide) ?_
    refine pr_iload hC (by decide +kernel : decode cX6_markRisers 54 = .ok (.iload 5, 2)) rfl ?_
    refine pu_fald hC (by decide +kernel : decode cX6_markRisers 56 = .ok (.faload, 1)) hU ho0 rfl H.1 ?_
    replace H := H.2
    refine pr_ldcf hC (1114636288) (by decide +kernel : decode cX6_markRisers 57 = .ok (.ldc 227, 2)) fk_X6_227 ?_
    refine pr_fcmp hC (by decide +kernel : decode cX6_markRisers 59 = .ok (.fcmp .l, 1)) ?_
    refine pr_if_lt hC 74 (by decide +kernel : decode cX6_markRisers 60 = .ok (.ifCond .lt 14, 3)) (by decide) (fun c_60 => ?_) (fun c_60 => ?_)
    · replace H := H.1 c_60
      refine pv_iinc hC (v := x4 + 1) (by decide +kernel : decode cX6_markRisers 74 = .ok (.iinc 4 1, 3)) rfl (by decide) rfl rfl (fun x4_5 e_x4_5 => ?_)
      replace H := H x4_5 e_x4_5
      refine pr_goto hC 5 (by decide +kernel : decode cX6_markRisers 77 = .ok (.goto (-72), 3)) (by decide) ?_
      exact pv_sub [some (.ref (Y.2.1 o0)), some (.int x1), some (.int x2), some (.int x3), some (.int x4_5), none] (And.intro rfl (And.intro rfl (And.intro rfl (And.intro rfl (And.intro rfl trivial))))) (ih _ _ U_1 h hU H)
    replace H := H.2 c_60
    refine pr_aload_n hC (by decide +kernel : decode cX6_markRisers 63 = .ok (.aload_n 0, 1)) rfl ?_
    refine pu_g1 hC fg_X6_34 (by decide +kernel : decode cX6_markRisers 64 = .ok (.getfield 34, 3)) hU ho0 (by decide) rfl (by decide) ?_
    refine pr_iload hC (by decide +kernel : decode cX6_markRisers 67 = .ok (.iload 5, 2)) rfl ?_
    refine pr_iconst hC (1) (by decide +kernel : decode cX6_markRisers 69 = .ok (.iconst 1, 1)) rfl ?_
    refine pv_iast hC (by decide +kernel : decode cX6_markRisers 70 = .ok (.iastore, 1)) hU ho0 rfl H.1 (fun U_6 h e_U_6 hU => ?_)
    replace H := H.2 U_6 e_U_6
    refine pv_iinc hC (v := x3 + 1) (by decide +kernel : decode cX6_markRisers 71 = .ok (.iinc 3 1, 3)) rfl (by decide) rfl rfl (fun x3_7 e_x3_7 => ?_)
    replace H := H x3_7 e_x3_7
    refine pv_iinc hC (v := x4 + 1) (by decide +kernel : decode cX6_markRisers 74 = .ok (.iinc 4 1, 3)) rfl (by decide) rfl rfl (fun x4_8 e_x4_8 => ?_)
    replace H := H x4_8 e_x4_8
    refine pr_goto hC 5 (by decide +kernel : decode cX6_markRisers 77 = .ok (.goto (-72), 3)) (by decide) ?_
    exact pv_sub [some (.ref (Y.2.1 o0)), some (.int x1), some (.int x2), some (.int x3_7), some (.int x4_8), none] (And.intro rfl (And.intro rfl (And.intro rfl (And.intro rfl (And.intro rfl trivial))))) (ih _ _ U_6 h hU H)
set_option maxHeartbeats 4000000 in
theorem t_X6_markRisers {l : Launch} {Y : px_Y} {o : Nat} {a1 : Int32} {a2 : Int32} {U : Um} {post : Int32 → Um → Prop} (ho : oc o = 5) (H : w_X6_markRisers o a1 a2 U post) : um l Y 1 yX6_markRisers cX6_markRisers 6 (some (.int)) [.ref (Y.2.1 o), .int a1, .int a2] U (pq_i post) := by
  unfold w_X6_markRisers at H
  refine um_of (by decide) (Nat.le_of_ble_eq_true rfl) [some (.ref (Y.2.1 o)), some (.int a1), some (.int a2), none, none, none] rfl (fun X h0 hh sz hM hU => ?_)
  have hC := hM.1
  have hR := hM.2.2.1
  refine pr_iconst hC (0) (by decide +kernel : decode cX6_markRisers 0 = .ok (.iconst 0, 1)) rfl ?_
  refine pr_istore_n hC (by decide +kernel : decode cX6_markRisers 1 = .ok (.istore_n 3, 1)) (by decide) rfl ?_
  refine pr_iconst hC (0) (by decide +kernel : decode cX6_markRisers 2 = .ok (.iconst 0, 1)) rfl ?_
  refine pr_istore hC (by decide +kernel : decode cX6_markRisers 3 = .ok (.istore 4, 2)) (by decide) rfl ?_
  obtain ⟨n_12, H⟩ := H
  refine pv_sub [some (.ref (Y.2.1 o)), some (.int a1), some (.int a2), some (.int 0), some (.int 0), none] (And.intro rfl (And.intro rfl (And.intro rfl (And.intro rfl (And.intro rfl trivial))))) ?_
  refine tl_X6_markRisers_L5 _ _ _ _ _ ho hC hM hR (fun x3_10 U_11 h H hU => ?_) n_12 _ _ U hh hU H
  refine pr_iload_n hC (by decide +kernel : decode cX6_markRisers 80 = .ok (.iload_n 3, 1)) rfl ?_
  exact pv_iret hM (by decide +kernel : decode cX6_markRisers 81 = .ok (.ireturn, 1)) hU H
def b_X6_markFallers_L10 (o0 : Nat) (x1 : Int32) (x2 : Int32) (post : Int32 → Um → Prop) (k_81 : Int32 → Um → Prop) (rec_ : Int32 → Int32 → Um → Prop) (x3 : Int32) (x4 : Int32) (U : Um) : Prop :=
  (x4 < 0 → k_81 x3 U) ∧ (¬ x4 < 0 → (x2 ≤ x3 → k_81 x3 U) ∧ (¬ x2 ≤ x3 → vp_in x4 10 ∧ ∀ (x5_4 : Int32), x5_4 = uA U o0 8 (Int32.toNatClampNeg x4) → vp_in x5_4 10 ∧ ((uA U o0 4 (Int32.toNatClampNeg x5_4)) = x1 → vp_in x5_4 10 ∧ ((uA U o0 6 (Int32.toNatClampNeg x5_4)) < 2 → ∀ (x4_5 : Int32), x4_5 = x4 + (-1) → rec_ x3 x4_5 U) ∧ (¬ (uA U o0 6 (Int32.toNatClampNeg x5_4)) < 2 → vp_in x5_4 10 ∧ ((0 : Int32) ≤ (Op.cmpValue (FP.fcmp (uF U o0 5 (Int32.toNatClampNeg x5_4)) 1109393408) .g) → ∀ (x4_6 : Int32), x4_6 = x4 + (-1) → rec_ x3 x4_6 U) ∧ (¬ (0 : Int32) ≤ (Op.cmpValue (FP.fcmp (uF U o0 5 (Int32.toNatClampNeg x5_4)) 1109393408) .g) → vp_in x5_4 10 ∧ ∀ (U_7 : Um), U_7 = sA U o0 9 (va_up (uA U o0 9) (Int32.toNatClampNeg x5_4) (-1)) → ∀ (x3_8 : Int32), x3_8 = x3 + 1 → ∀ (x4_9 : Int32), x4_9 = x4 + (-1) → rec_ x3_8 x4_9 U_7))) ∧ (¬ (uA U o0 4 (Int32.toNatClampNeg x5_4)) = x1 → ∀ (x4_10 : Int32), x4_10 = x4 + (-1) → rec_ x3 x4_10 U)))
def w_X6_markFallers_L10 (o0 : Nat) (x1 : Int32) (x2 : Int32) (post : Int32 → Um → Prop) (k_81 : Int32 → Um → Prop) (n_ : Nat) : Int32 → Int32 → Um → Prop := Nat.rec (motive := fun _ => Int32 → Int32 → Um → Prop) (fun _ _ _ => False) (fun _ ih => b_X6_markFallers_L10 o0 x1 x2 post k_81 ih) n_
def w_X6_markFallers (o : Nat) (a1 : Int32) (a2 : Int32) (U : Um) (post : Int32 → Um → Prop) : Prop :=
  w_X6_officials o U (fun r_2 U_1 => ∀ (x4_3 : Int32), x4_3 = r_2 - 1 → (∃ n_13, w_X6_markFallers_L10 o a1 a2 post (fun x3_11 U_12 => post x3_11 U_12) n_13 0 x4_3 U_1))
set_option maxHeartbeats 4000000 in
theorem tl_X6_markFallers_L10 {l : Launch} {Y : px_Y} {X : px_X} {h0 hh : pe_H} {sz : Nat} (o0 : Nat) (x1 : Int32) (x2 : Int32) (post : Int32 → Um → Prop) (k_81 : Int32 → Um → Prop) (ho0 : oc o0 = 5)  (hC : px_C X Y.1 (pm_A hh sz) cX6_markFallers RX6 6) (hM : px_M l X Y.1 hh sz yX6_markFallers cX6_markFallers 6 (some (.int)) 1 0 0) (hR : X.2.2.2.1 = pm_rm 1 0 0) (hk_81 : ∀ (y3 : Int32) (U : Um) (h : pe_H), k_81 y3 U → rF Y h0 U h → pw X Y.1 (pm_A hh sz) (pm_E X Y.1 hh sz 0 0 (pm_P Y h0 sz (pq_i post))) 81 [none, none, none, some (.int y3), none, none] [] h sz 0 0) : ∀ (n_ : Nat) (x3 : Int32) (x4 : Int32) (U : Um) (h : pe_H), rF Y h0 U h → w_X6_markFallers_L10 o0 x1 x2 post k_81 n_ x3 x4 U → pw X Y.1 (pm_A hh sz) (pm_E X Y.1 hh sz 0 0 (pm_P Y h0 sz (pq_i post))) 10 [some (.ref (Y.2.1 o0)), some (.int x1), some (.int x2), some (.int x3), some (.int x4), none] [] h sz 0 0 := by
  intro n_
  induction n_ with
  | zero => intro x3 x4 U h hU H; exact False.elim H
  | succ n_ ih =>
    intro x3 x4 U h hU H
    replace H : b_X6_markFallers_L10 o0 x1 x2 post k_81 (w_X6_markFallers_L10 o0 x1 x2 post k_81 n_) x3 x4 U := H
    unfold b_X6_markFallers_L10 at H
    refine pr_iload hC (by decide +kernel : decode cX6_markFallers 10 = .ok (.iload 4, 2)) rfl ?_
    refine pr_if_lt hC 81 (by decide +kernel : decode cX6_markFallers 12 = .ok (.ifCond .lt 69, 3)) (by decide) (fun c_12 => ?_) (fun c_12 => ?_)
    · replace H := H.1 c_12
      exact pv_sub [none, none, none, some (.int x3), none, none] (And.intro rfl trivial) (hk_81 _ U h H hU)
    replace H := H.2 c_12
    refine pr_iload_n hC (by decide +kernel : decode cX6_markFallers 15 = .ok (.iload_n 3, 1)) rfl ?_
    refine pr_iload_n hC (by decide +kernel : decode cX6_markFallers 16 = .ok (.iload_n 2, 1)) rfl ?_
    refine pr_icmp_ge hC 81 (by decide +kernel : decode cX6_markFallers 17 = .ok (.if_icmp .ge 64, 3)) (by decide) (fun c_17 => ?_) (fun c_17 => ?_)
    · replace H := H.1 c_17
      exact pv_sub [none, none, none, some (.int x3), none, none] (And.intro rfl trivial) (hk_81 _ U h H hU)
    replace H := H.2 c_17
    refine pr_aload_n hC (by decide +kernel : decode cX6_markFallers 20 = .ok (.aload_n 0, 1)) rfl ?_
    refine pu_g1 hC fg_X6_31 (by decide +kernel : decode cX6_markFallers 21 = .ok (.getfield 31, 3)) hU ho0 (by decide) rfl (by decide) ?_
    refine pr_iload hC (by decide +kernel : decode cX6_markFallers 24 = .ok (.iload 4, 2)) rfl ?_
    refine pu_iald hC (by decide +kernel : decode cX6_markFallers 26 = .ok (.iaload, 1)) hU ho0 rfl H.1 ?_
    replace H := H.2
    refine pv_topi (fun x5_4 e_x5_4 => ?_)
    replace H := H x5_4 e_x5_4
    refine pr_istore hC (by decide +kernel : decode cX6_markFallers 27 = .ok (.istore 5, 2)) (by decide) rfl ?_
    refine pr_aload_n hC (by decide +kernel : decode cX6_markFallers 29 = .ok (.aload_n 0, 1)) rfl ?_
    refine pu_g1 hC fg_X6_18 (by decide +kernel : decode cX6_markFallers 30 = .ok (.getfield 18, 3)) hU ho0 (by decide) rfl (by decide) ?_
    refine pr_iload hC (by decide +kernel : decode cX6_markFallers 33 = .ok (.iload 5, 2)) rfl ?_
    refine pu_iald hC (by decide +kernel : decode cX6_markFallers 35 = .ok (.iaload, 1)) hU ho0 rfl H.1 ?_
    replace H := H.2
    refine pr_iload_n hC (by decide +kernel : decode cX6_markFallers 36 = .ok (.iload_n 1, 1)) rfl ?_
    refine pr_icmp_ne hC 75 (by decide +kernel : decode cX6_markFallers 37 = .ok (.if_icmp .ne 38, 3)) (by decide) (fun c_37 => ?_) (fun c_37 => ?_)
    · replace H := H.2 c_37
      refine pv_iinc hC (v := x4 + (-1)) (by decide +kernel : decode cX6_markFallers 75 = .ok (.iinc 4 (-1), 3)) rfl (by decide) rfl rfl (fun x4_10 e_x4_10 => ?_)
      replace H := H x4_10 e_x4_10
      refine pr_goto hC 10 (by decide +kernel : decode cX6_markFallers 78 = .ok (.goto (-68), 3)) (by decide) ?_
      exact pv_sub [some (.ref (Y.2.1 o0)), some (.int x1), some (.int x2), some (.int x3), some (.int x4_10), none] (And.intro rfl (And.intro rfl (And.intro rfl (And.intro rfl (And.intro rfl trivial))))) (ih _ _ U h hU H)
    replace H := H.1 c_37
    refine pr_aload_n hC (by decide +kernel : decode cX6_markFallers 40 = .ok (.aload_n 0, 1)) rfl ?_
    refine pu_g1 hC fg_X6_25 (by decide +kernel : decode cX6_markFallers 41 = .ok (.getfield 25, 3)) hU ho0 (by decide) rfl (by decide) ?_
    refine pr_iload hC (by decide +kernel : decode cX6_markFallers 44 = .ok (.iload 5, 2)) rfl ?_
    refine pu_iald hC (by decide +kernel : decode cX6_markFallers 46 = .ok (.iaload, 1)) hU ho0 rfl H.1 ?_
    replace H := H.2
    refine pr_iconst hC (2) (by decide +kernel : decode cX6_markFallers 47 = .ok (.iconst 2, 1)) rfl ?_
    refine pr_icmp_lt hC 75 (by decide +kernel : decode cX6_markFallers 48 = .ok (.if_icmp .lt 27, 3)) (by decide) (fun c_48 => ?_) (fun c_48 => ?_)
    · replace H := H.1 c_48
      refine pv_iinc hC (v := x4 + (-1)) (by decide +kernel : decode cX6_markFallers 75 = .ok (.iinc 4 (-1), 3)) rfl (by decide) rfl rfl (fun x4_5 e_x4_5 => ?_)
      replace H := H x4_5 e_x4_5
      refine pr_goto hC 10 (by decide +kernel : decode cX6_markFallers 78 = .ok (.goto (-68), 3)) (by decide) ?_
      exact pv_sub [some (.ref (Y.2.1 o0)), some (.int x1), some (.int x2), some (.int x3), some (.int x4_5), none] (And.intro rfl (And.intro rfl (And.intro rfl (And.intro rfl (And.intro rfl trivial))))) (ih _ _ U h hU H)
    replace H := H.2 c_48
    refine pr_aload_n hC (by decide +kernel : decode cX6_markFallers 51 = .ok (.aload_n 0, 1)) rfl ?_
    refine pu_g1 hC fg_X6_21 (by decide +kernel : decode cX6_markFallers 52 = .ok (.getfield 21, 3)) hU ho0 (by decide) rfl (by decide) ?_
    refine pr_iload hC (by decide +kernel : decode cX6_markFallers 55 = .ok (.iload 5, 2)) rfl ?_
    refine pu_fald hC (by decide +kernel : decode cX6_markFallers 57 = .ok (.faload, 1)) hU ho0 rfl H.1 ?_
    replace H := H.2
    refine pr_ldcf hC (1109393408) (by decide +kernel : decode cX6_markFallers 58 = .ok (.ldc 228, 2)) fk_X6_228 ?_
    refine pr_fcmp hC (by decide +kernel : decode cX6_markFallers 60 = .ok (.fcmp .g, 1)) ?_
    refine pr_if_ge hC 75 (by decide +kernel : decode cX6_markFallers 61 = .ok (.ifCond .ge 14, 3)) (by decide) (fun c_61 => ?_) (fun c_61 => ?_)
    · replace H := H.1 c_61
      refine pv_iinc hC (v := x4 + (-1)) (by decide +kernel : decode cX6_markFallers 75 = .ok (.iinc 4 (-1), 3)) rfl (by decide) rfl rfl (fun x4_6 e_x4_6 => ?_)
      replace H := H x4_6 e_x4_6
      refine pr_goto hC 10 (by decide +kernel : decode cX6_markFallers 78 = .ok (.goto (-68), 3)) (by decide) ?_
      exact pv_sub [some (.ref (Y.2.1 o0)), some (.int x1), some (.int x2), some (.int x3), some (.int x4_6), none] (And.intro rfl (And.intro rfl (And.intro rfl (And.intro rfl (And.intro rfl trivial))))) (ih _ _ U h hU H)
    replace H := H.2 c_61
    refine pr_aload_n hC (by decide +kernel : decode cX6_markFallers 64 = .ok (.aload_n 0, 1)) rfl ?_
    refine pu_g1 hC fg_X6_34 (by decide +kernel : decode cX6_markFallers 65 = .ok (.getfield 34, 3)) hU ho0 (by decide) rfl (by decide) ?_
    refine pr_iload hC (by decide +kernel : decode cX6_markFallers 68 = .ok (.iload 5, 2)) rfl ?_
    refine pr_iconst hC (-1) (by decide +kernel : decode cX6_markFallers 70 = .ok (.iconst (-1), 1)) rfl ?_
    refine pv_iast hC (by decide +kernel : decode cX6_markFallers 71 = .ok (.iastore, 1)) hU ho0 rfl H.1 (fun U_7 h e_U_7 hU => ?_)
    replace H := H.2 U_7 e_U_7
    refine pv_iinc hC (v := x3 + 1) (by decide +kernel : decode cX6_markFallers 72 = .ok (.iinc 3 1, 3)) rfl (by decide) rfl rfl (fun x3_8 e_x3_8 => ?_)
    replace H := H x3_8 e_x3_8
    refine pv_iinc hC (v := x4 + (-1)) (by decide +kernel : decode cX6_markFallers 75 = .ok (.iinc 4 (-1), 3)) rfl (by decide) rfl rfl (fun x4_9 e_x4_9 => ?_)
    replace H := H x4_9 e_x4_9
    refine pr_goto hC 10 (by decide +kernel : decode cX6_markFallers 78 = .ok (.goto (-68), 3)) (by decide) ?_
    exact pv_sub [some (.ref (Y.2.1 o0)), some (.int x1), some (.int x2), some (.int x3_8), some (.int x4_9), none] (And.intro rfl (And.intro rfl (And.intro rfl (And.intro rfl (And.intro rfl trivial))))) (ih _ _ U_7 h hU H)
set_option maxHeartbeats 4000000 in
theorem t_X6_markFallers {l : Launch} {Y : px_Y} {o : Nat} {a1 : Int32} {a2 : Int32} {U : Um} {post : Int32 → Um → Prop} (ho : oc o = 5) (H : w_X6_markFallers o a1 a2 U post) : um l Y 1 yX6_markFallers cX6_markFallers 6 (some (.int)) [.ref (Y.2.1 o), .int a1, .int a2] U (pq_i post) := by
  unfold w_X6_markFallers at H
  refine um_of (by decide) (Nat.le_of_ble_eq_true rfl) [some (.ref (Y.2.1 o)), some (.int a1), some (.int a2), none, none, none] rfl (fun X h0 hh sz hM hU => ?_)
  have hC := hM.1
  have hR := hM.2.2.1
  refine pr_iconst hC (0) (by decide +kernel : decode cX6_markFallers 0 = .ok (.iconst 0, 1)) rfl ?_
  refine pr_istore_n hC (by decide +kernel : decode cX6_markFallers 1 = .ok (.istore_n 3, 1)) (by decide) rfl ?_
  refine pr_aload_n hC (by decide +kernel : decode cX6_markFallers 2 = .ok (.aload_n 0, 1)) rfl ?_
  refine vc_Vi hC hR [] fv_X6_75 (by decide +kernel : decode cX6_markFallers 3 = .ok (.invokevirtual 75, 3)) hU (t_X6_officials ho H) ho (by decide) rfl rfl rfl (Nat.le_of_ble_eq_true rfl) (Nat.le_of_ble_eq_true rfl) (Nat.le_refl 0) (Nat.le_refl 0) (fun r_2 U_1 h H hU => ?_)
  refine pr_iconst hC (1) (by decide +kernel : decode cX6_markFallers 6 = .ok (.iconst 1, 1)) rfl ?_
  refine pr_isub hC (by decide +kernel : decode cX6_markFallers 7 = .ok (.isub, 1)) ?_
  refine pv_topi (fun x4_3 e_x4_3 => ?_)
  replace H := H x4_3 e_x4_3
  refine pr_istore hC (by decide +kernel : decode cX6_markFallers 8 = .ok (.istore 4, 2)) (by decide) rfl ?_
  obtain ⟨n_13, H⟩ := H
  refine pv_sub [some (.ref (Y.2.1 o)), some (.int a1), some (.int a2), some (.int 0), some (.int x4_3), none] (And.intro rfl (And.intro rfl (And.intro rfl (And.intro rfl (And.intro rfl trivial))))) ?_
  refine tl_X6_markFallers_L10 _ _ _ _ _ ho hC hM hR (fun x3_11 U_12 h H hU => ?_) n_13 _ _ U_1 h hU H
  refine pr_iload_n hC (by decide +kernel : decode cX6_markFallers 81 = .ok (.iload_n 3, 1)) rfl ?_
  exact pv_iret hM (by decide +kernel : decode cX6_markFallers 82 = .ok (.ireturn, 1)) hU H
def b_X6_promote_L9 (o0 : Nat) (x1 : Int32) (x2 : Int32) (post : Int32 → Um → Prop) (k_61 : Int32 → Um → Prop) (rec_ : Int32 → Int32 → Um → Prop) (x3 : Int32) (x4 : Int32) (U : Um) : Prop :=
  ((5 : Int32) < x4 → k_61 x3 U) ∧ (¬ (5 : Int32) < x4 → ∀ (xs_3 : Int32), xs_3 = (if (5 : Int32) ≤ x4 then 0 else x1) → w_X6_markRisers o0 x4 xs_3 U (fun r_5 U_4 => ∀ (x3_6 : Int32), x3_6 = x3 + r_5 → ∀ (xs_7 : Int32), xs_7 = (if x4 ≤ 1 then 0 else x2) → w_X6_markFallers o0 x4 xs_7 U_4 (fun r_9 U_8 => ∀ (x3_10 : Int32), x3_10 = x3_6 + r_9 → ∀ (x4_11 : Int32), x4_11 = x4 + 1 → rec_ x3_10 x4_11 U_8)))
def w_X6_promote_L9 (o0 : Nat) (x1 : Int32) (x2 : Int32) (post : Int32 → Um → Prop) (k_61 : Int32 → Um → Prop) (n_ : Nat) : Int32 → Int32 → Um → Prop := Nat.rec (motive := fun _ => Int32 → Int32 → Um → Prop) (fun _ _ _ => False) (fun _ ih => b_X6_promote_L9 o0 x1 x2 post k_61 ih) n_
def b_X6_promote_L64 (o0 : Nat) (x3 : Int32) (post : Int32 → Um → Prop) (k_112 : Um → Prop) (rec_ : Int32 → Um → Prop) (x4 : Int32) (U : Um) : Prop :=
  w_X6_officials o0 U (fun r_17 U_16 => (r_17 ≤ x4 → k_112 U_16) ∧ (¬ r_17 ≤ x4 → vp_in x4 10 ∧ vp_in x4 10 ∧ vp_in x4 10 ∧ ∀ (U_18 : Um), U_18 = sA U_16 o0 4 (va_up (uA U_16 o0 4) (Int32.toNatClampNeg x4) ((uA U_16 o0 4 (Int32.toNatClampNeg x4)) + (uA U_16 o0 9 (Int32.toNatClampNeg x4)))) → vp_in x4 10 ∧ ∀ (U_19 : Um), U_19 = sA U_18 o0 9 (va_up (uA U_18 o0 9) (Int32.toNatClampNeg x4) 0) → vp_in x4 10 ∧ ∀ (U_20 : Um), U_20 = sA U_19 o0 6 (va_up (uA U_19 o0 6) (Int32.toNatClampNeg x4) 0) → ∀ (x4_21 : Int32), x4_21 = x4 + 1 → rec_ x4_21 U_20))
def w_X6_promote_L64 (o0 : Nat) (x3 : Int32) (post : Int32 → Um → Prop) (k_112 : Um → Prop) (n_ : Nat) : Int32 → Um → Prop := Nat.rec (motive := fun _ => Int32 → Um → Prop) (fun _ _ => False) (fun _ ih => b_X6_promote_L64 o0 x3 post k_112 ih) n_
def w_X6_promote (o : Nat) (a1 : Int32) (a2 : Int32) (U : Um) (post : Int32 → Um → Prop) : Prop :=
  w_X6_sortByForm o U (fun U_1 => (∃ n_24, w_X6_promote_L9 o a1 a2 post (fun x3_14 U_15 => (∃ n_23, w_X6_promote_L64 o x3_14 post (fun U_22 => post x3_14 U_22) n_23 0 U_15)) n_24 0 1 U_1))
set_option maxHeartbeats 4000000 in
theorem tl_X6_promote_L9 {l : Launch} {Y : px_Y} {X : px_X} {h0 hh : pe_H} {sz : Nat} (o0 : Nat) (x1 : Int32) (x2 : Int32) (post : Int32 → Um → Prop) (k_61 : Int32 → Um → Prop) (ho0 : oc o0 = 5)  (hC : px_C X Y.1 (pm_A hh sz) cX6_promote RX6 5) (hM : px_M l X Y.1 hh sz yX6_promote cX6_promote 5 (some (.int)) 2 0 0) (hR : X.2.2.2.1 = pm_rm 2 0 0) (hk_61 : ∀ (y3 : Int32) (U : Um) (h : pe_H), k_61 y3 U → rF Y h0 U h → pw X Y.1 (pm_A hh sz) (pm_E X Y.1 hh sz 0 0 (pm_P Y h0 sz (pq_i post))) 61 [some (.ref (Y.2.1 o0)), none, none, some (.int y3), none] [] h sz 0 0) : ∀ (n_ : Nat) (x3 : Int32) (x4 : Int32) (U : Um) (h : pe_H), rF Y h0 U h → w_X6_promote_L9 o0 x1 x2 post k_61 n_ x3 x4 U → pw X Y.1 (pm_A hh sz) (pm_E X Y.1 hh sz 0 0 (pm_P Y h0 sz (pq_i post))) 9 [some (.ref (Y.2.1 o0)), some (.int x1), some (.int x2), some (.int x3), some (.int x4)] [] h sz 0 0 := by
  intro n_
  induction n_ with
  | zero => intro x3 x4 U h hU H; exact False.elim H
  | succ n_ ih =>
    intro x3 x4 U h hU H
    replace H : b_X6_promote_L9 o0 x1 x2 post k_61 (w_X6_promote_L9 o0 x1 x2 post k_61 n_) x3 x4 U := H
    unfold b_X6_promote_L9 at H
    refine pr_iload hC (by decide +kernel : decode cX6_promote 9 = .ok (.iload 4, 2)) rfl ?_
    refine pr_iconst hC (5) (by decide +kernel : decode cX6_promote 11 = .ok (.iconst 5, 1)) rfl ?_
    refine pr_icmp_gt hC 61 (by decide +kernel : decode cX6_promote 12 = .ok (.if_icmp .gt 49, 3)) (by decide) (fun c_12 => ?_) (fun c_12 => ?_)
    · replace H := H.1 c_12
      exact pv_sub [some (.ref (Y.2.1 o0)), none, none, some (.int x3), none] (And.intro rfl (And.intro rfl trivial)) (hk_61 _ U h H hU)
    replace H := H.2 c_12
    refine pr_iload_n hC (by decide +kernel : decode cX6_promote 15 = .ok (.iload_n 3, 1)) rfl ?_
    refine pr_aload_n hC (by decide +kernel : decode cX6_promote 16 = .ok (.aload_n 0, 1)) rfl ?_
    refine pr_iload hC (by decide +kernel : decode cX6_promote 17 = .ok (.iload 4, 2)) rfl ?_
    refine pr_iload hC (by decide +kernel : decode cX6_promote 19 = .ok (.iload 4, 2)) rfl ?_
    refine pr_iconst hC (5) (by decide +kernel : decode cX6_promote 21 = .ok (.iconst 5, 1)) rfl ?_
    have HJ_13 : ∀ (xs_3 : Int32), xs_3 = (if (5 : Int32) ≤ x4 then 0 else x1) → pw X Y.1 (pm_A hh sz) (pm_E X Y.1 hh sz 0 0 (pm_P Y h0 sz (pq_i post))) 30 [some (.ref (Y.2.1 o0)), some (.int x1), some (.int x2), none, some (.int x4)] [.int xs_3, .int x4, .ref (Y.2.1 o0), .int x3] h sz 0 0 := by
      intro xs_3 e_xs_3
      replace H := H xs_3 e_xs_3
      refine vc_Vi hC hR [.int x4, .int xs_3] fv_X6_221 (by decide +kernel : decode cX6_promote 30 = .ok (.invokevirtual 221, 3)) hU (t_X6_markRisers ho0 H) ho0 (by decide) rfl rfl rfl (Nat.le_of_ble_eq_true rfl) (Nat.le_of_ble_eq_true rfl) (Nat.le_refl 0) (Nat.le_refl 0) (fun r_5 U_4 h H hU => ?_)
      refine pr_iadd hC (by decide +kernel : decode cX6_promote 33 = .ok (.iadd, 1)) ?_
      refine pv_topi (fun x3_6 e_x3_6 => ?_)
      replace H := H x3_6 e_x3_6
      refine pr_istore_n hC (by decide +kernel : decode cX6_promote 34 = .ok (.istore_n 3, 1)) (by decide) rfl ?_
      refine pr_iload_n hC (by decide +kernel : decode cX6_promote 35 = .ok (.iload_n 3, 1)) rfl ?_
      refine pr_aload_n hC (by decide +kernel : decode cX6_promote 36 = .ok (.aload_n 0, 1)) rfl ?_
      refine pr_iload hC (by decide +kernel : decode cX6_promote 37 = .ok (.iload 4, 2)) rfl ?_
      refine pr_iload hC (by decide +kernel : decode cX6_promote 39 = .ok (.iload 4, 2)) rfl ?_
      refine pr_iconst hC (1) (by decide +kernel : decode cX6_promote 41 = .ok (.iconst 1, 1)) rfl ?_
      have HJ_12 : ∀ (xs_7 : Int32), xs_7 = (if x4 ≤ 1 then 0 else x2) → pw X Y.1 (pm_A hh sz) (pm_E X Y.1 hh sz 0 0 (pm_P Y h0 sz (pq_i post))) 50 [some (.ref (Y.2.1 o0)), some (.int x1), some (.int x2), none, some (.int x4)] [.int xs_7, .int x4, .ref (Y.2.1 o0), .int x3_6] h sz 0 0 := by
        intro xs_7 e_xs_7
        replace H := H xs_7 e_xs_7
        refine vc_Vi hC hR [.int x4, .int xs_7] fv_X6_224 (by decide +kernel : decode cX6_promote 50 = .ok (.invokevirtual 224, 3)) hU (t_X6_markFallers ho0 H) ho0 (by decide) rfl rfl rfl (Nat.le_of_ble_eq_true rfl) (Nat.le_of_ble_eq_true rfl) (Nat.le_refl 0) (Nat.le_refl 0) (fun r_9 U_8 h H hU => ?_)
        refine pr_iadd hC (by decide +kernel : decode cX6_promote 53 = .ok (.iadd, 1)) ?_
        refine pv_topi (fun x3_10 e_x3_10 => ?_)
        replace H := H x3_10 e_x3_10
        refine pr_istore_n hC (by decide +kernel : decode cX6_promote 54 = .ok (.istore_n 3, 1)) (by decide) rfl ?_
        refine pv_iinc hC (v := x4 + 1) (by decide +kernel : decode cX6_promote 55 = .ok (.iinc 4 1, 3)) rfl (by decide) rfl rfl (fun x4_11 e_x4_11 => ?_)
        replace H := H x4_11 e_x4_11
        refine pr_goto hC 9 (by decide +kernel : decode cX6_promote 58 = .ok (.goto (-49), 3)) (by decide) ?_
        exact pv_sub [some (.ref (Y.2.1 o0)), some (.int x1), some (.int x2), some (.int x3_10), some (.int x4_11)] (And.intro rfl (And.intro rfl (And.intro rfl (And.intro rfl (And.intro rfl trivial))))) (ih _ _ U_8 h hU H)
      replace H := trivial
      refine pr_icmp_le hC 49 (by decide +kernel : decode cX6_promote 42 = .ok (.if_icmp .le 7, 3)) (by decide) (fun c_42 => ?_) (fun c_42 => ?_)
      · skip
        refine pr_iconst hC (0) (by decide +kernel : decode cX6_promote 49 = .ok (.iconst 0, 1)) rfl ?_
        exact pv_sub [some (.ref (Y.2.1 o0)), some (.int x1), some (.int x2), none, some (.int x4)] (And.intro rfl (And.intro rfl (And.intro rfl (And.intro rfl trivial)))) (HJ_12 _ (if_pos c_42).symm)
      skip
      refine pr_iload_n hC (by decide +kernel : decode cX6_promote 45 = .ok (.iload_n 2, 1)) rfl ?_
      refine pr_goto hC 50 (by decide +kernel : decode cX6_promote 46 = .ok (.goto 4, 3)) (by decide) ?_
      exact pv_sub [some (.ref (Y.2.1 o0)), some (.int x1), some (.int x2), none, some (.int x4)] (And.intro rfl (And.intro rfl (And.intro rfl (And.intro rfl trivial)))) (HJ_12 _ (if_neg c_42).symm)
    replace H := trivial
    refine pr_icmp_ge hC 29 (by decide +kernel : decode cX6_promote 22 = .ok (.if_icmp .ge 7, 3)) (by decide) (fun c_22 => ?_) (fun c_22 => ?_)
    · skip
      refine pr_iconst hC (0) (by decide +kernel : decode cX6_promote 29 = .ok (.iconst 0, 1)) rfl ?_
      exact pv_sub [some (.ref (Y.2.1 o0)), some (.int x1), some (.int x2), none, some (.int x4)] (And.intro rfl (And.intro rfl (And.intro rfl (And.intro rfl trivial)))) (HJ_13 _ (if_pos c_22).symm)
    skip
    refine pr_iload_n hC (by decide +kernel : decode cX6_promote 25 = .ok (.iload_n 1, 1)) rfl ?_
    refine pr_goto hC 30 (by decide +kernel : decode cX6_promote 26 = .ok (.goto 4, 3)) (by decide) ?_
    exact pv_sub [some (.ref (Y.2.1 o0)), some (.int x1), some (.int x2), none, some (.int x4)] (And.intro rfl (And.intro rfl (And.intro rfl (And.intro rfl trivial)))) (HJ_13 _ (if_neg c_22).symm)
set_option maxHeartbeats 4000000 in
theorem tl_X6_promote_L64 {l : Launch} {Y : px_Y} {X : px_X} {h0 hh : pe_H} {sz : Nat} (o0 : Nat) (x3 : Int32) (post : Int32 → Um → Prop) (k_112 : Um → Prop) (ho0 : oc o0 = 5)  (hC : px_C X Y.1 (pm_A hh sz) cX6_promote RX6 5) (hM : px_M l X Y.1 hh sz yX6_promote cX6_promote 5 (some (.int)) 2 0 0) (hR : X.2.2.2.1 = pm_rm 2 0 0) (hk_112 : ∀ (U : Um) (h : pe_H), k_112 U → rF Y h0 U h → pw X Y.1 (pm_A hh sz) (pm_E X Y.1 hh sz 0 0 (pm_P Y h0 sz (pq_i post))) 112 [none, none, none, some (.int x3), none] [] h sz 0 0) : ∀ (n_ : Nat) (x4 : Int32) (U : Um) (h : pe_H), rF Y h0 U h → w_X6_promote_L64 o0 x3 post k_112 n_ x4 U → pw X Y.1 (pm_A hh sz) (pm_E X Y.1 hh sz 0 0 (pm_P Y h0 sz (pq_i post))) 64 [some (.ref (Y.2.1 o0)), none, none, some (.int x3), some (.int x4)] [] h sz 0 0 := by
  intro n_
  induction n_ with
  | zero => intro x4 U h hU H; exact False.elim H
  | succ n_ ih =>
    intro x4 U h hU H
    replace H : b_X6_promote_L64 o0 x3 post k_112 (w_X6_promote_L64 o0 x3 post k_112 n_) x4 U := H
    unfold b_X6_promote_L64 at H
    refine pr_iload hC (by decide +kernel : decode cX6_promote 64 = .ok (.iload 4, 2)) rfl ?_
    refine pr_aload_n hC (by decide +kernel : decode cX6_promote 66 = .ok (.aload_n 0, 1)) rfl ?_
    refine vc_Vi hC hR [] fv_X6_75 (by decide +kernel : decode cX6_promote 67 = .ok (.invokevirtual 75, 3)) hU (t_X6_officials ho0 H) ho0 (by decide) rfl rfl rfl (Nat.le_of_ble_eq_true rfl) (Nat.le_of_ble_eq_true rfl) (Nat.le_refl 0) (Nat.le_refl 0) (fun r_17 U_16 h H hU => ?_)
    refine pr_icmp_ge hC 112 (by decide +kernel : decode cX6_promote 70 = .ok (.if_icmp .ge 42, 3)) (by decide) (fun c_70 => ?_) (fun c_70 => ?_)
    · replace H := H.1 c_70
      exact pv_sub [none, none, none, some (.int x3), none] (And.intro rfl trivial) (hk_112 U_16 h H hU)
    replace H := H.2 c_70
    refine pr_aload_n hC (by decide +kernel : decode cX6_promote 73 = .ok (.aload_n 0, 1)) rfl ?_
    refine pu_g1 hC fg_X6_18 (by decide +kernel : decode cX6_promote 74 = .ok (.getfield 18, 3)) hU ho0 (by decide) rfl (by decide) ?_
    refine pr_iload hC (by decide +kernel : decode cX6_promote 77 = .ok (.iload 4, 2)) rfl ?_
    refine pr_dup2 hC (by decide +kernel : decode cX6_promote 79 = .ok (.dup2, 1)) rfl rfl ?_
    refine pu_iald hC (by decide +kernel : decode cX6_promote 80 = .ok (.iaload, 1)) hU ho0 rfl H.1 ?_
    replace H := H.2
    refine pr_aload_n hC (by decide +kernel : decode cX6_promote 81 = .ok (.aload_n 0, 1)) rfl ?_
    refine pu_g1 hC fg_X6_34 (by decide +kernel : decode cX6_promote 82 = .ok (.getfield 34, 3)) hU ho0 (by decide) rfl (by decide) ?_
    refine pr_iload hC (by decide +kernel : decode cX6_promote 85 = .ok (.iload 4, 2)) rfl ?_
    refine pu_iald hC (by decide +kernel : decode cX6_promote 87 = .ok (.iaload, 1)) hU ho0 rfl H.1 ?_
    replace H := H.2
    refine pr_iadd hC (by decide +kernel : decode cX6_promote 88 = .ok (.iadd, 1)) ?_
    refine pv_iast hC (by decide +kernel : decode cX6_promote 89 = .ok (.iastore, 1)) hU ho0 rfl H.1 (fun U_18 h e_U_18 hU => ?_)
    replace H := H.2 U_18 e_U_18
    refine pr_aload_n hC (by decide +kernel : decode cX6_promote 90 = .ok (.aload_n 0, 1)) rfl ?_
    refine pu_g1 hC fg_X6_34 (by decide +kernel : decode cX6_promote 91 = .ok (.getfield 34, 3)) hU ho0 (by decide) rfl (by decide) ?_
    refine pr_iload hC (by decide +kernel : decode cX6_promote 94 = .ok (.iload 4, 2)) rfl ?_
    refine pr_iconst hC (0) (by decide +kernel : decode cX6_promote 96 = .ok (.iconst 0, 1)) rfl ?_
    refine pv_iast hC (by decide +kernel : decode cX6_promote 97 = .ok (.iastore, 1)) hU ho0 rfl H.1 (fun U_19 h e_U_19 hU => ?_)
    replace H := H.2 U_19 e_U_19
    refine pr_aload_n hC (by decide +kernel : decode cX6_promote 98 = .ok (.aload_n 0, 1)) rfl ?_
    refine pu_g1 hC fg_X6_25 (by decide +kernel : decode cX6_promote 99 = .ok (.getfield 25, 3)) hU ho0 (by decide) rfl (by decide) ?_
    refine pr_iload hC (by decide +kernel : decode cX6_promote 102 = .ok (.iload 4, 2)) rfl ?_
    refine pr_iconst hC (0) (by decide +kernel : decode cX6_promote 104 = .ok (.iconst 0, 1)) rfl ?_
    refine pv_iast hC (by decide +kernel : decode cX6_promote 105 = .ok (.iastore, 1)) hU ho0 rfl H.1 (fun U_20 h e_U_20 hU => ?_)
    replace H := H.2 U_20 e_U_20
    refine pv_iinc hC (v := x4 + 1) (by decide +kernel : decode cX6_promote 106 = .ok (.iinc 4 1, 3)) rfl (by decide) rfl rfl (fun x4_21 e_x4_21 => ?_)
    replace H := H x4_21 e_x4_21
    refine pr_goto hC 64 (by decide +kernel : decode cX6_promote 109 = .ok (.goto (-45), 3)) (by decide) ?_
    exact pv_sub [some (.ref (Y.2.1 o0)), none, none, some (.int x3), some (.int x4_21)] (And.intro rfl (And.intro rfl (And.intro rfl trivial))) (ih _ U_20 h hU H)
set_option maxHeartbeats 4000000 in
theorem t_X6_promote {l : Launch} {Y : px_Y} {o : Nat} {a1 : Int32} {a2 : Int32} {U : Um} {post : Int32 → Um → Prop} (ho : oc o = 5) (H : w_X6_promote o a1 a2 U post) : um l Y 2 yX6_promote cX6_promote 5 (some (.int)) [.ref (Y.2.1 o), .int a1, .int a2] U (pq_i post) := by
  unfold w_X6_promote at H
  refine um_of (by decide) (Nat.le_of_ble_eq_true rfl) [some (.ref (Y.2.1 o)), some (.int a1), some (.int a2), none, none] rfl (fun X h0 hh sz hM hU => ?_)
  have hC := hM.1
  have hR := hM.2.2.1
  refine pr_aload_n hC (by decide +kernel : decode cX6_promote 0 = .ok (.aload_n 0, 1)) rfl ?_
  refine vc_Vv hC hR [] fv_X6_218 (by decide +kernel : decode cX6_promote 1 = .ok (.invokevirtual 218, 3)) hU (t_X6_sortByForm ho H) ho (by decide) rfl rfl rfl (Nat.le_of_ble_eq_true rfl) (Nat.le_of_ble_eq_true rfl) (Nat.le_refl 0) (Nat.le_refl 0) (fun U_1 h H hU => ?_)
  refine pr_iconst hC (0) (by decide +kernel : decode cX6_promote 4 = .ok (.iconst 0, 1)) rfl ?_
  refine pr_istore_n hC (by decide +kernel : decode cX6_promote 5 = .ok (.istore_n 3, 1)) (by decide) rfl ?_
  refine pr_iconst hC (1) (by decide +kernel : decode cX6_promote 6 = .ok (.iconst 1, 1)) rfl ?_
  refine pr_istore hC (by decide +kernel : decode cX6_promote 7 = .ok (.istore 4, 2)) (by decide) rfl ?_
  obtain ⟨n_24, H⟩ := H
  refine pv_sub [some (.ref (Y.2.1 o)), some (.int a1), some (.int a2), some (.int 0), some (.int 1)] (And.intro rfl (And.intro rfl (And.intro rfl (And.intro rfl (And.intro rfl trivial))))) ?_
  refine tl_X6_promote_L9 _ _ _ _ _ ho hC hM hR (fun x3_14 U_15 h H hU => ?_) n_24 _ _ U_1 h hU H
  refine pr_iconst hC (0) (by decide +kernel : decode cX6_promote 61 = .ok (.iconst 0, 1)) rfl ?_
  refine pr_istore hC (by decide +kernel : decode cX6_promote 62 = .ok (.istore 4, 2)) (by decide) rfl ?_
  obtain ⟨n_23, H⟩ := H
  refine pv_sub [some (.ref (Y.2.1 o)), none, none, some (.int x3_14), some (.int 0)] (And.intro rfl (And.intro rfl (And.intro rfl trivial))) ?_
  refine tl_X6_promote_L64 _ _ _ _ ho hC hM hR (fun U_22 h H hU => ?_) n_23 _ U_15 h hU H
  refine pr_iload_n hC (by decide +kernel : decode cX6_promote 112 = .ok (.iload_n 3, 1)) rfl ?_
  exact pv_iret hM (by decide +kernel : decode cX6_promote 113 = .ok (.ireturn, 1)) hU H
def b_X7_make_L2 (o0 : Nat) (x1 : Int32) (x2 : Int32) (post : Um → Prop) (k_21 : Um → Prop) (rec_ : Int32 → Um → Prop) (x3 : Int32) (U : Um) : Prop :=
  ((20 : Int32) ≤ x3 → k_21 U) ∧ (¬ (20 : Int32) ≤ x3 → vp_in x3 20 ∧ ∀ (U_1 : Um), U_1 = sA U o0 0 (va_up (uA U o0 0) (Int32.toNatClampNeg x3) (-1)) → ∀ (x3_2 : Int32), x3_2 = x3 + 1 → rec_ x3_2 U_1)
def w_X7_make_L2 (o0 : Nat) (x1 : Int32) (x2 : Int32) (post : Um → Prop) (k_21 : Um → Prop) (n_ : Nat) : Int32 → Um → Prop := Nat.rec (motive := fun _ => Int32 → Um → Prop) (fun _ _ => False) (fun _ ih => b_X7_make_L2 o0 x1 x2 post k_21 ih) n_
def w_X7_make (o : Nat) (a1 : Int32) (a2 : Int32) (U : Um) (post : Um → Prop) : Prop :=
  (∃ n_7, w_X7_make_L2 o a1 a2 post (fun U_3 => ∀ (U_4 : Um), U_4 = sI U_3 o 1 a2 → (a1 = 1 → ∀ (U_5 : Um), U_5 = sI U_4 o 2 1 → post U_5) ∧ (¬ a1 = 1 → ∀ (U_6 : Um), U_6 = sI U_4 o 2 0 → post U_6)) n_7 0 U)
set_option maxHeartbeats 4000000 in
theorem tl_X7_make_L2 {l : Launch} {Y : px_Y} {X : px_X} {h0 hh : pe_H} {sz : Nat} (o0 : Nat) (x1 : Int32) (x2 : Int32) (post : Um → Prop) (k_21 : Um → Prop) (ho0 : oc o0 = 6)  (hC : px_C X Y.1 (pm_A hh sz) cX7_make RX7 4) (hM : px_M l X Y.1 hh sz yX7_make cX7_make 4 none 0 0 0) (hR : X.2.2.2.1 = pm_rm 0 0 0) (hk_21 : ∀ (U : Um) (h : pe_H), k_21 U → rF Y h0 U h → pw X Y.1 (pm_A hh sz) (pm_E X Y.1 hh sz 0 0 (pm_P Y h0 sz (pq_v post))) 21 [some (.ref (Y.2.1 o0)), some (.int x1), some (.int x2), none] [] h sz 0 0) : ∀ (n_ : Nat) (x3 : Int32) (U : Um) (h : pe_H), rF Y h0 U h → w_X7_make_L2 o0 x1 x2 post k_21 n_ x3 U → pw X Y.1 (pm_A hh sz) (pm_E X Y.1 hh sz 0 0 (pm_P Y h0 sz (pq_v post))) 2 [some (.ref (Y.2.1 o0)), some (.int x1), some (.int x2), some (.int x3)] [] h sz 0 0 := by
  intro n_
  induction n_ with
  | zero => intro x3 U h hU H; exact False.elim H
  | succ n_ ih =>
    intro x3 U h hU H
    replace H : b_X7_make_L2 o0 x1 x2 post k_21 (w_X7_make_L2 o0 x1 x2 post k_21 n_) x3 U := H
    unfold b_X7_make_L2 at H
    refine pr_iload_n hC (by decide +kernel : decode cX7_make 2 = .ok (.iload_n 3, 1)) rfl ?_
    refine pr_bipush hC (20) (by decide +kernel : decode cX7_make 3 = .ok (.bipush 20, 2)) rfl ?_
    refine pr_icmp_ge hC 21 (by decide +kernel : decode cX7_make 5 = .ok (.if_icmp .ge 16, 3)) (by decide) (fun c_5 => ?_) (fun c_5 => ?_)
    · replace H := H.1 c_5
      exact pv_sub [some (.ref (Y.2.1 o0)), some (.int x1), some (.int x2), none] (And.intro rfl (And.intro rfl (And.intro rfl trivial))) (hk_21 U h H hU)
    replace H := H.2 c_5
    refine pr_aload_n hC (by decide +kernel : decode cX7_make 8 = .ok (.aload_n 0, 1)) rfl ?_
    refine pu_g1 hC fg_X7_11 (by decide +kernel : decode cX7_make 9 = .ok (.getfield 11, 3)) hU ho0 (by decide) rfl (by decide) ?_
    refine pr_iload_n hC (by decide +kernel : decode cX7_make 12 = .ok (.iload_n 3, 1)) rfl ?_
    refine pr_iconst hC (-1) (by decide +kernel : decode cX7_make 13 = .ok (.iconst (-1), 1)) rfl ?_
    refine pv_iast hC (by decide +kernel : decode cX7_make 14 = .ok (.iastore, 1)) hU ho0 rfl H.1 (fun U_1 h e_U_1 hU => ?_)
    replace H := H.2 U_1 e_U_1
    refine pv_iinc hC (v := x3 + 1) (by decide +kernel : decode cX7_make 15 = .ok (.iinc 3 1, 3)) rfl (by decide) rfl rfl (fun x3_2 e_x3_2 => ?_)
    replace H := H x3_2 e_x3_2
    refine pr_goto hC 2 (by decide +kernel : decode cX7_make 18 = .ok (.goto (-16), 3)) (by decide) ?_
    exact pv_sub [some (.ref (Y.2.1 o0)), some (.int x1), some (.int x2), some (.int x3_2)] (And.intro rfl (And.intro rfl (And.intro rfl (And.intro rfl trivial)))) (ih _ U_1 h hU H)
set_option maxHeartbeats 4000000 in
theorem t_X7_make {l : Launch} {Y : px_Y} {o : Nat} {a1 : Int32} {a2 : Int32} {U : Um} {post : Um → Prop} (ho : oc o = 6) (H : w_X7_make o a1 a2 U post) : um l Y 0 yX7_make cX7_make 4 none [.ref (Y.2.1 o), .int a1, .int a2] U (pq_v post) := by
  unfold w_X7_make at H
  refine um_of (by decide) (Nat.le_of_ble_eq_true rfl) [some (.ref (Y.2.1 o)), some (.int a1), some (.int a2), none] rfl (fun X h0 hh sz hM hU => ?_)
  have hC := hM.1
  have hR := hM.2.2.1
  refine pr_iconst hC (0) (by decide +kernel : decode cX7_make 0 = .ok (.iconst 0, 1)) rfl ?_
  refine pr_istore_n hC (by decide +kernel : decode cX7_make 1 = .ok (.istore_n 3, 1)) (by decide) rfl ?_
  obtain ⟨n_7, H⟩ := H
  refine pv_sub [some (.ref (Y.2.1 o)), some (.int a1), some (.int a2), some (.int 0)] (And.intro rfl (And.intro rfl (And.intro rfl (And.intro rfl trivial)))) ?_
  refine tl_X7_make_L2 _ _ _ _ _ ho hC hM hR (fun U_3 h H hU => ?_) n_7 _ U hh hU H
  refine pr_aload_n hC (by decide +kernel : decode cX7_make 21 = .ok (.aload_n 0, 1)) rfl ?_
  refine pr_iload_n hC (by decide +kernel : decode cX7_make 22 = .ok (.iload_n 2, 1)) rfl ?_
  refine pv_p0 hC fp_X7_15 (by decide +kernel : decode cX7_make 23 = .ok (.putfield 15, 3)) hU ho (by decide) rfl rfl rfl rfl (fun U_4 h e_U_4 hU => ?_)
  replace H := H U_4 e_U_4
  refine pr_aload_n hC (by decide +kernel : decode cX7_make 26 = .ok (.aload_n 0, 1)) rfl ?_
  refine pr_iload_n hC (by decide +kernel : decode cX7_make 27 = .ok (.iload_n 1, 1)) rfl ?_
  refine pr_iconst hC (1) (by decide +kernel : decode cX7_make 28 = .ok (.iconst 1, 1)) rfl ?_
  refine pr_icmp_ne hC 36 (by decide +kernel : decode cX7_make 29 = .ok (.if_icmp .ne 7, 3)) (by decide) (fun c_29 => ?_) (fun c_29 => ?_)
  · replace H := H.2 c_29
    refine pr_iconst hC (0) (by decide +kernel : decode cX7_make 36 = .ok (.iconst 0, 1)) rfl ?_
    refine pv_p0 hC fp_X7_19 (by decide +kernel : decode cX7_make 37 = .ok (.putfield 19, 3)) hU ho (by decide) rfl rfl rfl rfl (fun U_6 h e_U_6 hU => ?_)
    replace H := H U_6 e_U_6
    exact pv_vret hM (by decide +kernel : decode cX7_make 40 = .ok (.return_, 1)) hU H
  replace H := H.1 c_29
  refine pr_iconst hC (1) (by decide +kernel : decode cX7_make 32 = .ok (.iconst 1, 1)) rfl ?_
  refine pr_goto hC 37 (by decide +kernel : decode cX7_make 33 = .ok (.goto 4, 3)) (by decide) ?_
  refine pv_p0 hC fp_X7_19 (by decide +kernel : decode cX7_make 37 = .ok (.putfield 19, 3)) hU ho (by decide) rfl rfl rfl rfl (fun U_5 h e_U_5 hU => ?_)
  replace H := H U_5 e_U_5
  exact pv_vret hM (by decide +kernel : decode cX7_make 40 = .ok (.return_, 1)) hU H
def w_X7_isPlace (o : Nat) (a1 : Int32) (U : Um) (post : Int32 → Um → Prop) : Prop :=
  (a1 < 0 → post 0 U) ∧ (¬ a1 < 0 → ((uI U o 1) ≤ a1 → post 0 U) ∧ (¬ (uI U o 1) ≤ a1 → post 1 U))
set_option maxHeartbeats 4000000 in
theorem t_X7_isPlace {l : Launch} {Y : px_Y} {o : Nat} {a1 : Int32} {U : Um} {post : Int32 → Um → Prop} (ho : oc o = 6) (H : w_X7_isPlace o a1 U post) : um l Y 0 yX7_isPlace cX7_isPlace 2 (some (.boolean)) [.ref (Y.2.1 o), .int a1] U (pq_i post) := by
  unfold w_X7_isPlace at H
  refine um_of (by decide) (Nat.le_of_ble_eq_true rfl) [some (.ref (Y.2.1 o)), some (.int a1)] rfl (fun X h0 hh sz hM hU => ?_)
  have hC := hM.1
  have hR := hM.2.2.1
  refine pr_iload_n hC (by decide +kernel : decode cX7_isPlace 0 = .ok (.iload_n 1, 1)) rfl ?_
  refine pr_if_lt hC 16 (by decide +kernel : decode cX7_isPlace 1 = .ok (.ifCond .lt 15, 3)) (by decide) (fun c_1 => ?_) (fun c_1 => ?_)
  · replace H := H.1 c_1
    refine pr_iconst hC (0) (by decide +kernel : decode cX7_isPlace 16 = .ok (.iconst 0, 1)) rfl ?_
    exact pv_zret hM (by decide +kernel : decode cX7_isPlace 17 = .ok (.ireturn, 1)) (Or.inl rfl) hU H
  replace H := H.2 c_1
  refine pr_iload_n hC (by decide +kernel : decode cX7_isPlace 4 = .ok (.iload_n 1, 1)) rfl ?_
  refine pr_aload_n hC (by decide +kernel : decode cX7_isPlace 5 = .ok (.aload_n 0, 1)) rfl ?_
  refine pu_g0 hC fg_X7_15 (by decide +kernel : decode cX7_isPlace 6 = .ok (.getfield 15, 3)) hU ho (by decide) rfl rfl ?_
  refine pr_icmp_ge hC 16 (by decide +kernel : decode cX7_isPlace 9 = .ok (.if_icmp .ge 7, 3)) (by decide) (fun c_9 => ?_) (fun c_9 => ?_)
  · replace H := H.1 c_9
    refine pr_iconst hC (0) (by decide +kernel : decode cX7_isPlace 16 = .ok (.iconst 0, 1)) rfl ?_
    exact pv_zret hM (by decide +kernel : decode cX7_isPlace 17 = .ok (.ireturn, 1)) (Or.inl rfl) hU H
  replace H := H.2 c_9
  refine pr_iconst hC (1) (by decide +kernel : decode cX7_isPlace 12 = .ok (.iconst 1, 1)) rfl ?_
  refine pr_goto hC 17 (by decide +kernel : decode cX7_isPlace 13 = .ok (.goto 4, 3)) (by decide) ?_
  exact pv_zret hM (by decide +kernel : decode cX7_isPlace 17 = .ok (.ireturn, 1)) (Or.inr rfl) hU H
def b_X8_append_L3 (o0 : Nat) (x1 : Int32) (post : Um → Prop) (k_46 : Um → Prop) (rec_ : Int32 → Um → Prop) (x2 : Int32) (U : Um) : Prop :=
  (x2 < 0 → k_46 U) ∧ (¬ x2 < 0 → ((1200 : Int32) ≤ (uI U o0 1) → k_46 U) ∧ (¬ (1200 : Int32) ≤ (uI U o0 1) → vp_in (uI U o0 1) 1200 ∧ ∀ (U_1 : Um), U_1 = sA U o0 0 (va_up (uA U o0 0) (Int32.toNatClampNeg (uI U o0 1)) (((x1 >>> (x2 &&& 31)).toInt8.toInt32).toInt8.toInt32)) → ∀ (U_2 : Um), U_2 = sI U_1 o0 1 ((uI U_1 o0 1) + 1) → ∀ (x2_3 : Int32), x2_3 = x2 + (-8) → rec_ x2_3 U_2))
def w_X8_append_L3 (o0 : Nat) (x1 : Int32) (post : Um → Prop) (k_46 : Um → Prop) (n_ : Nat) : Int32 → Um → Prop := Nat.rec (motive := fun _ => Int32 → Um → Prop) (fun _ _ => False) (fun _ ih => b_X8_append_L3 o0 x1 post k_46 ih) n_
def w_X8_append (o : Nat) (a1 : Int32) (U : Um) (post : Um → Prop) : Prop :=
  (∃ n_5, w_X8_append_L3 o a1 post (fun U_4 => post U_4) n_5 24 U)
set_option maxHeartbeats 4000000 in
theorem tl_X8_append_L3 {l : Launch} {Y : px_Y} {X : px_X} {h0 hh : pe_H} {sz : Nat} (o0 : Nat) (x1 : Int32) (post : Um → Prop) (k_46 : Um → Prop) (ho0 : oc o0 = 7)  (hC : px_C X Y.1 (pm_A hh sz) cX8_append RX8 3) (hM : px_M l X Y.1 hh sz yX8_append cX8_append 3 none 0 0 0) (hR : X.2.2.2.1 = pm_rm 0 0 0) (hk_46 : ∀ (U : Um) (h : pe_H), k_46 U → rF Y h0 U h → pw X Y.1 (pm_A hh sz) (pm_E X Y.1 hh sz 0 0 (pm_P Y h0 sz (pq_v post))) 46 [none, none, none] [] h sz 0 0) : ∀ (n_ : Nat) (x2 : Int32) (U : Um) (h : pe_H), rF Y h0 U h → w_X8_append_L3 o0 x1 post k_46 n_ x2 U → pw X Y.1 (pm_A hh sz) (pm_E X Y.1 hh sz 0 0 (pm_P Y h0 sz (pq_v post))) 3 [some (.ref (Y.2.1 o0)), some (.int x1), some (.int x2)] [] h sz 0 0 := by
  intro n_
  induction n_ with
  | zero => intro x2 U h hU H; exact False.elim H
  | succ n_ ih =>
    intro x2 U h hU H
    replace H : b_X8_append_L3 o0 x1 post k_46 (w_X8_append_L3 o0 x1 post k_46 n_) x2 U := H
    unfold b_X8_append_L3 at H
    refine pr_iload_n hC (by decide +kernel : decode cX8_append 3 = .ok (.iload_n 2, 1)) rfl ?_
    refine pr_if_lt hC 46 (by decide +kernel : decode cX8_append 4 = .ok (.ifCond .lt 42, 3)) (by decide) (fun c_4 => ?_) (fun c_4 => ?_)
    · replace H := H.1 c_4
      exact pv_sub [none, none, none] (trivial) (hk_46 U h H hU)
    replace H := H.2 c_4
    refine pr_aload_n hC (by decide +kernel : decode cX8_append 7 = .ok (.aload_n 0, 1)) rfl ?_
    refine pu_g0 hC fg_X8_15 (by decide +kernel : decode cX8_append 8 = .ok (.getfield 15, 3)) hU ho0 (by decide) rfl rfl ?_
    refine pr_sipush hC (1200) (by decide +kernel : decode cX8_append 11 = .ok (.sipush 1200, 3)) rfl ?_
    refine pr_icmp_ge hC 46 (by decide +kernel : decode cX8_append 14 = .ok (.if_icmp .ge 32, 3)) (by decide) (fun c_14 => ?_) (fun c_14 => ?_)
    · replace H := H.1 c_14
      exact pv_sub [none, none, none] (trivial) (hk_46 U h H hU)
    replace H := H.2 c_14
    refine pr_aload_n hC (by decide +kernel : decode cX8_append 17 = .ok (.aload_n 0, 1)) rfl ?_
    refine pu_g1 hC fg_X8_11 (by decide +kernel : decode cX8_append 18 = .ok (.getfield 11, 3)) hU ho0 (by decide) rfl (by decide) ?_
    refine pr_aload_n hC (by decide +kernel : decode cX8_append 21 = .ok (.aload_n 0, 1)) rfl ?_
    refine pu_g0 hC fg_X8_15 (by decide +kernel : decode cX8_append 22 = .ok (.getfield 15, 3)) hU ho0 (by decide) rfl rfl ?_
    refine pr_iload_n hC (by decide +kernel : decode cX8_append 25 = .ok (.iload_n 1, 1)) rfl ?_
    refine pr_iload_n hC (by decide +kernel : decode cX8_append 26 = .ok (.iload_n 2, 1)) rfl ?_
    refine pr_ishr hC (by decide +kernel : decode cX8_append 27 = .ok (.ishr, 1)) ?_
    refine pr_i2b hC (by decide +kernel : decode cX8_append 28 = .ok (.i2b, 1)) ?_
    refine pv_bast hC (by decide +kernel : decode cX8_append 29 = .ok (.bastore, 1)) hU ho0 rfl H.1 (fun U_1 h e_U_1 hU => ?_)
    replace H := H.2 U_1 e_U_1
    refine pr_aload_n hC (by decide +kernel : decode cX8_append 30 = .ok (.aload_n 0, 1)) rfl ?_
    refine pr_dup hC (by decide +kernel : decode cX8_append 31 = .ok (.dup, 1)) rfl ?_
    refine pu_g0 hC fg_X8_15 (by decide +kernel : decode cX8_append 32 = .ok (.getfield 15, 3)) hU ho0 (by decide) rfl rfl ?_
    refine pr_iconst hC (1) (by decide +kernel : decode cX8_append 35 = .ok (.iconst 1, 1)) rfl ?_
    refine pr_iadd hC (by decide +kernel : decode cX8_append 36 = .ok (.iadd, 1)) ?_
    refine pv_p0 hC fp_X8_15 (by decide +kernel : decode cX8_append 37 = .ok (.putfield 15, 3)) hU ho0 (by decide) rfl rfl rfl rfl (fun U_2 h e_U_2 hU => ?_)
    replace H := H U_2 e_U_2
    refine pv_iinc hC (v := x2 + (-8)) (by decide +kernel : decode cX8_append 40 = .ok (.iinc 2 (-8), 3)) rfl (by decide) rfl rfl (fun x2_3 e_x2_3 => ?_)
    replace H := H x2_3 e_x2_3
    refine pr_goto hC 3 (by decide +kernel : decode cX8_append 43 = .ok (.goto (-40), 3)) (by decide) ?_
    exact pv_sub [some (.ref (Y.2.1 o0)), some (.int x1), some (.int x2_3)] (And.intro rfl (And.intro rfl (And.intro rfl trivial))) (ih _ U_2 h hU H)
set_option maxHeartbeats 4000000 in
theorem t_X8_append {l : Launch} {Y : px_Y} {o : Nat} {a1 : Int32} {U : Um} {post : Um → Prop} (ho : oc o = 7) (H : w_X8_append o a1 U post) : um l Y 0 yX8_append cX8_append 3 none [.ref (Y.2.1 o), .int a1] U (pq_v post) := by
  unfold w_X8_append at H
  refine um_of (by decide) (Nat.le_of_ble_eq_true rfl) [some (.ref (Y.2.1 o)), some (.int a1), none] rfl (fun X h0 hh sz hM hU => ?_)
  have hC := hM.1
  have hR := hM.2.2.1
  refine pr_bipush hC (24) (by decide +kernel : decode cX8_append 0 = .ok (.bipush 24, 2)) rfl ?_
  refine pr_istore_n hC (by decide +kernel : decode cX8_append 2 = .ok (.istore_n 2, 1)) (by decide) rfl ?_
  obtain ⟨n_5, H⟩ := H
  refine pv_sub [some (.ref (Y.2.1 o)), some (.int a1), some (.int 24)] (And.intro rfl (And.intro rfl (And.intro rfl trivial))) ?_
  refine tl_X8_append_L3 _ _ _ _ ho hC hM hR (fun U_4 h H hU => ?_) n_5 _ U hh hU H
  exact pv_vret hM (by decide +kernel : decode cX8_append 46 = .ok (.return_, 1)) hU H
def b_X8_letterOf_L7 (x0 : Int32) (x1 : Int32) (post : Int32 → Um → Prop) (k_34 : Int32 → Um → Prop) (rec_ : Int32 → Int32 → Int32 → Um → Prop) (x2 : Int32) (x3 : Int32) (x4 : Int32) (U : Um) : Prop :=
  ((6 : Int32) ≤ x4 → k_34 x2 U) ∧ (¬ (6 : Int32) ≤ x4 → ¬ x3 = 0 ∧ ((x0 / x3) ≤ 0 → k_34 x2 U) ∧ (¬ (x0 / x3) ≤ 0 → ∀ (x2_1 : Int32), x2_1 = x2 + 1 → ∀ (x3_2 : Int32), x3_2 = x3 * 27 → ∀ (x4_3 : Int32), x4_3 = x4 + 1 → rec_ x2_1 x3_2 x4_3 U))
def w_X8_letterOf_L7 (x0 : Int32) (x1 : Int32) (post : Int32 → Um → Prop) (k_34 : Int32 → Um → Prop) (n_ : Nat) : Int32 → Int32 → Int32 → Um → Prop := Nat.rec (motive := fun _ => Int32 → Int32 → Int32 → Um → Prop) (fun _ _ _ _ => False) (fun _ ih => b_X8_letterOf_L7 x0 x1 post k_34 ih) n_
def b_X8_letterOf_L53 (x1 : Int32) (post : Int32 → Um → Prop) (k_72 : Int32 → Um → Prop) (rec_ : Int32 → Int32 → Um → Prop) (x4 : Int32) (x5 : Int32) (U : Um) : Prop :=
  (x5 ≤ x1 → k_72 x4 U) ∧ (¬ x5 ≤ x1 → ∀ (x4_8 : Int32), x4_8 = x4 / 27 → ∀ (x5_9 : Int32), x5_9 = x5 + (-1) → rec_ x4_8 x5_9 U)
def w_X8_letterOf_L53 (x1 : Int32) (post : Int32 → Um → Prop) (k_72 : Int32 → Um → Prop) (n_ : Nat) : Int32 → Int32 → Um → Prop := Nat.rec (motive := fun _ => Int32 → Int32 → Um → Prop) (fun _ _ _ => False) (fun _ ih => b_X8_letterOf_L53 x1 post k_72 ih) n_
def w_X8_letterOf (a1 : Int32) (a2 : Int32) (U : Um) (post : Int32 → Um → Prop) : Prop :=
  (∃ n_13, w_X8_letterOf_L7 a1 a2 post (fun x2_4 U_5 => (a2 < 0 → post (-1) U_5) ∧ (¬ a2 < 0 → (a2 < x2_4 → ∀ (x4_6 : Int32), x4_6 = a1 → ∀ (x5_7 : Int32), x5_7 = x2_4 - 1 → (∃ n_12, w_X8_letterOf_L53 a2 post (fun x4_10 U_11 => post ((x4_10 - x4_10 / 27 * 27) - 1) U_11) n_12 x4_6 x5_7 U_5)) ∧ (¬ a2 < x2_4 → post (-1) U_5))) n_13 0 1 0 U)
set_option maxHeartbeats 4000000 in
theorem tl_X8_letterOf_L7 {l : Launch} {Y : px_Y} {X : px_X} {h0 hh : pe_H} {sz : Nat} (x0 : Int32) (x1 : Int32) (post : Int32 → Um → Prop) (k_34 : Int32 → Um → Prop)   (hC : px_C X Y.1 (pm_A hh sz) cX8_letterOf RX8 6) (hM : px_M l X Y.1 hh sz yX8_letterOf cX8_letterOf 6 (some (.int)) 0 0 0) (hR : X.2.2.2.1 = pm_rm 0 0 0) (hk_34 : ∀ (y2 : Int32) (U : Um) (h : pe_H), k_34 y2 U → rF Y h0 U h → pw X Y.1 (pm_A hh sz) (pm_E X Y.1 hh sz 0 0 (pm_P Y h0 sz (pq_i post))) 34 [some (.int x0), some (.int x1), some (.int y2), none, none, none] [] h sz 0 0) : ∀ (n_ : Nat) (x2 : Int32) (x3 : Int32) (x4 : Int32) (U : Um) (h : pe_H), rF Y h0 U h → w_X8_letterOf_L7 x0 x1 post k_34 n_ x2 x3 x4 U → pw X Y.1 (pm_A hh sz) (pm_E X Y.1 hh sz 0 0 (pm_P Y h0 sz (pq_i post))) 7 [some (.int x0), some (.int x1), some (.int x2), some (.int x3), some (.int x4), none] [] h sz 0 0 := by
  intro n_
  induction n_ with
  | zero => intro x2 x3 x4 U h hU H; exact False.elim H
  | succ n_ ih =>
    intro x2 x3 x4 U h hU H
    replace H : b_X8_letterOf_L7 x0 x1 post k_34 (w_X8_letterOf_L7 x0 x1 post k_34 n_) x2 x3 x4 U := H
    unfold b_X8_letterOf_L7 at H
    refine pr_iload hC (by decide +kernel : decode cX8_letterOf 7 = .ok (.iload 4, 2)) rfl ?_
    refine pr_bipush hC (6) (by decide +kernel : decode cX8_letterOf 9 = .ok (.bipush 6, 2)) rfl ?_
    refine pr_icmp_ge hC 34 (by decide +kernel : decode cX8_letterOf 11 = .ok (.if_icmp .ge 23, 3)) (by decide) (fun c_11 => ?_) (fun c_11 => ?_)
    · replace H := H.1 c_11
      exact pv_sub [some (.int x0), some (.int x1), some (.int x2), none, none, none] (And.intro rfl (And.intro rfl (And.intro rfl trivial))) (hk_34 _ U h H hU)
    replace H := H.2 c_11
    refine pr_iload_n hC (by decide +kernel : decode cX8_letterOf 14 = .ok (.iload_n 0, 1)) rfl ?_
    refine pr_iload_n hC (by decide +kernel : decode cX8_letterOf 15 = .ok (.iload_n 3, 1)) rfl ?_
    refine pr_idiv hC (by decide +kernel : decode cX8_letterOf 16 = .ok (.idiv, 1)) H.1 ?_
    replace H := H.2
    refine pr_if_le hC 34 (by decide +kernel : decode cX8_letterOf 17 = .ok (.ifCond .le 17, 3)) (by decide) (fun c_17 => ?_) (fun c_17 => ?_)
    · replace H := H.1 c_17
      exact pv_sub [some (.int x0), some (.int x1), some (.int x2), none, none, none] (And.intro rfl (And.intro rfl (And.intro rfl trivial))) (hk_34 _ U h H hU)
    replace H := H.2 c_17
    refine pv_iinc hC (v := x2 + 1) (by decide +kernel : decode cX8_letterOf 20 = .ok (.iinc 2 1, 3)) rfl (by decide) rfl rfl (fun x2_1 e_x2_1 => ?_)
    replace H := H x2_1 e_x2_1
    refine pr_iload_n hC (by decide +kernel : decode cX8_letterOf 23 = .ok (.iload_n 3, 1)) rfl ?_
    refine pr_bipush hC (27) (by decide +kernel : decode cX8_letterOf 24 = .ok (.bipush 27, 2)) rfl ?_
    refine pr_imul hC (by decide +kernel : decode cX8_letterOf 26 = .ok (.imul, 1)) ?_
    refine pv_topi (fun x3_2 e_x3_2 => ?_)
    replace H := H x3_2 e_x3_2
    refine pr_istore_n hC (by decide +kernel : decode cX8_letterOf 27 = .ok (.istore_n 3, 1)) (by decide) rfl ?_
    refine pv_iinc hC (v := x4 + 1) (by decide +kernel : decode cX8_letterOf 28 = .ok (.iinc 4 1, 3)) rfl (by decide) rfl rfl (fun x4_3 e_x4_3 => ?_)
    replace H := H x4_3 e_x4_3
    refine pr_goto hC 7 (by decide +kernel : decode cX8_letterOf 31 = .ok (.goto (-24), 3)) (by decide) ?_
    exact pv_sub [some (.int x0), some (.int x1), some (.int x2_1), some (.int x3_2), some (.int x4_3), none] (And.intro rfl (And.intro rfl (And.intro rfl (And.intro rfl (And.intro rfl trivial))))) (ih _ _ _ U h hU H)
set_option maxHeartbeats 4000000 in
theorem tl_X8_letterOf_L53 {l : Launch} {Y : px_Y} {X : px_X} {h0 hh : pe_H} {sz : Nat} (x1 : Int32) (post : Int32 → Um → Prop) (k_72 : Int32 → Um → Prop)   (hC : px_C X Y.1 (pm_A hh sz) cX8_letterOf RX8 6) (hM : px_M l X Y.1 hh sz yX8_letterOf cX8_letterOf 6 (some (.int)) 0 0 0) (hR : X.2.2.2.1 = pm_rm 0 0 0) (hk_72 : ∀ (y4 : Int32) (U : Um) (h : pe_H), k_72 y4 U → rF Y h0 U h → pw X Y.1 (pm_A hh sz) (pm_E X Y.1 hh sz 0 0 (pm_P Y h0 sz (pq_i post))) 72 [none, none, none, none, some (.int y4), none] [] h sz 0 0) : ∀ (n_ : Nat) (x4 : Int32) (x5 : Int32) (U : Um) (h : pe_H), rF Y h0 U h → w_X8_letterOf_L53 x1 post k_72 n_ x4 x5 U → pw X Y.1 (pm_A hh sz) (pm_E X Y.1 hh sz 0 0 (pm_P Y h0 sz (pq_i post))) 53 [none, some (.int x1), none, none, some (.int x4), some (.int x5)] [] h sz 0 0 := by
  intro n_
  induction n_ with
  | zero => intro x4 x5 U h hU H; exact False.elim H
  | succ n_ ih =>
    intro x4 x5 U h hU H
    replace H : b_X8_letterOf_L53 x1 post k_72 (w_X8_letterOf_L53 x1 post k_72 n_) x4 x5 U := H
    unfold b_X8_letterOf_L53 at H
    refine pr_iload hC (by decide +kernel : decode cX8_letterOf 53 = .ok (.iload 5, 2)) rfl ?_
    refine pr_iload_n hC (by decide +kernel : decode cX8_letterOf 55 = .ok (.iload_n 1, 1)) rfl ?_
    refine pr_icmp_le hC 72 (by decide +kernel : decode cX8_letterOf 56 = .ok (.if_icmp .le 16, 3)) (by decide) (fun c_56 => ?_) (fun c_56 => ?_)
    · replace H := H.1 c_56
      exact pv_sub [none, none, none, none, some (.int x4), none] (And.intro rfl trivial) (hk_72 _ U h H hU)
    replace H := H.2 c_56
    refine pr_iload hC (by decide +kernel : decode cX8_letterOf 59 = .ok (.iload 4, 2)) rfl ?_
    refine pr_bipush hC (27) (by decide +kernel : decode cX8_letterOf 61 = .ok (.bipush 27, 2)) rfl ?_
    refine pr_idiv hC (by decide +kernel : decode cX8_letterOf 63 = .ok (.idiv, 1)) (by decide) ?_
    refine pv_topi (fun x4_8 e_x4_8 => ?_)
    replace H := H x4_8 e_x4_8
    refine pr_istore hC (by decide +kernel : decode cX8_letterOf 64 = .ok (.istore 4, 2)) (by decide) rfl ?_
    refine pv_iinc hC (v := x5 + (-1)) (by decide +kernel : decode cX8_letterOf 66 = .ok (.iinc 5 (-1), 3)) rfl (by decide) rfl rfl (fun x5_9 e_x5_9 => ?_)
    replace H := H x5_9 e_x5_9
    refine pr_goto hC 53 (by decide +kernel : decode cX8_letterOf 69 = .ok (.goto (-16), 3)) (by decide) ?_
    exact pv_sub [none, some (.int x1), none, none, some (.int x4_8), some (.int x5_9)] (And.intro rfl (And.intro rfl (And.intro rfl trivial))) (ih _ _ U h hU H)
set_option maxHeartbeats 4000000 in
theorem t_X8_letterOf {l : Launch} {Y : px_Y} {a1 : Int32} {a2 : Int32} {U : Um} {post : Int32 → Um → Prop}  (H : w_X8_letterOf a1 a2 U post) : um l Y 0 yX8_letterOf cX8_letterOf 6 (some (.int)) [.int a1, .int a2] U (pq_i post) := by
  unfold w_X8_letterOf at H
  refine um_of (by decide) (Nat.le_of_ble_eq_true rfl) [some (.int a1), some (.int a2), none, none, none, none] rfl (fun X h0 hh sz hM hU => ?_)
  have hC := hM.1
  have hR := hM.2.2.1
  refine pr_iconst hC (0) (by decide +kernel : decode cX8_letterOf 0 = .ok (.iconst 0, 1)) rfl ?_
  refine pr_istore_n hC (by decide +kernel : decode cX8_letterOf 1 = .ok (.istore_n 2, 1)) (by decide) rfl ?_
  refine pr_iconst hC (1) (by decide +kernel : decode cX8_letterOf 2 = .ok (.iconst 1, 1)) rfl ?_
  refine pr_istore_n hC (by decide +kernel : decode cX8_letterOf 3 = .ok (.istore_n 3, 1)) (by decide) rfl ?_
  refine pr_iconst hC (0) (by decide +kernel : decode cX8_letterOf 4 = .ok (.iconst 0, 1)) rfl ?_
  refine pr_istore hC (by decide +kernel : decode cX8_letterOf 5 = .ok (.istore 4, 2)) (by decide) rfl ?_
  obtain ⟨n_13, H⟩ := H
  refine pv_sub [some (.int a1), some (.int a2), some (.int 0), some (.int 1), some (.int 0), none] (And.intro rfl (And.intro rfl (And.intro rfl (And.intro rfl (And.intro rfl trivial))))) ?_
  refine tl_X8_letterOf_L7 _ _ _ _ hC hM hR (fun x2_4 U_5 h H hU => ?_) n_13 _ _ _ U hh hU H
  refine pr_iload_n hC (by decide +kernel : decode cX8_letterOf 34 = .ok (.iload_n 1, 1)) rfl ?_
  refine pr_if_lt hC 43 (by decide +kernel : decode cX8_letterOf 35 = .ok (.ifCond .lt 8, 3)) (by decide) (fun c_35 => ?_) (fun c_35 => ?_)
  · replace H := H.1 c_35
    refine pr_iconst hC (-1) (by decide +kernel : decode cX8_letterOf 43 = .ok (.iconst (-1), 1)) rfl ?_
    exact pv_iret hM (by decide +kernel : decode cX8_letterOf 44 = .ok (.ireturn, 1)) hU H
  replace H := H.2 c_35
  refine pr_iload_n hC (by decide +kernel : decode cX8_letterOf 38 = .ok (.iload_n 1, 1)) rfl ?_
  refine pr_iload_n hC (by decide +kernel : decode cX8_letterOf 39 = .ok (.iload_n 2, 1)) rfl ?_
  refine pr_icmp_lt hC 45 (by decide +kernel : decode cX8_letterOf 40 = .ok (.if_icmp .lt 5, 3)) (by decide) (fun c_40 => ?_) (fun c_40 => ?_)
  · replace H := H.1 c_40
    refine pr_iload_n hC (by decide +kernel : decode cX8_letterOf 45 = .ok (.iload_n 0, 1)) rfl ?_
    refine pv_topi (fun x4_6 e_x4_6 => ?_)
    replace H := H x4_6 e_x4_6
    refine pr_istore hC (by decide +kernel : decode cX8_letterOf 46 = .ok (.istore 4, 2)) (by decide) rfl ?_
    refine pr_iload_n hC (by decide +kernel : decode cX8_letterOf 48 = .ok (.iload_n 2, 1)) rfl ?_
    refine pr_iconst hC (1) (by decide +kernel : decode cX8_letterOf 49 = .ok (.iconst 1, 1)) rfl ?_
    refine pr_isub hC (by decide +kernel : decode cX8_letterOf 50 = .ok (.isub, 1)) ?_
    refine pv_topi (fun x5_7 e_x5_7 => ?_)
    replace H := H x5_7 e_x5_7
    refine pr_istore hC (by decide +kernel : decode cX8_letterOf 51 = .ok (.istore 5, 2)) (by decide) rfl ?_
    obtain ⟨n_12, H⟩ := H
    refine pv_sub [none, some (.int a2), none, none, some (.int x4_6), some (.int x5_7)] (And.intro rfl (And.intro rfl (And.intro rfl trivial))) ?_
    refine tl_X8_letterOf_L53 _ _ _ hC hM hR (fun x4_10 U_11 h H hU => ?_) n_12 _ _ U_5 h hU H
    refine pr_iload hC (by decide +kernel : decode cX8_letterOf 72 = .ok (.iload 4, 2)) rfl ?_
    refine pr_bipush hC (27) (by decide +kernel : decode cX8_letterOf 74 = .ok (.bipush 27, 2)) rfl ?_
    refine pr_irem hC (by decide +kernel : decode cX8_letterOf 76 = .ok (.irem, 1)) (by decide) ?_
    refine pr_iconst hC (1) (by decide +kernel : decode cX8_letterOf 77 = .ok (.iconst 1, 1)) rfl ?_
    refine pr_isub hC (by decide +kernel : decode cX8_letterOf 78 = .ok (.isub, 1)) ?_
    exact pv_iret hM (by decide +kernel : decode cX8_letterOf 79 = .ok (.ireturn, 1)) hU H
  replace H := H.2 c_40
  refine pr_iconst hC (-1) (by decide +kernel : decode cX8_letterOf 43 = .ok (.iconst (-1), 1)) rfl ?_
  exact pv_iret hM (by decide +kernel : decode cX8_letterOf 44 = .ok (.ireturn, 1)) hU H
def w_X9_areFields (o : Nat) (a1 : Int32) (a2 : Int32) (U : Um) (post : Int32 → Um → Prop) : Prop :=
  w_X9_isNamed o 0 a1 U (fun r_2 U_1 => (r_2 = 0 → post 0 U_1) ∧ (¬ r_2 = 0 → w_X9_isNamed o 0 a2 U_1 (fun r_4 U_3 => (r_4 = 0 → post 0 U_3) ∧ (¬ r_4 = 0 → post 1 U_3))))
set_option maxHeartbeats 4000000 in
theorem t_X9_areFields {l : Launch} {Y : px_Y} {o : Nat} {a1 : Int32} {a2 : Int32} {U : Um} {post : Int32 → Um → Prop} (ho : oc o = 8) (H : w_X9_areFields o a1 a2 U post) : um l Y 1 yX9_areFields cX9_areFields 3 (some (.boolean)) [.ref (Y.2.1 o), .int a1, .int a2] U (pq_i post) := by
  unfold w_X9_areFields at H
  refine um_of (by decide) (Nat.le_of_ble_eq_true rfl) [some (.ref (Y.2.1 o)), some (.int a1), some (.int a2)] rfl (fun X h0 hh sz hM hU => ?_)
  have hC := hM.1
  have hR := hM.2.2.1
  refine pr_aload_n hC (by decide +kernel : decode cX9_areFields 0 = .ok (.aload_n 0, 1)) rfl ?_
  refine pr_iconst hC (0) (by decide +kernel : decode cX9_areFields 1 = .ok (.iconst 0, 1)) rfl ?_
  refine pr_iload_n hC (by decide +kernel : decode cX9_areFields 2 = .ok (.iload_n 1, 1)) rfl ?_
  refine vc_Vi hC hR [.int 0, .int a1] fv_X9_85 (by decide +kernel : decode cX9_areFields 3 = .ok (.invokevirtual 85, 3)) hU (t_X9_isNamed ho H) ho (by decide) rfl rfl rfl (Nat.le_of_ble_eq_true rfl) (Nat.le_of_ble_eq_true rfl) (Nat.le_refl 0) (Nat.le_refl 0) (fun r_2 U_1 h H hU => ?_)
  refine pr_if_eq hC 22 (by decide +kernel : decode cX9_areFields 6 = .ok (.ifCond .eq 16, 3)) (by decide) (fun c_6 => ?_) (fun c_6 => ?_)
  · replace H := H.1 c_6
    refine pr_iconst hC (0) (by decide +kernel : decode cX9_areFields 22 = .ok (.iconst 0, 1)) rfl ?_
    exact pv_zret hM (by decide +kernel : decode cX9_areFields 23 = .ok (.ireturn, 1)) (Or.inl rfl) hU H
  replace H := H.2 c_6
  refine pr_aload_n hC (by decide +kernel : decode cX9_areFields 9 = .ok (.aload_n 0, 1)) rfl ?_
  refine pr_iconst hC (0) (by decide +kernel : decode cX9_areFields 10 = .ok (.iconst 0, 1)) rfl ?_
  refine pr_iload_n hC (by decide +kernel : decode cX9_areFields 11 = .ok (.iload_n 2, 1)) rfl ?_
  refine vc_Vi hC hR [.int 0, .int a2] fv_X9_85 (by decide +kernel : decode cX9_areFields 12 = .ok (.invokevirtual 85, 3)) hU (t_X9_isNamed ho H) ho (by decide) rfl rfl rfl (Nat.le_of_ble_eq_true rfl) (Nat.le_of_ble_eq_true rfl) (Nat.le_refl 0) (Nat.le_refl 0) (fun r_4 U_3 h H hU => ?_)
  refine pr_if_eq hC 22 (by decide +kernel : decode cX9_areFields 15 = .ok (.ifCond .eq 7, 3)) (by decide) (fun c_15 => ?_) (fun c_15 => ?_)
  · replace H := H.1 c_15
    refine pr_iconst hC (0) (by decide +kernel : decode cX9_areFields 22 = .ok (.iconst 0, 1)) rfl ?_
    exact pv_zret hM (by decide +kernel : decode cX9_areFields 23 = .ok (.ireturn, 1)) (Or.inl rfl) hU H
  replace H := H.2 c_15
  refine pr_iconst hC (1) (by decide +kernel : decode cX9_areFields 18 = .ok (.iconst 1, 1)) rfl ?_
  refine pr_goto hC 23 (by decide +kernel : decode cX9_areFields 19 = .ok (.goto 4, 3)) (by decide) ?_
  exact pv_zret hM (by decide +kernel : decode cX9_areFields 23 = .ok (.ireturn, 1)) (Or.inr rfl) hU H
def b_X9_seatCount_L4 (o0 : Nat) (post : Int32 → Um → Prop) (k_30 : Int32 → Um → Prop) (rec_ : Int32 → Int32 → Um → Prop) (x1 : Int32) (x2 : Int32) (U : Um) : Prop :=
  ((uI U o0 7) ≤ x2 → k_30 x1 U) ∧ (¬ (uI U o0 7) ≤ x2 → vp_in x2 16 ∧ oc (uAR U o0 6 (Int32.toNatClampNeg x2)) = 1 ∧ ∀ (x1_3 : Int32), x1_3 = x1 + (uI U (uAR U o0 6 (Int32.toNatClampNeg x2)) 7) → ∀ (x2_4 : Int32), x2_4 = x2 + 1 → rec_ x1_3 x2_4 U)
def w_X9_seatCount_L4 (o0 : Nat) (post : Int32 → Um → Prop) (k_30 : Int32 → Um → Prop) (n_ : Nat) : Int32 → Int32 → Um → Prop := Nat.rec (motive := fun _ => Int32 → Int32 → Um → Prop) (fun _ _ _ => False) (fun _ ih => b_X9_seatCount_L4 o0 post k_30 ih) n_
def w_X9_seatCount (o : Nat) (U : Um) (post : Int32 → Um → Prop) : Prop :=
  (∃ n_7, w_X9_seatCount_L4 o post (fun x1_5 U_6 => post x1_5 U_6) n_7 0 0 U)
set_option maxHeartbeats 4000000 in
theorem tl_X9_seatCount_L4 {l : Launch} {Y : px_Y} {X : px_X} {h0 hh : pe_H} {sz : Nat} (o0 : Nat) (post : Int32 → Um → Prop) (k_30 : Int32 → Um → Prop) (ho0 : oc o0 = 8)  (hC : px_C X Y.1 (pm_A hh sz) cX9_seatCount RX9 3) (hM : px_M l X Y.1 hh sz yX9_seatCount cX9_seatCount 3 (some (.int)) 0 0 0) (hR : X.2.2.2.1 = pm_rm 0 0 0) (hk_30 : ∀ (y1 : Int32) (U : Um) (h : pe_H), k_30 y1 U → rF Y h0 U h → pw X Y.1 (pm_A hh sz) (pm_E X Y.1 hh sz 0 0 (pm_P Y h0 sz (pq_i post))) 30 [none, some (.int y1), none] [] h sz 0 0) : ∀ (n_ : Nat) (x1 : Int32) (x2 : Int32) (U : Um) (h : pe_H), rF Y h0 U h → w_X9_seatCount_L4 o0 post k_30 n_ x1 x2 U → pw X Y.1 (pm_A hh sz) (pm_E X Y.1 hh sz 0 0 (pm_P Y h0 sz (pq_i post))) 4 [some (.ref (Y.2.1 o0)), some (.int x1), some (.int x2)] [] h sz 0 0 := by
  intro n_
  induction n_ with
  | zero => intro x1 x2 U h hU H; exact False.elim H
  | succ n_ ih =>
    intro x1 x2 U h hU H
    replace H : b_X9_seatCount_L4 o0 post k_30 (w_X9_seatCount_L4 o0 post k_30 n_) x1 x2 U := H
    unfold b_X9_seatCount_L4 at H
    refine pr_iload_n hC (by decide +kernel : decode cX9_seatCount 4 = .ok (.iload_n 2, 1)) rfl ?_
    refine pr_aload_n hC (by decide +kernel : decode cX9_seatCount 5 = .ok (.aload_n 0, 1)) rfl ?_
    refine pu_g0 hC fg_X9_69 (by decide +kernel : decode cX9_seatCount 6 = .ok (.getfield 69, 3)) hU ho0 (by decide) rfl rfl ?_
    refine pr_icmp_ge hC 30 (by decide +kernel : decode cX9_seatCount 9 = .ok (.if_icmp .ge 21, 3)) (by decide) (fun c_9 => ?_) (fun c_9 => ?_)
    · replace H := H.1 c_9
      exact pv_sub [none, some (.int x1), none] (And.intro rfl trivial) (hk_30 _ U h H hU)
    replace H := H.2 c_9
    refine pr_iload_n hC (by decide +kernel : decode cX9_seatCount 12 = .ok (.iload_n 1, 1)) rfl ?_
    refine pr_aload_n hC (by decide +kernel : decode cX9_seatCount 13 = .ok (.aload_n 0, 1)) rfl ?_
    refine pu_g1 hC fg_X9_34 (by decide +kernel : decode cX9_seatCount 14 = .ok (.getfield 34, 3)) hU ho0 (by decide) rfl (by decide) ?_
    refine pr_iload_n hC (by decide +kernel : decode cX9_seatCount 17 = .ok (.iload_n 2, 1)) rfl ?_
    have q_1 := H.1
    replace H := H.2
    refine pu_aald8 hC (by decide +kernel : decode cX9_seatCount 18 = .ok (.aaload, 1)) hU ho0 rfl q_1 ?_
    have q_2 := H.1
    replace H := H.2
    refine pu_g0 hC fg_X9_93 (by decide +kernel : decode cX9_seatCount 19 = .ok (.getfield 93, 3)) hU q_2 (by decide) rfl rfl ?_
    refine pr_iadd hC (by decide +kernel : decode cX9_seatCount 22 = .ok (.iadd, 1)) ?_
    refine pv_topi (fun x1_3 e_x1_3 => ?_)
    replace H := H x1_3 e_x1_3
    refine pr_istore_n hC (by decide +kernel : decode cX9_seatCount 23 = .ok (.istore_n 1, 1)) (by decide) rfl ?_
    refine pv_iinc hC (v := x2 + 1) (by decide +kernel : decode cX9_seatCount 24 = .ok (.iinc 2 1, 3)) rfl (by decide) rfl rfl (fun x2_4 e_x2_4 => ?_)
    replace H := H x2_4 e_x2_4
    refine pr_goto hC 4 (by decide +kernel : decode cX9_seatCount 27 = .ok (.goto (-23), 3)) (by decide) ?_
    exact pv_sub [some (.ref (Y.2.1 o0)), some (.int x1_3), some (.int x2_4)] (And.intro rfl (And.intro rfl (And.intro rfl trivial))) (ih _ _ U h hU H)
set_option maxHeartbeats 4000000 in
theorem t_X9_seatCount {l : Launch} {Y : px_Y} {o : Nat} {U : Um} {post : Int32 → Um → Prop} (ho : oc o = 8) (H : w_X9_seatCount o U post) : um l Y 0 yX9_seatCount cX9_seatCount 3 (some (.int)) [.ref (Y.2.1 o)] U (pq_i post) := by
  unfold w_X9_seatCount at H
  refine um_of (by decide) (Nat.le_of_ble_eq_true rfl) [some (.ref (Y.2.1 o)), none, none] rfl (fun X h0 hh sz hM hU => ?_)
  have hC := hM.1
  have hR := hM.2.2.1
  refine pr_iconst hC (0) (by decide +kernel : decode cX9_seatCount 0 = .ok (.iconst 0, 1)) rfl ?_
  refine pr_istore_n hC (by decide +kernel : decode cX9_seatCount 1 = .ok (.istore_n 1, 1)) (by decide) rfl ?_
  refine pr_iconst hC (0) (by decide +kernel : decode cX9_seatCount 2 = .ok (.iconst 0, 1)) rfl ?_
  refine pr_istore_n hC (by decide +kernel : decode cX9_seatCount 3 = .ok (.istore_n 2, 1)) (by decide) rfl ?_
  obtain ⟨n_7, H⟩ := H
  refine pv_sub [some (.ref (Y.2.1 o)), some (.int 0), some (.int 0)] (And.intro rfl (And.intro rfl (And.intro rfl trivial))) ?_
  refine tl_X9_seatCount_L4 _ _ _ ho hC hM hR (fun x1_5 U_6 h H hU => ?_) n_7 _ _ U hh hU H
  refine pr_iload_n hC (by decide +kernel : decode cX9_seatCount 30 = .ok (.iload_n 1, 1)) rfl ?_
  exact pv_iret hM (by decide +kernel : decode cX9_seatCount 31 = .ok (.ireturn, 1)) hU H
def w_X11_feed (o : Nat) (a1 : Int32) (a2 : Int32) (a3 : Int32) (a4 : Int32) (a5 : Int32) (U : Um) (post : Int32 → Um → Prop) : Prop :=
  oc (uR U o 0) = 7 ∧ (((uI U (uR U o 0) 1) + 20) ≤ 1200 → oc (uR U o 0) = 7 ∧ w_X8_append (uR U o 0) a1 U (fun U_3 => oc (uR U_3 o 0) = 7 ∧ w_X8_append (uR U_3 o 0) a2 U_3 (fun U_6 => oc (uR U_6 o 0) = 7 ∧ w_X8_append (uR U_6 o 0) a3 U_6 (fun U_9 => oc (uR U_9 o 0) = 7 ∧ w_X8_append (uR U_9 o 0) a4 U_9 (fun U_12 => oc (uR U_12 o 0) = 7 ∧ w_X8_append (uR U_12 o 0) a5 U_12 (fun U_15 => oc (uR U_15 o 0) = 7 ∧ post (uI U_15 (uR U_15 o 0) 1) U_15)))))) ∧ (¬ ((uI U (uR U o 0) 1) + 20) ≤ 1200 → post (-1) U)
set_option maxHeartbeats 4000000 in
theorem t_X11_feed {l : Launch} {Y : px_Y} {o : Nat} {a1 : Int32} {a2 : Int32} {a3 : Int32} {a4 : Int32} {a5 : Int32} {U : Um} {post : Int32 → Um → Prop} (ho : oc o = 9) (H : w_X11_feed o a1 a2 a3 a4 a5 U post) : um l Y 1 yX11_feed cX11_feed 6 (some (.int)) [.ref (Y.2.1 o), .int a1, .int a2, .int a3, .int a4, .int a5] U (pq_i post) := by
  unfold w_X11_feed at H
  refine um_of (by decide) (Nat.le_of_ble_eq_true rfl) [some (.ref (Y.2.1 o)), some (.int a1), some (.int a2), some (.int a3), some (.int a4), some (.int a5)] rfl (fun X h0 hh sz hM hU => ?_)
  have hC := hM.1
  have hR := hM.2.2.1
  refine pr_aload_n hC (by decide +kernel : decode cX11_feed 0 = .ok (.aload_n 0, 1)) rfl ?_
  refine pu_g21 hC fg_X11_10 (by decide +kernel : decode cX11_feed 1 = .ok (.getfield 10, 3)) hU ho (by decide) rfl rfl ?_
  have q_1 := H.1
  replace H := H.2
  refine pu_g0 hC fg_X11_67 (by decide +kernel : decode cX11_feed 4 = .ok (.getfield 67, 3)) hU q_1 (by decide) rfl rfl ?_
  refine pr_bipush hC (20) (by decide +kernel : decode cX11_feed 7 = .ok (.bipush 20, 2)) rfl ?_
  refine pr_iadd hC (by decide +kernel : decode cX11_feed 9 = .ok (.iadd, 1)) ?_
  refine pr_sipush hC (1200) (by decide +kernel : decode cX11_feed 10 = .ok (.sipush 1200, 3)) rfl ?_
  refine pr_icmp_le hC 18 (by decide +kernel : decode cX11_feed 13 = .ok (.if_icmp .le 5, 3)) (by decide) (fun c_13 => ?_) (fun c_13 => ?_)
  · replace H := H.1 c_13
    refine pr_aload_n hC (by decide +kernel : decode cX11_feed 18 = .ok (.aload_n 0, 1)) rfl ?_
    refine pu_g21 hC fg_X11_10 (by decide +kernel : decode cX11_feed 19 = .ok (.getfield 10, 3)) hU ho (by decide) rfl rfl ?_
    have q_2 := H.1
    replace H := H.2
    refine pr_iload_n hC (by decide +kernel : decode cX11_feed 22 = .ok (.iload_n 1, 1)) rfl ?_
    refine vc_Vv hC hR [.int a1] fv_X11_71 (by decide +kernel : decode cX11_feed 23 = .ok (.invokevirtual 71, 3)) hU (t_X8_append q_2 H) q_2 (by decide) rfl rfl rfl (Nat.le_of_ble_eq_true rfl) (Nat.le_of_ble_eq_true rfl) (Nat.le_refl 0) (Nat.le_refl 0) (fun U_3 h H hU => ?_)
    refine pr_aload_n hC (by decide +kernel : decode cX11_feed 26 = .ok (.aload_n 0, 1)) rfl ?_
    refine pu_g21 hC fg_X11_10 (by decide +kernel : decode cX11_feed 27 = .ok (.getfield 10, 3)) hU ho (by decide) rfl rfl ?_
    have q_5 := H.1
    replace H := H.2
    refine pr_iload_n hC (by decide +kernel : decode cX11_feed 30 = .ok (.iload_n 2, 1)) rfl ?_
    refine vc_Vv hC hR [.int a2] fv_X11_71 (by decide +kernel : decode cX11_feed 31 = .ok (.invokevirtual 71, 3)) hU (t_X8_append q_5 H) q_5 (by decide) rfl rfl rfl (Nat.le_of_ble_eq_true rfl) (Nat.le_of_ble_eq_true rfl) (Nat.le_refl 0) (Nat.le_refl 0) (fun U_6 h H hU => ?_)
    refine pr_aload_n hC (by decide +kernel : decode cX11_feed 34 = .ok (.aload_n 0, 1)) rfl ?_
    refine pu_g21 hC fg_X11_10 (by decide +kernel : decode cX11_feed 35 = .ok (.getfield 10, 3)) hU ho (by decide) rfl rfl ?_
    have q_8 := H.1
    replace H := H.2
    refine pr_iload_n hC (by decide +kernel : decode cX11_feed 38 = .ok (.iload_n 3, 1)) rfl ?_
    refine vc_Vv hC hR [.int a3] fv_X11_71 (by decide +kernel : decode cX11_feed 39 = .ok (.invokevirtual 71, 3)) hU (t_X8_append q_8 H) q_8 (by decide) rfl rfl rfl (Nat.le_of_ble_eq_true rfl) (Nat.le_of_ble_eq_true rfl) (Nat.le_refl 0) (Nat.le_refl 0) (fun U_9 h H hU => ?_)
    refine pr_aload_n hC (by decide +kernel : decode cX11_feed 42 = .ok (.aload_n 0, 1)) rfl ?_
    refine pu_g21 hC fg_X11_10 (by decide +kernel : decode cX11_feed 43 = .ok (.getfield 10, 3)) hU ho (by decide) rfl rfl ?_
    have q_11 := H.1
    replace H := H.2
    refine pr_iload hC (by decide +kernel : decode cX11_feed 46 = .ok (.iload 4, 2)) rfl ?_
    refine vc_Vv hC hR [.int a4] fv_X11_71 (by decide +kernel : decode cX11_feed 48 = .ok (.invokevirtual 71, 3)) hU (t_X8_append q_11 H) q_11 (by decide) rfl rfl rfl (Nat.le_of_ble_eq_true rfl) (Nat.le_of_ble_eq_true rfl) (Nat.le_refl 0) (Nat.le_refl 0) (fun U_12 h H hU => ?_)
    refine pr_aload_n hC (by decide +kernel : decode cX11_feed 51 = .ok (.aload_n 0, 1)) rfl ?_
    refine pu_g21 hC fg_X11_10 (by decide +kernel : decode cX11_feed 52 = .ok (.getfield 10, 3)) hU ho (by decide) rfl rfl ?_
    have q_14 := H.1
    replace H := H.2
    refine pr_iload hC (by decide +kernel : decode cX11_feed 55 = .ok (.iload 5, 2)) rfl ?_
    refine vc_Vv hC hR [.int a5] fv_X11_71 (by decide +kernel : decode cX11_feed 57 = .ok (.invokevirtual 71, 3)) hU (t_X8_append q_14 H) q_14 (by decide) rfl rfl rfl (Nat.le_of_ble_eq_true rfl) (Nat.le_of_ble_eq_true rfl) (Nat.le_refl 0) (Nat.le_refl 0) (fun U_15 h H hU => ?_)
    refine pr_aload_n hC (by decide +kernel : decode cX11_feed 60 = .ok (.aload_n 0, 1)) rfl ?_
    refine pu_g21 hC fg_X11_10 (by decide +kernel : decode cX11_feed 61 = .ok (.getfield 10, 3)) hU ho (by decide) rfl rfl ?_
    have q_17 := H.1
    replace H := H.2
    refine pu_g0 hC fg_X11_67 (by decide +kernel : decode cX11_feed 64 = .ok (.getfield 67, 3)) hU q_17 (by decide) rfl rfl ?_
    exact pv_iret hM (by decide +kernel : decode cX11_feed 67 = .ok (.ireturn, 1)) hU H
  replace H := H.2 c_13
  refine pr_iconst hC (-1) (by decide +kernel : decode cX11_feed 16 = .ok (.iconst (-1), 1)) rfl ?_
  exact pv_iret hM (by decide +kernel : decode cX11_feed 17 = .ok (.ireturn, 1)) hU H
def w_X11_end (o : Nat) (a1 : Int32) (U : Um) (post : Int32 → Um → Prop) : Prop :=
  (a1 < 0 → post 0 U) ∧ (¬ a1 < 0 → oc (uR U o 0) = 7 ∧ (a1 ≤ (uI U (uR U o 0) 1) → oc (uR U o 0) = 7 ∧ ∀ (U_3 : Um), U_3 = sI U (uR U o 0) 1 a1 → post 1 U_3) ∧ (¬ a1 ≤ (uI U (uR U o 0) 1) → post 0 U))
set_option maxHeartbeats 4000000 in
theorem t_X11_end {l : Launch} {Y : px_Y} {o : Nat} {a1 : Int32} {U : Um} {post : Int32 → Um → Prop} (ho : oc o = 9) (H : w_X11_end o a1 U post) : um l Y 0 yX11_end cX11_end 2 (some (.boolean)) [.ref (Y.2.1 o), .int a1] U (pq_i post) := by
  unfold w_X11_end at H
  refine um_of (by decide) (Nat.le_of_ble_eq_true rfl) [some (.ref (Y.2.1 o)), some (.int a1)] rfl (fun X h0 hh sz hM hU => ?_)
  have hC := hM.1
  have hR := hM.2.2.1
  refine pr_iload_n hC (by decide +kernel : decode cX11_end 0 = .ok (.iload_n 1, 1)) rfl ?_
  refine pr_if_lt hC 15 (by decide +kernel : decode cX11_end 1 = .ok (.ifCond .lt 14, 3)) (by decide) (fun c_1 => ?_) (fun c_1 => ?_)
  · replace H := H.1 c_1
    refine pr_iconst hC (0) (by decide +kernel : decode cX11_end 15 = .ok (.iconst 0, 1)) rfl ?_
    exact pv_zret hM (by decide +kernel : decode cX11_end 16 = .ok (.ireturn, 1)) (Or.inl rfl) hU H
  replace H := H.2 c_1
  refine pr_iload_n hC (by decide +kernel : decode cX11_end 4 = .ok (.iload_n 1, 1)) rfl ?_
  refine pr_aload_n hC (by decide +kernel : decode cX11_end 5 = .ok (.aload_n 0, 1)) rfl ?_
  refine pu_g21 hC fg_X11_10 (by decide +kernel : decode cX11_end 6 = .ok (.getfield 10, 3)) hU ho (by decide) rfl rfl ?_
  have q_1 := H.1
  replace H := H.2
  refine pu_g0 hC fg_X11_67 (by decide +kernel : decode cX11_end 9 = .ok (.getfield 67, 3)) hU q_1 (by decide) rfl rfl ?_
  refine pr_icmp_le hC 17 (by decide +kernel : decode cX11_end 12 = .ok (.if_icmp .le 5, 3)) (by decide) (fun c_12 => ?_) (fun c_12 => ?_)
  · replace H := H.1 c_12
    refine pr_aload_n hC (by decide +kernel : decode cX11_end 17 = .ok (.aload_n 0, 1)) rfl ?_
    refine pu_g21 hC fg_X11_10 (by decide +kernel : decode cX11_end 18 = .ok (.getfield 10, 3)) hU ho (by decide) rfl rfl ?_
    have q_2 := H.1
    replace H := H.2
    refine pr_iload_n hC (by decide +kernel : decode cX11_end 21 = .ok (.iload_n 1, 1)) rfl ?_
    refine pv_p0 hC fp_X11_67 (by decide +kernel : decode cX11_end 22 = .ok (.putfield 67, 3)) hU q_2 (by decide) rfl rfl rfl rfl (fun U_3 h e_U_3 hU => ?_)
    replace H := H U_3 e_U_3
    refine pr_iconst hC (1) (by decide +kernel : decode cX11_end 25 = .ok (.iconst 1, 1)) rfl ?_
    exact pv_zret hM (by decide +kernel : decode cX11_end 26 = .ok (.ireturn, 1)) (Or.inr rfl) hU H
  replace H := H.2 c_12
  refine pr_iconst hC (0) (by decide +kernel : decode cX11_end 15 = .ok (.iconst 0, 1)) rfl ?_
  exact pv_zret hM (by decide +kernel : decode cX11_end 16 = .ok (.ireturn, 1)) (Or.inl rfl) hU H
def w_X11_week (o : Nat) (U : Um) (post : Int32 → Um → Prop) : Prop :=
  oc (uR U o 1) = 3 ∧ oc (uR U o 3) = 8 ∧ w_X4_readWeek (uR U o 1) (uR U o 3) U (fun r_4 U_3 => oc (uR U_3 o 0) = 7 ∧ ∀ (U_6 : Um), U_6 = sI U_3 (uR U_3 o 0) 1 0 → (r_4 = 0 → post (-1) U_6) ∧ (¬ r_4 = 0 → oc (uR U_6 o 2) = 8 ∧ oc (uR U_6 o 3) = 8 ∧ ∀ (U_9 : Um), U_9 = sR U_6 o 2 (uR U_6 o 3) → ∀ (U_10 : Um), U_10 = sR U_9 o 3 (uR U_6 o 2) → oc (uR U_10 o 4) = 5 ∧ oc (uR U_10 o 2) = 8 ∧ w_X6_open (uR U_10 o 4) (uR U_10 o 2) U_10 (fun U_13 => ∀ (U_15 : Um), U_15 = sI U_13 o 9 0 → oc (uR U_15 o 2) = 8 ∧ post (uI U_15 (uR U_15 o 2) 7) U_15)))
set_option maxHeartbeats 4000000 in
theorem t_X11_week {l : Launch} {Y : px_Y} {o : Nat} {U : Um} {post : Int32 → Um → Prop} (ho : oc o = 9) (H : w_X11_week o U post) : um l Y 21 yX11_week cX11_week 3 (some (.int)) [.ref (Y.2.1 o)] U (pq_i post) := by
  unfold w_X11_week at H
  refine um_of (by decide) (Nat.le_of_ble_eq_true rfl) [some (.ref (Y.2.1 o)), none, none] rfl (fun X h0 hh sz hM hU => ?_)
  have hC := hM.1
  have hR := hM.2.2.1
  refine pr_aload_n hC (by decide +kernel : decode cX11_week 0 = .ok (.aload_n 0, 1)) rfl ?_
  refine pu_g21 hC fg_X11_21 (by decide +kernel : decode cX11_week 1 = .ok (.getfield 21, 3)) hU ho (by decide) rfl rfl ?_
  have q_1 := H.1
  replace H := H.2
  refine pr_aload_n hC (by decide +kernel : decode cX11_week 4 = .ok (.aload_n 0, 1)) rfl ?_
  refine pu_g21 hC fg_X11_32 (by decide +kernel : decode cX11_week 5 = .ok (.getfield 32, 3)) hU ho (by decide) rfl rfl ?_
  have q_2 := H.1
  replace H := H.2
  refine vc_Vi hC hR [.ref (Y.2.1 (uR U o 3))] fv_X11_75 (by decide +kernel : decode cX11_week 8 = .ok (.invokevirtual 75, 3)) hU (t_X4_readWeek q_1 q_2 H) q_1 (by decide) rfl rfl rfl (Nat.le_of_ble_eq_true rfl) (Nat.le_of_ble_eq_true rfl) (Nat.le_refl 0) (Nat.le_refl 0) (fun r_4 U_3 h H hU => ?_)
  refine pr_istore_n hC (by decide +kernel : decode cX11_week 11 = .ok (.istore_n 1, 1)) (by decide) rfl ?_
  refine pr_aload_n hC (by decide +kernel : decode cX11_week 12 = .ok (.aload_n 0, 1)) rfl ?_
  refine pu_g21 hC fg_X11_10 (by decide +kernel : decode cX11_week 13 = .ok (.getfield 10, 3)) hU ho (by decide) rfl rfl ?_
  have q_5 := H.1
  replace H := H.2
  refine pr_iconst hC (0) (by decide +kernel : decode cX11_week 16 = .ok (.iconst 0, 1)) rfl ?_
  refine pv_p0 hC fp_X11_67 (by decide +kernel : decode cX11_week 17 = .ok (.putfield 67, 3)) hU q_5 (by decide) rfl rfl rfl rfl (fun U_6 h e_U_6 hU => ?_)
  replace H := H U_6 e_U_6
  refine pr_iload_n hC (by decide +kernel : decode cX11_week 20 = .ok (.iload_n 1, 1)) rfl ?_
  refine pr_if_ne hC 26 (by decide +kernel : decode cX11_week 21 = .ok (.ifCond .ne 5, 3)) (by decide) (fun c_21 => ?_) (fun c_21 => ?_)
  · replace H := H.2 c_21
    refine pr_aload_n hC (by decide +kernel : decode cX11_week 26 = .ok (.aload_n 0, 1)) rfl ?_
    refine pu_g21 hC fg_X11_28 (by decide +kernel : decode cX11_week 27 = .ok (.getfield 28, 3)) hU ho (by decide) rfl rfl ?_
    have q_7 := H.1
    replace H := H.2
    refine pr_astore_n hC (by decide +kernel : decode cX11_week 30 = .ok (.astore_n 2, 1)) (by decide) rfl ?_
    refine pr_aload_n hC (by decide +kernel : decode cX11_week 31 = .ok (.aload_n 0, 1)) rfl ?_
    refine pr_aload_n hC (by decide +kernel : decode cX11_week 32 = .ok (.aload_n 0, 1)) rfl ?_
    refine pu_g21 hC fg_X11_32 (by decide +kernel : decode cX11_week 33 = .ok (.getfield 32, 3)) hU ho (by decide) rfl rfl ?_
    have q_8 := H.1
    replace H := H.2
    refine pv_p21 hC fp_X11_28 (by decide +kernel : decode cX11_week 36 = .ok (.putfield 28, 3)) hU ho (by decide) rfl (Or.inl rfl) (fun _ => rfl) (fun _ => rfl) (fun U_9 h e_U_9 hU => ?_)
    replace H := H U_9 e_U_9
    refine pr_aload_n hC (by decide +kernel : decode cX11_week 39 = .ok (.aload_n 0, 1)) rfl ?_
    refine pr_aload_n hC (by decide +kernel : decode cX11_week 40 = .ok (.aload_n 2, 1)) rfl ?_
    refine pv_p21 hC fp_X11_32 (by decide +kernel : decode cX11_week 41 = .ok (.putfield 32, 3)) hU ho (by decide) rfl (Or.inl rfl) (fun _ => rfl) (fun _ => rfl) (fun U_10 h e_U_10 hU => ?_)
    replace H := H U_10 e_U_10
    refine pr_aload_n hC (by decide +kernel : decode cX11_week 44 = .ok (.aload_n 0, 1)) rfl ?_
    refine pu_g21 hC fg_X11_40 (by decide +kernel : decode cX11_week 45 = .ok (.getfield 40, 3)) hU ho (by decide) rfl rfl ?_
    have q_11 := H.1
    replace H := H.2
    refine pr_aload_n hC (by decide +kernel : decode cX11_week 48 = .ok (.aload_n 0, 1)) rfl ?_
    refine pu_g21 hC fg_X11_28 (by decide +kernel : decode cX11_week 49 = .ok (.getfield 28, 3)) hU ho (by decide) rfl rfl ?_
    have q_12 := H.1
    replace H := H.2
    refine vc_Vv hC hR [.ref (Y.2.1 (uR U_10 o 2))] fv_X11_79 (by decide +kernel : decode cX11_week 52 = .ok (.invokevirtual 79, 3)) hU (t_X6_open q_11 q_12 H) q_11 (by decide) rfl rfl rfl (Nat.le_of_ble_eq_true rfl) (Nat.le_of_ble_eq_true rfl) (Nat.le_refl 0) (Nat.le_refl 0) (fun U_13 h H hU => ?_)
    refine pr_aload_n hC (by decide +kernel : decode cX11_week 55 = .ok (.aload_n 0, 1)) rfl ?_
    refine pr_iconst hC (0) (by decide +kernel : decode cX11_week 56 = .ok (.iconst 0, 1)) rfl ?_
    refine pv_p0 hC fp_X11_82 (by decide +kernel : decode cX11_week 57 = .ok (.putfield 82, 3)) hU ho (by decide) rfl rfl rfl rfl (fun U_15 h e_U_15 hU => ?_)
    replace H := H U_15 e_U_15
    refine pr_aload_n hC (by decide +kernel : decode cX11_week 60 = .ok (.aload_n 0, 1)) rfl ?_
    refine pu_g21 hC fg_X11_28 (by decide +kernel : decode cX11_week 61 = .ok (.getfield 28, 3)) hU ho (by decide) rfl rfl ?_
    have q_16 := H.1
    replace H := H.2
    refine pu_g0 hC fg_X11_85 (by decide +kernel : decode cX11_week 64 = .ok (.getfield 85, 3)) hU q_16 (by decide) rfl rfl ?_
    exact pv_iret hM (by decide +kernel : decode cX11_week 67 = .ok (.ireturn, 1)) hU H
  replace H := H.1 c_21
  refine pr_iconst hC (-1) (by decide +kernel : decode cX11_week 24 = .ok (.iconst (-1), 1)) rfl ?_
  exact pv_iret hM (by decide +kernel : decode cX11_week 25 = .ok (.ireturn, 1)) hU H
def w_X11_fault (o : Nat) (a1 : Int32) (U : Um) (post : Int32 → Um → Prop) : Prop :=
  (a1 = 0 → oc (uR U o 1) = 3 ∧ post (uI U (uR U o 1) 2) U) ∧ (a1 = 1 → oc (uR U o 1) = 3 ∧ post (uI U (uR U o 1) 3) U) ∧ (¬ a1 = 0 → ¬ a1 = 1 → post (-1) U)
set_option maxHeartbeats 4000000 in
theorem t_X11_fault {l : Launch} {Y : px_Y} {o : Nat} {a1 : Int32} {U : Um} {post : Int32 → Um → Prop} (ho : oc o = 9) (H : w_X11_fault o a1 U post) : um l Y 0 yX11_fault cX11_fault 2 (some (.int)) [.ref (Y.2.1 o), .int a1] U (pq_i post) := by
  unfold w_X11_fault at H
  refine um_of (by decide) (Nat.le_of_ble_eq_true rfl) [some (.ref (Y.2.1 o)), some (.int a1)] rfl (fun X h0 hh sz hM hU => ?_)
  have hC := hM.1
  have hR := hM.2.2.1
  refine pr_iload_n hC (by decide +kernel : decode cX11_fault 0 = .ok (.iload_n 1, 1)) rfl ?_
  by_cases e_1_0 : a1 = 0
  · replace H := H.1 e_1_0
    refine pr_lookup hC 28 (by decide +kernel : decode cX11_fault 1 = .ok (.lookupswitch 43 #[(0, 27), (1, 35)], 27)) (by decide) (by rw [e_1_0] <;> rfl) (by decide) ?_
    refine pr_aload_n hC (by decide +kernel : decode cX11_fault 28 = .ok (.aload_n 0, 1)) rfl ?_
    refine pu_g21 hC fg_X11_21 (by decide +kernel : decode cX11_fault 29 = .ok (.getfield 21, 3)) hU ho (by decide) rfl rfl ?_
    have q_1 := H.1
    replace H := H.2
    refine pu_g0 hC fg_X11_88 (by decide +kernel : decode cX11_fault 32 = .ok (.getfield 88, 3)) hU q_1 (by decide) rfl rfl ?_
    exact pv_iret hM (by decide +kernel : decode cX11_fault 35 = .ok (.ireturn, 1)) hU H
  replace H := H.2
  by_cases e_1_1 : a1 = 1
  · replace H := H.1 e_1_1
    refine pr_lookup hC 36 (by decide +kernel : decode cX11_fault 1 = .ok (.lookupswitch 43 #[(0, 27), (1, 35)], 27)) (by decide) (by rw [e_1_1] <;> rfl) (by decide) ?_
    refine pr_aload_n hC (by decide +kernel : decode cX11_fault 36 = .ok (.aload_n 0, 1)) rfl ?_
    refine pu_g21 hC fg_X11_21 (by decide +kernel : decode cX11_fault 37 = .ok (.getfield 21, 3)) hU ho (by decide) rfl rfl ?_
    have q_2 := H.1
    replace H := H.2
    refine pu_g0 hC fg_X11_91 (by decide +kernel : decode cX11_fault 40 = .ok (.getfield 91, 3)) hU q_2 (by decide) rfl rfl ?_
    exact pv_iret hM (by decide +kernel : decode cX11_fault 43 = .ok (.ireturn, 1)) hU H
  replace H := H.2
  replace H := H e_1_0 e_1_1
  refine pr_lookup hC 44 (by decide +kernel : decode cX11_fault 1 = .ok (.lookupswitch 43 #[(0, 27), (1, 35)], 27)) (by decide) (pv_look01 e_1_0 e_1_1) (by decide) ?_
  refine pr_iconst hC (-1) (by decide +kernel : decode cX11_fault 44 = .ok (.iconst (-1), 1)) rfl ?_
  exact pv_iret hM (by decide +kernel : decode cX11_fault 45 = .ok (.ireturn, 1)) hU H
def w_X11_has (o : Nat) (a1 : Int32) (U : Um) (post : Int32 → Um → Prop) : Prop :=
  (¬ a1 = 0 → ¬ a1 = 1 → ¬ a1 = 2 → ¬ a1 = 3 → ¬ a1 = 4 → ¬ a1 = 5 → ¬ a1 = 6 → ¬ a1 = 7 → ¬ a1 = 8 → ¬ a1 = 9 → ¬ a1 = 10 → post (-2) U) ∧ (a1 = 0 → oc (uR U o 2) = 8 ∧ vp_in 0 3 ∧ post (uA U (uR U o 2) 1 (Int32.toNatClampNeg 0)) U) ∧ (a1 = 1 → oc (uR U o 2) = 8 ∧ vp_in 1 3 ∧ post (uA U (uR U o 2) 1 (Int32.toNatClampNeg 1)) U) ∧ (a1 = 2 → oc (uR U o 2) = 8 ∧ vp_in 2 3 ∧ post (uA U (uR U o 2) 1 (Int32.toNatClampNeg 2)) U) ∧ (a1 = 3 → oc (uR U o 2) = 8 ∧ post (uI U (uR U o 2) 7) U) ∧ (a1 = 4 → oc (uR U o 2) = 8 ∧ post (uI U (uR U o 2) 8) U) ∧ (a1 = 5 → oc (uR U o 2) = 8 ∧ post (uI U (uR U o 2) 9) U) ∧ (a1 = 6 → oc (uR U o 4) = 5 ∧ post (uI U (uR U o 4) 1) U) ∧ (a1 = 7 → oc (uR U o 2) = 8 ∧ w_X9_seatCount (uR U o 2) U (fun r_10 U_9 => post r_10 U_9)) ∧ (a1 = 8 → oc (uR U o 4) = 5 ∧ w_X6_takenCount (uR U o 4) U (fun r_13 U_12 => post r_13 U_12)) ∧ (a1 = 9 → post (uI U o 9) U) ∧ (a1 = 10 → oc (uR U o 0) = 7 ∧ post (uI U (uR U o 0) 1) U)
set_option maxHeartbeats 4000000 in
theorem t_X11_has {l : Launch} {Y : px_Y} {o : Nat} {a1 : Int32} {U : Um} {post : Int32 → Um → Prop} (ho : oc o = 9) (H : w_X11_has o a1 U post) : um l Y 2 yX11_has cX11_has 2 (some (.int)) [.ref (Y.2.1 o), .int a1] U (pq_i post) := by
  unfold w_X11_has at H
  refine um_of (by decide) (Nat.le_of_ble_eq_true rfl) [some (.ref (Y.2.1 o)), some (.int a1)] rfl (fun X h0 hh sz hM hU => ?_)
  have hC := hM.1
  have hR := hM.2.2.1
  refine pr_iload_n hC (by decide +kernel : decode cX11_has 0 = .ok (.iload_n 1, 1)) rfl ?_
  refine pv_table hC (by decide +kernel : decode cX11_has 1 = .ok (.tableswitch 150 0 10 #[59, 69, 79, 89, 97, 105, 113, 121, 129, 137, 142], 59)) 151 (by decide) (fun hq => ?_) (fun hq => ?_)
  · replace H := H.1 (fun e => absurd hq (by rw [e]; decide)) (fun e => absurd hq (by rw [e]; decide)) (fun e => absurd hq (by rw [e]; decide)) (fun e => absurd hq (by rw [e]; decide)) (fun e => absurd hq (by rw [e]; decide)) (fun e => absurd hq (by rw [e]; decide)) (fun e => absurd hq (by rw [e]; decide)) (fun e => absurd hq (by rw [e]; decide)) (fun e => absurd hq (by rw [e]; decide)) (fun e => absurd hq (by rw [e]; decide)) (fun e => absurd hq (by rw [e]; decide))
    refine pr_bipush hC (-2) (by decide +kernel : decode cX11_has 151 = .ok (.bipush (-2), 2)) rfl ?_
    exact pv_iret hM (by decide +kernel : decode cX11_has 153 = .ok (.ireturn, 1)) hU H
  · replace H := H.2
    rcases (show Int32.toInt a1 = 0 ∨ Int32.toInt a1 = 1 ∨ Int32.toInt a1 = 2 ∨ Int32.toInt a1 = 3 ∨ Int32.toInt a1 = 4 ∨ Int32.toInt a1 = 5 ∨ Int32.toInt a1 = 6 ∨ Int32.toInt a1 = 7 ∨ Int32.toInt a1 = 8 ∨ Int32.toInt a1 = 9 ∨ Int32.toInt a1 = 10 from by omega) with hq | hq | hq | hq | hq | hq | hq | hq | hq | hq | hq
    · have e_1 : a1 = 0 := Int32.toInt_inj.mp (hq.trans (by decide))
      replace H := H.1 e_1
      refine ⟨59, 60, by rw [hq]; rfl, by decide, ?_⟩
      refine pr_aload_n hC (by decide +kernel : decode cX11_has 60 = .ok (.aload_n 0, 1)) rfl ?_
      refine pu_g21 hC fg_X11_28 (by decide +kernel : decode cX11_has 61 = .ok (.getfield 28, 3)) hU ho (by decide) rfl rfl ?_
      have q_1 := H.1
      replace H := H.2
      refine pu_g1 hC fg_X11_94 (by decide +kernel : decode cX11_has 64 = .ok (.getfield 94, 3)) hU q_1 (by decide) rfl (by decide) ?_
      refine pr_iconst hC (0) (by decide +kernel : decode cX11_has 67 = .ok (.iconst 0, 1)) rfl ?_
      refine pu_iald hC (by decide +kernel : decode cX11_has 68 = .ok (.iaload, 1)) hU q_1 rfl H.1 ?_
      replace H := H.2
      exact pv_iret hM (by decide +kernel : decode cX11_has 69 = .ok (.ireturn, 1)) hU H
    · have e_1 : a1 = 1 := Int32.toInt_inj.mp (hq.trans (by decide))
      replace H := H.2.1 e_1
      refine ⟨69, 70, by rw [hq]; rfl, by decide, ?_⟩
      refine pr_aload_n hC (by decide +kernel : decode cX11_has 70 = .ok (.aload_n 0, 1)) rfl ?_
      refine pu_g21 hC fg_X11_28 (by decide +kernel : decode cX11_has 71 = .ok (.getfield 28, 3)) hU ho (by decide) rfl rfl ?_
      have q_2 := H.1
      replace H := H.2
      refine pu_g1 hC fg_X11_94 (by decide +kernel : decode cX11_has 74 = .ok (.getfield 94, 3)) hU q_2 (by decide) rfl (by decide) ?_
      refine pr_iconst hC (1) (by decide +kernel : decode cX11_has 77 = .ok (.iconst 1, 1)) rfl ?_
      refine pu_iald hC (by decide +kernel : decode cX11_has 78 = .ok (.iaload, 1)) hU q_2 rfl H.1 ?_
      replace H := H.2
      exact pv_iret hM (by decide +kernel : decode cX11_has 79 = .ok (.ireturn, 1)) hU H
    · have e_1 : a1 = 2 := Int32.toInt_inj.mp (hq.trans (by decide))
      replace H := H.2.2.1 e_1
      refine ⟨79, 80, by rw [hq]; rfl, by decide, ?_⟩
      refine pr_aload_n hC (by decide +kernel : decode cX11_has 80 = .ok (.aload_n 0, 1)) rfl ?_
      refine pu_g21 hC fg_X11_28 (by decide +kernel : decode cX11_has 81 = .ok (.getfield 28, 3)) hU ho (by decide) rfl rfl ?_
      have q_3 := H.1
      replace H := H.2
      refine pu_g1 hC fg_X11_94 (by decide +kernel : decode cX11_has 84 = .ok (.getfield 94, 3)) hU q_3 (by decide) rfl (by decide) ?_
      refine pr_iconst hC (2) (by decide +kernel : decode cX11_has 87 = .ok (.iconst 2, 1)) rfl ?_
      refine pu_iald hC (by decide +kernel : decode cX11_has 88 = .ok (.iaload, 1)) hU q_3 rfl H.1 ?_
      replace H := H.2
      exact pv_iret hM (by decide +kernel : decode cX11_has 89 = .ok (.ireturn, 1)) hU H
    · have e_1 : a1 = 3 := Int32.toInt_inj.mp (hq.trans (by decide))
      replace H := H.2.2.2.1 e_1
      refine ⟨89, 90, by rw [hq]; rfl, by decide, ?_⟩
      refine pr_aload_n hC (by decide +kernel : decode cX11_has 90 = .ok (.aload_n 0, 1)) rfl ?_
      refine pu_g21 hC fg_X11_28 (by decide +kernel : decode cX11_has 91 = .ok (.getfield 28, 3)) hU ho (by decide) rfl rfl ?_
      have q_4 := H.1
      replace H := H.2
      refine pu_g0 hC fg_X11_85 (by decide +kernel : decode cX11_has 94 = .ok (.getfield 85, 3)) hU q_4 (by decide) rfl rfl ?_
      exact pv_iret hM (by decide +kernel : decode cX11_has 97 = .ok (.ireturn, 1)) hU H
    · have e_1 : a1 = 4 := Int32.toInt_inj.mp (hq.trans (by decide))
      replace H := H.2.2.2.2.1 e_1
      refine ⟨97, 98, by rw [hq]; rfl, by decide, ?_⟩
      refine pr_aload_n hC (by decide +kernel : decode cX11_has 98 = .ok (.aload_n 0, 1)) rfl ?_
      refine pu_g21 hC fg_X11_28 (by decide +kernel : decode cX11_has 99 = .ok (.getfield 28, 3)) hU ho (by decide) rfl rfl ?_
      have q_5 := H.1
      replace H := H.2
      refine pu_g0 hC fg_X11_98 (by decide +kernel : decode cX11_has 102 = .ok (.getfield 98, 3)) hU q_5 (by decide) rfl rfl ?_
      exact pv_iret hM (by decide +kernel : decode cX11_has 105 = .ok (.ireturn, 1)) hU H
    · have e_1 : a1 = 5 := Int32.toInt_inj.mp (hq.trans (by decide))
      replace H := H.2.2.2.2.2.1 e_1
      refine ⟨105, 106, by rw [hq]; rfl, by decide, ?_⟩
      refine pr_aload_n hC (by decide +kernel : decode cX11_has 106 = .ok (.aload_n 0, 1)) rfl ?_
      refine pu_g21 hC fg_X11_28 (by decide +kernel : decode cX11_has 107 = .ok (.getfield 28, 3)) hU ho (by decide) rfl rfl ?_
      have q_6 := H.1
      replace H := H.2
      refine pu_g0 hC fg_X11_101 (by decide +kernel : decode cX11_has 110 = .ok (.getfield 101, 3)) hU q_6 (by decide) rfl rfl ?_
      exact pv_iret hM (by decide +kernel : decode cX11_has 113 = .ok (.ireturn, 1)) hU H
    · have e_1 : a1 = 6 := Int32.toInt_inj.mp (hq.trans (by decide))
      replace H := H.2.2.2.2.2.2.1 e_1
      refine ⟨113, 114, by rw [hq]; rfl, by decide, ?_⟩
      refine pr_aload_n hC (by decide +kernel : decode cX11_has 114 = .ok (.aload_n 0, 1)) rfl ?_
      refine pu_g21 hC fg_X11_40 (by decide +kernel : decode cX11_has 115 = .ok (.getfield 40, 3)) hU ho (by decide) rfl rfl ?_
      have q_7 := H.1
      replace H := H.2
      refine pu_g0 hC fg_X11_104 (by decide +kernel : decode cX11_has 118 = .ok (.getfield 104, 3)) hU q_7 (by decide) rfl rfl ?_
      exact pv_iret hM (by decide +kernel : decode cX11_has 121 = .ok (.ireturn, 1)) hU H
    · have e_1 : a1 = 7 := Int32.toInt_inj.mp (hq.trans (by decide))
      replace H := H.2.2.2.2.2.2.2.1 e_1
      refine ⟨121, 122, by rw [hq]; rfl, by decide, ?_⟩
      refine pr_aload_n hC (by decide +kernel : decode cX11_has 122 = .ok (.aload_n 0, 1)) rfl ?_
      refine pu_g21 hC fg_X11_28 (by decide +kernel : decode cX11_has 123 = .ok (.getfield 28, 3)) hU ho (by decide) rfl rfl ?_
      have q_8 := H.1
      replace H := H.2
      refine vc_Vi hC hR [] fv_X11_107 (by decide +kernel : decode cX11_has 126 = .ok (.invokevirtual 107, 3)) hU (t_X9_seatCount q_8 H) q_8 (by decide) rfl rfl rfl (Nat.le_of_ble_eq_true rfl) (Nat.le_of_ble_eq_true rfl) (Nat.le_refl 0) (Nat.le_refl 0) (fun r_10 U_9 h H hU => ?_)
      exact pv_iret hM (by decide +kernel : decode cX11_has 129 = .ok (.ireturn, 1)) hU H
    · have e_1 : a1 = 8 := Int32.toInt_inj.mp (hq.trans (by decide))
      replace H := H.2.2.2.2.2.2.2.2.1 e_1
      refine ⟨129, 130, by rw [hq]; rfl, by decide, ?_⟩
      refine pr_aload_n hC (by decide +kernel : decode cX11_has 130 = .ok (.aload_n 0, 1)) rfl ?_
      refine pu_g21 hC fg_X11_40 (by decide +kernel : decode cX11_has 131 = .ok (.getfield 40, 3)) hU ho (by decide) rfl rfl ?_
      have q_11 := H.1
      replace H := H.2
      refine vc_Vi hC hR [] fv_X11_111 (by decide +kernel : decode cX11_has 134 = .ok (.invokevirtual 111, 3)) hU (t_X6_takenCount q_11 H) q_11 (by decide) rfl rfl rfl (Nat.le_of_ble_eq_true rfl) (Nat.le_of_ble_eq_true rfl) (Nat.le_refl 0) (Nat.le_refl 0) (fun r_13 U_12 h H hU => ?_)
      exact pv_iret hM (by decide +kernel : decode cX11_has 137 = .ok (.ireturn, 1)) hU H
    · have e_1 : a1 = 9 := Int32.toInt_inj.mp (hq.trans (by decide))
      replace H := H.2.2.2.2.2.2.2.2.2.1 e_1
      refine ⟨137, 138, by rw [hq]; rfl, by decide, ?_⟩
      refine pr_aload_n hC (by decide +kernel : decode cX11_has 138 = .ok (.aload_n 0, 1)) rfl ?_
      refine pu_g0 hC fg_X11_82 (by decide +kernel : decode cX11_has 139 = .ok (.getfield 82, 3)) hU ho (by decide) rfl rfl ?_
      exact pv_iret hM (by decide +kernel : decode cX11_has 142 = .ok (.ireturn, 1)) hU H
    · have e_1 : a1 = 10 := Int32.toInt_inj.mp (hq.trans (by decide))
      replace H := H.2.2.2.2.2.2.2.2.2.2 e_1
      refine ⟨142, 143, by rw [hq]; rfl, by decide, ?_⟩
      refine pr_aload_n hC (by decide +kernel : decode cX11_has 143 = .ok (.aload_n 0, 1)) rfl ?_
      refine pu_g21 hC fg_X11_10 (by decide +kernel : decode cX11_has 144 = .ok (.getfield 10, 3)) hU ho (by decide) rfl rfl ?_
      have q_14 := H.1
      replace H := H.2
      refine pu_g0 hC fg_X11_67 (by decide +kernel : decode cX11_has 147 = .ok (.getfield 67, 3)) hU q_14 (by decide) rfl rfl ?_
      exact pv_iret hM (by decide +kernel : decode cX11_has 150 = .ok (.ireturn, 1)) hU H
def w_X11_letter (o : Nat) (a1 : Int32) (a2 : Int32) (a3 : Int32) (U : Um) (post : Int32 → Um → Prop) : Prop :=
  (a1 < 0 → post (-1) U) ∧ (¬ a1 < 0 → ((2 : Int32) < a1 → post (-1) U) ∧ (¬ (2 : Int32) < a1 → oc (uR U o 2) = 8 ∧ w_X9_isNamed (uR U o 2) a1 a2 U (fun r_3 U_2 => (r_3 = 0 → post (-1) U_2) ∧ (¬ r_3 = 0 → oc (uR U_2 o 2) = 8 ∧ vp_in a1 3 ∧ vp_in a2 10 ∧ w_X8_letterOf (uA U_2 (uR U_2 o 2) (ki 0 (Int32.toNatClampNeg a1)) (Int32.toNatClampNeg a2)) a3 U_2 (fun r_7 U_6 => post r_7 U_6)))))
set_option maxHeartbeats 4000000 in
theorem t_X11_letter {l : Launch} {Y : px_Y} {o : Nat} {a1 : Int32} {a2 : Int32} {a3 : Int32} {U : Um} {post : Int32 → Um → Prop} (ho : oc o = 9) (H : w_X11_letter o a1 a2 a3 U post) : um l Y 1 yX11_letter cX11_letter 4 (some (.int)) [.ref (Y.2.1 o), .int a1, .int a2, .int a3] U (pq_i post) := by
  unfold w_X11_letter at H
  refine um_of (by decide) (Nat.le_of_ble_eq_true rfl) [some (.ref (Y.2.1 o)), some (.int a1), some (.int a2), some (.int a3)] rfl (fun X h0 hh sz hM hU => ?_)
  have hC := hM.1
  have hR := hM.2.2.1
  refine pr_iload_n hC (by decide +kernel : decode cX11_letter 0 = .ok (.iload_n 1, 1)) rfl ?_
  refine pr_if_lt hC 21 (by decide +kernel : decode cX11_letter 1 = .ok (.ifCond .lt 20, 3)) (by decide) (fun c_1 => ?_) (fun c_1 => ?_)
  · replace H := H.1 c_1
    refine pr_iconst hC (-1) (by decide +kernel : decode cX11_letter 21 = .ok (.iconst (-1), 1)) rfl ?_
    exact pv_iret hM (by decide +kernel : decode cX11_letter 22 = .ok (.ireturn, 1)) hU H
  replace H := H.2 c_1
  refine pr_iload_n hC (by decide +kernel : decode cX11_letter 4 = .ok (.iload_n 1, 1)) rfl ?_
  refine pr_iconst hC (2) (by decide +kernel : decode cX11_letter 5 = .ok (.iconst 2, 1)) rfl ?_
  refine pr_icmp_gt hC 21 (by decide +kernel : decode cX11_letter 6 = .ok (.if_icmp .gt 15, 3)) (by decide) (fun c_6 => ?_) (fun c_6 => ?_)
  · replace H := H.1 c_6
    refine pr_iconst hC (-1) (by decide +kernel : decode cX11_letter 21 = .ok (.iconst (-1), 1)) rfl ?_
    exact pv_iret hM (by decide +kernel : decode cX11_letter 22 = .ok (.ireturn, 1)) hU H
  replace H := H.2 c_6
  refine pr_aload_n hC (by decide +kernel : decode cX11_letter 9 = .ok (.aload_n 0, 1)) rfl ?_
  refine pu_g21 hC fg_X11_28 (by decide +kernel : decode cX11_letter 10 = .ok (.getfield 28, 3)) hU ho (by decide) rfl rfl ?_
  have q_1 := H.1
  replace H := H.2
  refine pr_iload_n hC (by decide +kernel : decode cX11_letter 13 = .ok (.iload_n 1, 1)) rfl ?_
  refine pr_iload_n hC (by decide +kernel : decode cX11_letter 14 = .ok (.iload_n 2, 1)) rfl ?_
  refine vc_Vi hC hR [.int a1, .int a2] fv_X11_114 (by decide +kernel : decode cX11_letter 15 = .ok (.invokevirtual 114, 3)) hU (t_X9_isNamed q_1 H) q_1 (by decide) rfl rfl rfl (Nat.le_of_ble_eq_true rfl) (Nat.le_of_ble_eq_true rfl) (Nat.le_refl 0) (Nat.le_refl 0) (fun r_3 U_2 h H hU => ?_)
  refine pr_if_ne hC 23 (by decide +kernel : decode cX11_letter 18 = .ok (.ifCond .ne 5, 3)) (by decide) (fun c_18 => ?_) (fun c_18 => ?_)
  · replace H := H.2 c_18
    refine pr_aload_n hC (by decide +kernel : decode cX11_letter 23 = .ok (.aload_n 0, 1)) rfl ?_
    refine pu_g21 hC fg_X11_28 (by decide +kernel : decode cX11_letter 24 = .ok (.getfield 28, 3)) hU ho (by decide) rfl rfl ?_
    have q_4 := H.1
    replace H := H.2
    refine pu_g1 hC fg_X11_118 (by decide +kernel : decode cX11_letter 27 = .ok (.getfield 118, 3)) hU q_4 (by decide) rfl (by decide) ?_
    refine pr_iload_n hC (by decide +kernel : decode cX11_letter 30 = .ok (.iload_n 1, 1)) rfl ?_
    have q_5 := H.1
    replace H := H.2
    refine pu_aald6 hC (by decide +kernel : decode cX11_letter 31 = .ok (.aaload, 1)) hU q_4 rfl q_5 ?_
    refine pr_iload_n hC (by decide +kernel : decode cX11_letter 32 = .ok (.iload_n 2, 1)) rfl ?_
    refine pu_iald7 hC (by decide +kernel : decode cX11_letter 33 = .ok (.iaload, 1)) hU q_4 rfl (vp_lt q_5) H.1 ?_
    replace H := H.2
    refine pr_iload_n hC (by decide +kernel : decode cX11_letter 34 = .ok (.iload_n 3, 1)) rfl ?_
    refine vc_Si hC hR [.int (uA U_2 (uR U_2 o 2) (ki 0 (Int32.toNatClampNeg a1)) (Int32.toNatClampNeg a2)), .int a3] fv_X11_122 (by decide +kernel : decode cX11_letter 35 = .ok (.invokestatic 122, 3)) hU (t_X8_letterOf  H) rfl rfl (Nat.le_of_ble_eq_true rfl) (Nat.le_of_ble_eq_true rfl) (Nat.le_refl 0) (Nat.le_refl 0) (fun r_7 U_6 h H hU => ?_)
    exact pv_iret hM (by decide +kernel : decode cX11_letter 38 = .ok (.ireturn, 1)) hU H
  replace H := H.1 c_18
  refine pr_iconst hC (-1) (by decide +kernel : decode cX11_letter 21 = .ok (.iconst (-1), 1)) rfl ?_
  exact pv_iret hM (by decide +kernel : decode cX11_letter 22 = .ok (.ireturn, 1)) hU H
def w_X11_one (o : Nat) (a1 : Int32) (a2 : Int32) (U : Um) (post : Int32 → Um → Prop) : Prop :=
  oc (uR U o 2) = 8 ∧ w_X9_isNamed (uR U o 2) 2 a1 U (fun r_3 U_2 => (r_3 = 0 → post (-2) U_2) ∧ (¬ r_3 = 0 → (¬ a2 = 0 → ¬ a2 = 1 → ¬ a2 = 2 → ¬ a2 = 3 → ¬ a2 = 4 → ¬ a2 = 5 → ¬ a2 = 6 → post (-2) U_2) ∧ (a2 = 0 → oc (uR U_2 o 4) = 5 ∧ vp_in a1 10 ∧ post (uA U_2 (uR U_2 o 4) 4 (Int32.toNatClampNeg a1)) U_2) ∧ (a2 = 1 → oc (uR U_2 o 2) = 8 ∧ vp_in a1 10 ∧ post (uA U_2 (uR U_2 o 2) 3 (Int32.toNatClampNeg a1)) U_2) ∧ (a2 = 2 → oc (uR U_2 o 2) = 8 ∧ vp_in a1 10 ∧ post (uA U_2 (uR U_2 o 2) 4 (Int32.toNatClampNeg a1)) U_2) ∧ (a2 = 3 → oc (uR U_2 o 2) = 8 ∧ vp_in a1 10 ∧ post (uA U_2 (uR U_2 o 2) 5 (Int32.toNatClampNeg a1)) U_2) ∧ (a2 = 4 → oc (uR U_2 o 4) = 5 ∧ vp_in a1 10 ∧ post (uA U_2 (uR U_2 o 4) 6 (Int32.toNatClampNeg a1)) U_2) ∧ (a2 = 5 → oc (uR U_2 o 4) = 5 ∧ vp_in a1 10 ∧ post (FP.f2i (uF U_2 (uR U_2 o 4) 5 (Int32.toNatClampNeg a1))) U_2) ∧ (a2 = 6 → oc (uR U_2 o 4) = 5 ∧ vp_in a1 10 ∧ w_J6_bitCount_0f7a4 (uA U_2 (uR U_2 o 4) 7 (Int32.toNatClampNeg a1)) U_2 (fun r_12 U_11 => post r_12 U_11))))
set_option maxHeartbeats 4000000 in
theorem t_X11_one {l : Launch} {Y : px_Y} {o : Nat} {a1 : Int32} {a2 : Int32} {U : Um} {post : Int32 → Um → Prop} (ho : oc o = 9) (H : w_X11_one o a1 a2 U post) : um l Y 1 yX11_one cX11_one 3 (some (.int)) [.ref (Y.2.1 o), .int a1, .int a2] U (pq_i post) := by
  unfold w_X11_one at H
  refine um_of (by decide) (Nat.le_of_ble_eq_true rfl) [some (.ref (Y.2.1 o)), some (.int a1), some (.int a2)] rfl (fun X h0 hh sz hM hU => ?_)
  have hC := hM.1
  have hR := hM.2.2.1
  refine pr_aload_n hC (by decide +kernel : decode cX11_one 0 = .ok (.aload_n 0, 1)) rfl ?_
  refine pu_g21 hC fg_X11_28 (by decide +kernel : decode cX11_one 1 = .ok (.getfield 28, 3)) hU ho (by decide) rfl rfl ?_
  have q_1 := H.1
  replace H := H.2
  refine pr_iconst hC (2) (by decide +kernel : decode cX11_one 4 = .ok (.iconst 2, 1)) rfl ?_
  refine pr_iload_n hC (by decide +kernel : decode cX11_one 5 = .ok (.iload_n 1, 1)) rfl ?_
  refine vc_Vi hC hR [.int 2, .int a1] fv_X11_114 (by decide +kernel : decode cX11_one 6 = .ok (.invokevirtual 114, 3)) hU (t_X9_isNamed q_1 H) q_1 (by decide) rfl rfl rfl (Nat.le_of_ble_eq_true rfl) (Nat.le_of_ble_eq_true rfl) (Nat.le_refl 0) (Nat.le_refl 0) (fun r_3 U_2 h H hU => ?_)
  refine pr_if_ne hC 15 (by decide +kernel : decode cX11_one 9 = .ok (.ifCond .ne 6, 3)) (by decide) (fun c_9 => ?_) (fun c_9 => ?_)
  · replace H := H.2 c_9
    refine pr_iload_n hC (by decide +kernel : decode cX11_one 15 = .ok (.iload_n 2, 1)) rfl ?_
    refine pv_table hC (by decide +kernel : decode cX11_one 16 = .ok (.tableswitch 118 0 6 #[44, 54, 64, 74, 84, 94, 105], 44)) 134 (by decide) (fun hq => ?_) (fun hq => ?_)
    · replace H := H.1 (fun e => absurd hq (by rw [e]; decide)) (fun e => absurd hq (by rw [e]; decide)) (fun e => absurd hq (by rw [e]; decide)) (fun e => absurd hq (by rw [e]; decide)) (fun e => absurd hq (by rw [e]; decide)) (fun e => absurd hq (by rw [e]; decide)) (fun e => absurd hq (by rw [e]; decide))
      refine pr_bipush hC (-2) (by decide +kernel : decode cX11_one 134 = .ok (.bipush (-2), 2)) rfl ?_
      exact pv_iret hM (by decide +kernel : decode cX11_one 136 = .ok (.ireturn, 1)) hU H
    · replace H := H.2
      rcases (show Int32.toInt a2 = 0 ∨ Int32.toInt a2 = 1 ∨ Int32.toInt a2 = 2 ∨ Int32.toInt a2 = 3 ∨ Int32.toInt a2 = 4 ∨ Int32.toInt a2 = 5 ∨ Int32.toInt a2 = 6 from by omega) with hq | hq | hq | hq | hq | hq | hq
      · have e_16 : a2 = 0 := Int32.toInt_inj.mp (hq.trans (by decide))
        replace H := H.1 e_16
        refine ⟨44, 60, by rw [hq]; rfl, by decide, ?_⟩
        refine pr_aload_n hC (by decide +kernel : decode cX11_one 60 = .ok (.aload_n 0, 1)) rfl ?_
        refine pu_g21 hC fg_X11_40 (by decide +kernel : decode cX11_one 61 = .ok (.getfield 40, 3)) hU ho (by decide) rfl rfl ?_
        have q_4 := H.1
        replace H := H.2
        refine pu_g1 hC fg_X11_126 (by decide +kernel : decode cX11_one 64 = .ok (.getfield 126, 3)) hU q_4 (by decide) rfl (by decide) ?_
        refine pr_iload_n hC (by decide +kernel : decode cX11_one 67 = .ok (.iload_n 1, 1)) rfl ?_
        refine pu_iald hC (by decide +kernel : decode cX11_one 68 = .ok (.iaload, 1)) hU q_4 rfl H.1 ?_
        replace H := H.2
        exact pv_iret hM (by decide +kernel : decode cX11_one 69 = .ok (.ireturn, 1)) hU H
      · have e_16 : a2 = 1 := Int32.toInt_inj.mp (hq.trans (by decide))
        replace H := H.2.1 e_16
        refine ⟨54, 70, by rw [hq]; rfl, by decide, ?_⟩
        refine pr_aload_n hC (by decide +kernel : decode cX11_one 70 = .ok (.aload_n 0, 1)) rfl ?_
        refine pu_g21 hC fg_X11_28 (by decide +kernel : decode cX11_one 71 = .ok (.getfield 28, 3)) hU ho (by decide) rfl rfl ?_
        have q_5 := H.1
        replace H := H.2
        refine pu_g1 hC fg_X11_129 (by decide +kernel : decode cX11_one 74 = .ok (.getfield 129, 3)) hU q_5 (by decide) rfl (by decide) ?_
        refine pr_iload_n hC (by decide +kernel : decode cX11_one 77 = .ok (.iload_n 1, 1)) rfl ?_
        refine pu_iald hC (by decide +kernel : decode cX11_one 78 = .ok (.iaload, 1)) hU q_5 rfl H.1 ?_
        replace H := H.2
        exact pv_iret hM (by decide +kernel : decode cX11_one 79 = .ok (.ireturn, 1)) hU H
      · have e_16 : a2 = 2 := Int32.toInt_inj.mp (hq.trans (by decide))
        replace H := H.2.2.1 e_16
        refine ⟨64, 80, by rw [hq]; rfl, by decide, ?_⟩
        refine pr_aload_n hC (by decide +kernel : decode cX11_one 80 = .ok (.aload_n 0, 1)) rfl ?_
        refine pu_g21 hC fg_X11_28 (by decide +kernel : decode cX11_one 81 = .ok (.getfield 28, 3)) hU ho (by decide) rfl rfl ?_
        have q_6 := H.1
        replace H := H.2
        refine pu_g1 hC fg_X11_132 (by decide +kernel : decode cX11_one 84 = .ok (.getfield 132, 3)) hU q_6 (by decide) rfl (by decide) ?_
        refine pr_iload_n hC (by decide +kernel : decode cX11_one 87 = .ok (.iload_n 1, 1)) rfl ?_
        refine pu_iald hC (by decide +kernel : decode cX11_one 88 = .ok (.iaload, 1)) hU q_6 rfl H.1 ?_
        replace H := H.2
        exact pv_iret hM (by decide +kernel : decode cX11_one 89 = .ok (.ireturn, 1)) hU H
      · have e_16 : a2 = 3 := Int32.toInt_inj.mp (hq.trans (by decide))
        replace H := H.2.2.2.1 e_16
        refine ⟨74, 90, by rw [hq]; rfl, by decide, ?_⟩
        refine pr_aload_n hC (by decide +kernel : decode cX11_one 90 = .ok (.aload_n 0, 1)) rfl ?_
        refine pu_g21 hC fg_X11_28 (by decide +kernel : decode cX11_one 91 = .ok (.getfield 28, 3)) hU ho (by decide) rfl rfl ?_
        have q_7 := H.1
        replace H := H.2
        refine pu_g1 hC fg_X11_135 (by decide +kernel : decode cX11_one 94 = .ok (.getfield 135, 3)) hU q_7 (by decide) rfl (by decide) ?_
        refine pr_iload_n hC (by decide +kernel : decode cX11_one 97 = .ok (.iload_n 1, 1)) rfl ?_
        refine pu_iald hC (by decide +kernel : decode cX11_one 98 = .ok (.iaload, 1)) hU q_7 rfl H.1 ?_
        replace H := H.2
        exact pv_iret hM (by decide +kernel : decode cX11_one 99 = .ok (.ireturn, 1)) hU H
      · have e_16 : a2 = 4 := Int32.toInt_inj.mp (hq.trans (by decide))
        replace H := H.2.2.2.2.1 e_16
        refine ⟨84, 100, by rw [hq]; rfl, by decide, ?_⟩
        refine pr_aload_n hC (by decide +kernel : decode cX11_one 100 = .ok (.aload_n 0, 1)) rfl ?_
        refine pu_g21 hC fg_X11_40 (by decide +kernel : decode cX11_one 101 = .ok (.getfield 40, 3)) hU ho (by decide) rfl rfl ?_
        have q_8 := H.1
        replace H := H.2
        refine pu_g1 hC fg_X11_138 (by decide +kernel : decode cX11_one 104 = .ok (.getfield 138, 3)) hU q_8 (by decide) rfl (by decide) ?_
        refine pr_iload_n hC (by decide +kernel : decode cX11_one 107 = .ok (.iload_n 1, 1)) rfl ?_
        refine pu_iald hC (by decide +kernel : decode cX11_one 108 = .ok (.iaload, 1)) hU q_8 rfl H.1 ?_
        replace H := H.2
        exact pv_iret hM (by decide +kernel : decode cX11_one 109 = .ok (.ireturn, 1)) hU H
      · have e_16 : a2 = 5 := Int32.toInt_inj.mp (hq.trans (by decide))
        replace H := H.2.2.2.2.2.1 e_16
        refine ⟨94, 110, by rw [hq]; rfl, by decide, ?_⟩
        refine pr_aload_n hC (by decide +kernel : decode cX11_one 110 = .ok (.aload_n 0, 1)) rfl ?_
        refine pu_g21 hC fg_X11_40 (by decide +kernel : decode cX11_one 111 = .ok (.getfield 40, 3)) hU ho (by decide) rfl rfl ?_
        have q_9 := H.1
        replace H := H.2
        refine pu_g1 hC fg_X11_141 (by decide +kernel : decode cX11_one 114 = .ok (.getfield 141, 3)) hU q_9 (by decide) rfl (by decide) ?_
        refine pr_iload_n hC (by decide +kernel : decode cX11_one 117 = .ok (.iload_n 1, 1)) rfl ?_
        refine pu_fald hC (by decide +kernel : decode cX11_one 118 = .ok (.faload, 1)) hU q_9 rfl H.1 ?_
        replace H := H.2
        refine pr_f2i hC (by decide +kernel : decode cX11_one 119 = .ok (.f2i, 1)) ?_
        exact pv_iret hM (by decide +kernel : decode cX11_one 120 = .ok (.ireturn, 1)) hU H
      · have e_16 : a2 = 6 := Int32.toInt_inj.mp (hq.trans (by decide))
        replace H := H.2.2.2.2.2.2 e_16
        refine ⟨105, 121, by rw [hq]; rfl, by decide, ?_⟩
        refine pr_aload_n hC (by decide +kernel : decode cX11_one 121 = .ok (.aload_n 0, 1)) rfl ?_
        refine pu_g21 hC fg_X11_40 (by decide +kernel : decode cX11_one 122 = .ok (.getfield 40, 3)) hU ho (by decide) rfl rfl ?_
        have q_10 := H.1
        replace H := H.2
        refine pu_g1 hC fg_X11_145 (by decide +kernel : decode cX11_one 125 = .ok (.getfield 145, 3)) hU q_10 (by decide) rfl (by decide) ?_
        refine pr_iload_n hC (by decide +kernel : decode cX11_one 128 = .ok (.iload_n 1, 1)) rfl ?_
        refine pu_iald hC (by decide +kernel : decode cX11_one 129 = .ok (.iaload, 1)) hU q_10 rfl H.1 ?_
        replace H := H.2
        refine vc_Si hC hR [.int (uA U_2 (uR U_2 o 4) 7 (Int32.toNatClampNeg a1))] fv_X11_148 (by decide +kernel : decode cX11_one 130 = .ok (.invokestatic 148, 3)) hU (t_J6_bitCount_0f7a4  H) rfl rfl (Nat.le_of_ble_eq_true rfl) (Nat.le_of_ble_eq_true rfl) (Nat.le_refl 0) (Nat.le_refl 0) (fun r_12 U_11 h H hU => ?_)
        exact pv_iret hM (by decide +kernel : decode cX11_one 133 = .ok (.ireturn, 1)) hU H
  replace H := H.1 c_9
  refine pr_bipush hC (-2) (by decide +kernel : decode cX11_one 12 = .ok (.bipush (-2), 2)) rfl ?_
  exact pv_iret hM (by decide +kernel : decode cX11_one 14 = .ok (.ireturn, 1)) hU H
def w_X11_formBits (o : Nat) (a1 : Int32) (U : Um) (post : Int32 → Um → Prop) : Prop :=
  oc (uR U o 2) = 8 ∧ w_X9_isNamed (uR U o 2) 2 a1 U (fun r_3 U_2 => (r_3 = 0 → post (-1) U_2) ∧ (¬ r_3 = 0 → oc (uR U_2 o 4) = 5 ∧ w_X6_bitsOfForm (uR U_2 o 4) a1 U_2 (fun r_6 U_5 => post r_6 U_5)))
set_option maxHeartbeats 4000000 in
theorem t_X11_formBits {l : Launch} {Y : px_Y} {o : Nat} {a1 : Int32} {U : Um} {post : Int32 → Um → Prop} (ho : oc o = 9) (H : w_X11_formBits o a1 U post) : um l Y 1 yX11_formBits cX11_formBits 2 (some (.int)) [.ref (Y.2.1 o), .int a1] U (pq_i post) := by
  unfold w_X11_formBits at H
  refine um_of (by decide) (Nat.le_of_ble_eq_true rfl) [some (.ref (Y.2.1 o)), some (.int a1)] rfl (fun X h0 hh sz hM hU => ?_)
  have hC := hM.1
  have hR := hM.2.2.1
  refine pr_aload_n hC (by decide +kernel : decode cX11_formBits 0 = .ok (.aload_n 0, 1)) rfl ?_
  refine pu_g21 hC fg_X11_28 (by decide +kernel : decode cX11_formBits 1 = .ok (.getfield 28, 3)) hU ho (by decide) rfl rfl ?_
  have q_1 := H.1
  replace H := H.2
  refine pr_iconst hC (2) (by decide +kernel : decode cX11_formBits 4 = .ok (.iconst 2, 1)) rfl ?_
  refine pr_iload_n hC (by decide +kernel : decode cX11_formBits 5 = .ok (.iload_n 1, 1)) rfl ?_
  refine vc_Vi hC hR [.int 2, .int a1] fv_X11_114 (by decide +kernel : decode cX11_formBits 6 = .ok (.invokevirtual 114, 3)) hU (t_X9_isNamed q_1 H) q_1 (by decide) rfl rfl rfl (Nat.le_of_ble_eq_true rfl) (Nat.le_of_ble_eq_true rfl) (Nat.le_refl 0) (Nat.le_refl 0) (fun r_3 U_2 h H hU => ?_)
  refine pr_if_eq hC 23 (by decide +kernel : decode cX11_formBits 9 = .ok (.ifCond .eq 14, 3)) (by decide) (fun c_9 => ?_) (fun c_9 => ?_)
  · replace H := H.1 c_9
    refine pr_iconst hC (-1) (by decide +kernel : decode cX11_formBits 23 = .ok (.iconst (-1), 1)) rfl ?_
    exact pv_iret hM (by decide +kernel : decode cX11_formBits 24 = .ok (.ireturn, 1)) hU H
  replace H := H.2 c_9
  refine pr_aload_n hC (by decide +kernel : decode cX11_formBits 12 = .ok (.aload_n 0, 1)) rfl ?_
  refine pu_g21 hC fg_X11_40 (by decide +kernel : decode cX11_formBits 13 = .ok (.getfield 40, 3)) hU ho (by decide) rfl rfl ?_
  have q_4 := H.1
  replace H := H.2
  refine pr_iload_n hC (by decide +kernel : decode cX11_formBits 16 = .ok (.iload_n 1, 1)) rfl ?_
  refine vc_Vi hC hR [.int a1] fv_X11_154 (by decide +kernel : decode cX11_formBits 17 = .ok (.invokevirtual 154, 3)) hU (t_X6_bitsOfForm q_4 H) q_4 (by decide) rfl rfl rfl (Nat.le_of_ble_eq_true rfl) (Nat.le_of_ble_eq_true rfl) (Nat.le_refl 0) (Nat.le_refl 0) (fun r_6 U_5 h H hU => ?_)
  refine pr_goto hC 24 (by decide +kernel : decode cX11_formBits 20 = .ok (.goto 4, 3)) (by decide) ?_
  exact pv_iret hM (by decide +kernel : decode cX11_formBits 24 = .ok (.ireturn, 1)) hU H
def w_X11_game (o : Nat) (a1 : Int32) (a2 : Int32) (U : Um) (post : Int32 → Um → Prop) : Prop :=
  oc (uR U o 2) = 8 ∧ w_X9_isGame (uR U o 2) a1 U (fun r_3 U_2 => (r_3 = 0 → post (-1) U_2) ∧ (¬ r_3 = 0 → oc (uR U_2 o 2) = 8 ∧ vp_in a1 16 ∧ oc (uAR U_2 (uR U_2 o 2) 6 (Int32.toNatClampNeg a1)) = 1 ∧ (¬ a2 = 0 → ¬ a2 = 1 → ¬ a2 = 2 → ¬ a2 = 3 → ¬ a2 = 4 → ¬ a2 = 5 → ¬ a2 = 6 → ¬ a2 = 7 → ¬ a2 = 8 → post (-1) U_2) ∧ (a2 = 0 → post (uI U_2 (uAR U_2 (uR U_2 o 2) 6 (Int32.toNatClampNeg a1)) 0) U_2) ∧ (a2 = 1 → post (uI U_2 (uAR U_2 (uR U_2 o 2) 6 (Int32.toNatClampNeg a1)) 1) U_2) ∧ (a2 = 2 → post (uI U_2 (uAR U_2 (uR U_2 o 2) 6 (Int32.toNatClampNeg a1)) 2) U_2) ∧ (a2 = 3 → post (uI U_2 (uAR U_2 (uR U_2 o 2) 6 (Int32.toNatClampNeg a1)) 3) U_2) ∧ (a2 = 4 → post (uI U_2 (uAR U_2 (uR U_2 o 2) 6 (Int32.toNatClampNeg a1)) 4) U_2) ∧ (a2 = 5 → post (uI U_2 (uAR U_2 (uR U_2 o 2) 6 (Int32.toNatClampNeg a1)) 5) U_2) ∧ (a2 = 6 → post (uI U_2 (uAR U_2 (uR U_2 o 2) 6 (Int32.toNatClampNeg a1)) 6) U_2) ∧ (a2 = 7 → post (uI U_2 (uAR U_2 (uR U_2 o 2) 6 (Int32.toNatClampNeg a1)) 7) U_2) ∧ (a2 = 8 → oc (uR U_2 o 4) = 5 ∧ w_X6_isPlayed (uR U_2 o 4) a1 U_2 (fun r_9 U_8 => (r_9 = 0 → oc (uR U_8 o 4) = 5 ∧ w_X6_isLate (uR U_8 o 4) a1 U_8 (fun r_12 U_11 => (r_12 = 0 → post 0 U_11) ∧ (¬ r_12 = 0 → post 1 U_11))) ∧ (¬ r_9 = 0 → post 2 U_8)))))
set_option maxHeartbeats 4000000 in
theorem t_X11_game {l : Launch} {Y : px_Y} {o : Nat} {a1 : Int32} {a2 : Int32} {U : Um} {post : Int32 → Um → Prop} (ho : oc o = 9) (H : w_X11_game o a1 a2 U post) : um l Y 1 yX11_game cX11_game 4 (some (.int)) [.ref (Y.2.1 o), .int a1, .int a2] U (pq_i post) := by
  unfold w_X11_game at H
  refine um_of (by decide) (Nat.le_of_ble_eq_true rfl) [some (.ref (Y.2.1 o)), some (.int a1), some (.int a2), none] rfl (fun X h0 hh sz hM hU => ?_)
  have hC := hM.1
  have hR := hM.2.2.1
  refine pr_aload_n hC (by decide +kernel : decode cX11_game 0 = .ok (.aload_n 0, 1)) rfl ?_
  refine pu_g21 hC fg_X11_28 (by decide +kernel : decode cX11_game 1 = .ok (.getfield 28, 3)) hU ho (by decide) rfl rfl ?_
  have q_1 := H.1
  replace H := H.2
  refine pr_iload_n hC (by decide +kernel : decode cX11_game 4 = .ok (.iload_n 1, 1)) rfl ?_
  refine vc_Vi hC hR [.int a1] fv_X11_157 (by decide +kernel : decode cX11_game 5 = .ok (.invokevirtual 157, 3)) hU (t_X9_isGame q_1 H) q_1 (by decide) rfl rfl rfl (Nat.le_of_ble_eq_true rfl) (Nat.le_of_ble_eq_true rfl) (Nat.le_refl 0) (Nat.le_refl 0) (fun r_3 U_2 h H hU => ?_)
  refine pr_if_ne hC 13 (by decide +kernel : decode cX11_game 8 = .ok (.ifCond .ne 5, 3)) (by decide) (fun c_8 => ?_) (fun c_8 => ?_)
  · replace H := H.2 c_8
    refine pr_aload_n hC (by decide +kernel : decode cX11_game 13 = .ok (.aload_n 0, 1)) rfl ?_
    refine pu_g21 hC fg_X11_28 (by decide +kernel : decode cX11_game 14 = .ok (.getfield 28, 3)) hU ho (by decide) rfl rfl ?_
    have q_4 := H.1
    replace H := H.2
    refine pu_g1 hC fg_X11_161 (by decide +kernel : decode cX11_game 17 = .ok (.getfield 161, 3)) hU q_4 (by decide) rfl (by decide) ?_
    refine pr_iload_n hC (by decide +kernel : decode cX11_game 20 = .ok (.iload_n 1, 1)) rfl ?_
    have q_5 := H.1
    replace H := H.2
    refine pu_aald8 hC (by decide +kernel : decode cX11_game 21 = .ok (.aaload, 1)) hU q_4 rfl q_5 ?_
    have q_6 := H.1
    replace H := H.2
    refine pr_astore_n hC (by decide +kernel : decode cX11_game 22 = .ok (.astore_n 3, 1)) (by decide) rfl ?_
    refine pr_iload_n hC (by decide +kernel : decode cX11_game 23 = .ok (.iload_n 2, 1)) rfl ?_
    refine pv_table hC (by decide +kernel : decode cX11_game 24 = .ok (.tableswitch 124 0 8 #[52, 57, 62, 67, 72, 77, 82, 87, 92], 52)) 148 (by decide) (fun hq => ?_) (fun hq => ?_)
    · replace H := H.1 (fun e => absurd hq (by rw [e]; decide)) (fun e => absurd hq (by rw [e]; decide)) (fun e => absurd hq (by rw [e]; decide)) (fun e => absurd hq (by rw [e]; decide)) (fun e => absurd hq (by rw [e]; decide)) (fun e => absurd hq (by rw [e]; decide)) (fun e => absurd hq (by rw [e]; decide)) (fun e => absurd hq (by rw [e]; decide)) (fun e => absurd hq (by rw [e]; decide))
      refine pr_iconst hC (-1) (by decide +kernel : decode cX11_game 148 = .ok (.iconst (-1), 1)) rfl ?_
      exact pv_iret hM (by decide +kernel : decode cX11_game 149 = .ok (.ireturn, 1)) hU H
    · replace H := H.2
      rcases (show Int32.toInt a2 = 0 ∨ Int32.toInt a2 = 1 ∨ Int32.toInt a2 = 2 ∨ Int32.toInt a2 = 3 ∨ Int32.toInt a2 = 4 ∨ Int32.toInt a2 = 5 ∨ Int32.toInt a2 = 6 ∨ Int32.toInt a2 = 7 ∨ Int32.toInt a2 = 8 from by omega) with hq | hq | hq | hq | hq | hq | hq | hq | hq
      · have e_24 : a2 = 0 := Int32.toInt_inj.mp (hq.trans (by decide))
        replace H := H.1 e_24
        refine ⟨52, 76, by rw [hq]; rfl, by decide, ?_⟩
        refine pr_aload_n hC (by decide +kernel : decode cX11_game 76 = .ok (.aload_n 3, 1)) rfl ?_
        refine pu_g0 hC fg_X11_165 (by decide +kernel : decode cX11_game 77 = .ok (.getfield 165, 3)) hU q_6 (by decide) rfl rfl ?_
        exact pv_iret hM (by decide +kernel : decode cX11_game 80 = .ok (.ireturn, 1)) hU H
      · have e_24 : a2 = 1 := Int32.toInt_inj.mp (hq.trans (by decide))
        replace H := H.2.1 e_24
        refine ⟨57, 81, by rw [hq]; rfl, by decide, ?_⟩
        refine pr_aload_n hC (by decide +kernel : decode cX11_game 81 = .ok (.aload_n 3, 1)) rfl ?_
        refine pu_g0 hC fg_X11_170 (by decide +kernel : decode cX11_game 82 = .ok (.getfield 170, 3)) hU q_6 (by decide) rfl rfl ?_
        exact pv_iret hM (by decide +kernel : decode cX11_game 85 = .ok (.ireturn, 1)) hU H
      · have e_24 : a2 = 2 := Int32.toInt_inj.mp (hq.trans (by decide))
        replace H := H.2.2.1 e_24
        refine ⟨62, 86, by rw [hq]; rfl, by decide, ?_⟩
        refine pr_aload_n hC (by decide +kernel : decode cX11_game 86 = .ok (.aload_n 3, 1)) rfl ?_
        refine pu_g0 hC fg_X11_173 (by decide +kernel : decode cX11_game 87 = .ok (.getfield 173, 3)) hU q_6 (by decide) rfl rfl ?_
        exact pv_iret hM (by decide +kernel : decode cX11_game 90 = .ok (.ireturn, 1)) hU H
      · have e_24 : a2 = 3 := Int32.toInt_inj.mp (hq.trans (by decide))
        replace H := H.2.2.2.1 e_24
        refine ⟨67, 91, by rw [hq]; rfl, by decide, ?_⟩
        refine pr_aload_n hC (by decide +kernel : decode cX11_game 91 = .ok (.aload_n 3, 1)) rfl ?_
        refine pu_g0 hC fg_X11_176 (by decide +kernel : decode cX11_game 92 = .ok (.getfield 176, 3)) hU q_6 (by decide) rfl rfl ?_
        exact pv_iret hM (by decide +kernel : decode cX11_game 95 = .ok (.ireturn, 1)) hU H
      · have e_24 : a2 = 4 := Int32.toInt_inj.mp (hq.trans (by decide))
        replace H := H.2.2.2.2.1 e_24
        refine ⟨72, 96, by rw [hq]; rfl, by decide, ?_⟩
        refine pr_aload_n hC (by decide +kernel : decode cX11_game 96 = .ok (.aload_n 3, 1)) rfl ?_
        refine pu_g0 hC fg_X11_179 (by decide +kernel : decode cX11_game 97 = .ok (.getfield 179, 3)) hU q_6 (by decide) rfl rfl ?_
        exact pv_iret hM (by decide +kernel : decode cX11_game 100 = .ok (.ireturn, 1)) hU H
      · have e_24 : a2 = 5 := Int32.toInt_inj.mp (hq.trans (by decide))
        replace H := H.2.2.2.2.2.1 e_24
        refine ⟨77, 101, by rw [hq]; rfl, by decide, ?_⟩
        refine pr_aload_n hC (by decide +kernel : decode cX11_game 101 = .ok (.aload_n 3, 1)) rfl ?_
        refine pu_g0 hC fg_X11_182 (by decide +kernel : decode cX11_game 102 = .ok (.getfield 182, 3)) hU q_6 (by decide) rfl rfl ?_
        exact pv_iret hM (by decide +kernel : decode cX11_game 105 = .ok (.ireturn, 1)) hU H
      · have e_24 : a2 = 6 := Int32.toInt_inj.mp (hq.trans (by decide))
        replace H := H.2.2.2.2.2.2.1 e_24
        refine ⟨82, 106, by rw [hq]; rfl, by decide, ?_⟩
        refine pr_aload_n hC (by decide +kernel : decode cX11_game 106 = .ok (.aload_n 3, 1)) rfl ?_
        refine pu_g0 hC fg_X11_185 (by decide +kernel : decode cX11_game 107 = .ok (.getfield 185, 3)) hU q_6 (by decide) rfl rfl ?_
        exact pv_iret hM (by decide +kernel : decode cX11_game 110 = .ok (.ireturn, 1)) hU H
      · have e_24 : a2 = 7 := Int32.toInt_inj.mp (hq.trans (by decide))
        replace H := H.2.2.2.2.2.2.2.1 e_24
        refine ⟨87, 111, by rw [hq]; rfl, by decide, ?_⟩
        refine pr_aload_n hC (by decide +kernel : decode cX11_game 111 = .ok (.aload_n 3, 1)) rfl ?_
        refine pu_g0 hC fg_X11_187 (by decide +kernel : decode cX11_game 112 = .ok (.getfield 187, 3)) hU q_6 (by decide) rfl rfl ?_
        exact pv_iret hM (by decide +kernel : decode cX11_game 115 = .ok (.ireturn, 1)) hU H
      · have e_24 : a2 = 8 := Int32.toInt_inj.mp (hq.trans (by decide))
        replace H := H.2.2.2.2.2.2.2.2 e_24
        refine ⟨92, 116, by rw [hq]; rfl, by decide, ?_⟩
        refine pr_aload_n hC (by decide +kernel : decode cX11_game 116 = .ok (.aload_n 0, 1)) rfl ?_
        refine pu_g21 hC fg_X11_40 (by decide +kernel : decode cX11_game 117 = .ok (.getfield 40, 3)) hU ho (by decide) rfl rfl ?_
        have q_7 := H.1
        replace H := H.2
        refine pr_iload_n hC (by decide +kernel : decode cX11_game 120 = .ok (.iload_n 1, 1)) rfl ?_
        refine vc_Vi hC hR [.int a1] fv_X11_190 (by decide +kernel : decode cX11_game 121 = .ok (.invokevirtual 190, 3)) hU (t_X6_isPlayed q_7 H) q_7 (by decide) rfl rfl rfl (Nat.le_of_ble_eq_true rfl) (Nat.le_of_ble_eq_true rfl) (Nat.le_refl 0) (Nat.le_refl 0) (fun r_9 U_8 h H hU => ?_)
        refine pr_if_eq hC 131 (by decide +kernel : decode cX11_game 124 = .ok (.ifCond .eq 7, 3)) (by decide) (fun c_124 => ?_) (fun c_124 => ?_)
        · replace H := H.1 c_124
          refine pr_aload_n hC (by decide +kernel : decode cX11_game 131 = .ok (.aload_n 0, 1)) rfl ?_
          refine pu_g21 hC fg_X11_40 (by decide +kernel : decode cX11_game 132 = .ok (.getfield 40, 3)) hU ho (by decide) rfl rfl ?_
          have q_10 := H.1
          replace H := H.2
          refine pr_iload_n hC (by decide +kernel : decode cX11_game 135 = .ok (.iload_n 1, 1)) rfl ?_
          refine vc_Vi hC hR [.int a1] fv_X11_193 (by decide +kernel : decode cX11_game 136 = .ok (.invokevirtual 193, 3)) hU (t_X6_isLate q_10 H) q_10 (by decide) rfl rfl rfl (Nat.le_of_ble_eq_true rfl) (Nat.le_of_ble_eq_true rfl) (Nat.le_refl 0) (Nat.le_refl 0) (fun r_12 U_11 h H hU => ?_)
          refine pr_if_eq hC 146 (by decide +kernel : decode cX11_game 139 = .ok (.ifCond .eq 7, 3)) (by decide) (fun c_139 => ?_) (fun c_139 => ?_)
          · replace H := H.1 c_139
            refine pr_iconst hC (0) (by decide +kernel : decode cX11_game 146 = .ok (.iconst 0, 1)) rfl ?_
            exact pv_iret hM (by decide +kernel : decode cX11_game 147 = .ok (.ireturn, 1)) hU H
          replace H := H.2 c_139
          refine pr_iconst hC (1) (by decide +kernel : decode cX11_game 142 = .ok (.iconst 1, 1)) rfl ?_
          refine pr_goto hC 147 (by decide +kernel : decode cX11_game 143 = .ok (.goto 4, 3)) (by decide) ?_
          exact pv_iret hM (by decide +kernel : decode cX11_game 147 = .ok (.ireturn, 1)) hU H
        replace H := H.2 c_124
        refine pr_iconst hC (2) (by decide +kernel : decode cX11_game 127 = .ok (.iconst 2, 1)) rfl ?_
        refine pr_goto hC 147 (by decide +kernel : decode cX11_game 128 = .ok (.goto 19, 3)) (by decide) ?_
        exact pv_iret hM (by decide +kernel : decode cX11_game 147 = .ok (.ireturn, 1)) hU H
  replace H := H.1 c_8
  refine pr_iconst hC (-1) (by decide +kernel : decode cX11_game 11 = .ok (.iconst (-1), 1)) rfl ?_
  exact pv_iret hM (by decide +kernel : decode cX11_game 12 = .ok (.ireturn, 1)) hU H
def w_X11_seat (o : Nat) (a1 : Int32) (a2 : Int32) (a3 : Int32) (U : Um) (post : Int32 → Um → Prop) : Prop :=
  oc (uR U o 2) = 8 ∧ w_X9_isSeat (uR U o 2) a1 a2 U (fun r_3 U_2 => (r_3 = 0 → post (-2) U_2) ∧ (¬ r_3 = 0 → w_X9_placeOf a1 a2 U_2 (fun r_5 U_4 => (a3 = 0 → oc (uR U_4 o 4) = 5 ∧ vp_in r_5 48 ∧ post (uA U_4 (uR U_4 o 4) 2 (Int32.toNatClampNeg r_5)) U_4) ∧ (a3 = 1 → oc (uR U_4 o 4) = 5 ∧ vp_in r_5 48 ∧ post (uA U_4 (uR U_4 o 4) 3 (Int32.toNatClampNeg r_5)) U_4) ∧ (¬ a3 = 0 → ¬ a3 = 1 → post (-2) U_4))))
set_option maxHeartbeats 4000000 in
theorem t_X11_seat {l : Launch} {Y : px_Y} {o : Nat} {a1 : Int32} {a2 : Int32} {a3 : Int32} {U : Um} {post : Int32 → Um → Prop} (ho : oc o = 9) (H : w_X11_seat o a1 a2 a3 U post) : um l Y 2 yX11_seat cX11_seat 5 (some (.int)) [.ref (Y.2.1 o), .int a1, .int a2, .int a3] U (pq_i post) := by
  unfold w_X11_seat at H
  refine um_of (by decide) (Nat.le_of_ble_eq_true rfl) [some (.ref (Y.2.1 o)), some (.int a1), some (.int a2), some (.int a3), none] rfl (fun X h0 hh sz hM hU => ?_)
  have hC := hM.1
  have hR := hM.2.2.1
  refine pr_aload_n hC (by decide +kernel : decode cX11_seat 0 = .ok (.aload_n 0, 1)) rfl ?_
  refine pu_g21 hC fg_X11_28 (by decide +kernel : decode cX11_seat 1 = .ok (.getfield 28, 3)) hU ho (by decide) rfl rfl ?_
  have q_1 := H.1
  replace H := H.2
  refine pr_iload_n hC (by decide +kernel : decode cX11_seat 4 = .ok (.iload_n 1, 1)) rfl ?_
  refine pr_iload_n hC (by decide +kernel : decode cX11_seat 5 = .ok (.iload_n 2, 1)) rfl ?_
  refine vc_Vi hC hR [.int a1, .int a2] fv_X11_196 (by decide +kernel : decode cX11_seat 6 = .ok (.invokevirtual 196, 3)) hU (t_X9_isSeat q_1 H) q_1 (by decide) rfl rfl rfl (Nat.le_of_ble_eq_true rfl) (Nat.le_of_ble_eq_true rfl) (Nat.le_refl 0) (Nat.le_refl 0) (fun r_3 U_2 h H hU => ?_)
  refine pr_if_ne hC 15 (by decide +kernel : decode cX11_seat 9 = .ok (.ifCond .ne 6, 3)) (by decide) (fun c_9 => ?_) (fun c_9 => ?_)
  · replace H := H.2 c_9
    refine pr_iload_n hC (by decide +kernel : decode cX11_seat 15 = .ok (.iload_n 1, 1)) rfl ?_
    refine pr_iload_n hC (by decide +kernel : decode cX11_seat 16 = .ok (.iload_n 2, 1)) rfl ?_
    refine vc_Si hC hR [.int a1, .int a2] fv_X11_199 (by decide +kernel : decode cX11_seat 17 = .ok (.invokestatic 199, 3)) hU (t_X9_placeOf  H) rfl rfl (Nat.le_of_ble_eq_true rfl) (Nat.le_of_ble_eq_true rfl) (Nat.le_refl 0) (Nat.le_refl 0) (fun r_5 U_4 h H hU => ?_)
    refine pr_istore hC (by decide +kernel : decode cX11_seat 20 = .ok (.istore 4, 2)) (by decide) rfl ?_
    refine pr_iload_n hC (by decide +kernel : decode cX11_seat 22 = .ok (.iload_n 3, 1)) rfl ?_
    by_cases e_23_0 : a3 = 0
    · replace H := H.1 e_23_0
      refine pr_lookup hC 48 (by decide +kernel : decode cX11_seat 23 = .ok (.lookupswitch 47 #[(0, 25), (1, 36)], 25)) (by decide) (by rw [e_23_0] <;> rfl) (by decide) ?_
      refine pr_aload_n hC (by decide +kernel : decode cX11_seat 48 = .ok (.aload_n 0, 1)) rfl ?_
      refine pu_g21 hC fg_X11_40 (by decide +kernel : decode cX11_seat 49 = .ok (.getfield 40, 3)) hU ho (by decide) rfl rfl ?_
      have q_6 := H.1
      replace H := H.2
      refine pu_g1 hC fg_X11_202 (by decide +kernel : decode cX11_seat 52 = .ok (.getfield 202, 3)) hU q_6 (by decide) rfl (by decide) ?_
      refine pr_iload hC (by decide +kernel : decode cX11_seat 55 = .ok (.iload 4, 2)) rfl ?_
      refine pu_iald hC (by decide +kernel : decode cX11_seat 57 = .ok (.iaload, 1)) hU q_6 rfl H.1 ?_
      replace H := H.2
      exact pv_iret hM (by decide +kernel : decode cX11_seat 58 = .ok (.ireturn, 1)) hU H
    replace H := H.2
    by_cases e_23_1 : a3 = 1
    · replace H := H.1 e_23_1
      refine pr_lookup hC 59 (by decide +kernel : decode cX11_seat 23 = .ok (.lookupswitch 47 #[(0, 25), (1, 36)], 25)) (by decide) (by rw [e_23_1] <;> rfl) (by decide) ?_
      refine pr_aload_n hC (by decide +kernel : decode cX11_seat 59 = .ok (.aload_n 0, 1)) rfl ?_
      refine pu_g21 hC fg_X11_40 (by decide +kernel : decode cX11_seat 60 = .ok (.getfield 40, 3)) hU ho (by decide) rfl rfl ?_
      have q_7 := H.1
      replace H := H.2
      refine pu_g1 hC fg_X11_205 (by decide +kernel : decode cX11_seat 63 = .ok (.getfield 205, 3)) hU q_7 (by decide) rfl (by decide) ?_
      refine pr_iload hC (by decide +kernel : decode cX11_seat 66 = .ok (.iload 4, 2)) rfl ?_
      refine pu_iald hC (by decide +kernel : decode cX11_seat 68 = .ok (.iaload, 1)) hU q_7 rfl H.1 ?_
      replace H := H.2
      exact pv_iret hM (by decide +kernel : decode cX11_seat 69 = .ok (.ireturn, 1)) hU H
    replace H := H.2
    replace H := H e_23_0 e_23_1
    refine pr_lookup hC 70 (by decide +kernel : decode cX11_seat 23 = .ok (.lookupswitch 47 #[(0, 25), (1, 36)], 25)) (by decide) (pv_look01 e_23_0 e_23_1) (by decide) ?_
    refine pr_bipush hC (-2) (by decide +kernel : decode cX11_seat 70 = .ok (.bipush (-2), 2)) rfl ?_
    exact pv_iret hM (by decide +kernel : decode cX11_seat 72 = .ok (.ireturn, 1)) hU H
  replace H := H.1 c_9
  refine pr_bipush hC (-2) (by decide +kernel : decode cX11_seat 12 = .ok (.bipush (-2), 2)) rfl ?_
  exact pv_iret hM (by decide +kernel : decode cX11_seat 14 = .ok (.ireturn, 1)) hU H
def w_X11_way (o : Nat) (a1 : Int32) (a2 : Int32) (U : Um) (post : Int32 → Um → Prop) : Prop :=
  oc (uR U o 2) = 8 ∧ w_X9_areFields (uR U o 2) a1 a2 U (fun r_3 U_2 => (r_3 = 0 → post (-1) U_2) ∧ (¬ r_3 = 0 → oc (uR U_2 o 2) = 8 ∧ oc (uR U_2 (uR U_2 o 2) 10) = 4 ∧ vp_in a1 6 ∧ vp_in a2 6 ∧ post (uA U_2 (uR U_2 (uR U_2 o 2) 10) (ki 2 (Int32.toNatClampNeg a1)) (Int32.toNatClampNeg a2)) U_2))
set_option maxHeartbeats 4000000 in
theorem t_X11_way {l : Launch} {Y : px_Y} {o : Nat} {a1 : Int32} {a2 : Int32} {U : Um} {post : Int32 → Um → Prop} (ho : oc o = 9) (H : w_X11_way o a1 a2 U post) : um l Y 2 yX11_way cX11_way 3 (some (.int)) [.ref (Y.2.1 o), .int a1, .int a2] U (pq_i post) := by
  unfold w_X11_way at H
  refine um_of (by decide) (Nat.le_of_ble_eq_true rfl) [some (.ref (Y.2.1 o)), some (.int a1), some (.int a2)] rfl (fun X h0 hh sz hM hU => ?_)
  have hC := hM.1
  have hR := hM.2.2.1
  refine pr_aload_n hC (by decide +kernel : decode cX11_way 0 = .ok (.aload_n 0, 1)) rfl ?_
  refine pu_g21 hC fg_X11_28 (by decide +kernel : decode cX11_way 1 = .ok (.getfield 28, 3)) hU ho (by decide) rfl rfl ?_
  have q_1 := H.1
  replace H := H.2
  refine pr_iload_n hC (by decide +kernel : decode cX11_way 4 = .ok (.iload_n 1, 1)) rfl ?_
  refine pr_iload_n hC (by decide +kernel : decode cX11_way 5 = .ok (.iload_n 2, 1)) rfl ?_
  refine vc_Vi hC hR [.int a1, .int a2] fv_X11_208 (by decide +kernel : decode cX11_way 6 = .ok (.invokevirtual 208, 3)) hU (t_X9_areFields q_1 H) q_1 (by decide) rfl rfl rfl (Nat.le_of_ble_eq_true rfl) (Nat.le_of_ble_eq_true rfl) (Nat.le_refl 0) (Nat.le_refl 0) (fun r_3 U_2 h H hU => ?_)
  refine pr_if_eq hC 29 (by decide +kernel : decode cX11_way 9 = .ok (.ifCond .eq 20, 3)) (by decide) (fun c_9 => ?_) (fun c_9 => ?_)
  · replace H := H.1 c_9
    refine pr_iconst hC (-1) (by decide +kernel : decode cX11_way 29 = .ok (.iconst (-1), 1)) rfl ?_
    exact pv_iret hM (by decide +kernel : decode cX11_way 30 = .ok (.ireturn, 1)) hU H
  replace H := H.2 c_9
  refine pr_aload_n hC (by decide +kernel : decode cX11_way 12 = .ok (.aload_n 0, 1)) rfl ?_
  refine pu_g21 hC fg_X11_28 (by decide +kernel : decode cX11_way 13 = .ok (.getfield 28, 3)) hU ho (by decide) rfl rfl ?_
  have q_4 := H.1
  replace H := H.2
  refine pu_g21 hC fg_X11_211 (by decide +kernel : decode cX11_way 16 = .ok (.getfield 211, 3)) hU q_4 (by decide) rfl rfl ?_
  have q_5 := H.1
  replace H := H.2
  refine pu_g1 hC fg_X11_215 (by decide +kernel : decode cX11_way 19 = .ok (.getfield 215, 3)) hU q_5 (by decide) rfl (by decide) ?_
  refine pr_iload_n hC (by decide +kernel : decode cX11_way 22 = .ok (.iload_n 1, 1)) rfl ?_
  have q_6 := H.1
  replace H := H.2
  refine pu_aald6 hC (by decide +kernel : decode cX11_way 23 = .ok (.aaload, 1)) hU q_5 rfl q_6 ?_
  refine pr_iload_n hC (by decide +kernel : decode cX11_way 24 = .ok (.iload_n 2, 1)) rfl ?_
  refine pu_iald7 hC (by decide +kernel : decode cX11_way 25 = .ok (.iaload, 1)) hU q_5 rfl (vp_lt q_6) H.1 ?_
  replace H := H.2
  refine pr_goto hC 30 (by decide +kernel : decode cX11_way 26 = .ok (.goto 4, 3)) (by decide) ?_
  exact pv_iret hM (by decide +kernel : decode cX11_way 30 = .ok (.ireturn, 1)) hU H
def w_X11_toward (o : Nat) (a1 : Int32) (a2 : Int32) (U : Um) (post : Int32 → Um → Prop) : Prop :=
  oc (uR U o 2) = 8 ∧ w_X9_areFields (uR U o 2) a1 a2 U (fun r_3 U_2 => (r_3 = 0 → post (-1) U_2) ∧ (¬ r_3 = 0 → oc (uR U_2 o 2) = 8 ∧ oc (uR U_2 (uR U_2 o 2) 10) = 4 ∧ w_X5_firstOn (uR U_2 (uR U_2 o 2) 10) a1 a2 U_2 (fun r_7 U_6 => post r_7 U_6)))
set_option maxHeartbeats 4000000 in
theorem t_X11_toward {l : Launch} {Y : px_Y} {o : Nat} {a1 : Int32} {a2 : Int32} {U : Um} {post : Int32 → Um → Prop} (ho : oc o = 9) (H : w_X11_toward o a1 a2 U post) : um l Y 2 yX11_toward cX11_toward 3 (some (.int)) [.ref (Y.2.1 o), .int a1, .int a2] U (pq_i post) := by
  unfold w_X11_toward at H
  refine um_of (by decide) (Nat.le_of_ble_eq_true rfl) [some (.ref (Y.2.1 o)), some (.int a1), some (.int a2)] rfl (fun X h0 hh sz hM hU => ?_)
  have hC := hM.1
  have hR := hM.2.2.1
  refine pr_aload_n hC (by decide +kernel : decode cX11_toward 0 = .ok (.aload_n 0, 1)) rfl ?_
  refine pu_g21 hC fg_X11_28 (by decide +kernel : decode cX11_toward 1 = .ok (.getfield 28, 3)) hU ho (by decide) rfl rfl ?_
  have q_1 := H.1
  replace H := H.2
  refine pr_iload_n hC (by decide +kernel : decode cX11_toward 4 = .ok (.iload_n 1, 1)) rfl ?_
  refine pr_iload_n hC (by decide +kernel : decode cX11_toward 5 = .ok (.iload_n 2, 1)) rfl ?_
  refine vc_Vi hC hR [.int a1, .int a2] fv_X11_208 (by decide +kernel : decode cX11_toward 6 = .ok (.invokevirtual 208, 3)) hU (t_X9_areFields q_1 H) q_1 (by decide) rfl rfl rfl (Nat.le_of_ble_eq_true rfl) (Nat.le_of_ble_eq_true rfl) (Nat.le_refl 0) (Nat.le_refl 0) (fun r_3 U_2 h H hU => ?_)
  refine pr_if_eq hC 27 (by decide +kernel : decode cX11_toward 9 = .ok (.ifCond .eq 18, 3)) (by decide) (fun c_9 => ?_) (fun c_9 => ?_)
  · replace H := H.1 c_9
    refine pr_iconst hC (-1) (by decide +kernel : decode cX11_toward 27 = .ok (.iconst (-1), 1)) rfl ?_
    exact pv_iret hM (by decide +kernel : decode cX11_toward 28 = .ok (.ireturn, 1)) hU H
  replace H := H.2 c_9
  refine pr_aload_n hC (by decide +kernel : decode cX11_toward 12 = .ok (.aload_n 0, 1)) rfl ?_
  refine pu_g21 hC fg_X11_28 (by decide +kernel : decode cX11_toward 13 = .ok (.getfield 28, 3)) hU ho (by decide) rfl rfl ?_
  have q_4 := H.1
  replace H := H.2
  refine pu_g21 hC fg_X11_211 (by decide +kernel : decode cX11_toward 16 = .ok (.getfield 211, 3)) hU q_4 (by decide) rfl rfl ?_
  have q_5 := H.1
  replace H := H.2
  refine pr_iload_n hC (by decide +kernel : decode cX11_toward 19 = .ok (.iload_n 1, 1)) rfl ?_
  refine pr_iload_n hC (by decide +kernel : decode cX11_toward 20 = .ok (.iload_n 2, 1)) rfl ?_
  refine vc_Vi hC hR [.int a1, .int a2] fv_X11_220 (by decide +kernel : decode cX11_toward 21 = .ok (.invokevirtual 220, 3)) hU (t_X5_firstOn q_5 H) q_5 (by decide) rfl rfl rfl (Nat.le_of_ble_eq_true rfl) (Nat.le_of_ble_eq_true rfl) (Nat.le_refl 0) (Nat.le_refl 0) (fun r_7 U_6 h H hU => ?_)
  refine pr_goto hC 28 (by decide +kernel : decode cX11_toward 24 = .ok (.goto 4, 3)) (by decide) ?_
  exact pv_iret hM (by decide +kernel : decode cX11_toward 28 = .ok (.ireturn, 1)) hU H
def w_X11_hub (o : Nat) (U : Um) (post : Int32 → Um → Prop) : Prop :=
  oc (uR U o 2) = 8 ∧ oc (uR U (uR U o 2) 10) = 4 ∧ w_X5_middle (uR U (uR U o 2) 10) U (fun r_4 U_3 => post r_4 U_3)
set_option maxHeartbeats 4000000 in
theorem t_X11_hub {l : Launch} {Y : px_Y} {o : Nat} {U : Um} {post : Int32 → Um → Prop} (ho : oc o = 9) (H : w_X11_hub o U post) : um l Y 2 yX11_hub cX11_hub 1 (some (.int)) [.ref (Y.2.1 o)] U (pq_i post) := by
  unfold w_X11_hub at H
  refine um_of (by decide) (Nat.le_of_ble_eq_true rfl) [some (.ref (Y.2.1 o))] rfl (fun X h0 hh sz hM hU => ?_)
  have hC := hM.1
  have hR := hM.2.2.1
  refine pr_aload_n hC (by decide +kernel : decode cX11_hub 0 = .ok (.aload_n 0, 1)) rfl ?_
  refine pu_g21 hC fg_X11_28 (by decide +kernel : decode cX11_hub 1 = .ok (.getfield 28, 3)) hU ho (by decide) rfl rfl ?_
  have q_1 := H.1
  replace H := H.2
  refine pu_g21 hC fg_X11_211 (by decide +kernel : decode cX11_hub 4 = .ok (.getfield 211, 3)) hU q_1 (by decide) rfl rfl ?_
  have q_2 := H.1
  replace H := H.2
  refine vc_Vi hC hR [] fv_X11_223 (by decide +kernel : decode cX11_hub 7 = .ok (.invokevirtual 223, 3)) hU (t_X5_middle q_2 H) q_2 (by decide) rfl rfl rfl (Nat.le_of_ble_eq_true rfl) (Nat.le_of_ble_eq_true rfl) (Nat.le_refl 0) (Nat.le_refl 0) (fun r_4 U_3 h H hU => ?_)
  exact pv_iret hM (by decide +kernel : decode cX11_hub 10 = .ok (.ireturn, 1)) hU H
def w_X11_why (o : Nat) (a1 : Int32) (a2 : Int32) (a3 : Int32) (U : Um) (post : Int32 → Um → Prop) : Prop :=
  oc (uR U o 4) = 5 ∧ w_X6_reason (uR U o 4) a1 a2 a3 U (fun r_3 U_2 => post r_3 U_2)
set_option maxHeartbeats 4000000 in
theorem t_X11_why {l : Launch} {Y : px_Y} {o : Nat} {a1 : Int32} {a2 : Int32} {a3 : Int32} {U : Um} {post : Int32 → Um → Prop} (ho : oc o = 9) (H : w_X11_why o a1 a2 a3 U post) : um l Y 3 yX11_why cX11_why 4 (some (.int)) [.ref (Y.2.1 o), .int a1, .int a2, .int a3] U (pq_i post) := by
  unfold w_X11_why at H
  refine um_of (by decide) (Nat.le_of_ble_eq_true rfl) [some (.ref (Y.2.1 o)), some (.int a1), some (.int a2), some (.int a3)] rfl (fun X h0 hh sz hM hU => ?_)
  have hC := hM.1
  have hR := hM.2.2.1
  refine pr_aload_n hC (by decide +kernel : decode cX11_why 0 = .ok (.aload_n 0, 1)) rfl ?_
  refine pu_g21 hC fg_X11_40 (by decide +kernel : decode cX11_why 1 = .ok (.getfield 40, 3)) hU ho (by decide) rfl rfl ?_
  have q_1 := H.1
  replace H := H.2
  refine pr_iload_n hC (by decide +kernel : decode cX11_why 4 = .ok (.iload_n 1, 1)) rfl ?_
  refine pr_iload_n hC (by decide +kernel : decode cX11_why 5 = .ok (.iload_n 2, 1)) rfl ?_
  refine pr_iload_n hC (by decide +kernel : decode cX11_why 6 = .ok (.iload_n 3, 1)) rfl ?_
  refine vc_Vi hC hR [.int a1, .int a2, .int a3] fv_X11_226 (by decide +kernel : decode cX11_why 7 = .ok (.invokevirtual 226, 3)) hU (t_X6_reason q_1 H) q_1 (by decide) rfl rfl rfl (Nat.le_of_ble_eq_true rfl) (Nat.le_of_ble_eq_true rfl) (Nat.le_refl 0) (Nat.le_refl 0) (fun r_3 U_2 h H hU => ?_)
  exact pv_iret hM (by decide +kernel : decode cX11_why 10 = .ok (.ireturn, 1)) hU H
def w_X11_keep (o : Nat) (a1 : Nat) (U : Um) (post : Um → Prop) : Prop :=
  (∀ K_1 : Um → Prop, (∀ (U_2 : Um), (vp_in (((uI U_2 o 8) + (uI U_2 o 9)) - ((uI U_2 o 8) + (uI U_2 o 9)) / 8 * 8) 8 ∧ oc (uAR U_2 o 7 (Int32.toNatClampNeg (((uI U_2 o 8) + (uI U_2 o 9)) - ((uI U_2 o 8) + (uI U_2 o 9)) / 8 * 8))) = 5 ∧ w_X6_copyOf (uAR U_2 o 7 (Int32.toNatClampNeg (((uI U_2 o 8) + (uI U_2 o 9)) - ((uI U_2 o 8) + (uI U_2 o 9)) / 8 * 8))) a1 U_2 (fun U_5 => ∀ (U_7 : Um), U_7 = sI U_5 o 9 ((uI U_5 o 9) + 1) → post U_7)) → K_1 U_2) → ((uI U o 9) = 8 → ∀ (U_8 : Um), U_8 = sI U o 8 (((uI U o 8) + 1) - ((uI U o 8) + 1) / 8 * 8) → ∀ (U_9 : Um), U_9 = sI U_8 o 9 ((uI U_8 o 9) - 1) → K_1 U_9) ∧ (¬ (uI U o 9) = 8 → K_1 U))
set_option maxHeartbeats 4000000 in
theorem t_X11_keep {l : Launch} {Y : px_Y} {o : Nat} {a1 : Nat} {U : Um} {post : Um → Prop} (ho : oc o = 9) (ha1 : oc a1 = 5) (H : w_X11_keep o a1 U post) : um l Y 3 yX11_keep cX11_keep 2 none [.ref (Y.2.1 o), .ref (Y.2.1 a1)] U (pq_v post) := by
  unfold w_X11_keep at H
  refine um_of (by decide) (Nat.le_of_ble_eq_true rfl) [some (.ref (Y.2.1 o)), some (.ref (Y.2.1 a1))] rfl (fun X h0 hh sz hM hU => ?_)
  have hC := hM.1
  have hR := hM.2.2.1
  refine pr_aload_n hC (by decide +kernel : decode cX11_keep 0 = .ok (.aload_n 0, 1)) rfl ?_
  refine pu_g0 hC fg_X11_82 (by decide +kernel : decode cX11_keep 1 = .ok (.getfield 82, 3)) hU ho (by decide) rfl rfl ?_
  refine pr_bipush hC (8) (by decide +kernel : decode cX11_keep 4 = .ok (.bipush 8, 2)) rfl ?_
  replace H := H (fun U_2 => ∀ h : pe_H, rF Y h0 U_2 h → pw X Y.1 (pm_A hh sz) (pm_E X Y.1 hh sz 0 0 (pm_P Y h0 sz (pq_v post))) 32 [some (.ref (Y.2.1 o)), some (.ref (Y.2.1 a1))] [] h sz 0 0) (by
    intro U_2 H h hU
    refine pr_aload_n hC (by decide +kernel : decode cX11_keep 32 = .ok (.aload_n 0, 1)) rfl ?_
    refine pu_g1 hC fg_X11_56 (by decide +kernel : decode cX11_keep 33 = .ok (.getfield 56, 3)) hU ho (by decide) rfl (by decide) ?_
    refine pr_aload_n hC (by decide +kernel : decode cX11_keep 36 = .ok (.aload_n 0, 1)) rfl ?_
    refine pu_g0 hC fg_X11_310 (by decide +kernel : decode cX11_keep 37 = .ok (.getfield 310, 3)) hU ho (by decide) rfl rfl ?_
    refine pr_aload_n hC (by decide +kernel : decode cX11_keep 40 = .ok (.aload_n 0, 1)) rfl ?_
    refine pu_g0 hC fg_X11_82 (by decide +kernel : decode cX11_keep 41 = .ok (.getfield 82, 3)) hU ho (by decide) rfl rfl ?_
    refine pr_iadd hC (by decide +kernel : decode cX11_keep 44 = .ok (.iadd, 1)) ?_
    refine pr_bipush hC (8) (by decide +kernel : decode cX11_keep 45 = .ok (.bipush 8, 2)) rfl ?_
    refine pr_irem hC (by decide +kernel : decode cX11_keep 47 = .ok (.irem, 1)) (by decide) ?_
    have q_3 := H.1
    replace H := H.2
    refine pu_aald8 hC (by decide +kernel : decode cX11_keep 48 = .ok (.aaload, 1)) hU ho rfl q_3 ?_
    have q_4 := H.1
    replace H := H.2
    refine pr_aload_n hC (by decide +kernel : decode cX11_keep 49 = .ok (.aload_n 1, 1)) rfl ?_
    refine vc_Vv hC hR [.ref (Y.2.1 a1)] fv_X11_268 (by decide +kernel : decode cX11_keep 50 = .ok (.invokevirtual 268, 3)) hU (t_X6_copyOf q_4 ha1 H) q_4 (by decide) rfl rfl rfl (Nat.le_of_ble_eq_true rfl) (Nat.le_of_ble_eq_true rfl) (Nat.le_refl 0) (Nat.le_refl 0) (fun U_5 h H hU => ?_)
    refine pr_aload_n hC (by decide +kernel : decode cX11_keep 53 = .ok (.aload_n 0, 1)) rfl ?_
    refine pr_dup hC (by decide +kernel : decode cX11_keep 54 = .ok (.dup, 1)) rfl ?_
    refine pu_g0 hC fg_X11_82 (by decide +kernel : decode cX11_keep 55 = .ok (.getfield 82, 3)) hU ho (by decide) rfl rfl ?_
    refine pr_iconst hC (1) (by decide +kernel : decode cX11_keep 58 = .ok (.iconst 1, 1)) rfl ?_
    refine pr_iadd hC (by decide +kernel : decode cX11_keep 59 = .ok (.iadd, 1)) ?_
    refine pv_p0 hC fp_X11_82 (by decide +kernel : decode cX11_keep 60 = .ok (.putfield 82, 3)) hU ho (by decide) rfl rfl rfl rfl (fun U_7 h e_U_7 hU => ?_)
    replace H := H U_7 e_U_7
    exact pv_vret hM (by decide +kernel : decode cX11_keep 63 = .ok (.return_, 1)) hU H)
  refine pr_icmp_ne hC 32 (by decide +kernel : decode cX11_keep 6 = .ok (.if_icmp .ne 26, 3)) (by decide) (fun c_6 => ?_) (fun c_6 => ?_)
  · replace H := H.2 c_6
    exact pv_sub [some (.ref (Y.2.1 o)), some (.ref (Y.2.1 a1))] (And.intro rfl (And.intro rfl trivial)) (H hh hU)
  replace H := H.1 c_6
  refine pr_aload_n hC (by decide +kernel : decode cX11_keep 9 = .ok (.aload_n 0, 1)) rfl ?_
  refine pr_aload_n hC (by decide +kernel : decode cX11_keep 10 = .ok (.aload_n 0, 1)) rfl ?_
  refine pu_g0 hC fg_X11_310 (by decide +kernel : decode cX11_keep 11 = .ok (.getfield 310, 3)) hU ho (by decide) rfl rfl ?_
  refine pr_iconst hC (1) (by decide +kernel : decode cX11_keep 14 = .ok (.iconst 1, 1)) rfl ?_
  refine pr_iadd hC (by decide +kernel : decode cX11_keep 15 = .ok (.iadd, 1)) ?_
  refine pr_bipush hC (8) (by decide +kernel : decode cX11_keep 16 = .ok (.bipush 8, 2)) rfl ?_
  refine pr_irem hC (by decide +kernel : decode cX11_keep 18 = .ok (.irem, 1)) (by decide) ?_
  refine pv_p0 hC fp_X11_310 (by decide +kernel : decode cX11_keep 19 = .ok (.putfield 310, 3)) hU ho (by decide) rfl rfl rfl rfl (fun U_8 h e_U_8 hU => ?_)
  replace H := H U_8 e_U_8
  refine pr_aload_n hC (by decide +kernel : decode cX11_keep 22 = .ok (.aload_n 0, 1)) rfl ?_
  refine pr_dup hC (by decide +kernel : decode cX11_keep 23 = .ok (.dup, 1)) rfl ?_
  refine pu_g0 hC fg_X11_82 (by decide +kernel : decode cX11_keep 24 = .ok (.getfield 82, 3)) hU ho (by decide) rfl rfl ?_
  refine pr_iconst hC (1) (by decide +kernel : decode cX11_keep 27 = .ok (.iconst 1, 1)) rfl ?_
  refine pr_isub hC (by decide +kernel : decode cX11_keep 28 = .ok (.isub, 1)) ?_
  refine pv_p0 hC fp_X11_82 (by decide +kernel : decode cX11_keep 29 = .ok (.putfield 82, 3)) hU ho (by decide) rfl rfl rfl rfl (fun U_9 h e_U_9 hU => ?_)
  replace H := H U_9 e_U_9
  exact pv_sub [some (.ref (Y.2.1 o)), some (.ref (Y.2.1 a1))] (And.intro rfl (And.intro rfl trivial)) (H h hU)
def w_X11_put (o : Nat) (a1 : Int32) (a2 : Int32) (a3 : Int32) (U : Um) (post : Int32 → Um → Prop) : Prop :=
  oc (uR U o 4) = 5 ∧ w_X6_reason (uR U o 4) a1 a2 a3 U (fun r_3 U_2 => (∀ K_4 : Um → Prop, (∀ (U_5 : Um), ((r_3 = 0 → oc (uR U_5 o 4) = 5 ∧ w_X11_keep o (uR U_5 o 4) U_5 (fun U_7 => oc (uR U_7 o 4) = 5 ∧ w_X6_sit (uR U_7 o 4) a1 a2 a3 U_7 (fun U_10 => post 0 U_10))) ∧ (¬ r_3 = 0 → post (-r_3) U_5)) → K_4 U_5) → (r_3 = 1 → K_4 U_2) ∧ (¬ r_3 = 1 → (r_3 = 2 → K_4 U_2) ∧ (¬ r_3 = 2 → oc (uR U_2 o 4) = 5 ∧ w_X6_isLate (uR U_2 o 4) a1 U_2 (fun r_14 U_13 => (r_14 = 0 → K_4 U_13) ∧ (¬ r_14 = 0 → post (-12) U_13))))))
set_option maxHeartbeats 4000000 in
theorem t_X11_put {l : Launch} {Y : px_Y} {o : Nat} {a1 : Int32} {a2 : Int32} {a3 : Int32} {U : Um} {post : Int32 → Um → Prop} (ho : oc o = 9) (H : w_X11_put o a1 a2 a3 U post) : um l Y 4 yX11_put cX11_put 5 (some (.int)) [.ref (Y.2.1 o), .int a1, .int a2, .int a3] U (pq_i post) := by
  unfold w_X11_put at H
  refine um_of (by decide) (Nat.le_of_ble_eq_true rfl) [some (.ref (Y.2.1 o)), some (.int a1), some (.int a2), some (.int a3), none] rfl (fun X h0 hh sz hM hU => ?_)
  have hC := hM.1
  have hR := hM.2.2.1
  refine pr_aload_n hC (by decide +kernel : decode cX11_put 0 = .ok (.aload_n 0, 1)) rfl ?_
  refine pu_g21 hC fg_X11_40 (by decide +kernel : decode cX11_put 1 = .ok (.getfield 40, 3)) hU ho (by decide) rfl rfl ?_
  have q_1 := H.1
  replace H := H.2
  refine pr_iload_n hC (by decide +kernel : decode cX11_put 4 = .ok (.iload_n 1, 1)) rfl ?_
  refine pr_iload_n hC (by decide +kernel : decode cX11_put 5 = .ok (.iload_n 2, 1)) rfl ?_
  refine pr_iload_n hC (by decide +kernel : decode cX11_put 6 = .ok (.iload_n 3, 1)) rfl ?_
  refine vc_Vi hC hR [.int a1, .int a2, .int a3] fv_X11_226 (by decide +kernel : decode cX11_put 7 = .ok (.invokevirtual 226, 3)) hU (t_X6_reason q_1 H) q_1 (by decide) rfl rfl rfl (Nat.le_of_ble_eq_true rfl) (Nat.le_of_ble_eq_true rfl) (Nat.le_refl 0) (Nat.le_refl 0) (fun r_3 U_2 h H hU => ?_)
  refine pr_istore hC (by decide +kernel : decode cX11_put 10 = .ok (.istore 4, 2)) (by decide) rfl ?_
  refine pr_iload hC (by decide +kernel : decode cX11_put 12 = .ok (.iload 4, 2)) rfl ?_
  refine pr_iconst hC (1) (by decide +kernel : decode cX11_put 14 = .ok (.iconst 1, 1)) rfl ?_
  replace H := H (fun U_5 => ∀ h : pe_H, rF Y h0 U_5 h → pw X Y.1 (pm_A hh sz) (pm_E X Y.1 hh sz 0 0 (pm_P Y h0 sz (pq_i post))) 38 [some (.ref (Y.2.1 o)), some (.int a1), some (.int a2), some (.int a3), some (.int r_3)] [] h sz 0 0) (by
    intro U_5 H h hU
    refine pr_iload hC (by decide +kernel : decode cX11_put 38 = .ok (.iload 4, 2)) rfl ?_
    refine pr_if_eq hC 47 (by decide +kernel : decode cX11_put 40 = .ok (.ifCond .eq 7, 3)) (by decide) (fun c_40 => ?_) (fun c_40 => ?_)
    · replace H := H.1 c_40
      refine pr_aload_n hC (by decide +kernel : decode cX11_put 47 = .ok (.aload_n 0, 1)) rfl ?_
      refine pr_aload_n hC (by decide +kernel : decode cX11_put 48 = .ok (.aload_n 0, 1)) rfl ?_
      refine pu_g21 hC fg_X11_40 (by decide +kernel : decode cX11_put 49 = .ok (.getfield 40, 3)) hU ho (by decide) rfl rfl ?_
      have q_6 := H.1
      replace H := H.2
      refine vc_Vv hC hR [.ref (Y.2.1 (uR U_5 o 4))] fv_X11_230 (by decide +kernel : decode cX11_put 52 = .ok (.invokevirtual 230, 3)) hU (t_X11_keep ho q_6 H) ho (by decide) rfl rfl rfl (Nat.le_of_ble_eq_true rfl) (Nat.le_of_ble_eq_true rfl) (Nat.le_refl 0) (Nat.le_refl 0) (fun U_7 h H hU => ?_)
      refine pr_aload_n hC (by decide +kernel : decode cX11_put 55 = .ok (.aload_n 0, 1)) rfl ?_
      refine pu_g21 hC fg_X11_40 (by decide +kernel : decode cX11_put 56 = .ok (.getfield 40, 3)) hU ho (by decide) rfl rfl ?_
      have q_9 := H.1
      replace H := H.2
      refine pr_iload_n hC (by decide +kernel : decode cX11_put 59 = .ok (.iload_n 1, 1)) rfl ?_
      refine pr_iload_n hC (by decide +kernel : decode cX11_put 60 = .ok (.iload_n 2, 1)) rfl ?_
      refine pr_iload_n hC (by decide +kernel : decode cX11_put 61 = .ok (.iload_n 3, 1)) rfl ?_
      refine vc_Vv hC hR [.int a1, .int a2, .int a3] fv_X11_233 (by decide +kernel : decode cX11_put 62 = .ok (.invokevirtual 233, 3)) hU (t_X6_sit q_9 H) q_9 (by decide) rfl rfl rfl (Nat.le_of_ble_eq_true rfl) (Nat.le_of_ble_eq_true rfl) (Nat.le_refl 0) (Nat.le_refl 0) (fun U_10 h H hU => ?_)
      refine pr_iconst hC (0) (by decide +kernel : decode cX11_put 65 = .ok (.iconst 0, 1)) rfl ?_
      exact pv_iret hM (by decide +kernel : decode cX11_put 66 = .ok (.ireturn, 1)) hU H
    replace H := H.2 c_40
    refine pr_iload hC (by decide +kernel : decode cX11_put 43 = .ok (.iload 4, 2)) rfl ?_
    refine pr_ineg hC (by decide +kernel : decode cX11_put 45 = .ok (.ineg, 1)) ?_
    exact pv_iret hM (by decide +kernel : decode cX11_put 46 = .ok (.ireturn, 1)) hU H)
  refine pr_icmp_eq hC 38 (by decide +kernel : decode cX11_put 15 = .ok (.if_icmp .eq 23, 3)) (by decide) (fun c_15 => ?_) (fun c_15 => ?_)
  · replace H := H.1 c_15
    exact pv_sub [some (.ref (Y.2.1 o)), some (.int a1), some (.int a2), some (.int a3), some (.int r_3)] (And.intro rfl (And.intro rfl (And.intro rfl (And.intro rfl (And.intro rfl trivial))))) (H h hU)
  replace H := H.2 c_15
  refine pr_iload hC (by decide +kernel : decode cX11_put 18 = .ok (.iload 4, 2)) rfl ?_
  refine pr_iconst hC (2) (by decide +kernel : decode cX11_put 20 = .ok (.iconst 2, 1)) rfl ?_
  refine pr_icmp_eq hC 38 (by decide +kernel : decode cX11_put 21 = .ok (.if_icmp .eq 17, 3)) (by decide) (fun c_21 => ?_) (fun c_21 => ?_)
  · replace H := H.1 c_21
    exact pv_sub [some (.ref (Y.2.1 o)), some (.int a1), some (.int a2), some (.int a3), some (.int r_3)] (And.intro rfl (And.intro rfl (And.intro rfl (And.intro rfl (And.intro rfl trivial))))) (H h hU)
  replace H := H.2 c_21
  refine pr_aload_n hC (by decide +kernel : decode cX11_put 24 = .ok (.aload_n 0, 1)) rfl ?_
  refine pu_g21 hC fg_X11_40 (by decide +kernel : decode cX11_put 25 = .ok (.getfield 40, 3)) hU ho (by decide) rfl rfl ?_
  have q_12 := H.1
  replace H := H.2
  refine pr_iload_n hC (by decide +kernel : decode cX11_put 28 = .ok (.iload_n 1, 1)) rfl ?_
  refine vc_Vi hC hR [.int a1] fv_X11_193 (by decide +kernel : decode cX11_put 29 = .ok (.invokevirtual 193, 3)) hU (t_X6_isLate q_12 H) q_12 (by decide) rfl rfl rfl (Nat.le_of_ble_eq_true rfl) (Nat.le_of_ble_eq_true rfl) (Nat.le_refl 0) (Nat.le_refl 0) (fun r_14 U_13 h H hU => ?_)
  refine pr_if_eq hC 38 (by decide +kernel : decode cX11_put 32 = .ok (.ifCond .eq 6, 3)) (by decide) (fun c_32 => ?_) (fun c_32 => ?_)
  · replace H := H.1 c_32
    exact pv_sub [some (.ref (Y.2.1 o)), some (.int a1), some (.int a2), some (.int a3), some (.int r_3)] (And.intro rfl (And.intro rfl (And.intro rfl (And.intro rfl (And.intro rfl trivial))))) (H h hU)
  replace H := H.2 c_32
  refine pr_bipush hC (-12) (by decide +kernel : decode cX11_put 35 = .ok (.bipush (-12), 2)) rfl ?_
  exact pv_iret hM (by decide +kernel : decode cX11_put 37 = .ok (.ireturn, 1)) hU H
def w_X11_drop (o : Nat) (a1 : Int32) (a2 : Int32) (U : Um) (post : Int32 → Um → Prop) : Prop :=
  oc (uR U o 2) = 8 ∧ w_X9_isSeat (uR U o 2) a1 a2 U (fun r_3 U_2 => (r_3 = 0 → post (-2) U_2) ∧ (¬ r_3 = 0 → oc (uR U_2 o 4) = 5 ∧ w_X6_isPlayed (uR U_2 o 4) a1 U_2 (fun r_6 U_5 => (r_6 = 0 → oc (uR U_5 o 4) = 5 ∧ w_X6_isLate (uR U_5 o 4) a1 U_5 (fun r_9 U_8 => (r_9 = 0 → oc (uR U_8 o 4) = 5 ∧ w_X9_placeOf a1 a2 U_8 (fun r_12 U_11 => vp_in r_12 48 ∧ ∀ (x3_13 : Int32), x3_13 = uA U_11 (uR U_8 o 4) 2 (Int32.toNatClampNeg r_12) → (x3_13 = (-1) → post (-2) U_11) ∧ (¬ x3_13 = (-1) → oc (uR U_11 o 4) = 5 ∧ w_X11_keep o (uR U_11 o 4) U_11 (fun U_15 => oc (uR U_15 o 4) = 5 ∧ w_X6_rise (uR U_15 o 4) a1 a2 U_15 (fun U_18 => post x3_13 U_18))))) ∧ (¬ r_9 = 0 → post (-2) U_8))) ∧ (¬ r_6 = 0 → post (-2) U_5))))
set_option maxHeartbeats 4000000 in
theorem t_X11_drop {l : Launch} {Y : px_Y} {o : Nat} {a1 : Int32} {a2 : Int32} {U : Um} {post : Int32 → Um → Prop} (ho : oc o = 9) (H : w_X11_drop o a1 a2 U post) : um l Y 4 yX11_drop cX11_drop 4 (some (.int)) [.ref (Y.2.1 o), .int a1, .int a2] U (pq_i post) := by
  unfold w_X11_drop at H
  refine um_of (by decide) (Nat.le_of_ble_eq_true rfl) [some (.ref (Y.2.1 o)), some (.int a1), some (.int a2), none] rfl (fun X h0 hh sz hM hU => ?_)
  have hC := hM.1
  have hR := hM.2.2.1
  refine pr_aload_n hC (by decide +kernel : decode cX11_drop 0 = .ok (.aload_n 0, 1)) rfl ?_
  refine pu_g21 hC fg_X11_28 (by decide +kernel : decode cX11_drop 1 = .ok (.getfield 28, 3)) hU ho (by decide) rfl rfl ?_
  have q_1 := H.1
  replace H := H.2
  refine pr_iload_n hC (by decide +kernel : decode cX11_drop 4 = .ok (.iload_n 1, 1)) rfl ?_
  refine pr_iload_n hC (by decide +kernel : decode cX11_drop 5 = .ok (.iload_n 2, 1)) rfl ?_
  refine vc_Vi hC hR [.int a1, .int a2] fv_X11_196 (by decide +kernel : decode cX11_drop 6 = .ok (.invokevirtual 196, 3)) hU (t_X9_isSeat q_1 H) q_1 (by decide) rfl rfl rfl (Nat.le_of_ble_eq_true rfl) (Nat.le_of_ble_eq_true rfl) (Nat.le_refl 0) (Nat.le_refl 0) (fun r_3 U_2 h H hU => ?_)
  refine pr_if_eq hC 34 (by decide +kernel : decode cX11_drop 9 = .ok (.ifCond .eq 25, 3)) (by decide) (fun c_9 => ?_) (fun c_9 => ?_)
  · replace H := H.1 c_9
    refine pr_bipush hC (-2) (by decide +kernel : decode cX11_drop 34 = .ok (.bipush (-2), 2)) rfl ?_
    exact pv_iret hM (by decide +kernel : decode cX11_drop 36 = .ok (.ireturn, 1)) hU H
  replace H := H.2 c_9
  refine pr_aload_n hC (by decide +kernel : decode cX11_drop 12 = .ok (.aload_n 0, 1)) rfl ?_
  refine pu_g21 hC fg_X11_40 (by decide +kernel : decode cX11_drop 13 = .ok (.getfield 40, 3)) hU ho (by decide) rfl rfl ?_
  have q_4 := H.1
  replace H := H.2
  refine pr_iload_n hC (by decide +kernel : decode cX11_drop 16 = .ok (.iload_n 1, 1)) rfl ?_
  refine vc_Vi hC hR [.int a1] fv_X11_190 (by decide +kernel : decode cX11_drop 17 = .ok (.invokevirtual 190, 3)) hU (t_X6_isPlayed q_4 H) q_4 (by decide) rfl rfl rfl (Nat.le_of_ble_eq_true rfl) (Nat.le_of_ble_eq_true rfl) (Nat.le_refl 0) (Nat.le_refl 0) (fun r_6 U_5 h H hU => ?_)
  refine pr_if_ne hC 34 (by decide +kernel : decode cX11_drop 20 = .ok (.ifCond .ne 14, 3)) (by decide) (fun c_20 => ?_) (fun c_20 => ?_)
  · replace H := H.2 c_20
    refine pr_bipush hC (-2) (by decide +kernel : decode cX11_drop 34 = .ok (.bipush (-2), 2)) rfl ?_
    exact pv_iret hM (by decide +kernel : decode cX11_drop 36 = .ok (.ireturn, 1)) hU H
  replace H := H.1 c_20
  refine pr_aload_n hC (by decide +kernel : decode cX11_drop 23 = .ok (.aload_n 0, 1)) rfl ?_
  refine pu_g21 hC fg_X11_40 (by decide +kernel : decode cX11_drop 24 = .ok (.getfield 40, 3)) hU ho (by decide) rfl rfl ?_
  have q_7 := H.1
  replace H := H.2
  refine pr_iload_n hC (by decide +kernel : decode cX11_drop 27 = .ok (.iload_n 1, 1)) rfl ?_
  refine vc_Vi hC hR [.int a1] fv_X11_193 (by decide +kernel : decode cX11_drop 28 = .ok (.invokevirtual 193, 3)) hU (t_X6_isLate q_7 H) q_7 (by decide) rfl rfl rfl (Nat.le_of_ble_eq_true rfl) (Nat.le_of_ble_eq_true rfl) (Nat.le_refl 0) (Nat.le_refl 0) (fun r_9 U_8 h H hU => ?_)
  refine pr_if_eq hC 37 (by decide +kernel : decode cX11_drop 31 = .ok (.ifCond .eq 6, 3)) (by decide) (fun c_31 => ?_) (fun c_31 => ?_)
  · replace H := H.1 c_31
    refine pr_aload_n hC (by decide +kernel : decode cX11_drop 37 = .ok (.aload_n 0, 1)) rfl ?_
    refine pu_g21 hC fg_X11_40 (by decide +kernel : decode cX11_drop 38 = .ok (.getfield 40, 3)) hU ho (by decide) rfl rfl ?_
    have q_10 := H.1
    replace H := H.2
    refine pu_g1 hC fg_X11_202 (by decide +kernel : decode cX11_drop 41 = .ok (.getfield 202, 3)) hU q_10 (by decide) rfl (by decide) ?_
    refine pr_iload_n hC (by decide +kernel : decode cX11_drop 44 = .ok (.iload_n 1, 1)) rfl ?_
    refine pr_iload_n hC (by decide +kernel : decode cX11_drop 45 = .ok (.iload_n 2, 1)) rfl ?_
    refine vc_Si hC hR [.int a1, .int a2] fv_X11_199 (by decide +kernel : decode cX11_drop 46 = .ok (.invokestatic 199, 3)) hU (t_X9_placeOf  H) rfl rfl (Nat.le_of_ble_eq_true rfl) (Nat.le_of_ble_eq_true rfl) (Nat.le_refl 0) (Nat.le_refl 0) (fun r_12 U_11 h H hU => ?_)
    refine pu_iald hC (by decide +kernel : decode cX11_drop 49 = .ok (.iaload, 1)) hU q_10 rfl H.1 ?_
    replace H := H.2
    refine pv_topi (fun x3_13 e_x3_13 => ?_)
    replace H := H x3_13 e_x3_13
    refine pr_istore_n hC (by decide +kernel : decode cX11_drop 50 = .ok (.istore_n 3, 1)) (by decide) rfl ?_
    refine pr_iload_n hC (by decide +kernel : decode cX11_drop 51 = .ok (.iload_n 3, 1)) rfl ?_
    refine pr_iconst hC (-1) (by decide +kernel : decode cX11_drop 52 = .ok (.iconst (-1), 1)) rfl ?_
    refine pr_icmp_ne hC 59 (by decide +kernel : decode cX11_drop 53 = .ok (.if_icmp .ne 6, 3)) (by decide) (fun c_53 => ?_) (fun c_53 => ?_)
    · replace H := H.2 c_53
      refine pr_aload_n hC (by decide +kernel : decode cX11_drop 59 = .ok (.aload_n 0, 1)) rfl ?_
      refine pr_aload_n hC (by decide +kernel : decode cX11_drop 60 = .ok (.aload_n 0, 1)) rfl ?_
      refine pu_g21 hC fg_X11_40 (by decide +kernel : decode cX11_drop 61 = .ok (.getfield 40, 3)) hU ho (by decide) rfl rfl ?_
      have q_14 := H.1
      replace H := H.2
      refine vc_Vv hC hR [.ref (Y.2.1 (uR U_11 o 4))] fv_X11_230 (by decide +kernel : decode cX11_drop 64 = .ok (.invokevirtual 230, 3)) hU (t_X11_keep ho q_14 H) ho (by decide) rfl rfl rfl (Nat.le_of_ble_eq_true rfl) (Nat.le_of_ble_eq_true rfl) (Nat.le_refl 0) (Nat.le_refl 0) (fun U_15 h H hU => ?_)
      refine pr_aload_n hC (by decide +kernel : decode cX11_drop 67 = .ok (.aload_n 0, 1)) rfl ?_
      refine pu_g21 hC fg_X11_40 (by decide +kernel : decode cX11_drop 68 = .ok (.getfield 40, 3)) hU ho (by decide) rfl rfl ?_
      have q_17 := H.1
      replace H := H.2
      refine pr_iload_n hC (by decide +kernel : decode cX11_drop 71 = .ok (.iload_n 1, 1)) rfl ?_
      refine pr_iload_n hC (by decide +kernel : decode cX11_drop 72 = .ok (.iload_n 2, 1)) rfl ?_
      refine vc_Vv hC hR [.int a1, .int a2] fv_X11_237 (by decide +kernel : decode cX11_drop 73 = .ok (.invokevirtual 237, 3)) hU (t_X6_rise q_17 H) q_17 (by decide) rfl rfl rfl (Nat.le_of_ble_eq_true rfl) (Nat.le_of_ble_eq_true rfl) (Nat.le_refl 0) (Nat.le_refl 0) (fun U_18 h H hU => ?_)
      refine pr_iload_n hC (by decide +kernel : decode cX11_drop 76 = .ok (.iload_n 3, 1)) rfl ?_
      exact pv_iret hM (by decide +kernel : decode cX11_drop 77 = .ok (.ireturn, 1)) hU H
    replace H := H.1 c_53
    refine pr_bipush hC (-2) (by decide +kernel : decode cX11_drop 56 = .ok (.bipush (-2), 2)) rfl ?_
    exact pv_iret hM (by decide +kernel : decode cX11_drop 58 = .ok (.ireturn, 1)) hU H
  replace H := H.2 c_31
  refine pr_bipush hC (-2) (by decide +kernel : decode cX11_drop 34 = .ok (.bipush (-2), 2)) rfl ?_
  exact pv_iret hM (by decide +kernel : decode cX11_drop 36 = .ok (.ireturn, 1)) hU H
def w_X11_swap (o : Nat) (a1 : Int32) (a2 : Int32) (a3 : Int32) (a4 : Int32) (U : Um) (post : Int32 → Um → Prop) : Prop :=
  oc (uR U o 4) = 5 ∧ w_X6_exchangeable (uR U o 4) a1 a2 a3 a4 U (fun r_3 U_2 => (r_3 = 0 → oc (uR U_2 o 4) = 5 ∧ w_X11_keep o (uR U_2 o 4) U_2 (fun U_5 => oc (uR U_5 o 4) = 5 ∧ w_X6_trade (uR U_5 o 4) a1 a2 a3 a4 U_5 (fun U_8 => post r_3 U_8))) ∧ (¬ r_3 = 0 → post r_3 U_2))
set_option maxHeartbeats 4000000 in
theorem t_X11_swap {l : Launch} {Y : px_Y} {o : Nat} {a1 : Int32} {a2 : Int32} {a3 : Int32} {a4 : Int32} {U : Um} {post : Int32 → Um → Prop} (ho : oc o = 9) (H : w_X11_swap o a1 a2 a3 a4 U post) : um l Y 4 yX11_swap cX11_swap 6 (some (.int)) [.ref (Y.2.1 o), .int a1, .int a2, .int a3, .int a4] U (pq_i post) := by
  unfold w_X11_swap at H
  refine um_of (by decide) (Nat.le_of_ble_eq_true rfl) [some (.ref (Y.2.1 o)), some (.int a1), some (.int a2), some (.int a3), some (.int a4), none] rfl (fun X h0 hh sz hM hU => ?_)
  have hC := hM.1
  have hR := hM.2.2.1
  refine pr_aload_n hC (by decide +kernel : decode cX11_swap 0 = .ok (.aload_n 0, 1)) rfl ?_
  refine pu_g21 hC fg_X11_40 (by decide +kernel : decode cX11_swap 1 = .ok (.getfield 40, 3)) hU ho (by decide) rfl rfl ?_
  have q_1 := H.1
  replace H := H.2
  refine pr_iload_n hC (by decide +kernel : decode cX11_swap 4 = .ok (.iload_n 1, 1)) rfl ?_
  refine pr_iload_n hC (by decide +kernel : decode cX11_swap 5 = .ok (.iload_n 2, 1)) rfl ?_
  refine pr_iload_n hC (by decide +kernel : decode cX11_swap 6 = .ok (.iload_n 3, 1)) rfl ?_
  refine pr_iload hC (by decide +kernel : decode cX11_swap 7 = .ok (.iload 4, 2)) rfl ?_
  refine vc_Vi hC hR [.int a1, .int a2, .int a3, .int a4] fv_X11_241 (by decide +kernel : decode cX11_swap 9 = .ok (.invokevirtual 241, 3)) hU (t_X6_exchangeable q_1 H) q_1 (by decide) rfl rfl rfl (Nat.le_of_ble_eq_true rfl) (Nat.le_of_ble_eq_true rfl) (Nat.le_refl 0) (Nat.le_refl 0) (fun r_3 U_2 h H hU => ?_)
  refine pr_istore hC (by decide +kernel : decode cX11_swap 12 = .ok (.istore 5, 2)) (by decide) rfl ?_
  refine pr_iload hC (by decide +kernel : decode cX11_swap 14 = .ok (.iload 5, 2)) rfl ?_
  refine pr_if_ne hC 39 (by decide +kernel : decode cX11_swap 16 = .ok (.ifCond .ne 23, 3)) (by decide) (fun c_16 => ?_) (fun c_16 => ?_)
  · replace H := H.2 c_16
    refine pr_iload hC (by decide +kernel : decode cX11_swap 39 = .ok (.iload 5, 2)) rfl ?_
    exact pv_iret hM (by decide +kernel : decode cX11_swap 41 = .ok (.ireturn, 1)) hU H
  replace H := H.1 c_16
  refine pr_aload_n hC (by decide +kernel : decode cX11_swap 19 = .ok (.aload_n 0, 1)) rfl ?_
  refine pr_aload_n hC (by decide +kernel : decode cX11_swap 20 = .ok (.aload_n 0, 1)) rfl ?_
  refine pu_g21 hC fg_X11_40 (by decide +kernel : decode cX11_swap 21 = .ok (.getfield 40, 3)) hU ho (by decide) rfl rfl ?_
  have q_4 := H.1
  replace H := H.2
  refine vc_Vv hC hR [.ref (Y.2.1 (uR U_2 o 4))] fv_X11_230 (by decide +kernel : decode cX11_swap 24 = .ok (.invokevirtual 230, 3)) hU (t_X11_keep ho q_4 H) ho (by decide) rfl rfl rfl (Nat.le_of_ble_eq_true rfl) (Nat.le_of_ble_eq_true rfl) (Nat.le_refl 0) (Nat.le_refl 0) (fun U_5 h H hU => ?_)
  refine pr_aload_n hC (by decide +kernel : decode cX11_swap 27 = .ok (.aload_n 0, 1)) rfl ?_
  refine pu_g21 hC fg_X11_40 (by decide +kernel : decode cX11_swap 28 = .ok (.getfield 40, 3)) hU ho (by decide) rfl rfl ?_
  have q_7 := H.1
  replace H := H.2
  refine pr_iload_n hC (by decide +kernel : decode cX11_swap 31 = .ok (.iload_n 1, 1)) rfl ?_
  refine pr_iload_n hC (by decide +kernel : decode cX11_swap 32 = .ok (.iload_n 2, 1)) rfl ?_
  refine pr_iload_n hC (by decide +kernel : decode cX11_swap 33 = .ok (.iload_n 3, 1)) rfl ?_
  refine pr_iload hC (by decide +kernel : decode cX11_swap 34 = .ok (.iload 4, 2)) rfl ?_
  refine vc_Vv hC hR [.int a1, .int a2, .int a3, .int a4] fv_X11_245 (by decide +kernel : decode cX11_swap 36 = .ok (.invokevirtual 245, 3)) hU (t_X6_trade q_7 H) q_7 (by decide) rfl rfl rfl (Nat.le_of_ble_eq_true rfl) (Nat.le_of_ble_eq_true rfl) (Nat.le_refl 0) (Nat.le_refl 0) (fun U_8 h H hU => ?_)
  refine pr_iload hC (by decide +kernel : decode cX11_swap 39 = .ok (.iload 5, 2)) rfl ?_
  exact pv_iret hM (by decide +kernel : decode cX11_swap 41 = .ok (.ireturn, 1)) hU H
def w_X11_could (o : Nat) (a1 : Int32) (a2 : Int32) (a3 : Int32) (a4 : Int32) (U : Um) (post : Int32 → Um → Prop) : Prop :=
  oc (uR U o 4) = 5 ∧ w_X6_exchangeable (uR U o 4) a1 a2 a3 a4 U (fun r_3 U_2 => post r_3 U_2)
set_option maxHeartbeats 4000000 in
theorem t_X11_could {l : Launch} {Y : px_Y} {o : Nat} {a1 : Int32} {a2 : Int32} {a3 : Int32} {a4 : Int32} {U : Um} {post : Int32 → Um → Prop} (ho : oc o = 9) (H : w_X11_could o a1 a2 a3 a4 U post) : um l Y 3 yX11_could cX11_could 5 (some (.int)) [.ref (Y.2.1 o), .int a1, .int a2, .int a3, .int a4] U (pq_i post) := by
  unfold w_X11_could at H
  refine um_of (by decide) (Nat.le_of_ble_eq_true rfl) [some (.ref (Y.2.1 o)), some (.int a1), some (.int a2), some (.int a3), some (.int a4)] rfl (fun X h0 hh sz hM hU => ?_)
  have hC := hM.1
  have hR := hM.2.2.1
  refine pr_aload_n hC (by decide +kernel : decode cX11_could 0 = .ok (.aload_n 0, 1)) rfl ?_
  refine pu_g21 hC fg_X11_40 (by decide +kernel : decode cX11_could 1 = .ok (.getfield 40, 3)) hU ho (by decide) rfl rfl ?_
  have q_1 := H.1
  replace H := H.2
  refine pr_iload_n hC (by decide +kernel : decode cX11_could 4 = .ok (.iload_n 1, 1)) rfl ?_
  refine pr_iload_n hC (by decide +kernel : decode cX11_could 5 = .ok (.iload_n 2, 1)) rfl ?_
  refine pr_iload_n hC (by decide +kernel : decode cX11_could 6 = .ok (.iload_n 3, 1)) rfl ?_
  refine pr_iload hC (by decide +kernel : decode cX11_could 7 = .ok (.iload 4, 2)) rfl ?_
  refine vc_Vi hC hR [.int a1, .int a2, .int a3, .int a4] fv_X11_241 (by decide +kernel : decode cX11_could 9 = .ok (.invokevirtual 241, 3)) hU (t_X6_exchangeable q_1 H) q_1 (by decide) rfl rfl rfl (Nat.le_of_ble_eq_true rfl) (Nat.le_of_ble_eq_true rfl) (Nat.le_refl 0) (Nat.le_refl 0) (fun r_3 U_2 h H hU => ?_)
  exact pv_iret hM (by decide +kernel : decode cX11_could 12 = .ok (.ireturn, 1)) hU H
def b_X11_able_L19 (o0 : Nat) (x1 : Int32) (x2 : Int32) (post : Int32 → Um → Prop) (k_60 : Int32 → Um → Prop) (rec_ : Int32 → Int32 → Um → Prop) (x3 : Int32) (x4 : Int32) (U : Um) : Prop :=
  oc (uR U o0 2) = 8 ∧ vp_in 2 3 ∧ ((uA U (uR U o0 2) 1 (Int32.toNatClampNeg 2)) ≤ x4 → k_60 x3 U) ∧ (¬ (uA U (uR U o0 2) 1 (Int32.toNatClampNeg 2)) ≤ x4 → oc (uR U o0 4) = 5 ∧ w_X6_reason (uR U o0 4) x1 x2 x4 U (fun r_7 U_6 => (r_7 = 0 → ∀ (x3_8 : Int32), x3_8 = x3 ||| ((1 : Int32) <<< (x4 &&& 31)) → ∀ (x4_9 : Int32), x4_9 = x4 + 1 → rec_ x3_8 x4_9 U_6) ∧ (¬ r_7 = 0 → ∀ (x4_10 : Int32), x4_10 = x4 + 1 → rec_ x3 x4_10 U_6)))
def w_X11_able_L19 (o0 : Nat) (x1 : Int32) (x2 : Int32) (post : Int32 → Um → Prop) (k_60 : Int32 → Um → Prop) (n_ : Nat) : Int32 → Int32 → Um → Prop := Nat.rec (motive := fun _ => Int32 → Int32 → Um → Prop) (fun _ _ _ => False) (fun _ ih => b_X11_able_L19 o0 x1 x2 post k_60 ih) n_
def w_X11_able (o : Nat) (a1 : Int32) (a2 : Int32) (U : Um) (post : Int32 → Um → Prop) : Prop :=
  oc (uR U o 2) = 8 ∧ w_X9_isSeat (uR U o 2) a1 a2 U (fun r_3 U_2 => (r_3 = 0 → post (-1) U_2) ∧ (¬ r_3 = 0 → (∃ n_13, w_X11_able_L19 o a1 a2 post (fun x3_11 U_12 => post x3_11 U_12) n_13 0 0 U_2)))
set_option maxHeartbeats 4000000 in
theorem tl_X11_able_L19 {l : Launch} {Y : px_Y} {X : px_X} {h0 hh : pe_H} {sz : Nat} (o0 : Nat) (x1 : Int32) (x2 : Int32) (post : Int32 → Um → Prop) (k_60 : Int32 → Um → Prop) (ho0 : oc o0 = 9)  (hC : px_C X Y.1 (pm_A hh sz) cX11_able RX11 5) (hM : px_M l X Y.1 hh sz yX11_able cX11_able 5 (some (.int)) 3 0 0) (hR : X.2.2.2.1 = pm_rm 3 0 0) (hk_60 : ∀ (y3 : Int32) (U : Um) (h : pe_H), k_60 y3 U → rF Y h0 U h → pw X Y.1 (pm_A hh sz) (pm_E X Y.1 hh sz 0 0 (pm_P Y h0 sz (pq_i post))) 60 [none, none, none, some (.int y3), none] [] h sz 0 0) : ∀ (n_ : Nat) (x3 : Int32) (x4 : Int32) (U : Um) (h : pe_H), rF Y h0 U h → w_X11_able_L19 o0 x1 x2 post k_60 n_ x3 x4 U → pw X Y.1 (pm_A hh sz) (pm_E X Y.1 hh sz 0 0 (pm_P Y h0 sz (pq_i post))) 19 [some (.ref (Y.2.1 o0)), some (.int x1), some (.int x2), some (.int x3), some (.int x4)] [] h sz 0 0 := by
  intro n_
  induction n_ with
  | zero => intro x3 x4 U h hU H; exact False.elim H
  | succ n_ ih =>
    intro x3 x4 U h hU H
    replace H : b_X11_able_L19 o0 x1 x2 post k_60 (w_X11_able_L19 o0 x1 x2 post k_60 n_) x3 x4 U := H
    unfold b_X11_able_L19 at H
    refine pr_iload hC (by decide +kernel : decode cX11_able 19 = .ok (.iload 4, 2)) rfl ?_
    refine pr_aload_n hC (by decide +kernel : decode cX11_able 21 = .ok (.aload_n 0, 1)) rfl ?_
    refine pu_g21 hC fg_X11_28 (by decide +kernel : decode cX11_able 22 = .ok (.getfield 28, 3)) hU ho0 (by decide) rfl rfl ?_
    have q_4 := H.1
    replace H := H.2
    refine pu_g1 hC fg_X11_94 (by decide +kernel : decode cX11_able 25 = .ok (.getfield 94, 3)) hU q_4 (by decide) rfl (by decide) ?_
    refine pr_iconst hC (2) (by decide +kernel : decode cX11_able 28 = .ok (.iconst 2, 1)) rfl ?_
    refine pu_iald hC (by decide +kernel : decode cX11_able 29 = .ok (.iaload, 1)) hU q_4 rfl H.1 ?_
    replace H := H.2
    refine pr_icmp_ge hC 60 (by decide +kernel : decode cX11_able 30 = .ok (.if_icmp .ge 30, 3)) (by decide) (fun c_30 => ?_) (fun c_30 => ?_)
    · replace H := H.1 c_30
      exact pv_sub [none, none, none, some (.int x3), none] (And.intro rfl trivial) (hk_60 _ U h H hU)
    replace H := H.2 c_30
    refine pr_aload_n hC (by decide +kernel : decode cX11_able 33 = .ok (.aload_n 0, 1)) rfl ?_
    refine pu_g21 hC fg_X11_40 (by decide +kernel : decode cX11_able 34 = .ok (.getfield 40, 3)) hU ho0 (by decide) rfl rfl ?_
    have q_5 := H.1
    replace H := H.2
    refine pr_iload_n hC (by decide +kernel : decode cX11_able 37 = .ok (.iload_n 1, 1)) rfl ?_
    refine pr_iload_n hC (by decide +kernel : decode cX11_able 38 = .ok (.iload_n 2, 1)) rfl ?_
    refine pr_iload hC (by decide +kernel : decode cX11_able 39 = .ok (.iload 4, 2)) rfl ?_
    refine vc_Vi hC hR [.int x1, .int x2, .int x4] fv_X11_226 (by decide +kernel : decode cX11_able 41 = .ok (.invokevirtual 226, 3)) hU (t_X6_reason q_5 H) q_5 (by decide) rfl rfl rfl (Nat.le_of_ble_eq_true rfl) (Nat.le_of_ble_eq_true rfl) (Nat.le_refl 0) (Nat.le_refl 0) (fun r_7 U_6 h H hU => ?_)
    refine pr_if_ne hC 54 (by decide +kernel : decode cX11_able 44 = .ok (.ifCond .ne 10, 3)) (by decide) (fun c_44 => ?_) (fun c_44 => ?_)
    · replace H := H.2 c_44
      refine pv_iinc hC (v := x4 + 1) (by decide +kernel : decode cX11_able 54 = .ok (.iinc 4 1, 3)) rfl (by decide) rfl rfl (fun x4_10 e_x4_10 => ?_)
      replace H := H x4_10 e_x4_10
      refine pr_goto hC 19 (by decide +kernel : decode cX11_able 57 = .ok (.goto (-38), 3)) (by decide) ?_
      exact pv_sub [some (.ref (Y.2.1 o0)), some (.int x1), some (.int x2), some (.int x3), some (.int x4_10)] (And.intro rfl (And.intro rfl (And.intro rfl (And.intro rfl (And.intro rfl trivial))))) (ih _ _ U_6 h hU H)
    replace H := H.1 c_44
    refine pr_iload_n hC (by decide +kernel : decode cX11_able 47 = .ok (.iload_n 3, 1)) rfl ?_
    refine pr_iconst hC (1) (by decide +kernel : decode cX11_able 48 = .ok (.iconst 1, 1)) rfl ?_
    refine pr_iload hC (by decide +kernel : decode cX11_able 49 = .ok (.iload 4, 2)) rfl ?_
    refine pr_ishl hC (by decide +kernel : decode cX11_able 51 = .ok (.ishl, 1)) ?_
    refine pr_ior hC (by decide +kernel : decode cX11_able 52 = .ok (.ior, 1)) ?_
    refine pv_topi (fun x3_8 e_x3_8 => ?_)
    replace H := H x3_8 e_x3_8
    refine pr_istore_n hC (by decide +kernel : decode cX11_able 53 = .ok (.istore_n 3, 1)) (by decide) rfl ?_
    refine pv_iinc hC (v := x4 + 1) (by decide +kernel : decode cX11_able 54 = .ok (.iinc 4 1, 3)) rfl (by decide) rfl rfl (fun x4_9 e_x4_9 => ?_)
    replace H := H x4_9 e_x4_9
    refine pr_goto hC 19 (by decide +kernel : decode cX11_able 57 = .ok (.goto (-38), 3)) (by decide) ?_
    exact pv_sub [some (.ref (Y.2.1 o0)), some (.int x1), some (.int x2), some (.int x3_8), some (.int x4_9)] (And.intro rfl (And.intro rfl (And.intro rfl (And.intro rfl (And.intro rfl trivial))))) (ih _ _ U_6 h hU H)
set_option maxHeartbeats 4000000 in
theorem t_X11_able {l : Launch} {Y : px_Y} {o : Nat} {a1 : Int32} {a2 : Int32} {U : Um} {post : Int32 → Um → Prop} (ho : oc o = 9) (H : w_X11_able o a1 a2 U post) : um l Y 3 yX11_able cX11_able 5 (some (.int)) [.ref (Y.2.1 o), .int a1, .int a2] U (pq_i post) := by
  unfold w_X11_able at H
  refine um_of (by decide) (Nat.le_of_ble_eq_true rfl) [some (.ref (Y.2.1 o)), some (.int a1), some (.int a2), none, none] rfl (fun X h0 hh sz hM hU => ?_)
  have hC := hM.1
  have hR := hM.2.2.1
  refine pr_aload_n hC (by decide +kernel : decode cX11_able 0 = .ok (.aload_n 0, 1)) rfl ?_
  refine pu_g21 hC fg_X11_28 (by decide +kernel : decode cX11_able 1 = .ok (.getfield 28, 3)) hU ho (by decide) rfl rfl ?_
  have q_1 := H.1
  replace H := H.2
  refine pr_iload_n hC (by decide +kernel : decode cX11_able 4 = .ok (.iload_n 1, 1)) rfl ?_
  refine pr_iload_n hC (by decide +kernel : decode cX11_able 5 = .ok (.iload_n 2, 1)) rfl ?_
  refine vc_Vi hC hR [.int a1, .int a2] fv_X11_196 (by decide +kernel : decode cX11_able 6 = .ok (.invokevirtual 196, 3)) hU (t_X9_isSeat q_1 H) q_1 (by decide) rfl rfl rfl (Nat.le_of_ble_eq_true rfl) (Nat.le_of_ble_eq_true rfl) (Nat.le_refl 0) (Nat.le_refl 0) (fun r_3 U_2 h H hU => ?_)
  refine pr_if_ne hC 14 (by decide +kernel : decode cX11_able 9 = .ok (.ifCond .ne 5, 3)) (by decide) (fun c_9 => ?_) (fun c_9 => ?_)
  · replace H := H.2 c_9
    refine pr_iconst hC (0) (by decide +kernel : decode cX11_able 14 = .ok (.iconst 0, 1)) rfl ?_
    refine pr_istore_n hC (by decide +kernel : decode cX11_able 15 = .ok (.istore_n 3, 1)) (by decide) rfl ?_
    refine pr_iconst hC (0) (by decide +kernel : decode cX11_able 16 = .ok (.iconst 0, 1)) rfl ?_
    refine pr_istore hC (by decide +kernel : decode cX11_able 17 = .ok (.istore 4, 2)) (by decide) rfl ?_
    obtain ⟨n_13, H⟩ := H
    refine pv_sub [some (.ref (Y.2.1 o)), some (.int a1), some (.int a2), some (.int 0), some (.int 0)] (And.intro rfl (And.intro rfl (And.intro rfl (And.intro rfl (And.intro rfl trivial))))) ?_
    refine tl_X11_able_L19 _ _ _ _ _ ho hC hM hR (fun x3_11 U_12 h H hU => ?_) n_13 _ _ U_2 h hU H
    refine pr_iload_n hC (by decide +kernel : decode cX11_able 60 = .ok (.iload_n 3, 1)) rfl ?_
    exact pv_iret hM (by decide +kernel : decode cX11_able 61 = .ok (.ireturn, 1)) hU H
  replace H := H.1 c_9
  refine pr_iconst hC (-1) (by decide +kernel : decode cX11_able 12 = .ok (.iconst (-1), 1)) rfl ?_
  exact pv_iret hM (by decide +kernel : decode cX11_able 13 = .ok (.ireturn, 1)) hU H
