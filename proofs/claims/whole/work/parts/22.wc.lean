def w_X4_expectNoLaw (o : Nat) (U : Um) (post : Um → Prop) : Prop :=
  uR U o 1 ≠ 99 ∧ oc (uR U o 1) = 8 ∧ oc (uR U (uR U o 1) 11) = 2 ∧ ((uI U (uR U (uR U o 1) 11) 1) ≤ 0 → post U) ∧ (¬ (uI U (uR U (uR U o 1) 11) 1) ≤ 0 → w_X4_fail o 4 (uI U o 4) U (fun U_3 => post U_3))
set_option maxHeartbeats 4000000 in
theorem t_X4_expectNoLaw {l : Launch} {Y : px_Y} {o : Nat} {U : Um} {post : Um → Prop} (ho : oc o = 3) (H : w_X4_expectNoLaw o U post) : um l Y 1 yX4_expectNoLaw cX4_expectNoLaw 1 none [.ref (Y.2.1 o)] U (pq_v post) := by
  unfold w_X4_expectNoLaw at H
  refine um_of (by decide) (Nat.le_of_ble_eq_true rfl) [some (.ref (Y.2.1 o))] rfl (fun X h0 hh sz hM hU => ?_)
  have hC := hM.1
  have hR := hM.2.2.1
  refine pr_aload_n hC (by decide +kernel : decode cX4_expectNoLaw 0 = .ok (.aload_n 0, 1)) rfl ?_
  refine pu_g22 hC fg_X4_19 (by decide +kernel : decode cX4_expectNoLaw 1 = .ok (.getfield 19, 3)) hU ho (by decide) rfl rfl H.1 ?_
  replace H := H.2
  have q_1 := H.1
  replace H := H.2
  refine pu_g21 hC fg_X4_228 (by decide +kernel : decode cX4_expectNoLaw 4 = .ok (.getfield 228, 3)) hU q_1 (by decide) rfl rfl ?_
  have q_2 := H.1
  replace H := H.2
  refine pu_g0 hC fg_X4_232 (by decide +kernel : decode cX4_expectNoLaw 7 = .ok (.getfield 232, 3)) hU q_2 (by decide) rfl rfl ?_
  refine pr_if_le hC 22 (by decide +kernel : decode cX4_expectNoLaw 10 = .ok (.ifCond .le 12, 3)) (by decide) (fun c_10 => ?_) (fun c_10 => ?_)
  · replace H := H.1 c_10
    exact pv_vret hM (by decide +kernel : decode cX4_expectNoLaw 22 = .ok (.return_, 1)) hU H
  replace H := H.2 c_10
  refine pr_aload_n hC (by decide +kernel : decode cX4_expectNoLaw 13 = .ok (.aload_n 0, 1)) rfl ?_
  refine pr_iconst hC (4) (by decide +kernel : decode cX4_expectNoLaw 14 = .ok (.iconst 4, 1)) rfl ?_
  refine pr_aload_n hC (by decide +kernel : decode cX4_expectNoLaw 15 = .ok (.aload_n 0, 1)) rfl ?_
  refine pu_g0 hC fg_X4_49 (by decide +kernel : decode cX4_expectNoLaw 16 = .ok (.getfield 49, 3)) hU ho (by decide) rfl rfl ?_
  refine vc_Vv hC hR [.int 4, .int (uI U o 4)] fv_X4_61 (by decide +kernel : decode cX4_expectNoLaw 19 = .ok (.invokevirtual 61, 3)) hU (t_X4_fail ho H) ho (by decide) rfl rfl rfl (Nat.le_of_ble_eq_true rfl) (Nat.le_of_ble_eq_true rfl) (Nat.le_refl 0) (Nat.le_refl 0) (fun U_3 h H hU => ?_)
  exact pv_vret hM (by decide +kernel : decode cX4_expectNoLaw 22 = .ok (.return_, 1)) hU H
def w_X4_expectSign (o : Nat) (a1 : Int32) (U : Um) (post : Um → Prop) : Prop :=
  ((uI U o 2) = 0 → oc (uR U o 0) = 7 ∧ ((uI U (uR U o 0) 7) = a1 → oc (uR U o 0) = 7 ∧ w_X8_advance (uR U o 0) U (fun U_3 => post U_3)) ∧ (¬ (uI U (uR U o 0) 7) = a1 → oc (uR U o 0) = 7 ∧ w_X4_fail o 1 (uI U (uR U o 0) 2) U (fun U_6 => post U_6))) ∧ (¬ (uI U o 2) = 0 → post U)
set_option maxHeartbeats 4000000 in
theorem t_X4_expectSign {l : Launch} {Y : px_Y} {o : Nat} {a1 : Int32} {U : Um} {post : Um → Prop} (ho : oc o = 3) (H : w_X4_expectSign o a1 U post) : um l Y 1 yX4_expectSign cX4_expectSign 2 none [.ref (Y.2.1 o), .int a1] U (pq_v post) := by
  unfold w_X4_expectSign at H
  refine um_of (by decide) (Nat.le_of_ble_eq_true rfl) [some (.ref (Y.2.1 o)), some (.int a1)] rfl (fun X h0 hh sz hM hU => ?_)
  have hC := hM.1
  have hR := hM.2.2.1
  refine pr_aload_n hC (by decide +kernel : decode cX4_expectSign 0 = .ok (.aload_n 0, 1)) rfl ?_
  refine pu_g0 hC fg_X4_28 (by decide +kernel : decode cX4_expectSign 1 = .ok (.getfield 28, 3)) hU ho (by decide) rfl rfl ?_
  refine pr_if_ne hC 40 (by decide +kernel : decode cX4_expectSign 4 = .ok (.ifCond .ne 36, 3)) (by decide) (fun c_4 => ?_) (fun c_4 => ?_)
  · replace H := H.2 c_4
    exact pv_vret hM (by decide +kernel : decode cX4_expectSign 40 = .ok (.return_, 1)) hU H
  replace H := H.1 c_4
  refine pr_aload_n hC (by decide +kernel : decode cX4_expectSign 7 = .ok (.aload_n 0, 1)) rfl ?_
  refine pu_g21 hC fg_X4_9 (by decide +kernel : decode cX4_expectSign 8 = .ok (.getfield 9, 3)) hU ho (by decide) rfl rfl ?_
  have q_1 := H.1
  replace H := H.2
  refine pu_g0 hC fg_X4_240 (by decide +kernel : decode cX4_expectSign 11 = .ok (.getfield 240, 3)) hU q_1 (by decide) rfl rfl ?_
  refine pr_iload_n hC (by decide +kernel : decode cX4_expectSign 14 = .ok (.iload_n 1, 1)) rfl ?_
  refine pr_icmp_ne hC 28 (by decide +kernel : decode cX4_expectSign 15 = .ok (.if_icmp .ne 13, 3)) (by decide) (fun c_15 => ?_) (fun c_15 => ?_)
  · replace H := H.2 c_15
    refine pr_aload_n hC (by decide +kernel : decode cX4_expectSign 28 = .ok (.aload_n 0, 1)) rfl ?_
    refine pr_iconst hC (1) (by decide +kernel : decode cX4_expectSign 29 = .ok (.iconst 1, 1)) rfl ?_
    refine pr_aload_n hC (by decide +kernel : decode cX4_expectSign 30 = .ok (.aload_n 0, 1)) rfl ?_
    refine pu_g21 hC fg_X4_9 (by decide +kernel : decode cX4_expectSign 31 = .ok (.getfield 9, 3)) hU ho (by decide) rfl rfl ?_
    have q_5 := H.1
    replace H := H.2
    refine pu_g0 hC fg_X4_46 (by decide +kernel : decode cX4_expectSign 34 = .ok (.getfield 46, 3)) hU q_5 (by decide) rfl rfl ?_
    refine vc_Vv hC hR [.int 1, .int (uI U (uR U o 0) 2)] fv_X4_61 (by decide +kernel : decode cX4_expectSign 37 = .ok (.invokevirtual 61, 3)) hU (t_X4_fail ho H) ho (by decide) rfl rfl rfl (Nat.le_of_ble_eq_true rfl) (Nat.le_of_ble_eq_true rfl) (Nat.le_refl 0) (Nat.le_refl 0) (fun U_6 h H hU => ?_)
    exact pv_vret hM (by decide +kernel : decode cX4_expectSign 40 = .ok (.return_, 1)) hU H
  replace H := H.1 c_15
  refine pr_aload_n hC (by decide +kernel : decode cX4_expectSign 18 = .ok (.aload_n 0, 1)) rfl ?_
  refine pu_g21 hC fg_X4_9 (by decide +kernel : decode cX4_expectSign 19 = .ok (.getfield 9, 3)) hU ho (by decide) rfl rfl ?_
  have q_2 := H.1
  replace H := H.2
  refine vc_Vv hC hR [] fv_X4_65 (by decide +kernel : decode cX4_expectSign 22 = .ok (.invokevirtual 65, 3)) hU (t_X8_advance q_2 H) q_2 (by decide) rfl rfl rfl (Nat.le_of_ble_eq_true rfl) (Nat.le_of_ble_eq_true rfl) (Nat.le_refl 0) (Nat.le_refl 0) (fun U_3 h H hU => ?_)
  refine pr_goto hC 40 (by decide +kernel : decode cX4_expectSign 25 = .ok (.goto 15, 3)) (by decide) ?_
  exact pv_vret hM (by decide +kernel : decode cX4_expectSign 40 = .ok (.return_, 1)) hU H
def b_X4_readAtom (rec : Nat → Int32 → Um → (Um → Prop) → Prop) (o : Nat) (a1 : Int32) (U : Um) (post : Um → Prop) : Prop :=
  ((uI U o 2) = 0 → oc (uR U o 0) = 7 ∧ w_X10_of (uI U (uR U o 0) 5) U (fun r_3 U_2 => (r_3 = 99 → oc (uR U_2 o 0) = 7 ∧ ((uI U_2 (uR U_2 o 0) 6) = (-1) → oc (uR U_2 o 0) = 7 ∧ ((uI U_2 (uR U_2 o 0) 7) = 40 → (a1 < 4 → oc (uR U_2 o 0) = 7 ∧ w_X8_advance (uR U_2 o 0) U_2 (fun U_7 => rec o (a1 + 1) U_7 (fun U_9 => w_X4_expectSign o 41 U_9 (fun U_11 => post U_11)))) ∧ (¬ a1 < 4 → oc (uR U_2 o 0) = 7 ∧ w_X4_fail o 5 (uI U_2 (uR U_2 o 0) 2) U_2 (fun U_14 => post U_14))) ∧ (¬ (uI U_2 (uR U_2 o 0) 7) = 40 → oc (uR U_2 o 0) = 7 ∧ w_X4_fail o 1 (uI U_2 (uR U_2 o 0) 2) U_2 (fun U_17 => post U_17))) ∧ (¬ (uI U_2 (uR U_2 o 0) 6) = (-1) → uR U_2 o 1 ≠ 99 ∧ oc (uR U_2 o 1) = 8 ∧ oc (uR U_2 (uR U_2 o 1) 11) = 2 ∧ oc (uR U_2 o 0) = 7 ∧ w_X3_add (uR U_2 (uR U_2 o 1) 11) (uI U_2 (uR U_2 o 0) 6) U_2 (fun U_22 => oc (uR U_22 o 0) = 7 ∧ w_X8_advance (uR U_22 o 0) U_22 (fun U_25 => post U_25)))) ∧ (r_3 < 23 → oc (uR U_2 o 0) = 7 ∧ ((uI U_2 (uR U_2 o 0) 6) = (-1) → ((wasks r_3) = 0 → oc (uR U_2 o 0) = 7 ∧ ((uI U_2 (uR U_2 o 0) 7) = 40 → (a1 < 4 → oc (uR U_2 o 0) = 7 ∧ w_X8_advance (uR U_2 o 0) U_2 (fun U_30 => rec o (a1 + 1) U_30 (fun U_32 => w_X4_expectSign o 41 U_32 (fun U_34 => post U_34)))) ∧ (¬ a1 < 4 → oc (uR U_2 o 0) = 7 ∧ w_X4_fail o 5 (uI U_2 (uR U_2 o 0) 2) U_2 (fun U_37 => post U_37))) ∧ (¬ (uI U_2 (uR U_2 o 0) 7) = 40 → oc (uR U_2 o 0) = 7 ∧ w_X4_fail o 1 (uI U_2 (uR U_2 o 0) 2) U_2 (fun U_40 => post U_40))) ∧ (¬ (wasks r_3) = 0 → uR U_2 o 1 ≠ 99 ∧ oc (uR U_2 o 1) = 8 ∧ oc (uR U_2 (uR U_2 o 1) 11) = 2 ∧ w_X3_add (uR U_2 (uR U_2 o 1) 11) (wasks r_3) U_2 (fun U_44 => oc (uR U_44 o 0) = 7 ∧ w_X8_advance (uR U_44 o 0) U_44 (fun U_47 => post U_47)))) ∧ (¬ (uI U_2 (uR U_2 o 0) 6) = (-1) → uR U_2 o 1 ≠ 99 ∧ oc (uR U_2 o 1) = 8 ∧ oc (uR U_2 (uR U_2 o 1) 11) = 2 ∧ oc (uR U_2 o 0) = 7 ∧ w_X3_add (uR U_2 (uR U_2 o 1) 11) (uI U_2 (uR U_2 o 0) 6) U_2 (fun U_52 => oc (uR U_52 o 0) = 7 ∧ w_X8_advance (uR U_52 o 0) U_52 (fun U_55 => post U_55)))))) ∧ (¬ (uI U o 2) = 0 → post U)
set_option maxHeartbeats 4000000 in
theorem tb_X4_readAtom {l : Launch} {Y : px_Y} {dd : Nat} {rec : Nat → Int32 → Um → (Um → Prop) → Prop} (hrec : ∀ (l : Launch) (o : Nat) (a0 : Int32) (U : Um) (post : Um → Prop), oc o = 3 → rec o a0 U post → um l Y dd yX4_readSum cX4_readSum 4 none [.ref (Y.2.1 o), .int a0] U (pq_v post)) (hD : 3 ≤ dd) {o : Nat} {a1 : Int32} {U : Um} {post : Um → Prop} (ho : oc o = 3) (H : b_X4_readAtom rec o a1 U post) : um l Y (dd + 1) yX4_readAtom cX4_readAtom 3 none [.ref (Y.2.1 o), .int a1] U (pq_v post) := by
  unfold b_X4_readAtom at H
  refine um_of (by decide) (Nat.le_of_ble_eq_true rfl) [some (.ref (Y.2.1 o)), some (.int a1), none] rfl (fun X h0 hh sz hM hU => ?_)
  have hC := hM.1
  have hR := hM.2.2.1
  refine pr_aload_n hC (by decide +kernel : decode cX4_readAtom 0 = .ok (.aload_n 0, 1)) rfl ?_
  refine pu_g0 hC fg_X4_28 (by decide +kernel : decode cX4_readAtom 1 = .ok (.getfield 28, 3)) hU ho (by decide) rfl rfl ?_
  refine pr_if_eq hC 8 (by decide +kernel : decode cX4_readAtom 4 = .ok (.ifCond .eq 4, 3)) (by decide) (fun c_4 => ?_) (fun c_4 => ?_)
  · replace H := H.1 c_4
    refine pr_aload_n hC (by decide +kernel : decode cX4_readAtom 8 = .ok (.aload_n 0, 1)) rfl ?_
    refine pu_g21 hC fg_X4_9 (by decide +kernel : decode cX4_readAtom 9 = .ok (.getfield 9, 3)) hU ho (by decide) rfl rfl ?_
    have q_1 := H.1
    replace H := H.2
    refine pu_g0 hC fg_X4_52 (by decide +kernel : decode cX4_readAtom 12 = .ok (.getfield 52, 3)) hU q_1 (by decide) rfl rfl ?_
    refine vc_Sw hC hR [.int (uI U (uR U o 0) 5)] fv_X4_55 (by decide +kernel : decode cX4_readAtom 15 = .ok (.invokestatic 55, 3)) hU (t_X10_of  H) rfl rfl (Nat.le_of_ble_eq_true rfl) (by omega) (Nat.le_refl 0) (Nat.le_refl 0) (fun U_2 h H hU => ?_) (fun r_3 U_2 h hw_r_3 H hU => ?_)
    · replace H := H.1 rfl
      refine pr_astore_nN hC (by decide +kernel : decode cX4_readAtom 18 = .ok (.astore_n 2, 1)) (by decide) rfl ?_
      refine pr_aload_n hC (by decide +kernel : decode cX4_readAtom 19 = .ok (.aload_n 0, 1)) rfl ?_
      refine pu_g21 hC fg_X4_9 (by decide +kernel : decode cX4_readAtom 20 = .ok (.getfield 9, 3)) hU ho (by decide) rfl rfl ?_
      have q_4 := H.1
      replace H := H.2
      refine pu_g0 hC fg_X4_249 (by decide +kernel : decode cX4_readAtom 23 = .ok (.getfield 249, 3)) hU q_4 (by decide) rfl rfl ?_
      refine pr_iconst hC (-1) (by decide +kernel : decode cX4_readAtom 26 = .ok (.iconst (-1), 1)) rfl ?_
      refine pr_icmp_eq hC 57 (by decide +kernel : decode cX4_readAtom 27 = .ok (.if_icmp .eq 30, 3)) (by decide) (fun c_27 => ?_) (fun c_27 => ?_)
      · replace H := H.1 c_27
        refine pr_aload_nN hC (by decide +kernel : decode cX4_readAtom 57 = .ok (.aload_n 2, 1)) rfl ?_
        refine pr_ifnullN hC 92 (by decide +kernel : decode cX4_readAtom 58 = .ok (.ifnull 34, 3)) (by decide) ?_
        refine pr_aload_n hC (by decide +kernel : decode cX4_readAtom 92 = .ok (.aload_n 0, 1)) rfl ?_
        refine pu_g21 hC fg_X4_9 (by decide +kernel : decode cX4_readAtom 93 = .ok (.getfield 9, 3)) hU ho (by decide) rfl rfl ?_
        have q_5 := H.1
        replace H := H.2
        refine pu_g0 hC fg_X4_240 (by decide +kernel : decode cX4_readAtom 96 = .ok (.getfield 240, 3)) hU q_5 (by decide) rfl rfl ?_
        refine pr_bipush hC (40) (by decide +kernel : decode cX4_readAtom 99 = .ok (.bipush 40, 2)) rfl ?_
        refine pr_icmp_eq hC 119 (by decide +kernel : decode cX4_readAtom 101 = .ok (.if_icmp .eq 18, 3)) (by decide) (fun c_101 => ?_) (fun c_101 => ?_)
        · replace H := H.1 c_101
          refine pr_iload_n hC (by decide +kernel : decode cX4_readAtom 119 = .ok (.iload_n 1, 1)) rfl ?_
          refine pr_iconst hC (4) (by decide +kernel : decode cX4_readAtom 120 = .ok (.iconst 4, 1)) rfl ?_
          refine pr_icmp_lt hC 139 (by decide +kernel : decode cX4_readAtom 121 = .ok (.if_icmp .lt 18, 3)) (by decide) (fun c_121 => ?_) (fun c_121 => ?_)
          · replace H := H.1 c_121
            refine pr_aload_n hC (by decide +kernel : decode cX4_readAtom 139 = .ok (.aload_n 0, 1)) rfl ?_
            refine pu_g21 hC fg_X4_9 (by decide +kernel : decode cX4_readAtom 140 = .ok (.getfield 9, 3)) hU ho (by decide) rfl rfl ?_
            have q_6 := H.1
            replace H := H.2
            refine vc_Vv hC hR [] fv_X4_65 (by decide +kernel : decode cX4_readAtom 143 = .ok (.invokevirtual 65, 3)) hU (t_X8_advance q_6 H) q_6 (by decide) rfl rfl rfl (Nat.le_of_ble_eq_true rfl) (by omega) (Nat.le_refl 0) (Nat.le_refl 0) (fun U_7 h H hU => ?_)
            refine pr_aload_n hC (by decide +kernel : decode cX4_readAtom 146 = .ok (.aload_n 0, 1)) rfl ?_
            refine pr_iload_n hC (by decide +kernel : decode cX4_readAtom 147 = .ok (.iload_n 1, 1)) rfl ?_
            refine pr_iconst hC (1) (by decide +kernel : decode cX4_readAtom 148 = .ok (.iconst 1, 1)) rfl ?_
            refine pr_iadd hC (by decide +kernel : decode cX4_readAtom 149 = .ok (.iadd, 1)) ?_
            refine vc_Vv hC hR [.int (a1 + 1)] fv_X4_103 (by decide +kernel : decode cX4_readAtom 150 = .ok (.invokevirtual 103, 3)) hU (hrec _ _ _ _ _ ho H) ho (by decide) rfl rfl rfl (Nat.le_of_ble_eq_true rfl) (by omega) (Nat.le_refl 0) (Nat.le_refl 0) (fun U_9 h H hU => ?_)
            refine pr_aload_n hC (by decide +kernel : decode cX4_readAtom 153 = .ok (.aload_n 0, 1)) rfl ?_
            refine pr_bipush hC (41) (by decide +kernel : decode cX4_readAtom 154 = .ok (.bipush 41, 2)) rfl ?_
            refine vc_Vv hC hR [.int 41] fv_X4_107 (by decide +kernel : decode cX4_readAtom 156 = .ok (.invokevirtual 107, 3)) hU (t_X4_expectSign ho H) ho (by decide) rfl rfl rfl (Nat.le_of_ble_eq_true rfl) (by omega) (Nat.le_refl 0) (Nat.le_refl 0) (fun U_11 h H hU => ?_)
            exact pv_vret hM (by decide +kernel : decode cX4_readAtom 159 = .ok (.return_, 1)) hU H
          replace H := H.2 c_121
          refine pr_aload_n hC (by decide +kernel : decode cX4_readAtom 124 = .ok (.aload_n 0, 1)) rfl ?_
          refine pr_iconst hC (5) (by decide +kernel : decode cX4_readAtom 125 = .ok (.iconst 5, 1)) rfl ?_
          refine pr_aload_n hC (by decide +kernel : decode cX4_readAtom 126 = .ok (.aload_n 0, 1)) rfl ?_
          refine pu_g21 hC fg_X4_9 (by decide +kernel : decode cX4_readAtom 127 = .ok (.getfield 9, 3)) hU ho (by decide) rfl rfl ?_
          have q_13 := H.1
          replace H := H.2
          refine pu_g0 hC fg_X4_46 (by decide +kernel : decode cX4_readAtom 130 = .ok (.getfield 46, 3)) hU q_13 (by decide) rfl rfl ?_
          refine vc_Vv hC hR [.int 5, .int (uI U_2 (uR U_2 o 0) 2)] fv_X4_61 (by decide +kernel : decode cX4_readAtom 133 = .ok (.invokevirtual 61, 3)) hU (t_X4_fail ho H) ho (by decide) rfl rfl rfl (Nat.le_of_ble_eq_true rfl) (by omega) (Nat.le_refl 0) (Nat.le_refl 0) (fun U_14 h H hU => ?_)
          refine pr_goto hC 159 (by decide +kernel : decode cX4_readAtom 136 = .ok (.goto 23, 3)) (by decide) ?_
          exact pv_vret hM (by decide +kernel : decode cX4_readAtom 159 = .ok (.return_, 1)) hU H
        replace H := H.2 c_101
        refine pr_aload_n hC (by decide +kernel : decode cX4_readAtom 104 = .ok (.aload_n 0, 1)) rfl ?_
        refine pr_iconst hC (1) (by decide +kernel : decode cX4_readAtom 105 = .ok (.iconst 1, 1)) rfl ?_
        refine pr_aload_n hC (by decide +kernel : decode cX4_readAtom 106 = .ok (.aload_n 0, 1)) rfl ?_
        refine pu_g21 hC fg_X4_9 (by decide +kernel : decode cX4_readAtom 107 = .ok (.getfield 9, 3)) hU ho (by decide) rfl rfl ?_
        have q_16 := H.1
        replace H := H.2
        refine pu_g0 hC fg_X4_46 (by decide +kernel : decode cX4_readAtom 110 = .ok (.getfield 46, 3)) hU q_16 (by decide) rfl rfl ?_
        refine vc_Vv hC hR [.int 1, .int (uI U_2 (uR U_2 o 0) 2)] fv_X4_61 (by decide +kernel : decode cX4_readAtom 113 = .ok (.invokevirtual 61, 3)) hU (t_X4_fail ho H) ho (by decide) rfl rfl rfl (Nat.le_of_ble_eq_true rfl) (by omega) (Nat.le_refl 0) (Nat.le_refl 0) (fun U_17 h H hU => ?_)
        refine pr_goto hC 159 (by decide +kernel : decode cX4_readAtom 116 = .ok (.goto 43, 3)) (by decide) ?_
        exact pv_vret hM (by decide +kernel : decode cX4_readAtom 159 = .ok (.return_, 1)) hU H
      replace H := H.2 c_27
      refine pr_aload_n hC (by decide +kernel : decode cX4_readAtom 30 = .ok (.aload_n 0, 1)) rfl ?_
      refine pu_g22 hC fg_X4_19 (by decide +kernel : decode cX4_readAtom 31 = .ok (.getfield 19, 3)) hU ho (by decide) rfl rfl H.1 ?_
      replace H := H.2
      have q_19 := H.1
      replace H := H.2
      refine pu_g21 hC fg_X4_228 (by decide +kernel : decode cX4_readAtom 34 = .ok (.getfield 228, 3)) hU q_19 (by decide) rfl rfl ?_
      have q_20 := H.1
      replace H := H.2
      refine pr_aload_n hC (by decide +kernel : decode cX4_readAtom 37 = .ok (.aload_n 0, 1)) rfl ?_
      refine pu_g21 hC fg_X4_9 (by decide +kernel : decode cX4_readAtom 38 = .ok (.getfield 9, 3)) hU ho (by decide) rfl rfl ?_
      have q_21 := H.1
      replace H := H.2
      refine pu_g0 hC fg_X4_249 (by decide +kernel : decode cX4_readAtom 41 = .ok (.getfield 249, 3)) hU q_21 (by decide) rfl rfl ?_
      refine vc_Vv hC hR [.int (uI U_2 (uR U_2 o 0) 6)] fv_X4_243 (by decide +kernel : decode cX4_readAtom 44 = .ok (.invokevirtual 243, 3)) hU (t_X3_add q_20 H) q_20 (by decide) rfl rfl rfl (Nat.le_of_ble_eq_true rfl) (by omega) (Nat.le_refl 0) (Nat.le_refl 0) (fun U_22 h H hU => ?_)
      refine pr_aload_n hC (by decide +kernel : decode cX4_readAtom 47 = .ok (.aload_n 0, 1)) rfl ?_
      refine pu_g21 hC fg_X4_9 (by decide +kernel : decode cX4_readAtom 48 = .ok (.getfield 9, 3)) hU ho (by decide) rfl rfl ?_
      have q_24 := H.1
      replace H := H.2
      refine vc_Vv hC hR [] fv_X4_65 (by decide +kernel : decode cX4_readAtom 51 = .ok (.invokevirtual 65, 3)) hU (t_X8_advance q_24 H) q_24 (by decide) rfl rfl rfl (Nat.le_of_ble_eq_true rfl) (by omega) (Nat.le_refl 0) (Nat.le_refl 0) (fun U_25 h H hU => ?_)
      refine pr_goto hC 159 (by decide +kernel : decode cX4_readAtom 54 = .ok (.goto 105, 3)) (by decide) ?_
      exact pv_vret hM (by decide +kernel : decode cX4_readAtom 159 = .ok (.return_, 1)) hU H
    replace H := H.2 hw_r_3
    refine pr_astore_n hC (by decide +kernel : decode cX4_readAtom 18 = .ok (.astore_n 2, 1)) (by decide) rfl ?_
    refine pr_aload_n hC (by decide +kernel : decode cX4_readAtom 19 = .ok (.aload_n 0, 1)) rfl ?_
    refine pu_g21 hC fg_X4_9 (by decide +kernel : decode cX4_readAtom 20 = .ok (.getfield 9, 3)) hU ho (by decide) rfl rfl ?_
    have q_27 := H.1
    replace H := H.2
    refine pu_g0 hC fg_X4_249 (by decide +kernel : decode cX4_readAtom 23 = .ok (.getfield 249, 3)) hU q_27 (by decide) rfl rfl ?_
    refine pr_iconst hC (-1) (by decide +kernel : decode cX4_readAtom 26 = .ok (.iconst (-1), 1)) rfl ?_
    refine pr_icmp_eq hC 57 (by decide +kernel : decode cX4_readAtom 27 = .ok (.if_icmp .eq 30, 3)) (by decide) (fun c_27 => ?_) (fun c_27 => ?_)
    · replace H := H.1 c_27
      refine pr_aload_n hC (by decide +kernel : decode cX4_readAtom 57 = .ok (.aload_n 2, 1)) rfl ?_
      refine pr_ifnull hC (by decide +kernel : decode cX4_readAtom 58 = .ok (.ifnull 34, 3)) ?_
      refine pr_aload_n hC (by decide +kernel : decode cX4_readAtom 61 = .ok (.aload_n 2, 1)) rfl ?_
      refine pr_getW_asks hC fw_X4_252 (by decide +kernel : decode cX4_readAtom 62 = .ok (.getfield 252, 3)) hw_r_3 ?_
      refine pr_if_eq hC 92 (by decide +kernel : decode cX4_readAtom 65 = .ok (.ifCond .eq 27, 3)) (by decide) (fun c_65 => ?_) (fun c_65 => ?_)
      · replace H := H.1 c_65
        refine pr_aload_n hC (by decide +kernel : decode cX4_readAtom 92 = .ok (.aload_n 0, 1)) rfl ?_
        refine pu_g21 hC fg_X4_9 (by decide +kernel : decode cX4_readAtom 93 = .ok (.getfield 9, 3)) hU ho (by decide) rfl rfl ?_
        have q_28 := H.1
        replace H := H.2
        refine pu_g0 hC fg_X4_240 (by decide +kernel : decode cX4_readAtom 96 = .ok (.getfield 240, 3)) hU q_28 (by decide) rfl rfl ?_
        refine pr_bipush hC (40) (by decide +kernel : decode cX4_readAtom 99 = .ok (.bipush 40, 2)) rfl ?_
        refine pr_icmp_eq hC 119 (by decide +kernel : decode cX4_readAtom 101 = .ok (.if_icmp .eq 18, 3)) (by decide) (fun c_101 => ?_) (fun c_101 => ?_)
        · replace H := H.1 c_101
          refine pr_iload_n hC (by decide +kernel : decode cX4_readAtom 119 = .ok (.iload_n 1, 1)) rfl ?_
          refine pr_iconst hC (4) (by decide +kernel : decode cX4_readAtom 120 = .ok (.iconst 4, 1)) rfl ?_
          refine pr_icmp_lt hC 139 (by decide +kernel : decode cX4_readAtom 121 = .ok (.if_icmp .lt 18, 3)) (by decide) (fun c_121 => ?_) (fun c_121 => ?_)
          · replace H := H.1 c_121
            refine pr_aload_n hC (by decide +kernel : decode cX4_readAtom 139 = .ok (.aload_n 0, 1)) rfl ?_
            refine pu_g21 hC fg_X4_9 (by decide +kernel : decode cX4_readAtom 140 = .ok (.getfield 9, 3)) hU ho (by decide) rfl rfl ?_
            have q_29 := H.1
            replace H := H.2
            refine vc_Vv hC hR [] fv_X4_65 (by decide +kernel : decode cX4_readAtom 143 = .ok (.invokevirtual 65, 3)) hU (t_X8_advance q_29 H) q_29 (by decide) rfl rfl rfl (Nat.le_of_ble_eq_true rfl) (by omega) (Nat.le_refl 0) (Nat.le_refl 0) (fun U_30 h H hU => ?_)
            refine pr_aload_n hC (by decide +kernel : decode cX4_readAtom 146 = .ok (.aload_n 0, 1)) rfl ?_
            refine pr_iload_n hC (by decide +kernel : decode cX4_readAtom 147 = .ok (.iload_n 1, 1)) rfl ?_
            refine pr_iconst hC (1) (by decide +kernel : decode cX4_readAtom 148 = .ok (.iconst 1, 1)) rfl ?_
            refine pr_iadd hC (by decide +kernel : decode cX4_readAtom 149 = .ok (.iadd, 1)) ?_
            refine vc_Vv hC hR [.int (a1 + 1)] fv_X4_103 (by decide +kernel : decode cX4_readAtom 150 = .ok (.invokevirtual 103, 3)) hU (hrec _ _ _ _ _ ho H) ho (by decide) rfl rfl rfl (Nat.le_of_ble_eq_true rfl) (by omega) (Nat.le_refl 0) (Nat.le_refl 0) (fun U_32 h H hU => ?_)
            refine pr_aload_n hC (by decide +kernel : decode cX4_readAtom 153 = .ok (.aload_n 0, 1)) rfl ?_
            refine pr_bipush hC (41) (by decide +kernel : decode cX4_readAtom 154 = .ok (.bipush 41, 2)) rfl ?_
            refine vc_Vv hC hR [.int 41] fv_X4_107 (by decide +kernel : decode cX4_readAtom 156 = .ok (.invokevirtual 107, 3)) hU (t_X4_expectSign ho H) ho (by decide) rfl rfl rfl (Nat.le_of_ble_eq_true rfl) (by omega) (Nat.le_refl 0) (Nat.le_refl 0) (fun U_34 h H hU => ?_)
            exact pv_vret hM (by decide +kernel : decode cX4_readAtom 159 = .ok (.return_, 1)) hU H
          replace H := H.2 c_121
          refine pr_aload_n hC (by decide +kernel : decode cX4_readAtom 124 = .ok (.aload_n 0, 1)) rfl ?_
          refine pr_iconst hC (5) (by decide +kernel : decode cX4_readAtom 125 = .ok (.iconst 5, 1)) rfl ?_
          refine pr_aload_n hC (by decide +kernel : decode cX4_readAtom 126 = .ok (.aload_n 0, 1)) rfl ?_
          refine pu_g21 hC fg_X4_9 (by decide +kernel : decode cX4_readAtom 127 = .ok (.getfield 9, 3)) hU ho (by decide) rfl rfl ?_
          have q_36 := H.1
          replace H := H.2
          refine pu_g0 hC fg_X4_46 (by decide +kernel : decode cX4_readAtom 130 = .ok (.getfield 46, 3)) hU q_36 (by decide) rfl rfl ?_
          refine vc_Vv hC hR [.int 5, .int (uI U_2 (uR U_2 o 0) 2)] fv_X4_61 (by decide +kernel : decode cX4_readAtom 133 = .ok (.invokevirtual 61, 3)) hU (t_X4_fail ho H) ho (by decide) rfl rfl rfl (Nat.le_of_ble_eq_true rfl) (by omega) (Nat.le_refl 0) (Nat.le_refl 0) (fun U_37 h H hU => ?_)
          refine pr_goto hC 159 (by decide +kernel : decode cX4_readAtom 136 = .ok (.goto 23, 3)) (by decide) ?_
          exact pv_vret hM (by decide +kernel : decode cX4_readAtom 159 = .ok (.return_, 1)) hU H
        replace H := H.2 c_101
        refine pr_aload_n hC (by decide +kernel : decode cX4_readAtom 104 = .ok (.aload_n 0, 1)) rfl ?_
        refine pr_iconst hC (1) (by decide +kernel : decode cX4_readAtom 105 = .ok (.iconst 1, 1)) rfl ?_
        refine pr_aload_n hC (by decide +kernel : decode cX4_readAtom 106 = .ok (.aload_n 0, 1)) rfl ?_
        refine pu_g21 hC fg_X4_9 (by decide +kernel : decode cX4_readAtom 107 = .ok (.getfield 9, 3)) hU ho (by decide) rfl rfl ?_
        have q_39 := H.1
        replace H := H.2
        refine pu_g0 hC fg_X4_46 (by decide +kernel : decode cX4_readAtom 110 = .ok (.getfield 46, 3)) hU q_39 (by decide) rfl rfl ?_
        refine vc_Vv hC hR [.int 1, .int (uI U_2 (uR U_2 o 0) 2)] fv_X4_61 (by decide +kernel : decode cX4_readAtom 113 = .ok (.invokevirtual 61, 3)) hU (t_X4_fail ho H) ho (by decide) rfl rfl rfl (Nat.le_of_ble_eq_true rfl) (by omega) (Nat.le_refl 0) (Nat.le_refl 0) (fun U_40 h H hU => ?_)
        refine pr_goto hC 159 (by decide +kernel : decode cX4_readAtom 116 = .ok (.goto 43, 3)) (by decide) ?_
        exact pv_vret hM (by decide +kernel : decode cX4_readAtom 159 = .ok (.return_, 1)) hU H
      replace H := H.2 c_65
      refine pr_aload_n hC (by decide +kernel : decode cX4_readAtom 68 = .ok (.aload_n 0, 1)) rfl ?_
      refine pu_g22 hC fg_X4_19 (by decide +kernel : decode cX4_readAtom 69 = .ok (.getfield 19, 3)) hU ho (by decide) rfl rfl H.1 ?_
      replace H := H.2
      have q_42 := H.1
      replace H := H.2
      refine pu_g21 hC fg_X4_228 (by decide +kernel : decode cX4_readAtom 72 = .ok (.getfield 228, 3)) hU q_42 (by decide) rfl rfl ?_
      have q_43 := H.1
      replace H := H.2
      refine pr_aload_n hC (by decide +kernel : decode cX4_readAtom 75 = .ok (.aload_n 2, 1)) rfl ?_
      refine pr_getW_asks hC fw_X4_252 (by decide +kernel : decode cX4_readAtom 76 = .ok (.getfield 252, 3)) hw_r_3 ?_
      refine vc_Vv hC hR [.int (wasks r_3)] fv_X4_243 (by decide +kernel : decode cX4_readAtom 79 = .ok (.invokevirtual 243, 3)) hU (t_X3_add q_43 H) q_43 (by decide) rfl rfl rfl (Nat.le_of_ble_eq_true rfl) (by omega) (Nat.le_refl 0) (Nat.le_refl 0) (fun U_44 h H hU => ?_)
      refine pr_aload_n hC (by decide +kernel : decode cX4_readAtom 82 = .ok (.aload_n 0, 1)) rfl ?_
      refine pu_g21 hC fg_X4_9 (by decide +kernel : decode cX4_readAtom 83 = .ok (.getfield 9, 3)) hU ho (by decide) rfl rfl ?_
      have q_46 := H.1
      replace H := H.2
      refine vc_Vv hC hR [] fv_X4_65 (by decide +kernel : decode cX4_readAtom 86 = .ok (.invokevirtual 65, 3)) hU (t_X8_advance q_46 H) q_46 (by decide) rfl rfl rfl (Nat.le_of_ble_eq_true rfl) (by omega) (Nat.le_refl 0) (Nat.le_refl 0) (fun U_47 h H hU => ?_)
      refine pr_goto hC 159 (by decide +kernel : decode cX4_readAtom 89 = .ok (.goto 70, 3)) (by decide) ?_
      exact pv_vret hM (by decide +kernel : decode cX4_readAtom 159 = .ok (.return_, 1)) hU H
    replace H := H.2 c_27
    refine pr_aload_n hC (by decide +kernel : decode cX4_readAtom 30 = .ok (.aload_n 0, 1)) rfl ?_
    refine pu_g22 hC fg_X4_19 (by decide +kernel : decode cX4_readAtom 31 = .ok (.getfield 19, 3)) hU ho (by decide) rfl rfl H.1 ?_
    replace H := H.2
    have q_49 := H.1
    replace H := H.2
    refine pu_g21 hC fg_X4_228 (by decide +kernel : decode cX4_readAtom 34 = .ok (.getfield 228, 3)) hU q_49 (by decide) rfl rfl ?_
    have q_50 := H.1
    replace H := H.2
    refine pr_aload_n hC (by decide +kernel : decode cX4_readAtom 37 = .ok (.aload_n 0, 1)) rfl ?_
    refine pu_g21 hC fg_X4_9 (by decide +kernel : decode cX4_readAtom 38 = .ok (.getfield 9, 3)) hU ho (by decide) rfl rfl ?_
    have q_51 := H.1
    replace H := H.2
    refine pu_g0 hC fg_X4_249 (by decide +kernel : decode cX4_readAtom 41 = .ok (.getfield 249, 3)) hU q_51 (by decide) rfl rfl ?_
    refine vc_Vv hC hR [.int (uI U_2 (uR U_2 o 0) 6)] fv_X4_243 (by decide +kernel : decode cX4_readAtom 44 = .ok (.invokevirtual 243, 3)) hU (t_X3_add q_50 H) q_50 (by decide) rfl rfl rfl (Nat.le_of_ble_eq_true rfl) (by omega) (Nat.le_refl 0) (Nat.le_refl 0) (fun U_52 h H hU => ?_)
    refine pr_aload_n hC (by decide +kernel : decode cX4_readAtom 47 = .ok (.aload_n 0, 1)) rfl ?_
    refine pu_g21 hC fg_X4_9 (by decide +kernel : decode cX4_readAtom 48 = .ok (.getfield 9, 3)) hU ho (by decide) rfl rfl ?_
    have q_54 := H.1
    replace H := H.2
    refine vc_Vv hC hR [] fv_X4_65 (by decide +kernel : decode cX4_readAtom 51 = .ok (.invokevirtual 65, 3)) hU (t_X8_advance q_54 H) q_54 (by decide) rfl rfl rfl (Nat.le_of_ble_eq_true rfl) (by omega) (Nat.le_refl 0) (Nat.le_refl 0) (fun U_55 h H hU => ?_)
    refine pr_goto hC 159 (by decide +kernel : decode cX4_readAtom 54 = .ok (.goto 105, 3)) (by decide) ?_
    exact pv_vret hM (by decide +kernel : decode cX4_readAtom 159 = .ok (.return_, 1)) hU H
  replace H := H.2 c_4
  exact pv_vret hM (by decide +kernel : decode cX4_readAtom 7 = .ok (.return_, 1)) hU H
def b_X4_readTerm_L7 (rec : Nat → Int32 → Um → (Um → Prop) → Prop) (o0 : Nat) (x1 : Int32) (post : Um → Prop) (k_94 : Um → Prop) (rec_ : Int32 → Um → Prop) (x2 : Int32) (U : Um) : Prop :=
  ((1200 : Int32) ≤ x2 → k_94 U) ∧ (¬ (1200 : Int32) ≤ x2 → ((uI U o0 2) = 0 → oc (uR U o0 0) = 7 ∧ (∀ K_4 : Prop, ((oc (uR U o0 0) = 7 ∧ ∀ (xs_6 : Int32), xs_6 = (if (uI U (uR U o0 0) 7) = 42 then (-13) else (-14)) → oc (uR U o0 0) = 7 ∧ w_X8_advance (uR U o0 0) U (fun U_8 => b_X4_readAtom rec o0 x1 U_8 (fun U_10 => uR U_10 o0 1 ≠ 99 ∧ oc (uR U_10 o0 1) = 8 ∧ oc (uR U_10 (uR U_10 o0 1) 11) = 2 ∧ w_X3_add (uR U_10 (uR U_10 o0 1) 11) xs_6 U_10 (fun U_14 => ∀ (x2_16 : Int32), x2_16 = x2 + 1 → rec_ x2_16 U_14)))) → K_4 ) → ((uI U (uR U o0 0) 7) = 42 → K_4) ∧ (¬ (uI U (uR U o0 0) 7) = 42 → oc (uR U o0 0) = 7 ∧ ((uI U (uR U o0 0) 7) = 47 → K_4) ∧ (¬ (uI U (uR U o0 0) 7) = 47 → k_94 U)))) ∧ (¬ (uI U o0 2) = 0 → k_94 U))
def w_X4_readTerm_L7 (rec : Nat → Int32 → Um → (Um → Prop) → Prop) (o0 : Nat) (x1 : Int32) (post : Um → Prop) (k_94 : Um → Prop) (n_ : Nat) : Int32 → Um → Prop := Nat.rec (motive := fun _ => Int32 → Um → Prop) (fun _ _ => False) (fun _ ih => b_X4_readTerm_L7 rec o0 x1 post k_94 ih) n_
def b_X4_readTerm (rec : Nat → Int32 → Um → (Um → Prop) → Prop) (o : Nat) (a1 : Int32) (U : Um) (post : Um → Prop) : Prop :=
  b_X4_readAtom rec o a1 U (fun U_1 => (∃ n_20, w_X4_readTerm_L7 rec o a1 post (fun U_19 => post U_19) n_20 0 U_1))
set_option maxHeartbeats 4000000 in
theorem tl_X4_readTerm_L7 {l : Launch} {Y : px_Y} {X : px_X} {h0 hh : pe_H} {sz : Nat} {dd : Nat} (rec : Nat → Int32 → Um → (Um → Prop) → Prop) (o0 : Nat) (x1 : Int32) (post : Um → Prop) (k_94 : Um → Prop) (ho0 : oc o0 = 3) (hrec : ∀ (l : Launch) (o : Nat) (a0 : Int32) (U : Um) (post : Um → Prop), oc o = 3 → rec o a0 U post → um l Y dd yX4_readSum cX4_readSum 4 none [.ref (Y.2.1 o), .int a0] U (pq_v post)) (hD : 3 ≤ dd) (hC : px_C X Y.1 (pm_A hh sz) cX4_readTerm RX4 4) (hM : px_M l X Y.1 hh sz yX4_readTerm cX4_readTerm 4 none (dd + 2) 0 0) (hR : X.2.2.2.1 = pm_rm (dd + 2) 0 0) (hk_94 : ∀ (U : Um) (h : pe_H), k_94 U → rF Y h0 U h → pw X Y.1 (pm_A hh sz) (pm_E X Y.1 hh sz 0 0 (pm_P Y h0 sz (pq_v post))) 94 [none, none, none, none] [] h sz 0 0) : ∀ (n_ : Nat) (x2 : Int32) (U : Um) (h : pe_H), rF Y h0 U h → w_X4_readTerm_L7 rec o0 x1 post k_94 n_ x2 U → pw X Y.1 (pm_A hh sz) (pm_E X Y.1 hh sz 0 0 (pm_P Y h0 sz (pq_v post))) 7 [some (.ref (Y.2.1 o0)), some (.int x1), some (.int x2), none] [] h sz 0 0 := by
  intro n_
  induction n_ with
  | zero => intro x2 U h hU H; exact False.elim H
  | succ n_ ih =>
    intro x2 U h hU H
    replace H : b_X4_readTerm_L7 rec o0 x1 post k_94 (w_X4_readTerm_L7 rec o0 x1 post k_94 n_) x2 U := H
    unfold b_X4_readTerm_L7 at H
    refine pr_iload_n hC (by decide +kernel : decode cX4_readTerm 7 = .ok (.iload_n 2, 1)) rfl ?_
    refine pr_sipush hC (1200) (by decide +kernel : decode cX4_readTerm 8 = .ok (.sipush 1200, 3)) rfl ?_
    refine pr_icmp_ge hC 94 (by decide +kernel : decode cX4_readTerm 11 = .ok (.if_icmp .ge 83, 3)) (by decide) (fun c_11 => ?_) (fun c_11 => ?_)
    · replace H := H.1 c_11
      exact pv_sub [none, none, none, none] (trivial) (hk_94 U h H hU)
    replace H := H.2 c_11
    refine pr_aload_n hC (by decide +kernel : decode cX4_readTerm 14 = .ok (.aload_n 0, 1)) rfl ?_
    refine pu_g0 hC fg_X4_28 (by decide +kernel : decode cX4_readTerm 15 = .ok (.getfield 28, 3)) hU ho0 (by decide) rfl rfl ?_
    refine pr_if_ne hC 94 (by decide +kernel : decode cX4_readTerm 18 = .ok (.ifCond .ne 76, 3)) (by decide) (fun c_18 => ?_) (fun c_18 => ?_)
    · replace H := H.2 c_18
      exact pv_sub [none, none, none, none] (trivial) (hk_94 U h H hU)
    replace H := H.1 c_18
    refine pr_aload_n hC (by decide +kernel : decode cX4_readTerm 21 = .ok (.aload_n 0, 1)) rfl ?_
    refine pu_g21 hC fg_X4_9 (by decide +kernel : decode cX4_readTerm 22 = .ok (.getfield 9, 3)) hU ho0 (by decide) rfl rfl ?_
    have q_3 := H.1
    replace H := H.2
    refine pu_g0 hC fg_X4_240 (by decide +kernel : decode cX4_readTerm 25 = .ok (.getfield 240, 3)) hU q_3 (by decide) rfl rfl ?_
    refine pr_bipush hC (42) (by decide +kernel : decode cX4_readTerm 28 = .ok (.bipush 42, 2)) rfl ?_
    replace H := H (pw X Y.1 (pm_A hh sz) (pm_E X Y.1 hh sz 0 0 (pm_P Y h0 sz (pq_v post))) 45 [some (.ref (Y.2.1 o0)), some (.int x1), some (.int x2), none] [] h sz 0 0) (by
      intro  H
      refine pr_aload_n hC (by decide +kernel : decode cX4_readTerm 45 = .ok (.aload_n 0, 1)) rfl ?_
      refine pu_g21 hC fg_X4_9 (by decide +kernel : decode cX4_readTerm 46 = .ok (.getfield 9, 3)) hU ho0 (by decide) rfl rfl ?_
      have q_5 := H.1
      replace H := H.2
      refine pu_g0 hC fg_X4_240 (by decide +kernel : decode cX4_readTerm 49 = .ok (.getfield 240, 3)) hU q_5 (by decide) rfl rfl ?_
      refine pr_bipush hC (42) (by decide +kernel : decode cX4_readTerm 52 = .ok (.bipush 42, 2)) rfl ?_
      have HJ_17 : ∀ (xs_6 : Int32), xs_6 = (if (uI U (uR U o0 0) 7) = 42 then (-13) else (-14)) → pw X Y.1 (pm_A hh sz) (pm_E X Y.1 hh sz 0 0 (pm_P Y h0 sz (pq_v post))) 64 [some (.ref (Y.2.1 o0)), some (.int x1), some (.int x2), none] [.int xs_6] h sz 0 0 := by
        intro xs_6 e_xs_6
        replace H := H xs_6 e_xs_6
        refine pr_istore_n hC (by decide +kernel : decode cX4_readTerm 64 = .ok (.istore_n 3, 1)) (by decide) rfl ?_
        refine pr_aload_n hC (by decide +kernel : decode cX4_readTerm 65 = .ok (.aload_n 0, 1)) rfl ?_
        refine pu_g21 hC fg_X4_9 (by decide +kernel : decode cX4_readTerm 66 = .ok (.getfield 9, 3)) hU ho0 (by decide) rfl rfl ?_
        have q_7 := H.1
        replace H := H.2
        refine vc_Vv hC hR [] fv_X4_65 (by decide +kernel : decode cX4_readTerm 69 = .ok (.invokevirtual 65, 3)) hU (t_X8_advance q_7 H) q_7 (by decide) rfl rfl rfl (Nat.le_of_ble_eq_true rfl) (by omega) (Nat.le_refl 0) (Nat.le_refl 0) (fun U_8 h H hU => ?_)
        refine pr_aload_n hC (by decide +kernel : decode cX4_readTerm 72 = .ok (.aload_n 0, 1)) rfl ?_
        refine pr_iload_n hC (by decide +kernel : decode cX4_readTerm 73 = .ok (.iload_n 1, 1)) rfl ?_
        refine vc_Vv hC hR [.int x1] fv_X4_246 (by decide +kernel : decode cX4_readTerm 74 = .ok (.invokevirtual 246, 3)) hU (tb_X4_readAtom hrec hD ho0 H) ho0 (by decide) rfl rfl rfl (Nat.le_of_ble_eq_true rfl) (by omega) (Nat.le_refl 0) (Nat.le_refl 0) (fun U_10 h H hU => ?_)
        refine pr_aload_n hC (by decide +kernel : decode cX4_readTerm 77 = .ok (.aload_n 0, 1)) rfl ?_
        refine pu_g22 hC fg_X4_19 (by decide +kernel : decode cX4_readTerm 78 = .ok (.getfield 19, 3)) hU ho0 (by decide) rfl rfl H.1 ?_
        replace H := H.2
        have q_12 := H.1
        replace H := H.2
        refine pu_g21 hC fg_X4_228 (by decide +kernel : decode cX4_readTerm 81 = .ok (.getfield 228, 3)) hU q_12 (by decide) rfl rfl ?_
        have q_13 := H.1
        replace H := H.2
        refine pr_iload_n hC (by decide +kernel : decode cX4_readTerm 84 = .ok (.iload_n 3, 1)) rfl ?_
        refine vc_Vv hC hR [.int xs_6] fv_X4_243 (by decide +kernel : decode cX4_readTerm 85 = .ok (.invokevirtual 243, 3)) hU (t_X3_add q_13 H) q_13 (by decide) rfl rfl rfl (Nat.le_of_ble_eq_true rfl) (by omega) (Nat.le_refl 0) (Nat.le_refl 0) (fun U_14 h H hU => ?_)
        refine pv_iinc hC (v := x2 + 1) (by decide +kernel : decode cX4_readTerm 88 = .ok (.iinc 2 1, 3)) rfl (by decide) rfl rfl (fun x2_16 e_x2_16 => ?_)
        replace H := H x2_16 e_x2_16
        refine pr_goto hC 7 (by decide +kernel : decode cX4_readTerm 91 = .ok (.goto (-84), 3)) (by decide) ?_
        exact pv_sub [some (.ref (Y.2.1 o0)), some (.int x1), some (.int x2_16), none] (And.intro rfl (And.intro rfl (And.intro rfl trivial))) (ih _ U_14 h hU H)
      replace H := trivial
      refine pr_icmp_ne hC 62 (by decide +kernel : decode cX4_readTerm 54 = .ok (.if_icmp .ne 8, 3)) (by decide) (fun c_54 => ?_) (fun c_54 => ?_)
      · skip
        refine pr_bipush hC (-14) (by decide +kernel : decode cX4_readTerm 62 = .ok (.bipush (-14), 2)) rfl ?_
        exact pv_sub [some (.ref (Y.2.1 o0)), some (.int x1), some (.int x2), none] (And.intro rfl (And.intro rfl (And.intro rfl trivial))) (HJ_17 _ (if_neg c_54).symm)
      skip
      refine pr_bipush hC (-13) (by decide +kernel : decode cX4_readTerm 57 = .ok (.bipush (-13), 2)) rfl ?_
      refine pr_goto hC 64 (by decide +kernel : decode cX4_readTerm 59 = .ok (.goto 5, 3)) (by decide) ?_
      exact pv_sub [some (.ref (Y.2.1 o0)), some (.int x1), some (.int x2), none] (And.intro rfl (And.intro rfl (And.intro rfl trivial))) (HJ_17 _ (if_pos c_54).symm))
    refine pr_icmp_eq hC 45 (by decide +kernel : decode cX4_readTerm 30 = .ok (.if_icmp .eq 15, 3)) (by decide) (fun c_30 => ?_) (fun c_30 => ?_)
    · replace H := H.1 c_30
      exact pv_sub [some (.ref (Y.2.1 o0)), some (.int x1), some (.int x2), none] (And.intro rfl (And.intro rfl (And.intro rfl trivial))) (H )
    replace H := H.2 c_30
    refine pr_aload_n hC (by decide +kernel : decode cX4_readTerm 33 = .ok (.aload_n 0, 1)) rfl ?_
    refine pu_g21 hC fg_X4_9 (by decide +kernel : decode cX4_readTerm 34 = .ok (.getfield 9, 3)) hU ho0 (by decide) rfl rfl ?_
    have q_18 := H.1
    replace H := H.2
    refine pu_g0 hC fg_X4_240 (by decide +kernel : decode cX4_readTerm 37 = .ok (.getfield 240, 3)) hU q_18 (by decide) rfl rfl ?_
    refine pr_bipush hC (47) (by decide +kernel : decode cX4_readTerm 40 = .ok (.bipush 47, 2)) rfl ?_
    refine pr_icmp_ne hC 94 (by decide +kernel : decode cX4_readTerm 42 = .ok (.if_icmp .ne 52, 3)) (by decide) (fun c_42 => ?_) (fun c_42 => ?_)
    · replace H := H.2 c_42
      exact pv_sub [none, none, none, none] (trivial) (hk_94 U h H hU)
    replace H := H.1 c_42
    exact pv_sub [some (.ref (Y.2.1 o0)), some (.int x1), some (.int x2), none] (And.intro rfl (And.intro rfl (And.intro rfl trivial))) (H )
set_option maxHeartbeats 4000000 in
theorem tb_X4_readTerm {l : Launch} {Y : px_Y} {dd : Nat} {rec : Nat → Int32 → Um → (Um → Prop) → Prop} (hrec : ∀ (l : Launch) (o : Nat) (a0 : Int32) (U : Um) (post : Um → Prop), oc o = 3 → rec o a0 U post → um l Y dd yX4_readSum cX4_readSum 4 none [.ref (Y.2.1 o), .int a0] U (pq_v post)) (hD : 3 ≤ dd) {o : Nat} {a1 : Int32} {U : Um} {post : Um → Prop} (ho : oc o = 3) (H : b_X4_readTerm rec o a1 U post) : um l Y (dd + 2) yX4_readTerm cX4_readTerm 4 none [.ref (Y.2.1 o), .int a1] U (pq_v post) := by
  unfold b_X4_readTerm at H
  refine um_of (by decide) (Nat.le_of_ble_eq_true rfl) [some (.ref (Y.2.1 o)), some (.int a1), none, none] rfl (fun X h0 hh sz hM hU => ?_)
  have hC := hM.1
  have hR := hM.2.2.1
  refine pr_aload_n hC (by decide +kernel : decode cX4_readTerm 0 = .ok (.aload_n 0, 1)) rfl ?_
  refine pr_iload_n hC (by decide +kernel : decode cX4_readTerm 1 = .ok (.iload_n 1, 1)) rfl ?_
  refine vc_Vv hC hR [.int a1] fv_X4_246 (by decide +kernel : decode cX4_readTerm 2 = .ok (.invokevirtual 246, 3)) hU (tb_X4_readAtom hrec hD ho H) ho (by decide) rfl rfl rfl (Nat.le_of_ble_eq_true rfl) (by omega) (Nat.le_refl 0) (Nat.le_refl 0) (fun U_1 h H hU => ?_)
  refine pr_iconst hC (0) (by decide +kernel : decode cX4_readTerm 5 = .ok (.iconst 0, 1)) rfl ?_
  refine pr_istore_n hC (by decide +kernel : decode cX4_readTerm 6 = .ok (.istore_n 2, 1)) (by decide) rfl ?_
  obtain ⟨n_20, H⟩ := H
  refine pv_sub [some (.ref (Y.2.1 o)), some (.int a1), some (.int 0), none] (And.intro rfl (And.intro rfl (And.intro rfl trivial))) ?_
  refine tl_X4_readTerm_L7 _ _ _ _ _ ho hrec hD hC hM hR (fun U_19 h H hU => ?_) n_20 _ U_1 h hU H
  exact pv_vret hM (by decide +kernel : decode cX4_readTerm 94 = .ok (.return_, 1)) hU H
def b_X4_readSum_L7 (rec : Nat → Int32 → Um → (Um → Prop) → Prop) (o0 : Nat) (x1 : Int32) (post : Um → Prop) (k_94 : Um → Prop) (rec_ : Int32 → Um → Prop) (x2 : Int32) (U : Um) : Prop :=
  ((1200 : Int32) ≤ x2 → k_94 U) ∧ (¬ (1200 : Int32) ≤ x2 → ((uI U o0 2) = 0 → oc (uR U o0 0) = 7 ∧ (∀ K_4 : Prop, ((oc (uR U o0 0) = 7 ∧ ∀ (xs_6 : Int32), xs_6 = (if (uI U (uR U o0 0) 7) = 43 then (-11) else (-12)) → oc (uR U o0 0) = 7 ∧ w_X8_advance (uR U o0 0) U (fun U_8 => b_X4_readTerm rec o0 x1 U_8 (fun U_10 => uR U_10 o0 1 ≠ 99 ∧ oc (uR U_10 o0 1) = 8 ∧ oc (uR U_10 (uR U_10 o0 1) 11) = 2 ∧ w_X3_add (uR U_10 (uR U_10 o0 1) 11) xs_6 U_10 (fun U_14 => ∀ (x2_16 : Int32), x2_16 = x2 + 1 → rec_ x2_16 U_14)))) → K_4 ) → ((uI U (uR U o0 0) 7) = 43 → K_4) ∧ (¬ (uI U (uR U o0 0) 7) = 43 → oc (uR U o0 0) = 7 ∧ ((uI U (uR U o0 0) 7) = 45 → K_4) ∧ (¬ (uI U (uR U o0 0) 7) = 45 → k_94 U)))) ∧ (¬ (uI U o0 2) = 0 → k_94 U))
def w_X4_readSum_L7 (rec : Nat → Int32 → Um → (Um → Prop) → Prop) (o0 : Nat) (x1 : Int32) (post : Um → Prop) (k_94 : Um → Prop) (n_ : Nat) : Int32 → Um → Prop := Nat.rec (motive := fun _ => Int32 → Um → Prop) (fun _ _ => False) (fun _ ih => b_X4_readSum_L7 rec o0 x1 post k_94 ih) n_
def b_X4_readSum (rec : Nat → Int32 → Um → (Um → Prop) → Prop) (o : Nat) (a1 : Int32) (U : Um) (post : Um → Prop) : Prop :=
  b_X4_readTerm rec o a1 U (fun U_1 => (∃ n_20, w_X4_readSum_L7 rec o a1 post (fun U_19 => post U_19) n_20 0 U_1))
def w_X4_readSum (n_ : Nat) : Nat → Int32 → Um → (Um → Prop) → Prop := Nat.rec (motive := fun _ => Nat → Int32 → Um → (Um → Prop) → Prop) (fun _ _ _ _ => False) (fun _ ih => b_X4_readSum ih) n_
set_option maxHeartbeats 4000000 in
theorem tl_X4_readSum_L7 {l : Launch} {Y : px_Y} {X : px_X} {h0 hh : pe_H} {sz : Nat} {dd : Nat} (rec : Nat → Int32 → Um → (Um → Prop) → Prop) (o0 : Nat) (x1 : Int32) (post : Um → Prop) (k_94 : Um → Prop) (ho0 : oc o0 = 3) (hrec : ∀ (l : Launch) (o : Nat) (a0 : Int32) (U : Um) (post : Um → Prop), oc o = 3 → rec o a0 U post → um l Y dd yX4_readSum cX4_readSum 4 none [.ref (Y.2.1 o), .int a0] U (pq_v post)) (hD : 3 ≤ dd) (hC : px_C X Y.1 (pm_A hh sz) cX4_readSum RX4 4) (hM : px_M l X Y.1 hh sz yX4_readSum cX4_readSum 4 none (dd + 3) 0 0) (hR : X.2.2.2.1 = pm_rm (dd + 3) 0 0) (hk_94 : ∀ (U : Um) (h : pe_H), k_94 U → rF Y h0 U h → pw X Y.1 (pm_A hh sz) (pm_E X Y.1 hh sz 0 0 (pm_P Y h0 sz (pq_v post))) 94 [none, none, none, none] [] h sz 0 0) : ∀ (n_ : Nat) (x2 : Int32) (U : Um) (h : pe_H), rF Y h0 U h → w_X4_readSum_L7 rec o0 x1 post k_94 n_ x2 U → pw X Y.1 (pm_A hh sz) (pm_E X Y.1 hh sz 0 0 (pm_P Y h0 sz (pq_v post))) 7 [some (.ref (Y.2.1 o0)), some (.int x1), some (.int x2), none] [] h sz 0 0 := by
  intro n_
  induction n_ with
  | zero => intro x2 U h hU H; exact False.elim H
  | succ n_ ih =>
    intro x2 U h hU H
    replace H : b_X4_readSum_L7 rec o0 x1 post k_94 (w_X4_readSum_L7 rec o0 x1 post k_94 n_) x2 U := H
    unfold b_X4_readSum_L7 at H
    refine pr_iload_n hC (by decide +kernel : decode cX4_readSum 7 = .ok (.iload_n 2, 1)) rfl ?_
    refine pr_sipush hC (1200) (by decide +kernel : decode cX4_readSum 8 = .ok (.sipush 1200, 3)) rfl ?_
    refine pr_icmp_ge hC 94 (by decide +kernel : decode cX4_readSum 11 = .ok (.if_icmp .ge 83, 3)) (by decide) (fun c_11 => ?_) (fun c_11 => ?_)
    · replace H := H.1 c_11
      exact pv_sub [none, none, none, none] (trivial) (hk_94 U h H hU)
    replace H := H.2 c_11
    refine pr_aload_n hC (by decide +kernel : decode cX4_readSum 14 = .ok (.aload_n 0, 1)) rfl ?_
    refine pu_g0 hC fg_X4_28 (by decide +kernel : decode cX4_readSum 15 = .ok (.getfield 28, 3)) hU ho0 (by decide) rfl rfl ?_
    refine pr_if_ne hC 94 (by decide +kernel : decode cX4_readSum 18 = .ok (.ifCond .ne 76, 3)) (by decide) (fun c_18 => ?_) (fun c_18 => ?_)
    · replace H := H.2 c_18
      exact pv_sub [none, none, none, none] (trivial) (hk_94 U h H hU)
    replace H := H.1 c_18
    refine pr_aload_n hC (by decide +kernel : decode cX4_readSum 21 = .ok (.aload_n 0, 1)) rfl ?_
    refine pu_g21 hC fg_X4_9 (by decide +kernel : decode cX4_readSum 22 = .ok (.getfield 9, 3)) hU ho0 (by decide) rfl rfl ?_
    have q_3 := H.1
    replace H := H.2
    refine pu_g0 hC fg_X4_240 (by decide +kernel : decode cX4_readSum 25 = .ok (.getfield 240, 3)) hU q_3 (by decide) rfl rfl ?_
    refine pr_bipush hC (43) (by decide +kernel : decode cX4_readSum 28 = .ok (.bipush 43, 2)) rfl ?_
    replace H := H (pw X Y.1 (pm_A hh sz) (pm_E X Y.1 hh sz 0 0 (pm_P Y h0 sz (pq_v post))) 45 [some (.ref (Y.2.1 o0)), some (.int x1), some (.int x2), none] [] h sz 0 0) (by
      intro  H
      refine pr_aload_n hC (by decide +kernel : decode cX4_readSum 45 = .ok (.aload_n 0, 1)) rfl ?_
      refine pu_g21 hC fg_X4_9 (by decide +kernel : decode cX4_readSum 46 = .ok (.getfield 9, 3)) hU ho0 (by decide) rfl rfl ?_
      have q_5 := H.1
      replace H := H.2
      refine pu_g0 hC fg_X4_240 (by decide +kernel : decode cX4_readSum 49 = .ok (.getfield 240, 3)) hU q_5 (by decide) rfl rfl ?_
      refine pr_bipush hC (43) (by decide +kernel : decode cX4_readSum 52 = .ok (.bipush 43, 2)) rfl ?_
      have HJ_17 : ∀ (xs_6 : Int32), xs_6 = (if (uI U (uR U o0 0) 7) = 43 then (-11) else (-12)) → pw X Y.1 (pm_A hh sz) (pm_E X Y.1 hh sz 0 0 (pm_P Y h0 sz (pq_v post))) 64 [some (.ref (Y.2.1 o0)), some (.int x1), some (.int x2), none] [.int xs_6] h sz 0 0 := by
        intro xs_6 e_xs_6
        replace H := H xs_6 e_xs_6
        refine pr_istore_n hC (by decide +kernel : decode cX4_readSum 64 = .ok (.istore_n 3, 1)) (by decide) rfl ?_
        refine pr_aload_n hC (by decide +kernel : decode cX4_readSum 65 = .ok (.aload_n 0, 1)) rfl ?_
        refine pu_g21 hC fg_X4_9 (by decide +kernel : decode cX4_readSum 66 = .ok (.getfield 9, 3)) hU ho0 (by decide) rfl rfl ?_
        have q_7 := H.1
        replace H := H.2
        refine vc_Vv hC hR [] fv_X4_65 (by decide +kernel : decode cX4_readSum 69 = .ok (.invokevirtual 65, 3)) hU (t_X8_advance q_7 H) q_7 (by decide) rfl rfl rfl (Nat.le_of_ble_eq_true rfl) (by omega) (Nat.le_refl 0) (Nat.le_refl 0) (fun U_8 h H hU => ?_)
        refine pr_aload_n hC (by decide +kernel : decode cX4_readSum 72 = .ok (.aload_n 0, 1)) rfl ?_
        refine pr_iload_n hC (by decide +kernel : decode cX4_readSum 73 = .ok (.iload_n 1, 1)) rfl ?_
        refine vc_Vv hC hR [.int x1] fv_X4_237 (by decide +kernel : decode cX4_readSum 74 = .ok (.invokevirtual 237, 3)) hU (tb_X4_readTerm hrec hD ho0 H) ho0 (by decide) rfl rfl rfl (Nat.le_of_ble_eq_true rfl) (by omega) (Nat.le_refl 0) (Nat.le_refl 0) (fun U_10 h H hU => ?_)
        refine pr_aload_n hC (by decide +kernel : decode cX4_readSum 77 = .ok (.aload_n 0, 1)) rfl ?_
        refine pu_g22 hC fg_X4_19 (by decide +kernel : decode cX4_readSum 78 = .ok (.getfield 19, 3)) hU ho0 (by decide) rfl rfl H.1 ?_
        replace H := H.2
        have q_12 := H.1
        replace H := H.2
        refine pu_g21 hC fg_X4_228 (by decide +kernel : decode cX4_readSum 81 = .ok (.getfield 228, 3)) hU q_12 (by decide) rfl rfl ?_
        have q_13 := H.1
        replace H := H.2
        refine pr_iload_n hC (by decide +kernel : decode cX4_readSum 84 = .ok (.iload_n 3, 1)) rfl ?_
        refine vc_Vv hC hR [.int xs_6] fv_X4_243 (by decide +kernel : decode cX4_readSum 85 = .ok (.invokevirtual 243, 3)) hU (t_X3_add q_13 H) q_13 (by decide) rfl rfl rfl (Nat.le_of_ble_eq_true rfl) (by omega) (Nat.le_refl 0) (Nat.le_refl 0) (fun U_14 h H hU => ?_)
        refine pv_iinc hC (v := x2 + 1) (by decide +kernel : decode cX4_readSum 88 = .ok (.iinc 2 1, 3)) rfl (by decide) rfl rfl (fun x2_16 e_x2_16 => ?_)
        replace H := H x2_16 e_x2_16
        refine pr_goto hC 7 (by decide +kernel : decode cX4_readSum 91 = .ok (.goto (-84), 3)) (by decide) ?_
        exact pv_sub [some (.ref (Y.2.1 o0)), some (.int x1), some (.int x2_16), none] (And.intro rfl (And.intro rfl (And.intro rfl trivial))) (ih _ U_14 h hU H)
      replace H := trivial
      refine pr_icmp_ne hC 62 (by decide +kernel : decode cX4_readSum 54 = .ok (.if_icmp .ne 8, 3)) (by decide) (fun c_54 => ?_) (fun c_54 => ?_)
      · skip
        refine pr_bipush hC (-12) (by decide +kernel : decode cX4_readSum 62 = .ok (.bipush (-12), 2)) rfl ?_
        exact pv_sub [some (.ref (Y.2.1 o0)), some (.int x1), some (.int x2), none] (And.intro rfl (And.intro rfl (And.intro rfl trivial))) (HJ_17 _ (if_neg c_54).symm)
      skip
      refine pr_bipush hC (-11) (by decide +kernel : decode cX4_readSum 57 = .ok (.bipush (-11), 2)) rfl ?_
      refine pr_goto hC 64 (by decide +kernel : decode cX4_readSum 59 = .ok (.goto 5, 3)) (by decide) ?_
      exact pv_sub [some (.ref (Y.2.1 o0)), some (.int x1), some (.int x2), none] (And.intro rfl (And.intro rfl (And.intro rfl trivial))) (HJ_17 _ (if_pos c_54).symm))
    refine pr_icmp_eq hC 45 (by decide +kernel : decode cX4_readSum 30 = .ok (.if_icmp .eq 15, 3)) (by decide) (fun c_30 => ?_) (fun c_30 => ?_)
    · replace H := H.1 c_30
      exact pv_sub [some (.ref (Y.2.1 o0)), some (.int x1), some (.int x2), none] (And.intro rfl (And.intro rfl (And.intro rfl trivial))) (H )
    replace H := H.2 c_30
    refine pr_aload_n hC (by decide +kernel : decode cX4_readSum 33 = .ok (.aload_n 0, 1)) rfl ?_
    refine pu_g21 hC fg_X4_9 (by decide +kernel : decode cX4_readSum 34 = .ok (.getfield 9, 3)) hU ho0 (by decide) rfl rfl ?_
    have q_18 := H.1
    replace H := H.2
    refine pu_g0 hC fg_X4_240 (by decide +kernel : decode cX4_readSum 37 = .ok (.getfield 240, 3)) hU q_18 (by decide) rfl rfl ?_
    refine pr_bipush hC (45) (by decide +kernel : decode cX4_readSum 40 = .ok (.bipush 45, 2)) rfl ?_
    refine pr_icmp_ne hC 94 (by decide +kernel : decode cX4_readSum 42 = .ok (.if_icmp .ne 52, 3)) (by decide) (fun c_42 => ?_) (fun c_42 => ?_)
    · replace H := H.2 c_42
      exact pv_sub [none, none, none, none] (trivial) (hk_94 U h H hU)
    replace H := H.1 c_42
    exact pv_sub [some (.ref (Y.2.1 o0)), some (.int x1), some (.int x2), none] (And.intro rfl (And.intro rfl (And.intro rfl trivial))) (H )
set_option maxHeartbeats 4000000 in
theorem tb_X4_readSum {l : Launch} {Y : px_Y} {dd : Nat} {rec : Nat → Int32 → Um → (Um → Prop) → Prop} (hrec : ∀ (l : Launch) (o : Nat) (a0 : Int32) (U : Um) (post : Um → Prop), oc o = 3 → rec o a0 U post → um l Y dd yX4_readSum cX4_readSum 4 none [.ref (Y.2.1 o), .int a0] U (pq_v post)) (hD : 3 ≤ dd) {o : Nat} {a1 : Int32} {U : Um} {post : Um → Prop} (ho : oc o = 3) (H : b_X4_readSum rec o a1 U post) : um l Y (dd + 3) yX4_readSum cX4_readSum 4 none [.ref (Y.2.1 o), .int a1] U (pq_v post) := by
  unfold b_X4_readSum at H
  refine um_of (by decide) (Nat.le_of_ble_eq_true rfl) [some (.ref (Y.2.1 o)), some (.int a1), none, none] rfl (fun X h0 hh sz hM hU => ?_)
  have hC := hM.1
  have hR := hM.2.2.1
  refine pr_aload_n hC (by decide +kernel : decode cX4_readSum 0 = .ok (.aload_n 0, 1)) rfl ?_
  refine pr_iload_n hC (by decide +kernel : decode cX4_readSum 1 = .ok (.iload_n 1, 1)) rfl ?_
  refine vc_Vv hC hR [.int a1] fv_X4_237 (by decide +kernel : decode cX4_readSum 2 = .ok (.invokevirtual 237, 3)) hU (tb_X4_readTerm hrec hD ho H) ho (by decide) rfl rfl rfl (Nat.le_of_ble_eq_true rfl) (by omega) (Nat.le_refl 0) (Nat.le_refl 0) (fun U_1 h H hU => ?_)
  refine pr_iconst hC (0) (by decide +kernel : decode cX4_readSum 5 = .ok (.iconst 0, 1)) rfl ?_
  refine pr_istore_n hC (by decide +kernel : decode cX4_readSum 6 = .ok (.istore_n 2, 1)) (by decide) rfl ?_
  obtain ⟨n_20, H⟩ := H
  refine pv_sub [some (.ref (Y.2.1 o)), some (.int a1), some (.int 0), none] (And.intro rfl (And.intro rfl (And.intro rfl trivial))) ?_
  refine tl_X4_readSum_L7 _ _ _ _ _ ho hrec hD hC hM hR (fun U_19 h H hU => ?_) n_20 _ U_1 h hU H
  exact pv_vret hM (by decide +kernel : decode cX4_readSum 94 = .ok (.return_, 1)) hU H
theorem tn_X4_readSum {l : Launch} {Y : px_Y} : ∀ (n_ : Nat) (o : Nat) (a1 : Int32) (U : Um) (post : Um → Prop), oc o = 3 → w_X4_readSum n_ o a1 U post → um l Y (3 + 3 * n_) yX4_readSum cX4_readSum 4 none [.ref (Y.2.1 o), .int a1] U (pq_v post)
  | 0 => fun _ _ _ _ _ H => False.elim H
  | n_ + 1 => fun o a1 U post ho H => tb_X4_readSum (fun _ => tn_X4_readSum n_) (Nat.le_add_right _ _) ho H
theorem t_X4_readSum {l : Launch} {Y : px_Y} (n_ : Nat) {o : Nat} {a1 : Int32} {U : Um} {post : Um → Prop} (ho : oc o = 3) (H : w_X4_readSum n_ o a1 U post) : um l Y (3 + 3 * n_) yX4_readSum cX4_readSum 4 none [.ref (Y.2.1 o), .int a1] U (pq_v post) := tn_X4_readSum n_ _ _ _ _ ho H
def w_X4_readLine (o : Nat) (U : Um) (post : Um → Prop) : Prop :=
  oc (uR U o 0) = 7 ∧ ∀ (U_2 : Um), U_2 = sI U o 4 (uI U (uR U o 0) 2) → oc (uR U_2 o 0) = 7 ∧ w_X10_of (uI U_2 (uR U_2 o 0) 5) U_2 (fun r_5 U_4 => (r_5 = 99 → w_X4_fail o 1 (uI U_4 o 4) U_4 (fun U_6 => post U_6)) ∧ (r_5 < 23 → oc (uR U_4 o 0) = 7 ∧ w_X8_advance (uR U_4 o 0) U_4 (fun U_9 => w_Jx29ce0_ordinal_8abf5 r_5 U_9 (fun r_12 U_11 => vp_in r_12 23 ∧ (¬ (wjumps.getD (Int32.toNatClampNeg r_12) 0) = 1 → ¬ (wjumps.getD (Int32.toNatClampNeg r_12) 0) = 2 → ¬ (wjumps.getD (Int32.toNatClampNeg r_12) 0) = 3 → ¬ (wjumps.getD (Int32.toNatClampNeg r_12) 0) = 4 → ¬ (wjumps.getD (Int32.toNatClampNeg r_12) 0) = 5 → ¬ (wjumps.getD (Int32.toNatClampNeg r_12) 0) = 6 → ¬ (wjumps.getD (Int32.toNatClampNeg r_12) 0) = 7 → ¬ (wjumps.getD (Int32.toNatClampNeg r_12) 0) = 8 → ¬ (wjumps.getD (Int32.toNatClampNeg r_12) 0) = 9 → w_X4_fail o 1 (uI U_11 o 4) U_11 (fun U_13 => w_X4_expectSign o 59 U_13 (fun U_15 => post U_15))) ∧ ((wjumps.getD (Int32.toNatClampNeg r_12) 0) = 1 → w_X4_readGiven o 0 U_11 (fun r_18 U_17 => w_X4_expectSign o 59 U_17 (fun U_19 => post U_19))) ∧ ((wjumps.getD (Int32.toNatClampNeg r_12) 0) = 2 → w_X4_readGiven o 1 U_11 (fun r_22 U_21 => w_X4_expectSign o 59 U_21 (fun U_23 => post U_23))) ∧ ((wjumps.getD (Int32.toNatClampNeg r_12) 0) = 3 → w_X4_readOfficial o U_11 (fun U_25 => w_X4_expectSign o 59 U_25 (fun U_27 => post U_27))) ∧ ((wjumps.getD (Int32.toNatClampNeg r_12) 0) = 4 → w_X4_readRoad o U_11 (fun U_29 => w_X4_expectSign o 59 U_29 (fun U_31 => post U_31))) ∧ ((wjumps.getD (Int32.toNatClampNeg r_12) 0) = 5 → w_X4_readOff o U_11 (fun U_33 => w_X4_expectSign o 59 U_33 (fun U_35 => post U_35))) ∧ ((wjumps.getD (Int32.toNatClampNeg r_12) 0) = 6 → w_X4_readGame o U_11 (fun U_37 => w_X4_expectSign o 59 U_37 (fun U_39 => post U_39))) ∧ ((wjumps.getD (Int32.toNatClampNeg r_12) 0) = 7 → w_X4_readRest o U_11 (fun U_41 => w_X4_expectSign o 59 U_41 (fun U_43 => post U_43))) ∧ ((wjumps.getD (Int32.toNatClampNeg r_12) 0) = 8 → w_X4_readMost o U_11 (fun U_45 => w_X4_expectSign o 59 U_45 (fun U_47 => post U_47))) ∧ ((wjumps.getD (Int32.toNatClampNeg r_12) 0) = 9 → w_X4_expectNoLaw o U_11 (fun U_49 => w_X4_readSum 5 o 0 U_49 (fun U_51 => w_X4_expectSign o 59 U_51 (fun U_53 => post U_53))))))))
set_option maxHeartbeats 4000000 in
theorem t_X4_readLine {l : Launch} {Y : px_Y} {o : Nat} {U : Um} {post : Um → Prop} (ho : oc o = 3) (H : w_X4_readLine o U post) : um l Y 19 yX4_readLine cX4_readLine 2 none [.ref (Y.2.1 o)] U (pq_v post) := by
  unfold w_X4_readLine at H
  refine um_of (by decide) (Nat.le_of_ble_eq_true rfl) [some (.ref (Y.2.1 o)), none] rfl (fun X h0 hh sz hM hU => ?_)
  have hC := hM.1
  have hR := hM.2.2.1
  refine pr_aload_n hC (by decide +kernel : decode cX4_readLine 0 = .ok (.aload_n 0, 1)) rfl ?_
  refine pr_aload_n hC (by decide +kernel : decode cX4_readLine 1 = .ok (.aload_n 0, 1)) rfl ?_
  refine pu_g21 hC fg_X4_9 (by decide +kernel : decode cX4_readLine 2 = .ok (.getfield 9, 3)) hU ho (by decide) rfl rfl ?_
  have q_1 := H.1
  replace H := H.2
  refine pu_g0 hC fg_X4_46 (by decide +kernel : decode cX4_readLine 5 = .ok (.getfield 46, 3)) hU q_1 (by decide) rfl rfl ?_
  refine pv_p0 hC fp_X4_49 (by decide +kernel : decode cX4_readLine 8 = .ok (.putfield 49, 3)) hU ho (by decide) rfl rfl rfl rfl (fun U_2 h e_U_2 hU => ?_)
  replace H := H U_2 e_U_2
  refine pr_aload_n hC (by decide +kernel : decode cX4_readLine 11 = .ok (.aload_n 0, 1)) rfl ?_
  refine pu_g21 hC fg_X4_9 (by decide +kernel : decode cX4_readLine 12 = .ok (.getfield 9, 3)) hU ho (by decide) rfl rfl ?_
  have q_3 := H.1
  replace H := H.2
  refine pu_g0 hC fg_X4_52 (by decide +kernel : decode cX4_readLine 15 = .ok (.getfield 52, 3)) hU q_3 (by decide) rfl rfl ?_
  refine vc_Sw hC hR [.int (uI U_2 (uR U_2 o 0) 5)] fv_X4_55 (by decide +kernel : decode cX4_readLine 18 = .ok (.invokestatic 55, 3)) hU (t_X10_of  H) rfl rfl (Nat.le_of_ble_eq_true rfl) (Nat.le_of_ble_eq_true rfl) (Nat.le_refl 0) (Nat.le_refl 0) (fun U_4 h H hU => ?_) (fun r_5 U_4 h hw_r_5 H hU => ?_)
  · replace H := H.1 rfl
    refine pr_astore_nN hC (by decide +kernel : decode cX4_readLine 21 = .ok (.astore_n 1, 1)) (by decide) rfl ?_
    refine pr_aload_nN hC (by decide +kernel : decode cX4_readLine 22 = .ok (.aload_n 1, 1)) rfl ?_
    refine pr_ifnonnullN hC (by decide +kernel : decode cX4_readLine 23 = .ok (.ifnonnull 13, 3)) ?_
    refine pr_aload_n hC (by decide +kernel : decode cX4_readLine 26 = .ok (.aload_n 0, 1)) rfl ?_
    refine pr_iconst hC (1) (by decide +kernel : decode cX4_readLine 27 = .ok (.iconst 1, 1)) rfl ?_
    refine pr_aload_n hC (by decide +kernel : decode cX4_readLine 28 = .ok (.aload_n 0, 1)) rfl ?_
    refine pu_g0 hC fg_X4_49 (by decide +kernel : decode cX4_readLine 29 = .ok (.getfield 49, 3)) hU ho (by decide) rfl rfl ?_
    refine vc_Vv hC hR [.int 1, .int (uI U_4 o 4)] fv_X4_61 (by decide +kernel : decode cX4_readLine 32 = .ok (.invokevirtual 61, 3)) hU (t_X4_fail ho H) ho (by decide) rfl rfl rfl (Nat.le_of_ble_eq_true rfl) (Nat.le_of_ble_eq_true rfl) (Nat.le_refl 0) (Nat.le_refl 0) (fun U_6 h H hU => ?_)
    exact pv_vret hM (by decide +kernel : decode cX4_readLine 35 = .ok (.return_, 1)) hU H
  replace H := H.2 hw_r_5
  refine pr_astore_n hC (by decide +kernel : decode cX4_readLine 21 = .ok (.astore_n 1, 1)) (by decide) rfl ?_
  refine pr_aload_n hC (by decide +kernel : decode cX4_readLine 22 = .ok (.aload_n 1, 1)) rfl ?_
  refine pr_ifnonnull hC 36 (by decide +kernel : decode cX4_readLine 23 = .ok (.ifnonnull 13, 3)) (by decide) ?_
  refine pr_aload_n hC (by decide +kernel : decode cX4_readLine 36 = .ok (.aload_n 0, 1)) rfl ?_
  refine pu_g21 hC fg_X4_9 (by decide +kernel : decode cX4_readLine 37 = .ok (.getfield 9, 3)) hU ho (by decide) rfl rfl ?_
  have q_8 := H.1
  replace H := H.2
  refine vc_Vv hC hR [] fv_X4_65 (by decide +kernel : decode cX4_readLine 40 = .ok (.invokevirtual 65, 3)) hU (t_X8_advance q_8 H) q_8 (by decide) rfl rfl rfl (Nat.le_of_ble_eq_true rfl) (Nat.le_of_ble_eq_true rfl) (Nat.le_refl 0) (Nat.le_refl 0) (fun U_9 h H hU => ?_)
  refine pr_gets hC fs_X4_68 (ro_z1 _) (by decide +kernel : decode cX4_readLine 43 = .ok (.getstatic 68, 3)) ?_
  refine pr_aload_n hC (by decide +kernel : decode cX4_readLine 46 = .ok (.aload_n 1, 1)) rfl ?_
  refine vc_Ordi hC hR (by decide +kernel : decode cX4_readLine 47 = .ok (.invokevirtual 74, 3)) hU (t_Jx29ce0_ordinal_8abf5 hw_r_5 H) hw_r_5 rfl (Nat.le_of_ble_eq_true rfl) (Nat.le_of_ble_eq_true rfl) (Nat.le_refl 0) (Nat.le_refl 0) (fun r_12 U_11 h H hU => ?_)
  refine pr_ialoadR hC (ro_t1 _) (by decide +kernel : decode cX4_readLine 50 = .ok (.iaload, 1)) H.1 rfl ?_
  replace H := H.2
  refine pv_table hC (by decide +kernel : decode cX4_readLine 51 = .ok (.tableswitch 121 1 9 #[49, 58, 67, 74, 81, 88, 95, 102, 109], 49)) 172 (by decide) (fun hq => ?_) (fun hq => ?_)
  · replace H := H.1 (fun e => absurd hq (by rw [e]; decide)) (fun e => absurd hq (by rw [e]; decide)) (fun e => absurd hq (by rw [e]; decide)) (fun e => absurd hq (by rw [e]; decide)) (fun e => absurd hq (by rw [e]; decide)) (fun e => absurd hq (by rw [e]; decide)) (fun e => absurd hq (by rw [e]; decide)) (fun e => absurd hq (by rw [e]; decide)) (fun e => absurd hq (by rw [e]; decide))
    refine pr_aload_n hC (by decide +kernel : decode cX4_readLine 172 = .ok (.aload_n 0, 1)) rfl ?_
    refine pr_iconst hC (1) (by decide +kernel : decode cX4_readLine 173 = .ok (.iconst 1, 1)) rfl ?_
    refine pr_aload_n hC (by decide +kernel : decode cX4_readLine 174 = .ok (.aload_n 0, 1)) rfl ?_
    refine pu_g0 hC fg_X4_49 (by decide +kernel : decode cX4_readLine 175 = .ok (.getfield 49, 3)) hU ho (by decide) rfl rfl ?_
    refine vc_Vv hC hR [.int 1, .int (uI U_11 o 4)] fv_X4_61 (by decide +kernel : decode cX4_readLine 178 = .ok (.invokevirtual 61, 3)) hU (t_X4_fail ho H) ho (by decide) rfl rfl rfl (Nat.le_of_ble_eq_true rfl) (Nat.le_of_ble_eq_true rfl) (Nat.le_refl 0) (Nat.le_refl 0) (fun U_13 h H hU => ?_)
    refine pr_aload_n hC (by decide +kernel : decode cX4_readLine 181 = .ok (.aload_n 0, 1)) rfl ?_
    refine pr_bipush hC (59) (by decide +kernel : decode cX4_readLine 182 = .ok (.bipush 59, 2)) rfl ?_
    refine vc_Vv hC hR [.int 59] fv_X4_107 (by decide +kernel : decode cX4_readLine 184 = .ok (.invokevirtual 107, 3)) hU (t_X4_expectSign ho H) ho (by decide) rfl rfl rfl (Nat.le_of_ble_eq_true rfl) (Nat.le_of_ble_eq_true rfl) (Nat.le_refl 0) (Nat.le_refl 0) (fun U_15 h H hU => ?_)
    exact pv_vret hM (by decide +kernel : decode cX4_readLine 187 = .ok (.return_, 1)) hU H
  · replace H := H.2
    rcases (show Int32.toInt (wjumps.getD (Int32.toNatClampNeg r_12) 0) = 1 ∨ Int32.toInt (wjumps.getD (Int32.toNatClampNeg r_12) 0) = 2 ∨ Int32.toInt (wjumps.getD (Int32.toNatClampNeg r_12) 0) = 3 ∨ Int32.toInt (wjumps.getD (Int32.toNatClampNeg r_12) 0) = 4 ∨ Int32.toInt (wjumps.getD (Int32.toNatClampNeg r_12) 0) = 5 ∨ Int32.toInt (wjumps.getD (Int32.toNatClampNeg r_12) 0) = 6 ∨ Int32.toInt (wjumps.getD (Int32.toNatClampNeg r_12) 0) = 7 ∨ Int32.toInt (wjumps.getD (Int32.toNatClampNeg r_12) 0) = 8 ∨ Int32.toInt (wjumps.getD (Int32.toNatClampNeg r_12) 0) = 9 from by omega) with hq | hq | hq | hq | hq | hq | hq | hq | hq
    · have e_51 : (wjumps.getD (Int32.toNatClampNeg r_12) 0) = 1 := Int32.toInt_inj.mp (hq.trans (by decide))
      replace H := H.1 e_51
      refine ⟨49, 100, by rw [hq]; rfl, by decide, ?_⟩
      refine pr_aload_n hC (by decide +kernel : decode cX4_readLine 100 = .ok (.aload_n 0, 1)) rfl ?_
      refine pr_iconst hC (0) (by decide +kernel : decode cX4_readLine 101 = .ok (.iconst 0, 1)) rfl ?_
      refine vc_Vi hC hR [.int 0] fv_X4_78 (by decide +kernel : decode cX4_readLine 102 = .ok (.invokevirtual 78, 3)) hU (t_X4_readGiven ho H) ho (by decide) rfl rfl rfl (Nat.le_of_ble_eq_true rfl) (Nat.le_of_ble_eq_true rfl) (Nat.le_refl 0) (Nat.le_refl 0) (fun r_18 U_17 h H hU => ?_)
      refine pr_pop hC (by decide +kernel : decode cX4_readLine 105 = .ok (.pop, 1)) rfl ?_
      refine pr_goto hC 181 (by decide +kernel : decode cX4_readLine 106 = .ok (.goto 75, 3)) (by decide) ?_
      refine pr_aload_n hC (by decide +kernel : decode cX4_readLine 181 = .ok (.aload_n 0, 1)) rfl ?_
      refine pr_bipush hC (59) (by decide +kernel : decode cX4_readLine 182 = .ok (.bipush 59, 2)) rfl ?_
      refine vc_Vv hC hR [.int 59] fv_X4_107 (by decide +kernel : decode cX4_readLine 184 = .ok (.invokevirtual 107, 3)) hU (t_X4_expectSign ho H) ho (by decide) rfl rfl rfl (Nat.le_of_ble_eq_true rfl) (Nat.le_of_ble_eq_true rfl) (Nat.le_refl 0) (Nat.le_refl 0) (fun U_19 h H hU => ?_)
      exact pv_vret hM (by decide +kernel : decode cX4_readLine 187 = .ok (.return_, 1)) hU H
    · have e_51 : (wjumps.getD (Int32.toNatClampNeg r_12) 0) = 2 := Int32.toInt_inj.mp (hq.trans (by decide))
      replace H := H.2.1 e_51
      refine ⟨58, 109, by rw [hq]; rfl, by decide, ?_⟩
      refine pr_aload_n hC (by decide +kernel : decode cX4_readLine 109 = .ok (.aload_n 0, 1)) rfl ?_
      refine pr_iconst hC (1) (by decide +kernel : decode cX4_readLine 110 = .ok (.iconst 1, 1)) rfl ?_
      refine vc_Vi hC hR [.int 1] fv_X4_78 (by decide +kernel : decode cX4_readLine 111 = .ok (.invokevirtual 78, 3)) hU (t_X4_readGiven ho H) ho (by decide) rfl rfl rfl (Nat.le_of_ble_eq_true rfl) (Nat.le_of_ble_eq_true rfl) (Nat.le_refl 0) (Nat.le_refl 0) (fun r_22 U_21 h H hU => ?_)
      refine pr_pop hC (by decide +kernel : decode cX4_readLine 114 = .ok (.pop, 1)) rfl ?_
      refine pr_goto hC 181 (by decide +kernel : decode cX4_readLine 115 = .ok (.goto 66, 3)) (by decide) ?_
      refine pr_aload_n hC (by decide +kernel : decode cX4_readLine 181 = .ok (.aload_n 0, 1)) rfl ?_
      refine pr_bipush hC (59) (by decide +kernel : decode cX4_readLine 182 = .ok (.bipush 59, 2)) rfl ?_
      refine vc_Vv hC hR [.int 59] fv_X4_107 (by decide +kernel : decode cX4_readLine 184 = .ok (.invokevirtual 107, 3)) hU (t_X4_expectSign ho H) ho (by decide) rfl rfl rfl (Nat.le_of_ble_eq_true rfl) (Nat.le_of_ble_eq_true rfl) (Nat.le_refl 0) (Nat.le_refl 0) (fun U_23 h H hU => ?_)
      exact pv_vret hM (by decide +kernel : decode cX4_readLine 187 = .ok (.return_, 1)) hU H
    · have e_51 : (wjumps.getD (Int32.toNatClampNeg r_12) 0) = 3 := Int32.toInt_inj.mp (hq.trans (by decide))
      replace H := H.2.2.1 e_51
      refine ⟨67, 118, by rw [hq]; rfl, by decide, ?_⟩
      refine pr_aload_n hC (by decide +kernel : decode cX4_readLine 118 = .ok (.aload_n 0, 1)) rfl ?_
      refine vc_Vv hC hR [] fv_X4_82 (by decide +kernel : decode cX4_readLine 119 = .ok (.invokevirtual 82, 3)) hU (t_X4_readOfficial ho H) ho (by decide) rfl rfl rfl (Nat.le_of_ble_eq_true rfl) (Nat.le_of_ble_eq_true rfl) (Nat.le_refl 0) (Nat.le_refl 0) (fun U_25 h H hU => ?_)
      refine pr_goto hC 181 (by decide +kernel : decode cX4_readLine 122 = .ok (.goto 59, 3)) (by decide) ?_
      refine pr_aload_n hC (by decide +kernel : decode cX4_readLine 181 = .ok (.aload_n 0, 1)) rfl ?_
      refine pr_bipush hC (59) (by decide +kernel : decode cX4_readLine 182 = .ok (.bipush 59, 2)) rfl ?_
      refine vc_Vv hC hR [.int 59] fv_X4_107 (by decide +kernel : decode cX4_readLine 184 = .ok (.invokevirtual 107, 3)) hU (t_X4_expectSign ho H) ho (by decide) rfl rfl rfl (Nat.le_of_ble_eq_true rfl) (Nat.le_of_ble_eq_true rfl) (Nat.le_refl 0) (Nat.le_refl 0) (fun U_27 h H hU => ?_)
      exact pv_vret hM (by decide +kernel : decode cX4_readLine 187 = .ok (.return_, 1)) hU H
    · have e_51 : (wjumps.getD (Int32.toNatClampNeg r_12) 0) = 4 := Int32.toInt_inj.mp (hq.trans (by decide))
      replace H := H.2.2.2.1 e_51
      refine ⟨74, 125, by rw [hq]; rfl, by decide, ?_⟩
      refine pr_aload_n hC (by decide +kernel : decode cX4_readLine 125 = .ok (.aload_n 0, 1)) rfl ?_
      refine vc_Vv hC hR [] fv_X4_85 (by decide +kernel : decode cX4_readLine 126 = .ok (.invokevirtual 85, 3)) hU (t_X4_readRoad ho H) ho (by decide) rfl rfl rfl (Nat.le_of_ble_eq_true rfl) (Nat.le_of_ble_eq_true rfl) (Nat.le_refl 0) (Nat.le_refl 0) (fun U_29 h H hU => ?_)
      refine pr_goto hC 181 (by decide +kernel : decode cX4_readLine 129 = .ok (.goto 52, 3)) (by decide) ?_
      refine pr_aload_n hC (by decide +kernel : decode cX4_readLine 181 = .ok (.aload_n 0, 1)) rfl ?_
      refine pr_bipush hC (59) (by decide +kernel : decode cX4_readLine 182 = .ok (.bipush 59, 2)) rfl ?_
      refine vc_Vv hC hR [.int 59] fv_X4_107 (by decide +kernel : decode cX4_readLine 184 = .ok (.invokevirtual 107, 3)) hU (t_X4_expectSign ho H) ho (by decide) rfl rfl rfl (Nat.le_of_ble_eq_true rfl) (Nat.le_of_ble_eq_true rfl) (Nat.le_refl 0) (Nat.le_refl 0) (fun U_31 h H hU => ?_)
      exact pv_vret hM (by decide +kernel : decode cX4_readLine 187 = .ok (.return_, 1)) hU H
    · have e_51 : (wjumps.getD (Int32.toNatClampNeg r_12) 0) = 5 := Int32.toInt_inj.mp (hq.trans (by decide))
      replace H := H.2.2.2.2.1 e_51
      refine ⟨81, 132, by rw [hq]; rfl, by decide, ?_⟩
      refine pr_aload_n hC (by decide +kernel : decode cX4_readLine 132 = .ok (.aload_n 0, 1)) rfl ?_
      refine vc_Vv hC hR [] fv_X4_88 (by decide +kernel : decode cX4_readLine 133 = .ok (.invokevirtual 88, 3)) hU (t_X4_readOff ho H) ho (by decide) rfl rfl rfl (Nat.le_of_ble_eq_true rfl) (Nat.le_of_ble_eq_true rfl) (Nat.le_refl 0) (Nat.le_refl 0) (fun U_33 h H hU => ?_)
      refine pr_goto hC 181 (by decide +kernel : decode cX4_readLine 136 = .ok (.goto 45, 3)) (by decide) ?_
      refine pr_aload_n hC (by decide +kernel : decode cX4_readLine 181 = .ok (.aload_n 0, 1)) rfl ?_
      refine pr_bipush hC (59) (by decide +kernel : decode cX4_readLine 182 = .ok (.bipush 59, 2)) rfl ?_
      refine vc_Vv hC hR [.int 59] fv_X4_107 (by decide +kernel : decode cX4_readLine 184 = .ok (.invokevirtual 107, 3)) hU (t_X4_expectSign ho H) ho (by decide) rfl rfl rfl (Nat.le_of_ble_eq_true rfl) (Nat.le_of_ble_eq_true rfl) (Nat.le_refl 0) (Nat.le_refl 0) (fun U_35 h H hU => ?_)
      exact pv_vret hM (by decide +kernel : decode cX4_readLine 187 = .ok (.return_, 1)) hU H
    · have e_51 : (wjumps.getD (Int32.toNatClampNeg r_12) 0) = 6 := Int32.toInt_inj.mp (hq.trans (by decide))
      replace H := H.2.2.2.2.2.1 e_51
      refine ⟨88, 139, by rw [hq]; rfl, by decide, ?_⟩
      refine pr_aload_n hC (by decide +kernel : decode cX4_readLine 139 = .ok (.aload_n 0, 1)) rfl ?_
      refine vc_Vv hC hR [] fv_X4_91 (by decide +kernel : decode cX4_readLine 140 = .ok (.invokevirtual 91, 3)) hU (t_X4_readGame ho H) ho (by decide) rfl rfl rfl (Nat.le_of_ble_eq_true rfl) (Nat.le_of_ble_eq_true rfl) (Nat.le_refl 0) (Nat.le_refl 0) (fun U_37 h H hU => ?_)
      refine pr_goto hC 181 (by decide +kernel : decode cX4_readLine 143 = .ok (.goto 38, 3)) (by decide) ?_
      refine pr_aload_n hC (by decide +kernel : decode cX4_readLine 181 = .ok (.aload_n 0, 1)) rfl ?_
      refine pr_bipush hC (59) (by decide +kernel : decode cX4_readLine 182 = .ok (.bipush 59, 2)) rfl ?_
      refine vc_Vv hC hR [.int 59] fv_X4_107 (by decide +kernel : decode cX4_readLine 184 = .ok (.invokevirtual 107, 3)) hU (t_X4_expectSign ho H) ho (by decide) rfl rfl rfl (Nat.le_of_ble_eq_true rfl) (Nat.le_of_ble_eq_true rfl) (Nat.le_refl 0) (Nat.le_refl 0) (fun U_39 h H hU => ?_)
      exact pv_vret hM (by decide +kernel : decode cX4_readLine 187 = .ok (.return_, 1)) hU H
    · have e_51 : (wjumps.getD (Int32.toNatClampNeg r_12) 0) = 7 := Int32.toInt_inj.mp (hq.trans (by decide))
      replace H := H.2.2.2.2.2.2.1 e_51
      refine ⟨95, 146, by rw [hq]; rfl, by decide, ?_⟩
      refine pr_aload_n hC (by decide +kernel : decode cX4_readLine 146 = .ok (.aload_n 0, 1)) rfl ?_
      refine vc_Vv hC hR [] fv_X4_94 (by decide +kernel : decode cX4_readLine 147 = .ok (.invokevirtual 94, 3)) hU (t_X4_readRest ho H) ho (by decide) rfl rfl rfl (Nat.le_of_ble_eq_true rfl) (Nat.le_of_ble_eq_true rfl) (Nat.le_refl 0) (Nat.le_refl 0) (fun U_41 h H hU => ?_)
      refine pr_goto hC 181 (by decide +kernel : decode cX4_readLine 150 = .ok (.goto 31, 3)) (by decide) ?_
      refine pr_aload_n hC (by decide +kernel : decode cX4_readLine 181 = .ok (.aload_n 0, 1)) rfl ?_
      refine pr_bipush hC (59) (by decide +kernel : decode cX4_readLine 182 = .ok (.bipush 59, 2)) rfl ?_
      refine vc_Vv hC hR [.int 59] fv_X4_107 (by decide +kernel : decode cX4_readLine 184 = .ok (.invokevirtual 107, 3)) hU (t_X4_expectSign ho H) ho (by decide) rfl rfl rfl (Nat.le_of_ble_eq_true rfl) (Nat.le_of_ble_eq_true rfl) (Nat.le_refl 0) (Nat.le_refl 0) (fun U_43 h H hU => ?_)
      exact pv_vret hM (by decide +kernel : decode cX4_readLine 187 = .ok (.return_, 1)) hU H
    · have e_51 : (wjumps.getD (Int32.toNatClampNeg r_12) 0) = 8 := Int32.toInt_inj.mp (hq.trans (by decide))
      replace H := H.2.2.2.2.2.2.2.1 e_51
      refine ⟨102, 153, by rw [hq]; rfl, by decide, ?_⟩
      refine pr_aload_n hC (by decide +kernel : decode cX4_readLine 153 = .ok (.aload_n 0, 1)) rfl ?_
      refine vc_Vv hC hR [] fv_X4_97 (by decide +kernel : decode cX4_readLine 154 = .ok (.invokevirtual 97, 3)) hU (t_X4_readMost ho H) ho (by decide) rfl rfl rfl (Nat.le_of_ble_eq_true rfl) (Nat.le_of_ble_eq_true rfl) (Nat.le_refl 0) (Nat.le_refl 0) (fun U_45 h H hU => ?_)
      refine pr_goto hC 181 (by decide +kernel : decode cX4_readLine 157 = .ok (.goto 24, 3)) (by decide) ?_
      refine pr_aload_n hC (by decide +kernel : decode cX4_readLine 181 = .ok (.aload_n 0, 1)) rfl ?_
      refine pr_bipush hC (59) (by decide +kernel : decode cX4_readLine 182 = .ok (.bipush 59, 2)) rfl ?_
      refine vc_Vv hC hR [.int 59] fv_X4_107 (by decide +kernel : decode cX4_readLine 184 = .ok (.invokevirtual 107, 3)) hU (t_X4_expectSign ho H) ho (by decide) rfl rfl rfl (Nat.le_of_ble_eq_true rfl) (Nat.le_of_ble_eq_true rfl) (Nat.le_refl 0) (Nat.le_refl 0) (fun U_47 h H hU => ?_)
      exact pv_vret hM (by decide +kernel : decode cX4_readLine 187 = .ok (.return_, 1)) hU H
    · have e_51 : (wjumps.getD (Int32.toNatClampNeg r_12) 0) = 9 := Int32.toInt_inj.mp (hq.trans (by decide))
      replace H := H.2.2.2.2.2.2.2.2 e_51
      refine ⟨109, 160, by rw [hq]; rfl, by decide, ?_⟩
      refine pr_aload_n hC (by decide +kernel : decode cX4_readLine 160 = .ok (.aload_n 0, 1)) rfl ?_
      refine vc_Vv hC hR [] fv_X4_100 (by decide +kernel : decode cX4_readLine 161 = .ok (.invokevirtual 100, 3)) hU (t_X4_expectNoLaw ho H) ho (by decide) rfl rfl rfl (Nat.le_of_ble_eq_true rfl) (Nat.le_of_ble_eq_true rfl) (Nat.le_refl 0) (Nat.le_refl 0) (fun U_49 h H hU => ?_)
      refine pr_aload_n hC (by decide +kernel : decode cX4_readLine 164 = .ok (.aload_n 0, 1)) rfl ?_
      refine pr_iconst hC (0) (by decide +kernel : decode cX4_readLine 165 = .ok (.iconst 0, 1)) rfl ?_
      refine vc_Vv hC hR [.int 0] fv_X4_103 (by decide +kernel : decode cX4_readLine 166 = .ok (.invokevirtual 103, 3)) hU (t_X4_readSum 5 ho H) ho (by decide) rfl rfl rfl (Nat.le_of_ble_eq_true rfl) (Nat.le_of_ble_eq_true rfl) (Nat.le_refl 0) (Nat.le_refl 0) (fun U_51 h H hU => ?_)
      refine pr_goto hC 181 (by decide +kernel : decode cX4_readLine 169 = .ok (.goto 12, 3)) (by decide) ?_
      refine pr_aload_n hC (by decide +kernel : decode cX4_readLine 181 = .ok (.aload_n 0, 1)) rfl ?_
      refine pr_bipush hC (59) (by decide +kernel : decode cX4_readLine 182 = .ok (.bipush 59, 2)) rfl ?_
      refine vc_Vv hC hR [.int 59] fv_X4_107 (by decide +kernel : decode cX4_readLine 184 = .ok (.invokevirtual 107, 3)) hU (t_X4_expectSign ho H) ho (by decide) rfl rfl rfl (Nat.le_of_ble_eq_true rfl) (Nat.le_of_ble_eq_true rfl) (Nat.le_refl 0) (Nat.le_refl 0) (fun U_53 h H hU => ?_)
      exact pv_vret hM (by decide +kernel : decode cX4_readLine 187 = .ok (.return_, 1)) hU H
def b_X5_shorten_L12 (o0 : Nat) (x1 : Int32) (x2 : Int32) (post : Um → Prop) (k_99 : Um → Prop) (rec_ : Int32 → Um → Prop) (x3 : Int32) (U : Um) : Prop :=
  ((uI U o0 0) ≤ x3 → k_99 U) ∧ (¬ (uI U o0 0) ≤ x3 → vp_in x2 6 ∧ vp_in x1 6 ∧ ∀ (x4_2 : Int32), x4_2 = uA U o0 (ki 2 (Int32.toNatClampNeg x2)) (Int32.toNatClampNeg x1) → vp_in x1 6 ∧ vp_in x3 6 ∧ ∀ (x5_4 : Int32), x5_4 = uA U o0 (ki 2 (Int32.toNatClampNeg x1)) (Int32.toNatClampNeg x3) → (x4_2 = (-1) → ∀ (x3_5 : Int32), x3_5 = x3 + 1 → rec_ x3_5 U) ∧ (¬ x4_2 = (-1) → (x5_4 = (-1) → ∀ (x3_6 : Int32), x3_6 = x3 + 1 → rec_ x3_6 U) ∧ (¬ x5_4 = (-1) → vp_in x2 6 ∧ vp_in x3 6 ∧ (∀ K_8 : Prop, ((vp_in x2 6 ∧ vp_in x3 6 ∧ ∀ (U_10 : Um), U_10 = sA U o0 (ki 2 (Int32.toNatClampNeg x2)) (va_up (uA U o0 (ki 2 (Int32.toNatClampNeg x2))) (Int32.toNatClampNeg x3) (x4_2 + x5_4)) → ∀ (x3_11 : Int32), x3_11 = x3 + 1 → rec_ x3_11 U_10) → K_8 ) → ((uA U o0 (ki 2 (Int32.toNatClampNeg x2)) (Int32.toNatClampNeg x3)) = (-1) → K_8) ∧ (¬ (uA U o0 (ki 2 (Int32.toNatClampNeg x2)) (Int32.toNatClampNeg x3)) = (-1) → vp_in x2 6 ∧ vp_in x3 6 ∧ ((uA U o0 (ki 2 (Int32.toNatClampNeg x2)) (Int32.toNatClampNeg x3)) ≤ (x4_2 + x5_4) → ∀ (x3_13 : Int32), x3_13 = x3 + 1 → rec_ x3_13 U) ∧ (¬ (uA U o0 (ki 2 (Int32.toNatClampNeg x2)) (Int32.toNatClampNeg x3)) ≤ (x4_2 + x5_4) → K_8))))))
def w_X5_shorten_L12 (o0 : Nat) (x1 : Int32) (x2 : Int32) (post : Um → Prop) (k_99 : Um → Prop) (n_ : Nat) : Int32 → Um → Prop := Nat.rec (motive := fun _ => Int32 → Um → Prop) (fun _ _ => False) (fun _ ih => b_X5_shorten_L12 o0 x1 x2 post k_99 ih) n_
def b_X5_shorten_L2 (o0 : Nat) (x1 : Int32) (post : Um → Prop) (k_105 : Um → Prop) (rec_ : Int32 → Um → Prop) (x2 : Int32) (U : Um) : Prop :=
  ((uI U o0 0) ≤ x2 → k_105 U) ∧ (¬ (uI U o0 0) ≤ x2 → (∃ n_16, w_X5_shorten_L12 o0 x1 x2 post (fun U_14 => ∀ (x2_15 : Int32), x2_15 = x2 + 1 → rec_ x2_15 U_14) n_16 0 U))
def w_X5_shorten_L2 (o0 : Nat) (x1 : Int32) (post : Um → Prop) (k_105 : Um → Prop) (n_ : Nat) : Int32 → Um → Prop := Nat.rec (motive := fun _ => Int32 → Um → Prop) (fun _ _ => False) (fun _ ih => b_X5_shorten_L2 o0 x1 post k_105 ih) n_
def w_X5_shorten (o : Nat) (a1 : Int32) (U : Um) (post : Um → Prop) : Prop :=
  (∃ n_18, w_X5_shorten_L2 o a1 post (fun U_17 => post U_17) n_18 0 U)
set_option maxHeartbeats 4000000 in
theorem tl_X5_shorten_L12 {l : Launch} {Y : px_Y} {X : px_X} {h0 hh : pe_H} {sz : Nat} (o0 : Nat) (x1 : Int32) (x2 : Int32) (post : Um → Prop) (k_99 : Um → Prop) (ho0 : oc o0 = 4)  (hC : px_C X Y.1 (pm_A hh sz) cX5_shorten RX5 6) (hM : px_M l X Y.1 hh sz yX5_shorten cX5_shorten 6 none 0 0 0) (hR : X.2.2.2.1 = pm_rm 0 0 0) (hk_99 : ∀ (U : Um) (h : pe_H), k_99 U → rF Y h0 U h → pw X Y.1 (pm_A hh sz) (pm_E X Y.1 hh sz 0 0 (pm_P Y h0 sz (pq_v post))) 99 [some (.ref (Y.2.1 o0)), some (.int x1), some (.int x2), none, none, none] [] h sz 0 0) : ∀ (n_ : Nat) (x3 : Int32) (U : Um) (h : pe_H), rF Y h0 U h → w_X5_shorten_L12 o0 x1 x2 post k_99 n_ x3 U → pw X Y.1 (pm_A hh sz) (pm_E X Y.1 hh sz 0 0 (pm_P Y h0 sz (pq_v post))) 12 [some (.ref (Y.2.1 o0)), some (.int x1), some (.int x2), some (.int x3), none, none] [] h sz 0 0 := by
  intro n_
  induction n_ with
  | zero => intro x3 U h hU H; exact False.elim H
  | succ n_ ih =>
    intro x3 U h hU H
    replace H : b_X5_shorten_L12 o0 x1 x2 post k_99 (w_X5_shorten_L12 o0 x1 x2 post k_99 n_) x3 U := H
    unfold b_X5_shorten_L12 at H
    refine pr_iload_n hC (by decide +kernel : decode cX5_shorten 12 = .ok (.iload_n 3, 1)) rfl ?_
    refine pr_aload_n hC (by decide +kernel : decode cX5_shorten 13 = .ok (.aload_n 0, 1)) rfl ?_
    refine pu_g0 hC fg_X5_19 (by decide +kernel : decode cX5_shorten 14 = .ok (.getfield 19, 3)) hU ho0 (by decide) rfl rfl ?_
    refine pr_icmp_ge hC 99 (by decide +kernel : decode cX5_shorten 17 = .ok (.if_icmp .ge 82, 3)) (by decide) (fun c_17 => ?_) (fun c_17 => ?_)
    · replace H := H.1 c_17
      exact pv_sub [some (.ref (Y.2.1 o0)), some (.int x1), some (.int x2), none, none, none] (And.intro rfl (And.intro rfl (And.intro rfl trivial))) (hk_99 U h H hU)
    replace H := H.2 c_17
    refine pr_aload_n hC (by decide +kernel : decode cX5_shorten 20 = .ok (.aload_n 0, 1)) rfl ?_
    refine pu_g1 hC fg_X5_16 (by decide +kernel : decode cX5_shorten 21 = .ok (.getfield 16, 3)) hU ho0 (by decide) rfl (by decide) ?_
    refine pr_iload_n hC (by decide +kernel : decode cX5_shorten 24 = .ok (.iload_n 2, 1)) rfl ?_
    have q_1 := H.1
    replace H := H.2
    refine pu_aald6 hC (by decide +kernel : decode cX5_shorten 25 = .ok (.aaload, 1)) hU ho0 rfl q_1 ?_
    refine pr_iload_n hC (by decide +kernel : decode cX5_shorten 26 = .ok (.iload_n 1, 1)) rfl ?_
    refine pu_iald7 hC (by decide +kernel : decode cX5_shorten 27 = .ok (.iaload, 1)) hU ho0 rfl (vp_lt q_1) H.1 ?_
    replace H := H.2
    refine pv_topi (fun x4_2 e_x4_2 => ?_)
    replace H := H x4_2 e_x4_2
    refine pr_istore hC (by decide +kernel : decode cX5_shorten 28 = .ok (.istore 4, 2)) (by decide) rfl ?_
    refine pr_aload_n hC (by decide +kernel : decode cX5_shorten 30 = .ok (.aload_n 0, 1)) rfl ?_
    refine pu_g1 hC fg_X5_16 (by decide +kernel : decode cX5_shorten 31 = .ok (.getfield 16, 3)) hU ho0 (by decide) rfl (by decide) ?_
    refine pr_iload_n hC (by decide +kernel : decode cX5_shorten 34 = .ok (.iload_n 1, 1)) rfl ?_
    have q_3 := H.1
    replace H := H.2
    refine pu_aald6 hC (by decide +kernel : decode cX5_shorten 35 = .ok (.aaload, 1)) hU ho0 rfl q_3 ?_
    refine pr_iload_n hC (by decide +kernel : decode cX5_shorten 36 = .ok (.iload_n 3, 1)) rfl ?_
    refine pu_iald7 hC (by decide +kernel : decode cX5_shorten 37 = .ok (.iaload, 1)) hU ho0 rfl (vp_lt q_3) H.1 ?_
    replace H := H.2
    refine pv_topi (fun x5_4 e_x5_4 => ?_)
    replace H := H x5_4 e_x5_4
    refine pr_istore hC (by decide +kernel : decode cX5_shorten 38 = .ok (.istore 5, 2)) (by decide) rfl ?_
    refine pr_iload hC (by decide +kernel : decode cX5_shorten 40 = .ok (.iload 4, 2)) rfl ?_
    refine pr_iconst hC (-1) (by decide +kernel : decode cX5_shorten 42 = .ok (.iconst (-1), 1)) rfl ?_
    refine pr_icmp_eq hC 93 (by decide +kernel : decode cX5_shorten 43 = .ok (.if_icmp .eq 50, 3)) (by decide) (fun c_43 => ?_) (fun c_43 => ?_)
    · replace H := H.1 c_43
      refine pv_iinc hC (v := x3 + 1) (by decide +kernel : decode cX5_shorten 93 = .ok (.iinc 3 1, 3)) rfl (by decide) rfl rfl (fun x3_5 e_x3_5 => ?_)
      replace H := H x3_5 e_x3_5
      refine pr_goto hC 12 (by decide +kernel : decode cX5_shorten 96 = .ok (.goto (-84), 3)) (by decide) ?_
      exact pv_sub [some (.ref (Y.2.1 o0)), some (.int x1), some (.int x2), some (.int x3_5), none, none] (And.intro rfl (And.intro rfl (And.intro rfl (And.intro rfl trivial)))) (ih _ U h hU H)
    replace H := H.2 c_43
    refine pr_iload hC (by decide +kernel : decode cX5_shorten 46 = .ok (.iload 5, 2)) rfl ?_
    refine pr_iconst hC (-1) (by decide +kernel : decode cX5_shorten 48 = .ok (.iconst (-1), 1)) rfl ?_
    refine pr_icmp_eq hC 93 (by decide +kernel : decode cX5_shorten 49 = .ok (.if_icmp .eq 44, 3)) (by decide) (fun c_49 => ?_) (fun c_49 => ?_)
    · replace H := H.1 c_49
      refine pv_iinc hC (v := x3 + 1) (by decide +kernel : decode cX5_shorten 93 = .ok (.iinc 3 1, 3)) rfl (by decide) rfl rfl (fun x3_6 e_x3_6 => ?_)
      replace H := H x3_6 e_x3_6
      refine pr_goto hC 12 (by decide +kernel : decode cX5_shorten 96 = .ok (.goto (-84), 3)) (by decide) ?_
      exact pv_sub [some (.ref (Y.2.1 o0)), some (.int x1), some (.int x2), some (.int x3_6), none, none] (And.intro rfl (And.intro rfl (And.intro rfl (And.intro rfl trivial)))) (ih _ U h hU H)
    replace H := H.2 c_49
    refine pr_aload_n hC (by decide +kernel : decode cX5_shorten 52 = .ok (.aload_n 0, 1)) rfl ?_
    refine pu_g1 hC fg_X5_16 (by decide +kernel : decode cX5_shorten 53 = .ok (.getfield 16, 3)) hU ho0 (by decide) rfl (by decide) ?_
    refine pr_iload_n hC (by decide +kernel : decode cX5_shorten 56 = .ok (.iload_n 2, 1)) rfl ?_
    have q_7 := H.1
    replace H := H.2
    refine pu_aald6 hC (by decide +kernel : decode cX5_shorten 57 = .ok (.aaload, 1)) hU ho0 rfl q_7 ?_
    refine pr_iload_n hC (by decide +kernel : decode cX5_shorten 58 = .ok (.iload_n 3, 1)) rfl ?_
    refine pu_iald7 hC (by decide +kernel : decode cX5_shorten 59 = .ok (.iaload, 1)) hU ho0 rfl (vp_lt q_7) H.1 ?_
    replace H := H.2
    refine pr_iconst hC (-1) (by decide +kernel : decode cX5_shorten 60 = .ok (.iconst (-1), 1)) rfl ?_
    replace H := H (pw X Y.1 (pm_A hh sz) (pm_E X Y.1 hh sz 0 0 (pm_P Y h0 sz (pq_v post))) 80 [some (.ref (Y.2.1 o0)), some (.int x1), some (.int x2), some (.int x3), some (.int x4_2), some (.int x5_4)] [] h sz 0 0) (by
      intro  H
      refine pr_aload_n hC (by decide +kernel : decode cX5_shorten 80 = .ok (.aload_n 0, 1)) rfl ?_
      refine pu_g1 hC fg_X5_16 (by decide +kernel : decode cX5_shorten 81 = .ok (.getfield 16, 3)) hU ho0 (by decide) rfl (by decide) ?_
      refine pr_iload_n hC (by decide +kernel : decode cX5_shorten 84 = .ok (.iload_n 2, 1)) rfl ?_
      have q_9 := H.1
      replace H := H.2
      refine pu_aald6 hC (by decide +kernel : decode cX5_shorten 85 = .ok (.aaload, 1)) hU ho0 rfl q_9 ?_
      refine pr_iload_n hC (by decide +kernel : decode cX5_shorten 86 = .ok (.iload_n 3, 1)) rfl ?_
      refine pr_iload hC (by decide +kernel : decode cX5_shorten 87 = .ok (.iload 4, 2)) rfl ?_
      refine pr_iload hC (by decide +kernel : decode cX5_shorten 89 = .ok (.iload 5, 2)) rfl ?_
      refine pr_iadd hC (by decide +kernel : decode cX5_shorten 91 = .ok (.iadd, 1)) ?_
      refine pv_iast7 hC (by decide +kernel : decode cX5_shorten 92 = .ok (.iastore, 1)) hU ho0 rfl (vp_lt q_9) H.1 (fun U_10 h e_U_10 hU => ?_)
      replace H := H.2 U_10 e_U_10
      refine pv_iinc hC (v := x3 + 1) (by decide +kernel : decode cX5_shorten 93 = .ok (.iinc 3 1, 3)) rfl (by decide) rfl rfl (fun x3_11 e_x3_11 => ?_)
      replace H := H x3_11 e_x3_11
      refine pr_goto hC 12 (by decide +kernel : decode cX5_shorten 96 = .ok (.goto (-84), 3)) (by decide) ?_
      exact pv_sub [some (.ref (Y.2.1 o0)), some (.int x1), some (.int x2), some (.int x3_11), none, none] (And.intro rfl (And.intro rfl (And.intro rfl (And.intro rfl trivial)))) (ih _ U_10 h hU H))
    refine pr_icmp_eq hC 80 (by decide +kernel : decode cX5_shorten 61 = .ok (.if_icmp .eq 19, 3)) (by decide) (fun c_61 => ?_) (fun c_61 => ?_)
    · replace H := H.1 c_61
      exact pv_sub [some (.ref (Y.2.1 o0)), some (.int x1), some (.int x2), some (.int x3), some (.int x4_2), some (.int x5_4)] (And.intro rfl (And.intro rfl (And.intro rfl (And.intro rfl (And.intro rfl (And.intro rfl trivial)))))) (H )
    replace H := H.2 c_61
    refine pr_iload hC (by decide +kernel : decode cX5_shorten 64 = .ok (.iload 4, 2)) rfl ?_
    refine pr_iload hC (by decide +kernel : decode cX5_shorten 66 = .ok (.iload 5, 2)) rfl ?_
    refine pr_iadd hC (by decide +kernel : decode cX5_shorten 68 = .ok (.iadd, 1)) ?_
    refine pr_aload_n hC (by decide +kernel : decode cX5_shorten 69 = .ok (.aload_n 0, 1)) rfl ?_
    refine pu_g1 hC fg_X5_16 (by decide +kernel : decode cX5_shorten 70 = .ok (.getfield 16, 3)) hU ho0 (by decide) rfl (by decide) ?_
    refine pr_iload_n hC (by decide +kernel : decode cX5_shorten 73 = .ok (.iload_n 2, 1)) rfl ?_
    have q_12 := H.1
    replace H := H.2
    refine pu_aald6 hC (by decide +kernel : decode cX5_shorten 74 = .ok (.aaload, 1)) hU ho0 rfl q_12 ?_
    refine pr_iload_n hC (by decide +kernel : decode cX5_shorten 75 = .ok (.iload_n 3, 1)) rfl ?_
    refine pu_iald7 hC (by decide +kernel : decode cX5_shorten 76 = .ok (.iaload, 1)) hU ho0 rfl (vp_lt q_12) H.1 ?_
    replace H := H.2
    refine pr_icmp_ge hC 93 (by decide +kernel : decode cX5_shorten 77 = .ok (.if_icmp .ge 16, 3)) (by decide) (fun c_77 => ?_) (fun c_77 => ?_)
    · replace H := H.1 c_77
      refine pv_iinc hC (v := x3 + 1) (by decide +kernel : decode cX5_shorten 93 = .ok (.iinc 3 1, 3)) rfl (by decide) rfl rfl (fun x3_13 e_x3_13 => ?_)
      replace H := H x3_13 e_x3_13
      refine pr_goto hC 12 (by decide +kernel : decode cX5_shorten 96 = .ok (.goto (-84), 3)) (by decide) ?_
      exact pv_sub [some (.ref (Y.2.1 o0)), some (.int x1), some (.int x2), some (.int x3_13), none, none] (And.intro rfl (And.intro rfl (And.intro rfl (And.intro rfl trivial)))) (ih _ U h hU H)
    replace H := H.2 c_77
    exact pv_sub [some (.ref (Y.2.1 o0)), some (.int x1), some (.int x2), some (.int x3), some (.int x4_2), some (.int x5_4)] (And.intro rfl (And.intro rfl (And.intro rfl (And.intro rfl (And.intro rfl (And.intro rfl trivial)))))) (H )
set_option maxHeartbeats 4000000 in
theorem tl_X5_shorten_L2 {l : Launch} {Y : px_Y} {X : px_X} {h0 hh : pe_H} {sz : Nat} (o0 : Nat) (x1 : Int32) (post : Um → Prop) (k_105 : Um → Prop) (ho0 : oc o0 = 4)  (hC : px_C X Y.1 (pm_A hh sz) cX5_shorten RX5 6) (hM : px_M l X Y.1 hh sz yX5_shorten cX5_shorten 6 none 0 0 0) (hR : X.2.2.2.1 = pm_rm 0 0 0) (hk_105 : ∀ (U : Um) (h : pe_H), k_105 U → rF Y h0 U h → pw X Y.1 (pm_A hh sz) (pm_E X Y.1 hh sz 0 0 (pm_P Y h0 sz (pq_v post))) 105 [none, none, none, none, none, none] [] h sz 0 0) : ∀ (n_ : Nat) (x2 : Int32) (U : Um) (h : pe_H), rF Y h0 U h → w_X5_shorten_L2 o0 x1 post k_105 n_ x2 U → pw X Y.1 (pm_A hh sz) (pm_E X Y.1 hh sz 0 0 (pm_P Y h0 sz (pq_v post))) 2 [some (.ref (Y.2.1 o0)), some (.int x1), some (.int x2), none, none, none] [] h sz 0 0 := by
  intro n_
  induction n_ with
  | zero => intro x2 U h hU H; exact False.elim H
  | succ n_ ih =>
    intro x2 U h hU H
    replace H : b_X5_shorten_L2 o0 x1 post k_105 (w_X5_shorten_L2 o0 x1 post k_105 n_) x2 U := H
    unfold b_X5_shorten_L2 at H
    refine pr_iload_n hC (by decide +kernel : decode cX5_shorten 2 = .ok (.iload_n 2, 1)) rfl ?_
    refine pr_aload_n hC (by decide +kernel : decode cX5_shorten 3 = .ok (.aload_n 0, 1)) rfl ?_
    refine pu_g0 hC fg_X5_19 (by decide +kernel : decode cX5_shorten 4 = .ok (.getfield 19, 3)) hU ho0 (by decide) rfl rfl ?_
    refine pr_icmp_ge hC 105 (by decide +kernel : decode cX5_shorten 7 = .ok (.if_icmp .ge 98, 3)) (by decide) (fun c_7 => ?_) (fun c_7 => ?_)
    · replace H := H.1 c_7
      exact pv_sub [none, none, none, none, none, none] (trivial) (hk_105 U h H hU)
    replace H := H.2 c_7
    refine pr_iconst hC (0) (by decide +kernel : decode cX5_shorten 10 = .ok (.iconst 0, 1)) rfl ?_
    refine pr_istore_n hC (by decide +kernel : decode cX5_shorten 11 = .ok (.istore_n 3, 1)) (by decide) rfl ?_
    obtain ⟨n_16, H⟩ := H
    refine pv_sub [some (.ref (Y.2.1 o0)), some (.int x1), some (.int x2), some (.int 0), none, none] (And.intro rfl (And.intro rfl (And.intro rfl (And.intro rfl trivial)))) ?_
    refine tl_X5_shorten_L12 _ _ _ _ _ ho0 hC hM hR (fun U_14 h H hU => ?_) n_16 _ U h hU H
    refine pv_iinc hC (v := x2 + 1) (by decide +kernel : decode cX5_shorten 99 = .ok (.iinc 2 1, 3)) rfl (by decide) rfl rfl (fun x2_15 e_x2_15 => ?_)
    replace H := H x2_15 e_x2_15
    refine pr_goto hC 2 (by decide +kernel : decode cX5_shorten 102 = .ok (.goto (-100), 3)) (by decide) ?_
    exact pv_sub [some (.ref (Y.2.1 o0)), some (.int x1), some (.int x2_15), none, none, none] (And.intro rfl (And.intro rfl (And.intro rfl trivial))) (ih _ U_14 h hU H)
set_option maxHeartbeats 4000000 in
theorem t_X5_shorten {l : Launch} {Y : px_Y} {o : Nat} {a1 : Int32} {U : Um} {post : Um → Prop} (ho : oc o = 4) (H : w_X5_shorten o a1 U post) : um l Y 0 yX5_shorten cX5_shorten 6 none [.ref (Y.2.1 o), .int a1] U (pq_v post) := by
  unfold w_X5_shorten at H
  refine um_of (by decide) (Nat.le_of_ble_eq_true rfl) [some (.ref (Y.2.1 o)), some (.int a1), none, none, none, none] rfl (fun X h0 hh sz hM hU => ?_)
  have hC := hM.1
  have hR := hM.2.2.1
  refine pr_iconst hC (0) (by decide +kernel : decode cX5_shorten 0 = .ok (.iconst 0, 1)) rfl ?_
  refine pr_istore_n hC (by decide +kernel : decode cX5_shorten 1 = .ok (.istore_n 2, 1)) (by decide) rfl ?_
  obtain ⟨n_18, H⟩ := H
  refine pv_sub [some (.ref (Y.2.1 o)), some (.int a1), some (.int 0), none, none, none] (And.intro rfl (And.intro rfl (And.intro rfl trivial))) ?_
  refine tl_X5_shorten_L2 _ _ _ _ ho hC hM hR (fun U_17 h H hU => ?_) n_18 _ U hh hU H
  exact pv_vret hM (by decide +kernel : decode cX5_shorten 105 = .ok (.return_, 1)) hU H
def b_X5_settle_L17 (o0 : Nat) (x2 : Int32) (post : Um → Prop) (k_71 : Um → Prop) (rec_ : Int32 → Um → Prop) (x3 : Int32) (U : Um) : Prop :=
  ((uI U o0 0) ≤ x3 → k_71 U) ∧ (¬ (uI U o0 0) ≤ x3 → vp_in x2 6 ∧ (x2 = x3 → vp_in x3 6 ∧ ∀ (U_3 : Um), U_3 = sA U o0 (ki 2 (Int32.toNatClampNeg x2)) (va_up (uA U o0 (ki 2 (Int32.toNatClampNeg x2))) (Int32.toNatClampNeg x3) 0) → ∀ (x3_4 : Int32), x3_4 = x3 + 1 → rec_ x3_4 U_3) ∧ (¬ x2 = x3 → vp_in x2 6 ∧ vp_in x3 6 ∧ ((uA U o0 (ki 1 (Int32.toNatClampNeg x2)) (Int32.toNatClampNeg x3)) ≤ 0 → vp_in x3 6 ∧ ∀ (U_6 : Um), U_6 = sA U o0 (ki 2 (Int32.toNatClampNeg x2)) (va_up (uA U o0 (ki 2 (Int32.toNatClampNeg x2))) (Int32.toNatClampNeg x3) (-1)) → ∀ (x3_7 : Int32), x3_7 = x3 + 1 → rec_ x3_7 U_6) ∧ (¬ (uA U o0 (ki 1 (Int32.toNatClampNeg x2)) (Int32.toNatClampNeg x3)) ≤ 0 → vp_in x2 6 ∧ vp_in x3 6 ∧ vp_in x3 6 ∧ ∀ (U_9 : Um), U_9 = sA U o0 (ki 2 (Int32.toNatClampNeg x2)) (va_up (uA U o0 (ki 2 (Int32.toNatClampNeg x2))) (Int32.toNatClampNeg x3) (uA U o0 (ki 1 (Int32.toNatClampNeg x2)) (Int32.toNatClampNeg x3))) → ∀ (x3_10 : Int32), x3_10 = x3 + 1 → rec_ x3_10 U_9)))
def w_X5_settle_L17 (o0 : Nat) (x2 : Int32) (post : Um → Prop) (k_71 : Um → Prop) (n_ : Nat) : Int32 → Um → Prop := Nat.rec (motive := fun _ => Int32 → Um → Prop) (fun _ _ => False) (fun _ ih => b_X5_settle_L17 o0 x2 post k_71 ih) n_
def b_X5_settle_L7 (o0 : Nat) (post : Um → Prop) (k_77 : Um → Prop) (rec_ : Int32 → Um → Prop) (x2 : Int32) (U : Um) : Prop :=
  ((uI U o0 0) ≤ x2 → k_77 U) ∧ (¬ (uI U o0 0) ≤ x2 → (∃ n_13, w_X5_settle_L17 o0 x2 post (fun U_11 => ∀ (x2_12 : Int32), x2_12 = x2 + 1 → rec_ x2_12 U_11) n_13 0 U))
def w_X5_settle_L7 (o0 : Nat) (post : Um → Prop) (k_77 : Um → Prop) (n_ : Nat) : Int32 → Um → Prop := Nat.rec (motive := fun _ => Int32 → Um → Prop) (fun _ _ => False) (fun _ ih => b_X5_settle_L7 o0 post k_77 ih) n_
def b_X5_settle_L79 (o0 : Nat) (post : Um → Prop) (k_98 : Um → Prop) (rec_ : Int32 → Um → Prop) (x2 : Int32) (U : Um) : Prop :=
  ((uI U o0 0) ≤ x2 → k_98 U) ∧ (¬ (uI U o0 0) ≤ x2 → w_X5_shorten o0 x2 U (fun U_15 => ∀ (x2_17 : Int32), x2_17 = x2 + 1 → rec_ x2_17 U_15))
def w_X5_settle_L79 (o0 : Nat) (post : Um → Prop) (k_98 : Um → Prop) (n_ : Nat) : Int32 → Um → Prop := Nat.rec (motive := fun _ => Int32 → Um → Prop) (fun _ _ => False) (fun _ ih => b_X5_settle_L79 o0 post k_98 ih) n_
def w_X5_settle (o : Nat) (a1 : Int32) (U : Um) (post : Um → Prop) : Prop :=
  ∀ (U_1 : Um), U_1 = sI U o 0 a1 → (∃ n_20, w_X5_settle_L7 o post (fun U_14 => (∃ n_19, w_X5_settle_L79 o post (fun U_18 => post U_18) n_19 0 U_14)) n_20 0 U_1)
set_option maxHeartbeats 4000000 in
theorem tl_X5_settle_L17 {l : Launch} {Y : px_Y} {X : px_X} {h0 hh : pe_H} {sz : Nat} (o0 : Nat) (x2 : Int32) (post : Um → Prop) (k_71 : Um → Prop) (ho0 : oc o0 = 4)  (hC : px_C X Y.1 (pm_A hh sz) cX5_settle RX5 4) (hM : px_M l X Y.1 hh sz yX5_settle cX5_settle 4 none 1 0 0) (hR : X.2.2.2.1 = pm_rm 1 0 0) (hk_71 : ∀ (U : Um) (h : pe_H), k_71 U → rF Y h0 U h → pw X Y.1 (pm_A hh sz) (pm_E X Y.1 hh sz 0 0 (pm_P Y h0 sz (pq_v post))) 71 [some (.ref (Y.2.1 o0)), none, some (.int x2), none] [] h sz 0 0) : ∀ (n_ : Nat) (x3 : Int32) (U : Um) (h : pe_H), rF Y h0 U h → w_X5_settle_L17 o0 x2 post k_71 n_ x3 U → pw X Y.1 (pm_A hh sz) (pm_E X Y.1 hh sz 0 0 (pm_P Y h0 sz (pq_v post))) 17 [some (.ref (Y.2.1 o0)), none, some (.int x2), some (.int x3)] [] h sz 0 0 := by
  intro n_
  induction n_ with
  | zero => intro x3 U h hU H; exact False.elim H
  | succ n_ ih =>
    intro x3 U h hU H
    replace H : b_X5_settle_L17 o0 x2 post k_71 (w_X5_settle_L17 o0 x2 post k_71 n_) x3 U := H
    unfold b_X5_settle_L17 at H
    refine pr_iload_n hC (by decide +kernel : decode cX5_settle 17 = .ok (.iload_n 3, 1)) rfl ?_
    refine pr_aload_n hC (by decide +kernel : decode cX5_settle 18 = .ok (.aload_n 0, 1)) rfl ?_
    refine pu_g0 hC fg_X5_19 (by decide +kernel : decode cX5_settle 19 = .ok (.getfield 19, 3)) hU ho0 (by decide) rfl rfl ?_
    refine pr_icmp_ge hC 71 (by decide +kernel : decode cX5_settle 22 = .ok (.if_icmp .ge 49, 3)) (by decide) (fun c_22 => ?_) (fun c_22 => ?_)
    · replace H := H.1 c_22
      exact pv_sub [some (.ref (Y.2.1 o0)), none, some (.int x2), none] (And.intro rfl (And.intro rfl trivial)) (hk_71 U h H hU)
    replace H := H.2 c_22
    refine pr_aload_n hC (by decide +kernel : decode cX5_settle 25 = .ok (.aload_n 0, 1)) rfl ?_
    refine pu_g1 hC fg_X5_16 (by decide +kernel : decode cX5_settle 26 = .ok (.getfield 16, 3)) hU ho0 (by decide) rfl (by decide) ?_
    refine pr_iload_n hC (by decide +kernel : decode cX5_settle 29 = .ok (.iload_n 2, 1)) rfl ?_
    have q_2 := H.1
    replace H := H.2
    refine pu_aald6 hC (by decide +kernel : decode cX5_settle 30 = .ok (.aaload, 1)) hU ho0 rfl q_2 ?_
    refine pr_iload_n hC (by decide +kernel : decode cX5_settle 31 = .ok (.iload_n 3, 1)) rfl ?_
    refine pr_iload_n hC (by decide +kernel : decode cX5_settle 32 = .ok (.iload_n 2, 1)) rfl ?_
    refine pr_iload_n hC (by decide +kernel : decode cX5_settle 33 = .ok (.iload_n 3, 1)) rfl ?_
    refine pr_icmp_ne hC 41 (by decide +kernel : decode cX5_settle 34 = .ok (.if_icmp .ne 7, 3)) (by decide) (fun c_34 => ?_) (fun c_34 => ?_)
    · replace H := H.2 c_34
      refine pr_aload_n hC (by decide +kernel : decode cX5_settle 41 = .ok (.aload_n 0, 1)) rfl ?_
      refine pu_g1 hC fg_X5_13 (by decide +kernel : decode cX5_settle 42 = .ok (.getfield 13, 3)) hU ho0 (by decide) rfl (by decide) ?_
      refine pr_iload_n hC (by decide +kernel : decode cX5_settle 45 = .ok (.iload_n 2, 1)) rfl ?_
      have q_5 := H.1
      replace H := H.2
      refine pu_aald6 hC (by decide +kernel : decode cX5_settle 46 = .ok (.aaload, 1)) hU ho0 rfl q_5 ?_
      refine pr_iload_n hC (by decide +kernel : decode cX5_settle 47 = .ok (.iload_n 3, 1)) rfl ?_
      refine pu_iald7 hC (by decide +kernel : decode cX5_settle 48 = .ok (.iaload, 1)) hU ho0 rfl (vp_lt q_5) H.1 ?_
      replace H := H.2
      refine pr_if_le hC 63 (by decide +kernel : decode cX5_settle 49 = .ok (.ifCond .le 14, 3)) (by decide) (fun c_49 => ?_) (fun c_49 => ?_)
      · replace H := H.1 c_49
        refine pr_iconst hC (-1) (by decide +kernel : decode cX5_settle 63 = .ok (.iconst (-1), 1)) rfl ?_
        refine pv_iast7 hC (by decide +kernel : decode cX5_settle 64 = .ok (.iastore, 1)) hU ho0 rfl (vp_lt q_2) H.1 (fun U_6 h e_U_6 hU => ?_)
        replace H := H.2 U_6 e_U_6
        refine pv_iinc hC (v := x3 + 1) (by decide +kernel : decode cX5_settle 65 = .ok (.iinc 3 1, 3)) rfl (by decide) rfl rfl (fun x3_7 e_x3_7 => ?_)
        replace H := H x3_7 e_x3_7
        refine pr_goto hC 17 (by decide +kernel : decode cX5_settle 68 = .ok (.goto (-51), 3)) (by decide) ?_
        exact pv_sub [some (.ref (Y.2.1 o0)), none, some (.int x2), some (.int x3_7)] (And.intro rfl (And.intro rfl (And.intro rfl trivial))) (ih _ U_6 h hU H)
      replace H := H.2 c_49
      refine pr_aload_n hC (by decide +kernel : decode cX5_settle 52 = .ok (.aload_n 0, 1)) rfl ?_
      refine pu_g1 hC fg_X5_13 (by decide +kernel : decode cX5_settle 53 = .ok (.getfield 13, 3)) hU ho0 (by decide) rfl (by decide) ?_
      refine pr_iload_n hC (by decide +kernel : decode cX5_settle 56 = .ok (.iload_n 2, 1)) rfl ?_
      have q_8 := H.1
      replace H := H.2
      refine pu_aald6 hC (by decide +kernel : decode cX5_settle 57 = .ok (.aaload, 1)) hU ho0 rfl q_8 ?_
      refine pr_iload_n hC (by decide +kernel : decode cX5_settle 58 = .ok (.iload_n 3, 1)) rfl ?_
      refine pu_iald7 hC (by decide +kernel : decode cX5_settle 59 = .ok (.iaload, 1)) hU ho0 rfl (vp_lt q_8) H.1 ?_
      replace H := H.2
      refine pr_goto hC 64 (by decide +kernel : decode cX5_settle 60 = .ok (.goto 4, 3)) (by decide) ?_
      refine pv_iast7 hC (by decide +kernel : decode cX5_settle 64 = .ok (.iastore, 1)) hU ho0 rfl (vp_lt q_2) H.1 (fun U_9 h e_U_9 hU => ?_)
      replace H := H.2 U_9 e_U_9
      refine pv_iinc hC (v := x3 + 1) (by decide +kernel : decode cX5_settle 65 = .ok (.iinc 3 1, 3)) rfl (by decide) rfl rfl (fun x3_10 e_x3_10 => ?_)
      replace H := H x3_10 e_x3_10
      refine pr_goto hC 17 (by decide +kernel : decode cX5_settle 68 = .ok (.goto (-51), 3)) (by decide) ?_
      exact pv_sub [some (.ref (Y.2.1 o0)), none, some (.int x2), some (.int x3_10)] (And.intro rfl (And.intro rfl (And.intro rfl trivial))) (ih _ U_9 h hU H)
    replace H := H.1 c_34
    refine pr_iconst hC (0) (by decide +kernel : decode cX5_settle 37 = .ok (.iconst 0, 1)) rfl ?_
    refine pr_goto hC 64 (by decide +kernel : decode cX5_settle 38 = .ok (.goto 26, 3)) (by decide) ?_
    refine pv_iast7 hC (by decide +kernel : decode cX5_settle 64 = .ok (.iastore, 1)) hU ho0 rfl (vp_lt q_2) H.1 (fun U_3 h e_U_3 hU => ?_)
    replace H := H.2 U_3 e_U_3
    refine pv_iinc hC (v := x3 + 1) (by decide +kernel : decode cX5_settle 65 = .ok (.iinc 3 1, 3)) rfl (by decide) rfl rfl (fun x3_4 e_x3_4 => ?_)
    replace H := H x3_4 e_x3_4
    refine pr_goto hC 17 (by decide +kernel : decode cX5_settle 68 = .ok (.goto (-51), 3)) (by decide) ?_
    exact pv_sub [some (.ref (Y.2.1 o0)), none, some (.int x2), some (.int x3_4)] (And.intro rfl (And.intro rfl (And.intro rfl trivial))) (ih _ U_3 h hU H)
set_option maxHeartbeats 4000000 in
theorem tl_X5_settle_L7 {l : Launch} {Y : px_Y} {X : px_X} {h0 hh : pe_H} {sz : Nat} (o0 : Nat) (post : Um → Prop) (k_77 : Um → Prop) (ho0 : oc o0 = 4)  (hC : px_C X Y.1 (pm_A hh sz) cX5_settle RX5 4) (hM : px_M l X Y.1 hh sz yX5_settle cX5_settle 4 none 1 0 0) (hR : X.2.2.2.1 = pm_rm 1 0 0) (hk_77 : ∀ (U : Um) (h : pe_H), k_77 U → rF Y h0 U h → pw X Y.1 (pm_A hh sz) (pm_E X Y.1 hh sz 0 0 (pm_P Y h0 sz (pq_v post))) 77 [some (.ref (Y.2.1 o0)), none, none, none] [] h sz 0 0) : ∀ (n_ : Nat) (x2 : Int32) (U : Um) (h : pe_H), rF Y h0 U h → w_X5_settle_L7 o0 post k_77 n_ x2 U → pw X Y.1 (pm_A hh sz) (pm_E X Y.1 hh sz 0 0 (pm_P Y h0 sz (pq_v post))) 7 [some (.ref (Y.2.1 o0)), none, some (.int x2), none] [] h sz 0 0 := by
  intro n_
  induction n_ with
  | zero => intro x2 U h hU H; exact False.elim H
  | succ n_ ih =>
    intro x2 U h hU H
    replace H : b_X5_settle_L7 o0 post k_77 (w_X5_settle_L7 o0 post k_77 n_) x2 U := H
    unfold b_X5_settle_L7 at H
    refine pr_iload_n hC (by decide +kernel : decode cX5_settle 7 = .ok (.iload_n 2, 1)) rfl ?_
    refine pr_aload_n hC (by decide +kernel : decode cX5_settle 8 = .ok (.aload_n 0, 1)) rfl ?_
    refine pu_g0 hC fg_X5_19 (by decide +kernel : decode cX5_settle 9 = .ok (.getfield 19, 3)) hU ho0 (by decide) rfl rfl ?_
    refine pr_icmp_ge hC 77 (by decide +kernel : decode cX5_settle 12 = .ok (.if_icmp .ge 65, 3)) (by decide) (fun c_12 => ?_) (fun c_12 => ?_)
    · replace H := H.1 c_12
      exact pv_sub [some (.ref (Y.2.1 o0)), none, none, none] (And.intro rfl trivial) (hk_77 U h H hU)
    replace H := H.2 c_12
    refine pr_iconst hC (0) (by decide +kernel : decode cX5_settle 15 = .ok (.iconst 0, 1)) rfl ?_
    refine pr_istore_n hC (by decide +kernel : decode cX5_settle 16 = .ok (.istore_n 3, 1)) (by decide) rfl ?_
    obtain ⟨n_13, H⟩ := H
    refine pv_sub [some (.ref (Y.2.1 o0)), none, some (.int x2), some (.int 0)] (And.intro rfl (And.intro rfl (And.intro rfl trivial))) ?_
    refine tl_X5_settle_L17 _ _ _ _ ho0 hC hM hR (fun U_11 h H hU => ?_) n_13 _ U h hU H
    refine pv_iinc hC (v := x2 + 1) (by decide +kernel : decode cX5_settle 71 = .ok (.iinc 2 1, 3)) rfl (by decide) rfl rfl (fun x2_12 e_x2_12 => ?_)
    replace H := H x2_12 e_x2_12
    refine pr_goto hC 7 (by decide +kernel : decode cX5_settle 74 = .ok (.goto (-67), 3)) (by decide) ?_
    exact pv_sub [some (.ref (Y.2.1 o0)), none, some (.int x2_12), none] (And.intro rfl (And.intro rfl trivial)) (ih _ U_11 h hU H)
set_option maxHeartbeats 4000000 in
theorem tl_X5_settle_L79 {l : Launch} {Y : px_Y} {X : px_X} {h0 hh : pe_H} {sz : Nat} (o0 : Nat) (post : Um → Prop) (k_98 : Um → Prop) (ho0 : oc o0 = 4)  (hC : px_C X Y.1 (pm_A hh sz) cX5_settle RX5 4) (hM : px_M l X Y.1 hh sz yX5_settle cX5_settle 4 none 1 0 0) (hR : X.2.2.2.1 = pm_rm 1 0 0) (hk_98 : ∀ (U : Um) (h : pe_H), k_98 U → rF Y h0 U h → pw X Y.1 (pm_A hh sz) (pm_E X Y.1 hh sz 0 0 (pm_P Y h0 sz (pq_v post))) 98 [none, none, none, none] [] h sz 0 0) : ∀ (n_ : Nat) (x2 : Int32) (U : Um) (h : pe_H), rF Y h0 U h → w_X5_settle_L79 o0 post k_98 n_ x2 U → pw X Y.1 (pm_A hh sz) (pm_E X Y.1 hh sz 0 0 (pm_P Y h0 sz (pq_v post))) 79 [some (.ref (Y.2.1 o0)), none, some (.int x2), none] [] h sz 0 0 := by
  intro n_
  induction n_ with
  | zero => intro x2 U h hU H; exact False.elim H
  | succ n_ ih =>
    intro x2 U h hU H
    replace H : b_X5_settle_L79 o0 post k_98 (w_X5_settle_L79 o0 post k_98 n_) x2 U := H
    unfold b_X5_settle_L79 at H
    refine pr_iload_n hC (by decide +kernel : decode cX5_settle 79 = .ok (.iload_n 2, 1)) rfl ?_
    refine pr_aload_n hC (by decide +kernel : decode cX5_settle 80 = .ok (.aload_n 0, 1)) rfl ?_
    refine pu_g0 hC fg_X5_19 (by decide +kernel : decode cX5_settle 81 = .ok (.getfield 19, 3)) hU ho0 (by decide) rfl rfl ?_
    refine pr_icmp_ge hC 98 (by decide +kernel : decode cX5_settle 84 = .ok (.if_icmp .ge 14, 3)) (by decide) (fun c_84 => ?_) (fun c_84 => ?_)
    · replace H := H.1 c_84
      exact pv_sub [none, none, none, none] (trivial) (hk_98 U h H hU)
    replace H := H.2 c_84
    refine pr_aload_n hC (by decide +kernel : decode cX5_settle 87 = .ok (.aload_n 0, 1)) rfl ?_
    refine pr_iload_n hC (by decide +kernel : decode cX5_settle 88 = .ok (.iload_n 2, 1)) rfl ?_
    refine vc_Vv hC hR [.int x2] fv_X5_23 (by decide +kernel : decode cX5_settle 89 = .ok (.invokevirtual 23, 3)) hU (t_X5_shorten ho0 H) ho0 (by decide) rfl rfl rfl (Nat.le_of_ble_eq_true rfl) (Nat.le_of_ble_eq_true rfl) (Nat.le_refl 0) (Nat.le_refl 0) (fun U_15 h H hU => ?_)
    refine pv_iinc hC (v := x2 + 1) (by decide +kernel : decode cX5_settle 92 = .ok (.iinc 2 1, 3)) rfl (by decide) rfl rfl (fun x2_17 e_x2_17 => ?_)
    replace H := H x2_17 e_x2_17
    refine pr_goto hC 79 (by decide +kernel : decode cX5_settle 95 = .ok (.goto (-16), 3)) (by decide) ?_
    exact pv_sub [some (.ref (Y.2.1 o0)), none, some (.int x2_17), none] (And.intro rfl (And.intro rfl trivial)) (ih _ U_15 h hU H)
set_option maxHeartbeats 4000000 in
theorem t_X5_settle {l : Launch} {Y : px_Y} {o : Nat} {a1 : Int32} {U : Um} {post : Um → Prop} (ho : oc o = 4) (H : w_X5_settle o a1 U post) : um l Y 1 yX5_settle cX5_settle 4 none [.ref (Y.2.1 o), .int a1] U (pq_v post) := by
  unfold w_X5_settle at H
  refine um_of (by decide) (Nat.le_of_ble_eq_true rfl) [some (.ref (Y.2.1 o)), some (.int a1), none, none] rfl (fun X h0 hh sz hM hU => ?_)
  have hC := hM.1
  have hR := hM.2.2.1
  refine pr_aload_n hC (by decide +kernel : decode cX5_settle 0 = .ok (.aload_n 0, 1)) rfl ?_
  refine pr_iload_n hC (by decide +kernel : decode cX5_settle 1 = .ok (.iload_n 1, 1)) rfl ?_
  refine pv_p0 hC fp_X5_19 (by decide +kernel : decode cX5_settle 2 = .ok (.putfield 19, 3)) hU ho (by decide) rfl rfl rfl rfl (fun U_1 h e_U_1 hU => ?_)
  replace H := H U_1 e_U_1
  refine pr_iconst hC (0) (by decide +kernel : decode cX5_settle 5 = .ok (.iconst 0, 1)) rfl ?_
  refine pr_istore_n hC (by decide +kernel : decode cX5_settle 6 = .ok (.istore_n 2, 1)) (by decide) rfl ?_
  obtain ⟨n_20, H⟩ := H
  refine pv_sub [some (.ref (Y.2.1 o)), none, some (.int 0), none] (And.intro rfl (And.intro rfl trivial)) ?_
  refine tl_X5_settle_L7 _ _ _ ho hC hM hR (fun U_14 h H hU => ?_) n_20 _ U_1 h hU H
  refine pr_iconst hC (0) (by decide +kernel : decode cX5_settle 77 = .ok (.iconst 0, 1)) rfl ?_
  refine pr_istore_n hC (by decide +kernel : decode cX5_settle 78 = .ok (.istore_n 2, 1)) (by decide) rfl ?_
  obtain ⟨n_19, H⟩ := H
  refine pv_sub [some (.ref (Y.2.1 o)), none, some (.int 0), none] (And.intro rfl (And.intro rfl trivial)) ?_
  refine tl_X5_settle_L79 _ _ _ ho hC hM hR (fun U_18 h H hU => ?_) n_19 _ U_14 h hU H
  exact pv_vret hM (by decide +kernel : decode cX5_settle 98 = .ok (.return_, 1)) hU H
def b_X9_compareWithOthers_L19 (o0 : Nat) (x1 : Int32) (o2 : Nat) (post : Um → Prop) (k_108 : Um → Prop) (rec_ : Int32 → Um → Prop) (x3 : Int32) (U : Um) : Prop :=
  ((uI U o0 7) ≤ x3 → k_108 U) ∧ (¬ (uI U o0 7) ≤ x3 → (x3 = x1 → ∀ (x3_5 : Int32), x3_5 = x3 + 1 → rec_ x3_5 U) ∧ (¬ x3 = x1 → vp_in x3 16 ∧ oc (uAR U o0 6 (Int32.toNatClampNeg x3)) = 1 ∧ ((uI U (uAR U o0 6 (Int32.toNatClampNeg x3)) 3) = (uI U o2 3) → oc (uR U o0 10) = 4 ∧ vp_in (uI U o2 2) 6 ∧ vp_in x3 16 ∧ oc (uAR U o0 6 (Int32.toNatClampNeg x3)) = 1 ∧ vp_in (uI U (uAR U o0 6 (Int32.toNatClampNeg x3)) 2) 6 ∧ ∀ (x4_12 : Int32), x4_12 = uA U (uR U o0 10) (ki 2 (Int32.toNatClampNeg (uI U o2 2))) (Int32.toNatClampNeg (uI U (uAR U o0 6 (Int32.toNatClampNeg x3)) 2)) → vp_in x3 16 ∧ oc (uAR U o0 6 (Int32.toNatClampNeg x3)) = 1 ∧ ∀ (xs_15 : Int32), xs_15 = (if x4_12 = (-1) then (-1) else x4_12 + (uI U o0 8)) → w_X2_compare o2 (uAR U o0 6 (Int32.toNatClampNeg x3)) ((1 : Int32) <<< (x3 &&& 31)) xs_15 U (fun U_16 => ∀ (x3_18 : Int32), x3_18 = x3 + 1 → rec_ x3_18 U_16)) ∧ (¬ (uI U (uAR U o0 6 (Int32.toNatClampNeg x3)) 3) = (uI U o2 3) → ∀ (x3_20 : Int32), x3_20 = x3 + 1 → rec_ x3_20 U)))
def w_X9_compareWithOthers_L19 (o0 : Nat) (x1 : Int32) (o2 : Nat) (post : Um → Prop) (k_108 : Um → Prop) (n_ : Nat) : Int32 → Um → Prop := Nat.rec (motive := fun _ => Int32 → Um → Prop) (fun _ _ => False) (fun _ ih => b_X9_compareWithOthers_L19 o0 x1 o2 post k_108 ih) n_
def w_X9_compareWithOthers (o : Nat) (a1 : Int32) (U : Um) (post : Um → Prop) : Prop :=
  vp_in a1 16 ∧ oc (uAR U o 6 (Int32.toNatClampNeg a1)) = 1 ∧ ∀ (U_3 : Um), U_3 = sI U (uAR U o 6 (Int32.toNatClampNeg a1)) 8 0 → ∀ (U_4 : Um), U_4 = sI U_3 (uAR U o 6 (Int32.toNatClampNeg a1)) 9 0 → (∃ n_22, w_X9_compareWithOthers_L19 o a1 (uAR U o 6 (Int32.toNatClampNeg a1)) post (fun U_21 => post U_21) n_22 0 U_4)
set_option maxHeartbeats 4000000 in
theorem tl_X9_compareWithOthers_L19 {l : Launch} {Y : px_Y} {X : px_X} {h0 hh : pe_H} {sz : Nat} (o0 : Nat) (x1 : Int32) (o2 : Nat) (post : Um → Prop) (k_108 : Um → Prop) (ho0 : oc o0 = 8) (ho2 : oc o2 = 1)  (hC : px_C X Y.1 (pm_A hh sz) cX9_compareWithOthers RX9 5) (hM : px_M l X Y.1 hh sz yX9_compareWithOthers cX9_compareWithOthers 5 none 2 0 0) (hR : X.2.2.2.1 = pm_rm 2 0 0) (hk_108 : ∀ (U : Um) (h : pe_H), k_108 U → rF Y h0 U h → pw X Y.1 (pm_A hh sz) (pm_E X Y.1 hh sz 0 0 (pm_P Y h0 sz (pq_v post))) 108 [none, none, none, none, none] [] h sz 0 0) : ∀ (n_ : Nat) (x3 : Int32) (U : Um) (h : pe_H), rF Y h0 U h → w_X9_compareWithOthers_L19 o0 x1 o2 post k_108 n_ x3 U → pw X Y.1 (pm_A hh sz) (pm_E X Y.1 hh sz 0 0 (pm_P Y h0 sz (pq_v post))) 19 [some (.ref (Y.2.1 o0)), some (.int x1), some (.ref (Y.2.1 o2)), some (.int x3), none] [] h sz 0 0 := by
  intro n_
  induction n_ with
  | zero => intro x3 U h hU H; exact False.elim H
  | succ n_ ih =>
    intro x3 U h hU H
    replace H : b_X9_compareWithOthers_L19 o0 x1 o2 post k_108 (w_X9_compareWithOthers_L19 o0 x1 o2 post k_108 n_) x3 U := H
    unfold b_X9_compareWithOthers_L19 at H
    refine pr_iload_n hC (by decide +kernel : decode cX9_compareWithOthers 19 = .ok (.iload_n 3, 1)) rfl ?_
    refine pr_aload_n hC (by decide +kernel : decode cX9_compareWithOthers 20 = .ok (.aload_n 0, 1)) rfl ?_
    refine pu_g0 hC fg_X9_69 (by decide +kernel : decode cX9_compareWithOthers 21 = .ok (.getfield 69, 3)) hU ho0 (by decide) rfl rfl ?_
    refine pr_icmp_ge hC 108 (by decide +kernel : decode cX9_compareWithOthers 24 = .ok (.if_icmp .ge 84, 3)) (by decide) (fun c_24 => ?_) (fun c_24 => ?_)
    · replace H := H.1 c_24
      exact pv_sub [none, none, none, none, none] (trivial) (hk_108 U h H hU)
    replace H := H.2 c_24
    refine pr_iload_n hC (by decide +kernel : decode cX9_compareWithOthers 27 = .ok (.iload_n 3, 1)) rfl ?_
    refine pr_iload_n hC (by decide +kernel : decode cX9_compareWithOthers 28 = .ok (.iload_n 1, 1)) rfl ?_
    refine pr_icmp_eq hC 102 (by decide +kernel : decode cX9_compareWithOthers 29 = .ok (.if_icmp .eq 73, 3)) (by decide) (fun c_29 => ?_) (fun c_29 => ?_)
    · replace H := H.1 c_29
      refine pv_iinc hC (v := x3 + 1) (by decide +kernel : decode cX9_compareWithOthers 102 = .ok (.iinc 3 1, 3)) rfl (by decide) rfl rfl (fun x3_5 e_x3_5 => ?_)
      replace H := H x3_5 e_x3_5
      refine pr_goto hC 19 (by decide +kernel : decode cX9_compareWithOthers 105 = .ok (.goto (-86), 3)) (by decide) ?_
      exact pv_sub [some (.ref (Y.2.1 o0)), some (.int x1), some (.ref (Y.2.1 o2)), some (.int x3_5), none] (And.intro rfl (And.intro rfl (And.intro rfl (And.intro rfl trivial)))) (ih _ U h hU H)
    replace H := H.2 c_29
    refine pr_aload_n hC (by decide +kernel : decode cX9_compareWithOthers 32 = .ok (.aload_n 0, 1)) rfl ?_
    refine pu_g1 hC fg_X9_34 (by decide +kernel : decode cX9_compareWithOthers 33 = .ok (.getfield 34, 3)) hU ho0 (by decide) rfl (by decide) ?_
    refine pr_iload_n hC (by decide +kernel : decode cX9_compareWithOthers 36 = .ok (.iload_n 3, 1)) rfl ?_
    have q_6 := H.1
    replace H := H.2
    refine pu_aald8 hC (by decide +kernel : decode cX9_compareWithOthers 37 = .ok (.aaload, 1)) hU ho0 rfl q_6 ?_
    have q_7 := H.1
    replace H := H.2
    refine pu_g0 hC fg_X9_100 (by decide +kernel : decode cX9_compareWithOthers 38 = .ok (.getfield 100, 3)) hU q_7 (by decide) rfl rfl ?_
    refine pr_aload_n hC (by decide +kernel : decode cX9_compareWithOthers 41 = .ok (.aload_n 2, 1)) rfl ?_
    refine pu_g0 hC fg_X9_100 (by decide +kernel : decode cX9_compareWithOthers 42 = .ok (.getfield 100, 3)) hU ho2 (by decide) rfl rfl ?_
    refine pr_icmp_ne hC 102 (by decide +kernel : decode cX9_compareWithOthers 45 = .ok (.if_icmp .ne 57, 3)) (by decide) (fun c_45 => ?_) (fun c_45 => ?_)
    · replace H := H.2 c_45
      refine pv_iinc hC (v := x3 + 1) (by decide +kernel : decode cX9_compareWithOthers 102 = .ok (.iinc 3 1, 3)) rfl (by decide) rfl rfl (fun x3_20 e_x3_20 => ?_)
      replace H := H x3_20 e_x3_20
      refine pr_goto hC 19 (by decide +kernel : decode cX9_compareWithOthers 105 = .ok (.goto (-86), 3)) (by decide) ?_
      exact pv_sub [some (.ref (Y.2.1 o0)), some (.int x1), some (.ref (Y.2.1 o2)), some (.int x3_20), none] (And.intro rfl (And.intro rfl (And.intro rfl (And.intro rfl trivial)))) (ih _ U h hU H)
    replace H := H.1 c_45
    refine pr_aload_n hC (by decide +kernel : decode cX9_compareWithOthers 48 = .ok (.aload_n 0, 1)) rfl ?_
    refine pu_g21 hC fg_X9_42 (by decide +kernel : decode cX9_compareWithOthers 49 = .ok (.getfield 42, 3)) hU ho0 (by decide) rfl rfl ?_
    have q_8 := H.1
    replace H := H.2
    refine pu_g1 hC fg_X9_118 (by decide +kernel : decode cX9_compareWithOthers 52 = .ok (.getfield 118, 3)) hU q_8 (by decide) rfl (by decide) ?_
    refine pr_aload_n hC (by decide +kernel : decode cX9_compareWithOthers 55 = .ok (.aload_n 2, 1)) rfl ?_
    refine pu_g0 hC fg_X9_103 (by decide +kernel : decode cX9_compareWithOthers 56 = .ok (.getfield 103, 3)) hU ho2 (by decide) rfl rfl ?_
    have q_9 := H.1
    replace H := H.2
    refine pu_aald6 hC (by decide +kernel : decode cX9_compareWithOthers 59 = .ok (.aaload, 1)) hU q_8 rfl q_9 ?_
    refine pr_aload_n hC (by decide +kernel : decode cX9_compareWithOthers 60 = .ok (.aload_n 0, 1)) rfl ?_
    refine pu_g1 hC fg_X9_34 (by decide +kernel : decode cX9_compareWithOthers 61 = .ok (.getfield 34, 3)) hU ho0 (by decide) rfl (by decide) ?_
    refine pr_iload_n hC (by decide +kernel : decode cX9_compareWithOthers 64 = .ok (.iload_n 3, 1)) rfl ?_
    have q_10 := H.1
    replace H := H.2
    refine pu_aald8 hC (by decide +kernel : decode cX9_compareWithOthers 65 = .ok (.aaload, 1)) hU ho0 rfl q_10 ?_
    have q_11 := H.1
    replace H := H.2
    refine pu_g0 hC fg_X9_103 (by decide +kernel : decode cX9_compareWithOthers 66 = .ok (.getfield 103, 3)) hU q_11 (by decide) rfl rfl ?_
    refine pu_iald7 hC (by decide +kernel : decode cX9_compareWithOthers 69 = .ok (.iaload, 1)) hU q_8 rfl (vp_lt q_9) H.1 ?_
    replace H := H.2
    refine pv_topi (fun x4_12 e_x4_12 => ?_)
    replace H := H x4_12 e_x4_12
    refine pr_istore hC (by decide +kernel : decode cX9_compareWithOthers 70 = .ok (.istore 4, 2)) (by decide) rfl ?_
    refine pr_aload_n hC (by decide +kernel : decode cX9_compareWithOthers 72 = .ok (.aload_n 2, 1)) rfl ?_
    refine pr_aload_n hC (by decide +kernel : decode cX9_compareWithOthers 73 = .ok (.aload_n 0, 1)) rfl ?_
    refine pu_g1 hC fg_X9_34 (by decide +kernel : decode cX9_compareWithOthers 74 = .ok (.getfield 34, 3)) hU ho0 (by decide) rfl (by decide) ?_
    refine pr_iload_n hC (by decide +kernel : decode cX9_compareWithOthers 77 = .ok (.iload_n 3, 1)) rfl ?_
    have q_13 := H.1
    replace H := H.2
    refine pu_aald8 hC (by decide +kernel : decode cX9_compareWithOthers 78 = .ok (.aaload, 1)) hU ho0 rfl q_13 ?_
    have q_14 := H.1
    replace H := H.2
    refine pr_iconst hC (1) (by decide +kernel : decode cX9_compareWithOthers 79 = .ok (.iconst 1, 1)) rfl ?_
    refine pr_iload_n hC (by decide +kernel : decode cX9_compareWithOthers 80 = .ok (.iload_n 3, 1)) rfl ?_
    refine pr_ishl hC (by decide +kernel : decode cX9_compareWithOthers 81 = .ok (.ishl, 1)) ?_
    refine pr_iload hC (by decide +kernel : decode cX9_compareWithOthers 82 = .ok (.iload 4, 2)) rfl ?_
    refine pr_iconst hC (-1) (by decide +kernel : decode cX9_compareWithOthers 84 = .ok (.iconst (-1), 1)) rfl ?_
    have HJ_19 : ∀ (xs_15 : Int32), xs_15 = (if x4_12 = (-1) then (-1) else x4_12 + (uI U o0 8)) → pw X Y.1 (pm_A hh sz) (pm_E X Y.1 hh sz 0 0 (pm_P Y h0 sz (pq_v post))) 99 [some (.ref (Y.2.1 o0)), some (.int x1), some (.ref (Y.2.1 o2)), some (.int x3), none] [.int xs_15, .int ((1 : Int32) <<< (x3 &&& 31)), .ref (Y.2.1 (uAR U o0 6 (Int32.toNatClampNeg x3))), .ref (Y.2.1 o2)] h sz 0 0 := by
      intro xs_15 e_xs_15
      replace H := H xs_15 e_xs_15
      refine vc_Vv hC hR [.ref (Y.2.1 (uAR U o0 6 (Int32.toNatClampNeg x3))), .int ((1 : Int32) <<< (x3 &&& 31)), .int xs_15] fv_X9_121 (by decide +kernel : decode cX9_compareWithOthers 99 = .ok (.invokevirtual 121, 3)) hU (t_X2_compare ho2 q_14 H) ho2 (by decide) rfl rfl rfl (Nat.le_of_ble_eq_true rfl) (Nat.le_of_ble_eq_true rfl) (Nat.le_refl 0) (Nat.le_refl 0) (fun U_16 h H hU => ?_)
      refine pv_iinc hC (v := x3 + 1) (by decide +kernel : decode cX9_compareWithOthers 102 = .ok (.iinc 3 1, 3)) rfl (by decide) rfl rfl (fun x3_18 e_x3_18 => ?_)
      replace H := H x3_18 e_x3_18
      refine pr_goto hC 19 (by decide +kernel : decode cX9_compareWithOthers 105 = .ok (.goto (-86), 3)) (by decide) ?_
      exact pv_sub [some (.ref (Y.2.1 o0)), some (.int x1), some (.ref (Y.2.1 o2)), some (.int x3_18), none] (And.intro rfl (And.intro rfl (And.intro rfl (And.intro rfl trivial)))) (ih _ U_16 h hU H)
    replace H := trivial
    refine pr_icmp_ne hC 92 (by decide +kernel : decode cX9_compareWithOthers 85 = .ok (.if_icmp .ne 7, 3)) (by decide) (fun c_85 => ?_) (fun c_85 => ?_)
    · skip
      refine pr_iload hC (by decide +kernel : decode cX9_compareWithOthers 92 = .ok (.iload 4, 2)) rfl ?_
      refine pr_aload_n hC (by decide +kernel : decode cX9_compareWithOthers 94 = .ok (.aload_n 0, 1)) rfl ?_
      refine pu_g0 hC fg_X9_62 (by decide +kernel : decode cX9_compareWithOthers 95 = .ok (.getfield 62, 3)) hU ho0 (by decide) rfl rfl ?_
      refine pr_iadd hC (by decide +kernel : decode cX9_compareWithOthers 98 = .ok (.iadd, 1)) ?_
      exact pv_sub [some (.ref (Y.2.1 o0)), some (.int x1), some (.ref (Y.2.1 o2)), some (.int x3), none] (And.intro rfl (And.intro rfl (And.intro rfl (And.intro rfl trivial)))) (HJ_19 _ (if_neg c_85).symm)
    skip
    refine pr_iconst hC (-1) (by decide +kernel : decode cX9_compareWithOthers 88 = .ok (.iconst (-1), 1)) rfl ?_
    refine pr_goto hC 99 (by decide +kernel : decode cX9_compareWithOthers 89 = .ok (.goto 10, 3)) (by decide) ?_
    exact pv_sub [some (.ref (Y.2.1 o0)), some (.int x1), some (.ref (Y.2.1 o2)), some (.int x3), none] (And.intro rfl (And.intro rfl (And.intro rfl (And.intro rfl trivial)))) (HJ_19 _ (if_pos c_85).symm)
set_option maxHeartbeats 4000000 in
theorem t_X9_compareWithOthers {l : Launch} {Y : px_Y} {o : Nat} {a1 : Int32} {U : Um} {post : Um → Prop} (ho : oc o = 8) (H : w_X9_compareWithOthers o a1 U post) : um l Y 2 yX9_compareWithOthers cX9_compareWithOthers 5 none [.ref (Y.2.1 o), .int a1] U (pq_v post) := by
  unfold w_X9_compareWithOthers at H
  refine um_of (by decide) (Nat.le_of_ble_eq_true rfl) [some (.ref (Y.2.1 o)), some (.int a1), none, none, none] rfl (fun X h0 hh sz hM hU => ?_)
  have hC := hM.1
  have hR := hM.2.2.1
  refine pr_aload_n hC (by decide +kernel : decode cX9_compareWithOthers 0 = .ok (.aload_n 0, 1)) rfl ?_
  refine pu_g1 hC fg_X9_34 (by decide +kernel : decode cX9_compareWithOthers 1 = .ok (.getfield 34, 3)) hU ho (by decide) rfl (by decide) ?_
  refine pr_iload_n hC (by decide +kernel : decode cX9_compareWithOthers 4 = .ok (.iload_n 1, 1)) rfl ?_
  have q_1 := H.1
  replace H := H.2
  refine pu_aald8 hC (by decide +kernel : decode cX9_compareWithOthers 5 = .ok (.aaload, 1)) hU ho rfl q_1 ?_
  have q_2 := H.1
  replace H := H.2
  refine pr_astore_n hC (by decide +kernel : decode cX9_compareWithOthers 6 = .ok (.astore_n 2, 1)) (by decide) rfl ?_
  refine pr_aload_n hC (by decide +kernel : decode cX9_compareWithOthers 7 = .ok (.aload_n 2, 1)) rfl ?_
  refine pr_iconst hC (0) (by decide +kernel : decode cX9_compareWithOthers 8 = .ok (.iconst 0, 1)) rfl ?_
  refine pv_p0 hC fp_X9_112 (by decide +kernel : decode cX9_compareWithOthers 9 = .ok (.putfield 112, 3)) hU q_2 (by decide) rfl rfl rfl rfl (fun U_3 h e_U_3 hU => ?_)
  replace H := H U_3 e_U_3
  refine pr_aload_n hC (by decide +kernel : decode cX9_compareWithOthers 12 = .ok (.aload_n 2, 1)) rfl ?_
  refine pr_iconst hC (0) (by decide +kernel : decode cX9_compareWithOthers 13 = .ok (.iconst 0, 1)) rfl ?_
  refine pv_p0 hC fp_X9_115 (by decide +kernel : decode cX9_compareWithOthers 14 = .ok (.putfield 115, 3)) hU q_2 (by decide) rfl rfl rfl rfl (fun U_4 h e_U_4 hU => ?_)
  replace H := H U_4 e_U_4
  refine pr_iconst hC (0) (by decide +kernel : decode cX9_compareWithOthers 17 = .ok (.iconst 0, 1)) rfl ?_
  refine pr_istore_n hC (by decide +kernel : decode cX9_compareWithOthers 18 = .ok (.istore_n 3, 1)) (by decide) rfl ?_
  obtain ⟨n_22, H⟩ := H
  refine pv_sub [some (.ref (Y.2.1 o)), some (.int a1), some (.ref (Y.2.1 (uAR U o 6 (Int32.toNatClampNeg a1)))), some (.int 0), none] (And.intro rfl (And.intro rfl (And.intro rfl (And.intro rfl trivial)))) ?_
  refine tl_X9_compareWithOthers_L19 _ _ _ _ _ ho q_2 hC hM hR (fun U_21 h H hU => ?_) n_22 _ U_4 h hU H
  exact pv_vret hM (by decide +kernel : decode cX9_compareWithOthers 108 = .ok (.return_, 1)) hU H
def b_X9_sinkIntoOrder_L2 (o0 : Nat) (post : Um → Prop) (k_75 : Um → Prop) (rec_ : Int32 → Um → Prop) (x2 : Int32) (U : Um) : Prop :=
  (x2 ≤ 0 → k_75 U) ∧ (¬ x2 ≤ 0 → vp_in (x2 - 1) 16 ∧ vp_in (uA U o0 12 (Int32.toNatClampNeg (x2 - 1))) 16 ∧ oc (uAR U o0 6 (Int32.toNatClampNeg (uA U o0 12 (Int32.toNatClampNeg (x2 - 1))))) = 1 ∧ vp_in x2 16 ∧ vp_in (uA U o0 12 (Int32.toNatClampNeg x2)) 16 ∧ oc (uAR U o0 6 (Int32.toNatClampNeg (uA U o0 12 (Int32.toNatClampNeg x2)))) = 1 ∧ ((uI U (uAR U o0 6 (Int32.toNatClampNeg (uA U o0 12 (Int32.toNatClampNeg (x2 - 1))))) 4) ≤ (uI U (uAR U o0 6 (Int32.toNatClampNeg (uA U o0 12 (Int32.toNatClampNeg x2)))) 4) → k_75 U) ∧ (¬ (uI U (uAR U o0 6 (Int32.toNatClampNeg (uA U o0 12 (Int32.toNatClampNeg (x2 - 1))))) 4) ≤ (uI U (uAR U o0 6 (Int32.toNatClampNeg (uA U o0 12 (Int32.toNatClampNeg x2)))) 4) → vp_in (x2 - 1) 16 ∧ ∀ (x3_6 : Int32), x3_6 = uA U o0 12 (Int32.toNatClampNeg (x2 - 1)) → vp_in x2 16 ∧ vp_in (x2 - 1) 16 ∧ ∀ (U_7 : Um), U_7 = sA U o0 12 (va_up (uA U o0 12) (Int32.toNatClampNeg (x2 - 1)) (uA U o0 12 (Int32.toNatClampNeg x2))) → vp_in x2 16 ∧ ∀ (U_8 : Um), U_8 = sA U_7 o0 12 (va_up (uA U_7 o0 12) (Int32.toNatClampNeg x2) x3_6) → ∀ (x2_9 : Int32), x2_9 = x2 + (-1) → rec_ x2_9 U_8))
def w_X9_sinkIntoOrder_L2 (o0 : Nat) (post : Um → Prop) (k_75 : Um → Prop) (n_ : Nat) : Int32 → Um → Prop := Nat.rec (motive := fun _ => Int32 → Um → Prop) (fun _ _ => False) (fun _ ih => b_X9_sinkIntoOrder_L2 o0 post k_75 ih) n_
def w_X9_sinkIntoOrder (o : Nat) (a1 : Int32) (U : Um) (post : Um → Prop) : Prop :=
  ∀ (x2_1 : Int32), x2_1 = a1 → (∃ n_11, w_X9_sinkIntoOrder_L2 o post (fun U_10 => post U_10) n_11 x2_1 U)
set_option maxHeartbeats 4000000 in
theorem tl_X9_sinkIntoOrder_L2 {l : Launch} {Y : px_Y} {X : px_X} {h0 hh : pe_H} {sz : Nat} (o0 : Nat) (post : Um → Prop) (k_75 : Um → Prop) (ho0 : oc o0 = 8)  (hC : px_C X Y.1 (pm_A hh sz) cX9_sinkIntoOrder RX9 4) (hM : px_M l X Y.1 hh sz yX9_sinkIntoOrder cX9_sinkIntoOrder 4 none 0 0 0) (hR : X.2.2.2.1 = pm_rm 0 0 0) (hk_75 : ∀ (U : Um) (h : pe_H), k_75 U → rF Y h0 U h → pw X Y.1 (pm_A hh sz) (pm_E X Y.1 hh sz 0 0 (pm_P Y h0 sz (pq_v post))) 75 [none, none, none, none] [] h sz 0 0) : ∀ (n_ : Nat) (x2 : Int32) (U : Um) (h : pe_H), rF Y h0 U h → w_X9_sinkIntoOrder_L2 o0 post k_75 n_ x2 U → pw X Y.1 (pm_A hh sz) (pm_E X Y.1 hh sz 0 0 (pm_P Y h0 sz (pq_v post))) 2 [some (.ref (Y.2.1 o0)), none, some (.int x2), none] [] h sz 0 0 := by
  intro n_
  induction n_ with
  | zero => intro x2 U h hU H; exact False.elim H
  | succ n_ ih =>
    intro x2 U h hU H
    replace H : b_X9_sinkIntoOrder_L2 o0 post k_75 (w_X9_sinkIntoOrder_L2 o0 post k_75 n_) x2 U := H
    unfold b_X9_sinkIntoOrder_L2 at H
    refine pr_iload_n hC (by decide +kernel : decode cX9_sinkIntoOrder 2 = .ok (.iload_n 2, 1)) rfl ?_
    refine pr_if_le hC 75 (by decide +kernel : decode cX9_sinkIntoOrder 3 = .ok (.ifCond .le 72, 3)) (by decide) (fun c_3 => ?_) (fun c_3 => ?_)
    · replace H := H.1 c_3
      exact pv_sub [none, none, none, none] (trivial) (hk_75 U h H hU)
    replace H := H.2 c_3
    refine pr_aload_n hC (by decide +kernel : decode cX9_sinkIntoOrder 6 = .ok (.aload_n 0, 1)) rfl ?_
    refine pu_g1 hC fg_X9_34 (by decide +kernel : decode cX9_sinkIntoOrder 7 = .ok (.getfield 34, 3)) hU ho0 (by decide) rfl (by decide) ?_
    refine pr_aload_n hC (by decide +kernel : decode cX9_sinkIntoOrder 10 = .ok (.aload_n 0, 1)) rfl ?_
    refine pu_g1 hC fg_X9_53 (by decide +kernel : decode cX9_sinkIntoOrder 11 = .ok (.getfield 53, 3)) hU ho0 (by decide) rfl (by decide) ?_
    refine pr_iload_n hC (by decide +kernel : decode cX9_sinkIntoOrder 14 = .ok (.iload_n 2, 1)) rfl ?_
    refine pr_iconst hC (1) (by decide +kernel : decode cX9_sinkIntoOrder 15 = .ok (.iconst 1, 1)) rfl ?_
    refine pr_isub hC (by decide +kernel : decode cX9_sinkIntoOrder 16 = .ok (.isub, 1)) ?_
    refine pu_iald hC (by decide +kernel : decode cX9_sinkIntoOrder 17 = .ok (.iaload, 1)) hU ho0 rfl H.1 ?_
    replace H := H.2
    have q_2 := H.1
    replace H := H.2
    refine pu_aald8 hC (by decide +kernel : decode cX9_sinkIntoOrder 18 = .ok (.aaload, 1)) hU ho0 rfl q_2 ?_
    have q_3 := H.1
    replace H := H.2
    refine pu_g0 hC fg_X9_125 (by decide +kernel : decode cX9_sinkIntoOrder 19 = .ok (.getfield 125, 3)) hU q_3 (by decide) rfl rfl ?_
    refine pr_aload_n hC (by decide +kernel : decode cX9_sinkIntoOrder 22 = .ok (.aload_n 0, 1)) rfl ?_
    refine pu_g1 hC fg_X9_34 (by decide +kernel : decode cX9_sinkIntoOrder 23 = .ok (.getfield 34, 3)) hU ho0 (by decide) rfl (by decide) ?_
    refine pr_aload_n hC (by decide +kernel : decode cX9_sinkIntoOrder 26 = .ok (.aload_n 0, 1)) rfl ?_
    refine pu_g1 hC fg_X9_53 (by decide +kernel : decode cX9_sinkIntoOrder 27 = .ok (.getfield 53, 3)) hU ho0 (by decide) rfl (by decide) ?_
    refine pr_iload_n hC (by decide +kernel : decode cX9_sinkIntoOrder 30 = .ok (.iload_n 2, 1)) rfl ?_
    refine pu_iald hC (by decide +kernel : decode cX9_sinkIntoOrder 31 = .ok (.iaload, 1)) hU ho0 rfl H.1 ?_
    replace H := H.2
    have q_4 := H.1
    replace H := H.2
    refine pu_aald8 hC (by decide +kernel : decode cX9_sinkIntoOrder 32 = .ok (.aaload, 1)) hU ho0 rfl q_4 ?_
    have q_5 := H.1
    replace H := H.2
    refine pu_g0 hC fg_X9_125 (by decide +kernel : decode cX9_sinkIntoOrder 33 = .ok (.getfield 125, 3)) hU q_5 (by decide) rfl rfl ?_
    refine pr_icmp_le hC 75 (by decide +kernel : decode cX9_sinkIntoOrder 36 = .ok (.if_icmp .le 39, 3)) (by decide) (fun c_36 => ?_) (fun c_36 => ?_)
    · replace H := H.1 c_36
      exact pv_sub [none, none, none, none] (trivial) (hk_75 U h H hU)
    replace H := H.2 c_36
    refine pr_aload_n hC (by decide +kernel : decode cX9_sinkIntoOrder 39 = .ok (.aload_n 0, 1)) rfl ?_
    refine pu_g1 hC fg_X9_53 (by decide +kernel : decode cX9_sinkIntoOrder 40 = .ok (.getfield 53, 3)) hU ho0 (by decide) rfl (by decide) ?_
    refine pr_iload_n hC (by decide +kernel : decode cX9_sinkIntoOrder 43 = .ok (.iload_n 2, 1)) rfl ?_
    refine pr_iconst hC (1) (by decide +kernel : decode cX9_sinkIntoOrder 44 = .ok (.iconst 1, 1)) rfl ?_
    refine pr_isub hC (by decide +kernel : decode cX9_sinkIntoOrder 45 = .ok (.isub, 1)) ?_
    refine pu_iald hC (by decide +kernel : decode cX9_sinkIntoOrder 46 = .ok (.iaload, 1)) hU ho0 rfl H.1 ?_
    replace H := H.2
    refine pv_topi (fun x3_6 e_x3_6 => ?_)
    replace H := H x3_6 e_x3_6
    refine pr_istore_n hC (by decide +kernel : decode cX9_sinkIntoOrder 47 = .ok (.istore_n 3, 1)) (by decide) rfl ?_
    refine pr_aload_n hC (by decide +kernel : decode cX9_sinkIntoOrder 48 = .ok (.aload_n 0, 1)) rfl ?_
    refine pu_g1 hC fg_X9_53 (by decide +kernel : decode cX9_sinkIntoOrder 49 = .ok (.getfield 53, 3)) hU ho0 (by decide) rfl (by decide) ?_
    refine pr_iload_n hC (by decide +kernel : decode cX9_sinkIntoOrder 52 = .ok (.iload_n 2, 1)) rfl ?_
    refine pr_iconst hC (1) (by decide +kernel : decode cX9_sinkIntoOrder 53 = .ok (.iconst 1, 1)) rfl ?_
    refine pr_isub hC (by decide +kernel : decode cX9_sinkIntoOrder 54 = .ok (.isub, 1)) ?_
    refine pr_aload_n hC (by decide +kernel : decode cX9_sinkIntoOrder 55 = .ok (.aload_n 0, 1)) rfl ?_
    refine pu_g1 hC fg_X9_53 (by decide +kernel : decode cX9_sinkIntoOrder 56 = .ok (.getfield 53, 3)) hU ho0 (by decide) rfl (by decide) ?_
    refine pr_iload_n hC (by decide +kernel : decode cX9_sinkIntoOrder 59 = .ok (.iload_n 2, 1)) rfl ?_
    refine pu_iald hC (by decide +kernel : decode cX9_sinkIntoOrder 60 = .ok (.iaload, 1)) hU ho0 rfl H.1 ?_
    replace H := H.2
    refine pv_iast hC (by decide +kernel : decode cX9_sinkIntoOrder 61 = .ok (.iastore, 1)) hU ho0 rfl H.1 (fun U_7 h e_U_7 hU => ?_)
    replace H := H.2 U_7 e_U_7
    refine pr_aload_n hC (by decide +kernel : decode cX9_sinkIntoOrder 62 = .ok (.aload_n 0, 1)) rfl ?_
    refine pu_g1 hC fg_X9_53 (by decide +kernel : decode cX9_sinkIntoOrder 63 = .ok (.getfield 53, 3)) hU ho0 (by decide) rfl (by decide) ?_
    refine pr_iload_n hC (by decide +kernel : decode cX9_sinkIntoOrder 66 = .ok (.iload_n 2, 1)) rfl ?_
    refine pr_iload_n hC (by decide +kernel : decode cX9_sinkIntoOrder 67 = .ok (.iload_n 3, 1)) rfl ?_
    refine pv_iast hC (by decide +kernel : decode cX9_sinkIntoOrder 68 = .ok (.iastore, 1)) hU ho0 rfl H.1 (fun U_8 h e_U_8 hU => ?_)
    replace H := H.2 U_8 e_U_8
    refine pv_iinc hC (v := x2 + (-1)) (by decide +kernel : decode cX9_sinkIntoOrder 69 = .ok (.iinc 2 (-1), 3)) rfl (by decide) rfl rfl (fun x2_9 e_x2_9 => ?_)
    replace H := H x2_9 e_x2_9
    refine pr_goto hC 2 (by decide +kernel : decode cX9_sinkIntoOrder 72 = .ok (.goto (-70), 3)) (by decide) ?_
    exact pv_sub [some (.ref (Y.2.1 o0)), none, some (.int x2_9), none] (And.intro rfl (And.intro rfl trivial)) (ih _ U_8 h hU H)
set_option maxHeartbeats 4000000 in
theorem t_X9_sinkIntoOrder {l : Launch} {Y : px_Y} {o : Nat} {a1 : Int32} {U : Um} {post : Um → Prop} (ho : oc o = 8) (H : w_X9_sinkIntoOrder o a1 U post) : um l Y 0 yX9_sinkIntoOrder cX9_sinkIntoOrder 4 none [.ref (Y.2.1 o), .int a1] U (pq_v post) := by
  unfold w_X9_sinkIntoOrder at H
  refine um_of (by decide) (Nat.le_of_ble_eq_true rfl) [some (.ref (Y.2.1 o)), some (.int a1), none, none] rfl (fun X h0 hh sz hM hU => ?_)
  have hC := hM.1
  have hR := hM.2.2.1
  refine pr_iload_n hC (by decide +kernel : decode cX9_sinkIntoOrder 0 = .ok (.iload_n 1, 1)) rfl ?_
  refine pv_topi (fun x2_1 e_x2_1 => ?_)
  replace H := H x2_1 e_x2_1
  refine pr_istore_n hC (by decide +kernel : decode cX9_sinkIntoOrder 1 = .ok (.istore_n 2, 1)) (by decide) rfl ?_
  obtain ⟨n_11, H⟩ := H
  refine pv_sub [some (.ref (Y.2.1 o)), none, some (.int x2_1), none] (And.intro rfl (And.intro rfl trivial)) ?_
  refine tl_X9_sinkIntoOrder_L2 _ _ _ ho hC hM hR (fun U_10 h H hU => ?_) n_11 _ U hh hU H
  exact pv_vret hM (by decide +kernel : decode cX9_sinkIntoOrder 75 = .ok (.return_, 1)) hU H
def b_X9_settle_L15 (o0 : Nat) (post : Um → Prop) (k_34 : Um → Prop) (rec_ : Int32 → Um → Prop) (x1 : Int32) (U : Um) : Prop :=
  ((7 : Int32) ≤ x1 → k_34 U) ∧ (¬ (7 : Int32) ≤ x1 → vp_in x1 7 ∧ ∀ (U_4 : Um), U_4 = sA U o0 13 (va_up (uA U o0 13) (Int32.toNatClampNeg x1) 0) → ∀ (x1_5 : Int32), x1_5 = x1 + 1 → rec_ x1_5 U_4)
def w_X9_settle_L15 (o0 : Nat) (post : Um → Prop) (k_34 : Um → Prop) (n_ : Nat) : Int32 → Um → Prop := Nat.rec (motive := fun _ => Int32 → Um → Prop) (fun _ _ => False) (fun _ ih => b_X9_settle_L15 o0 post k_34 ih) n_
def b_X9_settle_L36 (o0 : Nat) (post : Um → Prop) (k_55 : Um → Prop) (rec_ : Int32 → Um → Prop) (x1 : Int32) (U : Um) : Prop :=
  ((6 : Int32) ≤ x1 → k_55 U) ∧ (¬ (6 : Int32) ≤ x1 → vp_in x1 6 ∧ ∀ (U_7 : Um), U_7 = sA U o0 14 (va_up (uA U o0 14) (Int32.toNatClampNeg x1) 0) → ∀ (x1_8 : Int32), x1_8 = x1 + 1 → rec_ x1_8 U_7)
def w_X9_settle_L36 (o0 : Nat) (post : Um → Prop) (k_55 : Um → Prop) (n_ : Nat) : Int32 → Um → Prop := Nat.rec (motive := fun _ => Int32 → Um → Prop) (fun _ _ => False) (fun _ ih => b_X9_settle_L36 o0 post k_55 ih) n_
def b_X9_settle_L57 (o0 : Nat) (post : Um → Prop) (k_118 : Um → Prop) (rec_ : Int32 → Um → Prop) (x1 : Int32) (U : Um) : Prop :=
  ((uI U o0 7) ≤ x1 → k_118 U) ∧ (¬ (uI U o0 7) ≤ x1 → vp_in x1 16 ∧ oc (uAR U o0 6 (Int32.toNatClampNeg x1)) = 1 ∧ vp_in (uI U (uAR U o0 6 (Int32.toNatClampNeg x1)) 3) 7 ∧ vp_in (uI U (uAR U o0 6 (Int32.toNatClampNeg x1)) 3) 7 ∧ ∀ (U_12 : Um), U_12 = sA U o0 13 (va_up (uA U o0 13) (Int32.toNatClampNeg (uI U (uAR U o0 6 (Int32.toNatClampNeg x1)) 3)) ((uA U o0 13 (Int32.toNatClampNeg (uI U (uAR U o0 6 (Int32.toNatClampNeg x1)) 3))) ||| ((1 : Int32) <<< (x1 &&& 31)))) → vp_in x1 16 ∧ oc (uAR U_12 o0 6 (Int32.toNatClampNeg x1)) = 1 ∧ vp_in (uI U_12 (uAR U_12 o0 6 (Int32.toNatClampNeg x1)) 2) 6 ∧ vp_in (uI U_12 (uAR U_12 o0 6 (Int32.toNatClampNeg x1)) 2) 6 ∧ ∀ (U_15 : Um), U_15 = sA U_12 o0 14 (va_up (uA U_12 o0 14) (Int32.toNatClampNeg (uI U_12 (uAR U_12 o0 6 (Int32.toNatClampNeg x1)) 2)) ((uA U_12 o0 14 (Int32.toNatClampNeg (uI U_12 (uAR U_12 o0 6 (Int32.toNatClampNeg x1)) 2))) ||| ((1 : Int32) <<< (x1 &&& 31)))) → vp_in x1 16 ∧ ∀ (U_16 : Um), U_16 = sA U_15 o0 12 (va_up (uA U_15 o0 12) (Int32.toNatClampNeg x1) x1) → ∀ (x1_17 : Int32), x1_17 = x1 + 1 → rec_ x1_17 U_16)
def w_X9_settle_L57 (o0 : Nat) (post : Um → Prop) (k_118 : Um → Prop) (n_ : Nat) : Int32 → Um → Prop := Nat.rec (motive := fun _ => Int32 → Um → Prop) (fun _ _ => False) (fun _ ih => b_X9_settle_L57 o0 post k_118 ih) n_
def b_X9_settle_L120 (o0 : Nat) (post : Um → Prop) (k_144 : Um → Prop) (rec_ : Int32 → Um → Prop) (x1 : Int32) (U : Um) : Prop :=
  ((uI U o0 7) ≤ x1 → k_144 U) ∧ (¬ (uI U o0 7) ≤ x1 → w_X9_compareWithOthers o0 x1 U (fun U_19 => w_X9_sinkIntoOrder o0 x1 U_19 (fun U_21 => ∀ (x1_23 : Int32), x1_23 = x1 + 1 → rec_ x1_23 U_21)))
def w_X9_settle_L120 (o0 : Nat) (post : Um → Prop) (k_144 : Um → Prop) (n_ : Nat) : Int32 → Um → Prop := Nat.rec (motive := fun _ => Int32 → Um → Prop) (fun _ _ => False) (fun _ ih => b_X9_settle_L120 o0 post k_144 ih) n_
def w_X9_settle (o : Nat) (U : Um) (post : Um → Prop) : Prop :=
  oc (uR U o 10) = 4 ∧ vp_in 0 3 ∧ w_X5_settle (uR U o 10) (uA U o 1 (Int32.toNatClampNeg 0)) U (fun U_2 => (∃ n_28, w_X9_settle_L15 o post (fun U_6 => (∃ n_27, w_X9_settle_L36 o post (fun U_9 => (∃ n_26, w_X9_settle_L57 o post (fun U_18 => (∃ n_25, w_X9_settle_L120 o post (fun U_24 => post U_24) n_25 0 U_18)) n_26 0 U_9)) n_27 0 U_6)) n_28 0 U_2))
set_option maxHeartbeats 4000000 in
theorem tl_X9_settle_L15 {l : Launch} {Y : px_Y} {X : px_X} {h0 hh : pe_H} {sz : Nat} (o0 : Nat) (post : Um → Prop) (k_34 : Um → Prop) (ho0 : oc o0 = 8)  (hC : px_C X Y.1 (pm_A hh sz) cX9_settle RX9 2) (hM : px_M l X Y.1 hh sz yX9_settle cX9_settle 2 none 3 0 0) (hR : X.2.2.2.1 = pm_rm 3 0 0) (hk_34 : ∀ (U : Um) (h : pe_H), k_34 U → rF Y h0 U h → pw X Y.1 (pm_A hh sz) (pm_E X Y.1 hh sz 0 0 (pm_P Y h0 sz (pq_v post))) 34 [some (.ref (Y.2.1 o0)), none] [] h sz 0 0) : ∀ (n_ : Nat) (x1 : Int32) (U : Um) (h : pe_H), rF Y h0 U h → w_X9_settle_L15 o0 post k_34 n_ x1 U → pw X Y.1 (pm_A hh sz) (pm_E X Y.1 hh sz 0 0 (pm_P Y h0 sz (pq_v post))) 15 [some (.ref (Y.2.1 o0)), some (.int x1)] [] h sz 0 0 := by
  intro n_
  induction n_ with
  | zero => intro x1 U h hU H; exact False.elim H
  | succ n_ ih =>
    intro x1 U h hU H
    replace H : b_X9_settle_L15 o0 post k_34 (w_X9_settle_L15 o0 post k_34 n_) x1 U := H
    unfold b_X9_settle_L15 at H
    refine pr_iload_n hC (by decide +kernel : decode cX9_settle 15 = .ok (.iload_n 1, 1)) rfl ?_
    refine pr_bipush hC (7) (by decide +kernel : decode cX9_settle 16 = .ok (.bipush 7, 2)) rfl ?_
    refine pr_icmp_ge hC 34 (by decide +kernel : decode cX9_settle 18 = .ok (.if_icmp .ge 16, 3)) (by decide) (fun c_18 => ?_) (fun c_18 => ?_)
    · replace H := H.1 c_18
      exact pv_sub [some (.ref (Y.2.1 o0)), none] (And.intro rfl trivial) (hk_34 U h H hU)
    replace H := H.2 c_18
    refine pr_aload_n hC (by decide +kernel : decode cX9_settle 21 = .ok (.aload_n 0, 1)) rfl ?_
    refine pu_g1 hC fg_X9_56 (by decide +kernel : decode cX9_settle 22 = .ok (.getfield 56, 3)) hU ho0 (by decide) rfl (by decide) ?_
    refine pr_iload_n hC (by decide +kernel : decode cX9_settle 25 = .ok (.iload_n 1, 1)) rfl ?_
    refine pr_iconst hC (0) (by decide +kernel : decode cX9_settle 26 = .ok (.iconst 0, 1)) rfl ?_
    refine pv_iast hC (by decide +kernel : decode cX9_settle 27 = .ok (.iastore, 1)) hU ho0 rfl H.1 (fun U_4 h e_U_4 hU => ?_)
    replace H := H.2 U_4 e_U_4
    refine pv_iinc hC (v := x1 + 1) (by decide +kernel : decode cX9_settle 28 = .ok (.iinc 1 1, 3)) rfl (by decide) rfl rfl (fun x1_5 e_x1_5 => ?_)
    replace H := H x1_5 e_x1_5
    refine pr_goto hC 15 (by decide +kernel : decode cX9_settle 31 = .ok (.goto (-16), 3)) (by decide) ?_
    exact pv_sub [some (.ref (Y.2.1 o0)), some (.int x1_5)] (And.intro rfl (And.intro rfl trivial)) (ih _ U_4 h hU H)
set_option maxHeartbeats 4000000 in
theorem tl_X9_settle_L36 {l : Launch} {Y : px_Y} {X : px_X} {h0 hh : pe_H} {sz : Nat} (o0 : Nat) (post : Um → Prop) (k_55 : Um → Prop) (ho0 : oc o0 = 8)  (hC : px_C X Y.1 (pm_A hh sz) cX9_settle RX9 2) (hM : px_M l X Y.1 hh sz yX9_settle cX9_settle 2 none 3 0 0) (hR : X.2.2.2.1 = pm_rm 3 0 0) (hk_55 : ∀ (U : Um) (h : pe_H), k_55 U → rF Y h0 U h → pw X Y.1 (pm_A hh sz) (pm_E X Y.1 hh sz 0 0 (pm_P Y h0 sz (pq_v post))) 55 [some (.ref (Y.2.1 o0)), none] [] h sz 0 0) : ∀ (n_ : Nat) (x1 : Int32) (U : Um) (h : pe_H), rF Y h0 U h → w_X9_settle_L36 o0 post k_55 n_ x1 U → pw X Y.1 (pm_A hh sz) (pm_E X Y.1 hh sz 0 0 (pm_P Y h0 sz (pq_v post))) 36 [some (.ref (Y.2.1 o0)), some (.int x1)] [] h sz 0 0 := by
  intro n_
  induction n_ with
  | zero => intro x1 U h hU H; exact False.elim H
  | succ n_ ih =>
    intro x1 U h hU H
    replace H : b_X9_settle_L36 o0 post k_55 (w_X9_settle_L36 o0 post k_55 n_) x1 U := H
    unfold b_X9_settle_L36 at H
    refine pr_iload_n hC (by decide +kernel : decode cX9_settle 36 = .ok (.iload_n 1, 1)) rfl ?_
    refine pr_bipush hC (6) (by decide +kernel : decode cX9_settle 37 = .ok (.bipush 6, 2)) rfl ?_
    refine pr_icmp_ge hC 55 (by decide +kernel : decode cX9_settle 39 = .ok (.if_icmp .ge 16, 3)) (by decide) (fun c_39 => ?_) (fun c_39 => ?_)
    · replace H := H.1 c_39
      exact pv_sub [some (.ref (Y.2.1 o0)), none] (And.intro rfl trivial) (hk_55 U h H hU)
    replace H := H.2 c_39
    refine pr_aload_n hC (by decide +kernel : decode cX9_settle 42 = .ok (.aload_n 0, 1)) rfl ?_
    refine pu_g1 hC fg_X9_59 (by decide +kernel : decode cX9_settle 43 = .ok (.getfield 59, 3)) hU ho0 (by decide) rfl (by decide) ?_
    refine pr_iload_n hC (by decide +kernel : decode cX9_settle 46 = .ok (.iload_n 1, 1)) rfl ?_
    refine pr_iconst hC (0) (by decide +kernel : decode cX9_settle 47 = .ok (.iconst 0, 1)) rfl ?_
    refine pv_iast hC (by decide +kernel : decode cX9_settle 48 = .ok (.iastore, 1)) hU ho0 rfl H.1 (fun U_7 h e_U_7 hU => ?_)
    replace H := H.2 U_7 e_U_7
    refine pv_iinc hC (v := x1 + 1) (by decide +kernel : decode cX9_settle 49 = .ok (.iinc 1 1, 3)) rfl (by decide) rfl rfl (fun x1_8 e_x1_8 => ?_)
    replace H := H x1_8 e_x1_8
    refine pr_goto hC 36 (by decide +kernel : decode cX9_settle 52 = .ok (.goto (-16), 3)) (by decide) ?_
    exact pv_sub [some (.ref (Y.2.1 o0)), some (.int x1_8)] (And.intro rfl (And.intro rfl trivial)) (ih _ U_7 h hU H)
set_option maxHeartbeats 4000000 in
theorem tl_X9_settle_L57 {l : Launch} {Y : px_Y} {X : px_X} {h0 hh : pe_H} {sz : Nat} (o0 : Nat) (post : Um → Prop) (k_118 : Um → Prop) (ho0 : oc o0 = 8)  (hC : px_C X Y.1 (pm_A hh sz) cX9_settle RX9 2) (hM : px_M l X Y.1 hh sz yX9_settle cX9_settle 2 none 3 0 0) (hR : X.2.2.2.1 = pm_rm 3 0 0) (hk_118 : ∀ (U : Um) (h : pe_H), k_118 U → rF Y h0 U h → pw X Y.1 (pm_A hh sz) (pm_E X Y.1 hh sz 0 0 (pm_P Y h0 sz (pq_v post))) 118 [some (.ref (Y.2.1 o0)), none] [] h sz 0 0) : ∀ (n_ : Nat) (x1 : Int32) (U : Um) (h : pe_H), rF Y h0 U h → w_X9_settle_L57 o0 post k_118 n_ x1 U → pw X Y.1 (pm_A hh sz) (pm_E X Y.1 hh sz 0 0 (pm_P Y h0 sz (pq_v post))) 57 [some (.ref (Y.2.1 o0)), some (.int x1)] [] h sz 0 0 := by
  intro n_
  induction n_ with
  | zero => intro x1 U h hU H; exact False.elim H
  | succ n_ ih =>
    intro x1 U h hU H
    replace H : b_X9_settle_L57 o0 post k_118 (w_X9_settle_L57 o0 post k_118 n_) x1 U := H
    unfold b_X9_settle_L57 at H
    refine pr_iload_n hC (by decide +kernel : decode cX9_settle 57 = .ok (.iload_n 1, 1)) rfl ?_
    refine pr_aload_n hC (by decide +kernel : decode cX9_settle 58 = .ok (.aload_n 0, 1)) rfl ?_
    refine pu_g0 hC fg_X9_69 (by decide +kernel : decode cX9_settle 59 = .ok (.getfield 69, 3)) hU ho0 (by decide) rfl rfl ?_
    refine pr_icmp_ge hC 118 (by decide +kernel : decode cX9_settle 62 = .ok (.if_icmp .ge 56, 3)) (by decide) (fun c_62 => ?_) (fun c_62 => ?_)
    · replace H := H.1 c_62
      exact pv_sub [some (.ref (Y.2.1 o0)), none] (And.intro rfl trivial) (hk_118 U h H hU)
    replace H := H.2 c_62
    refine pr_aload_n hC (by decide +kernel : decode cX9_settle 65 = .ok (.aload_n 0, 1)) rfl ?_
    refine pu_g1 hC fg_X9_56 (by decide +kernel : decode cX9_settle 66 = .ok (.getfield 56, 3)) hU ho0 (by decide) rfl (by decide) ?_
    refine pr_aload_n hC (by decide +kernel : decode cX9_settle 69 = .ok (.aload_n 0, 1)) rfl ?_
    refine pu_g1 hC fg_X9_34 (by decide +kernel : decode cX9_settle 70 = .ok (.getfield 34, 3)) hU ho0 (by decide) rfl (by decide) ?_
    refine pr_iload_n hC (by decide +kernel : decode cX9_settle 73 = .ok (.iload_n 1, 1)) rfl ?_
    have q_10 := H.1
    replace H := H.2
    refine pu_aald8 hC (by decide +kernel : decode cX9_settle 74 = .ok (.aaload, 1)) hU ho0 rfl q_10 ?_
    have q_11 := H.1
    replace H := H.2
    refine pu_g0 hC fg_X9_100 (by decide +kernel : decode cX9_settle 75 = .ok (.getfield 100, 3)) hU q_11 (by decide) rfl rfl ?_
    refine pr_dup2 hC (by decide +kernel : decode cX9_settle 78 = .ok (.dup2, 1)) rfl rfl ?_
    refine pu_iald hC (by decide +kernel : decode cX9_settle 79 = .ok (.iaload, 1)) hU ho0 rfl H.1 ?_
    replace H := H.2
    refine pr_iconst hC (1) (by decide +kernel : decode cX9_settle 80 = .ok (.iconst 1, 1)) rfl ?_
    refine pr_iload_n hC (by decide +kernel : decode cX9_settle 81 = .ok (.iload_n 1, 1)) rfl ?_
    refine pr_ishl hC (by decide +kernel : decode cX9_settle 82 = .ok (.ishl, 1)) ?_
    refine pr_ior hC (by decide +kernel : decode cX9_settle 83 = .ok (.ior, 1)) ?_
    refine pv_iast hC (by decide +kernel : decode cX9_settle 84 = .ok (.iastore, 1)) hU ho0 rfl H.1 (fun U_12 h e_U_12 hU => ?_)
    replace H := H.2 U_12 e_U_12
    refine pr_aload_n hC (by decide +kernel : decode cX9_settle 85 = .ok (.aload_n 0, 1)) rfl ?_
    refine pu_g1 hC fg_X9_59 (by decide +kernel : decode cX9_settle 86 = .ok (.getfield 59, 3)) hU ho0 (by decide) rfl (by decide) ?_
    refine pr_aload_n hC (by decide +kernel : decode cX9_settle 89 = .ok (.aload_n 0, 1)) rfl ?_
    refine pu_g1 hC fg_X9_34 (by decide +kernel : decode cX9_settle 90 = .ok (.getfield 34, 3)) hU ho0 (by decide) rfl (by decide) ?_
    refine pr_iload_n hC (by decide +kernel : decode cX9_settle 93 = .ok (.iload_n 1, 1)) rfl ?_
    have q_13 := H.1
    replace H := H.2
    refine pu_aald8 hC (by decide +kernel : decode cX9_settle 94 = .ok (.aaload, 1)) hU ho0 rfl q_13 ?_
    have q_14 := H.1
    replace H := H.2
    refine pu_g0 hC fg_X9_103 (by decide +kernel : decode cX9_settle 95 = .ok (.getfield 103, 3)) hU q_14 (by decide) rfl rfl ?_
    refine pr_dup2 hC (by decide +kernel : decode cX9_settle 98 = .ok (.dup2, 1)) rfl rfl ?_
    refine pu_iald hC (by decide +kernel : decode cX9_settle 99 = .ok (.iaload, 1)) hU ho0 rfl H.1 ?_
    replace H := H.2
    refine pr_iconst hC (1) (by decide +kernel : decode cX9_settle 100 = .ok (.iconst 1, 1)) rfl ?_
    refine pr_iload_n hC (by decide +kernel : decode cX9_settle 101 = .ok (.iload_n 1, 1)) rfl ?_
    refine pr_ishl hC (by decide +kernel : decode cX9_settle 102 = .ok (.ishl, 1)) ?_
    refine pr_ior hC (by decide +kernel : decode cX9_settle 103 = .ok (.ior, 1)) ?_
    refine pv_iast hC (by decide +kernel : decode cX9_settle 104 = .ok (.iastore, 1)) hU ho0 rfl H.1 (fun U_15 h e_U_15 hU => ?_)
    replace H := H.2 U_15 e_U_15
    refine pr_aload_n hC (by decide +kernel : decode cX9_settle 105 = .ok (.aload_n 0, 1)) rfl ?_
    refine pu_g1 hC fg_X9_53 (by decide +kernel : decode cX9_settle 106 = .ok (.getfield 53, 3)) hU ho0 (by decide) rfl (by decide) ?_
    refine pr_iload_n hC (by decide +kernel : decode cX9_settle 109 = .ok (.iload_n 1, 1)) rfl ?_
    refine pr_iload_n hC (by decide +kernel : decode cX9_settle 110 = .ok (.iload_n 1, 1)) rfl ?_
    refine pv_iast hC (by decide +kernel : decode cX9_settle 111 = .ok (.iastore, 1)) hU ho0 rfl H.1 (fun U_16 h e_U_16 hU => ?_)
    replace H := H.2 U_16 e_U_16
    refine pv_iinc hC (v := x1 + 1) (by decide +kernel : decode cX9_settle 112 = .ok (.iinc 1 1, 3)) rfl (by decide) rfl rfl (fun x1_17 e_x1_17 => ?_)
    replace H := H x1_17 e_x1_17
    refine pr_goto hC 57 (by decide +kernel : decode cX9_settle 115 = .ok (.goto (-58), 3)) (by decide) ?_
    exact pv_sub [some (.ref (Y.2.1 o0)), some (.int x1_17)] (And.intro rfl (And.intro rfl trivial)) (ih _ U_16 h hU H)
set_option maxHeartbeats 4000000 in
theorem tl_X9_settle_L120 {l : Launch} {Y : px_Y} {X : px_X} {h0 hh : pe_H} {sz : Nat} (o0 : Nat) (post : Um → Prop) (k_144 : Um → Prop) (ho0 : oc o0 = 8)  (hC : px_C X Y.1 (pm_A hh sz) cX9_settle RX9 2) (hM : px_M l X Y.1 hh sz yX9_settle cX9_settle 2 none 3 0 0) (hR : X.2.2.2.1 = pm_rm 3 0 0) (hk_144 : ∀ (U : Um) (h : pe_H), k_144 U → rF Y h0 U h → pw X Y.1 (pm_A hh sz) (pm_E X Y.1 hh sz 0 0 (pm_P Y h0 sz (pq_v post))) 144 [none, none] [] h sz 0 0) : ∀ (n_ : Nat) (x1 : Int32) (U : Um) (h : pe_H), rF Y h0 U h → w_X9_settle_L120 o0 post k_144 n_ x1 U → pw X Y.1 (pm_A hh sz) (pm_E X Y.1 hh sz 0 0 (pm_P Y h0 sz (pq_v post))) 120 [some (.ref (Y.2.1 o0)), some (.int x1)] [] h sz 0 0 := by
  intro n_
  induction n_ with
  | zero => intro x1 U h hU H; exact False.elim H
  | succ n_ ih =>
    intro x1 U h hU H
    replace H : b_X9_settle_L120 o0 post k_144 (w_X9_settle_L120 o0 post k_144 n_) x1 U := H
    unfold b_X9_settle_L120 at H
    refine pr_iload_n hC (by decide +kernel : decode cX9_settle 120 = .ok (.iload_n 1, 1)) rfl ?_
    refine pr_aload_n hC (by decide +kernel : decode cX9_settle 121 = .ok (.aload_n 0, 1)) rfl ?_
    refine pu_g0 hC fg_X9_69 (by decide +kernel : decode cX9_settle 122 = .ok (.getfield 69, 3)) hU ho0 (by decide) rfl rfl ?_
    refine pr_icmp_ge hC 144 (by decide +kernel : decode cX9_settle 125 = .ok (.if_icmp .ge 19, 3)) (by decide) (fun c_125 => ?_) (fun c_125 => ?_)
    · replace H := H.1 c_125
      exact pv_sub [none, none] (trivial) (hk_144 U h H hU)
    replace H := H.2 c_125
    refine pr_aload_n hC (by decide +kernel : decode cX9_settle 128 = .ok (.aload_n 0, 1)) rfl ?_
    refine pr_iload_n hC (by decide +kernel : decode cX9_settle 129 = .ok (.iload_n 1, 1)) rfl ?_
    refine vc_Vv hC hR [.int x1] fv_X9_106 (by decide +kernel : decode cX9_settle 130 = .ok (.invokevirtual 106, 3)) hU (t_X9_compareWithOthers ho0 H) ho0 (by decide) rfl rfl rfl (Nat.le_of_ble_eq_true rfl) (Nat.le_of_ble_eq_true rfl) (Nat.le_refl 0) (Nat.le_refl 0) (fun U_19 h H hU => ?_)
    refine pr_aload_n hC (by decide +kernel : decode cX9_settle 133 = .ok (.aload_n 0, 1)) rfl ?_
    refine pr_iload_n hC (by decide +kernel : decode cX9_settle 134 = .ok (.iload_n 1, 1)) rfl ?_
    refine vc_Vv hC hR [.int x1] fv_X9_109 (by decide +kernel : decode cX9_settle 135 = .ok (.invokevirtual 109, 3)) hU (t_X9_sinkIntoOrder ho0 H) ho0 (by decide) rfl rfl rfl (Nat.le_of_ble_eq_true rfl) (Nat.le_of_ble_eq_true rfl) (Nat.le_refl 0) (Nat.le_refl 0) (fun U_21 h H hU => ?_)
    refine pv_iinc hC (v := x1 + 1) (by decide +kernel : decode cX9_settle 138 = .ok (.iinc 1 1, 3)) rfl (by decide) rfl rfl (fun x1_23 e_x1_23 => ?_)
    replace H := H x1_23 e_x1_23
    refine pr_goto hC 120 (by decide +kernel : decode cX9_settle 141 = .ok (.goto (-21), 3)) (by decide) ?_
    exact pv_sub [some (.ref (Y.2.1 o0)), some (.int x1_23)] (And.intro rfl (And.intro rfl trivial)) (ih _ U_21 h hU H)
set_option maxHeartbeats 4000000 in
theorem t_X9_settle {l : Launch} {Y : px_Y} {o : Nat} {U : Um} {post : Um → Prop} (ho : oc o = 8) (H : w_X9_settle o U post) : um l Y 3 yX9_settle cX9_settle 2 none [.ref (Y.2.1 o)] U (pq_v post) := by
  unfold w_X9_settle at H
  refine um_of (by decide) (Nat.le_of_ble_eq_true rfl) [some (.ref (Y.2.1 o)), none] rfl (fun X h0 hh sz hM hU => ?_)
  have hC := hM.1
  have hR := hM.2.2.1
  refine pr_aload_n hC (by decide +kernel : decode cX9_settle 0 = .ok (.aload_n 0, 1)) rfl ?_
  refine pu_g21 hC fg_X9_42 (by decide +kernel : decode cX9_settle 1 = .ok (.getfield 42, 3)) hU ho (by decide) rfl rfl ?_
  have q_1 := H.1
  replace H := H.2
  refine pr_aload_n hC (by decide +kernel : decode cX9_settle 4 = .ok (.aload_n 0, 1)) rfl ?_
  refine pu_g1 hC fg_X9_16 (by decide +kernel : decode cX9_settle 5 = .ok (.getfield 16, 3)) hU ho (by decide) rfl (by decide) ?_
  refine pr_iconst hC (0) (by decide +kernel : decode cX9_settle 8 = .ok (.iconst 0, 1)) rfl ?_
  refine pu_iald hC (by decide +kernel : decode cX9_settle 9 = .ok (.iaload, 1)) hU ho rfl H.1 ?_
  replace H := H.2
  refine vc_Vv hC hR [.int (uA U o 1 (Int32.toNatClampNeg 0))] fv_X9_96 (by decide +kernel : decode cX9_settle 10 = .ok (.invokevirtual 96, 3)) hU (t_X5_settle q_1 H) q_1 (by decide) rfl rfl rfl (Nat.le_of_ble_eq_true rfl) (Nat.le_of_ble_eq_true rfl) (Nat.le_refl 0) (Nat.le_refl 0) (fun U_2 h H hU => ?_)
  refine pr_iconst hC (0) (by decide +kernel : decode cX9_settle 13 = .ok (.iconst 0, 1)) rfl ?_
  refine pr_istore_n hC (by decide +kernel : decode cX9_settle 14 = .ok (.istore_n 1, 1)) (by decide) rfl ?_
  obtain ⟨n_28, H⟩ := H
  refine pv_sub [some (.ref (Y.2.1 o)), some (.int 0)] (And.intro rfl (And.intro rfl trivial)) ?_
  refine tl_X9_settle_L15 _ _ _ ho hC hM hR (fun U_6 h H hU => ?_) n_28 _ U_2 h hU H
  refine pr_iconst hC (0) (by decide +kernel : decode cX9_settle 34 = .ok (.iconst 0, 1)) rfl ?_
  refine pr_istore_n hC (by decide +kernel : decode cX9_settle 35 = .ok (.istore_n 1, 1)) (by decide) rfl ?_
  obtain ⟨n_27, H⟩ := H
  refine pv_sub [some (.ref (Y.2.1 o)), some (.int 0)] (And.intro rfl (And.intro rfl trivial)) ?_
  refine tl_X9_settle_L36 _ _ _ ho hC hM hR (fun U_9 h H hU => ?_) n_27 _ U_6 h hU H
  refine pr_iconst hC (0) (by decide +kernel : decode cX9_settle 55 = .ok (.iconst 0, 1)) rfl ?_
  refine pr_istore_n hC (by decide +kernel : decode cX9_settle 56 = .ok (.istore_n 1, 1)) (by decide) rfl ?_
  obtain ⟨n_26, H⟩ := H
  refine pv_sub [some (.ref (Y.2.1 o)), some (.int 0)] (And.intro rfl (And.intro rfl trivial)) ?_
  refine tl_X9_settle_L57 _ _ _ ho hC hM hR (fun U_18 h H hU => ?_) n_26 _ U_9 h hU H
  refine pr_iconst hC (0) (by decide +kernel : decode cX9_settle 118 = .ok (.iconst 0, 1)) rfl ?_
  refine pr_istore_n hC (by decide +kernel : decode cX9_settle 119 = .ok (.istore_n 1, 1)) (by decide) rfl ?_
  obtain ⟨n_25, H⟩ := H
  refine pv_sub [some (.ref (Y.2.1 o)), some (.int 0)] (And.intro rfl (And.intro rfl trivial)) ?_
  refine tl_X9_settle_L120 _ _ _ ho hC hM hR (fun U_24 h H hU => ?_) n_25 _ U_18 h hU H
  exact pv_vret hM (by decide +kernel : decode cX9_settle 144 = .ok (.return_, 1)) hU H
def b_X4_readWeek_L31 (o0 : Nat) (post : Int32 → Um → Prop) (k_65 : Um → Prop) (rec_ : Int32 → Um → Prop) (x2 : Int32) (U : Um) : Prop :=
  ((1200 : Int32) ≤ x2 → k_65 U) ∧ (¬ (1200 : Int32) ≤ x2 → ((uI U o0 2) = 0 → oc (uR U o0 0) = 7 ∧ w_X8_isOver (uR U o0 0) U (fun r_12 U_11 => (r_12 = 0 → w_X4_readLine o0 U_11 (fun U_13 => ∀ (x2_15 : Int32), x2_15 = x2 + 1 → rec_ x2_15 U_13)) ∧ (¬ r_12 = 0 → k_65 U_11))) ∧ (¬ (uI U o0 2) = 0 → k_65 U))
def w_X4_readWeek_L31 (o0 : Nat) (post : Int32 → Um → Prop) (k_65 : Um → Prop) (n_ : Nat) : Int32 → Um → Prop := Nat.rec (motive := fun _ => Int32 → Um → Prop) (fun _ _ => False) (fun _ ih => b_X4_readWeek_L31 o0 post k_65 ih) n_
def w_X4_readWeek (o : Nat) (a1 : Nat) (U : Um) (post : Int32 → Um → Prop) : Prop :=
  ∀ (U_1 : Um), U_1 = sR U o 1 a1 → uR U_1 o 1 ≠ 99 ∧ oc (uR U_1 o 1) = 8 ∧ w_X9_empty (uR U_1 o 1) U_1 (fun U_3 => ∀ (U_5 : Um), U_5 = sI U_3 o 2 0 → ∀ (U_6 : Um), U_6 = sI U_5 o 3 (-1) → oc (uR U_6 o 0) = 7 ∧ w_X8_rewind (uR U_6 o 0) U_6 (fun U_8 => (∃ n_20, w_X4_readWeek_L31 o post (fun U_16 => ((uI U_16 o 2) = 0 → uR U_16 o 1 ≠ 99 ∧ oc (uR U_16 o 1) = 8 ∧ w_X9_settle (uR U_16 o 1) U_16 (fun U_18 => ((uI U_18 o 2) = 0 → post 1 U_18) ∧ (¬ (uI U_18 o 2) = 0 → post 0 U_18))) ∧ (¬ (uI U_16 o 2) = 0 → ((uI U_16 o 2) = 0 → post 1 U_16) ∧ (¬ (uI U_16 o 2) = 0 → post 0 U_16))) n_20 0 U_8)))
set_option maxHeartbeats 4000000 in
theorem tl_X4_readWeek_L31 {l : Launch} {Y : px_Y} {X : px_X} {h0 hh : pe_H} {sz : Nat} (o0 : Nat) (post : Int32 → Um → Prop) (k_65 : Um → Prop) (ho0 : oc o0 = 3)  (hC : px_C X Y.1 (pm_A hh sz) cX4_readWeek RX4 3) (hM : px_M l X Y.1 hh sz yX4_readWeek cX4_readWeek 3 (some (.boolean)) 20 0 0) (hR : X.2.2.2.1 = pm_rm 20 0 0) (hk_65 : ∀ (U : Um) (h : pe_H), k_65 U → rF Y h0 U h → pw X Y.1 (pm_A hh sz) (pm_E X Y.1 hh sz 0 0 (pm_P Y h0 sz (pq_i post))) 65 [some (.ref (Y.2.1 o0)), none, none] [] h sz 0 0) : ∀ (n_ : Nat) (x2 : Int32) (U : Um) (h : pe_H), rF Y h0 U h → w_X4_readWeek_L31 o0 post k_65 n_ x2 U → pw X Y.1 (pm_A hh sz) (pm_E X Y.1 hh sz 0 0 (pm_P Y h0 sz (pq_i post))) 31 [some (.ref (Y.2.1 o0)), none, some (.int x2)] [] h sz 0 0 := by
  intro n_
  induction n_ with
  | zero => intro x2 U h hU H; exact False.elim H
  | succ n_ ih =>
    intro x2 U h hU H
    replace H : b_X4_readWeek_L31 o0 post k_65 (w_X4_readWeek_L31 o0 post k_65 n_) x2 U := H
    unfold b_X4_readWeek_L31 at H
    refine pr_iload_n hC (by decide +kernel : decode cX4_readWeek 31 = .ok (.iload_n 2, 1)) rfl ?_
    refine pr_sipush hC (1200) (by decide +kernel : decode cX4_readWeek 32 = .ok (.sipush 1200, 3)) rfl ?_
    refine pr_icmp_ge hC 65 (by decide +kernel : decode cX4_readWeek 35 = .ok (.if_icmp .ge 30, 3)) (by decide) (fun c_35 => ?_) (fun c_35 => ?_)
    · replace H := H.1 c_35
      exact pv_sub [some (.ref (Y.2.1 o0)), none, none] (And.intro rfl trivial) (hk_65 U h H hU)
    replace H := H.2 c_35
    refine pr_aload_n hC (by decide +kernel : decode cX4_readWeek 38 = .ok (.aload_n 0, 1)) rfl ?_
    refine pu_g0 hC fg_X4_28 (by decide +kernel : decode cX4_readWeek 39 = .ok (.getfield 28, 3)) hU ho0 (by decide) rfl rfl ?_
    refine pr_if_ne hC 65 (by decide +kernel : decode cX4_readWeek 42 = .ok (.ifCond .ne 23, 3)) (by decide) (fun c_42 => ?_) (fun c_42 => ?_)
    · replace H := H.2 c_42
      exact pv_sub [some (.ref (Y.2.1 o0)), none, none] (And.intro rfl trivial) (hk_65 U h H hU)
    replace H := H.1 c_42
    refine pr_aload_n hC (by decide +kernel : decode cX4_readWeek 45 = .ok (.aload_n 0, 1)) rfl ?_
    refine pu_g21 hC fg_X4_9 (by decide +kernel : decode cX4_readWeek 46 = .ok (.getfield 9, 3)) hU ho0 (by decide) rfl rfl ?_
    have q_10 := H.1
    replace H := H.2
    refine vc_Vi hC hR [] fv_X4_36 (by decide +kernel : decode cX4_readWeek 49 = .ok (.invokevirtual 36, 3)) hU (t_X8_isOver q_10 H) q_10 (by decide) rfl rfl rfl (Nat.le_of_ble_eq_true rfl) (Nat.le_of_ble_eq_true rfl) (Nat.le_refl 0) (Nat.le_refl 0) (fun r_12 U_11 h H hU => ?_)
    refine pr_if_ne hC 65 (by decide +kernel : decode cX4_readWeek 52 = .ok (.ifCond .ne 13, 3)) (by decide) (fun c_52 => ?_) (fun c_52 => ?_)
    · replace H := H.2 c_52
      exact pv_sub [some (.ref (Y.2.1 o0)), none, none] (And.intro rfl trivial) (hk_65 U_11 h H hU)
    replace H := H.1 c_52
    refine pr_aload_n hC (by decide +kernel : decode cX4_readWeek 55 = .ok (.aload_n 0, 1)) rfl ?_
    refine vc_Vv hC hR [] fv_X4_40 (by decide +kernel : decode cX4_readWeek 56 = .ok (.invokevirtual 40, 3)) hU (t_X4_readLine ho0 H) ho0 (by decide) rfl rfl rfl (Nat.le_of_ble_eq_true rfl) (Nat.le_of_ble_eq_true rfl) (Nat.le_refl 0) (Nat.le_refl 0) (fun U_13 h H hU => ?_)
    refine pv_iinc hC (v := x2 + 1) (by decide +kernel : decode cX4_readWeek 59 = .ok (.iinc 2 1, 3)) rfl (by decide) rfl rfl (fun x2_15 e_x2_15 => ?_)
    replace H := H x2_15 e_x2_15
    refine pr_goto hC 31 (by decide +kernel : decode cX4_readWeek 62 = .ok (.goto (-31), 3)) (by decide) ?_
    exact pv_sub [some (.ref (Y.2.1 o0)), none, some (.int x2_15)] (And.intro rfl (And.intro rfl trivial)) (ih _ U_13 h hU H)
set_option maxHeartbeats 4000000 in
theorem t_X4_readWeek {l : Launch} {Y : px_Y} {o : Nat} {a1 : Nat} {U : Um} {post : Int32 → Um → Prop} (ho : oc o = 3) (ha1 : oc a1 = 8) (H : w_X4_readWeek o a1 U post) : um l Y 20 yX4_readWeek cX4_readWeek 3 (some (.boolean)) [.ref (Y.2.1 o), .ref (Y.2.1 a1)] U (pq_i post) := by
  unfold w_X4_readWeek at H
  refine um_of (by decide) (Nat.le_of_ble_eq_true rfl) [some (.ref (Y.2.1 o)), some (.ref (Y.2.1 a1)), none] rfl (fun X h0 hh sz hM hU => ?_)
  have hC := hM.1
  have hR := hM.2.2.1
  refine pr_aload_n hC (by decide +kernel : decode cX4_readWeek 0 = .ok (.aload_n 0, 1)) rfl ?_
  refine pr_aload_n hC (by decide +kernel : decode cX4_readWeek 1 = .ok (.aload_n 1, 1)) rfl ?_
  refine pv_p21 hC fp_X4_19 (by decide +kernel : decode cX4_readWeek 2 = .ok (.putfield 19, 3)) hU ho (by decide) rfl (Or.inr ⟨rfl, oc_ne99 ha1⟩) (fun _ => rfl) (fun _ => rfl) (fun U_1 h e_U_1 hU => ?_)
  replace H := H U_1 e_U_1
  refine pr_aload_n hC (by decide +kernel : decode cX4_readWeek 5 = .ok (.aload_n 0, 1)) rfl ?_
  refine pu_g22 hC fg_X4_19 (by decide +kernel : decode cX4_readWeek 6 = .ok (.getfield 19, 3)) hU ho (by decide) rfl rfl H.1 ?_
  replace H := H.2
  have q_2 := H.1
  replace H := H.2
  refine vc_Vv hC hR [] fv_X4_23 (by decide +kernel : decode cX4_readWeek 9 = .ok (.invokevirtual 23, 3)) hU (t_X9_empty q_2 H) q_2 (by decide) rfl rfl rfl (Nat.le_of_ble_eq_true rfl) (Nat.le_of_ble_eq_true rfl) (Nat.le_refl 0) (Nat.le_refl 0) (fun U_3 h H hU => ?_)
  refine pr_aload_n hC (by decide +kernel : decode cX4_readWeek 12 = .ok (.aload_n 0, 1)) rfl ?_
  refine pr_iconst hC (0) (by decide +kernel : decode cX4_readWeek 13 = .ok (.iconst 0, 1)) rfl ?_
  refine pv_p0 hC fp_X4_28 (by decide +kernel : decode cX4_readWeek 14 = .ok (.putfield 28, 3)) hU ho (by decide) rfl rfl rfl rfl (fun U_5 h e_U_5 hU => ?_)
  replace H := H U_5 e_U_5
  refine pr_aload_n hC (by decide +kernel : decode cX4_readWeek 17 = .ok (.aload_n 0, 1)) rfl ?_
  refine pr_iconst hC (-1) (by decide +kernel : decode cX4_readWeek 18 = .ok (.iconst (-1), 1)) rfl ?_
  refine pv_p0 hC fp_X4_15 (by decide +kernel : decode cX4_readWeek 19 = .ok (.putfield 15, 3)) hU ho (by decide) rfl rfl rfl rfl (fun U_6 h e_U_6 hU => ?_)
  replace H := H U_6 e_U_6
  refine pr_aload_n hC (by decide +kernel : decode cX4_readWeek 22 = .ok (.aload_n 0, 1)) rfl ?_
  refine pu_g21 hC fg_X4_9 (by decide +kernel : decode cX4_readWeek 23 = .ok (.getfield 9, 3)) hU ho (by decide) rfl rfl ?_
  have q_7 := H.1
  replace H := H.2
  refine vc_Vv hC hR [] fv_X4_31 (by decide +kernel : decode cX4_readWeek 26 = .ok (.invokevirtual 31, 3)) hU (t_X8_rewind q_7 H) q_7 (by decide) rfl rfl rfl (Nat.le_of_ble_eq_true rfl) (Nat.le_of_ble_eq_true rfl) (Nat.le_refl 0) (Nat.le_refl 0) (fun U_8 h H hU => ?_)
  refine pr_iconst hC (0) (by decide +kernel : decode cX4_readWeek 29 = .ok (.iconst 0, 1)) rfl ?_
  refine pr_istore_n hC (by decide +kernel : decode cX4_readWeek 30 = .ok (.istore_n 2, 1)) (by decide) rfl ?_
  obtain ⟨n_20, H⟩ := H
  refine pv_sub [some (.ref (Y.2.1 o)), none, some (.int 0)] (And.intro rfl (And.intro rfl trivial)) ?_
  refine tl_X4_readWeek_L31 _ _ _ ho hC hM hR (fun U_16 h H hU => ?_) n_20 _ U_8 h hU H
  refine pr_aload_n hC (by decide +kernel : decode cX4_readWeek 65 = .ok (.aload_n 0, 1)) rfl ?_
  refine pu_g0 hC fg_X4_28 (by decide +kernel : decode cX4_readWeek 66 = .ok (.getfield 28, 3)) hU ho (by decide) rfl rfl ?_
  refine pr_if_ne hC 79 (by decide +kernel : decode cX4_readWeek 69 = .ok (.ifCond .ne 10, 3)) (by decide) (fun c_69 => ?_) (fun c_69 => ?_)
  · replace H := H.2 c_69
    refine pr_aload_n hC (by decide +kernel : decode cX4_readWeek 79 = .ok (.aload_n 0, 1)) rfl ?_
    refine pu_g0 hC fg_X4_28 (by decide +kernel : decode cX4_readWeek 80 = .ok (.getfield 28, 3)) hU ho (by decide) rfl rfl ?_
    refine pr_if_ne hC 90 (by decide +kernel : decode cX4_readWeek 83 = .ok (.ifCond .ne 7, 3)) (by decide) (fun c_83 => ?_) (fun c_83 => ?_)
    · replace H := H.2 c_83
      refine pr_iconst hC (0) (by decide +kernel : decode cX4_readWeek 90 = .ok (.iconst 0, 1)) rfl ?_
      exact pv_zret hM (by decide +kernel : decode cX4_readWeek 91 = .ok (.ireturn, 1)) (Or.inl rfl) hU H
    replace H := H.1 c_83
    refine pr_iconst hC (1) (by decide +kernel : decode cX4_readWeek 86 = .ok (.iconst 1, 1)) rfl ?_
    refine pr_goto hC 91 (by decide +kernel : decode cX4_readWeek 87 = .ok (.goto 4, 3)) (by decide) ?_
    exact pv_zret hM (by decide +kernel : decode cX4_readWeek 91 = .ok (.ireturn, 1)) (Or.inr rfl) hU H
  replace H := H.1 c_69
  refine pr_aload_n hC (by decide +kernel : decode cX4_readWeek 72 = .ok (.aload_n 0, 1)) rfl ?_
  refine pu_g22 hC fg_X4_19 (by decide +kernel : decode cX4_readWeek 73 = .ok (.getfield 19, 3)) hU ho (by decide) rfl rfl H.1 ?_
  replace H := H.2
  have q_17 := H.1
  replace H := H.2
  refine vc_Vv hC hR [] fv_X4_43 (by decide +kernel : decode cX4_readWeek 76 = .ok (.invokevirtual 43, 3)) hU (t_X9_settle q_17 H) q_17 (by decide) rfl rfl rfl (Nat.le_of_ble_eq_true rfl) (Nat.le_of_ble_eq_true rfl) (Nat.le_refl 0) (Nat.le_refl 0) (fun U_18 h H hU => ?_)
  refine pr_aload_n hC (by decide +kernel : decode cX4_readWeek 79 = .ok (.aload_n 0, 1)) rfl ?_
  refine pu_g0 hC fg_X4_28 (by decide +kernel : decode cX4_readWeek 80 = .ok (.getfield 28, 3)) hU ho (by decide) rfl rfl ?_
  refine pr_if_ne hC 90 (by decide +kernel : decode cX4_readWeek 83 = .ok (.ifCond .ne 7, 3)) (by decide) (fun c_83 => ?_) (fun c_83 => ?_)
  · replace H := H.2 c_83
    refine pr_iconst hC (0) (by decide +kernel : decode cX4_readWeek 90 = .ok (.iconst 0, 1)) rfl ?_
    exact pv_zret hM (by decide +kernel : decode cX4_readWeek 91 = .ok (.ireturn, 1)) (Or.inl rfl) hU H
  replace H := H.1 c_83
  refine pr_iconst hC (1) (by decide +kernel : decode cX4_readWeek 86 = .ok (.iconst 1, 1)) rfl ?_
  refine pr_goto hC 91 (by decide +kernel : decode cX4_readWeek 87 = .ok (.goto 4, 3)) (by decide) ?_
  exact pv_zret hM (by decide +kernel : decode cX4_readWeek 91 = .ok (.ireturn, 1)) (Or.inr rfl) hU H
def b_X5_firstOn_L12 (o0 : Nat) (x1 : Int32) (x2 : Int32) (x3 : Int32) (post : Int32 → Um → Prop) (k_85 : Um → Prop) (rec_ : Int32 → Um → Prop) (x4 : Int32) (U : Um) : Prop :=
  ((uI U o0 0) ≤ x4 → k_85 U) ∧ (¬ (uI U o0 0) ≤ x4 → (x1 = x2 → k_85 U) ∧ (¬ x1 = x2 → (x3 = (-1) → k_85 U) ∧ (¬ x3 = (-1) → vp_in x4 6 ∧ vp_in x2 6 ∧ ∀ (x5_4 : Int32), x5_4 = uA U o0 (ki 2 (Int32.toNatClampNeg x4)) (Int32.toNatClampNeg x2) → vp_in x1 6 ∧ vp_in x4 6 ∧ ((uA U o0 (ki 1 (Int32.toNatClampNeg x1)) (Int32.toNatClampNeg x4)) ≤ 0 → ∀ (x4_6 : Int32), x4_6 = x4 + 1 → rec_ x4_6 U) ∧ (¬ (uA U o0 (ki 1 (Int32.toNatClampNeg x1)) (Int32.toNatClampNeg x4)) ≤ 0 → (x5_4 = (-1) → ∀ (x4_7 : Int32), x4_7 = x4 + 1 → rec_ x4_7 U) ∧ (¬ x5_4 = (-1) → vp_in x1 6 ∧ vp_in x4 6 ∧ (((uA U o0 (ki 1 (Int32.toNatClampNeg x1)) (Int32.toNatClampNeg x4)) + x5_4) = x3 → post x4 U) ∧ (¬ ((uA U o0 (ki 1 (Int32.toNatClampNeg x1)) (Int32.toNatClampNeg x4)) + x5_4) = x3 → ∀ (x4_9 : Int32), x4_9 = x4 + 1 → rec_ x4_9 U))))))
def w_X5_firstOn_L12 (o0 : Nat) (x1 : Int32) (x2 : Int32) (x3 : Int32) (post : Int32 → Um → Prop) (k_85 : Um → Prop) (n_ : Nat) : Int32 → Um → Prop := Nat.rec (motive := fun _ => Int32 → Um → Prop) (fun _ _ => False) (fun _ ih => b_X5_firstOn_L12 o0 x1 x2 x3 post k_85 ih) n_
def w_X5_firstOn (o : Nat) (a1 : Int32) (a2 : Int32) (U : Um) (post : Int32 → Um → Prop) : Prop :=
  vp_in a1 6 ∧ vp_in a2 6 ∧ ∀ (x3_2 : Int32), x3_2 = uA U o (ki 2 (Int32.toNatClampNeg a1)) (Int32.toNatClampNeg a2) → (∃ n_11, w_X5_firstOn_L12 o a1 a2 x3_2 post (fun U_10 => post (-1) U_10) n_11 0 U)
set_option maxHeartbeats 4000000 in
theorem tl_X5_firstOn_L12 {l : Launch} {Y : px_Y} {X : px_X} {h0 hh : pe_H} {sz : Nat} (o0 : Nat) (x1 : Int32) (x2 : Int32) (x3 : Int32) (post : Int32 → Um → Prop) (k_85 : Um → Prop) (ho0 : oc o0 = 4)  (hC : px_C X Y.1 (pm_A hh sz) cX5_firstOn RX5 6) (hM : px_M l X Y.1 hh sz yX5_firstOn cX5_firstOn 6 (some (.int)) 0 0 0) (hR : X.2.2.2.1 = pm_rm 0 0 0) (hk_85 : ∀ (U : Um) (h : pe_H), k_85 U → rF Y h0 U h → pw X Y.1 (pm_A hh sz) (pm_E X Y.1 hh sz 0 0 (pm_P Y h0 sz (pq_i post))) 85 [none, none, none, none, none, none] [] h sz 0 0) : ∀ (n_ : Nat) (x4 : Int32) (U : Um) (h : pe_H), rF Y h0 U h → w_X5_firstOn_L12 o0 x1 x2 x3 post k_85 n_ x4 U → pw X Y.1 (pm_A hh sz) (pm_E X Y.1 hh sz 0 0 (pm_P Y h0 sz (pq_i post))) 12 [some (.ref (Y.2.1 o0)), some (.int x1), some (.int x2), some (.int x3), some (.int x4), none] [] h sz 0 0 := by
  intro n_
  induction n_ with
  | zero => intro x4 U h hU H; exact False.elim H
  | succ n_ ih =>
    intro x4 U h hU H
    replace H : b_X5_firstOn_L12 o0 x1 x2 x3 post k_85 (w_X5_firstOn_L12 o0 x1 x2 x3 post k_85 n_) x4 U := H
    unfold b_X5_firstOn_L12 at H
    refine pr_iload hC (by decide +kernel : decode cX5_firstOn 12 = .ok (.iload 4, 2)) rfl ?_
    refine pr_aload_n hC (by decide +kernel : decode cX5_firstOn 14 = .ok (.aload_n 0, 1)) rfl ?_
    refine pu_g0 hC fg_X5_19 (by decide +kernel : decode cX5_firstOn 15 = .ok (.getfield 19, 3)) hU ho0 (by decide) rfl rfl ?_
    refine pr_icmp_ge hC 85 (by decide +kernel : decode cX5_firstOn 18 = .ok (.if_icmp .ge 67, 3)) (by decide) (fun c_18 => ?_) (fun c_18 => ?_)
    · replace H := H.1 c_18
      exact pv_sub [none, none, none, none, none, none] (trivial) (hk_85 U h H hU)
    replace H := H.2 c_18
    refine pr_iload_n hC (by decide +kernel : decode cX5_firstOn 21 = .ok (.iload_n 1, 1)) rfl ?_
    refine pr_iload_n hC (by decide +kernel : decode cX5_firstOn 22 = .ok (.iload_n 2, 1)) rfl ?_
    refine pr_icmp_eq hC 85 (by decide +kernel : decode cX5_firstOn 23 = .ok (.if_icmp .eq 62, 3)) (by decide) (fun c_23 => ?_) (fun c_23 => ?_)
    · replace H := H.1 c_23
      exact pv_sub [none, none, none, none, none, none] (trivial) (hk_85 U h H hU)
    replace H := H.2 c_23
    refine pr_iload_n hC (by decide +kernel : decode cX5_firstOn 26 = .ok (.iload_n 3, 1)) rfl ?_
    refine pr_iconst hC (-1) (by decide +kernel : decode cX5_firstOn 27 = .ok (.iconst (-1), 1)) rfl ?_
    refine pr_icmp_eq hC 85 (by decide +kernel : decode cX5_firstOn 28 = .ok (.if_icmp .eq 57, 3)) (by decide) (fun c_28 => ?_) (fun c_28 => ?_)
    · replace H := H.1 c_28
      exact pv_sub [none, none, none, none, none, none] (trivial) (hk_85 U h H hU)
    replace H := H.2 c_28
    refine pr_aload_n hC (by decide +kernel : decode cX5_firstOn 31 = .ok (.aload_n 0, 1)) rfl ?_
    refine pu_g1 hC fg_X5_16 (by decide +kernel : decode cX5_firstOn 32 = .ok (.getfield 16, 3)) hU ho0 (by decide) rfl (by decide) ?_
    refine pr_iload hC (by decide +kernel : decode cX5_firstOn 35 = .ok (.iload 4, 2)) rfl ?_
    have q_3 := H.1
    replace H := H.2
    refine pu_aald6 hC (by decide +kernel : decode cX5_firstOn 37 = .ok (.aaload, 1)) hU ho0 rfl q_3 ?_
    refine pr_iload_n hC (by decide +kernel : decode cX5_firstOn 38 = .ok (.iload_n 2, 1)) rfl ?_
    refine pu_iald7 hC (by decide +kernel : decode cX5_firstOn 39 = .ok (.iaload, 1)) hU ho0 rfl (vp_lt q_3) H.1 ?_
    replace H := H.2
    refine pv_topi (fun x5_4 e_x5_4 => ?_)
    replace H := H x5_4 e_x5_4
    refine pr_istore hC (by decide +kernel : decode cX5_firstOn 40 = .ok (.istore 5, 2)) (by decide) rfl ?_
    refine pr_aload_n hC (by decide +kernel : decode cX5_firstOn 42 = .ok (.aload_n 0, 1)) rfl ?_
    refine pu_g1 hC fg_X5_13 (by decide +kernel : decode cX5_firstOn 43 = .ok (.getfield 13, 3)) hU ho0 (by decide) rfl (by decide) ?_
    refine pr_iload_n hC (by decide +kernel : decode cX5_firstOn 46 = .ok (.iload_n 1, 1)) rfl ?_
    have q_5 := H.1
    replace H := H.2
    refine pu_aald6 hC (by decide +kernel : decode cX5_firstOn 47 = .ok (.aaload, 1)) hU ho0 rfl q_5 ?_
    refine pr_iload hC (by decide +kernel : decode cX5_firstOn 48 = .ok (.iload 4, 2)) rfl ?_
    refine pu_iald7 hC (by decide +kernel : decode cX5_firstOn 50 = .ok (.iaload, 1)) hU ho0 rfl (vp_lt q_5) H.1 ?_
    replace H := H.2
    refine pr_if_le hC 79 (by decide +kernel : decode cX5_firstOn 51 = .ok (.ifCond .le 28, 3)) (by decide) (fun c_51 => ?_) (fun c_51 => ?_)
    · replace H := H.1 c_51
      refine pv_iinc hC (v := x4 + 1) (by decide +kernel : decode cX5_firstOn 79 = .ok (.iinc 4 1, 3)) rfl (by decide) rfl rfl (fun x4_6 e_x4_6 => ?_)
      replace H := H x4_6 e_x4_6
      refine pr_goto hC 12 (by decide +kernel : decode cX5_firstOn 82 = .ok (.goto (-70), 3)) (by decide) ?_
      exact pv_sub [some (.ref (Y.2.1 o0)), some (.int x1), some (.int x2), some (.int x3), some (.int x4_6), none] (And.intro rfl (And.intro rfl (And.intro rfl (And.intro rfl (And.intro rfl trivial))))) (ih _ U h hU H)
    replace H := H.2 c_51
    refine pr_iload hC (by decide +kernel : decode cX5_firstOn 54 = .ok (.iload 5, 2)) rfl ?_
    refine pr_iconst hC (-1) (by decide +kernel : decode cX5_firstOn 56 = .ok (.iconst (-1), 1)) rfl ?_
    refine pr_icmp_eq hC 79 (by decide +kernel : decode cX5_firstOn 57 = .ok (.if_icmp .eq 22, 3)) (by decide) (fun c_57 => ?_) (fun c_57 => ?_)
    · replace H := H.1 c_57
      refine pv_iinc hC (v := x4 + 1) (by decide +kernel : decode cX5_firstOn 79 = .ok (.iinc 4 1, 3)) rfl (by decide) rfl rfl (fun x4_7 e_x4_7 => ?_)
      replace H := H x4_7 e_x4_7
      refine pr_goto hC 12 (by decide +kernel : decode cX5_firstOn 82 = .ok (.goto (-70), 3)) (by decide) ?_
      exact pv_sub [some (.ref (Y.2.1 o0)), some (.int x1), some (.int x2), some (.int x3), some (.int x4_7), none] (And.intro rfl (And.intro rfl (And.intro rfl (And.intro rfl (And.intro rfl trivial))))) (ih _ U h hU H)
    replace H := H.2 c_57
    refine pr_aload_n hC (by decide +kernel : decode cX5_firstOn 60 = .ok (.aload_n 0, 1)) rfl ?_
    refine pu_g1 hC fg_X5_13 (by decide +kernel : decode cX5_firstOn 61 = .ok (.getfield 13, 3)) hU ho0 (by decide) rfl (by decide) ?_
    refine pr_iload_n hC (by decide +kernel : decode cX5_firstOn 64 = .ok (.iload_n 1, 1)) rfl ?_
    have q_8 := H.1
    replace H := H.2
    refine pu_aald6 hC (by decide +kernel : decode cX5_firstOn 65 = .ok (.aaload, 1)) hU ho0 rfl q_8 ?_
    refine pr_iload hC (by decide +kernel : decode cX5_firstOn 66 = .ok (.iload 4, 2)) rfl ?_
    refine pu_iald7 hC (by decide +kernel : decode cX5_firstOn 68 = .ok (.iaload, 1)) hU ho0 rfl (vp_lt q_8) H.1 ?_
    replace H := H.2
    refine pr_iload hC (by decide +kernel : decode cX5_firstOn 69 = .ok (.iload 5, 2)) rfl ?_
    refine pr_iadd hC (by decide +kernel : decode cX5_firstOn 71 = .ok (.iadd, 1)) ?_
    refine pr_iload_n hC (by decide +kernel : decode cX5_firstOn 72 = .ok (.iload_n 3, 1)) rfl ?_
    refine pr_icmp_ne hC 79 (by decide +kernel : decode cX5_firstOn 73 = .ok (.if_icmp .ne 6, 3)) (by decide) (fun c_73 => ?_) (fun c_73 => ?_)
    · replace H := H.2 c_73
      refine pv_iinc hC (v := x4 + 1) (by decide +kernel : decode cX5_firstOn 79 = .ok (.iinc 4 1, 3)) rfl (by decide) rfl rfl (fun x4_9 e_x4_9 => ?_)
      replace H := H x4_9 e_x4_9
      refine pr_goto hC 12 (by decide +kernel : decode cX5_firstOn 82 = .ok (.goto (-70), 3)) (by decide) ?_
      exact pv_sub [some (.ref (Y.2.1 o0)), some (.int x1), some (.int x2), some (.int x3), some (.int x4_9), none] (And.intro rfl (And.intro rfl (And.intro rfl (And.intro rfl (And.intro rfl trivial))))) (ih _ U h hU H)
    replace H := H.1 c_73
    refine pr_iload hC (by decide +kernel : decode cX5_firstOn 76 = .ok (.iload 4, 2)) rfl ?_
    exact pv_iret hM (by decide +kernel : decode cX5_firstOn 78 = .ok (.ireturn, 1)) hU H
set_option maxHeartbeats 4000000 in
theorem t_X5_firstOn {l : Launch} {Y : px_Y} {o : Nat} {a1 : Int32} {a2 : Int32} {U : Um} {post : Int32 → Um → Prop} (ho : oc o = 4) (H : w_X5_firstOn o a1 a2 U post) : um l Y 0 yX5_firstOn cX5_firstOn 6 (some (.int)) [.ref (Y.2.1 o), .int a1, .int a2] U (pq_i post) := by
  unfold w_X5_firstOn at H
  refine um_of (by decide) (Nat.le_of_ble_eq_true rfl) [some (.ref (Y.2.1 o)), some (.int a1), some (.int a2), none, none, none] rfl (fun X h0 hh sz hM hU => ?_)
  have hC := hM.1
  have hR := hM.2.2.1
  refine pr_aload_n hC (by decide +kernel : decode cX5_firstOn 0 = .ok (.aload_n 0, 1)) rfl ?_
  refine pu_g1 hC fg_X5_16 (by decide +kernel : decode cX5_firstOn 1 = .ok (.getfield 16, 3)) hU ho (by decide) rfl (by decide) ?_
  refine pr_iload_n hC (by decide +kernel : decode cX5_firstOn 4 = .ok (.iload_n 1, 1)) rfl ?_
  have q_1 := H.1
  replace H := H.2
  refine pu_aald6 hC (by decide +kernel : decode cX5_firstOn 5 = .ok (.aaload, 1)) hU ho rfl q_1 ?_
  refine pr_iload_n hC (by decide +kernel : decode cX5_firstOn 6 = .ok (.iload_n 2, 1)) rfl ?_
  refine pu_iald7 hC (by decide +kernel : decode cX5_firstOn 7 = .ok (.iaload, 1)) hU ho rfl (vp_lt q_1) H.1 ?_
  replace H := H.2
  refine pv_topi (fun x3_2 e_x3_2 => ?_)
  replace H := H x3_2 e_x3_2
  refine pr_istore_n hC (by decide +kernel : decode cX5_firstOn 8 = .ok (.istore_n 3, 1)) (by decide) rfl ?_
  refine pr_iconst hC (0) (by decide +kernel : decode cX5_firstOn 9 = .ok (.iconst 0, 1)) rfl ?_
  refine pr_istore hC (by decide +kernel : decode cX5_firstOn 10 = .ok (.istore 4, 2)) (by decide) rfl ?_
  obtain ⟨n_11, H⟩ := H
  refine pv_sub [some (.ref (Y.2.1 o)), some (.int a1), some (.int a2), some (.int x3_2), some (.int 0), none] (And.intro rfl (And.intro rfl (And.intro rfl (And.intro rfl (And.intro rfl trivial))))) ?_
  refine tl_X5_firstOn_L12 _ _ _ _ _ _ ho hC hM hR (fun U_10 h H hU => ?_) n_11 _ U hh hU H
  refine pr_iconst hC (-1) (by decide +kernel : decode cX5_firstOn 85 = .ok (.iconst (-1), 1)) rfl ?_
  exact pv_iret hM (by decide +kernel : decode cX5_firstOn 86 = .ok (.ireturn, 1)) hU H
def b_X5_middle_L20 (o0 : Nat) (x1 : Int32) (x2 : Int32) (x3 : Int32) (post : Int32 → Um → Prop) (k_47 : Int32 → Um → Prop) (rec_ : Int32 → Int32 → Um → Prop) (x4 : Int32) (x5 : Int32) (U : Um) : Prop :=
  ((uI U o0 0) ≤ x5 → k_47 x4 U) ∧ (¬ (uI U o0 0) ≤ x5 → w_X5_stretch o0 x3 x5 U (fun r_2 U_1 => ∀ (x4_3 : Int32), x4_3 = x4 + r_2 → ∀ (x5_4 : Int32), x5_4 = x5 + 1 → rec_ x4_3 x5_4 U_1))
def w_X5_middle_L20 (o0 : Nat) (x1 : Int32) (x2 : Int32) (x3 : Int32) (post : Int32 → Um → Prop) (k_47 : Int32 → Um → Prop) (n_ : Nat) : Int32 → Int32 → Um → Prop := Nat.rec (motive := fun _ => Int32 → Int32 → Um → Prop) (fun _ _ _ => False) (fun _ ih => b_X5_middle_L20 o0 x1 x2 x3 post k_47 ih) n_
def b_X5_middle_L6 (o0 : Nat) (post : Int32 → Um → Prop) (k_69 : Int32 → Um → Prop) (rec_ : Int32 → Int32 → Int32 → Um → Prop) (x1 : Int32) (x2 : Int32) (x3 : Int32) (U : Um) : Prop :=
  ((uI U o0 0) ≤ x3 → k_69 x1 U) ∧ (¬ (uI U o0 0) ≤ x3 → (∃ n_12, w_X5_middle_L20 o0 x1 x2 x3 post (fun x4_5 U_6 => (x1 = (-1) → ∀ (x1_7 : Int32), x1_7 = x3 → ∀ (x3_8 : Int32), x3_8 = x3 + 1 → rec_ x1_7 x4_5 x3_8 U_6) ∧ (¬ x1 = (-1) → (x2 ≤ x4_5 → ∀ (x3_9 : Int32), x3_9 = x3 + 1 → rec_ x1 x2 x3_9 U_6) ∧ (¬ x2 ≤ x4_5 → ∀ (x1_10 : Int32), x1_10 = x3 → ∀ (x3_11 : Int32), x3_11 = x3 + 1 → rec_ x1_10 x4_5 x3_11 U_6))) n_12 0 0 U))
def w_X5_middle_L6 (o0 : Nat) (post : Int32 → Um → Prop) (k_69 : Int32 → Um → Prop) (n_ : Nat) : Int32 → Int32 → Int32 → Um → Prop := Nat.rec (motive := fun _ => Int32 → Int32 → Int32 → Um → Prop) (fun _ _ _ _ => False) (fun _ ih => b_X5_middle_L6 o0 post k_69 ih) n_
def w_X5_middle (o : Nat) (U : Um) (post : Int32 → Um → Prop) : Prop :=
  (∃ n_15, w_X5_middle_L6 o post (fun x1_13 U_14 => post x1_13 U_14) n_15 (-1) 0 0 U)
set_option maxHeartbeats 4000000 in
theorem tl_X5_middle_L20 {l : Launch} {Y : px_Y} {X : px_X} {h0 hh : pe_H} {sz : Nat} (o0 : Nat) (x1 : Int32) (x2 : Int32) (x3 : Int32) (post : Int32 → Um → Prop) (k_47 : Int32 → Um → Prop) (ho0 : oc o0 = 4)  (hC : px_C X Y.1 (pm_A hh sz) cX5_middle RX5 6) (hM : px_M l X Y.1 hh sz yX5_middle cX5_middle 6 (some (.int)) 1 0 0) (hR : X.2.2.2.1 = pm_rm 1 0 0) (hk_47 : ∀ (y4 : Int32) (U : Um) (h : pe_H), k_47 y4 U → rF Y h0 U h → pw X Y.1 (pm_A hh sz) (pm_E X Y.1 hh sz 0 0 (pm_P Y h0 sz (pq_i post))) 47 [some (.ref (Y.2.1 o0)), some (.int x1), some (.int x2), some (.int x3), some (.int y4), none] [] h sz 0 0) : ∀ (n_ : Nat) (x4 : Int32) (x5 : Int32) (U : Um) (h : pe_H), rF Y h0 U h → w_X5_middle_L20 o0 x1 x2 x3 post k_47 n_ x4 x5 U → pw X Y.1 (pm_A hh sz) (pm_E X Y.1 hh sz 0 0 (pm_P Y h0 sz (pq_i post))) 20 [some (.ref (Y.2.1 o0)), some (.int x1), some (.int x2), some (.int x3), some (.int x4), some (.int x5)] [] h sz 0 0 := by
  intro n_
  induction n_ with
  | zero => intro x4 x5 U h hU H; exact False.elim H
  | succ n_ ih =>
    intro x4 x5 U h hU H
    replace H : b_X5_middle_L20 o0 x1 x2 x3 post k_47 (w_X5_middle_L20 o0 x1 x2 x3 post k_47 n_) x4 x5 U := H
    unfold b_X5_middle_L20 at H
    refine pr_iload hC (by decide +kernel : decode cX5_middle 20 = .ok (.iload 5, 2)) rfl ?_
    refine pr_aload_n hC (by decide +kernel : decode cX5_middle 22 = .ok (.aload_n 0, 1)) rfl ?_
    refine pu_g0 hC fg_X5_19 (by decide +kernel : decode cX5_middle 23 = .ok (.getfield 19, 3)) hU ho0 (by decide) rfl rfl ?_
    refine pr_icmp_ge hC 47 (by decide +kernel : decode cX5_middle 26 = .ok (.if_icmp .ge 21, 3)) (by decide) (fun c_26 => ?_) (fun c_26 => ?_)
    · replace H := H.1 c_26
      exact pv_sub [some (.ref (Y.2.1 o0)), some (.int x1), some (.int x2), some (.int x3), some (.int x4), none] (And.intro rfl (And.intro rfl (And.intro rfl (And.intro rfl (And.intro rfl trivial))))) (hk_47 _ U h H hU)
    replace H := H.2 c_26
    refine pr_iload hC (by decide +kernel : decode cX5_middle 29 = .ok (.iload 4, 2)) rfl ?_
    refine pr_aload_n hC (by decide +kernel : decode cX5_middle 31 = .ok (.aload_n 0, 1)) rfl ?_
    refine pr_iload_n hC (by decide +kernel : decode cX5_middle 32 = .ok (.iload_n 3, 1)) rfl ?_
    refine pr_iload hC (by decide +kernel : decode cX5_middle 33 = .ok (.iload 5, 2)) rfl ?_
    refine vc_Vi hC hR [.int x3, .int x5] fv_X5_27 (by decide +kernel : decode cX5_middle 35 = .ok (.invokevirtual 27, 3)) hU (t_X5_stretch ho0 H) ho0 (by decide) rfl rfl rfl (Nat.le_of_ble_eq_true rfl) (Nat.le_of_ble_eq_true rfl) (Nat.le_refl 0) (Nat.le_refl 0) (fun r_2 U_1 h H hU => ?_)
    refine pr_iadd hC (by decide +kernel : decode cX5_middle 38 = .ok (.iadd, 1)) ?_
    refine pv_topi (fun x4_3 e_x4_3 => ?_)
    replace H := H x4_3 e_x4_3
    refine pr_istore hC (by decide +kernel : decode cX5_middle 39 = .ok (.istore 4, 2)) (by decide) rfl ?_
    refine pv_iinc hC (v := x5 + 1) (by decide +kernel : decode cX5_middle 41 = .ok (.iinc 5 1, 3)) rfl (by decide) rfl rfl (fun x5_4 e_x5_4 => ?_)
    replace H := H x5_4 e_x5_4
    refine pr_goto hC 20 (by decide +kernel : decode cX5_middle 44 = .ok (.goto (-24), 3)) (by decide) ?_
    exact pv_sub [some (.ref (Y.2.1 o0)), some (.int x1), some (.int x2), some (.int x3), some (.int x4_3), some (.int x5_4)] (And.intro rfl (And.intro rfl (And.intro rfl (And.intro rfl (And.intro rfl (And.intro rfl trivial)))))) (ih _ _ U_1 h hU H)
set_option maxHeartbeats 4000000 in
theorem tl_X5_middle_L6 {l : Launch} {Y : px_Y} {X : px_X} {h0 hh : pe_H} {sz : Nat} (o0 : Nat) (post : Int32 → Um → Prop) (k_69 : Int32 → Um → Prop) (ho0 : oc o0 = 4)  (hC : px_C X Y.1 (pm_A hh sz) cX5_middle RX5 6) (hM : px_M l X Y.1 hh sz yX5_middle cX5_middle 6 (some (.int)) 1 0 0) (hR : X.2.2.2.1 = pm_rm 1 0 0) (hk_69 : ∀ (y1 : Int32) (U : Um) (h : pe_H), k_69 y1 U → rF Y h0 U h → pw X Y.1 (pm_A hh sz) (pm_E X Y.1 hh sz 0 0 (pm_P Y h0 sz (pq_i post))) 69 [none, some (.int y1), none, none, none, none] [] h sz 0 0) : ∀ (n_ : Nat) (x1 : Int32) (x2 : Int32) (x3 : Int32) (U : Um) (h : pe_H), rF Y h0 U h → w_X5_middle_L6 o0 post k_69 n_ x1 x2 x3 U → pw X Y.1 (pm_A hh sz) (pm_E X Y.1 hh sz 0 0 (pm_P Y h0 sz (pq_i post))) 6 [some (.ref (Y.2.1 o0)), some (.int x1), some (.int x2), some (.int x3), none, none] [] h sz 0 0 := by
  intro n_
  induction n_ with
  | zero => intro x1 x2 x3 U h hU H; exact False.elim H
  | succ n_ ih =>
    intro x1 x2 x3 U h hU H
    replace H : b_X5_middle_L6 o0 post k_69 (w_X5_middle_L6 o0 post k_69 n_) x1 x2 x3 U := H
    unfold b_X5_middle_L6 at H
    refine pr_iload_n hC (by decide +kernel : decode cX5_middle 6 = .ok (.iload_n 3, 1)) rfl ?_
    refine pr_aload_n hC (by decide +kernel : decode cX5_middle 7 = .ok (.aload_n 0, 1)) rfl ?_
    refine pu_g0 hC fg_X5_19 (by decide +kernel : decode cX5_middle 8 = .ok (.getfield 19, 3)) hU ho0 (by decide) rfl rfl ?_
    refine pr_icmp_ge hC 69 (by decide +kernel : decode cX5_middle 11 = .ok (.if_icmp .ge 58, 3)) (by decide) (fun c_11 => ?_) (fun c_11 => ?_)
    · replace H := H.1 c_11
      exact pv_sub [none, some (.int x1), none, none, none, none] (And.intro rfl trivial) (hk_69 _ U h H hU)
    replace H := H.2 c_11
    refine pr_iconst hC (0) (by decide +kernel : decode cX5_middle 14 = .ok (.iconst 0, 1)) rfl ?_
    refine pr_istore hC (by decide +kernel : decode cX5_middle 15 = .ok (.istore 4, 2)) (by decide) rfl ?_
    refine pr_iconst hC (0) (by decide +kernel : decode cX5_middle 17 = .ok (.iconst 0, 1)) rfl ?_
    refine pr_istore hC (by decide +kernel : decode cX5_middle 18 = .ok (.istore 5, 2)) (by decide) rfl ?_
    obtain ⟨n_12, H⟩ := H
    refine pv_sub [some (.ref (Y.2.1 o0)), some (.int x1), some (.int x2), some (.int x3), some (.int 0), some (.int 0)] (And.intro rfl (And.intro rfl (And.intro rfl (And.intro rfl (And.intro rfl (And.intro rfl trivial)))))) ?_
    refine tl_X5_middle_L20 _ _ _ _ _ _ ho0 hC hM hR (fun x4_5 U_6 h H hU => ?_) n_12 _ _ U h hU H
    refine pr_iload_n hC (by decide +kernel : decode cX5_middle 47 = .ok (.iload_n 1, 1)) rfl ?_
    refine pr_iconst hC (-1) (by decide +kernel : decode cX5_middle 48 = .ok (.iconst (-1), 1)) rfl ?_
    refine pr_icmp_eq hC 58 (by decide +kernel : decode cX5_middle 49 = .ok (.if_icmp .eq 9, 3)) (by decide) (fun c_49 => ?_) (fun c_49 => ?_)
    · replace H := H.1 c_49
      refine pr_iload_n hC (by decide +kernel : decode cX5_middle 58 = .ok (.iload_n 3, 1)) rfl ?_
      refine pv_topi (fun x1_7 e_x1_7 => ?_)
      replace H := H x1_7 e_x1_7
      refine pr_istore_n hC (by decide +kernel : decode cX5_middle 59 = .ok (.istore_n 1, 1)) (by decide) rfl ?_
      refine pr_iload hC (by decide +kernel : decode cX5_middle 60 = .ok (.iload 4, 2)) rfl ?_
      refine pr_istore_n hC (by decide +kernel : decode cX5_middle 62 = .ok (.istore_n 2, 1)) (by decide) rfl ?_
      refine pv_iinc hC (v := x3 + 1) (by decide +kernel : decode cX5_middle 63 = .ok (.iinc 3 1, 3)) rfl (by decide) rfl rfl (fun x3_8 e_x3_8 => ?_)
      replace H := H x3_8 e_x3_8
      refine pr_goto hC 6 (by decide +kernel : decode cX5_middle 66 = .ok (.goto (-60), 3)) (by decide) ?_
      exact pv_sub [some (.ref (Y.2.1 o0)), some (.int x1_7), some (.int x4_5), some (.int x3_8), none, none] (And.intro rfl (And.intro rfl (And.intro rfl (And.intro rfl trivial)))) (ih _ _ _ U_6 h hU H)
    replace H := H.2 c_49
    refine pr_iload hC (by decide +kernel : decode cX5_middle 52 = .ok (.iload 4, 2)) rfl ?_
    refine pr_iload_n hC (by decide +kernel : decode cX5_middle 54 = .ok (.iload_n 2, 1)) rfl ?_
    refine pr_icmp_ge hC 63 (by decide +kernel : decode cX5_middle 55 = .ok (.if_icmp .ge 8, 3)) (by decide) (fun c_55 => ?_) (fun c_55 => ?_)
    · replace H := H.1 c_55
      refine pv_iinc hC (v := x3 + 1) (by decide +kernel : decode cX5_middle 63 = .ok (.iinc 3 1, 3)) rfl (by decide) rfl rfl (fun x3_9 e_x3_9 => ?_)
      replace H := H x3_9 e_x3_9
      refine pr_goto hC 6 (by decide +kernel : decode cX5_middle 66 = .ok (.goto (-60), 3)) (by decide) ?_
      exact pv_sub [some (.ref (Y.2.1 o0)), some (.int x1), some (.int x2), some (.int x3_9), none, none] (And.intro rfl (And.intro rfl (And.intro rfl (And.intro rfl trivial)))) (ih _ _ _ U_6 h hU H)
    replace H := H.2 c_55
    refine pr_iload_n hC (by decide +kernel : decode cX5_middle 58 = .ok (.iload_n 3, 1)) rfl ?_
    refine pv_topi (fun x1_10 e_x1_10 => ?_)
    replace H := H x1_10 e_x1_10
    refine pr_istore_n hC (by decide +kernel : decode cX5_middle 59 = .ok (.istore_n 1, 1)) (by decide) rfl ?_
    refine pr_iload hC (by decide +kernel : decode cX5_middle 60 = .ok (.iload 4, 2)) rfl ?_
    refine pr_istore_n hC (by decide +kernel : decode cX5_middle 62 = .ok (.istore_n 2, 1)) (by decide) rfl ?_
    refine pv_iinc hC (v := x3 + 1) (by decide +kernel : decode cX5_middle 63 = .ok (.iinc 3 1, 3)) rfl (by decide) rfl rfl (fun x3_11 e_x3_11 => ?_)
    replace H := H x3_11 e_x3_11
    refine pr_goto hC 6 (by decide +kernel : decode cX5_middle 66 = .ok (.goto (-60), 3)) (by decide) ?_
    exact pv_sub [some (.ref (Y.2.1 o0)), some (.int x1_10), some (.int x4_5), some (.int x3_11), none, none] (And.intro rfl (And.intro rfl (And.intro rfl (And.intro rfl trivial)))) (ih _ _ _ U_6 h hU H)
set_option maxHeartbeats 4000000 in
theorem t_X5_middle {l : Launch} {Y : px_Y} {o : Nat} {U : Um} {post : Int32 → Um → Prop} (ho : oc o = 4) (H : w_X5_middle o U post) : um l Y 1 yX5_middle cX5_middle 6 (some (.int)) [.ref (Y.2.1 o)] U (pq_i post) := by
  unfold w_X5_middle at H
  refine um_of (by decide) (Nat.le_of_ble_eq_true rfl) [some (.ref (Y.2.1 o)), none, none, none, none, none] rfl (fun X h0 hh sz hM hU => ?_)
  have hC := hM.1
  have hR := hM.2.2.1
  refine pr_iconst hC (-1) (by decide +kernel : decode cX5_middle 0 = .ok (.iconst (-1), 1)) rfl ?_
  refine pr_istore_n hC (by decide +kernel : decode cX5_middle 1 = .ok (.istore_n 1, 1)) (by decide) rfl ?_
  refine pr_iconst hC (0) (by decide +kernel : decode cX5_middle 2 = .ok (.iconst 0, 1)) rfl ?_
  refine pr_istore_n hC (by decide +kernel : decode cX5_middle 3 = .ok (.istore_n 2, 1)) (by decide) rfl ?_
  refine pr_iconst hC (0) (by decide +kernel : decode cX5_middle 4 = .ok (.iconst 0, 1)) rfl ?_
  refine pr_istore_n hC (by decide +kernel : decode cX5_middle 5 = .ok (.istore_n 3, 1)) (by decide) rfl ?_
  obtain ⟨n_15, H⟩ := H
  refine pv_sub [some (.ref (Y.2.1 o)), some (.int (-1)), some (.int 0), some (.int 0), none, none] (And.intro rfl (And.intro rfl (And.intro rfl (And.intro rfl trivial)))) ?_
  refine tl_X5_middle_L6 _ _ _ ho hC hM hR (fun x1_13 U_14 h H hU => ?_) n_15 _ _ _ U hh hU H
  refine pr_iload_n hC (by decide +kernel : decode cX5_middle 69 = .ok (.iload_n 1, 1)) rfl ?_
  exact pv_iret hM (by decide +kernel : decode cX5_middle 70 = .ok (.ireturn, 1)) hU H
def b_X6_open_L12 (o0 : Nat) (post : Um → Prop) (k_41 : Um → Prop) (rec_ : Int32 → Um → Prop) (x2 : Int32) (U : Um) : Prop :=
  ((48 : Int32) ≤ x2 → k_41 U) ∧ (¬ (48 : Int32) ≤ x2 → vp_in x2 48 ∧ ∀ (U_3 : Um), U_3 = sA U o0 2 (va_up (uA U o0 2) (Int32.toNatClampNeg x2) (-1)) → vp_in x2 48 ∧ ∀ (U_4 : Um), U_4 = sA U_3 o0 3 (va_up (uA U_3 o0 3) (Int32.toNatClampNeg x2) (-1)) → ∀ (x2_5 : Int32), x2_5 = x2 + 1 → rec_ x2_5 U_4)
def w_X6_open_L12 (o0 : Nat) (post : Um → Prop) (k_41 : Um → Prop) (n_ : Nat) : Int32 → Um → Prop := Nat.rec (motive := fun _ => Int32 → Um → Prop) (fun _ _ => False) (fun _ ih => b_X6_open_L12 o0 post k_41 ih) n_
def b_X6_open_L43 (o0 : Nat) (post : Um → Prop) (k_95 : Um → Prop) (rec_ : Int32 → Um → Prop) (x2 : Int32) (U : Um) : Prop :=
  ((10 : Int32) ≤ x2 → k_95 U) ∧ (¬ (10 : Int32) ≤ x2 → oc (uR U o0 0) = 8 ∧ vp_in x2 10 ∧ vp_in x2 10 ∧ ∀ (U_8 : Um), U_8 = sA U o0 4 (va_up (uA U o0 4) (Int32.toNatClampNeg x2) (uA U (uR U o0 0) 2 (Int32.toNatClampNeg x2))) → vp_in x2 10 ∧ ∀ (U_9 : Um), U_9 = sF U_8 o0 5 (va_up (uF U_8 o0 5) (Int32.toNatClampNeg x2) 1112014848) → vp_in x2 10 ∧ ∀ (U_10 : Um), U_10 = sA U_9 o0 6 (va_up (uA U_9 o0 6) (Int32.toNatClampNeg x2) 0) → vp_in x2 10 ∧ ∀ (U_11 : Um), U_11 = sA U_10 o0 7 (va_up (uA U_10 o0 7) (Int32.toNatClampNeg x2) 0) → ∀ (x2_12 : Int32), x2_12 = x2 + 1 → rec_ x2_12 U_11)
def w_X6_open_L43 (o0 : Nat) (post : Um → Prop) (k_95 : Um → Prop) (n_ : Nat) : Int32 → Um → Prop := Nat.rec (motive := fun _ => Int32 → Um → Prop) (fun _ _ => False) (fun _ ih => b_X6_open_L43 o0 post k_95 ih) n_
def w_X6_open (o : Nat) (a1 : Nat) (U : Um) (post : Um → Prop) : Prop :=
  ∀ (U_1 : Um), U_1 = sR U o 0 a1 → ∀ (U_2 : Um), U_2 = sI U_1 o 1 (-1) → (∃ n_15, w_X6_open_L12 o post (fun U_6 => (∃ n_14, w_X6_open_L43 o post (fun U_13 => post U_13) n_14 0 U_6)) n_15 0 U_2)
set_option maxHeartbeats 4000000 in
theorem tl_X6_open_L12 {l : Launch} {Y : px_Y} {X : px_X} {h0 hh : pe_H} {sz : Nat} (o0 : Nat) (post : Um → Prop) (k_41 : Um → Prop) (ho0 : oc o0 = 5)  (hC : px_C X Y.1 (pm_A hh sz) cX6_open RX6 3) (hM : px_M l X Y.1 hh sz yX6_open cX6_open 3 none 0 0 0) (hR : X.2.2.2.1 = pm_rm 0 0 0) (hk_41 : ∀ (U : Um) (h : pe_H), k_41 U → rF Y h0 U h → pw X Y.1 (pm_A hh sz) (pm_E X Y.1 hh sz 0 0 (pm_P Y h0 sz (pq_v post))) 41 [some (.ref (Y.2.1 o0)), none, none] [] h sz 0 0) : ∀ (n_ : Nat) (x2 : Int32) (U : Um) (h : pe_H), rF Y h0 U h → w_X6_open_L12 o0 post k_41 n_ x2 U → pw X Y.1 (pm_A hh sz) (pm_E X Y.1 hh sz 0 0 (pm_P Y h0 sz (pq_v post))) 12 [some (.ref (Y.2.1 o0)), none, some (.int x2)] [] h sz 0 0 := by
  intro n_
  induction n_ with
  | zero => intro x2 U h hU H; exact False.elim H
  | succ n_ ih =>
    intro x2 U h hU H
    replace H : b_X6_open_L12 o0 post k_41 (w_X6_open_L12 o0 post k_41 n_) x2 U := H
    unfold b_X6_open_L12 at H
    refine pr_iload_n hC (by decide +kernel : decode cX6_open 12 = .ok (.iload_n 2, 1)) rfl ?_
    refine pr_aload_n hC (by decide +kernel : decode cX6_open 13 = .ok (.aload_n 0, 1)) rfl ?_
    refine pu_g1 hC fg_X6_9 (by decide +kernel : decode cX6_open 14 = .ok (.getfield 9, 3)) hU ho0 (by decide) rfl (by decide) ?_
    refine pu_len1 hC (by decide +kernel : decode cX6_open 17 = .ok (.arraylength, 1)) hU ho0 rfl (v := 48) rfl ?_
    refine pr_icmp_ge hC 41 (by decide +kernel : decode cX6_open 18 = .ok (.if_icmp .ge 23, 3)) (by decide) (fun c_18 => ?_) (fun c_18 => ?_)
    · replace H := H.1 c_18
      exact pv_sub [some (.ref (Y.2.1 o0)), none, none] (And.intro rfl trivial) (hk_41 U h H hU)
    replace H := H.2 c_18
    refine pr_aload_n hC (by decide +kernel : decode cX6_open 21 = .ok (.aload_n 0, 1)) rfl ?_
    refine pu_g1 hC fg_X6_9 (by decide +kernel : decode cX6_open 22 = .ok (.getfield 9, 3)) hU ho0 (by decide) rfl (by decide) ?_
    refine pr_iload_n hC (by decide +kernel : decode cX6_open 25 = .ok (.iload_n 2, 1)) rfl ?_
    refine pr_iconst hC (-1) (by decide +kernel : decode cX6_open 26 = .ok (.iconst (-1), 1)) rfl ?_
    refine pv_iast hC (by decide +kernel : decode cX6_open 27 = .ok (.iastore, 1)) hU ho0 rfl H.1 (fun U_3 h e_U_3 hU => ?_)
    replace H := H.2 U_3 e_U_3
    refine pr_aload_n hC (by decide +kernel : decode cX6_open 28 = .ok (.aload_n 0, 1)) rfl ?_
    refine pu_g1 hC fg_X6_15 (by decide +kernel : decode cX6_open 29 = .ok (.getfield 15, 3)) hU ho0 (by decide) rfl (by decide) ?_
    refine pr_iload_n hC (by decide +kernel : decode cX6_open 32 = .ok (.iload_n 2, 1)) rfl ?_
    refine pr_iconst hC (-1) (by decide +kernel : decode cX6_open 33 = .ok (.iconst (-1), 1)) rfl ?_
    refine pv_iast hC (by decide +kernel : decode cX6_open 34 = .ok (.iastore, 1)) hU ho0 rfl H.1 (fun U_4 h e_U_4 hU => ?_)
    replace H := H.2 U_4 e_U_4
    refine pv_iinc hC (v := x2 + 1) (by decide +kernel : decode cX6_open 35 = .ok (.iinc 2 1, 3)) rfl (by decide) rfl rfl (fun x2_5 e_x2_5 => ?_)
    replace H := H x2_5 e_x2_5
    refine pr_goto hC 12 (by decide +kernel : decode cX6_open 38 = .ok (.goto (-26), 3)) (by decide) ?_
    exact pv_sub [some (.ref (Y.2.1 o0)), none, some (.int x2_5)] (And.intro rfl (And.intro rfl trivial)) (ih _ U_4 h hU H)
set_option maxHeartbeats 4000000 in
theorem tl_X6_open_L43 {l : Launch} {Y : px_Y} {X : px_X} {h0 hh : pe_H} {sz : Nat} (o0 : Nat) (post : Um → Prop) (k_95 : Um → Prop) (ho0 : oc o0 = 5)  (hC : px_C X Y.1 (pm_A hh sz) cX6_open RX6 3) (hM : px_M l X Y.1 hh sz yX6_open cX6_open 3 none 0 0 0) (hR : X.2.2.2.1 = pm_rm 0 0 0) (hk_95 : ∀ (U : Um) (h : pe_H), k_95 U → rF Y h0 U h → pw X Y.1 (pm_A hh sz) (pm_E X Y.1 hh sz 0 0 (pm_P Y h0 sz (pq_v post))) 95 [none, none, none] [] h sz 0 0) : ∀ (n_ : Nat) (x2 : Int32) (U : Um) (h : pe_H), rF Y h0 U h → w_X6_open_L43 o0 post k_95 n_ x2 U → pw X Y.1 (pm_A hh sz) (pm_E X Y.1 hh sz 0 0 (pm_P Y h0 sz (pq_v post))) 43 [some (.ref (Y.2.1 o0)), none, some (.int x2)] [] h sz 0 0 := by
  intro n_
  induction n_ with
  | zero => intro x2 U h hU H; exact False.elim H
  | succ n_ ih =>
    intro x2 U h hU H
    replace H : b_X6_open_L43 o0 post k_95 (w_X6_open_L43 o0 post k_95 n_) x2 U := H
    unfold b_X6_open_L43 at H
    refine pr_iload_n hC (by decide +kernel : decode cX6_open 43 = .ok (.iload_n 2, 1)) rfl ?_
    refine pr_aload_n hC (by decide +kernel : decode cX6_open 44 = .ok (.aload_n 0, 1)) rfl ?_
    refine pu_g1 hC fg_X6_18 (by decide +kernel : decode cX6_open 45 = .ok (.getfield 18, 3)) hU ho0 (by decide) rfl (by decide) ?_
    refine pu_len1 hC (by decide +kernel : decode cX6_open 48 = .ok (.arraylength, 1)) hU ho0 rfl (v := 10) rfl ?_
    refine pr_icmp_ge hC 95 (by decide +kernel : decode cX6_open 49 = .ok (.if_icmp .ge 46, 3)) (by decide) (fun c_49 => ?_) (fun c_49 => ?_)
    · replace H := H.1 c_49
      exact pv_sub [none, none, none] (trivial) (hk_95 U h H hU)
    replace H := H.2 c_49
    refine pr_aload_n hC (by decide +kernel : decode cX6_open 52 = .ok (.aload_n 0, 1)) rfl ?_
    refine pu_g1 hC fg_X6_18 (by decide +kernel : decode cX6_open 53 = .ok (.getfield 18, 3)) hU ho0 (by decide) rfl (by decide) ?_
    refine pr_iload_n hC (by decide +kernel : decode cX6_open 56 = .ok (.iload_n 2, 1)) rfl ?_
    refine pr_aload_n hC (by decide +kernel : decode cX6_open 57 = .ok (.aload_n 0, 1)) rfl ?_
    refine pu_g21 hC fg_X6_41 (by decide +kernel : decode cX6_open 58 = .ok (.getfield 41, 3)) hU ho0 (by decide) rfl rfl ?_
    have q_7 := H.1
    replace H := H.2
    refine pu_g1 hC fg_X6_49 (by decide +kernel : decode cX6_open 61 = .ok (.getfield 49, 3)) hU q_7 (by decide) rfl (by decide) ?_
    refine pr_iload_n hC (by decide +kernel : decode cX6_open 64 = .ok (.iload_n 2, 1)) rfl ?_
    refine pu_iald hC (by decide +kernel : decode cX6_open 65 = .ok (.iaload, 1)) hU q_7 rfl H.1 ?_
    replace H := H.2
    refine pv_iast hC (by decide +kernel : decode cX6_open 66 = .ok (.iastore, 1)) hU ho0 rfl H.1 (fun U_8 h e_U_8 hU => ?_)
    replace H := H.2 U_8 e_U_8
    refine pr_aload_n hC (by decide +kernel : decode cX6_open 67 = .ok (.aload_n 0, 1)) rfl ?_
    refine pu_g1 hC fg_X6_21 (by decide +kernel : decode cX6_open 68 = .ok (.getfield 21, 3)) hU ho0 (by decide) rfl (by decide) ?_
    refine pr_iload_n hC (by decide +kernel : decode cX6_open 71 = .ok (.iload_n 2, 1)) rfl ?_
    refine pr_ldcf hC (1112014848) (by decide +kernel : decode cX6_open 72 = .ok (.ldc 52, 2)) fk_X6_52 ?_
    refine pv_fast hC (by decide +kernel : decode cX6_open 74 = .ok (.fastore, 1)) hU ho0 rfl H.1 (fun U_9 h e_U_9 hU => ?_)
    replace H := H.2 U_9 e_U_9
    refine pr_aload_n hC (by decide +kernel : decode cX6_open 75 = .ok (.aload_n 0, 1)) rfl ?_
    refine pu_g1 hC fg_X6_25 (by decide +kernel : decode cX6_open 76 = .ok (.getfield 25, 3)) hU ho0 (by decide) rfl (by decide) ?_
    refine pr_iload_n hC (by decide +kernel : decode cX6_open 79 = .ok (.iload_n 2, 1)) rfl ?_
    refine pr_iconst hC (0) (by decide +kernel : decode cX6_open 80 = .ok (.iconst 0, 1)) rfl ?_
    refine pv_iast hC (by decide +kernel : decode cX6_open 81 = .ok (.iastore, 1)) hU ho0 rfl H.1 (fun U_10 h e_U_10 hU => ?_)
    replace H := H.2 U_10 e_U_10
    refine pr_aload_n hC (by decide +kernel : decode cX6_open 82 = .ok (.aload_n 0, 1)) rfl ?_
    refine pu_g1 hC fg_X6_28 (by decide +kernel : decode cX6_open 83 = .ok (.getfield 28, 3)) hU ho0 (by decide) rfl (by decide) ?_
    refine pr_iload_n hC (by decide +kernel : decode cX6_open 86 = .ok (.iload_n 2, 1)) rfl ?_
    refine pr_iconst hC (0) (by decide +kernel : decode cX6_open 87 = .ok (.iconst 0, 1)) rfl ?_
    refine pv_iast hC (by decide +kernel : decode cX6_open 88 = .ok (.iastore, 1)) hU ho0 rfl H.1 (fun U_11 h e_U_11 hU => ?_)
    replace H := H.2 U_11 e_U_11
    refine pv_iinc hC (v := x2 + 1) (by decide +kernel : decode cX6_open 89 = .ok (.iinc 2 1, 3)) rfl (by decide) rfl rfl (fun x2_12 e_x2_12 => ?_)
    replace H := H x2_12 e_x2_12
    refine pr_goto hC 43 (by decide +kernel : decode cX6_open 92 = .ok (.goto (-49), 3)) (by decide) ?_
    exact pv_sub [some (.ref (Y.2.1 o0)), none, some (.int x2_12)] (And.intro rfl (And.intro rfl trivial)) (ih _ U_11 h hU H)
set_option maxHeartbeats 4000000 in
theorem t_X6_open {l : Launch} {Y : px_Y} {o : Nat} {a1 : Nat} {U : Um} {post : Um → Prop} (ho : oc o = 5) (ha1 : oc a1 = 8) (H : w_X6_open o a1 U post) : um l Y 0 yX6_open cX6_open 3 none [.ref (Y.2.1 o), .ref (Y.2.1 a1)] U (pq_v post) := by
  unfold w_X6_open at H
  refine um_of (by decide) (Nat.le_of_ble_eq_true rfl) [some (.ref (Y.2.1 o)), some (.ref (Y.2.1 a1)), none] rfl (fun X h0 hh sz hM hU => ?_)
  have hC := hM.1
  have hR := hM.2.2.1
  refine pr_aload_n hC (by decide +kernel : decode cX6_open 0 = .ok (.aload_n 0, 1)) rfl ?_
  refine pr_aload_n hC (by decide +kernel : decode cX6_open 1 = .ok (.aload_n 1, 1)) rfl ?_
  refine pv_p21 hC fp_X6_41 (by decide +kernel : decode cX6_open 2 = .ok (.putfield 41, 3)) hU ho (by decide) rfl (Or.inl rfl) (fun _ => rfl) (fun _ => rfl) (fun U_1 h e_U_1 hU => ?_)
  replace H := H U_1 e_U_1
  refine pr_aload_n hC (by decide +kernel : decode cX6_open 5 = .ok (.aload_n 0, 1)) rfl ?_
  refine pr_iconst hC (-1) (by decide +kernel : decode cX6_open 6 = .ok (.iconst (-1), 1)) rfl ?_
  refine pv_p0 hC fp_X6_45 (by decide +kernel : decode cX6_open 7 = .ok (.putfield 45, 3)) hU ho (by decide) rfl rfl rfl rfl (fun U_2 h e_U_2 hU => ?_)
  replace H := H U_2 e_U_2
  refine pr_iconst hC (0) (by decide +kernel : decode cX6_open 10 = .ok (.iconst 0, 1)) rfl ?_
  refine pr_istore_n hC (by decide +kernel : decode cX6_open 11 = .ok (.istore_n 2, 1)) (by decide) rfl ?_
  obtain ⟨n_15, H⟩ := H
  refine pv_sub [some (.ref (Y.2.1 o)), none, some (.int 0)] (And.intro rfl (And.intro rfl trivial)) ?_
  refine tl_X6_open_L12 _ _ _ ho hC hM hR (fun U_6 h H hU => ?_) n_15 _ U_2 h hU H
  refine pr_iconst hC (0) (by decide +kernel : decode cX6_open 41 = .ok (.iconst 0, 1)) rfl ?_
  refine pr_istore_n hC (by decide +kernel : decode cX6_open 42 = .ok (.istore_n 2, 1)) (by decide) rfl ?_
  obtain ⟨n_14, H⟩ := H
  refine pv_sub [some (.ref (Y.2.1 o)), none, some (.int 0)] (And.intro rfl (And.intro rfl trivial)) ?_
  refine tl_X6_open_L43 _ _ _ ho hC hM hR (fun U_13 h H hU => ?_) n_14 _ U_6 h hU H
  exact pv_vret hM (by decide +kernel : decode cX6_open 95 = .ok (.return_, 1)) hU H
def w_X6_copyOf (o : Nat) (a1 : Nat) (U : Um) (post : Um → Prop) : Prop :=
  ∀ (U_1 : Um), U_1 = sI U o 1 (uI U a1 1) → vp_cp 0 0 48 48 48 ∧ ∀ (U_2 : Um), U_2 = sA U_1 o 2 (va_cpy (uA U_1 a1 2) (uA U_1 o 2) (Int32.toNatClampNeg 0) (Int32.toNatClampNeg 0) (Int32.toNatClampNeg 48)) → vp_cp 0 0 48 48 48 ∧ ∀ (U_3 : Um), U_3 = sA U_2 o 3 (va_cpy (uA U_2 a1 3) (uA U_2 o 3) (Int32.toNatClampNeg 0) (Int32.toNatClampNeg 0) (Int32.toNatClampNeg 48)) → vp_cp 0 0 10 10 10 ∧ ∀ (U_4 : Um), U_4 = sA U_3 o 4 (va_cpy (uA U_3 a1 4) (uA U_3 o 4) (Int32.toNatClampNeg 0) (Int32.toNatClampNeg 0) (Int32.toNatClampNeg 10)) → vp_cp 0 0 10 10 10 ∧ ∀ (U_5 : Um), U_5 = sF U_4 o 5 (va_cpy (uF U_4 a1 5) (uF U_4 o 5) (Int32.toNatClampNeg 0) (Int32.toNatClampNeg 0) (Int32.toNatClampNeg 10)) → vp_cp 0 0 10 10 10 ∧ ∀ (U_6 : Um), U_6 = sA U_5 o 6 (va_cpy (uA U_5 a1 6) (uA U_5 o 6) (Int32.toNatClampNeg 0) (Int32.toNatClampNeg 0) (Int32.toNatClampNeg 10)) → vp_cp 0 0 10 10 10 ∧ ∀ (U_7 : Um), U_7 = sA U_6 o 7 (va_cpy (uA U_6 a1 7) (uA U_6 o 7) (Int32.toNatClampNeg 0) (Int32.toNatClampNeg 0) (Int32.toNatClampNeg 10)) → post U_7
set_option maxHeartbeats 4000000 in
theorem t_X6_copyOf {l : Launch} {Y : px_Y} {o : Nat} {a1 : Nat} {U : Um} {post : Um → Prop} (ho : oc o = 5) (ha1 : oc a1 = 5) (H : w_X6_copyOf o a1 U post) : um l Y 2 yX6_copyOf cX6_copyOf 2 none [.ref (Y.2.1 o), .ref (Y.2.1 a1)] U (pq_v post) := by
  unfold w_X6_copyOf at H
  refine um_of (by decide) (Nat.le_of_ble_eq_true rfl) [some (.ref (Y.2.1 o)), some (.ref (Y.2.1 a1))] rfl (fun X h0 hh sz hM hU => ?_)
  have hC := hM.1
  have hR := hM.2.2.1
  refine pr_aload_n hC (by decide +kernel : decode cX6_copyOf 0 = .ok (.aload_n 0, 1)) rfl ?_
  refine pr_aload_n hC (by decide +kernel : decode cX6_copyOf 1 = .ok (.aload_n 1, 1)) rfl ?_
  refine pu_g0 hC fg_X6_45 (by decide +kernel : decode cX6_copyOf 2 = .ok (.getfield 45, 3)) hU ha1 (by decide) rfl rfl ?_
  refine pv_p0 hC fp_X6_45 (by decide +kernel : decode cX6_copyOf 5 = .ok (.putfield 45, 3)) hU ho (by decide) rfl rfl rfl rfl (fun U_1 h e_U_1 hU => ?_)
  replace H := H U_1 e_U_1
  refine pr_aload_n hC (by decide +kernel : decode cX6_copyOf 8 = .ok (.aload_n 1, 1)) rfl ?_
  refine pu_g1 hC fg_X6_9 (by decide +kernel : decode cX6_copyOf 9 = .ok (.getfield 9, 3)) hU ha1 (by decide) rfl (by decide) ?_
  refine pr_iconst hC (0) (by decide +kernel : decode cX6_copyOf 12 = .ok (.iconst 0, 1)) rfl ?_
  refine pr_aload_n hC (by decide +kernel : decode cX6_copyOf 13 = .ok (.aload_n 0, 1)) rfl ?_
  refine pu_g1 hC fg_X6_9 (by decide +kernel : decode cX6_copyOf 14 = .ok (.getfield 9, 3)) hU ho (by decide) rfl (by decide) ?_
  refine pr_iconst hC (0) (by decide +kernel : decode cX6_copyOf 17 = .ok (.iconst 0, 1)) rfl ?_
  refine pr_aload_n hC (by decide +kernel : decode cX6_copyOf 18 = .ok (.aload_n 0, 1)) rfl ?_
  refine pu_g1 hC fg_X6_9 (by decide +kernel : decode cX6_copyOf 19 = .ok (.getfield 9, 3)) hU ho (by decide) rfl (by decide) ?_
  refine pu_len1 hC (by decide +kernel : decode cX6_copyOf 22 = .ok (.arraylength, 1)) hU ho rfl (v := 48) rfl ?_
  refine pv_copyi hC hR (Nat.le_of_ble_eq_true rfl) fa_X6_53 (by decide +kernel : decode cX6_copyOf 23 = .ok (.invokestatic 53, 3)) hU ha1 ho rfl rfl H.1 (fun U_2 h e_U_2 hU => ?_)
  replace H := H.2 U_2 e_U_2
  refine pr_aload_n hC (by decide +kernel : decode cX6_copyOf 26 = .ok (.aload_n 1, 1)) rfl ?_
  refine pu_g1 hC fg_X6_15 (by decide +kernel : decode cX6_copyOf 27 = .ok (.getfield 15, 3)) hU ha1 (by decide) rfl (by decide) ?_
  refine pr_iconst hC (0) (by decide +kernel : decode cX6_copyOf 30 = .ok (.iconst 0, 1)) rfl ?_
  refine pr_aload_n hC (by decide +kernel : decode cX6_copyOf 31 = .ok (.aload_n 0, 1)) rfl ?_
  refine pu_g1 hC fg_X6_15 (by decide +kernel : decode cX6_copyOf 32 = .ok (.getfield 15, 3)) hU ho (by decide) rfl (by decide) ?_
  refine pr_iconst hC (0) (by decide +kernel : decode cX6_copyOf 35 = .ok (.iconst 0, 1)) rfl ?_
  refine pr_aload_n hC (by decide +kernel : decode cX6_copyOf 36 = .ok (.aload_n 0, 1)) rfl ?_
  refine pu_g1 hC fg_X6_15 (by decide +kernel : decode cX6_copyOf 37 = .ok (.getfield 15, 3)) hU ho (by decide) rfl (by decide) ?_
  refine pu_len1 hC (by decide +kernel : decode cX6_copyOf 40 = .ok (.arraylength, 1)) hU ho rfl (v := 48) rfl ?_
  refine pv_copyi hC hR (Nat.le_of_ble_eq_true rfl) fa_X6_53 (by decide +kernel : decode cX6_copyOf 41 = .ok (.invokestatic 53, 3)) hU ha1 ho rfl rfl H.1 (fun U_3 h e_U_3 hU => ?_)
  replace H := H.2 U_3 e_U_3
  refine pr_aload_n hC (by decide +kernel : decode cX6_copyOf 44 = .ok (.aload_n 1, 1)) rfl ?_
  refine pu_g1 hC fg_X6_18 (by decide +kernel : decode cX6_copyOf 45 = .ok (.getfield 18, 3)) hU ha1 (by decide) rfl (by decide) ?_
  refine pr_iconst hC (0) (by decide +kernel : decode cX6_copyOf 48 = .ok (.iconst 0, 1)) rfl ?_
  refine pr_aload_n hC (by decide +kernel : decode cX6_copyOf 49 = .ok (.aload_n 0, 1)) rfl ?_
  refine pu_g1 hC fg_X6_18 (by decide +kernel : decode cX6_copyOf 50 = .ok (.getfield 18, 3)) hU ho (by decide) rfl (by decide) ?_
  refine pr_iconst hC (0) (by decide +kernel : decode cX6_copyOf 53 = .ok (.iconst 0, 1)) rfl ?_
  refine pr_aload_n hC (by decide +kernel : decode cX6_copyOf 54 = .ok (.aload_n 0, 1)) rfl ?_
  refine pu_g1 hC fg_X6_18 (by decide +kernel : decode cX6_copyOf 55 = .ok (.getfield 18, 3)) hU ho (by decide) rfl (by decide) ?_
  refine pu_len1 hC (by decide +kernel : decode cX6_copyOf 58 = .ok (.arraylength, 1)) hU ho rfl (v := 10) rfl ?_
  refine pv_copyi hC hR (Nat.le_of_ble_eq_true rfl) fa_X6_53 (by decide +kernel : decode cX6_copyOf 59 = .ok (.invokestatic 53, 3)) hU ha1 ho rfl rfl H.1 (fun U_4 h e_U_4 hU => ?_)
  replace H := H.2 U_4 e_U_4
  refine pr_aload_n hC (by decide +kernel : decode cX6_copyOf 62 = .ok (.aload_n 1, 1)) rfl ?_
  refine pu_g1 hC fg_X6_21 (by decide +kernel : decode cX6_copyOf 63 = .ok (.getfield 21, 3)) hU ha1 (by decide) rfl (by decide) ?_
  refine pr_iconst hC (0) (by decide +kernel : decode cX6_copyOf 66 = .ok (.iconst 0, 1)) rfl ?_
  refine pr_aload_n hC (by decide +kernel : decode cX6_copyOf 67 = .ok (.aload_n 0, 1)) rfl ?_
  refine pu_g1 hC fg_X6_21 (by decide +kernel : decode cX6_copyOf 68 = .ok (.getfield 21, 3)) hU ho (by decide) rfl (by decide) ?_
  refine pr_iconst hC (0) (by decide +kernel : decode cX6_copyOf 71 = .ok (.iconst 0, 1)) rfl ?_
  refine pr_aload_n hC (by decide +kernel : decode cX6_copyOf 72 = .ok (.aload_n 0, 1)) rfl ?_
  refine pu_g1 hC fg_X6_21 (by decide +kernel : decode cX6_copyOf 73 = .ok (.getfield 21, 3)) hU ho (by decide) rfl (by decide) ?_
  refine pu_len3 hC (by decide +kernel : decode cX6_copyOf 76 = .ok (.arraylength, 1)) hU ho rfl (v := 10) rfl ?_
  refine pv_copyf hC hR (Nat.le_of_ble_eq_true rfl) fa_X6_53 (by decide +kernel : decode cX6_copyOf 77 = .ok (.invokestatic 53, 3)) hU ha1 ho rfl rfl H.1 (fun U_5 h e_U_5 hU => ?_)
  replace H := H.2 U_5 e_U_5
  refine pr_aload_n hC (by decide +kernel : decode cX6_copyOf 80 = .ok (.aload_n 1, 1)) rfl ?_
  refine pu_g1 hC fg_X6_25 (by decide +kernel : decode cX6_copyOf 81 = .ok (.getfield 25, 3)) hU ha1 (by decide) rfl (by decide) ?_
  refine pr_iconst hC (0) (by decide +kernel : decode cX6_copyOf 84 = .ok (.iconst 0, 1)) rfl ?_
  refine pr_aload_n hC (by decide +kernel : decode cX6_copyOf 85 = .ok (.aload_n 0, 1)) rfl ?_
  refine pu_g1 hC fg_X6_25 (by decide +kernel : decode cX6_copyOf 86 = .ok (.getfield 25, 3)) hU ho (by decide) rfl (by decide) ?_
  refine pr_iconst hC (0) (by decide +kernel : decode cX6_copyOf 89 = .ok (.iconst 0, 1)) rfl ?_
  refine pr_aload_n hC (by decide +kernel : decode cX6_copyOf 90 = .ok (.aload_n 0, 1)) rfl ?_
  refine pu_g1 hC fg_X6_25 (by decide +kernel : decode cX6_copyOf 91 = .ok (.getfield 25, 3)) hU ho (by decide) rfl (by decide) ?_
  refine pu_len1 hC (by decide +kernel : decode cX6_copyOf 94 = .ok (.arraylength, 1)) hU ho rfl (v := 10) rfl ?_
  refine pv_copyi hC hR (Nat.le_of_ble_eq_true rfl) fa_X6_53 (by decide +kernel : decode cX6_copyOf 95 = .ok (.invokestatic 53, 3)) hU ha1 ho rfl rfl H.1 (fun U_6 h e_U_6 hU => ?_)
  replace H := H.2 U_6 e_U_6
  refine pr_aload_n hC (by decide +kernel : decode cX6_copyOf 98 = .ok (.aload_n 1, 1)) rfl ?_
  refine pu_g1 hC fg_X6_28 (by decide +kernel : decode cX6_copyOf 99 = .ok (.getfield 28, 3)) hU ha1 (by decide) rfl (by decide) ?_
  refine pr_iconst hC (0) (by decide +kernel : decode cX6_copyOf 102 = .ok (.iconst 0, 1)) rfl ?_
  refine pr_aload_n hC (by decide +kernel : decode cX6_copyOf 103 = .ok (.aload_n 0, 1)) rfl ?_
  refine pu_g1 hC fg_X6_28 (by decide +kernel : decode cX6_copyOf 104 = .ok (.getfield 28, 3)) hU ho (by decide) rfl (by decide) ?_
  refine pr_iconst hC (0) (by decide +kernel : decode cX6_copyOf 107 = .ok (.iconst 0, 1)) rfl ?_
  refine pr_aload_n hC (by decide +kernel : decode cX6_copyOf 108 = .ok (.aload_n 0, 1)) rfl ?_
  refine pu_g1 hC fg_X6_28 (by decide +kernel : decode cX6_copyOf 109 = .ok (.getfield 28, 3)) hU ho (by decide) rfl (by decide) ?_
  refine pu_len1 hC (by decide +kernel : decode cX6_copyOf 112 = .ok (.arraylength, 1)) hU ho rfl (v := 10) rfl ?_
  refine pv_copyi hC hR (Nat.le_of_ble_eq_true rfl) fa_X6_53 (by decide +kernel : decode cX6_copyOf 113 = .ok (.invokestatic 53, 3)) hU ha1 ho rfl rfl H.1 (fun U_7 h e_U_7 hU => ?_)
  replace H := H.2 U_7 e_U_7
  exact pv_vret hM (by decide +kernel : decode cX6_copyOf 116 = .ok (.return_, 1)) hU H
def b_X6_takenCount_L4 (o0 : Nat) (post : Int32 → Um → Prop) (k_30 : Int32 → Um → Prop) (rec_ : Int32 → Int32 → Um → Prop) (x1 : Int32) (x2 : Int32) (U : Um) : Prop :=
  w_X6_officials o0 U (fun r_2 U_1 => (r_2 ≤ x2 → k_30 x1 U_1) ∧ (¬ r_2 ≤ x2 → vp_in x2 10 ∧ w_J6_bitCount_0f7a4 (uA U_1 o0 7 (Int32.toNatClampNeg x2)) U_1 (fun r_4 U_3 => ∀ (x1_5 : Int32), x1_5 = x1 + r_4 → ∀ (x2_6 : Int32), x2_6 = x2 + 1 → rec_ x1_5 x2_6 U_3)))
def w_X6_takenCount_L4 (o0 : Nat) (post : Int32 → Um → Prop) (k_30 : Int32 → Um → Prop) (n_ : Nat) : Int32 → Int32 → Um → Prop := Nat.rec (motive := fun _ => Int32 → Int32 → Um → Prop) (fun _ _ _ => False) (fun _ ih => b_X6_takenCount_L4 o0 post k_30 ih) n_
def w_X6_takenCount (o : Nat) (U : Um) (post : Int32 → Um → Prop) : Prop :=
  (∃ n_9, w_X6_takenCount_L4 o post (fun x1_7 U_8 => post x1_7 U_8) n_9 0 0 U)
set_option maxHeartbeats 4000000 in
theorem tl_X6_takenCount_L4 {l : Launch} {Y : px_Y} {X : px_X} {h0 hh : pe_H} {sz : Nat} (o0 : Nat) (post : Int32 → Um → Prop) (k_30 : Int32 → Um → Prop) (ho0 : oc o0 = 5)  (hC : px_C X Y.1 (pm_A hh sz) cX6_takenCount RX6 3) (hM : px_M l X Y.1 hh sz yX6_takenCount cX6_takenCount 3 (some (.int)) 1 0 0) (hR : X.2.2.2.1 = pm_rm 1 0 0) (hk_30 : ∀ (y1 : Int32) (U : Um) (h : pe_H), k_30 y1 U → rF Y h0 U h → pw X Y.1 (pm_A hh sz) (pm_E X Y.1 hh sz 0 0 (pm_P Y h0 sz (pq_i post))) 30 [none, some (.int y1), none] [] h sz 0 0) : ∀ (n_ : Nat) (x1 : Int32) (x2 : Int32) (U : Um) (h : pe_H), rF Y h0 U h → w_X6_takenCount_L4 o0 post k_30 n_ x1 x2 U → pw X Y.1 (pm_A hh sz) (pm_E X Y.1 hh sz 0 0 (pm_P Y h0 sz (pq_i post))) 4 [some (.ref (Y.2.1 o0)), some (.int x1), some (.int x2)] [] h sz 0 0 := by
  intro n_
  induction n_ with
  | zero => intro x1 x2 U h hU H; exact False.elim H
  | succ n_ ih =>
    intro x1 x2 U h hU H
    replace H : b_X6_takenCount_L4 o0 post k_30 (w_X6_takenCount_L4 o0 post k_30 n_) x1 x2 U := H
    unfold b_X6_takenCount_L4 at H
    refine pr_iload_n hC (by decide +kernel : decode cX6_takenCount 4 = .ok (.iload_n 2, 1)) rfl ?_
    refine pr_aload_n hC (by decide +kernel : decode cX6_takenCount 5 = .ok (.aload_n 0, 1)) rfl ?_
    refine vc_Vi hC hR [] fv_X6_75 (by decide +kernel : decode cX6_takenCount 6 = .ok (.invokevirtual 75, 3)) hU (t_X6_officials ho0 H) ho0 (by decide) rfl rfl rfl (Nat.le_of_ble_eq_true rfl) (Nat.le_of_ble_eq_true rfl) (Nat.le_refl 0) (Nat.le_refl 0) (fun r_2 U_1 h H hU => ?_)
    refine pr_icmp_ge hC 30 (by decide +kernel : decode cX6_takenCount 9 = .ok (.if_icmp .ge 21, 3)) (by decide) (fun c_9 => ?_) (fun c_9 => ?_)
    · replace H := H.1 c_9
      exact pv_sub [none, some (.int x1), none] (And.intro rfl trivial) (hk_30 _ U_1 h H hU)
    replace H := H.2 c_9
    refine pr_iload_n hC (by decide +kernel : decode cX6_takenCount 12 = .ok (.iload_n 1, 1)) rfl ?_
    refine pr_aload_n hC (by decide +kernel : decode cX6_takenCount 13 = .ok (.aload_n 0, 1)) rfl ?_
    refine pu_g1 hC fg_X6_28 (by decide +kernel : decode cX6_takenCount 14 = .ok (.getfield 28, 3)) hU ho0 (by decide) rfl (by decide) ?_
    refine pr_iload_n hC (by decide +kernel : decode cX6_takenCount 17 = .ok (.iload_n 2, 1)) rfl ?_
    refine pu_iald hC (by decide +kernel : decode cX6_takenCount 18 = .ok (.iaload, 1)) hU ho0 rfl H.1 ?_
    replace H := H.2
    refine vc_Si hC hR [.int (uA U_1 o0 7 (Int32.toNatClampNeg x2))] fv_X6_79 (by decide +kernel : decode cX6_takenCount 19 = .ok (.invokestatic 79, 3)) hU (t_J6_bitCount_0f7a4  H) rfl rfl (Nat.le_of_ble_eq_true rfl) (Nat.le_of_ble_eq_true rfl) (Nat.le_refl 0) (Nat.le_refl 0) (fun r_4 U_3 h H hU => ?_)
    refine pr_iadd hC (by decide +kernel : decode cX6_takenCount 22 = .ok (.iadd, 1)) ?_
    refine pv_topi (fun x1_5 e_x1_5 => ?_)
    replace H := H x1_5 e_x1_5
    refine pr_istore_n hC (by decide +kernel : decode cX6_takenCount 23 = .ok (.istore_n 1, 1)) (by decide) rfl ?_
    refine pv_iinc hC (v := x2 + 1) (by decide +kernel : decode cX6_takenCount 24 = .ok (.iinc 2 1, 3)) rfl (by decide) rfl rfl (fun x2_6 e_x2_6 => ?_)
    replace H := H x2_6 e_x2_6
    refine pr_goto hC 4 (by decide +kernel : decode cX6_takenCount 27 = .ok (.goto (-23), 3)) (by decide) ?_
    exact pv_sub [some (.ref (Y.2.1 o0)), some (.int x1_5), some (.int x2_6)] (And.intro rfl (And.intro rfl (And.intro rfl trivial))) (ih _ _ U_3 h hU H)
set_option maxHeartbeats 4000000 in
theorem t_X6_takenCount {l : Launch} {Y : px_Y} {o : Nat} {U : Um} {post : Int32 → Um → Prop} (ho : oc o = 5) (H : w_X6_takenCount o U post) : um l Y 1 yX6_takenCount cX6_takenCount 3 (some (.int)) [.ref (Y.2.1 o)] U (pq_i post) := by
  unfold w_X6_takenCount at H
  refine um_of (by decide) (Nat.le_of_ble_eq_true rfl) [some (.ref (Y.2.1 o)), none, none] rfl (fun X h0 hh sz hM hU => ?_)
  have hC := hM.1
  have hR := hM.2.2.1
  refine pr_iconst hC (0) (by decide +kernel : decode cX6_takenCount 0 = .ok (.iconst 0, 1)) rfl ?_
  refine pr_istore_n hC (by decide +kernel : decode cX6_takenCount 1 = .ok (.istore_n 1, 1)) (by decide) rfl ?_
  refine pr_iconst hC (0) (by decide +kernel : decode cX6_takenCount 2 = .ok (.iconst 0, 1)) rfl ?_
  refine pr_istore_n hC (by decide +kernel : decode cX6_takenCount 3 = .ok (.istore_n 2, 1)) (by decide) rfl ?_
  obtain ⟨n_9, H⟩ := H
  refine pv_sub [some (.ref (Y.2.1 o)), some (.int 0), some (.int 0)] (And.intro rfl (And.intro rfl (And.intro rfl trivial))) ?_
  refine tl_X6_takenCount_L4 _ _ _ ho hC hM hR (fun x1_7 U_8 h H hU => ?_) n_9 _ _ U hh hU H
  refine pr_iload_n hC (by decide +kernel : decode cX6_takenCount 30 = .ok (.iload_n 1, 1)) rfl ?_
  exact pv_iret hM (by decide +kernel : decode cX6_takenCount 31 = .ok (.ireturn, 1)) hU H
def w_X6_trade (o : Nat) (a1 : Int32) (a2 : Int32) (a3 : Int32) (a4 : Int32) (U : Um) (post : Um → Prop) : Prop :=
  w_X9_placeOf a1 a2 U (fun r_2 U_1 => vp_in r_2 48 ∧ ∀ (x5_3 : Int32), x5_3 = uA U_1 o 2 (Int32.toNatClampNeg r_2) → w_X9_placeOf a3 a4 U_1 (fun r_5 U_4 => vp_in r_5 48 ∧ ∀ (x6_6 : Int32), x6_6 = uA U_4 o 2 (Int32.toNatClampNeg r_5) → w_X6_rise o a1 a2 U_4 (fun U_7 => w_X6_rise o a3 a4 U_7 (fun U_9 => w_X6_sit o a3 a4 x5_3 U_9 (fun U_11 => w_X6_sit o a1 a2 x6_6 U_11 (fun U_13 => post U_13))))))
set_option maxHeartbeats 4000000 in
theorem t_X6_trade {l : Launch} {Y : px_Y} {o : Nat} {a1 : Int32} {a2 : Int32} {a3 : Int32} {a4 : Int32} {U : Um} {post : Um → Prop} (ho : oc o = 5) (H : w_X6_trade o a1 a2 a3 a4 U post) : um l Y 2 yX6_trade cX6_trade 7 none [.ref (Y.2.1 o), .int a1, .int a2, .int a3, .int a4] U (pq_v post) := by
  unfold w_X6_trade at H
  refine um_of (by decide) (Nat.le_of_ble_eq_true rfl) [some (.ref (Y.2.1 o)), some (.int a1), some (.int a2), some (.int a3), some (.int a4), none, none] rfl (fun X h0 hh sz hM hU => ?_)
  have hC := hM.1
  have hR := hM.2.2.1
  refine pr_aload_n hC (by decide +kernel : decode cX6_trade 0 = .ok (.aload_n 0, 1)) rfl ?_
  refine pu_g1 hC fg_X6_9 (by decide +kernel : decode cX6_trade 1 = .ok (.getfield 9, 3)) hU ho (by decide) rfl (by decide) ?_
  refine pr_iload_n hC (by decide +kernel : decode cX6_trade 4 = .ok (.iload_n 1, 1)) rfl ?_
  refine pr_iload_n hC (by decide +kernel : decode cX6_trade 5 = .ok (.iload_n 2, 1)) rfl ?_
  refine vc_Si hC hR [.int a1, .int a2] fv_X6_71 (by decide +kernel : decode cX6_trade 6 = .ok (.invokestatic 71, 3)) hU (t_X9_placeOf  H) rfl rfl (Nat.le_of_ble_eq_true rfl) (Nat.le_of_ble_eq_true rfl) (Nat.le_refl 0) (Nat.le_refl 0) (fun r_2 U_1 h H hU => ?_)
  refine pu_iald hC (by decide +kernel : decode cX6_trade 9 = .ok (.iaload, 1)) hU ho rfl H.1 ?_
  replace H := H.2
  refine pv_topi (fun x5_3 e_x5_3 => ?_)
  replace H := H x5_3 e_x5_3
  refine pr_istore hC (by decide +kernel : decode cX6_trade 10 = .ok (.istore 5, 2)) (by decide) rfl ?_
  refine pr_aload_n hC (by decide +kernel : decode cX6_trade 12 = .ok (.aload_n 0, 1)) rfl ?_
  refine pu_g1 hC fg_X6_9 (by decide +kernel : decode cX6_trade 13 = .ok (.getfield 9, 3)) hU ho (by decide) rfl (by decide) ?_
  refine pr_iload_n hC (by decide +kernel : decode cX6_trade 16 = .ok (.iload_n 3, 1)) rfl ?_
  refine pr_iload hC (by decide +kernel : decode cX6_trade 17 = .ok (.iload 4, 2)) rfl ?_
  refine vc_Si hC hR [.int a3, .int a4] fv_X6_71 (by decide +kernel : decode cX6_trade 19 = .ok (.invokestatic 71, 3)) hU (t_X9_placeOf  H) rfl rfl (Nat.le_of_ble_eq_true rfl) (Nat.le_of_ble_eq_true rfl) (Nat.le_refl 0) (Nat.le_refl 0) (fun r_5 U_4 h H hU => ?_)
  refine pu_iald hC (by decide +kernel : decode cX6_trade 22 = .ok (.iaload, 1)) hU ho rfl H.1 ?_
  replace H := H.2
  refine pv_topi (fun x6_6 e_x6_6 => ?_)
  replace H := H x6_6 e_x6_6
  refine pr_istore hC (by decide +kernel : decode cX6_trade 23 = .ok (.istore 6, 2)) (by decide) rfl ?_
  refine pr_aload_n hC (by decide +kernel : decode cX6_trade 25 = .ok (.aload_n 0, 1)) rfl ?_
  refine pr_iload_n hC (by decide +kernel : decode cX6_trade 26 = .ok (.iload_n 1, 1)) rfl ?_
  refine pr_iload_n hC (by decide +kernel : decode cX6_trade 27 = .ok (.iload_n 2, 1)) rfl ?_
  refine vc_Vv hC hR [.int a1, .int a2] fv_X6_149 (by decide +kernel : decode cX6_trade 28 = .ok (.invokevirtual 149, 3)) hU (t_X6_rise ho H) ho (by decide) rfl rfl rfl (Nat.le_of_ble_eq_true rfl) (Nat.le_of_ble_eq_true rfl) (Nat.le_refl 0) (Nat.le_refl 0) (fun U_7 h H hU => ?_)
  refine pr_aload_n hC (by decide +kernel : decode cX6_trade 31 = .ok (.aload_n 0, 1)) rfl ?_
  refine pr_iload_n hC (by decide +kernel : decode cX6_trade 32 = .ok (.iload_n 3, 1)) rfl ?_
  refine pr_iload hC (by decide +kernel : decode cX6_trade 33 = .ok (.iload 4, 2)) rfl ?_
  refine vc_Vv hC hR [.int a3, .int a4] fv_X6_149 (by decide +kernel : decode cX6_trade 35 = .ok (.invokevirtual 149, 3)) hU (t_X6_rise ho H) ho (by decide) rfl rfl rfl (Nat.le_of_ble_eq_true rfl) (Nat.le_of_ble_eq_true rfl) (Nat.le_refl 0) (Nat.le_refl 0) (fun U_9 h H hU => ?_)
  refine pr_aload_n hC (by decide +kernel : decode cX6_trade 38 = .ok (.aload_n 0, 1)) rfl ?_
  refine pr_iload_n hC (by decide +kernel : decode cX6_trade 39 = .ok (.iload_n 3, 1)) rfl ?_
  refine pr_iload hC (by decide +kernel : decode cX6_trade 40 = .ok (.iload 4, 2)) rfl ?_
  refine pr_iload hC (by decide +kernel : decode cX6_trade 42 = .ok (.iload 5, 2)) rfl ?_
  refine vc_Vv hC hR [.int a3, .int a4, .int x5_3] fv_X6_153 (by decide +kernel : decode cX6_trade 44 = .ok (.invokevirtual 153, 3)) hU (t_X6_sit ho H) ho (by decide) rfl rfl rfl (Nat.le_of_ble_eq_true rfl) (Nat.le_of_ble_eq_true rfl) (Nat.le_refl 0) (Nat.le_refl 0) (fun U_11 h H hU => ?_)
  refine pr_aload_n hC (by decide +kernel : decode cX6_trade 47 = .ok (.aload_n 0, 1)) rfl ?_
  refine pr_iload_n hC (by decide +kernel : decode cX6_trade 48 = .ok (.iload_n 1, 1)) rfl ?_
  refine pr_iload_n hC (by decide +kernel : decode cX6_trade 49 = .ok (.iload_n 2, 1)) rfl ?_
  refine pr_iload hC (by decide +kernel : decode cX6_trade 50 = .ok (.iload 6, 2)) rfl ?_
  refine vc_Vv hC hR [.int a1, .int a2, .int x6_6] fv_X6_153 (by decide +kernel : decode cX6_trade 52 = .ok (.invokevirtual 153, 3)) hU (t_X6_sit ho H) ho (by decide) rfl rfl rfl (Nat.le_of_ble_eq_true rfl) (Nat.le_of_ble_eq_true rfl) (Nat.le_refl 0) (Nat.le_refl 0) (fun U_13 h H hU => ?_)
  exact pv_vret hM (by decide +kernel : decode cX6_trade 55 = .ok (.return_, 1)) hU H
def b_X6_payOfAll_L20 (o0 : Nat) (x1 : Int32) (x4 : Int32) (post : Int64 → Um → Prop) (k_111 : Int64 → Um → Prop) (rec_ : Int64 → Int32 → Um → Prop) (x2 : Int64) (x5 : Int32) (U : Um) : Prop :=
  oc (uR U o0 0) = 8 ∧ vp_in x4 16 ∧ oc (uAR U (uR U o0 0) 6 (Int32.toNatClampNeg x4)) = 1 ∧ ((uI U (uAR U (uR U o0 0) 6 (Int32.toNatClampNeg x4)) 7) ≤ x5 → k_111 x2 U) ∧ (¬ (uI U (uAR U (uR U o0 0) 6 (Int32.toNatClampNeg x4)) 7) ≤ x5 → w_X9_placeOf x4 x5 U (fun r_6 U_5 => vp_in r_6 48 ∧ ∀ (x6_7 : Int32), x6_7 = uA U_5 o0 2 (Int32.toNatClampNeg r_6) → (∀ K_8 : Int64 → Um → Prop, (∀ (xs_9 : Int64) (U_10 : Um), (((lg_cmp xs_9 (-9223372036854775808)) = 0 → ∀ (x2_11 : Int64), x2_11 = x2 + 0 → ∀ (x5_12 : Int32), x5_12 = x5 + 1 → rec_ x2_11 x5_12 U_10) ∧ (¬ (lg_cmp xs_9 (-9223372036854775808)) = 0 → ∀ (x2_13 : Int64), x2_13 = x2 + xs_9 → ∀ (x5_14 : Int32), x5_14 = x5 + 1 → rec_ x2_13 x5_14 U_10)) → K_8 xs_9 U_10) → (x6_7 = (-1) → K_8 (-9223372036854775808) U_5) ∧ (¬ x6_7 = (-1) → (∀ K_15 : Prop, ((w_X6_pay o0 x4 x5 x6_7 U_5 (fun r_17 U_16 => K_8 r_17 U_16)) → K_15 ) → (x1 = (-1) → K_15) ∧ (¬ x1 = (-1) → (x1 = x6_7 → K_15) ∧ (¬ x1 = x6_7 → K_8 (-9223372036854775808) U_5)))))))
def w_X6_payOfAll_L20 (o0 : Nat) (x1 : Int32) (x4 : Int32) (post : Int64 → Um → Prop) (k_111 : Int64 → Um → Prop) (n_ : Nat) : Int64 → Int32 → Um → Prop := Nat.rec (motive := fun _ => Int64 → Int32 → Um → Prop) (fun _ _ _ => False) (fun _ ih => b_X6_payOfAll_L20 o0 x1 x4 post k_111 ih) n_
def b_X6_payOfAll_L5 (o0 : Nat) (x1 : Int32) (post : Int64 → Um → Prop) (k_117 : Int64 → Um → Prop) (rec_ : Int64 → Int32 → Um → Prop) (x2 : Int64) (x4 : Int32) (U : Um) : Prop :=
  oc (uR U o0 0) = 8 ∧ ((uI U (uR U o0 0) 7) ≤ x4 → k_117 x2 U) ∧ (¬ (uI U (uR U o0 0) 7) ≤ x4 → (∃ n_21, w_X6_payOfAll_L20 o0 x1 x4 post (fun x2_18 U_19 => ∀ (x4_20 : Int32), x4_20 = x4 + 1 → rec_ x2_18 x4_20 U_19) n_21 x2 0 U))
def w_X6_payOfAll_L5 (o0 : Nat) (x1 : Int32) (post : Int64 → Um → Prop) (k_117 : Int64 → Um → Prop) (n_ : Nat) : Int64 → Int32 → Um → Prop := Nat.rec (motive := fun _ => Int64 → Int32 → Um → Prop) (fun _ _ _ => False) (fun _ ih => b_X6_payOfAll_L5 o0 x1 post k_117 ih) n_
def w_X6_payOfAll (o : Nat) (a1 : Int32) (U : Um) (post : Int64 → Um → Prop) : Prop :=
  (∃ n_24, w_X6_payOfAll_L5 o a1 post (fun x2_22 U_23 => post x2_22 U_23) n_24 0 0 U)
set_option maxHeartbeats 4000000 in
theorem tl_X6_payOfAll_L20 {l : Launch} {Y : px_Y} {X : px_X} {h0 hh : pe_H} {sz : Nat} (o0 : Nat) (x1 : Int32) (x4 : Int32) (post : Int64 → Um → Prop) (k_111 : Int64 → Um → Prop) (ho0 : oc o0 = 5)  (hC : px_C X Y.1 (pm_A hh sz) cX6_payOfAll RX6 9) (hM : px_M l X Y.1 hh sz yX6_payOfAll cX6_payOfAll 9 (some (.long)) 4 0 0) (hR : X.2.2.2.1 = pm_rm 4 0 0) (hk_111 : ∀ (y2 : Int64) (U : Um) (h : pe_H), k_111 y2 U → rF Y h0 U h → pw X Y.1 (pm_A hh sz) (pm_E X Y.1 hh sz 0 0 (pm_P Y h0 sz (pq_l post))) 111 [some (.ref (Y.2.1 o0)), some (.int x1), some (.long y2), none, some (.int x4), none, none, none, none] [] h sz 0 0) : ∀ (n_ : Nat) (x2 : Int64) (x5 : Int32) (U : Um) (h : pe_H), rF Y h0 U h → w_X6_payOfAll_L20 o0 x1 x4 post k_111 n_ x2 x5 U → pw X Y.1 (pm_A hh sz) (pm_E X Y.1 hh sz 0 0 (pm_P Y h0 sz (pq_l post))) 20 [some (.ref (Y.2.1 o0)), some (.int x1), some (.long x2), none, some (.int x4), some (.int x5), none, none, none] [] h sz 0 0 := by
  intro n_
  induction n_ with
  | zero => intro x2 x5 U h hU H; exact False.elim H
  | succ n_ ih =>
    intro x2 x5 U h hU H
    replace H : b_X6_payOfAll_L20 o0 x1 x4 post k_111 (w_X6_payOfAll_L20 o0 x1 x4 post k_111 n_) x2 x5 U := H
    unfold b_X6_payOfAll_L20 at H
    refine pr_iload hC (by decide +kernel : decode cX6_payOfAll 20 = .ok (.iload 5, 2)) rfl ?_
    refine pr_aload_n hC (by decide +kernel : decode cX6_payOfAll 22 = .ok (.aload_n 0, 1)) rfl ?_
    refine pu_g21 hC fg_X6_41 (by decide +kernel : decode cX6_payOfAll 23 = .ok (.getfield 41, 3)) hU ho0 (by decide) rfl rfl ?_
    have q_2 := H.1
    replace H := H.2
    refine pu_g1 hC fg_X6_62 (by decide +kernel : decode cX6_payOfAll 26 = .ok (.getfield 62, 3)) hU q_2 (by decide) rfl (by decide) ?_
    refine pr_iload hC (by decide +kernel : decode cX6_payOfAll 29 = .ok (.iload 4, 2)) rfl ?_
    have q_3 := H.1
    replace H := H.2
    refine pu_aald8 hC (by decide +kernel : decode cX6_payOfAll 31 = .ok (.aaload, 1)) hU q_2 rfl q_3 ?_
    have q_4 := H.1
    replace H := H.2
    refine pu_g0 hC fg_X6_189 (by decide +kernel : decode cX6_payOfAll 32 = .ok (.getfield 189, 3)) hU q_4 (by decide) rfl rfl ?_
    refine pr_icmp_ge hC 111 (by decide +kernel : decode cX6_payOfAll 35 = .ok (.if_icmp .ge 76, 3)) (by decide) (fun c_35 => ?_) (fun c_35 => ?_)
    · replace H := H.1 c_35
      exact pv_sub [some (.ref (Y.2.1 o0)), some (.int x1), some (.long x2), none, some (.int x4), none, none, none, none] (And.intro rfl (And.intro rfl (And.intro rfl (And.intro rfl trivial)))) (hk_111 _ U h H hU)
    replace H := H.2 c_35
    refine pr_aload_n hC (by decide +kernel : decode cX6_payOfAll 38 = .ok (.aload_n 0, 1)) rfl ?_
    refine pu_g1 hC fg_X6_9 (by decide +kernel : decode cX6_payOfAll 39 = .ok (.getfield 9, 3)) hU ho0 (by decide) rfl (by decide) ?_
    refine pr_iload hC (by decide +kernel : decode cX6_payOfAll 42 = .ok (.iload 4, 2)) rfl ?_
    refine pr_iload hC (by decide +kernel : decode cX6_payOfAll 44 = .ok (.iload 5, 2)) rfl ?_
    refine vc_Si hC hR [.int x4, .int x5] fv_X6_71 (by decide +kernel : decode cX6_payOfAll 46 = .ok (.invokestatic 71, 3)) hU (t_X9_placeOf  H) rfl rfl (Nat.le_of_ble_eq_true rfl) (Nat.le_of_ble_eq_true rfl) (Nat.le_refl 0) (Nat.le_refl 0) (fun r_6 U_5 h H hU => ?_)
    refine pu_iald hC (by decide +kernel : decode cX6_payOfAll 49 = .ok (.iaload, 1)) hU ho0 rfl H.1 ?_
    replace H := H.2
    refine pv_topi (fun x6_7 e_x6_7 => ?_)
    replace H := H x6_7 e_x6_7
    refine pr_istore hC (by decide +kernel : decode cX6_payOfAll 50 = .ok (.istore 6, 2)) (by decide) rfl ?_
    refine pr_iload hC (by decide +kernel : decode cX6_payOfAll 52 = .ok (.iload 6, 2)) rfl ?_
    refine pr_iconst hC (-1) (by decide +kernel : decode cX6_payOfAll 54 = .ok (.iconst (-1), 1)) rfl ?_
    replace H := H (fun xs_9 U_10 => ∀ h : pe_H, rF Y h0 U_10 h → pw X Y.1 (pm_A hh sz) (pm_E X Y.1 hh sz 0 0 (pm_P Y h0 sz (pq_l post))) 85 [some (.ref (Y.2.1 o0)), some (.int x1), some (.long x2), none, some (.int x4), some (.int x5), none, none, none] [.long xs_9] h sz 0 0) (by
      intro xs_9 U_10 H h hU
      refine pr_lstore hC (by decide +kernel : decode cX6_payOfAll 85 = .ok (.lstore 7, 2)) (by decide) rfl ?_
      refine pr_lload_n hC (by decide +kernel : decode cX6_payOfAll 87 = .ok (.lload_n 2, 1)) rfl ?_
      refine pr_lload hC (by decide +kernel : decode cX6_payOfAll 88 = .ok (.lload 7, 2)) rfl ?_
      refine pr_ldc2 hC (-9223372036854775808) (by decide +kernel : decode cX6_payOfAll 90 = .ok (.ldc2_w 196, 3)) fk_X6_196 ?_
      refine pr_lcmp hC (by decide +kernel : decode cX6_payOfAll 93 = .ok (.lcmp, 1)) ?_
      refine pr_if_ne hC 101 (by decide +kernel : decode cX6_payOfAll 94 = .ok (.ifCond .ne 7, 3)) (by decide) (fun c_94 => ?_) (fun c_94 => ?_)
      · replace H := H.2 c_94
        refine pr_lload hC (by decide +kernel : decode cX6_payOfAll 101 = .ok (.lload 7, 2)) rfl ?_
        refine pr_ladd hC (by decide +kernel : decode cX6_payOfAll 103 = .ok (.ladd, 1)) ?_
        refine pv_topl (fun x2_13 e_x2_13 => ?_)
        replace H := H x2_13 e_x2_13
        refine pr_lstore_n hC (by decide +kernel : decode cX6_payOfAll 104 = .ok (.lstore_n 2, 1)) (by decide) rfl ?_
        refine pv_iinc hC (v := x5 + 1) (by decide +kernel : decode cX6_payOfAll 105 = .ok (.iinc 5 1, 3)) rfl (by decide) rfl rfl (fun x5_14 e_x5_14 => ?_)
        replace H := H x5_14 e_x5_14
        refine pr_goto hC 20 (by decide +kernel : decode cX6_payOfAll 108 = .ok (.goto (-88), 3)) (by decide) ?_
        exact pv_sub [some (.ref (Y.2.1 o0)), some (.int x1), some (.long x2_13), none, some (.int x4), some (.int x5_14), none, none, none] (And.intro rfl (And.intro rfl (And.intro rfl (And.intro rfl (And.intro rfl trivial))))) (ih _ _ U_10 h hU H)
      replace H := H.1 c_94
      refine pr_lconst hC (0) (by decide +kernel : decode cX6_payOfAll 97 = .ok (.lconst 0, 1)) rfl ?_
      refine pr_goto hC 103 (by decide +kernel : decode cX6_payOfAll 98 = .ok (.goto 5, 3)) (by decide) ?_
      refine pr_ladd hC (by decide +kernel : decode cX6_payOfAll 103 = .ok (.ladd, 1)) ?_
      refine pv_topl (fun x2_11 e_x2_11 => ?_)
      replace H := H x2_11 e_x2_11
      refine pr_lstore_n hC (by decide +kernel : decode cX6_payOfAll 104 = .ok (.lstore_n 2, 1)) (by decide) rfl ?_
      refine pv_iinc hC (v := x5 + 1) (by decide +kernel : decode cX6_payOfAll 105 = .ok (.iinc 5 1, 3)) rfl (by decide) rfl rfl (fun x5_12 e_x5_12 => ?_)
      replace H := H x5_12 e_x5_12
      refine pr_goto hC 20 (by decide +kernel : decode cX6_payOfAll 108 = .ok (.goto (-88), 3)) (by decide) ?_
      exact pv_sub [some (.ref (Y.2.1 o0)), some (.int x1), some (.long x2_11), none, some (.int x4), some (.int x5_12), none, none, none] (And.intro rfl (And.intro rfl (And.intro rfl (And.intro rfl (And.intro rfl trivial))))) (ih _ _ U_10 h hU H))
    refine pr_icmp_eq hC 82 (by decide +kernel : decode cX6_payOfAll 55 = .ok (.if_icmp .eq 27, 3)) (by decide) (fun c_55 => ?_) (fun c_55 => ?_)
    · replace H := H.1 c_55
      refine pr_ldc2 hC (-9223372036854775808) (by decide +kernel : decode cX6_payOfAll 82 = .ok (.ldc2_w 196, 3)) fk_X6_196 ?_
      exact pv_sub [some (.ref (Y.2.1 o0)), some (.int x1), some (.long x2), none, some (.int x4), some (.int x5), none, none, none] (And.intro rfl (And.intro rfl (And.intro rfl (And.intro rfl (And.intro rfl trivial))))) (H h hU)
    replace H := H.2 c_55
    refine pr_iload_n hC (by decide +kernel : decode cX6_payOfAll 58 = .ok (.iload_n 1, 1)) rfl ?_
    refine pr_iconst hC (-1) (by decide +kernel : decode cX6_payOfAll 59 = .ok (.iconst (-1), 1)) rfl ?_
    replace H := H (pw X Y.1 (pm_A hh sz) (pm_E X Y.1 hh sz 0 0 (pm_P Y h0 sz (pq_l post))) 69 [some (.ref (Y.2.1 o0)), some (.int x1), some (.long x2), none, some (.int x4), some (.int x5), some (.int x6_7), none, none] [] h sz 0 0) (by
      intro  H
      refine pr_aload_n hC (by decide +kernel : decode cX6_payOfAll 69 = .ok (.aload_n 0, 1)) rfl ?_
      refine pr_iload hC (by decide +kernel : decode cX6_payOfAll 70 = .ok (.iload 4, 2)) rfl ?_
      refine pr_iload hC (by decide +kernel : decode cX6_payOfAll 72 = .ok (.iload 5, 2)) rfl ?_
      refine pr_iload hC (by decide +kernel : decode cX6_payOfAll 74 = .ok (.iload 6, 2)) rfl ?_
      refine vc_Vl hC hR [.int x4, .int x5, .int x6_7] fv_X6_192 (by decide +kernel : decode cX6_payOfAll 76 = .ok (.invokevirtual 192, 3)) hU (t_X6_pay ho0 H) ho0 (by decide) rfl rfl rfl (Nat.le_of_ble_eq_true rfl) (Nat.le_of_ble_eq_true rfl) (Nat.le_refl 0) (Nat.le_refl 0) (fun r_17 U_16 h H hU => ?_)
      refine pr_goto hC 85 (by decide +kernel : decode cX6_payOfAll 79 = .ok (.goto 6, 3)) (by decide) ?_
      exact pv_sub [some (.ref (Y.2.1 o0)), some (.int x1), some (.long x2), none, some (.int x4), some (.int x5), none, none, none] (And.intro rfl (And.intro rfl (And.intro rfl (And.intro rfl (And.intro rfl trivial))))) (H h hU))
    refine pr_icmp_eq hC 69 (by decide +kernel : decode cX6_payOfAll 60 = .ok (.if_icmp .eq 9, 3)) (by decide) (fun c_60 => ?_) (fun c_60 => ?_)
    · replace H := H.1 c_60
      exact pv_sub [some (.ref (Y.2.1 o0)), some (.int x1), some (.long x2), none, some (.int x4), some (.int x5), some (.int x6_7), none, none] (And.intro rfl (And.intro rfl (And.intro rfl (And.intro rfl (And.intro rfl (And.intro rfl trivial)))))) (H )
    replace H := H.2 c_60
    refine pr_iload_n hC (by decide +kernel : decode cX6_payOfAll 63 = .ok (.iload_n 1, 1)) rfl ?_
    refine pr_iload hC (by decide +kernel : decode cX6_payOfAll 64 = .ok (.iload 6, 2)) rfl ?_
    refine pr_icmp_ne hC 82 (by decide +kernel : decode cX6_payOfAll 66 = .ok (.if_icmp .ne 16, 3)) (by decide) (fun c_66 => ?_) (fun c_66 => ?_)
    · replace H := H.2 c_66
      refine pr_ldc2 hC (-9223372036854775808) (by decide +kernel : decode cX6_payOfAll 82 = .ok (.ldc2_w 196, 3)) fk_X6_196 ?_
      exact pv_sub [some (.ref (Y.2.1 o0)), some (.int x1), some (.long x2), none, some (.int x4), some (.int x5), none, none, none] (And.intro rfl (And.intro rfl (And.intro rfl (And.intro rfl (And.intro rfl trivial))))) (H h hU)
    replace H := H.1 c_66
    exact pv_sub [some (.ref (Y.2.1 o0)), some (.int x1), some (.long x2), none, some (.int x4), some (.int x5), some (.int x6_7), none, none] (And.intro rfl (And.intro rfl (And.intro rfl (And.intro rfl (And.intro rfl (And.intro rfl trivial)))))) (H )
set_option maxHeartbeats 4000000 in
theorem tl_X6_payOfAll_L5 {l : Launch} {Y : px_Y} {X : px_X} {h0 hh : pe_H} {sz : Nat} (o0 : Nat) (x1 : Int32) (post : Int64 → Um → Prop) (k_117 : Int64 → Um → Prop) (ho0 : oc o0 = 5)  (hC : px_C X Y.1 (pm_A hh sz) cX6_payOfAll RX6 9) (hM : px_M l X Y.1 hh sz yX6_payOfAll cX6_payOfAll 9 (some (.long)) 4 0 0) (hR : X.2.2.2.1 = pm_rm 4 0 0) (hk_117 : ∀ (y2 : Int64) (U : Um) (h : pe_H), k_117 y2 U → rF Y h0 U h → pw X Y.1 (pm_A hh sz) (pm_E X Y.1 hh sz 0 0 (pm_P Y h0 sz (pq_l post))) 117 [none, none, some (.long y2), none, none, none, none, none, none] [] h sz 0 0) : ∀ (n_ : Nat) (x2 : Int64) (x4 : Int32) (U : Um) (h : pe_H), rF Y h0 U h → w_X6_payOfAll_L5 o0 x1 post k_117 n_ x2 x4 U → pw X Y.1 (pm_A hh sz) (pm_E X Y.1 hh sz 0 0 (pm_P Y h0 sz (pq_l post))) 5 [some (.ref (Y.2.1 o0)), some (.int x1), some (.long x2), none, some (.int x4), none, none, none, none] [] h sz 0 0 := by
  intro n_
  induction n_ with
  | zero => intro x2 x4 U h hU H; exact False.elim H
  | succ n_ ih =>
    intro x2 x4 U h hU H
    replace H : b_X6_payOfAll_L5 o0 x1 post k_117 (w_X6_payOfAll_L5 o0 x1 post k_117 n_) x2 x4 U := H
    unfold b_X6_payOfAll_L5 at H
    refine pr_iload hC (by decide +kernel : decode cX6_payOfAll 5 = .ok (.iload 4, 2)) rfl ?_
    refine pr_aload_n hC (by decide +kernel : decode cX6_payOfAll 7 = .ok (.aload_n 0, 1)) rfl ?_
    refine pu_g21 hC fg_X6_41 (by decide +kernel : decode cX6_payOfAll 8 = .ok (.getfield 41, 3)) hU ho0 (by decide) rfl rfl ?_
    have q_1 := H.1
    replace H := H.2
    refine pu_g0 hC fg_X6_157 (by decide +kernel : decode cX6_payOfAll 11 = .ok (.getfield 157, 3)) hU q_1 (by decide) rfl rfl ?_
    refine pr_icmp_ge hC 117 (by decide +kernel : decode cX6_payOfAll 14 = .ok (.if_icmp .ge 103, 3)) (by decide) (fun c_14 => ?_) (fun c_14 => ?_)
    · replace H := H.1 c_14
      exact pv_sub [none, none, some (.long x2), none, none, none, none, none, none] (And.intro rfl trivial) (hk_117 _ U h H hU)
    replace H := H.2 c_14
    refine pr_iconst hC (0) (by decide +kernel : decode cX6_payOfAll 17 = .ok (.iconst 0, 1)) rfl ?_
    refine pr_istore hC (by decide +kernel : decode cX6_payOfAll 18 = .ok (.istore 5, 2)) (by decide) rfl ?_
    obtain ⟨n_21, H⟩ := H
    refine pv_sub [some (.ref (Y.2.1 o0)), some (.int x1), some (.long x2), none, some (.int x4), some (.int 0), none, none, none] (And.intro rfl (And.intro rfl (And.intro rfl (And.intro rfl (And.intro rfl trivial))))) ?_
    refine tl_X6_payOfAll_L20 _ _ _ _ _ ho0 hC hM hR (fun x2_18 U_19 h H hU => ?_) n_21 _ _ U h hU H
    refine pv_iinc hC (v := x4 + 1) (by decide +kernel : decode cX6_payOfAll 111 = .ok (.iinc 4 1, 3)) rfl (by decide) rfl rfl (fun x4_20 e_x4_20 => ?_)
    replace H := H x4_20 e_x4_20
    refine pr_goto hC 5 (by decide +kernel : decode cX6_payOfAll 114 = .ok (.goto (-109), 3)) (by decide) ?_
    exact pv_sub [some (.ref (Y.2.1 o0)), some (.int x1), some (.long x2_18), none, some (.int x4_20), none, none, none, none] (And.intro rfl (And.intro rfl (And.intro rfl (And.intro rfl trivial)))) (ih _ _ U_19 h hU H)
set_option maxHeartbeats 4000000 in
theorem t_X6_payOfAll {l : Launch} {Y : px_Y} {o : Nat} {a1 : Int32} {U : Um} {post : Int64 → Um → Prop} (ho : oc o = 5) (H : w_X6_payOfAll o a1 U post) : um l Y 4 yX6_payOfAll cX6_payOfAll 9 (some (.long)) [.ref (Y.2.1 o), .int a1] U (pq_l post) := by
  unfold w_X6_payOfAll at H
  refine um_of (by decide) (Nat.le_of_ble_eq_true rfl) [some (.ref (Y.2.1 o)), some (.int a1), none, none, none, none, none, none, none] rfl (fun X h0 hh sz hM hU => ?_)
  have hC := hM.1
  have hR := hM.2.2.1
  refine pr_lconst hC (0) (by decide +kernel : decode cX6_payOfAll 0 = .ok (.lconst 0, 1)) rfl ?_
  refine pr_lstore_n hC (by decide +kernel : decode cX6_payOfAll 1 = .ok (.lstore_n 2, 1)) (by decide) rfl ?_
  refine pr_iconst hC (0) (by decide +kernel : decode cX6_payOfAll 2 = .ok (.iconst 0, 1)) rfl ?_
  refine pr_istore hC (by decide +kernel : decode cX6_payOfAll 3 = .ok (.istore 4, 2)) (by decide) rfl ?_
  obtain ⟨n_24, H⟩ := H
  refine pv_sub [some (.ref (Y.2.1 o)), some (.int a1), some (.long 0), none, some (.int 0), none, none, none, none] (And.intro rfl (And.intro rfl (And.intro rfl (And.intro rfl trivial)))) ?_
  refine tl_X6_payOfAll_L5 _ _ _ _ ho hC hM hR (fun x2_22 U_23 h H hU => ?_) n_24 _ _ U hh hU H
  refine pr_lload_n hC (by decide +kernel : decode cX6_payOfAll 117 = .ok (.lload_n 2, 1)) rfl ?_
  exact pv_lret hM (by decide +kernel : decode cX6_payOfAll 118 = .ok (.lreturn, 1)) hU H
def b_X6_unsoundPlace_L18 (o0 : Nat) (x1 : Int32) (x3 : Int32) (post : Int32 → Um → Prop) (k_100 : Int32 → Um → Prop) (rec_ : Int32 → Int32 → Um → Prop) (x2 : Int32) (x4 : Int32) (U : Um) : Prop :=
  oc (uR U o0 0) = 8 ∧ vp_in x3 16 ∧ oc (uAR U (uR U o0 0) 6 (Int32.toNatClampNeg x3)) = 1 ∧ ((uI U (uAR U (uR U o0 0) 6 (Int32.toNatClampNeg x3)) 7) ≤ x4 → k_100 x2 U) ∧ (¬ (uI U (uAR U (uR U o0 0) 6 (Int32.toNatClampNeg x3)) 7) ≤ x4 → w_X9_placeOf x3 x4 U (fun r_6 U_5 => vp_in r_6 48 ∧ ∀ (x6_7 : Int32), x6_7 = uA U_5 o0 2 (Int32.toNatClampNeg r_6) → (x6_7 = (-1) → ∀ (x4_8 : Int32), x4_8 = x4 + 1 → rec_ x2 x4_8 U_5) ∧ (¬ x6_7 = (-1) → vp_in x6_7 10 ∧ w_X6_hindrance o0 x3 x4 x6_7 ((uA U_5 o0 7 (Int32.toNatClampNeg x6_7)) &&& (((1 : Int32) <<< (x3 &&& 31)) ^^^ (-1))) U_5 (fun r_10 U_9 => (r_10 = 0 → ∀ (x4_11 : Int32), x4_11 = x4 + 1 → rec_ x2 x4_11 U_9) ∧ (¬ r_10 = 0 → (x2 = x1 → post r_6 U_9) ∧ (¬ x2 = x1 → ∀ (x2_12 : Int32), x2_12 = x2 + 1 → ∀ (x4_13 : Int32), x4_13 = x4 + 1 → rec_ x2_12 x4_13 U_9))))))
def w_X6_unsoundPlace_L18 (o0 : Nat) (x1 : Int32) (x3 : Int32) (post : Int32 → Um → Prop) (k_100 : Int32 → Um → Prop) (n_ : Nat) : Int32 → Int32 → Um → Prop := Nat.rec (motive := fun _ => Int32 → Int32 → Um → Prop) (fun _ _ _ => False) (fun _ ih => b_X6_unsoundPlace_L18 o0 x1 x3 post k_100 ih) n_
def b_X6_unsoundPlace_L4 (o0 : Nat) (x1 : Int32) (post : Int32 → Um → Prop) (k_106 : Int32 → Um → Prop) (rec_ : Int32 → Int32 → Um → Prop) (x2 : Int32) (x3 : Int32) (U : Um) : Prop :=
  oc (uR U o0 0) = 8 ∧ ((uI U (uR U o0 0) 7) ≤ x3 → k_106 x2 U) ∧ (¬ (uI U (uR U o0 0) 7) ≤ x3 → (∃ n_17, w_X6_unsoundPlace_L18 o0 x1 x3 post (fun x2_14 U_15 => ∀ (x3_16 : Int32), x3_16 = x3 + 1 → rec_ x2_14 x3_16 U_15) n_17 x2 0 U))
def w_X6_unsoundPlace_L4 (o0 : Nat) (x1 : Int32) (post : Int32 → Um → Prop) (k_106 : Int32 → Um → Prop) (n_ : Nat) : Int32 → Int32 → Um → Prop := Nat.rec (motive := fun _ => Int32 → Int32 → Um → Prop) (fun _ _ _ => False) (fun _ ih => b_X6_unsoundPlace_L4 o0 x1 post k_106 ih) n_
def w_X6_unsoundPlace (o : Nat) (a1 : Int32) (U : Um) (post : Int32 → Um → Prop) : Prop :=
  (∃ n_20, w_X6_unsoundPlace_L4 o a1 post (fun x2_18 U_19 => (a1 = (-1) → post x2_18 U_19) ∧ (¬ a1 = (-1) → post (-1) U_19)) n_20 0 0 U)
set_option maxHeartbeats 4000000 in
theorem tl_X6_unsoundPlace_L18 {l : Launch} {Y : px_Y} {X : px_X} {h0 hh : pe_H} {sz : Nat} (o0 : Nat) (x1 : Int32) (x3 : Int32) (post : Int32 → Um → Prop) (k_100 : Int32 → Um → Prop) (ho0 : oc o0 = 5)  (hC : px_C X Y.1 (pm_A hh sz) cX6_unsoundPlace RX6 7) (hM : px_M l X Y.1 hh sz yX6_unsoundPlace cX6_unsoundPlace 7 (some (.int)) 2 0 0) (hR : X.2.2.2.1 = pm_rm 2 0 0) (hk_100 : ∀ (y2 : Int32) (U : Um) (h : pe_H), k_100 y2 U → rF Y h0 U h → pw X Y.1 (pm_A hh sz) (pm_E X Y.1 hh sz 0 0 (pm_P Y h0 sz (pq_i post))) 100 [some (.ref (Y.2.1 o0)), some (.int x1), some (.int y2), some (.int x3), none, none, none] [] h sz 0 0) : ∀ (n_ : Nat) (x2 : Int32) (x4 : Int32) (U : Um) (h : pe_H), rF Y h0 U h → w_X6_unsoundPlace_L18 o0 x1 x3 post k_100 n_ x2 x4 U → pw X Y.1 (pm_A hh sz) (pm_E X Y.1 hh sz 0 0 (pm_P Y h0 sz (pq_i post))) 18 [some (.ref (Y.2.1 o0)), some (.int x1), some (.int x2), some (.int x3), some (.int x4), none, none] [] h sz 0 0 := by
  intro n_
  induction n_ with
  | zero => intro x2 x4 U h hU H; exact False.elim H
  | succ n_ ih =>
    intro x2 x4 U h hU H
    replace H : b_X6_unsoundPlace_L18 o0 x1 x3 post k_100 (w_X6_unsoundPlace_L18 o0 x1 x3 post k_100 n_) x2 x4 U := H
    unfold b_X6_unsoundPlace_L18 at H
    refine pr_iload hC (by decide +kernel : decode cX6_unsoundPlace 18 = .ok (.iload 4, 2)) rfl ?_
    refine pr_aload_n hC (by decide +kernel : decode cX6_unsoundPlace 20 = .ok (.aload_n 0, 1)) rfl ?_
    refine pu_g21 hC fg_X6_41 (by decide +kernel : decode cX6_unsoundPlace 21 = .ok (.getfield 41, 3)) hU ho0 (by decide) rfl rfl ?_
    have q_2 := H.1
    replace H := H.2
    refine pu_g1 hC fg_X6_62 (by decide +kernel : decode cX6_unsoundPlace 24 = .ok (.getfield 62, 3)) hU q_2 (by decide) rfl (by decide) ?_
    refine pr_iload_n hC (by decide +kernel : decode cX6_unsoundPlace 27 = .ok (.iload_n 3, 1)) rfl ?_
    have q_3 := H.1
    replace H := H.2
    refine pu_aald8 hC (by decide +kernel : decode cX6_unsoundPlace 28 = .ok (.aaload, 1)) hU q_2 rfl q_3 ?_
    have q_4 := H.1
    replace H := H.2
    refine pu_g0 hC fg_X6_189 (by decide +kernel : decode cX6_unsoundPlace 29 = .ok (.getfield 189, 3)) hU q_4 (by decide) rfl rfl ?_
    refine pr_icmp_ge hC 100 (by decide +kernel : decode cX6_unsoundPlace 32 = .ok (.if_icmp .ge 68, 3)) (by decide) (fun c_32 => ?_) (fun c_32 => ?_)
    · replace H := H.1 c_32
      exact pv_sub [some (.ref (Y.2.1 o0)), some (.int x1), some (.int x2), some (.int x3), none, none, none] (And.intro rfl (And.intro rfl (And.intro rfl (And.intro rfl trivial)))) (hk_100 _ U h H hU)
    replace H := H.2 c_32
    refine pr_iload_n hC (by decide +kernel : decode cX6_unsoundPlace 35 = .ok (.iload_n 3, 1)) rfl ?_
    refine pr_iload hC (by decide +kernel : decode cX6_unsoundPlace 36 = .ok (.iload 4, 2)) rfl ?_
    refine vc_Si hC hR [.int x3, .int x4] fv_X6_71 (by decide +kernel : decode cX6_unsoundPlace 38 = .ok (.invokestatic 71, 3)) hU (t_X9_placeOf  H) rfl rfl (Nat.le_of_ble_eq_true rfl) (Nat.le_of_ble_eq_true rfl) (Nat.le_refl 0) (Nat.le_refl 0) (fun r_6 U_5 h H hU => ?_)
    refine pr_istore hC (by decide +kernel : decode cX6_unsoundPlace 41 = .ok (.istore 5, 2)) (by decide) rfl ?_
    refine pr_aload_n hC (by decide +kernel : decode cX6_unsoundPlace 43 = .ok (.aload_n 0, 1)) rfl ?_
    refine pu_g1 hC fg_X6_9 (by decide +kernel : decode cX6_unsoundPlace 44 = .ok (.getfield 9, 3)) hU ho0 (by decide) rfl (by decide) ?_
    refine pr_iload hC (by decide +kernel : decode cX6_unsoundPlace 47 = .ok (.iload 5, 2)) rfl ?_
    refine pu_iald hC (by decide +kernel : decode cX6_unsoundPlace 49 = .ok (.iaload, 1)) hU ho0 rfl H.1 ?_
    replace H := H.2
    refine pv_topi (fun x6_7 e_x6_7 => ?_)
    replace H := H x6_7 e_x6_7
    refine pr_istore hC (by decide +kernel : decode cX6_unsoundPlace 50 = .ok (.istore 6, 2)) (by decide) rfl ?_
    refine pr_iload hC (by decide +kernel : decode cX6_unsoundPlace 52 = .ok (.iload 6, 2)) rfl ?_
    refine pr_iconst hC (-1) (by decide +kernel : decode cX6_unsoundPlace 54 = .ok (.iconst (-1), 1)) rfl ?_
    refine pr_icmp_eq hC 94 (by decide +kernel : decode cX6_unsoundPlace 55 = .ok (.if_icmp .eq 39, 3)) (by decide) (fun c_55 => ?_) (fun c_55 => ?_)
    · replace H := H.1 c_55
      refine pv_iinc hC (v := x4 + 1) (by decide +kernel : decode cX6_unsoundPlace 94 = .ok (.iinc 4 1, 3)) rfl (by decide) rfl rfl (fun x4_8 e_x4_8 => ?_)
      replace H := H x4_8 e_x4_8
      refine pr_goto hC 18 (by decide +kernel : decode cX6_unsoundPlace 97 = .ok (.goto (-79), 3)) (by decide) ?_
      exact pv_sub [some (.ref (Y.2.1 o0)), some (.int x1), some (.int x2), some (.int x3), some (.int x4_8), none, none] (And.intro rfl (And.intro rfl (And.intro rfl (And.intro rfl (And.intro rfl trivial))))) (ih _ _ U_5 h hU H)
    replace H := H.2 c_55
    refine pr_aload_n hC (by decide +kernel : decode cX6_unsoundPlace 58 = .ok (.aload_n 0, 1)) rfl ?_
    refine pr_iload_n hC (by decide +kernel : decode cX6_unsoundPlace 59 = .ok (.iload_n 3, 1)) rfl ?_
    refine pr_iload hC (by decide +kernel : decode cX6_unsoundPlace 60 = .ok (.iload 4, 2)) rfl ?_
    refine pr_iload hC (by decide +kernel : decode cX6_unsoundPlace 62 = .ok (.iload 6, 2)) rfl ?_
    refine pr_aload_n hC (by decide +kernel : decode cX6_unsoundPlace 64 = .ok (.aload_n 0, 1)) rfl ?_
    refine pu_g1 hC fg_X6_28 (by decide +kernel : decode cX6_unsoundPlace 65 = .ok (.getfield 28, 3)) hU ho0 (by decide) rfl (by decide) ?_
    refine pr_iload hC (by decide +kernel : decode cX6_unsoundPlace 68 = .ok (.iload 6, 2)) rfl ?_
    refine pu_iald hC (by decide +kernel : decode cX6_unsoundPlace 70 = .ok (.iaload, 1)) hU ho0 rfl H.1 ?_
    replace H := H.2
    refine pr_iconst hC (1) (by decide +kernel : decode cX6_unsoundPlace 71 = .ok (.iconst 1, 1)) rfl ?_
    refine pr_iload_n hC (by decide +kernel : decode cX6_unsoundPlace 72 = .ok (.iload_n 3, 1)) rfl ?_
    refine pr_ishl hC (by decide +kernel : decode cX6_unsoundPlace 73 = .ok (.ishl, 1)) ?_
    refine pr_iconst hC (-1) (by decide +kernel : decode cX6_unsoundPlace 74 = .ok (.iconst (-1), 1)) rfl ?_
    refine pr_ixor hC (by decide +kernel : decode cX6_unsoundPlace 75 = .ok (.ixor, 1)) ?_
    refine pr_iand hC (by decide +kernel : decode cX6_unsoundPlace 76 = .ok (.iand, 1)) ?_
    refine vc_Vi hC hR [.int x3, .int x4, .int x6_7, .int ((uA U_5 o0 7 (Int32.toNatClampNeg x6_7)) &&& (((1 : Int32) <<< (x3 &&& 31)) ^^^ (-1)))] fv_X6_96 (by decide +kernel : decode cX6_unsoundPlace 77 = .ok (.invokevirtual 96, 3)) hU (t_X6_hindrance ho0 H) ho0 (by decide) rfl rfl rfl (Nat.le_of_ble_eq_true rfl) (Nat.le_of_ble_eq_true rfl) (Nat.le_refl 0) (Nat.le_refl 0) (fun r_10 U_9 h H hU => ?_)
    refine pr_if_eq hC 94 (by decide +kernel : decode cX6_unsoundPlace 80 = .ok (.ifCond .eq 14, 3)) (by decide) (fun c_80 => ?_) (fun c_80 => ?_)
    · replace H := H.1 c_80
      refine pv_iinc hC (v := x4 + 1) (by decide +kernel : decode cX6_unsoundPlace 94 = .ok (.iinc 4 1, 3)) rfl (by decide) rfl rfl (fun x4_11 e_x4_11 => ?_)
      replace H := H x4_11 e_x4_11
      refine pr_goto hC 18 (by decide +kernel : decode cX6_unsoundPlace 97 = .ok (.goto (-79), 3)) (by decide) ?_
      exact pv_sub [some (.ref (Y.2.1 o0)), some (.int x1), some (.int x2), some (.int x3), some (.int x4_11), none, none] (And.intro rfl (And.intro rfl (And.intro rfl (And.intro rfl (And.intro rfl trivial))))) (ih _ _ U_9 h hU H)
    replace H := H.2 c_80
    refine pr_iload_n hC (by decide +kernel : decode cX6_unsoundPlace 83 = .ok (.iload_n 2, 1)) rfl ?_
    refine pr_iload_n hC (by decide +kernel : decode cX6_unsoundPlace 84 = .ok (.iload_n 1, 1)) rfl ?_
    refine pr_icmp_ne hC 91 (by decide +kernel : decode cX6_unsoundPlace 85 = .ok (.if_icmp .ne 6, 3)) (by decide) (fun c_85 => ?_) (fun c_85 => ?_)
    · replace H := H.2 c_85
      refine pv_iinc hC (v := x2 + 1) (by decide +kernel : decode cX6_unsoundPlace 91 = .ok (.iinc 2 1, 3)) rfl (by decide) rfl rfl (fun x2_12 e_x2_12 => ?_)
      replace H := H x2_12 e_x2_12
      refine pv_iinc hC (v := x4 + 1) (by decide +kernel : decode cX6_unsoundPlace 94 = .ok (.iinc 4 1, 3)) rfl (by decide) rfl rfl (fun x4_13 e_x4_13 => ?_)
      replace H := H x4_13 e_x4_13
      refine pr_goto hC 18 (by decide +kernel : decode cX6_unsoundPlace 97 = .ok (.goto (-79), 3)) (by decide) ?_
      exact pv_sub [some (.ref (Y.2.1 o0)), some (.int x1), some (.int x2_12), some (.int x3), some (.int x4_13), none, none] (And.intro rfl (And.intro rfl (And.intro rfl (And.intro rfl (And.intro rfl trivial))))) (ih _ _ U_9 h hU H)
    replace H := H.1 c_85
    refine pr_iload hC (by decide +kernel : decode cX6_unsoundPlace 88 = .ok (.iload 5, 2)) rfl ?_
    exact pv_iret hM (by decide +kernel : decode cX6_unsoundPlace 90 = .ok (.ireturn, 1)) hU H
set_option maxHeartbeats 4000000 in
theorem tl_X6_unsoundPlace_L4 {l : Launch} {Y : px_Y} {X : px_X} {h0 hh : pe_H} {sz : Nat} (o0 : Nat) (x1 : Int32) (post : Int32 → Um → Prop) (k_106 : Int32 → Um → Prop) (ho0 : oc o0 = 5)  (hC : px_C X Y.1 (pm_A hh sz) cX6_unsoundPlace RX6 7) (hM : px_M l X Y.1 hh sz yX6_unsoundPlace cX6_unsoundPlace 7 (some (.int)) 2 0 0) (hR : X.2.2.2.1 = pm_rm 2 0 0) (hk_106 : ∀ (y2 : Int32) (U : Um) (h : pe_H), k_106 y2 U → rF Y h0 U h → pw X Y.1 (pm_A hh sz) (pm_E X Y.1 hh sz 0 0 (pm_P Y h0 sz (pq_i post))) 106 [none, some (.int x1), some (.int y2), none, none, none, none] [] h sz 0 0) : ∀ (n_ : Nat) (x2 : Int32) (x3 : Int32) (U : Um) (h : pe_H), rF Y h0 U h → w_X6_unsoundPlace_L4 o0 x1 post k_106 n_ x2 x3 U → pw X Y.1 (pm_A hh sz) (pm_E X Y.1 hh sz 0 0 (pm_P Y h0 sz (pq_i post))) 4 [some (.ref (Y.2.1 o0)), some (.int x1), some (.int x2), some (.int x3), none, none, none] [] h sz 0 0 := by
  intro n_
  induction n_ with
  | zero => intro x2 x3 U h hU H; exact False.elim H
  | succ n_ ih =>
    intro x2 x3 U h hU H
    replace H : b_X6_unsoundPlace_L4 o0 x1 post k_106 (w_X6_unsoundPlace_L4 o0 x1 post k_106 n_) x2 x3 U := H
    unfold b_X6_unsoundPlace_L4 at H
    refine pr_iload_n hC (by decide +kernel : decode cX6_unsoundPlace 4 = .ok (.iload_n 3, 1)) rfl ?_
    refine pr_aload_n hC (by decide +kernel : decode cX6_unsoundPlace 5 = .ok (.aload_n 0, 1)) rfl ?_
    refine pu_g21 hC fg_X6_41 (by decide +kernel : decode cX6_unsoundPlace 6 = .ok (.getfield 41, 3)) hU ho0 (by decide) rfl rfl ?_
    have q_1 := H.1
    replace H := H.2
    refine pu_g0 hC fg_X6_157 (by decide +kernel : decode cX6_unsoundPlace 9 = .ok (.getfield 157, 3)) hU q_1 (by decide) rfl rfl ?_
    refine pr_icmp_ge hC 106 (by decide +kernel : decode cX6_unsoundPlace 12 = .ok (.if_icmp .ge 94, 3)) (by decide) (fun c_12 => ?_) (fun c_12 => ?_)
    · replace H := H.1 c_12
      exact pv_sub [none, some (.int x1), some (.int x2), none, none, none, none] (And.intro rfl (And.intro rfl trivial)) (hk_106 _ U h H hU)
    replace H := H.2 c_12
    refine pr_iconst hC (0) (by decide +kernel : decode cX6_unsoundPlace 15 = .ok (.iconst 0, 1)) rfl ?_
    refine pr_istore hC (by decide +kernel : decode cX6_unsoundPlace 16 = .ok (.istore 4, 2)) (by decide) rfl ?_
    obtain ⟨n_17, H⟩ := H
    refine pv_sub [some (.ref (Y.2.1 o0)), some (.int x1), some (.int x2), some (.int x3), some (.int 0), none, none] (And.intro rfl (And.intro rfl (And.intro rfl (And.intro rfl (And.intro rfl trivial))))) ?_
    refine tl_X6_unsoundPlace_L18 _ _ _ _ _ ho0 hC hM hR (fun x2_14 U_15 h H hU => ?_) n_17 _ _ U h hU H
    refine pv_iinc hC (v := x3 + 1) (by decide +kernel : decode cX6_unsoundPlace 100 = .ok (.iinc 3 1, 3)) rfl (by decide) rfl rfl (fun x3_16 e_x3_16 => ?_)
    replace H := H x3_16 e_x3_16
    refine pr_goto hC 4 (by decide +kernel : decode cX6_unsoundPlace 103 = .ok (.goto (-99), 3)) (by decide) ?_
    exact pv_sub [some (.ref (Y.2.1 o0)), some (.int x1), some (.int x2_14), some (.int x3_16), none, none, none] (And.intro rfl (And.intro rfl (And.intro rfl (And.intro rfl trivial)))) (ih _ _ U_15 h hU H)
set_option maxHeartbeats 4000000 in
theorem t_X6_unsoundPlace {l : Launch} {Y : px_Y} {o : Nat} {a1 : Int32} {U : Um} {post : Int32 → Um → Prop} (ho : oc o = 5) (H : w_X6_unsoundPlace o a1 U post) : um l Y 2 yX6_unsoundPlace cX6_unsoundPlace 7 (some (.int)) [.ref (Y.2.1 o), .int a1] U (pq_i post) := by
  unfold w_X6_unsoundPlace at H
  refine um_of (by decide) (Nat.le_of_ble_eq_true rfl) [some (.ref (Y.2.1 o)), some (.int a1), none, none, none, none, none] rfl (fun X h0 hh sz hM hU => ?_)
  have hC := hM.1
  have hR := hM.2.2.1
  refine pr_iconst hC (0) (by decide +kernel : decode cX6_unsoundPlace 0 = .ok (.iconst 0, 1)) rfl ?_
  refine pr_istore_n hC (by decide +kernel : decode cX6_unsoundPlace 1 = .ok (.istore_n 2, 1)) (by decide) rfl ?_
  refine pr_iconst hC (0) (by decide +kernel : decode cX6_unsoundPlace 2 = .ok (.iconst 0, 1)) rfl ?_
  refine pr_istore_n hC (by decide +kernel : decode cX6_unsoundPlace 3 = .ok (.istore_n 3, 1)) (by decide) rfl ?_
  obtain ⟨n_20, H⟩ := H
  refine pv_sub [some (.ref (Y.2.1 o)), some (.int a1), some (.int 0), some (.int 0), none, none, none] (And.intro rfl (And.intro rfl (And.intro rfl (And.intro rfl trivial)))) ?_
  refine tl_X6_unsoundPlace_L4 _ _ _ _ ho hC hM hR (fun x2_18 U_19 h H hU => ?_) n_20 _ _ U hh hU H
  refine pr_iload_n hC (by decide +kernel : decode cX6_unsoundPlace 106 = .ok (.iload_n 1, 1)) rfl ?_
  refine pr_iconst hC (-1) (by decide +kernel : decode cX6_unsoundPlace 107 = .ok (.iconst (-1), 1)) rfl ?_
  refine pr_icmp_ne hC 115 (by decide +kernel : decode cX6_unsoundPlace 108 = .ok (.if_icmp .ne 7, 3)) (by decide) (fun c_108 => ?_) (fun c_108 => ?_)
  · replace H := H.2 c_108
    refine pr_iconst hC (-1) (by decide +kernel : decode cX6_unsoundPlace 115 = .ok (.iconst (-1), 1)) rfl ?_
    exact pv_iret hM (by decide +kernel : decode cX6_unsoundPlace 116 = .ok (.ireturn, 1)) hU H
  replace H := H.1 c_108
  refine pr_iload_n hC (by decide +kernel : decode cX6_unsoundPlace 111 = .ok (.iload_n 2, 1)) rfl ?_
  refine pr_goto hC 116 (by decide +kernel : decode cX6_unsoundPlace 112 = .ok (.goto 4, 3)) (by decide) ?_
  exact pv_iret hM (by decide +kernel : decode cX6_unsoundPlace 116 = .ok (.ireturn, 1)) hU H
def w_X6_minuteAtHome (o : Nat) (a1 : Int32) (a2 : Nat) (a3 : Int32) (U : Um) (post : Int32 → Um → Prop) : Prop :=
  oc (uR U o 0) = 8 ∧ oc (uR U (uR U o 0) 10) = 4 ∧ oc (uR U o 0) = 8 ∧ vp_in a1 10 ∧ vp_in (uA U (uR U o 0) 3 (Int32.toNatClampNeg a1)) 6 ∧ vp_in (uI U a2 2) 6 ∧ ∀ (x4_5 : Int32), x4_5 = uA U (uR U (uR U o 0) 10) (ki 2 (Int32.toNatClampNeg (uA U (uR U o 0) 3 (Int32.toNatClampNeg a1)))) (Int32.toNatClampNeg (uI U a2 2)) → (x4_5 = (-1) → post (-10000) U) ∧ (¬ x4_5 = (-1) → (a3 = 0 → oc (uR U o 0) = 8 ∧ post (((uI U a2 4) - (uI U (uR U o 0) 8)) - x4_5) U) ∧ (¬ a3 = 0 → w_X2_ends a2 U (fun r_8 U_7 => post (r_8 + x4_5) U_7)))
set_option maxHeartbeats 4000000 in
theorem t_X6_minuteAtHome {l : Launch} {Y : px_Y} {o : Nat} {a1 : Int32} {a2 : Nat} {a3 : Int32} {U : Um} {post : Int32 → Um → Prop} (ho : oc o = 5) (ha2 : oc a2 = 1) (H : w_X6_minuteAtHome o a1 a2 a3 U post) : um l Y 1 yX6_minuteAtHome cX6_minuteAtHome 5 (some (.int)) [.ref (Y.2.1 o), .int a1, .ref (Y.2.1 a2), .int a3] U (pq_i post) := by
  unfold w_X6_minuteAtHome at H
  refine um_of (by decide) (Nat.le_of_ble_eq_true rfl) [some (.ref (Y.2.1 o)), some (.int a1), some (.ref (Y.2.1 a2)), some (.int a3), none] rfl (fun X h0 hh sz hM hU => ?_)
  have hC := hM.1
  have hR := hM.2.2.1
  refine pr_aload_n hC (by decide +kernel : decode cX6_minuteAtHome 0 = .ok (.aload_n 0, 1)) rfl ?_
  refine pu_g21 hC fg_X6_41 (by decide +kernel : decode cX6_minuteAtHome 1 = .ok (.getfield 41, 3)) hU ho (by decide) rfl rfl ?_
  have q_1 := H.1
  replace H := H.2
  refine pu_g21 hC fg_X6_124 (by decide +kernel : decode cX6_minuteAtHome 4 = .ok (.getfield 124, 3)) hU q_1 (by decide) rfl rfl ?_
  have q_2 := H.1
  replace H := H.2
  refine pu_g1 hC fg_X6_128 (by decide +kernel : decode cX6_minuteAtHome 7 = .ok (.getfield 128, 3)) hU q_2 (by decide) rfl (by decide) ?_
  refine pr_aload_n hC (by decide +kernel : decode cX6_minuteAtHome 10 = .ok (.aload_n 0, 1)) rfl ?_
  refine pu_g21 hC fg_X6_41 (by decide +kernel : decode cX6_minuteAtHome 11 = .ok (.getfield 41, 3)) hU ho (by decide) rfl rfl ?_
  have q_3 := H.1
  replace H := H.2
  refine pu_g1 hC fg_X6_134 (by decide +kernel : decode cX6_minuteAtHome 14 = .ok (.getfield 134, 3)) hU q_3 (by decide) rfl (by decide) ?_
  refine pr_iload_n hC (by decide +kernel : decode cX6_minuteAtHome 17 = .ok (.iload_n 1, 1)) rfl ?_
  refine pu_iald hC (by decide +kernel : decode cX6_minuteAtHome 18 = .ok (.iaload, 1)) hU q_3 rfl H.1 ?_
  replace H := H.2
  have q_4 := H.1
  replace H := H.2
  refine pu_aald6 hC (by decide +kernel : decode cX6_minuteAtHome 19 = .ok (.aaload, 1)) hU q_2 rfl q_4 ?_
  refine pr_aload_n hC (by decide +kernel : decode cX6_minuteAtHome 20 = .ok (.aload_n 2, 1)) rfl ?_
  refine pu_g0 hC fg_X6_137 (by decide +kernel : decode cX6_minuteAtHome 21 = .ok (.getfield 137, 3)) hU ha2 (by decide) rfl rfl ?_
  refine pu_iald7 hC (by decide +kernel : decode cX6_minuteAtHome 24 = .ok (.iaload, 1)) hU q_2 rfl (vp_lt q_4) H.1 ?_
  replace H := H.2
  refine pv_topi (fun x4_5 e_x4_5 => ?_)
  replace H := H x4_5 e_x4_5
  refine pr_istore hC (by decide +kernel : decode cX6_minuteAtHome 25 = .ok (.istore 4, 2)) (by decide) rfl ?_
  refine pr_iload hC (by decide +kernel : decode cX6_minuteAtHome 27 = .ok (.iload 4, 2)) rfl ?_
  refine pr_iconst hC (-1) (by decide +kernel : decode cX6_minuteAtHome 29 = .ok (.iconst (-1), 1)) rfl ?_
  refine pr_icmp_ne hC 37 (by decide +kernel : decode cX6_minuteAtHome 30 = .ok (.if_icmp .ne 7, 3)) (by decide) (fun c_30 => ?_) (fun c_30 => ?_)
  · replace H := H.2 c_30
    refine pr_iload_n hC (by decide +kernel : decode cX6_minuteAtHome 37 = .ok (.iload_n 3, 1)) rfl ?_
    refine pr_if_ne hC 59 (by decide +kernel : decode cX6_minuteAtHome 38 = .ok (.ifCond .ne 21, 3)) (by decide) (fun c_38 => ?_) (fun c_38 => ?_)
    · replace H := H.2 c_38
      refine pr_aload_n hC (by decide +kernel : decode cX6_minuteAtHome 59 = .ok (.aload_n 2, 1)) rfl ?_
      refine vc_Vi hC hR [] fv_X6_205 (by decide +kernel : decode cX6_minuteAtHome 60 = .ok (.invokevirtual 205, 3)) hU (t_X2_ends ha2 H) ha2 (by decide) rfl rfl rfl (Nat.le_of_ble_eq_true rfl) (Nat.le_of_ble_eq_true rfl) (Nat.le_refl 0) (Nat.le_refl 0) (fun r_8 U_7 h H hU => ?_)
      refine pr_iload hC (by decide +kernel : decode cX6_minuteAtHome 63 = .ok (.iload 4, 2)) rfl ?_
      refine pr_iadd hC (by decide +kernel : decode cX6_minuteAtHome 65 = .ok (.iadd, 1)) ?_
      exact pv_iret hM (by decide +kernel : decode cX6_minuteAtHome 66 = .ok (.ireturn, 1)) hU H
    replace H := H.1 c_38
    refine pr_aload_n hC (by decide +kernel : decode cX6_minuteAtHome 41 = .ok (.aload_n 2, 1)) rfl ?_
    refine pu_g0 hC fg_X6_182 (by decide +kernel : decode cX6_minuteAtHome 42 = .ok (.getfield 182, 3)) hU ha2 (by decide) rfl rfl ?_
    refine pr_aload_n hC (by decide +kernel : decode cX6_minuteAtHome 45 = .ok (.aload_n 0, 1)) rfl ?_
    refine pu_g21 hC fg_X6_41 (by decide +kernel : decode cX6_minuteAtHome 46 = .ok (.getfield 41, 3)) hU ho (by decide) rfl rfl ?_
    have q_6 := H.1
    replace H := H.2
    refine pu_g0 hC fg_X6_202 (by decide +kernel : decode cX6_minuteAtHome 49 = .ok (.getfield 202, 3)) hU q_6 (by decide) rfl rfl ?_
    refine pr_isub hC (by decide +kernel : decode cX6_minuteAtHome 52 = .ok (.isub, 1)) ?_
    refine pr_iload hC (by decide +kernel : decode cX6_minuteAtHome 53 = .ok (.iload 4, 2)) rfl ?_
    refine pr_isub hC (by decide +kernel : decode cX6_minuteAtHome 55 = .ok (.isub, 1)) ?_
    refine pr_goto hC 66 (by decide +kernel : decode cX6_minuteAtHome 56 = .ok (.goto 10, 3)) (by decide) ?_
    exact pv_iret hM (by decide +kernel : decode cX6_minuteAtHome 66 = .ok (.ireturn, 1)) hU H
  replace H := H.1 c_30
  refine pr_sipush hC (-10000) (by decide +kernel : decode cX6_minuteAtHome 33 = .ok (.sipush (-10000), 3)) rfl ?_
  exact pv_iret hM (by decide +kernel : decode cX6_minuteAtHome 36 = .ok (.ireturn, 1)) hU H
def b_X6_journey_L65 (o0 : Nat) (x1 : Int32) (x3 : Int32) (x4 : Int32) (post : Int32 → Um → Prop) (k_136 : Int32 → Um → Prop) (rec_ : Int32 → Int32 → Um → Prop) (x5 : Int32) (x6 : Int32) (U : Um) : Prop :=
  oc (uR U o0 0) = 8 ∧ ((uI U (uR U o0 0) 7) ≤ x6 → k_136 x5 U) ∧ (¬ (uI U (uR U o0 0) 7) ≤ x6 → oc (uR U o0 0) = 8 ∧ vp_in x6 16 ∧ ∀ (xs_9 : Int32), xs_9 = (if ((x4 >>> ((uA U (uR U o0 0) 12 (Int32.toNatClampNeg x6)) &&& 31)) &&& 1) = 0 then 0 else 1) → (xs_9 = 0 → ∀ (x6_10 : Int32), x6_10 = x6 + 1 → rec_ x5 x6_10 U) ∧ (¬ xs_9 = 0 → (∀ K_11 : Prop, ((oc (uR U o0 0) = 8 ∧ vp_in x6 16 ∧ ∀ (x5_13 : Int32), x5_13 = uA U (uR U o0 0) 12 (Int32.toNatClampNeg x6) → ∀ (x6_14 : Int32), x6_14 = x6 + 1 → rec_ x5_13 x6_14 U) → K_11 ) → (x5 = (-1) → K_11) ∧ (¬ x5 = (-1) → (x3 = 1 → K_11) ∧ (¬ x3 = 1 → ∀ (x6_15 : Int32), x6_15 = x6 + 1 → rec_ x5 x6_15 U)))))
def w_X6_journey_L65 (o0 : Nat) (x1 : Int32) (x3 : Int32) (x4 : Int32) (post : Int32 → Um → Prop) (k_136 : Int32 → Um → Prop) (n_ : Nat) : Int32 → Int32 → Um → Prop := Nat.rec (motive := fun _ => Int32 → Int32 → Um → Prop) (fun _ _ _ => False) (fun _ ih => b_X6_journey_L65 o0 x1 x3 x4 post k_136 ih) n_
def w_X6_journey (o : Nat) (a1 : Int32) (a2 : Int32) (a3 : Int32) (U : Um) (post : Int32 → Um → Prop) : Prop :=
  vp_in a1 10 ∧ oc (uR U o 0) = 8 ∧ vp_in a2 7 ∧ ∀ (x4_2 : Int32), x4_2 = (uA U o 7 (Int32.toNatClampNeg a1)) &&& (uA U (uR U o 0) 13 (Int32.toNatClampNeg a2)) → (a3 = 2 → w_X6_fieldsOf o x4_2 U (fun r_4 U_3 => post r_4 U_3)) ∧ (¬ a3 = 2 → (a3 = 3 → w_J6_bitCount_0f7a4 x4_2 U (fun r_6 U_5 => post r_6 U_5)) ∧ (¬ a3 = 3 → (a3 < 0 → post (-10000) U) ∧ (¬ a3 < 0 → ((3 : Int32) < a3 → post (-10000) U) ∧ (¬ (3 : Int32) < a3 → (x4_2 = 0 → post (-10000) U) ∧ (¬ x4_2 = 0 → (∃ n_24, w_X6_journey_L65 o a1 a3 x4_2 post (fun x5_17 U_18 => (x5_17 = (-1) → post (-10000) U_18) ∧ (¬ x5_17 = (-1) → oc (uR U_18 o 0) = 8 ∧ vp_in x5_17 16 ∧ oc (uAR U_18 (uR U_18 o 0) 6 (Int32.toNatClampNeg x5_17)) = 1 ∧ w_X6_minuteAtHome o a1 (uAR U_18 (uR U_18 o 0) 6 (Int32.toNatClampNeg x5_17)) a3 U_18 (fun r_23 U_22 => post r_23 U_22))) n_24 (-1) 0 U))))))
set_option maxHeartbeats 4000000 in
theorem tl_X6_journey_L65 {l : Launch} {Y : px_Y} {X : px_X} {h0 hh : pe_H} {sz : Nat} (o0 : Nat) (x1 : Int32) (x3 : Int32) (x4 : Int32) (post : Int32 → Um → Prop) (k_136 : Int32 → Um → Prop) (ho0 : oc o0 = 5)  (hC : px_C X Y.1 (pm_A hh sz) cX6_journey RX6 8) (hM : px_M l X Y.1 hh sz yX6_journey cX6_journey 8 (some (.int)) 2 0 0) (hR : X.2.2.2.1 = pm_rm 2 0 0) (hk_136 : ∀ (y5 : Int32) (U : Um) (h : pe_H), k_136 y5 U → rF Y h0 U h → pw X Y.1 (pm_A hh sz) (pm_E X Y.1 hh sz 0 0 (pm_P Y h0 sz (pq_i post))) 136 [some (.ref (Y.2.1 o0)), some (.int x1), none, some (.int x3), none, some (.int y5), none, none] [] h sz 0 0) : ∀ (n_ : Nat) (x5 : Int32) (x6 : Int32) (U : Um) (h : pe_H), rF Y h0 U h → w_X6_journey_L65 o0 x1 x3 x4 post k_136 n_ x5 x6 U → pw X Y.1 (pm_A hh sz) (pm_E X Y.1 hh sz 0 0 (pm_P Y h0 sz (pq_i post))) 65 [some (.ref (Y.2.1 o0)), some (.int x1), none, some (.int x3), some (.int x4), some (.int x5), some (.int x6), none] [] h sz 0 0 := by
  intro n_
  induction n_ with
  | zero => intro x5 x6 U h hU H; exact False.elim H
  | succ n_ ih =>
    intro x5 x6 U h hU H
    replace H : b_X6_journey_L65 o0 x1 x3 x4 post k_136 (w_X6_journey_L65 o0 x1 x3 x4 post k_136 n_) x5 x6 U := H
    unfold b_X6_journey_L65 at H
    refine pr_iload hC (by decide +kernel : decode cX6_journey 65 = .ok (.iload 6, 2)) rfl ?_
    refine pr_aload_n hC (by decide +kernel : decode cX6_journey 67 = .ok (.aload_n 0, 1)) rfl ?_
    refine pu_g21 hC fg_X6_41 (by decide +kernel : decode cX6_journey 68 = .ok (.getfield 41, 3)) hU ho0 (by decide) rfl rfl ?_
    have q_7 := H.1
    replace H := H.2
    refine pu_g0 hC fg_X6_157 (by decide +kernel : decode cX6_journey 71 = .ok (.getfield 157, 3)) hU q_7 (by decide) rfl rfl ?_
    refine pr_icmp_ge hC 136 (by decide +kernel : decode cX6_journey 74 = .ok (.if_icmp .ge 62, 3)) (by decide) (fun c_74 => ?_) (fun c_74 => ?_)
    · replace H := H.1 c_74
      exact pv_sub [some (.ref (Y.2.1 o0)), some (.int x1), none, some (.int x3), none, some (.int x5), none, none] (And.intro rfl (And.intro rfl (And.intro rfl (And.intro rfl trivial)))) (hk_136 _ U h H hU)
    replace H := H.2 c_74
    refine pr_iload hC (by decide +kernel : decode cX6_journey 77 = .ok (.iload 4, 2)) rfl ?_
    refine pr_aload_n hC (by decide +kernel : decode cX6_journey 79 = .ok (.aload_n 0, 1)) rfl ?_
    refine pu_g21 hC fg_X6_41 (by decide +kernel : decode cX6_journey 80 = .ok (.getfield 41, 3)) hU ho0 (by decide) rfl rfl ?_
    have q_8 := H.1
    replace H := H.2
    refine pu_g1 hC fg_X6_160 (by decide +kernel : decode cX6_journey 83 = .ok (.getfield 160, 3)) hU q_8 (by decide) rfl (by decide) ?_
    refine pr_iload hC (by decide +kernel : decode cX6_journey 86 = .ok (.iload 6, 2)) rfl ?_
    refine pu_iald hC (by decide +kernel : decode cX6_journey 88 = .ok (.iaload, 1)) hU q_8 rfl H.1 ?_
    replace H := H.2
    refine pr_ishr hC (by decide +kernel : decode cX6_journey 89 = .ok (.ishr, 1)) ?_
    refine pr_iconst hC (1) (by decide +kernel : decode cX6_journey 90 = .ok (.iconst 1, 1)) rfl ?_
    refine pr_iand hC (by decide +kernel : decode cX6_journey 91 = .ok (.iand, 1)) ?_
    have HJ_16 : ∀ (xs_9 : Int32), xs_9 = (if ((x4 >>> ((uA U (uR U o0 0) 12 (Int32.toNatClampNeg x6)) &&& 31)) &&& 1) = 0 then 0 else 1) → pw X Y.1 (pm_A hh sz) (pm_E X Y.1 hh sz 0 0 (pm_P Y h0 sz (pq_i post))) 100 [some (.ref (Y.2.1 o0)), some (.int x1), none, some (.int x3), some (.int x4), some (.int x5), some (.int x6), none] [.int xs_9] h sz 0 0 := by
      intro xs_9 e_xs_9
      replace H := H xs_9 e_xs_9
      refine pr_istore hC (by decide +kernel : decode cX6_journey 100 = .ok (.istore 7, 2)) (by decide) rfl ?_
      refine pr_iload hC (by decide +kernel : decode cX6_journey 102 = .ok (.iload 7, 2)) rfl ?_
      refine pr_if_eq hC 130 (by decide +kernel : decode cX6_journey 104 = .ok (.ifCond .eq 26, 3)) (by decide) (fun c_104 => ?_) (fun c_104 => ?_)
      · replace H := H.1 c_104
        refine pv_iinc hC (v := x6 + 1) (by decide +kernel : decode cX6_journey 130 = .ok (.iinc 6 1, 3)) rfl (by decide) rfl rfl (fun x6_10 e_x6_10 => ?_)
        replace H := H x6_10 e_x6_10
        refine pr_goto hC 65 (by decide +kernel : decode cX6_journey 133 = .ok (.goto (-68), 3)) (by decide) ?_
        exact pv_sub [some (.ref (Y.2.1 o0)), some (.int x1), none, some (.int x3), some (.int x4), some (.int x5), some (.int x6_10), none] (And.intro rfl (And.intro rfl (And.intro rfl (And.intro rfl (And.intro rfl (And.intro rfl trivial)))))) (ih _ _ U h hU H)
      replace H := H.2 c_104
      refine pr_iload hC (by decide +kernel : decode cX6_journey 107 = .ok (.iload 5, 2)) rfl ?_
      refine pr_iconst hC (-1) (by decide +kernel : decode cX6_journey 109 = .ok (.iconst (-1), 1)) rfl ?_
      replace H := H (pw X Y.1 (pm_A hh sz) (pm_E X Y.1 hh sz 0 0 (pm_P Y h0 sz (pq_i post))) 118 [some (.ref (Y.2.1 o0)), some (.int x1), none, some (.int x3), some (.int x4), none, some (.int x6), none] [] h sz 0 0) (by
        intro  H
        refine pr_aload_n hC (by decide +kernel : decode cX6_journey 118 = .ok (.aload_n 0, 1)) rfl ?_
        refine pu_g21 hC fg_X6_41 (by decide +kernel : decode cX6_journey 119 = .ok (.getfield 41, 3)) hU ho0 (by decide) rfl rfl ?_
        have q_12 := H.1
        replace H := H.2
        refine pu_g1 hC fg_X6_160 (by decide +kernel : decode cX6_journey 122 = .ok (.getfield 160, 3)) hU q_12 (by decide) rfl (by decide) ?_
        refine pr_iload hC (by decide +kernel : decode cX6_journey 125 = .ok (.iload 6, 2)) rfl ?_
        refine pu_iald hC (by decide +kernel : decode cX6_journey 127 = .ok (.iaload, 1)) hU q_12 rfl H.1 ?_
        replace H := H.2
        refine pv_topi (fun x5_13 e_x5_13 => ?_)
        replace H := H x5_13 e_x5_13
        refine pr_istore hC (by decide +kernel : decode cX6_journey 128 = .ok (.istore 5, 2)) (by decide) rfl ?_
        refine pv_iinc hC (v := x6 + 1) (by decide +kernel : decode cX6_journey 130 = .ok (.iinc 6 1, 3)) rfl (by decide) rfl rfl (fun x6_14 e_x6_14 => ?_)
        replace H := H x6_14 e_x6_14
        refine pr_goto hC 65 (by decide +kernel : decode cX6_journey 133 = .ok (.goto (-68), 3)) (by decide) ?_
        exact pv_sub [some (.ref (Y.2.1 o0)), some (.int x1), none, some (.int x3), some (.int x4), some (.int x5_13), some (.int x6_14), none] (And.intro rfl (And.intro rfl (And.intro rfl (And.intro rfl (And.intro rfl (And.intro rfl trivial)))))) (ih _ _ U h hU H))
      refine pr_icmp_eq hC 118 (by decide +kernel : decode cX6_journey 110 = .ok (.if_icmp .eq 8, 3)) (by decide) (fun c_110 => ?_) (fun c_110 => ?_)
      · replace H := H.1 c_110
        exact pv_sub [some (.ref (Y.2.1 o0)), some (.int x1), none, some (.int x3), some (.int x4), none, some (.int x6), none] (And.intro rfl (And.intro rfl (And.intro rfl (And.intro rfl (And.intro rfl trivial))))) (H )
      replace H := H.2 c_110
      refine pr_iload_n hC (by decide +kernel : decode cX6_journey 113 = .ok (.iload_n 3, 1)) rfl ?_
      refine pr_iconst hC (1) (by decide +kernel : decode cX6_journey 114 = .ok (.iconst 1, 1)) rfl ?_
      refine pr_icmp_ne hC 130 (by decide +kernel : decode cX6_journey 115 = .ok (.if_icmp .ne 15, 3)) (by decide) (fun c_115 => ?_) (fun c_115 => ?_)
      · replace H := H.2 c_115
        refine pv_iinc hC (v := x6 + 1) (by decide +kernel : decode cX6_journey 130 = .ok (.iinc 6 1, 3)) rfl (by decide) rfl rfl (fun x6_15 e_x6_15 => ?_)
        replace H := H x6_15 e_x6_15
        refine pr_goto hC 65 (by decide +kernel : decode cX6_journey 133 = .ok (.goto (-68), 3)) (by decide) ?_
        exact pv_sub [some (.ref (Y.2.1 o0)), some (.int x1), none, some (.int x3), some (.int x4), some (.int x5), some (.int x6_15), none] (And.intro rfl (And.intro rfl (And.intro rfl (And.intro rfl (And.intro rfl (And.intro rfl trivial)))))) (ih _ _ U h hU H)
      replace H := H.1 c_115
      exact pv_sub [some (.ref (Y.2.1 o0)), some (.int x1), none, some (.int x3), some (.int x4), none, some (.int x6), none] (And.intro rfl (And.intro rfl (And.intro rfl (And.intro rfl (And.intro rfl trivial))))) (H )
    replace H := trivial
    refine pr_if_eq hC 99 (by decide +kernel : decode cX6_journey 92 = .ok (.ifCond .eq 7, 3)) (by decide) (fun c_92 => ?_) (fun c_92 => ?_)
    · skip
      refine pr_iconst hC (0) (by decide +kernel : decode cX6_journey 99 = .ok (.iconst 0, 1)) rfl ?_
      exact pv_sub [some (.ref (Y.2.1 o0)), some (.int x1), none, some (.int x3), some (.int x4), some (.int x5), some (.int x6), none] (And.intro rfl (And.intro rfl (And.intro rfl (And.intro rfl (And.intro rfl (And.intro rfl trivial)))))) (HJ_16 _ (if_pos c_92).symm)
    skip
    refine pr_iconst hC (1) (by decide +kernel : decode cX6_journey 95 = .ok (.iconst 1, 1)) rfl ?_
    refine pr_goto hC 100 (by decide +kernel : decode cX6_journey 96 = .ok (.goto 4, 3)) (by decide) ?_
    exact pv_sub [some (.ref (Y.2.1 o0)), some (.int x1), none, some (.int x3), some (.int x4), some (.int x5), some (.int x6), none] (And.intro rfl (And.intro rfl (And.intro rfl (And.intro rfl (And.intro rfl (And.intro rfl trivial)))))) (HJ_16 _ (if_neg c_92).symm)
set_option maxHeartbeats 4000000 in
theorem t_X6_journey {l : Launch} {Y : px_Y} {o : Nat} {a1 : Int32} {a2 : Int32} {a3 : Int32} {U : Um} {post : Int32 → Um → Prop} (ho : oc o = 5) (H : w_X6_journey o a1 a2 a3 U post) : um l Y 2 yX6_journey cX6_journey 8 (some (.int)) [.ref (Y.2.1 o), .int a1, .int a2, .int a3] U (pq_i post) := by
  unfold w_X6_journey at H
  refine um_of (by decide) (Nat.le_of_ble_eq_true rfl) [some (.ref (Y.2.1 o)), some (.int a1), some (.int a2), some (.int a3), none, none, none, none] rfl (fun X h0 hh sz hM hU => ?_)
  have hC := hM.1
  have hR := hM.2.2.1
  refine pr_aload_n hC (by decide +kernel : decode cX6_journey 0 = .ok (.aload_n 0, 1)) rfl ?_
  refine pu_g1 hC fg_X6_28 (by decide +kernel : decode cX6_journey 1 = .ok (.getfield 28, 3)) hU ho (by decide) rfl (by decide) ?_
  refine pr_iload_n hC (by decide +kernel : decode cX6_journey 4 = .ok (.iload_n 1, 1)) rfl ?_
  refine pu_iald hC (by decide +kernel : decode cX6_journey 5 = .ok (.iaload, 1)) hU ho rfl H.1 ?_
  replace H := H.2
  refine pr_aload_n hC (by decide +kernel : decode cX6_journey 6 = .ok (.aload_n 0, 1)) rfl ?_
  refine pu_g21 hC fg_X6_41 (by decide +kernel : decode cX6_journey 7 = .ok (.getfield 41, 3)) hU ho (by decide) rfl rfl ?_
  have q_1 := H.1
  replace H := H.2
  refine pu_g1 hC fg_X6_100 (by decide +kernel : decode cX6_journey 10 = .ok (.getfield 100, 3)) hU q_1 (by decide) rfl (by decide) ?_
  refine pr_iload_n hC (by decide +kernel : decode cX6_journey 13 = .ok (.iload_n 2, 1)) rfl ?_
  refine pu_iald hC (by decide +kernel : decode cX6_journey 14 = .ok (.iaload, 1)) hU q_1 rfl H.1 ?_
  replace H := H.2
  refine pr_iand hC (by decide +kernel : decode cX6_journey 15 = .ok (.iand, 1)) ?_
  refine pv_topi (fun x4_2 e_x4_2 => ?_)
  replace H := H x4_2 e_x4_2
  refine pr_istore hC (by decide +kernel : decode cX6_journey 16 = .ok (.istore 4, 2)) (by decide) rfl ?_
  refine pr_iload_n hC (by decide +kernel : decode cX6_journey 18 = .ok (.iload_n 3, 1)) rfl ?_
  refine pr_iconst hC (2) (by decide +kernel : decode cX6_journey 19 = .ok (.iconst 2, 1)) rfl ?_
  refine pr_icmp_ne hC 30 (by decide +kernel : decode cX6_journey 20 = .ok (.if_icmp .ne 10, 3)) (by decide) (fun c_20 => ?_) (fun c_20 => ?_)
  · replace H := H.2 c_20
    refine pr_iload_n hC (by decide +kernel : decode cX6_journey 30 = .ok (.iload_n 3, 1)) rfl ?_
    refine pr_iconst hC (3) (by decide +kernel : decode cX6_journey 31 = .ok (.iconst 3, 1)) rfl ?_
    refine pr_icmp_ne hC 41 (by decide +kernel : decode cX6_journey 32 = .ok (.if_icmp .ne 9, 3)) (by decide) (fun c_32 => ?_) (fun c_32 => ?_)
    · replace H := H.2 c_32
      refine pr_iload_n hC (by decide +kernel : decode cX6_journey 41 = .ok (.iload_n 3, 1)) rfl ?_
      refine pr_if_lt hC 55 (by decide +kernel : decode cX6_journey 42 = .ok (.ifCond .lt 13, 3)) (by decide) (fun c_42 => ?_) (fun c_42 => ?_)
      · replace H := H.1 c_42
        refine pr_sipush hC (-10000) (by decide +kernel : decode cX6_journey 55 = .ok (.sipush (-10000), 3)) rfl ?_
        exact pv_iret hM (by decide +kernel : decode cX6_journey 58 = .ok (.ireturn, 1)) hU H
      replace H := H.2 c_42
      refine pr_iload_n hC (by decide +kernel : decode cX6_journey 45 = .ok (.iload_n 3, 1)) rfl ?_
      refine pr_iconst hC (3) (by decide +kernel : decode cX6_journey 46 = .ok (.iconst 3, 1)) rfl ?_
      refine pr_icmp_gt hC 55 (by decide +kernel : decode cX6_journey 47 = .ok (.if_icmp .gt 8, 3)) (by decide) (fun c_47 => ?_) (fun c_47 => ?_)
      · replace H := H.1 c_47
        refine pr_sipush hC (-10000) (by decide +kernel : decode cX6_journey 55 = .ok (.sipush (-10000), 3)) rfl ?_
        exact pv_iret hM (by decide +kernel : decode cX6_journey 58 = .ok (.ireturn, 1)) hU H
      replace H := H.2 c_47
      refine pr_iload hC (by decide +kernel : decode cX6_journey 50 = .ok (.iload 4, 2)) rfl ?_
      refine pr_if_ne hC 59 (by decide +kernel : decode cX6_journey 52 = .ok (.ifCond .ne 7, 3)) (by decide) (fun c_52 => ?_) (fun c_52 => ?_)
      · replace H := H.2 c_52
        refine pr_iconst hC (-1) (by decide +kernel : decode cX6_journey 59 = .ok (.iconst (-1), 1)) rfl ?_
        refine pr_istore hC (by decide +kernel : decode cX6_journey 60 = .ok (.istore 5, 2)) (by decide) rfl ?_
        refine pr_iconst hC (0) (by decide +kernel : decode cX6_journey 62 = .ok (.iconst 0, 1)) rfl ?_
        refine pr_istore hC (by decide +kernel : decode cX6_journey 63 = .ok (.istore 6, 2)) (by decide) rfl ?_
        obtain ⟨n_24, H⟩ := H
        refine pv_sub [some (.ref (Y.2.1 o)), some (.int a1), none, some (.int a3), some (.int x4_2), some (.int (-1)), some (.int 0), none] (And.intro rfl (And.intro rfl (And.intro rfl (And.intro rfl (And.intro rfl (And.intro rfl trivial)))))) ?_
        refine tl_X6_journey_L65 _ _ _ _ _ _ ho hC hM hR (fun x5_17 U_18 h H hU => ?_) n_24 _ _ U hh hU H
        refine pr_iload hC (by decide +kernel : decode cX6_journey 136 = .ok (.iload 5, 2)) rfl ?_
        refine pr_iconst hC (-1) (by decide +kernel : decode cX6_journey 138 = .ok (.iconst (-1), 1)) rfl ?_
        refine pr_icmp_ne hC 148 (by decide +kernel : decode cX6_journey 139 = .ok (.if_icmp .ne 9, 3)) (by decide) (fun c_139 => ?_) (fun c_139 => ?_)
        · replace H := H.2 c_139
          refine pr_aload_n hC (by decide +kernel : decode cX6_journey 148 = .ok (.aload_n 0, 1)) rfl ?_
          refine pr_iload_n hC (by decide +kernel : decode cX6_journey 149 = .ok (.iload_n 1, 1)) rfl ?_
          refine pr_aload_n hC (by decide +kernel : decode cX6_journey 150 = .ok (.aload_n 0, 1)) rfl ?_
          refine pu_g21 hC fg_X6_41 (by decide +kernel : decode cX6_journey 151 = .ok (.getfield 41, 3)) hU ho (by decide) rfl rfl ?_
          have q_19 := H.1
          replace H := H.2
          refine pu_g1 hC fg_X6_62 (by decide +kernel : decode cX6_journey 154 = .ok (.getfield 62, 3)) hU q_19 (by decide) rfl (by decide) ?_
          refine pr_iload hC (by decide +kernel : decode cX6_journey 157 = .ok (.iload 5, 2)) rfl ?_
          have q_20 := H.1
          replace H := H.2
          refine pu_aald8 hC (by decide +kernel : decode cX6_journey 159 = .ok (.aaload, 1)) hU q_19 rfl q_20 ?_
          have q_21 := H.1
          replace H := H.2
          refine pr_iload_n hC (by decide +kernel : decode cX6_journey 160 = .ok (.iload_n 3, 1)) rfl ?_
          refine vc_Vi hC hR [.int a1, .ref (Y.2.1 (uAR U_18 (uR U_18 o 0) 6 (Int32.toNatClampNeg x5_17))), .int a3] fv_X6_198 (by decide +kernel : decode cX6_journey 161 = .ok (.invokevirtual 198, 3)) hU (t_X6_minuteAtHome ho q_21 H) ho (by decide) rfl rfl rfl (Nat.le_of_ble_eq_true rfl) (Nat.le_of_ble_eq_true rfl) (Nat.le_refl 0) (Nat.le_refl 0) (fun r_23 U_22 h H hU => ?_)
          exact pv_iret hM (by decide +kernel : decode cX6_journey 164 = .ok (.ireturn, 1)) hU H
        replace H := H.1 c_139
        refine pr_sipush hC (-10000) (by decide +kernel : decode cX6_journey 142 = .ok (.sipush (-10000), 3)) rfl ?_
        refine pr_goto hC 164 (by decide +kernel : decode cX6_journey 145 = .ok (.goto 19, 3)) (by decide) ?_
        exact pv_iret hM (by decide +kernel : decode cX6_journey 164 = .ok (.ireturn, 1)) hU H
      replace H := H.1 c_52
      refine pr_sipush hC (-10000) (by decide +kernel : decode cX6_journey 55 = .ok (.sipush (-10000), 3)) rfl ?_
      exact pv_iret hM (by decide +kernel : decode cX6_journey 58 = .ok (.ireturn, 1)) hU H
    replace H := H.1 c_32
    refine pr_iload hC (by decide +kernel : decode cX6_journey 35 = .ok (.iload 4, 2)) rfl ?_
    refine vc_Si hC hR [.int x4_2] fv_X6_79 (by decide +kernel : decode cX6_journey 37 = .ok (.invokestatic 79, 3)) hU (t_J6_bitCount_0f7a4  H) rfl rfl (Nat.le_of_ble_eq_true rfl) (Nat.le_of_ble_eq_true rfl) (Nat.le_refl 0) (Nat.le_refl 0) (fun r_6 U_5 h H hU => ?_)
    exact pv_iret hM (by decide +kernel : decode cX6_journey 40 = .ok (.ireturn, 1)) hU H
  replace H := H.1 c_20
  refine pr_aload_n hC (by decide +kernel : decode cX6_journey 23 = .ok (.aload_n 0, 1)) rfl ?_
  refine pr_iload hC (by decide +kernel : decode cX6_journey 24 = .ok (.iload 4, 2)) rfl ?_
  refine vc_Vi hC hR [.int x4_2] fv_X6_143 (by decide +kernel : decode cX6_journey 26 = .ok (.invokevirtual 143, 3)) hU (t_X6_fieldsOf ho H) ho (by decide) rfl rfl rfl (Nat.le_of_ble_eq_true rfl) (Nat.le_of_ble_eq_true rfl) (Nat.le_refl 0) (Nat.le_refl 0) (fun r_4 U_3 h H hU => ?_)
  exact pv_iret hM (by decide +kernel : decode cX6_journey 29 = .ok (.ireturn, 1)) hU H
