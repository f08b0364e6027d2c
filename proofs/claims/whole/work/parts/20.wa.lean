def w_X6_officials (o : Nat) (U : Um) (post : Int32 → Um → Prop) : Prop :=
  oc (uR U o 0) = 8 ∧ vp_in 2 3 ∧ post (uA U (uR U o 0) 1 (Int32.toNatClampNeg 2)) U
set_option maxHeartbeats 4000000 in
theorem t_X6_officials {l : Launch} {Y : px_Y} {o : Nat} {U : Um} {post : Int32 → Um → Prop} (ho : oc o = 5) (H : w_X6_officials o U post) : um l Y 0 yX6_officials cX6_officials 1 (some (.int)) [.ref (Y.2.1 o)] U (pq_i post) := by
  unfold w_X6_officials at H
  refine um_of (by decide) (Nat.le_of_ble_eq_true rfl) [some (.ref (Y.2.1 o))] rfl (fun X h0 hh sz hM hU => ?_)
  have hC := hM.1
  have hR := hM.2.2.1
  refine pr_aload_n hC (by decide +kernel : decode cX6_officials 0 = .ok (.aload_n 0, 1)) rfl ?_
  refine pu_g21 hC fg_X6_41 (by decide +kernel : decode cX6_officials 1 = .ok (.getfield 41, 3)) hU ho (by decide) rfl rfl ?_
  have q_1 := H.1
  replace H := H.2
  refine pu_g1 hC fg_X6_59 (by decide +kernel : decode cX6_officials 4 = .ok (.getfield 59, 3)) hU q_1 (by decide) rfl (by decide) ?_
  refine pr_iconst hC (2) (by decide +kernel : decode cX6_officials 7 = .ok (.iconst 2, 1)) rfl ?_
  refine pu_iald hC (by decide +kernel : decode cX6_officials 8 = .ok (.iaload, 1)) hU q_1 rfl H.1 ?_
  replace H := H.2
  exact pv_iret hM (by decide +kernel : decode cX6_officials 9 = .ok (.ireturn, 1)) hU H
def w_X9_isGame (o : Nat) (a1 : Int32) (U : Um) (post : Int32 → Um → Prop) : Prop :=
  (a1 < 0 → post 0 U) ∧ (¬ a1 < 0 → ((uI U o 7) ≤ a1 → post 0 U) ∧ (¬ (uI U o 7) ≤ a1 → post 1 U))
set_option maxHeartbeats 4000000 in
theorem t_X9_isGame {l : Launch} {Y : px_Y} {o : Nat} {a1 : Int32} {U : Um} {post : Int32 → Um → Prop} (ho : oc o = 8) (H : w_X9_isGame o a1 U post) : um l Y 0 yX9_isGame cX9_isGame 2 (some (.boolean)) [.ref (Y.2.1 o), .int a1] U (pq_i post) := by
  unfold w_X9_isGame at H
  refine um_of (by decide) (Nat.le_of_ble_eq_true rfl) [some (.ref (Y.2.1 o)), some (.int a1)] rfl (fun X h0 hh sz hM hU => ?_)
  have hC := hM.1
  have hR := hM.2.2.1
  refine pr_iload_n hC (by decide +kernel : decode cX9_isGame 0 = .ok (.iload_n 1, 1)) rfl ?_
  refine pr_if_lt hC 16 (by decide +kernel : decode cX9_isGame 1 = .ok (.ifCond .lt 15, 3)) (by decide) (fun c_1 => ?_) (fun c_1 => ?_)
  · replace H := H.1 c_1
    refine pr_iconst hC (0) (by decide +kernel : decode cX9_isGame 16 = .ok (.iconst 0, 1)) rfl ?_
    exact pv_zret hM (by decide +kernel : decode cX9_isGame 17 = .ok (.ireturn, 1)) (Or.inl rfl) hU H
  replace H := H.2 c_1
  refine pr_iload_n hC (by decide +kernel : decode cX9_isGame 4 = .ok (.iload_n 1, 1)) rfl ?_
  refine pr_aload_n hC (by decide +kernel : decode cX9_isGame 5 = .ok (.aload_n 0, 1)) rfl ?_
  refine pu_g0 hC fg_X9_69 (by decide +kernel : decode cX9_isGame 6 = .ok (.getfield 69, 3)) hU ho (by decide) rfl rfl ?_
  refine pr_icmp_ge hC 16 (by decide +kernel : decode cX9_isGame 9 = .ok (.if_icmp .ge 7, 3)) (by decide) (fun c_9 => ?_) (fun c_9 => ?_)
  · replace H := H.1 c_9
    refine pr_iconst hC (0) (by decide +kernel : decode cX9_isGame 16 = .ok (.iconst 0, 1)) rfl ?_
    exact pv_zret hM (by decide +kernel : decode cX9_isGame 17 = .ok (.ireturn, 1)) (Or.inl rfl) hU H
  replace H := H.2 c_9
  refine pr_iconst hC (1) (by decide +kernel : decode cX9_isGame 12 = .ok (.iconst 1, 1)) rfl ?_
  refine pr_goto hC 17 (by decide +kernel : decode cX9_isGame 13 = .ok (.goto 4, 3)) (by decide) ?_
  exact pv_zret hM (by decide +kernel : decode cX9_isGame 17 = .ok (.ireturn, 1)) (Or.inr rfl) hU H
def w_X9_isSeat (o : Nat) (a1 : Int32) (a2 : Int32) (U : Um) (post : Int32 → Um → Prop) : Prop :=
  w_X9_isGame o a1 U (fun r_2 U_1 => (r_2 = 0 → post 0 U_1) ∧ (¬ r_2 = 0 → (a2 < 0 → post 0 U_1) ∧ (¬ a2 < 0 → vp_in a1 16 ∧ oc (uAR U_1 o 6 (Int32.toNatClampNeg a1)) = 1 ∧ ((uI U_1 (uAR U_1 o 6 (Int32.toNatClampNeg a1)) 7) ≤ a2 → post 0 U_1) ∧ (¬ (uI U_1 (uAR U_1 o 6 (Int32.toNatClampNeg a1)) 7) ≤ a2 → post 1 U_1))))
set_option maxHeartbeats 4000000 in
theorem t_X9_isSeat {l : Launch} {Y : px_Y} {o : Nat} {a1 : Int32} {a2 : Int32} {U : Um} {post : Int32 → Um → Prop} (ho : oc o = 8) (H : w_X9_isSeat o a1 a2 U post) : um l Y 1 yX9_isSeat cX9_isSeat 3 (some (.boolean)) [.ref (Y.2.1 o), .int a1, .int a2] U (pq_i post) := by
  unfold w_X9_isSeat at H
  refine um_of (by decide) (Nat.le_of_ble_eq_true rfl) [some (.ref (Y.2.1 o)), some (.int a1), some (.int a2)] rfl (fun X h0 hh sz hM hU => ?_)
  have hC := hM.1
  have hR := hM.2.2.1
  refine pr_aload_n hC (by decide +kernel : decode cX9_isSeat 0 = .ok (.aload_n 0, 1)) rfl ?_
  refine pr_iload_n hC (by decide +kernel : decode cX9_isSeat 1 = .ok (.iload_n 1, 1)) rfl ?_
  refine vc_Vi hC hR [.int a1] fv_X9_89 (by decide +kernel : decode cX9_isSeat 2 = .ok (.invokevirtual 89, 3)) hU (t_X9_isGame ho H) ho (by decide) rfl rfl rfl (Nat.le_of_ble_eq_true rfl) (Nat.le_of_ble_eq_true rfl) (Nat.le_refl 0) (Nat.le_refl 0) (fun r_2 U_1 h H hU => ?_)
  refine pr_if_eq hC 29 (by decide +kernel : decode cX9_isSeat 5 = .ok (.ifCond .eq 24, 3)) (by decide) (fun c_5 => ?_) (fun c_5 => ?_)
  · replace H := H.1 c_5
    refine pr_iconst hC (0) (by decide +kernel : decode cX9_isSeat 29 = .ok (.iconst 0, 1)) rfl ?_
    exact pv_zret hM (by decide +kernel : decode cX9_isSeat 30 = .ok (.ireturn, 1)) (Or.inl rfl) hU H
  replace H := H.2 c_5
  refine pr_iload_n hC (by decide +kernel : decode cX9_isSeat 8 = .ok (.iload_n 2, 1)) rfl ?_
  refine pr_if_lt hC 29 (by decide +kernel : decode cX9_isSeat 9 = .ok (.ifCond .lt 20, 3)) (by decide) (fun c_9 => ?_) (fun c_9 => ?_)
  · replace H := H.1 c_9
    refine pr_iconst hC (0) (by decide +kernel : decode cX9_isSeat 29 = .ok (.iconst 0, 1)) rfl ?_
    exact pv_zret hM (by decide +kernel : decode cX9_isSeat 30 = .ok (.ireturn, 1)) (Or.inl rfl) hU H
  replace H := H.2 c_9
  refine pr_iload_n hC (by decide +kernel : decode cX9_isSeat 12 = .ok (.iload_n 2, 1)) rfl ?_
  refine pr_aload_n hC (by decide +kernel : decode cX9_isSeat 13 = .ok (.aload_n 0, 1)) rfl ?_
  refine pu_g1 hC fg_X9_34 (by decide +kernel : decode cX9_isSeat 14 = .ok (.getfield 34, 3)) hU ho (by decide) rfl (by decide) ?_
  refine pr_iload_n hC (by decide +kernel : decode cX9_isSeat 17 = .ok (.iload_n 1, 1)) rfl ?_
  have q_3 := H.1
  replace H := H.2
  refine pu_aald8 hC (by decide +kernel : decode cX9_isSeat 18 = .ok (.aaload, 1)) hU ho rfl q_3 ?_
  have q_4 := H.1
  replace H := H.2
  refine pu_g0 hC fg_X9_93 (by decide +kernel : decode cX9_isSeat 19 = .ok (.getfield 93, 3)) hU q_4 (by decide) rfl rfl ?_
  refine pr_icmp_ge hC 29 (by decide +kernel : decode cX9_isSeat 22 = .ok (.if_icmp .ge 7, 3)) (by decide) (fun c_22 => ?_) (fun c_22 => ?_)
  · replace H := H.1 c_22
    refine pr_iconst hC (0) (by decide +kernel : decode cX9_isSeat 29 = .ok (.iconst 0, 1)) rfl ?_
    exact pv_zret hM (by decide +kernel : decode cX9_isSeat 30 = .ok (.ireturn, 1)) (Or.inl rfl) hU H
  replace H := H.2 c_22
  refine pr_iconst hC (1) (by decide +kernel : decode cX9_isSeat 25 = .ok (.iconst 1, 1)) rfl ?_
  refine pr_goto hC 30 (by decide +kernel : decode cX9_isSeat 26 = .ok (.goto 4, 3)) (by decide) ?_
  exact pv_zret hM (by decide +kernel : decode cX9_isSeat 30 = .ok (.ireturn, 1)) (Or.inr rfl) hU H
def w_X9_isNamed (o : Nat) (a1 : Int32) (a2 : Int32) (U : Um) (post : Int32 → Um → Prop) : Prop :=
  (a2 < 0 → post 0 U) ∧ (¬ a2 < 0 → vp_in a1 3 ∧ ((uA U o 1 (Int32.toNatClampNeg a1)) ≤ a2 → post 0 U) ∧ (¬ (uA U o 1 (Int32.toNatClampNeg a1)) ≤ a2 → post 1 U))
set_option maxHeartbeats 4000000 in
theorem t_X9_isNamed {l : Launch} {Y : px_Y} {o : Nat} {a1 : Int32} {a2 : Int32} {U : Um} {post : Int32 → Um → Prop} (ho : oc o = 8) (H : w_X9_isNamed o a1 a2 U post) : um l Y 0 yX9_isNamed cX9_isNamed 3 (some (.boolean)) [.ref (Y.2.1 o), .int a1, .int a2] U (pq_i post) := by
  unfold w_X9_isNamed at H
  refine um_of (by decide) (Nat.le_of_ble_eq_true rfl) [some (.ref (Y.2.1 o)), some (.int a1), some (.int a2)] rfl (fun X h0 hh sz hM hU => ?_)
  have hC := hM.1
  have hR := hM.2.2.1
  refine pr_iload_n hC (by decide +kernel : decode cX9_isNamed 0 = .ok (.iload_n 2, 1)) rfl ?_
  refine pr_if_lt hC 18 (by decide +kernel : decode cX9_isNamed 1 = .ok (.ifCond .lt 17, 3)) (by decide) (fun c_1 => ?_) (fun c_1 => ?_)
  · replace H := H.1 c_1
    refine pr_iconst hC (0) (by decide +kernel : decode cX9_isNamed 18 = .ok (.iconst 0, 1)) rfl ?_
    exact pv_zret hM (by decide +kernel : decode cX9_isNamed 19 = .ok (.ireturn, 1)) (Or.inl rfl) hU H
  replace H := H.2 c_1
  refine pr_iload_n hC (by decide +kernel : decode cX9_isNamed 4 = .ok (.iload_n 2, 1)) rfl ?_
  refine pr_aload_n hC (by decide +kernel : decode cX9_isNamed 5 = .ok (.aload_n 0, 1)) rfl ?_
  refine pu_g1 hC fg_X9_16 (by decide +kernel : decode cX9_isNamed 6 = .ok (.getfield 16, 3)) hU ho (by decide) rfl (by decide) ?_
  refine pr_iload_n hC (by decide +kernel : decode cX9_isNamed 9 = .ok (.iload_n 1, 1)) rfl ?_
  refine pu_iald hC (by decide +kernel : decode cX9_isNamed 10 = .ok (.iaload, 1)) hU ho rfl H.1 ?_
  replace H := H.2
  refine pr_icmp_ge hC 18 (by decide +kernel : decode cX9_isNamed 11 = .ok (.if_icmp .ge 7, 3)) (by decide) (fun c_11 => ?_) (fun c_11 => ?_)
  · replace H := H.1 c_11
    refine pr_iconst hC (0) (by decide +kernel : decode cX9_isNamed 18 = .ok (.iconst 0, 1)) rfl ?_
    exact pv_zret hM (by decide +kernel : decode cX9_isNamed 19 = .ok (.ireturn, 1)) (Or.inl rfl) hU H
  replace H := H.2 c_11
  refine pr_iconst hC (1) (by decide +kernel : decode cX9_isNamed 14 = .ok (.iconst 1, 1)) rfl ?_
  refine pr_goto hC 19 (by decide +kernel : decode cX9_isNamed 15 = .ok (.goto 4, 3)) (by decide) ?_
  exact pv_zret hM (by decide +kernel : decode cX9_isNamed 19 = .ok (.ireturn, 1)) (Or.inr rfl) hU H
def w_X6_isPlayed (o : Nat) (a1 : Int32) (U : Um) (post : Int32 → Um → Prop) : Prop :=
  oc (uR U o 0) = 8 ∧ vp_in a1 16 ∧ oc (uAR U (uR U o 0) 6 (Int32.toNatClampNeg a1)) = 1 ∧ ((uI U o 1) ≤ (uI U (uAR U (uR U o 0) 6 (Int32.toNatClampNeg a1)) 3) → post 0 U) ∧ (¬ (uI U o 1) ≤ (uI U (uAR U (uR U o 0) 6 (Int32.toNatClampNeg a1)) 3) → post 1 U)
set_option maxHeartbeats 4000000 in
theorem t_X6_isPlayed {l : Launch} {Y : px_Y} {o : Nat} {a1 : Int32} {U : Um} {post : Int32 → Um → Prop} (ho : oc o = 5) (H : w_X6_isPlayed o a1 U post) : um l Y 0 yX6_isPlayed cX6_isPlayed 2 (some (.boolean)) [.ref (Y.2.1 o), .int a1] U (pq_i post) := by
  unfold w_X6_isPlayed at H
  refine um_of (by decide) (Nat.le_of_ble_eq_true rfl) [some (.ref (Y.2.1 o)), some (.int a1)] rfl (fun X h0 hh sz hM hU => ?_)
  have hC := hM.1
  have hR := hM.2.2.1
  refine pr_aload_n hC (by decide +kernel : decode cX6_isPlayed 0 = .ok (.aload_n 0, 1)) rfl ?_
  refine pu_g21 hC fg_X6_41 (by decide +kernel : decode cX6_isPlayed 1 = .ok (.getfield 41, 3)) hU ho (by decide) rfl rfl ?_
  have q_1 := H.1
  replace H := H.2
  refine pu_g1 hC fg_X6_62 (by decide +kernel : decode cX6_isPlayed 4 = .ok (.getfield 62, 3)) hU q_1 (by decide) rfl (by decide) ?_
  refine pr_iload_n hC (by decide +kernel : decode cX6_isPlayed 7 = .ok (.iload_n 1, 1)) rfl ?_
  have q_2 := H.1
  replace H := H.2
  refine pu_aald8 hC (by decide +kernel : decode cX6_isPlayed 8 = .ok (.aaload, 1)) hU q_1 rfl q_2 ?_
  have q_3 := H.1
  replace H := H.2
  refine pu_g0 hC fg_X6_66 (by decide +kernel : decode cX6_isPlayed 9 = .ok (.getfield 66, 3)) hU q_3 (by decide) rfl rfl ?_
  refine pr_aload_n hC (by decide +kernel : decode cX6_isPlayed 12 = .ok (.aload_n 0, 1)) rfl ?_
  refine pu_g0 hC fg_X6_45 (by decide +kernel : decode cX6_isPlayed 13 = .ok (.getfield 45, 3)) hU ho (by decide) rfl rfl ?_
  refine pr_icmp_ge hC 23 (by decide +kernel : decode cX6_isPlayed 16 = .ok (.if_icmp .ge 7, 3)) (by decide) (fun c_16 => ?_) (fun c_16 => ?_)
  · replace H := H.1 c_16
    refine pr_iconst hC (0) (by decide +kernel : decode cX6_isPlayed 23 = .ok (.iconst 0, 1)) rfl ?_
    exact pv_zret hM (by decide +kernel : decode cX6_isPlayed 24 = .ok (.ireturn, 1)) (Or.inl rfl) hU H
  replace H := H.2 c_16
  refine pr_iconst hC (1) (by decide +kernel : decode cX6_isPlayed 19 = .ok (.iconst 1, 1)) rfl ?_
  refine pr_goto hC 24 (by decide +kernel : decode cX6_isPlayed 20 = .ok (.goto 4, 3)) (by decide) ?_
  exact pv_zret hM (by decide +kernel : decode cX6_isPlayed 24 = .ok (.ireturn, 1)) (Or.inr rfl) hU H
def w_X9_placeOf (a1 : Int32) (a2 : Int32) (U : Um) (post : Int32 → Um → Prop) : Prop :=
  post ((3 * a1) + a2) U
set_option maxHeartbeats 4000000 in
theorem t_X9_placeOf {l : Launch} {Y : px_Y} {a1 : Int32} {a2 : Int32} {U : Um} {post : Int32 → Um → Prop}  (H : w_X9_placeOf a1 a2 U post) : um l Y 0 yX9_placeOf cX9_placeOf 2 (some (.int)) [.int a1, .int a2] U (pq_i post) := by
  unfold w_X9_placeOf at H
  refine um_of (by decide) (Nat.le_of_ble_eq_true rfl) [some (.int a1), some (.int a2)] rfl (fun X h0 hh sz hM hU => ?_)
  have hC := hM.1
  have hR := hM.2.2.1
  refine pr_iconst hC (3) (by decide +kernel : decode cX9_placeOf 0 = .ok (.iconst 3, 1)) rfl ?_
  refine pr_iload_n hC (by decide +kernel : decode cX9_placeOf 1 = .ok (.iload_n 0, 1)) rfl ?_
  refine pr_imul hC (by decide +kernel : decode cX9_placeOf 2 = .ok (.imul, 1)) ?_
  refine pr_iload_n hC (by decide +kernel : decode cX9_placeOf 3 = .ok (.iload_n 1, 1)) rfl ?_
  refine pr_iadd hC (by decide +kernel : decode cX9_placeOf 4 = .ok (.iadd, 1)) ?_
  exact pv_iret hM (by decide +kernel : decode cX9_placeOf 5 = .ok (.ireturn, 1)) hU H
def w_X2_needOf (o : Nat) (a1 : Int32) (U : Um) (post : Int32 → Um → Prop) : Prop :=
  (a1 = 0 → post (uI U o 6) U) ∧ (¬ a1 = 0 → ((uI U o 6) = 1 → post (uI U o 6) U) ∧ (¬ (uI U o 6) = 1 → post ((uI U o 6) - 1) U))
set_option maxHeartbeats 4000000 in
theorem t_X2_needOf {l : Launch} {Y : px_Y} {o : Nat} {a1 : Int32} {U : Um} {post : Int32 → Um → Prop} (ho : oc o = 1) (H : w_X2_needOf o a1 U post) : um l Y 0 yX2_needOf cX2_needOf 2 (some (.int)) [.ref (Y.2.1 o), .int a1] U (pq_i post) := by
  unfold w_X2_needOf at H
  refine um_of (by decide) (Nat.le_of_ble_eq_true rfl) [some (.ref (Y.2.1 o)), some (.int a1)] rfl (fun X h0 hh sz hM hU => ?_)
  have hC := hM.1
  have hR := hM.2.2.1
  refine pr_iload_n hC (by decide +kernel : decode cX2_needOf 0 = .ok (.iload_n 1, 1)) rfl ?_
  refine pr_if_eq hC 12 (by decide +kernel : decode cX2_needOf 1 = .ok (.ifCond .eq 11, 3)) (by decide) (fun c_1 => ?_) (fun c_1 => ?_)
  · replace H := H.1 c_1
    refine pr_aload_n hC (by decide +kernel : decode cX2_needOf 12 = .ok (.aload_n 0, 1)) rfl ?_
    refine pu_g0 hC fg_X2_18 (by decide +kernel : decode cX2_needOf 13 = .ok (.getfield 18, 3)) hU ho (by decide) rfl rfl ?_
    refine pr_goto hC 25 (by decide +kernel : decode cX2_needOf 16 = .ok (.goto 9, 3)) (by decide) ?_
    exact pv_iret hM (by decide +kernel : decode cX2_needOf 25 = .ok (.ireturn, 1)) hU H
  replace H := H.2 c_1
  refine pr_aload_n hC (by decide +kernel : decode cX2_needOf 4 = .ok (.aload_n 0, 1)) rfl ?_
  refine pu_g0 hC fg_X2_18 (by decide +kernel : decode cX2_needOf 5 = .ok (.getfield 18, 3)) hU ho (by decide) rfl rfl ?_
  refine pr_iconst hC (1) (by decide +kernel : decode cX2_needOf 8 = .ok (.iconst 1, 1)) rfl ?_
  refine pr_icmp_ne hC 19 (by decide +kernel : decode cX2_needOf 9 = .ok (.if_icmp .ne 10, 3)) (by decide) (fun c_9 => ?_) (fun c_9 => ?_)
  · replace H := H.2 c_9
    refine pr_aload_n hC (by decide +kernel : decode cX2_needOf 19 = .ok (.aload_n 0, 1)) rfl ?_
    refine pu_g0 hC fg_X2_18 (by decide +kernel : decode cX2_needOf 20 = .ok (.getfield 18, 3)) hU ho (by decide) rfl rfl ?_
    refine pr_iconst hC (1) (by decide +kernel : decode cX2_needOf 23 = .ok (.iconst 1, 1)) rfl ?_
    refine pr_isub hC (by decide +kernel : decode cX2_needOf 24 = .ok (.isub, 1)) ?_
    exact pv_iret hM (by decide +kernel : decode cX2_needOf 25 = .ok (.ireturn, 1)) hU H
  replace H := H.1 c_9
  refine pr_aload_n hC (by decide +kernel : decode cX2_needOf 12 = .ok (.aload_n 0, 1)) rfl ?_
  refine pu_g0 hC fg_X2_18 (by decide +kernel : decode cX2_needOf 13 = .ok (.getfield 18, 3)) hU ho (by decide) rfl rfl ?_
  refine pr_goto hC 25 (by decide +kernel : decode cX2_needOf 16 = .ok (.goto 9, 3)) (by decide) ?_
  exact pv_iret hM (by decide +kernel : decode cX2_needOf 25 = .ok (.ireturn, 1)) hU H
def w_J6_bitCount_0f7a4 (a1 : Int32) (U : Um) (post : Int32 → Um → Prop) : Prop :=
  ∀ (x0_1 : Int32), x0_1 = a1 - (((a1.toUInt32 >>> ((Int32.toUInt32 1) &&& Int32.toUInt32 31)).toInt32) &&& 1431655765) → ∀ (x0_2 : Int32), x0_2 = (x0_1 &&& 858993459) + (((x0_1.toUInt32 >>> ((Int32.toUInt32 2) &&& Int32.toUInt32 31)).toInt32) &&& 858993459) → ∀ (x0_3 : Int32), x0_3 = (x0_2 + ((x0_2.toUInt32 >>> ((Int32.toUInt32 4) &&& Int32.toUInt32 31)).toInt32)) &&& 252645135 → ∀ (x0_4 : Int32), x0_4 = x0_3 + ((x0_3.toUInt32 >>> ((Int32.toUInt32 8) &&& Int32.toUInt32 31)).toInt32) → ∀ (x0_5 : Int32), x0_5 = x0_4 + ((x0_4.toUInt32 >>> ((Int32.toUInt32 16) &&& Int32.toUInt32 31)).toInt32) → post (x0_5 &&& 63) U
set_option maxHeartbeats 4000000 in
theorem t_J6_bitCount_0f7a4 {l : Launch} {Y : px_Y} {a1 : Int32} {U : Um} {post : Int32 → Um → Prop}  (H : w_J6_bitCount_0f7a4 a1 U post) : um l Y 0 yJ6_bitCount_0f7a4 cJ6_bitCount_0f7a4 1 (some (.int)) [.int a1] U (pq_i post) := by
  unfold w_J6_bitCount_0f7a4 at H
  refine um_ofF (by decide +kernel) (Nat.le_of_ble_eq_true rfl) [some (.int a1)] rfl (fun X h0 hh sz hM hU => ?_)
  have hC := hM.1
  have hR := hM.2.2.1
  refine pr_iload_n hC (by decide +kernel : decode cJ6_bitCount_0f7a4 0 = .ok (.iload_n 0, 1)) rfl ?_
  refine pr_iload_n hC (by decide +kernel : decode cJ6_bitCount_0f7a4 1 = .ok (.iload_n 0, 1)) rfl ?_
  refine pr_iconst hC (1) (by decide +kernel : decode cJ6_bitCount_0f7a4 2 = .ok (.iconst 1, 1)) rfl ?_
  refine pr_iushr hC (by decide +kernel : decode cJ6_bitCount_0f7a4 3 = .ok (.iushr, 1)) ?_
  refine pr_ldcw hC (1431655765) (by decide +kernel : decode cJ6_bitCount_0f7a4 4 = .ok (.ldc_w 265, 3)) fk_J6_265 ?_
  refine pr_iand hC (by decide +kernel : decode cJ6_bitCount_0f7a4 7 = .ok (.iand, 1)) ?_
  refine pr_isub hC (by decide +kernel : decode cJ6_bitCount_0f7a4 8 = .ok (.isub, 1)) ?_
  refine pv_topi (fun x0_1 e_x0_1 => ?_)
  replace H := H x0_1 e_x0_1
  refine pr_istore_n hC (by decide +kernel : decode cJ6_bitCount_0f7a4 9 = .ok (.istore_n 0, 1)) (by decide) rfl ?_
  refine pr_iload_n hC (by decide +kernel : decode cJ6_bitCount_0f7a4 10 = .ok (.iload_n 0, 1)) rfl ?_
  refine pr_ldcw hC (858993459) (by decide +kernel : decode cJ6_bitCount_0f7a4 11 = .ok (.ldc_w 266, 3)) fk_J6_266 ?_
  refine pr_iand hC (by decide +kernel : decode cJ6_bitCount_0f7a4 14 = .ok (.iand, 1)) ?_
  refine pr_iload_n hC (by decide +kernel : decode cJ6_bitCount_0f7a4 15 = .ok (.iload_n 0, 1)) rfl ?_
  refine pr_iconst hC (2) (by decide +kernel : decode cJ6_bitCount_0f7a4 16 = .ok (.iconst 2, 1)) rfl ?_
  refine pr_iushr hC (by decide +kernel : decode cJ6_bitCount_0f7a4 17 = .ok (.iushr, 1)) ?_
  refine pr_ldcw hC (858993459) (by decide +kernel : decode cJ6_bitCount_0f7a4 18 = .ok (.ldc_w 266, 3)) fk_J6_266 ?_
  refine pr_iand hC (by decide +kernel : decode cJ6_bitCount_0f7a4 21 = .ok (.iand, 1)) ?_
  refine pr_iadd hC (by decide +kernel : decode cJ6_bitCount_0f7a4 22 = .ok (.iadd, 1)) ?_
  refine pv_topi (fun x0_2 e_x0_2 => ?_)
  replace H := H x0_2 e_x0_2
  refine pr_istore_n hC (by decide +kernel : decode cJ6_bitCount_0f7a4 23 = .ok (.istore_n 0, 1)) (by decide) rfl ?_
  refine pr_iload_n hC (by decide +kernel : decode cJ6_bitCount_0f7a4 24 = .ok (.iload_n 0, 1)) rfl ?_
  refine pr_iload_n hC (by decide +kernel : decode cJ6_bitCount_0f7a4 25 = .ok (.iload_n 0, 1)) rfl ?_
  refine pr_iconst hC (4) (by decide +kernel : decode cJ6_bitCount_0f7a4 26 = .ok (.iconst 4, 1)) rfl ?_
  refine pr_iushr hC (by decide +kernel : decode cJ6_bitCount_0f7a4 27 = .ok (.iushr, 1)) ?_
  refine pr_iadd hC (by decide +kernel : decode cJ6_bitCount_0f7a4 28 = .ok (.iadd, 1)) ?_
  refine pr_ldcw hC (252645135) (by decide +kernel : decode cJ6_bitCount_0f7a4 29 = .ok (.ldc_w 267, 3)) fk_J6_267 ?_
  refine pr_iand hC (by decide +kernel : decode cJ6_bitCount_0f7a4 32 = .ok (.iand, 1)) ?_
  refine pv_topi (fun x0_3 e_x0_3 => ?_)
  replace H := H x0_3 e_x0_3
  refine pr_istore_n hC (by decide +kernel : decode cJ6_bitCount_0f7a4 33 = .ok (.istore_n 0, 1)) (by decide) rfl ?_
  refine pr_iload_n hC (by decide +kernel : decode cJ6_bitCount_0f7a4 34 = .ok (.iload_n 0, 1)) rfl ?_
  refine pr_iload_n hC (by decide +kernel : decode cJ6_bitCount_0f7a4 35 = .ok (.iload_n 0, 1)) rfl ?_
  refine pr_bipush hC (8) (by decide +kernel : decode cJ6_bitCount_0f7a4 36 = .ok (.bipush 8, 2)) rfl ?_
  refine pr_iushr hC (by decide +kernel : decode cJ6_bitCount_0f7a4 38 = .ok (.iushr, 1)) ?_
  refine pr_iadd hC (by decide +kernel : decode cJ6_bitCount_0f7a4 39 = .ok (.iadd, 1)) ?_
  refine pv_topi (fun x0_4 e_x0_4 => ?_)
  replace H := H x0_4 e_x0_4
  refine pr_istore_n hC (by decide +kernel : decode cJ6_bitCount_0f7a4 40 = .ok (.istore_n 0, 1)) (by decide) rfl ?_
  refine pr_iload_n hC (by decide +kernel : decode cJ6_bitCount_0f7a4 41 = .ok (.iload_n 0, 1)) rfl ?_
  refine pr_iload_n hC (by decide +kernel : decode cJ6_bitCount_0f7a4 42 = .ok (.iload_n 0, 1)) rfl ?_
  refine pr_bipush hC (16) (by decide +kernel : decode cJ6_bitCount_0f7a4 43 = .ok (.bipush 16, 2)) rfl ?_
  refine pr_iushr hC (by decide +kernel : decode cJ6_bitCount_0f7a4 45 = .ok (.iushr, 1)) ?_
  refine pr_iadd hC (by decide +kernel : decode cJ6_bitCount_0f7a4 46 = .ok (.iadd, 1)) ?_
  refine pv_topi (fun x0_5 e_x0_5 => ?_)
  replace H := H x0_5 e_x0_5
  refine pr_istore_n hC (by decide +kernel : decode cJ6_bitCount_0f7a4 47 = .ok (.istore_n 0, 1)) (by decide) rfl ?_
  refine pr_iload_n hC (by decide +kernel : decode cJ6_bitCount_0f7a4 48 = .ok (.iload_n 0, 1)) rfl ?_
  refine pr_bipush hC (63) (by decide +kernel : decode cJ6_bitCount_0f7a4 49 = .ok (.bipush 63, 2)) rfl ?_
  refine pr_iand hC (by decide +kernel : decode cJ6_bitCount_0f7a4 51 = .ok (.iand, 1)) ?_
  exact pv_iret hM (by decide +kernel : decode cJ6_bitCount_0f7a4 52 = .ok (.ireturn, 1)) hU H
def b_X6_fieldsOf_L4 (o0 : Nat) (x1 : Int32) (post : Int32 → Um → Prop) (k_43 : Int32 → Um → Prop) (rec_ : Int32 → Int32 → Um → Prop) (x2 : Int32) (x3 : Int32) (U : Um) : Prop :=
  oc (uR U o0 0) = 8 ∧ vp_in 0 3 ∧ ((uA U (uR U o0 0) 1 (Int32.toNatClampNeg 0)) ≤ x3 → k_43 x2 U) ∧ (¬ (uA U (uR U o0 0) 1 (Int32.toNatClampNeg 0)) ≤ x3 → oc (uR U o0 0) = 8 ∧ vp_in x3 6 ∧ ((x1 &&& (uA U (uR U o0 0) 14 (Int32.toNatClampNeg x3))) = 0 → ∀ (x3_3 : Int32), x3_3 = x3 + 1 → rec_ x2 x3_3 U) ∧ (¬ (x1 &&& (uA U (uR U o0 0) 14 (Int32.toNatClampNeg x3))) = 0 → ∀ (x2_4 : Int32), x2_4 = x2 ||| ((1 : Int32) <<< (x3 &&& 31)) → ∀ (x3_5 : Int32), x3_5 = x3 + 1 → rec_ x2_4 x3_5 U))
def w_X6_fieldsOf_L4 (o0 : Nat) (x1 : Int32) (post : Int32 → Um → Prop) (k_43 : Int32 → Um → Prop) (n_ : Nat) : Int32 → Int32 → Um → Prop := Nat.rec (motive := fun _ => Int32 → Int32 → Um → Prop) (fun _ _ _ => False) (fun _ ih => b_X6_fieldsOf_L4 o0 x1 post k_43 ih) n_
def w_X6_fieldsOf (o : Nat) (a1 : Int32) (U : Um) (post : Int32 → Um → Prop) : Prop :=
  (∃ n_8, w_X6_fieldsOf_L4 o a1 post (fun x2_6 U_7 => post x2_6 U_7) n_8 0 0 U)
set_option maxHeartbeats 4000000 in
theorem tl_X6_fieldsOf_L4 {l : Launch} {Y : px_Y} {X : px_X} {h0 hh : pe_H} {sz : Nat} (o0 : Nat) (x1 : Int32) (post : Int32 → Um → Prop) (k_43 : Int32 → Um → Prop) (ho0 : oc o0 = 5)  (hC : px_C X Y.1 (pm_A hh sz) cX6_fieldsOf RX6 4) (hM : px_M l X Y.1 hh sz yX6_fieldsOf cX6_fieldsOf 4 (some (.int)) 0 0 0) (hR : X.2.2.2.1 = pm_rm 0 0 0) (hk_43 : ∀ (y2 : Int32) (U : Um) (h : pe_H), k_43 y2 U → rF Y h0 U h → pw X Y.1 (pm_A hh sz) (pm_E X Y.1 hh sz 0 0 (pm_P Y h0 sz (pq_i post))) 43 [none, none, some (.int y2), none] [] h sz 0 0) : ∀ (n_ : Nat) (x2 : Int32) (x3 : Int32) (U : Um) (h : pe_H), rF Y h0 U h → w_X6_fieldsOf_L4 o0 x1 post k_43 n_ x2 x3 U → pw X Y.1 (pm_A hh sz) (pm_E X Y.1 hh sz 0 0 (pm_P Y h0 sz (pq_i post))) 4 [some (.ref (Y.2.1 o0)), some (.int x1), some (.int x2), some (.int x3)] [] h sz 0 0 := by
  intro n_
  induction n_ with
  | zero => intro x2 x3 U h hU H; exact False.elim H
  | succ n_ ih =>
    intro x2 x3 U h hU H
    replace H : b_X6_fieldsOf_L4 o0 x1 post k_43 (w_X6_fieldsOf_L4 o0 x1 post k_43 n_) x2 x3 U := H
    unfold b_X6_fieldsOf_L4 at H
    refine pr_iload_n hC (by decide +kernel : decode cX6_fieldsOf 4 = .ok (.iload_n 3, 1)) rfl ?_
    refine pr_aload_n hC (by decide +kernel : decode cX6_fieldsOf 5 = .ok (.aload_n 0, 1)) rfl ?_
    refine pu_g21 hC fg_X6_41 (by decide +kernel : decode cX6_fieldsOf 6 = .ok (.getfield 41, 3)) hU ho0 (by decide) rfl rfl ?_
    have q_1 := H.1
    replace H := H.2
    refine pu_g1 hC fg_X6_59 (by decide +kernel : decode cX6_fieldsOf 9 = .ok (.getfield 59, 3)) hU q_1 (by decide) rfl (by decide) ?_
    refine pr_iconst hC (0) (by decide +kernel : decode cX6_fieldsOf 12 = .ok (.iconst 0, 1)) rfl ?_
    refine pu_iald hC (by decide +kernel : decode cX6_fieldsOf 13 = .ok (.iaload, 1)) hU q_1 rfl H.1 ?_
    replace H := H.2
    refine pr_icmp_ge hC 43 (by decide +kernel : decode cX6_fieldsOf 14 = .ok (.if_icmp .ge 29, 3)) (by decide) (fun c_14 => ?_) (fun c_14 => ?_)
    · replace H := H.1 c_14
      exact pv_sub [none, none, some (.int x2), none] (And.intro rfl trivial) (hk_43 _ U h H hU)
    replace H := H.2 c_14
    refine pr_iload_n hC (by decide +kernel : decode cX6_fieldsOf 17 = .ok (.iload_n 1, 1)) rfl ?_
    refine pr_aload_n hC (by decide +kernel : decode cX6_fieldsOf 18 = .ok (.aload_n 0, 1)) rfl ?_
    refine pu_g21 hC fg_X6_41 (by decide +kernel : decode cX6_fieldsOf 19 = .ok (.getfield 41, 3)) hU ho0 (by decide) rfl rfl ?_
    have q_2 := H.1
    replace H := H.2
    refine pu_g1 hC fg_X6_146 (by decide +kernel : decode cX6_fieldsOf 22 = .ok (.getfield 146, 3)) hU q_2 (by decide) rfl (by decide) ?_
    refine pr_iload_n hC (by decide +kernel : decode cX6_fieldsOf 25 = .ok (.iload_n 3, 1)) rfl ?_
    refine pu_iald hC (by decide +kernel : decode cX6_fieldsOf 26 = .ok (.iaload, 1)) hU q_2 rfl H.1 ?_
    replace H := H.2
    refine pr_iand hC (by decide +kernel : decode cX6_fieldsOf 27 = .ok (.iand, 1)) ?_
    refine pr_if_eq hC 37 (by decide +kernel : decode cX6_fieldsOf 28 = .ok (.ifCond .eq 9, 3)) (by decide) (fun c_28 => ?_) (fun c_28 => ?_)
    · replace H := H.1 c_28
      refine pv_iinc hC (v := x3 + 1) (by decide +kernel : decode cX6_fieldsOf 37 = .ok (.iinc 3 1, 3)) rfl (by decide) rfl rfl (fun x3_3 e_x3_3 => ?_)
      replace H := H x3_3 e_x3_3
      refine pr_goto hC 4 (by decide +kernel : decode cX6_fieldsOf 40 = .ok (.goto (-36), 3)) (by decide) ?_
      exact pv_sub [some (.ref (Y.2.1 o0)), some (.int x1), some (.int x2), some (.int x3_3)] (And.intro rfl (And.intro rfl (And.intro rfl (And.intro rfl trivial)))) (ih _ _ U h hU H)
    replace H := H.2 c_28
    refine pr_iload_n hC (by decide +kernel : decode cX6_fieldsOf 31 = .ok (.iload_n 2, 1)) rfl ?_
    refine pr_iconst hC (1) (by decide +kernel : decode cX6_fieldsOf 32 = .ok (.iconst 1, 1)) rfl ?_
    refine pr_iload_n hC (by decide +kernel : decode cX6_fieldsOf 33 = .ok (.iload_n 3, 1)) rfl ?_
    refine pr_ishl hC (by decide +kernel : decode cX6_fieldsOf 34 = .ok (.ishl, 1)) ?_
    refine pr_ior hC (by decide +kernel : decode cX6_fieldsOf 35 = .ok (.ior, 1)) ?_
    refine pv_topi (fun x2_4 e_x2_4 => ?_)
    replace H := H x2_4 e_x2_4
    refine pr_istore_n hC (by decide +kernel : decode cX6_fieldsOf 36 = .ok (.istore_n 2, 1)) (by decide) rfl ?_
    refine pv_iinc hC (v := x3 + 1) (by decide +kernel : decode cX6_fieldsOf 37 = .ok (.iinc 3 1, 3)) rfl (by decide) rfl rfl (fun x3_5 e_x3_5 => ?_)
    replace H := H x3_5 e_x3_5
    refine pr_goto hC 4 (by decide +kernel : decode cX6_fieldsOf 40 = .ok (.goto (-36), 3)) (by decide) ?_
    exact pv_sub [some (.ref (Y.2.1 o0)), some (.int x1), some (.int x2_4), some (.int x3_5)] (And.intro rfl (And.intro rfl (And.intro rfl (And.intro rfl trivial)))) (ih _ _ U h hU H)
set_option maxHeartbeats 4000000 in
theorem t_X6_fieldsOf {l : Launch} {Y : px_Y} {o : Nat} {a1 : Int32} {U : Um} {post : Int32 → Um → Prop} (ho : oc o = 5) (H : w_X6_fieldsOf o a1 U post) : um l Y 0 yX6_fieldsOf cX6_fieldsOf 4 (some (.int)) [.ref (Y.2.1 o), .int a1] U (pq_i post) := by
  unfold w_X6_fieldsOf at H
  refine um_of (by decide) (Nat.le_of_ble_eq_true rfl) [some (.ref (Y.2.1 o)), some (.int a1), none, none] rfl (fun X h0 hh sz hM hU => ?_)
  have hC := hM.1
  have hR := hM.2.2.1
  refine pr_iconst hC (0) (by decide +kernel : decode cX6_fieldsOf 0 = .ok (.iconst 0, 1)) rfl ?_
  refine pr_istore_n hC (by decide +kernel : decode cX6_fieldsOf 1 = .ok (.istore_n 2, 1)) (by decide) rfl ?_
  refine pr_iconst hC (0) (by decide +kernel : decode cX6_fieldsOf 2 = .ok (.iconst 0, 1)) rfl ?_
  refine pr_istore_n hC (by decide +kernel : decode cX6_fieldsOf 3 = .ok (.istore_n 3, 1)) (by decide) rfl ?_
  obtain ⟨n_8, H⟩ := H
  refine pv_sub [some (.ref (Y.2.1 o)), some (.int a1), some (.int 0), some (.int 0)] (And.intro rfl (And.intro rfl (And.intro rfl (And.intro rfl trivial)))) ?_
  refine tl_X6_fieldsOf_L4 _ _ _ _ ho hC hM hR (fun x2_6 U_7 h H hU => ?_) n_8 _ _ U hh hU H
  refine pr_iload_n hC (by decide +kernel : decode cX6_fieldsOf 43 = .ok (.iload_n 2, 1)) rfl ?_
  exact pv_iret hM (by decide +kernel : decode cX6_fieldsOf 44 = .ok (.ireturn, 1)) hU H
def w_X6_hindrance (o : Nat) (a1 : Int32) (a2 : Int32) (a3 : Int32) (a4 : Int32) (U : Um) (post : Int32 → Um → Prop) : Prop :=
  oc (uR U o 0) = 8 ∧ vp_in a1 16 ∧ oc (uAR U (uR U o 0) 6 (Int32.toNatClampNeg a1)) = 1 ∧ oc (uR U o 0) = 8 ∧ vp_in (uI U (uAR U (uR U o 0) 6 (Int32.toNatClampNeg a1)) 3) 7 ∧ ∀ (x6_5 : Int32), x6_5 = a4 &&& (uA U (uR U o 0) 13 (Int32.toNatClampNeg (uI U (uAR U (uR U o 0) 6 (Int32.toNatClampNeg a1)) 3))) → (((a4 >>> (a1 &&& 31)) &&& 1) = 0 → vp_in a3 10 ∧ w_X2_needOf (uAR U (uR U o 0) 6 (Int32.toNatClampNeg a1)) a2 U (fun r_7 U_6 => (r_7 ≤ (uA U o 4 (Int32.toNatClampNeg a3)) → oc (uR U_6 o 0) = 8 ∧ vp_in a3 10 ∧ (((uA U_6 (uR U_6 o 0) 4 (Int32.toNatClampNeg a3)) &&& (((1 : Int32) <<< ((uI U_6 (uAR U (uR U o 0) 6 (Int32.toNatClampNeg a1)) 0) &&& 31)) ||| ((1 : Int32) <<< ((uI U_6 (uAR U (uR U o 0) 6 (Int32.toNatClampNeg a1)) 1) &&& 31)))) = 0 → oc (uR U_6 o 0) = 8 ∧ vp_in a3 10 ∧ ((((uA U_6 (uR U_6 o 0) 5 (Int32.toNatClampNeg a3)) >>> ((uI U_6 (uAR U (uR U o 0) 6 (Int32.toNatClampNeg a1)) 3) &&& 31)) &&& 1) = 0 → w_J6_bitCount_0f7a4 x6_5 U_6 (fun r_11 U_10 => oc (uR U_10 o 0) = 8 ∧ (r_11 < (uI U_10 (uR U_10 o 0) 9) → ((x6_5 &&& (uI U_10 (uAR U (uR U o 0) 6 (Int32.toNatClampNeg a1)) 8)) = 0 → oc (uR U_10 o 0) = 8 ∧ oc (uR U_10 (uR U_10 o 0) 10) = 4 ∧ oc (uR U_10 o 0) = 8 ∧ vp_in a3 10 ∧ vp_in (uA U_10 (uR U_10 o 0) 3 (Int32.toNatClampNeg a3)) 6 ∧ vp_in (uI U_10 (uAR U (uR U o 0) 6 (Int32.toNatClampNeg a1)) 2) 6 ∧ ((uA U_10 (uR U_10 (uR U_10 o 0) 10) (ki 2 (Int32.toNatClampNeg (uA U_10 (uR U_10 o 0) 3 (Int32.toNatClampNeg a3)))) (Int32.toNatClampNeg (uI U_10 (uAR U (uR U o 0) 6 (Int32.toNatClampNeg a1)) 2))) = (-1) → post 10 U_10) ∧ (¬ (uA U_10 (uR U_10 (uR U_10 o 0) 10) (ki 2 (Int32.toNatClampNeg (uA U_10 (uR U_10 o 0) 3 (Int32.toNatClampNeg a3)))) (Int32.toNatClampNeg (uI U_10 (uAR U (uR U o 0) 6 (Int32.toNatClampNeg a1)) 2))) = (-1) → ((x6_5 &&& (uI U_10 (uAR U (uR U o 0) 6 (Int32.toNatClampNeg a1)) 9)) = 0 → w_X6_fieldsOf o (x6_5 ||| ((1 : Int32) <<< (a1 &&& 31))) U_10 (fun r_18 U_17 => w_J6_bitCount_0f7a4 r_18 U_17 (fun r_20 U_19 => (r_20 ≤ 2 → post 0 U_19) ∧ (¬ r_20 ≤ 2 → post 11 U_19)))) ∧ (¬ (x6_5 &&& (uI U_10 (uAR U (uR U o 0) 6 (Int32.toNatClampNeg a1)) 9)) = 0 → post 10 U_10))) ∧ (¬ (x6_5 &&& (uI U_10 (uAR U (uR U o 0) 6 (Int32.toNatClampNeg a1)) 8)) = 0 → post 9 U_10)) ∧ (¬ r_11 < (uI U_10 (uR U_10 o 0) 9) → post 8 U_10))) ∧ (¬ (((uA U_6 (uR U_6 o 0) 5 (Int32.toNatClampNeg a3)) >>> ((uI U_6 (uAR U (uR U o 0) 6 (Int32.toNatClampNeg a1)) 3) &&& 31)) &&& 1) = 0 → post 7 U_6)) ∧ (¬ ((uA U_6 (uR U_6 o 0) 4 (Int32.toNatClampNeg a3)) &&& (((1 : Int32) <<< ((uI U_6 (uAR U (uR U o 0) 6 (Int32.toNatClampNeg a1)) 0) &&& 31)) ||| ((1 : Int32) <<< ((uI U_6 (uAR U (uR U o 0) 6 (Int32.toNatClampNeg a1)) 1) &&& 31)))) = 0 → post 6 U_6)) ∧ (¬ r_7 ≤ (uA U o 4 (Int32.toNatClampNeg a3)) → post 5 U_6))) ∧ (¬ ((a4 >>> (a1 &&& 31)) &&& 1) = 0 → post 4 U)
set_option maxHeartbeats 4000000 in
theorem t_X6_hindrance {l : Launch} {Y : px_Y} {o : Nat} {a1 : Int32} {a2 : Int32} {a3 : Int32} {a4 : Int32} {U : Um} {post : Int32 → Um → Prop} (ho : oc o = 5) (H : w_X6_hindrance o a1 a2 a3 a4 U post) : um l Y 1 yX6_hindrance cX6_hindrance 7 (some (.int)) [.ref (Y.2.1 o), .int a1, .int a2, .int a3, .int a4] U (pq_i post) := by
  unfold w_X6_hindrance at H
  refine um_of (by decide) (Nat.le_of_ble_eq_true rfl) [some (.ref (Y.2.1 o)), some (.int a1), some (.int a2), some (.int a3), some (.int a4), none, none] rfl (fun X h0 hh sz hM hU => ?_)
  have hC := hM.1
  have hR := hM.2.2.1
  refine pr_aload_n hC (by decide +kernel : decode cX6_hindrance 0 = .ok (.aload_n 0, 1)) rfl ?_
  refine pu_g21 hC fg_X6_41 (by decide +kernel : decode cX6_hindrance 1 = .ok (.getfield 41, 3)) hU ho (by decide) rfl rfl ?_
  have q_1 := H.1
  replace H := H.2
  refine pu_g1 hC fg_X6_62 (by decide +kernel : decode cX6_hindrance 4 = .ok (.getfield 62, 3)) hU q_1 (by decide) rfl (by decide) ?_
  refine pr_iload_n hC (by decide +kernel : decode cX6_hindrance 7 = .ok (.iload_n 1, 1)) rfl ?_
  have q_2 := H.1
  replace H := H.2
  refine pu_aald8 hC (by decide +kernel : decode cX6_hindrance 8 = .ok (.aaload, 1)) hU q_1 rfl q_2 ?_
  have q_3 := H.1
  replace H := H.2
  refine pr_astore hC (by decide +kernel : decode cX6_hindrance 9 = .ok (.astore 5, 2)) (by decide) rfl ?_
  refine pr_iload hC (by decide +kernel : decode cX6_hindrance 11 = .ok (.iload 4, 2)) rfl ?_
  refine pr_aload_n hC (by decide +kernel : decode cX6_hindrance 13 = .ok (.aload_n 0, 1)) rfl ?_
  refine pu_g21 hC fg_X6_41 (by decide +kernel : decode cX6_hindrance 14 = .ok (.getfield 41, 3)) hU ho (by decide) rfl rfl ?_
  have q_4 := H.1
  replace H := H.2
  refine pu_g1 hC fg_X6_100 (by decide +kernel : decode cX6_hindrance 17 = .ok (.getfield 100, 3)) hU q_4 (by decide) rfl (by decide) ?_
  refine pr_aload hC (by decide +kernel : decode cX6_hindrance 20 = .ok (.aload 5, 2)) rfl ?_
  refine pu_g0 hC fg_X6_66 (by decide +kernel : decode cX6_hindrance 22 = .ok (.getfield 66, 3)) hU q_3 (by decide) rfl rfl ?_
  refine pu_iald hC (by decide +kernel : decode cX6_hindrance 25 = .ok (.iaload, 1)) hU q_4 rfl H.1 ?_
  replace H := H.2
  refine pr_iand hC (by decide +kernel : decode cX6_hindrance 26 = .ok (.iand, 1)) ?_
  refine pv_topi (fun x6_5 e_x6_5 => ?_)
  replace H := H x6_5 e_x6_5
  refine pr_istore hC (by decide +kernel : decode cX6_hindrance 27 = .ok (.istore 6, 2)) (by decide) rfl ?_
  refine pr_iload hC (by decide +kernel : decode cX6_hindrance 29 = .ok (.iload 4, 2)) rfl ?_
  refine pr_iload_n hC (by decide +kernel : decode cX6_hindrance 31 = .ok (.iload_n 1, 1)) rfl ?_
  refine pr_ishr hC (by decide +kernel : decode cX6_hindrance 32 = .ok (.ishr, 1)) ?_
  refine pr_iconst hC (1) (by decide +kernel : decode cX6_hindrance 33 = .ok (.iconst 1, 1)) rfl ?_
  refine pr_iand hC (by decide +kernel : decode cX6_hindrance 34 = .ok (.iand, 1)) ?_
  refine pr_if_eq hC 40 (by decide +kernel : decode cX6_hindrance 35 = .ok (.ifCond .eq 5, 3)) (by decide) (fun c_35 => ?_) (fun c_35 => ?_)
  · replace H := H.1 c_35
    refine pr_aload_n hC (by decide +kernel : decode cX6_hindrance 40 = .ok (.aload_n 0, 1)) rfl ?_
    refine pu_g1 hC fg_X6_18 (by decide +kernel : decode cX6_hindrance 41 = .ok (.getfield 18, 3)) hU ho (by decide) rfl (by decide) ?_
    refine pr_iload_n hC (by decide +kernel : decode cX6_hindrance 44 = .ok (.iload_n 3, 1)) rfl ?_
    refine pu_iald hC (by decide +kernel : decode cX6_hindrance 45 = .ok (.iaload, 1)) hU ho rfl H.1 ?_
    replace H := H.2
    refine pr_aload hC (by decide +kernel : decode cX6_hindrance 46 = .ok (.aload 5, 2)) rfl ?_
    refine pr_iload_n hC (by decide +kernel : decode cX6_hindrance 48 = .ok (.iload_n 2, 1)) rfl ?_
    refine vc_Vi hC hR [.int a2] fv_X6_103 (by decide +kernel : decode cX6_hindrance 49 = .ok (.invokevirtual 103, 3)) hU (t_X2_needOf q_3 H) q_3 (by decide) rfl rfl rfl (Nat.le_of_ble_eq_true rfl) (Nat.le_of_ble_eq_true rfl) (Nat.le_refl 0) (Nat.le_refl 0) (fun r_7 U_6 h H hU => ?_)
    refine pr_icmp_ge hC 57 (by decide +kernel : decode cX6_hindrance 52 = .ok (.if_icmp .ge 5, 3)) (by decide) (fun c_52 => ?_) (fun c_52 => ?_)
    · replace H := H.1 c_52
      refine pr_aload_n hC (by decide +kernel : decode cX6_hindrance 57 = .ok (.aload_n 0, 1)) rfl ?_
      refine pu_g21 hC fg_X6_41 (by decide +kernel : decode cX6_hindrance 58 = .ok (.getfield 41, 3)) hU ho (by decide) rfl rfl ?_
      have q_8 := H.1
      replace H := H.2
      refine pu_g1 hC fg_X6_106 (by decide +kernel : decode cX6_hindrance 61 = .ok (.getfield 106, 3)) hU q_8 (by decide) rfl (by decide) ?_
      refine pr_iload_n hC (by decide +kernel : decode cX6_hindrance 64 = .ok (.iload_n 3, 1)) rfl ?_
      refine pu_iald hC (by decide +kernel : decode cX6_hindrance 65 = .ok (.iaload, 1)) hU q_8 rfl H.1 ?_
      replace H := H.2
      refine pr_iconst hC (1) (by decide +kernel : decode cX6_hindrance 66 = .ok (.iconst 1, 1)) rfl ?_
      refine pr_aload hC (by decide +kernel : decode cX6_hindrance 67 = .ok (.aload 5, 2)) rfl ?_
      refine pu_g0 hC fg_X6_109 (by decide +kernel : decode cX6_hindrance 69 = .ok (.getfield 109, 3)) hU q_3 (by decide) rfl rfl ?_
      refine pr_ishl hC (by decide +kernel : decode cX6_hindrance 72 = .ok (.ishl, 1)) ?_
      refine pr_iconst hC (1) (by decide +kernel : decode cX6_hindrance 73 = .ok (.iconst 1, 1)) rfl ?_
      refine pr_aload hC (by decide +kernel : decode cX6_hindrance 74 = .ok (.aload 5, 2)) rfl ?_
      refine pu_g0 hC fg_X6_112 (by decide +kernel : decode cX6_hindrance 76 = .ok (.getfield 112, 3)) hU q_3 (by decide) rfl rfl ?_
      refine pr_ishl hC (by decide +kernel : decode cX6_hindrance 79 = .ok (.ishl, 1)) ?_
      refine pr_ior hC (by decide +kernel : decode cX6_hindrance 80 = .ok (.ior, 1)) ?_
      refine pr_iand hC (by decide +kernel : decode cX6_hindrance 81 = .ok (.iand, 1)) ?_
      refine pr_if_eq hC 88 (by decide +kernel : decode cX6_hindrance 82 = .ok (.ifCond .eq 6, 3)) (by decide) (fun c_82 => ?_) (fun c_82 => ?_)
      · replace H := H.1 c_82
        refine pr_aload_n hC (by decide +kernel : decode cX6_hindrance 88 = .ok (.aload_n 0, 1)) rfl ?_
        refine pu_g21 hC fg_X6_41 (by decide +kernel : decode cX6_hindrance 89 = .ok (.getfield 41, 3)) hU ho (by decide) rfl rfl ?_
        have q_9 := H.1
        replace H := H.2
        refine pu_g1 hC fg_X6_115 (by decide +kernel : decode cX6_hindrance 92 = .ok (.getfield 115, 3)) hU q_9 (by decide) rfl (by decide) ?_
        refine pr_iload_n hC (by decide +kernel : decode cX6_hindrance 95 = .ok (.iload_n 3, 1)) rfl ?_
        refine pu_iald hC (by decide +kernel : decode cX6_hindrance 96 = .ok (.iaload, 1)) hU q_9 rfl H.1 ?_
        replace H := H.2
        refine pr_aload hC (by decide +kernel : decode cX6_hindrance 97 = .ok (.aload 5, 2)) rfl ?_
        refine pu_g0 hC fg_X6_66 (by decide +kernel : decode cX6_hindrance 99 = .ok (.getfield 66, 3)) hU q_3 (by decide) rfl rfl ?_
        refine pr_ishr hC (by decide +kernel : decode cX6_hindrance 102 = .ok (.ishr, 1)) ?_
        refine pr_iconst hC (1) (by decide +kernel : decode cX6_hindrance 103 = .ok (.iconst 1, 1)) rfl ?_
        refine pr_iand hC (by decide +kernel : decode cX6_hindrance 104 = .ok (.iand, 1)) ?_
        refine pr_if_eq hC 111 (by decide +kernel : decode cX6_hindrance 105 = .ok (.ifCond .eq 6, 3)) (by decide) (fun c_105 => ?_) (fun c_105 => ?_)
        · replace H := H.1 c_105
          refine pr_iload hC (by decide +kernel : decode cX6_hindrance 111 = .ok (.iload 6, 2)) rfl ?_
          refine vc_Si hC hR [.int x6_5] fv_X6_79 (by decide +kernel : decode cX6_hindrance 113 = .ok (.invokestatic 79, 3)) hU (t_J6_bitCount_0f7a4  H) rfl rfl (Nat.le_of_ble_eq_true rfl) (Nat.le_of_ble_eq_true rfl) (Nat.le_refl 0) (Nat.le_refl 0) (fun r_11 U_10 h H hU => ?_)
          refine pr_aload_n hC (by decide +kernel : decode cX6_hindrance 116 = .ok (.aload_n 0, 1)) rfl ?_
          refine pu_g21 hC fg_X6_41 (by decide +kernel : decode cX6_hindrance 117 = .ok (.getfield 41, 3)) hU ho (by decide) rfl rfl ?_
          have q_12 := H.1
          replace H := H.2
          refine pu_g0 hC fg_X6_118 (by decide +kernel : decode cX6_hindrance 120 = .ok (.getfield 118, 3)) hU q_12 (by decide) rfl rfl ?_
          refine pr_icmp_lt hC 129 (by decide +kernel : decode cX6_hindrance 123 = .ok (.if_icmp .lt 6, 3)) (by decide) (fun c_123 => ?_) (fun c_123 => ?_)
          · replace H := H.1 c_123
            refine pr_iload hC (by decide +kernel : decode cX6_hindrance 129 = .ok (.iload 6, 2)) rfl ?_
            refine pr_aload hC (by decide +kernel : decode cX6_hindrance 131 = .ok (.aload 5, 2)) rfl ?_
            refine pu_g0 hC fg_X6_121 (by decide +kernel : decode cX6_hindrance 133 = .ok (.getfield 121, 3)) hU q_3 (by decide) rfl rfl ?_
            refine pr_iand hC (by decide +kernel : decode cX6_hindrance 136 = .ok (.iand, 1)) ?_
            refine pr_if_eq hC 143 (by decide +kernel : decode cX6_hindrance 137 = .ok (.ifCond .eq 6, 3)) (by decide) (fun c_137 => ?_) (fun c_137 => ?_)
            · replace H := H.1 c_137
              refine pr_aload_n hC (by decide +kernel : decode cX6_hindrance 143 = .ok (.aload_n 0, 1)) rfl ?_
              refine pu_g21 hC fg_X6_41 (by decide +kernel : decode cX6_hindrance 144 = .ok (.getfield 41, 3)) hU ho (by decide) rfl rfl ?_
              have q_13 := H.1
              replace H := H.2
              refine pu_g21 hC fg_X6_124 (by decide +kernel : decode cX6_hindrance 147 = .ok (.getfield 124, 3)) hU q_13 (by decide) rfl rfl ?_
              have q_14 := H.1
              replace H := H.2
              refine pu_g1 hC fg_X6_128 (by decide +kernel : decode cX6_hindrance 150 = .ok (.getfield 128, 3)) hU q_14 (by decide) rfl (by decide) ?_
              refine pr_aload_n hC (by decide +kernel : decode cX6_hindrance 153 = .ok (.aload_n 0, 1)) rfl ?_
              refine pu_g21 hC fg_X6_41 (by decide +kernel : decode cX6_hindrance 154 = .ok (.getfield 41, 3)) hU ho (by decide) rfl rfl ?_
              have q_15 := H.1
              replace H := H.2
              refine pu_g1 hC fg_X6_134 (by decide +kernel : decode cX6_hindrance 157 = .ok (.getfield 134, 3)) hU q_15 (by decide) rfl (by decide) ?_
              refine pr_iload_n hC (by decide +kernel : decode cX6_hindrance 160 = .ok (.iload_n 3, 1)) rfl ?_
              refine pu_iald hC (by decide +kernel : decode cX6_hindrance 161 = .ok (.iaload, 1)) hU q_15 rfl H.1 ?_
              replace H := H.2
              have q_16 := H.1
              replace H := H.2
              refine pu_aald6 hC (by decide +kernel : decode cX6_hindrance 162 = .ok (.aaload, 1)) hU q_14 rfl q_16 ?_
              refine pr_aload hC (by decide +kernel : decode cX6_hindrance 163 = .ok (.aload 5, 2)) rfl ?_
              refine pu_g0 hC fg_X6_137 (by decide +kernel : decode cX6_hindrance 165 = .ok (.getfield 137, 3)) hU q_3 (by decide) rfl rfl ?_
              refine pu_iald7 hC (by decide +kernel : decode cX6_hindrance 168 = .ok (.iaload, 1)) hU q_14 rfl (vp_lt q_16) H.1 ?_
              replace H := H.2
              refine pr_iconst hC (-1) (by decide +kernel : decode cX6_hindrance 169 = .ok (.iconst (-1), 1)) rfl ?_
              refine pr_icmp_eq hC 184 (by decide +kernel : decode cX6_hindrance 170 = .ok (.if_icmp .eq 14, 3)) (by decide) (fun c_170 => ?_) (fun c_170 => ?_)
              · replace H := H.1 c_170
                refine pr_bipush hC (10) (by decide +kernel : decode cX6_hindrance 184 = .ok (.bipush 10, 2)) rfl ?_
                exact pv_iret hM (by decide +kernel : decode cX6_hindrance 186 = .ok (.ireturn, 1)) hU H
              replace H := H.2 c_170
              refine pr_iload hC (by decide +kernel : decode cX6_hindrance 173 = .ok (.iload 6, 2)) rfl ?_
              refine pr_aload hC (by decide +kernel : decode cX6_hindrance 175 = .ok (.aload 5, 2)) rfl ?_
              refine pu_g0 hC fg_X6_140 (by decide +kernel : decode cX6_hindrance 177 = .ok (.getfield 140, 3)) hU q_3 (by decide) rfl rfl ?_
              refine pr_iand hC (by decide +kernel : decode cX6_hindrance 180 = .ok (.iand, 1)) ?_
              refine pr_if_eq hC 187 (by decide +kernel : decode cX6_hindrance 181 = .ok (.ifCond .eq 6, 3)) (by decide) (fun c_181 => ?_) (fun c_181 => ?_)
              · replace H := H.1 c_181
                refine pr_aload_n hC (by decide +kernel : decode cX6_hindrance 187 = .ok (.aload_n 0, 1)) rfl ?_
                refine pr_iload hC (by decide +kernel : decode cX6_hindrance 188 = .ok (.iload 6, 2)) rfl ?_
                refine pr_iconst hC (1) (by decide +kernel : decode cX6_hindrance 190 = .ok (.iconst 1, 1)) rfl ?_
                refine pr_iload_n hC (by decide +kernel : decode cX6_hindrance 191 = .ok (.iload_n 1, 1)) rfl ?_
                refine pr_ishl hC (by decide +kernel : decode cX6_hindrance 192 = .ok (.ishl, 1)) ?_
                refine pr_ior hC (by decide +kernel : decode cX6_hindrance 193 = .ok (.ior, 1)) ?_
                refine vc_Vi hC hR [.int (x6_5 ||| ((1 : Int32) <<< (a1 &&& 31)))] fv_X6_143 (by decide +kernel : decode cX6_hindrance 194 = .ok (.invokevirtual 143, 3)) hU (t_X6_fieldsOf ho H) ho (by decide) rfl rfl rfl (Nat.le_of_ble_eq_true rfl) (Nat.le_of_ble_eq_true rfl) (Nat.le_refl 0) (Nat.le_refl 0) (fun r_18 U_17 h H hU => ?_)
                refine vc_Si hC hR [.int r_18] fv_X6_79 (by decide +kernel : decode cX6_hindrance 197 = .ok (.invokestatic 79, 3)) hU (t_J6_bitCount_0f7a4  H) rfl rfl (Nat.le_of_ble_eq_true rfl) (Nat.le_of_ble_eq_true rfl) (Nat.le_refl 0) (Nat.le_refl 0) (fun r_20 U_19 h H hU => ?_)
                refine pr_iconst hC (2) (by decide +kernel : decode cX6_hindrance 200 = .ok (.iconst 2, 1)) rfl ?_
                refine pr_icmp_le hC 209 (by decide +kernel : decode cX6_hindrance 201 = .ok (.if_icmp .le 8, 3)) (by decide) (fun c_201 => ?_) (fun c_201 => ?_)
                · replace H := H.1 c_201
                  refine pr_iconst hC (0) (by decide +kernel : decode cX6_hindrance 209 = .ok (.iconst 0, 1)) rfl ?_
                  exact pv_iret hM (by decide +kernel : decode cX6_hindrance 210 = .ok (.ireturn, 1)) hU H
                replace H := H.2 c_201
                refine pr_bipush hC (11) (by decide +kernel : decode cX6_hindrance 204 = .ok (.bipush 11, 2)) rfl ?_
                refine pr_goto hC 210 (by decide +kernel : decode cX6_hindrance 206 = .ok (.goto 4, 3)) (by decide) ?_
                exact pv_iret hM (by decide +kernel : decode cX6_hindrance 210 = .ok (.ireturn, 1)) hU H
              replace H := H.2 c_181
              refine pr_bipush hC (10) (by decide +kernel : decode cX6_hindrance 184 = .ok (.bipush 10, 2)) rfl ?_
              exact pv_iret hM (by decide +kernel : decode cX6_hindrance 186 = .ok (.ireturn, 1)) hU H
            replace H := H.2 c_137
            refine pr_bipush hC (9) (by decide +kernel : decode cX6_hindrance 140 = .ok (.bipush 9, 2)) rfl ?_
            exact pv_iret hM (by decide +kernel : decode cX6_hindrance 142 = .ok (.ireturn, 1)) hU H
          replace H := H.2 c_123
          refine pr_bipush hC (8) (by decide +kernel : decode cX6_hindrance 126 = .ok (.bipush 8, 2)) rfl ?_
          exact pv_iret hM (by decide +kernel : decode cX6_hindrance 128 = .ok (.ireturn, 1)) hU H
        replace H := H.2 c_105
        refine pr_bipush hC (7) (by decide +kernel : decode cX6_hindrance 108 = .ok (.bipush 7, 2)) rfl ?_
        exact pv_iret hM (by decide +kernel : decode cX6_hindrance 110 = .ok (.ireturn, 1)) hU H
      replace H := H.2 c_82
      refine pr_bipush hC (6) (by decide +kernel : decode cX6_hindrance 85 = .ok (.bipush 6, 2)) rfl ?_
      exact pv_iret hM (by decide +kernel : decode cX6_hindrance 87 = .ok (.ireturn, 1)) hU H
    replace H := H.2 c_52
    refine pr_iconst hC (5) (by decide +kernel : decode cX6_hindrance 55 = .ok (.iconst 5, 1)) rfl ?_
    exact pv_iret hM (by decide +kernel : decode cX6_hindrance 56 = .ok (.ireturn, 1)) hU H
  replace H := H.2 c_35
  refine pr_iconst hC (4) (by decide +kernel : decode cX6_hindrance 38 = .ok (.iconst 4, 1)) rfl ?_
  exact pv_iret hM (by decide +kernel : decode cX6_hindrance 39 = .ok (.ireturn, 1)) hU H
def w_X6_reason (o : Nat) (a1 : Int32) (a2 : Int32) (a3 : Int32) (U : Um) (post : Int32 → Um → Prop) : Prop :=
  oc (uR U o 0) = 8 ∧ w_X9_isSeat (uR U o 0) a1 a2 U (fun r_3 U_2 => (r_3 = 0 → post 1 U_2) ∧ (¬ r_3 = 0 → oc (uR U_2 o 0) = 8 ∧ w_X9_isNamed (uR U_2 o 0) 2 a3 U_2 (fun r_6 U_5 => (r_6 = 0 → post 1 U_5) ∧ (¬ r_6 = 0 → w_X6_isPlayed o a1 U_5 (fun r_8 U_7 => (r_8 = 0 → w_X9_placeOf a1 a2 U_7 (fun r_10 U_9 => vp_in r_10 48 ∧ ((uA U_9 o 2 (Int32.toNatClampNeg r_10)) = (-1) → vp_in a3 10 ∧ w_X6_hindrance o a1 a2 a3 (uA U_9 o 7 (Int32.toNatClampNeg a3)) U_9 (fun r_12 U_11 => post r_12 U_11)) ∧ (¬ (uA U_9 o 2 (Int32.toNatClampNeg r_10)) = (-1) → post 3 U_9))) ∧ (¬ r_8 = 0 → post 2 U_7))))))
set_option maxHeartbeats 4000000 in
theorem t_X6_reason {l : Launch} {Y : px_Y} {o : Nat} {a1 : Int32} {a2 : Int32} {a3 : Int32} {U : Um} {post : Int32 → Um → Prop} (ho : oc o = 5) (H : w_X6_reason o a1 a2 a3 U post) : um l Y 2 yX6_reason cX6_reason 4 (some (.int)) [.ref (Y.2.1 o), .int a1, .int a2, .int a3] U (pq_i post) := by
  unfold w_X6_reason at H
  refine um_of (by decide) (Nat.le_of_ble_eq_true rfl) [some (.ref (Y.2.1 o)), some (.int a1), some (.int a2), some (.int a3)] rfl (fun X h0 hh sz hM hU => ?_)
  have hC := hM.1
  have hR := hM.2.2.1
  refine pr_aload_n hC (by decide +kernel : decode cX6_reason 0 = .ok (.aload_n 0, 1)) rfl ?_
  refine pu_g21 hC fg_X6_41 (by decide +kernel : decode cX6_reason 1 = .ok (.getfield 41, 3)) hU ho (by decide) rfl rfl ?_
  have q_1 := H.1
  replace H := H.2
  refine pr_iload_n hC (by decide +kernel : decode cX6_reason 4 = .ok (.iload_n 1, 1)) rfl ?_
  refine pr_iload_n hC (by decide +kernel : decode cX6_reason 5 = .ok (.iload_n 2, 1)) rfl ?_
  refine vc_Vi hC hR [.int a1, .int a2] fv_X6_85 (by decide +kernel : decode cX6_reason 6 = .ok (.invokevirtual 85, 3)) hU (t_X9_isSeat q_1 H) q_1 (by decide) rfl rfl rfl (Nat.le_of_ble_eq_true rfl) (Nat.le_of_ble_eq_true rfl) (Nat.le_refl 0) (Nat.le_refl 0) (fun r_3 U_2 h H hU => ?_)
  refine pr_if_eq hC 24 (by decide +kernel : decode cX6_reason 9 = .ok (.ifCond .eq 15, 3)) (by decide) (fun c_9 => ?_) (fun c_9 => ?_)
  · replace H := H.1 c_9
    refine pr_iconst hC (1) (by decide +kernel : decode cX6_reason 24 = .ok (.iconst 1, 1)) rfl ?_
    exact pv_iret hM (by decide +kernel : decode cX6_reason 25 = .ok (.ireturn, 1)) hU H
  replace H := H.2 c_9
  refine pr_aload_n hC (by decide +kernel : decode cX6_reason 12 = .ok (.aload_n 0, 1)) rfl ?_
  refine pu_g21 hC fg_X6_41 (by decide +kernel : decode cX6_reason 13 = .ok (.getfield 41, 3)) hU ho (by decide) rfl rfl ?_
  have q_4 := H.1
  replace H := H.2
  refine pr_iconst hC (2) (by decide +kernel : decode cX6_reason 16 = .ok (.iconst 2, 1)) rfl ?_
  refine pr_iload_n hC (by decide +kernel : decode cX6_reason 17 = .ok (.iload_n 3, 1)) rfl ?_
  refine vc_Vi hC hR [.int 2, .int a3] fv_X6_89 (by decide +kernel : decode cX6_reason 18 = .ok (.invokevirtual 89, 3)) hU (t_X9_isNamed q_4 H) q_4 (by decide) rfl rfl rfl (Nat.le_of_ble_eq_true rfl) (Nat.le_of_ble_eq_true rfl) (Nat.le_refl 0) (Nat.le_refl 0) (fun r_6 U_5 h H hU => ?_)
  refine pr_if_ne hC 26 (by decide +kernel : decode cX6_reason 21 = .ok (.ifCond .ne 5, 3)) (by decide) (fun c_21 => ?_) (fun c_21 => ?_)
  · replace H := H.2 c_21
    refine pr_aload_n hC (by decide +kernel : decode cX6_reason 26 = .ok (.aload_n 0, 1)) rfl ?_
    refine pr_iload_n hC (by decide +kernel : decode cX6_reason 27 = .ok (.iload_n 1, 1)) rfl ?_
    refine vc_Vi hC hR [.int a1] fv_X6_92 (by decide +kernel : decode cX6_reason 28 = .ok (.invokevirtual 92, 3)) hU (t_X6_isPlayed ho H) ho (by decide) rfl rfl rfl (Nat.le_of_ble_eq_true rfl) (Nat.le_of_ble_eq_true rfl) (Nat.le_refl 0) (Nat.le_refl 0) (fun r_8 U_7 h H hU => ?_)
    refine pr_if_eq hC 36 (by decide +kernel : decode cX6_reason 31 = .ok (.ifCond .eq 5, 3)) (by decide) (fun c_31 => ?_) (fun c_31 => ?_)
    · replace H := H.1 c_31
      refine pr_aload_n hC (by decide +kernel : decode cX6_reason 36 = .ok (.aload_n 0, 1)) rfl ?_
      refine pu_g1 hC fg_X6_9 (by decide +kernel : decode cX6_reason 37 = .ok (.getfield 9, 3)) hU ho (by decide) rfl (by decide) ?_
      refine pr_iload_n hC (by decide +kernel : decode cX6_reason 40 = .ok (.iload_n 1, 1)) rfl ?_
      refine pr_iload_n hC (by decide +kernel : decode cX6_reason 41 = .ok (.iload_n 2, 1)) rfl ?_
      refine vc_Si hC hR [.int a1, .int a2] fv_X6_71 (by decide +kernel : decode cX6_reason 42 = .ok (.invokestatic 71, 3)) hU (t_X9_placeOf  H) rfl rfl (Nat.le_of_ble_eq_true rfl) (Nat.le_of_ble_eq_true rfl) (Nat.le_refl 0) (Nat.le_refl 0) (fun r_10 U_9 h H hU => ?_)
      refine pu_iald hC (by decide +kernel : decode cX6_reason 45 = .ok (.iaload, 1)) hU ho rfl H.1 ?_
      replace H := H.2
      refine pr_iconst hC (-1) (by decide +kernel : decode cX6_reason 46 = .ok (.iconst (-1), 1)) rfl ?_
      refine pr_icmp_eq hC 52 (by decide +kernel : decode cX6_reason 47 = .ok (.if_icmp .eq 5, 3)) (by decide) (fun c_47 => ?_) (fun c_47 => ?_)
      · replace H := H.1 c_47
        refine pr_aload_n hC (by decide +kernel : decode cX6_reason 52 = .ok (.aload_n 0, 1)) rfl ?_
        refine pr_iload_n hC (by decide +kernel : decode cX6_reason 53 = .ok (.iload_n 1, 1)) rfl ?_
        refine pr_iload_n hC (by decide +kernel : decode cX6_reason 54 = .ok (.iload_n 2, 1)) rfl ?_
        refine pr_iload_n hC (by decide +kernel : decode cX6_reason 55 = .ok (.iload_n 3, 1)) rfl ?_
        refine pr_aload_n hC (by decide +kernel : decode cX6_reason 56 = .ok (.aload_n 0, 1)) rfl ?_
        refine pu_g1 hC fg_X6_28 (by decide +kernel : decode cX6_reason 57 = .ok (.getfield 28, 3)) hU ho (by decide) rfl (by decide) ?_
        refine pr_iload_n hC (by decide +kernel : decode cX6_reason 60 = .ok (.iload_n 3, 1)) rfl ?_
        refine pu_iald hC (by decide +kernel : decode cX6_reason 61 = .ok (.iaload, 1)) hU ho rfl H.1 ?_
        replace H := H.2
        refine vc_Vi hC hR [.int a1, .int a2, .int a3, .int (uA U_9 o 7 (Int32.toNatClampNeg a3))] fv_X6_96 (by decide +kernel : decode cX6_reason 62 = .ok (.invokevirtual 96, 3)) hU (t_X6_hindrance ho H) ho (by decide) rfl rfl rfl (Nat.le_of_ble_eq_true rfl) (Nat.le_of_ble_eq_true rfl) (Nat.le_refl 0) (Nat.le_refl 0) (fun r_12 U_11 h H hU => ?_)
        exact pv_iret hM (by decide +kernel : decode cX6_reason 65 = .ok (.ireturn, 1)) hU H
      replace H := H.2 c_47
      refine pr_iconst hC (3) (by decide +kernel : decode cX6_reason 50 = .ok (.iconst 3, 1)) rfl ?_
      exact pv_iret hM (by decide +kernel : decode cX6_reason 51 = .ok (.ireturn, 1)) hU H
    replace H := H.2 c_31
    refine pr_iconst hC (2) (by decide +kernel : decode cX6_reason 34 = .ok (.iconst 2, 1)) rfl ?_
    exact pv_iret hM (by decide +kernel : decode cX6_reason 35 = .ok (.ireturn, 1)) hU H
  replace H := H.1 c_21
  refine pr_iconst hC (1) (by decide +kernel : decode cX6_reason 24 = .ok (.iconst 1, 1)) rfl ?_
  exact pv_iret hM (by decide +kernel : decode cX6_reason 25 = .ok (.ireturn, 1)) hU H
def w_X5_stretch (o : Nat) (a1 : Int32) (a2 : Int32) (U : Um) (post : Int32 → Um → Prop) : Prop :=
  vp_in a1 6 ∧ vp_in a2 6 ∧ ((uA U o (ki 2 (Int32.toNatClampNeg a1)) (Int32.toNatClampNeg a2)) = (-1) → post 999 U) ∧ (¬ (uA U o (ki 2 (Int32.toNatClampNeg a1)) (Int32.toNatClampNeg a2)) = (-1) → vp_in a1 6 ∧ vp_in a2 6 ∧ post (uA U o (ki 2 (Int32.toNatClampNeg a1)) (Int32.toNatClampNeg a2)) U)
set_option maxHeartbeats 4000000 in
theorem t_X5_stretch {l : Launch} {Y : px_Y} {o : Nat} {a1 : Int32} {a2 : Int32} {U : Um} {post : Int32 → Um → Prop} (ho : oc o = 4) (H : w_X5_stretch o a1 a2 U post) : um l Y 0 yX5_stretch cX5_stretch 3 (some (.int)) [.ref (Y.2.1 o), .int a1, .int a2] U (pq_i post) := by
  unfold w_X5_stretch at H
  refine um_of (by decide) (Nat.le_of_ble_eq_true rfl) [some (.ref (Y.2.1 o)), some (.int a1), some (.int a2)] rfl (fun X h0 hh sz hM hU => ?_)
  have hC := hM.1
  have hR := hM.2.2.1
  refine pr_aload_n hC (by decide +kernel : decode cX5_stretch 0 = .ok (.aload_n 0, 1)) rfl ?_
  refine pu_g1 hC fg_X5_16 (by decide +kernel : decode cX5_stretch 1 = .ok (.getfield 16, 3)) hU ho (by decide) rfl (by decide) ?_
  refine pr_iload_n hC (by decide +kernel : decode cX5_stretch 4 = .ok (.iload_n 1, 1)) rfl ?_
  have q_1 := H.1
  replace H := H.2
  refine pu_aald6 hC (by decide +kernel : decode cX5_stretch 5 = .ok (.aaload, 1)) hU ho rfl q_1 ?_
  refine pr_iload_n hC (by decide +kernel : decode cX5_stretch 6 = .ok (.iload_n 2, 1)) rfl ?_
  refine pu_iald7 hC (by decide +kernel : decode cX5_stretch 7 = .ok (.iaload, 1)) hU ho rfl (vp_lt q_1) H.1 ?_
  replace H := H.2
  refine pr_iconst hC (-1) (by decide +kernel : decode cX5_stretch 8 = .ok (.iconst (-1), 1)) rfl ?_
  refine pr_icmp_ne hC 18 (by decide +kernel : decode cX5_stretch 9 = .ok (.if_icmp .ne 9, 3)) (by decide) (fun c_9 => ?_) (fun c_9 => ?_)
  · replace H := H.2 c_9
    refine pr_aload_n hC (by decide +kernel : decode cX5_stretch 18 = .ok (.aload_n 0, 1)) rfl ?_
    refine pu_g1 hC fg_X5_16 (by decide +kernel : decode cX5_stretch 19 = .ok (.getfield 16, 3)) hU ho (by decide) rfl (by decide) ?_
    refine pr_iload_n hC (by decide +kernel : decode cX5_stretch 22 = .ok (.iload_n 1, 1)) rfl ?_
    have q_2 := H.1
    replace H := H.2
    refine pu_aald6 hC (by decide +kernel : decode cX5_stretch 23 = .ok (.aaload, 1)) hU ho rfl q_2 ?_
    refine pr_iload_n hC (by decide +kernel : decode cX5_stretch 24 = .ok (.iload_n 2, 1)) rfl ?_
    refine pu_iald7 hC (by decide +kernel : decode cX5_stretch 25 = .ok (.iaload, 1)) hU ho rfl (vp_lt q_2) H.1 ?_
    replace H := H.2
    exact pv_iret hM (by decide +kernel : decode cX5_stretch 26 = .ok (.ireturn, 1)) hU H
  replace H := H.1 c_9
  refine pr_sipush hC (999) (by decide +kernel : decode cX5_stretch 12 = .ok (.sipush 999, 3)) rfl ?_
  refine pr_goto hC 26 (by decide +kernel : decode cX5_stretch 15 = .ok (.goto 11, 3)) (by decide) ?_
  exact pv_iret hM (by decide +kernel : decode cX5_stretch 26 = .ok (.ireturn, 1)) hU H
def b_X6_roundOn_L37 (o0 : Nat) (x1 : Int32) (x4 : Int32) (post : Int32 → Um → Prop) (k_115 : Int32 → Int32 → Um → Prop) (rec_ : Int32 → Int32 → Int32 → Um → Prop) (x5 : Int32) (x6 : Int32) (x7 : Int32) (U : Um) : Prop :=
  oc (uR U o0 0) = 8 ∧ ((uI U (uR U o0 0) 7) ≤ x7 → k_115 x5 x6 U) ∧ (¬ (uI U (uR U o0 0) 7) ≤ x7 → oc (uR U o0 0) = 8 ∧ vp_in x7 16 ∧ ∀ (x8_7 : Int32), x8_7 = uA U (uR U o0 0) 12 (Int32.toNatClampNeg x7) → (((x4 >>> (x8_7 &&& 31)) &&& 1) = 0 → ∀ (x7_8 : Int32), x7_8 = x7 + 1 → rec_ x5 x6 x7_8 U) ∧ (¬ ((x4 >>> (x8_7 &&& 31)) &&& 1) = 0 → oc (uR U o0 0) = 8 ∧ vp_in x8_7 16 ∧ oc (uAR U (uR U o0 0) 6 (Int32.toNatClampNeg x8_7)) = 1 ∧ ∀ (x9_12 : Int32), x9_12 = uI U (uAR U (uR U o0 0) 6 (Int32.toNatClampNeg x8_7)) 2 → oc (uR U o0 0) = 8 ∧ oc (uR U (uR U o0 0) 10) = 4 ∧ w_X5_stretch (uR U (uR U o0 0) 10) x6 x9_12 U (fun r_16 U_15 => ∀ (x5_17 : Int32), x5_17 = x5 + r_16 → ∀ (x7_18 : Int32), x7_18 = x7 + 1 → rec_ x5_17 x9_12 x7_18 U_15)))
def w_X6_roundOn_L37 (o0 : Nat) (x1 : Int32) (x4 : Int32) (post : Int32 → Um → Prop) (k_115 : Int32 → Int32 → Um → Prop) (n_ : Nat) : Int32 → Int32 → Int32 → Um → Prop := Nat.rec (motive := fun _ => Int32 → Int32 → Int32 → Um → Prop) (fun _ _ _ _ => False) (fun _ ih => b_X6_roundOn_L37 o0 x1 x4 post k_115 ih) n_
def w_X6_roundOn (o : Nat) (a1 : Int32) (a2 : Int32) (a3 : Int32) (U : Um) (post : Int32 → Um → Prop) : Prop :=
  oc (uR U o 0) = 8 ∧ vp_in a3 7 ∧ ∀ (x4_2 : Int32), x4_2 = a2 &&& (uA U (uR U o 0) 13 (Int32.toNatClampNeg a3)) → (x4_2 = 0 → post 0 U) ∧ (¬ x4_2 = 0 → oc (uR U o 0) = 8 ∧ vp_in a1 10 ∧ ∀ (x6_4 : Int32), x6_4 = uA U (uR U o 0) 3 (Int32.toNatClampNeg a1) → (∃ n_27, w_X6_roundOn_L37 o a1 x4_2 post (fun x5_19 x6_20 U_21 => oc (uR U_21 o 0) = 8 ∧ oc (uR U_21 (uR U_21 o 0) 10) = 4 ∧ oc (uR U_21 o 0) = 8 ∧ vp_in a1 10 ∧ w_X5_stretch (uR U_21 (uR U_21 o 0) 10) x6_20 (uA U_21 (uR U_21 o 0) 3 (Int32.toNatClampNeg a1)) U_21 (fun r_26 U_25 => post (x5_19 + r_26) U_25)) n_27 0 x6_4 0 U))
set_option maxHeartbeats 4000000 in
theorem tl_X6_roundOn_L37 {l : Launch} {Y : px_Y} {X : px_X} {h0 hh : pe_H} {sz : Nat} (o0 : Nat) (x1 : Int32) (x4 : Int32) (post : Int32 → Um → Prop) (k_115 : Int32 → Int32 → Um → Prop) (ho0 : oc o0 = 5)  (hC : px_C X Y.1 (pm_A hh sz) cX6_roundOn RX6 10) (hM : px_M l X Y.1 hh sz yX6_roundOn cX6_roundOn 10 (some (.int)) 1 0 0) (hR : X.2.2.2.1 = pm_rm 1 0 0) (hk_115 : ∀ (y5 : Int32) (y6 : Int32) (U : Um) (h : pe_H), k_115 y5 y6 U → rF Y h0 U h → pw X Y.1 (pm_A hh sz) (pm_E X Y.1 hh sz 0 0 (pm_P Y h0 sz (pq_i post))) 115 [some (.ref (Y.2.1 o0)), some (.int x1), none, none, none, some (.int y5), some (.int y6), none, none, none] [] h sz 0 0) : ∀ (n_ : Nat) (x5 : Int32) (x6 : Int32) (x7 : Int32) (U : Um) (h : pe_H), rF Y h0 U h → w_X6_roundOn_L37 o0 x1 x4 post k_115 n_ x5 x6 x7 U → pw X Y.1 (pm_A hh sz) (pm_E X Y.1 hh sz 0 0 (pm_P Y h0 sz (pq_i post))) 37 [some (.ref (Y.2.1 o0)), some (.int x1), none, none, some (.int x4), some (.int x5), some (.int x6), some (.int x7), none, none] [] h sz 0 0 := by
  intro n_
  induction n_ with
  | zero => intro x5 x6 x7 U h hU H; exact False.elim H
  | succ n_ ih =>
    intro x5 x6 x7 U h hU H
    replace H : b_X6_roundOn_L37 o0 x1 x4 post k_115 (w_X6_roundOn_L37 o0 x1 x4 post k_115 n_) x5 x6 x7 U := H
    unfold b_X6_roundOn_L37 at H
    refine pr_iload hC (by decide +kernel : decode cX6_roundOn 37 = .ok (.iload 7, 2)) rfl ?_
    refine pr_aload_n hC (by decide +kernel : decode cX6_roundOn 39 = .ok (.aload_n 0, 1)) rfl ?_
    refine pu_g21 hC fg_X6_41 (by decide +kernel : decode cX6_roundOn 40 = .ok (.getfield 41, 3)) hU ho0 (by decide) rfl rfl ?_
    have q_5 := H.1
    replace H := H.2
    refine pu_g0 hC fg_X6_157 (by decide +kernel : decode cX6_roundOn 43 = .ok (.getfield 157, 3)) hU q_5 (by decide) rfl rfl ?_
    refine pr_icmp_ge hC 115 (by decide +kernel : decode cX6_roundOn 46 = .ok (.if_icmp .ge 69, 3)) (by decide) (fun c_46 => ?_) (fun c_46 => ?_)
    · replace H := H.1 c_46
      exact pv_sub [some (.ref (Y.2.1 o0)), some (.int x1), none, none, none, some (.int x5), some (.int x6), none, none, none] (And.intro rfl (And.intro rfl (And.intro rfl (And.intro rfl trivial)))) (hk_115 _ _ U h H hU)
    replace H := H.2 c_46
    refine pr_aload_n hC (by decide +kernel : decode cX6_roundOn 49 = .ok (.aload_n 0, 1)) rfl ?_
    refine pu_g21 hC fg_X6_41 (by decide +kernel : decode cX6_roundOn 50 = .ok (.getfield 41, 3)) hU ho0 (by decide) rfl rfl ?_
    have q_6 := H.1
    replace H := H.2
    refine pu_g1 hC fg_X6_160 (by decide +kernel : decode cX6_roundOn 53 = .ok (.getfield 160, 3)) hU q_6 (by decide) rfl (by decide) ?_
    refine pr_iload hC (by decide +kernel : decode cX6_roundOn 56 = .ok (.iload 7, 2)) rfl ?_
    refine pu_iald hC (by decide +kernel : decode cX6_roundOn 58 = .ok (.iaload, 1)) hU q_6 rfl H.1 ?_
    replace H := H.2
    refine pv_topi (fun x8_7 e_x8_7 => ?_)
    replace H := H x8_7 e_x8_7
    refine pr_istore hC (by decide +kernel : decode cX6_roundOn 59 = .ok (.istore 8, 2)) (by decide) rfl ?_
    refine pr_iload hC (by decide +kernel : decode cX6_roundOn 61 = .ok (.iload 4, 2)) rfl ?_
    refine pr_iload hC (by decide +kernel : decode cX6_roundOn 63 = .ok (.iload 8, 2)) rfl ?_
    refine pr_ishr hC (by decide +kernel : decode cX6_roundOn 65 = .ok (.ishr, 1)) ?_
    refine pr_iconst hC (1) (by decide +kernel : decode cX6_roundOn 66 = .ok (.iconst 1, 1)) rfl ?_
    refine pr_iand hC (by decide +kernel : decode cX6_roundOn 67 = .ok (.iand, 1)) ?_
    refine pr_if_eq hC 109 (by decide +kernel : decode cX6_roundOn 68 = .ok (.ifCond .eq 41, 3)) (by decide) (fun c_68 => ?_) (fun c_68 => ?_)
    · replace H := H.1 c_68
      refine pv_iinc hC (v := x7 + 1) (by decide +kernel : decode cX6_roundOn 109 = .ok (.iinc 7 1, 3)) rfl (by decide) rfl rfl (fun x7_8 e_x7_8 => ?_)
      replace H := H x7_8 e_x7_8
      refine pr_goto hC 37 (by decide +kernel : decode cX6_roundOn 112 = .ok (.goto (-75), 3)) (by decide) ?_
      exact pv_sub [some (.ref (Y.2.1 o0)), some (.int x1), none, none, some (.int x4), some (.int x5), some (.int x6), some (.int x7_8), none, none] (And.intro rfl (And.intro rfl (And.intro rfl (And.intro rfl (And.intro rfl (And.intro rfl trivial)))))) (ih _ _ _ U h hU H)
    replace H := H.2 c_68
    refine pr_aload_n hC (by decide +kernel : decode cX6_roundOn 71 = .ok (.aload_n 0, 1)) rfl ?_
    refine pu_g21 hC fg_X6_41 (by decide +kernel : decode cX6_roundOn 72 = .ok (.getfield 41, 3)) hU ho0 (by decide) rfl rfl ?_
    have q_9 := H.1
    replace H := H.2
    refine pu_g1 hC fg_X6_62 (by decide +kernel : decode cX6_roundOn 75 = .ok (.getfield 62, 3)) hU q_9 (by decide) rfl (by decide) ?_
    refine pr_iload hC (by decide +kernel : decode cX6_roundOn 78 = .ok (.iload 8, 2)) rfl ?_
    have q_10 := H.1
    replace H := H.2
    refine pu_aald8 hC (by decide +kernel : decode cX6_roundOn 80 = .ok (.aaload, 1)) hU q_9 rfl q_10 ?_
    have q_11 := H.1
    replace H := H.2
    refine pu_g0 hC fg_X6_137 (by decide +kernel : decode cX6_roundOn 81 = .ok (.getfield 137, 3)) hU q_11 (by decide) rfl rfl ?_
    refine pv_topi (fun x9_12 e_x9_12 => ?_)
    replace H := H x9_12 e_x9_12
    refine pr_istore hC (by decide +kernel : decode cX6_roundOn 84 = .ok (.istore 9, 2)) (by decide) rfl ?_
    refine pr_iload hC (by decide +kernel : decode cX6_roundOn 86 = .ok (.iload 5, 2)) rfl ?_
    refine pr_aload_n hC (by decide +kernel : decode cX6_roundOn 88 = .ok (.aload_n 0, 1)) rfl ?_
    refine pu_g21 hC fg_X6_41 (by decide +kernel : decode cX6_roundOn 89 = .ok (.getfield 41, 3)) hU ho0 (by decide) rfl rfl ?_
    have q_13 := H.1
    replace H := H.2
    refine pu_g21 hC fg_X6_124 (by decide +kernel : decode cX6_roundOn 92 = .ok (.getfield 124, 3)) hU q_13 (by decide) rfl rfl ?_
    have q_14 := H.1
    replace H := H.2
    refine pr_iload hC (by decide +kernel : decode cX6_roundOn 95 = .ok (.iload 6, 2)) rfl ?_
    refine pr_iload hC (by decide +kernel : decode cX6_roundOn 97 = .ok (.iload 9, 2)) rfl ?_
    refine vc_Vi hC hR [.int x6, .int x9_12] fv_X6_163 (by decide +kernel : decode cX6_roundOn 99 = .ok (.invokevirtual 163, 3)) hU (t_X5_stretch q_14 H) q_14 (by decide) rfl rfl rfl (Nat.le_of_ble_eq_true rfl) (Nat.le_of_ble_eq_true rfl) (Nat.le_refl 0) (Nat.le_refl 0) (fun r_16 U_15 h H hU => ?_)
    refine pr_iadd hC (by decide +kernel : decode cX6_roundOn 102 = .ok (.iadd, 1)) ?_
    refine pv_topi (fun x5_17 e_x5_17 => ?_)
    replace H := H x5_17 e_x5_17
    refine pr_istore hC (by decide +kernel : decode cX6_roundOn 103 = .ok (.istore 5, 2)) (by decide) rfl ?_
    refine pr_iload hC (by decide +kernel : decode cX6_roundOn 105 = .ok (.iload 9, 2)) rfl ?_
    refine pr_istore hC (by decide +kernel : decode cX6_roundOn 107 = .ok (.istore 6, 2)) (by decide) rfl ?_
    refine pv_iinc hC (v := x7 + 1) (by decide +kernel : decode cX6_roundOn 109 = .ok (.iinc 7 1, 3)) rfl (by decide) rfl rfl (fun x7_18 e_x7_18 => ?_)
    replace H := H x7_18 e_x7_18
    refine pr_goto hC 37 (by decide +kernel : decode cX6_roundOn 112 = .ok (.goto (-75), 3)) (by decide) ?_
    exact pv_sub [some (.ref (Y.2.1 o0)), some (.int x1), none, none, some (.int x4), some (.int x5_17), some (.int x9_12), some (.int x7_18), none, none] (And.intro rfl (And.intro rfl (And.intro rfl (And.intro rfl (And.intro rfl (And.intro rfl trivial)))))) (ih _ _ _ U_15 h hU H)
set_option maxHeartbeats 4000000 in
theorem t_X6_roundOn {l : Launch} {Y : px_Y} {o : Nat} {a1 : Int32} {a2 : Int32} {a3 : Int32} {U : Um} {post : Int32 → Um → Prop} (ho : oc o = 5) (H : w_X6_roundOn o a1 a2 a3 U post) : um l Y 1 yX6_roundOn cX6_roundOn 10 (some (.int)) [.ref (Y.2.1 o), .int a1, .int a2, .int a3] U (pq_i post) := by
  unfold w_X6_roundOn at H
  refine um_of (by decide) (Nat.le_of_ble_eq_true rfl) [some (.ref (Y.2.1 o)), some (.int a1), some (.int a2), some (.int a3), none, none, none, none, none, none] rfl (fun X h0 hh sz hM hU => ?_)
  have hC := hM.1
  have hR := hM.2.2.1
  refine pr_iload_n hC (by decide +kernel : decode cX6_roundOn 0 = .ok (.iload_n 2, 1)) rfl ?_
  refine pr_aload_n hC (by decide +kernel : decode cX6_roundOn 1 = .ok (.aload_n 0, 1)) rfl ?_
  refine pu_g21 hC fg_X6_41 (by decide +kernel : decode cX6_roundOn 2 = .ok (.getfield 41, 3)) hU ho (by decide) rfl rfl ?_
  have q_1 := H.1
  replace H := H.2
  refine pu_g1 hC fg_X6_100 (by decide +kernel : decode cX6_roundOn 5 = .ok (.getfield 100, 3)) hU q_1 (by decide) rfl (by decide) ?_
  refine pr_iload_n hC (by decide +kernel : decode cX6_roundOn 8 = .ok (.iload_n 3, 1)) rfl ?_
  refine pu_iald hC (by decide +kernel : decode cX6_roundOn 9 = .ok (.iaload, 1)) hU q_1 rfl H.1 ?_
  replace H := H.2
  refine pr_iand hC (by decide +kernel : decode cX6_roundOn 10 = .ok (.iand, 1)) ?_
  refine pv_topi (fun x4_2 e_x4_2 => ?_)
  replace H := H x4_2 e_x4_2
  refine pr_istore hC (by decide +kernel : decode cX6_roundOn 11 = .ok (.istore 4, 2)) (by decide) rfl ?_
  refine pr_iload hC (by decide +kernel : decode cX6_roundOn 13 = .ok (.iload 4, 2)) rfl ?_
  refine pr_if_ne hC 20 (by decide +kernel : decode cX6_roundOn 15 = .ok (.ifCond .ne 5, 3)) (by decide) (fun c_15 => ?_) (fun c_15 => ?_)
  · replace H := H.2 c_15
    refine pr_iconst hC (0) (by decide +kernel : decode cX6_roundOn 20 = .ok (.iconst 0, 1)) rfl ?_
    refine pr_istore hC (by decide +kernel : decode cX6_roundOn 21 = .ok (.istore 5, 2)) (by decide) rfl ?_
    refine pr_aload_n hC (by decide +kernel : decode cX6_roundOn 23 = .ok (.aload_n 0, 1)) rfl ?_
    refine pu_g21 hC fg_X6_41 (by decide +kernel : decode cX6_roundOn 24 = .ok (.getfield 41, 3)) hU ho (by decide) rfl rfl ?_
    have q_3 := H.1
    replace H := H.2
    refine pu_g1 hC fg_X6_134 (by decide +kernel : decode cX6_roundOn 27 = .ok (.getfield 134, 3)) hU q_3 (by decide) rfl (by decide) ?_
    refine pr_iload_n hC (by decide +kernel : decode cX6_roundOn 30 = .ok (.iload_n 1, 1)) rfl ?_
    refine pu_iald hC (by decide +kernel : decode cX6_roundOn 31 = .ok (.iaload, 1)) hU q_3 rfl H.1 ?_
    replace H := H.2
    refine pv_topi (fun x6_4 e_x6_4 => ?_)
    replace H := H x6_4 e_x6_4
    refine pr_istore hC (by decide +kernel : decode cX6_roundOn 32 = .ok (.istore 6, 2)) (by decide) rfl ?_
    refine pr_iconst hC (0) (by decide +kernel : decode cX6_roundOn 34 = .ok (.iconst 0, 1)) rfl ?_
    refine pr_istore hC (by decide +kernel : decode cX6_roundOn 35 = .ok (.istore 7, 2)) (by decide) rfl ?_
    obtain ⟨n_27, H⟩ := H
    refine pv_sub [some (.ref (Y.2.1 o)), some (.int a1), none, none, some (.int x4_2), some (.int 0), some (.int x6_4), some (.int 0), none, none] (And.intro rfl (And.intro rfl (And.intro rfl (And.intro rfl (And.intro rfl (And.intro rfl trivial)))))) ?_
    refine tl_X6_roundOn_L37 _ _ _ _ _ ho hC hM hR (fun x5_19 x6_20 U_21 h H hU => ?_) n_27 _ _ _ U hh hU H
    refine pr_iload hC (by decide +kernel : decode cX6_roundOn 115 = .ok (.iload 5, 2)) rfl ?_
    refine pr_aload_n hC (by decide +kernel : decode cX6_roundOn 117 = .ok (.aload_n 0, 1)) rfl ?_
    refine pu_g21 hC fg_X6_41 (by decide +kernel : decode cX6_roundOn 118 = .ok (.getfield 41, 3)) hU ho (by decide) rfl rfl ?_
    have q_22 := H.1
    replace H := H.2
    refine pu_g21 hC fg_X6_124 (by decide +kernel : decode cX6_roundOn 121 = .ok (.getfield 124, 3)) hU q_22 (by decide) rfl rfl ?_
    have q_23 := H.1
    replace H := H.2
    refine pr_iload hC (by decide +kernel : decode cX6_roundOn 124 = .ok (.iload 6, 2)) rfl ?_
    refine pr_aload_n hC (by decide +kernel : decode cX6_roundOn 126 = .ok (.aload_n 0, 1)) rfl ?_
    refine pu_g21 hC fg_X6_41 (by decide +kernel : decode cX6_roundOn 127 = .ok (.getfield 41, 3)) hU ho (by decide) rfl rfl ?_
    have q_24 := H.1
    replace H := H.2
    refine pu_g1 hC fg_X6_134 (by decide +kernel : decode cX6_roundOn 130 = .ok (.getfield 134, 3)) hU q_24 (by decide) rfl (by decide) ?_
    refine pr_iload_n hC (by decide +kernel : decode cX6_roundOn 133 = .ok (.iload_n 1, 1)) rfl ?_
    refine pu_iald hC (by decide +kernel : decode cX6_roundOn 134 = .ok (.iaload, 1)) hU q_24 rfl H.1 ?_
    replace H := H.2
    refine vc_Vi hC hR [.int x6_20, .int (uA U_21 (uR U_21 o 0) 3 (Int32.toNatClampNeg a1))] fv_X6_163 (by decide +kernel : decode cX6_roundOn 135 = .ok (.invokevirtual 163, 3)) hU (t_X5_stretch q_23 H) q_23 (by decide) rfl rfl rfl (Nat.le_of_ble_eq_true rfl) (Nat.le_of_ble_eq_true rfl) (Nat.le_refl 0) (Nat.le_refl 0) (fun r_26 U_25 h H hU => ?_)
    refine pr_iadd hC (by decide +kernel : decode cX6_roundOn 138 = .ok (.iadd, 1)) ?_
    exact pv_iret hM (by decide +kernel : decode cX6_roundOn 139 = .ok (.ireturn, 1)) hU H
  replace H := H.1 c_15
  refine pr_iconst hC (0) (by decide +kernel : decode cX6_roundOn 18 = .ok (.iconst 0, 1)) rfl ?_
  exact pv_iret hM (by decide +kernel : decode cX6_roundOn 19 = .ok (.ireturn, 1)) hU H
def w_X6_detour (o : Nat) (a1 : Int32) (a2 : Int32) (a3 : Int32) (U : Um) (post : Int32 → Um → Prop) : Prop :=
  ∀ (x4_1 : Int32), x4_1 = (1 : Int32) <<< (a1 &&& 31) → oc (uR U o 0) = 8 ∧ vp_in a1 16 ∧ oc (uAR U (uR U o 0) 6 (Int32.toNatClampNeg a1)) = 1 ∧ ∀ (x5_5 : Int32), x5_5 = uI U (uAR U (uR U o 0) 6 (Int32.toNatClampNeg a1)) 3 → vp_in a3 10 ∧ ∀ (x6_6 : Int32), x6_6 = uA U o 7 (Int32.toNatClampNeg a3) → w_X9_placeOf a1 a2 U (fun r_8 U_7 => vp_in r_8 48 ∧ ∀ (x6_9 : Int32), x6_9 = (if (uA U_7 o 2 (Int32.toNatClampNeg r_8)) = a3 then x6_6 &&& (x4_1 ^^^ (-1)) else x6_6) → w_X6_roundOn o a3 (x6_9 ||| x4_1) x5_5 U_7 (fun r_11 U_10 => w_X6_roundOn o a3 x6_9 x5_5 U_10 (fun r_13 U_12 => post (r_11 - r_13) U_12)))
set_option maxHeartbeats 4000000 in
theorem t_X6_detour {l : Launch} {Y : px_Y} {o : Nat} {a1 : Int32} {a2 : Int32} {a3 : Int32} {U : Um} {post : Int32 → Um → Prop} (ho : oc o = 5) (H : w_X6_detour o a1 a2 a3 U post) : um l Y 2 yX6_detour cX6_detour 7 (some (.int)) [.ref (Y.2.1 o), .int a1, .int a2, .int a3] U (pq_i post) := by
  unfold w_X6_detour at H
  refine um_of (by decide) (Nat.le_of_ble_eq_true rfl) [some (.ref (Y.2.1 o)), some (.int a1), some (.int a2), some (.int a3), none, none, none] rfl (fun X h0 hh sz hM hU => ?_)
  have hC := hM.1
  have hR := hM.2.2.1
  refine pr_iconst hC (1) (by decide +kernel : decode cX6_detour 0 = .ok (.iconst 1, 1)) rfl ?_
  refine pr_iload_n hC (by decide +kernel : decode cX6_detour 1 = .ok (.iload_n 1, 1)) rfl ?_
  refine pr_ishl hC (by decide +kernel : decode cX6_detour 2 = .ok (.ishl, 1)) ?_
  refine pv_topi (fun x4_1 e_x4_1 => ?_)
  replace H := H x4_1 e_x4_1
  refine pr_istore hC (by decide +kernel : decode cX6_detour 3 = .ok (.istore 4, 2)) (by decide) rfl ?_
  refine pr_aload_n hC (by decide +kernel : decode cX6_detour 5 = .ok (.aload_n 0, 1)) rfl ?_
  refine pu_g21 hC fg_X6_41 (by decide +kernel : decode cX6_detour 6 = .ok (.getfield 41, 3)) hU ho (by decide) rfl rfl ?_
  have q_2 := H.1
  replace H := H.2
  refine pu_g1 hC fg_X6_62 (by decide +kernel : decode cX6_detour 9 = .ok (.getfield 62, 3)) hU q_2 (by decide) rfl (by decide) ?_
  refine pr_iload_n hC (by decide +kernel : decode cX6_detour 12 = .ok (.iload_n 1, 1)) rfl ?_
  have q_3 := H.1
  replace H := H.2
  refine pu_aald8 hC (by decide +kernel : decode cX6_detour 13 = .ok (.aaload, 1)) hU q_2 rfl q_3 ?_
  have q_4 := H.1
  replace H := H.2
  refine pu_g0 hC fg_X6_66 (by decide +kernel : decode cX6_detour 14 = .ok (.getfield 66, 3)) hU q_4 (by decide) rfl rfl ?_
  refine pv_topi (fun x5_5 e_x5_5 => ?_)
  replace H := H x5_5 e_x5_5
  refine pr_istore hC (by decide +kernel : decode cX6_detour 17 = .ok (.istore 5, 2)) (by decide) rfl ?_
  refine pr_aload_n hC (by decide +kernel : decode cX6_detour 19 = .ok (.aload_n 0, 1)) rfl ?_
  refine pu_g1 hC fg_X6_28 (by decide +kernel : decode cX6_detour 20 = .ok (.getfield 28, 3)) hU ho (by decide) rfl (by decide) ?_
  refine pr_iload_n hC (by decide +kernel : decode cX6_detour 23 = .ok (.iload_n 3, 1)) rfl ?_
  refine pu_iald hC (by decide +kernel : decode cX6_detour 24 = .ok (.iaload, 1)) hU ho rfl H.1 ?_
  replace H := H.2
  refine pv_topi (fun x6_6 e_x6_6 => ?_)
  replace H := H x6_6 e_x6_6
  refine pr_istore hC (by decide +kernel : decode cX6_detour 25 = .ok (.istore 6, 2)) (by decide) rfl ?_
  refine pr_aload_n hC (by decide +kernel : decode cX6_detour 27 = .ok (.aload_n 0, 1)) rfl ?_
  refine pu_g1 hC fg_X6_9 (by decide +kernel : decode cX6_detour 28 = .ok (.getfield 9, 3)) hU ho (by decide) rfl (by decide) ?_
  refine pr_iload_n hC (by decide +kernel : decode cX6_detour 31 = .ok (.iload_n 1, 1)) rfl ?_
  refine pr_iload_n hC (by decide +kernel : decode cX6_detour 32 = .ok (.iload_n 2, 1)) rfl ?_
  refine vc_Si hC hR [.int a1, .int a2] fv_X6_71 (by decide +kernel : decode cX6_detour 33 = .ok (.invokestatic 71, 3)) hU (t_X9_placeOf  H) rfl rfl (Nat.le_of_ble_eq_true rfl) (Nat.le_of_ble_eq_true rfl) (Nat.le_refl 0) (Nat.le_refl 0) (fun r_8 U_7 h H hU => ?_)
  refine pu_iald hC (by decide +kernel : decode cX6_detour 36 = .ok (.iaload, 1)) hU ho rfl H.1 ?_
  replace H := H.2
  refine pr_iload_n hC (by decide +kernel : decode cX6_detour 37 = .ok (.iload_n 3, 1)) rfl ?_
  have HJ_14 : ∀ (x6_9 : Int32), x6_9 = (if (uA U_7 o 2 (Int32.toNatClampNeg r_8)) = a3 then x6_6 &&& (x4_1 ^^^ (-1)) else x6_6) → pw X Y.1 (pm_A hh sz) (pm_E X Y.1 hh sz 0 0 (pm_P Y h0 sz (pq_i post))) 50 [some (.ref (Y.2.1 o)), none, none, some (.int a3), some (.int x4_1), some (.int x5_5), some (.int x6_9)] [] h sz 0 0 := by
    intro x6_9 e_x6_9
    replace H := H x6_9 e_x6_9
    refine pr_aload_n hC (by decide +kernel : decode cX6_detour 50 = .ok (.aload_n 0, 1)) rfl ?_
    refine pr_iload_n hC (by decide +kernel : decode cX6_detour 51 = .ok (.iload_n 3, 1)) rfl ?_
    refine pr_iload hC (by decide +kernel : decode cX6_detour 52 = .ok (.iload 6, 2)) rfl ?_
    refine pr_iload hC (by decide +kernel : decode cX6_detour 54 = .ok (.iload 4, 2)) rfl ?_
    refine pr_ior hC (by decide +kernel : decode cX6_detour 56 = .ok (.ior, 1)) ?_
    refine pr_iload hC (by decide +kernel : decode cX6_detour 57 = .ok (.iload 5, 2)) rfl ?_
    refine vc_Vi hC hR [.int a3, .int (x6_9 ||| x4_1), .int x5_5] fv_X6_166 (by decide +kernel : decode cX6_detour 59 = .ok (.invokevirtual 166, 3)) hU (t_X6_roundOn ho H) ho (by decide) rfl rfl rfl (Nat.le_of_ble_eq_true rfl) (Nat.le_of_ble_eq_true rfl) (Nat.le_refl 0) (Nat.le_refl 0) (fun r_11 U_10 h H hU => ?_)
    refine pr_aload_n hC (by decide +kernel : decode cX6_detour 62 = .ok (.aload_n 0, 1)) rfl ?_
    refine pr_iload_n hC (by decide +kernel : decode cX6_detour 63 = .ok (.iload_n 3, 1)) rfl ?_
    refine pr_iload hC (by decide +kernel : decode cX6_detour 64 = .ok (.iload 6, 2)) rfl ?_
    refine pr_iload hC (by decide +kernel : decode cX6_detour 66 = .ok (.iload 5, 2)) rfl ?_
    refine vc_Vi hC hR [.int a3, .int x6_9, .int x5_5] fv_X6_166 (by decide +kernel : decode cX6_detour 68 = .ok (.invokevirtual 166, 3)) hU (t_X6_roundOn ho H) ho (by decide) rfl rfl rfl (Nat.le_of_ble_eq_true rfl) (Nat.le_of_ble_eq_true rfl) (Nat.le_refl 0) (Nat.le_refl 0) (fun r_13 U_12 h H hU => ?_)
    refine pr_isub hC (by decide +kernel : decode cX6_detour 71 = .ok (.isub, 1)) ?_
    exact pv_iret hM (by decide +kernel : decode cX6_detour 72 = .ok (.ireturn, 1)) hU H
  replace H := trivial
  refine pr_icmp_ne hC 50 (by decide +kernel : decode cX6_detour 38 = .ok (.if_icmp .ne 12, 3)) (by decide) (fun c_38 => ?_) (fun c_38 => ?_)
  · skip
    exact pv_sub [some (.ref (Y.2.1 o)), none, none, some (.int a3), some (.int x4_1), some (.int x5_5), some (.int x6_6)] (And.intro rfl (And.intro rfl (And.intro rfl (And.intro rfl (And.intro rfl trivial))))) (HJ_14 _ (if_neg c_38).symm)
  skip
  refine pr_iload hC (by decide +kernel : decode cX6_detour 41 = .ok (.iload 6, 2)) rfl ?_
  refine pr_iload hC (by decide +kernel : decode cX6_detour 43 = .ok (.iload 4, 2)) rfl ?_
  refine pr_iconst hC (-1) (by decide +kernel : decode cX6_detour 45 = .ok (.iconst (-1), 1)) rfl ?_
  refine pr_ixor hC (by decide +kernel : decode cX6_detour 46 = .ok (.ixor, 1)) ?_
  refine pr_iand hC (by decide +kernel : decode cX6_detour 47 = .ok (.iand, 1)) ?_
  refine pr_istore hC (by decide +kernel : decode cX6_detour 48 = .ok (.istore 6, 2)) (by decide) rfl ?_
  exact pv_sub [some (.ref (Y.2.1 o)), none, none, some (.int a3), some (.int x4_1), some (.int x5_5), some (.int (x6_6 &&& (x4_1 ^^^ (-1))))] (And.intro rfl (And.intro rfl (And.intro rfl (And.intro rfl (And.intro rfl trivial))))) (HJ_14 _ (if_pos c_38).symm)
def w_X3_set (o : Nat) (a1 : Int32) (a2 : Int32) (U : Um) (post : Um → Prop) : Prop :=
  vp_in ((-1) - a1) 8 ∧ ∀ (U_1 : Um), U_1 = sA U o 2 (va_up (uA U o 2) (Int32.toNatClampNeg ((-1) - a1)) a2) → post U_1
set_option maxHeartbeats 4000000 in
theorem t_X3_set {l : Launch} {Y : px_Y} {o : Nat} {a1 : Int32} {a2 : Int32} {U : Um} {post : Um → Prop} (ho : oc o = 2) (H : w_X3_set o a1 a2 U post) : um l Y 0 yX3_set cX3_set 3 none [.ref (Y.2.1 o), .int a1, .int a2] U (pq_v post) := by
  unfold w_X3_set at H
  refine um_of (by decide) (Nat.le_of_ble_eq_true rfl) [some (.ref (Y.2.1 o)), some (.int a1), some (.int a2)] rfl (fun X h0 hh sz hM hU => ?_)
  have hC := hM.1
  have hR := hM.2.2.1
  refine pr_aload_n hC (by decide +kernel : decode cX3_set 0 = .ok (.aload_n 0, 1)) rfl ?_
  refine pu_g1 hC fg_X3_17 (by decide +kernel : decode cX3_set 1 = .ok (.getfield 17, 3)) hU ho (by decide) rfl (by decide) ?_
  refine pr_iconst hC (-1) (by decide +kernel : decode cX3_set 4 = .ok (.iconst (-1), 1)) rfl ?_
  refine pr_iload_n hC (by decide +kernel : decode cX3_set 5 = .ok (.iload_n 1, 1)) rfl ?_
  refine pr_isub hC (by decide +kernel : decode cX3_set 6 = .ok (.isub, 1)) ?_
  refine pr_iload_n hC (by decide +kernel : decode cX3_set 7 = .ok (.iload_n 2, 1)) rfl ?_
  refine pv_iast hC (by decide +kernel : decode cX3_set 8 = .ok (.iastore, 1)) hU ho rfl H.1 (fun U_1 h e_U_1 hU => ?_)
  replace H := H.2 U_1 e_U_1
  exact pv_vret hM (by decide +kernel : decode cX3_set 9 = .ok (.return_, 1)) hU H
def w_J9_floorDiv_f86c9 (a1 : Int64) (a2 : Int64) (U : Um) (post : Int64 → Um → Prop) : Prop :=
  ¬ a2 = 0 ∧ ∀ (x4_1 : Int64), x4_1 = a1 / a2 → ((0 : Int32) ≤ (lg_cmp (a1 ^^^ a2) 0) → post x4_1 U) ∧ (¬ (0 : Int32) ≤ (lg_cmp (a1 ^^^ a2) 0) → ((lg_cmp (x4_1 * a2) a1) = 0 → post x4_1 U) ∧ (¬ (lg_cmp (x4_1 * a2) a1) = 0 → post (x4_1 - 1) U))
set_option maxHeartbeats 4000000 in
theorem t_J9_floorDiv_f86c9 {l : Launch} {Y : px_Y} {a1 : Int64} {a2 : Int64} {U : Um} {post : Int64 → Um → Prop}  (H : w_J9_floorDiv_f86c9 a1 a2 U post) : um l Y 0 yJ9_floorDiv_f86c9 cJ9_floorDiv_f86c9 6 (some (.long)) [.long a1, .long a2] U (pq_l post) := by
  unfold w_J9_floorDiv_f86c9 at H
  refine um_ofF (by decide +kernel) (Nat.le_of_ble_eq_true rfl) [some (.long a1), none, some (.long a2), none, none, none] rfl (fun X h0 hh sz hM hU => ?_)
  have hC := hM.1
  have hR := hM.2.2.1
  refine pr_lload_n hC (by decide +kernel : decode cJ9_floorDiv_f86c9 0 = .ok (.lload_n 0, 1)) rfl ?_
  refine pr_lload_n hC (by decide +kernel : decode cJ9_floorDiv_f86c9 1 = .ok (.lload_n 2, 1)) rfl ?_
  refine pr_ldiv hC (by decide +kernel : decode cJ9_floorDiv_f86c9 2 = .ok (.ldiv, 1)) H.1 ?_
  replace H := H.2
  refine pv_topl (fun x4_1 e_x4_1 => ?_)
  replace H := H x4_1 e_x4_1
  refine pr_lstore hC (by decide +kernel : decode cJ9_floorDiv_f86c9 3 = .ok (.lstore 4, 2)) (by decide) rfl ?_
  refine pr_lload_n hC (by decide +kernel : decode cJ9_floorDiv_f86c9 5 = .ok (.lload_n 0, 1)) rfl ?_
  refine pr_lload_n hC (by decide +kernel : decode cJ9_floorDiv_f86c9 6 = .ok (.lload_n 2, 1)) rfl ?_
  refine pr_lxor hC (by decide +kernel : decode cJ9_floorDiv_f86c9 7 = .ok (.lxor, 1)) ?_
  refine pr_lconst hC (0) (by decide +kernel : decode cJ9_floorDiv_f86c9 8 = .ok (.lconst 0, 1)) rfl ?_
  refine pr_lcmp hC (by decide +kernel : decode cJ9_floorDiv_f86c9 9 = .ok (.lcmp, 1)) ?_
  refine pr_if_ge hC 27 (by decide +kernel : decode cJ9_floorDiv_f86c9 10 = .ok (.ifCond .ge 17, 3)) (by decide) (fun c_10 => ?_) (fun c_10 => ?_)
  · replace H := H.1 c_10
    refine pr_lload hC (by decide +kernel : decode cJ9_floorDiv_f86c9 27 = .ok (.lload 4, 2)) rfl ?_
    exact pv_lret hM (by decide +kernel : decode cJ9_floorDiv_f86c9 29 = .ok (.lreturn, 1)) hU H
  replace H := H.2 c_10
  refine pr_lload hC (by decide +kernel : decode cJ9_floorDiv_f86c9 13 = .ok (.lload 4, 2)) rfl ?_
  refine pr_lload_n hC (by decide +kernel : decode cJ9_floorDiv_f86c9 15 = .ok (.lload_n 2, 1)) rfl ?_
  refine pr_lmul hC (by decide +kernel : decode cJ9_floorDiv_f86c9 16 = .ok (.lmul, 1)) ?_
  refine pr_lload_n hC (by decide +kernel : decode cJ9_floorDiv_f86c9 17 = .ok (.lload_n 0, 1)) rfl ?_
  refine pr_lcmp hC (by decide +kernel : decode cJ9_floorDiv_f86c9 18 = .ok (.lcmp, 1)) ?_
  refine pr_if_eq hC 27 (by decide +kernel : decode cJ9_floorDiv_f86c9 19 = .ok (.ifCond .eq 8, 3)) (by decide) (fun c_19 => ?_) (fun c_19 => ?_)
  · replace H := H.1 c_19
    refine pr_lload hC (by decide +kernel : decode cJ9_floorDiv_f86c9 27 = .ok (.lload 4, 2)) rfl ?_
    exact pv_lret hM (by decide +kernel : decode cJ9_floorDiv_f86c9 29 = .ok (.lreturn, 1)) hU H
  replace H := H.2 c_19
  refine pr_lload hC (by decide +kernel : decode cJ9_floorDiv_f86c9 22 = .ok (.lload 4, 2)) rfl ?_
  refine pr_lconst hC (1) (by decide +kernel : decode cJ9_floorDiv_f86c9 24 = .ok (.lconst 1, 1)) rfl ?_
  refine pr_lsub hC (by decide +kernel : decode cJ9_floorDiv_f86c9 25 = .ok (.lsub, 1)) ?_
  exact pv_lret hM (by decide +kernel : decode cJ9_floorDiv_f86c9 26 = .ok (.lreturn, 1)) hU H
def w_X3_join (o : Nat) (a1 : Int32) (U : Um) (post : Int32 → Um → Prop) : Prop :=
  ((2 : Int32) ≤ (uI U o 4) → ∀ (U_1 : Um), U_1 = sI U o 4 ((uI U o 4) - 1) → vp_in ((uI U_1 o 4) - 1) 16 ∧ ∀ (x2_2 : Int64), x2_2 = uJ U_1 o 3 (Int32.toNatClampNeg ((uI U_1 o 4) - 1)) → vp_in (uI U_1 o 4) 16 ∧ ∀ (x4_3 : Int64), x4_3 = uJ U_1 o 3 (Int32.toNatClampNeg (uI U_1 o 4)) → (∀ K_4 : Prop, (((¬ a1 = (-13) → ¬ a1 = (-12) → ¬ a1 = (-11) → w_J9_floorDiv_f86c9 x2_2 x4_3 U_1 (fun r_6 U_5 => vp_in ((uI U_5 o 4) - 1) 16 ∧ ∀ (U_7 : Um), U_7 = sJ U_5 o 3 (va_up (uJ U_5 o 3) (Int32.toNatClampNeg ((uI U_5 o 4) - 1)) r_6) → ((lg_cmp r_6 (-2147483648)) < 0 → post 0 U_7) ∧ (¬ (lg_cmp r_6 (-2147483648)) < 0 → ((0 : Int32) < (lg_cmp r_6 2147483647) → post 0 U_7) ∧ (¬ (0 : Int32) < (lg_cmp r_6 2147483647) → post 1 U_7)))) ∧ (a1 = (-13) → ∀ (x6_8 : Int64), x6_8 = x2_2 * x4_3 → vp_in ((uI U_1 o 4) - 1) 16 ∧ ∀ (U_9 : Um), U_9 = sJ U_1 o 3 (va_up (uJ U_1 o 3) (Int32.toNatClampNeg ((uI U_1 o 4) - 1)) x6_8) → ((lg_cmp x6_8 (-2147483648)) < 0 → post 0 U_9) ∧ (¬ (lg_cmp x6_8 (-2147483648)) < 0 → ((0 : Int32) < (lg_cmp x6_8 2147483647) → post 0 U_9) ∧ (¬ (0 : Int32) < (lg_cmp x6_8 2147483647) → post 1 U_9))) ∧ (a1 = (-12) → ∀ (x6_10 : Int64), x6_10 = x2_2 - x4_3 → vp_in ((uI U_1 o 4) - 1) 16 ∧ ∀ (U_11 : Um), U_11 = sJ U_1 o 3 (va_up (uJ U_1 o 3) (Int32.toNatClampNeg ((uI U_1 o 4) - 1)) x6_10) → ((lg_cmp x6_10 (-2147483648)) < 0 → post 0 U_11) ∧ (¬ (lg_cmp x6_10 (-2147483648)) < 0 → ((0 : Int32) < (lg_cmp x6_10 2147483647) → post 0 U_11) ∧ (¬ (0 : Int32) < (lg_cmp x6_10 2147483647) → post 1 U_11))) ∧ (a1 = (-11) → ∀ (x6_12 : Int64), x6_12 = x2_2 + x4_3 → vp_in ((uI U_1 o 4) - 1) 16 ∧ ∀ (U_13 : Um), U_13 = sJ U_1 o 3 (va_up (uJ U_1 o 3) (Int32.toNatClampNeg ((uI U_1 o 4) - 1)) x6_12) → ((lg_cmp x6_12 (-2147483648)) < 0 → post 0 U_13) ∧ (¬ (lg_cmp x6_12 (-2147483648)) < 0 → ((0 : Int32) < (lg_cmp x6_12 2147483647) → post 0 U_13) ∧ (¬ (0 : Int32) < (lg_cmp x6_12 2147483647) → post 1 U_13)))) → K_4 ) → (a1 = (-14) → ((lg_cmp x4_3 0) = 0 → post 0 U_1) ∧ (¬ (lg_cmp x4_3 0) = 0 → K_4)) ∧ (¬ a1 = (-14) → K_4))) ∧ (¬ (2 : Int32) ≤ (uI U o 4) → post 0 U)
set_option maxHeartbeats 4000000 in
theorem t_X3_join {l : Launch} {Y : px_Y} {o : Nat} {a1 : Int32} {U : Um} {post : Int32 → Um → Prop} (ho : oc o = 2) (H : w_X3_join o a1 U post) : um l Y 1 yX3_join cX3_join 8 (some (.boolean)) [.ref (Y.2.1 o), .int a1] U (pq_i post) := by
  unfold w_X3_join at H
  refine um_of (by decide) (Nat.le_of_ble_eq_true rfl) [some (.ref (Y.2.1 o)), some (.int a1), none, none, none, none, none, none] rfl (fun X h0 hh sz hM hU => ?_)
  have hC := hM.1
  have hR := hM.2.2.1
  refine pr_aload_n hC (by decide +kernel : decode cX3_join 0 = .ok (.aload_n 0, 1)) rfl ?_
  refine pu_g0 hC fg_X3_28 (by decide +kernel : decode cX3_join 1 = .ok (.getfield 28, 3)) hU ho (by decide) rfl rfl ?_
  refine pr_iconst hC (2) (by decide +kernel : decode cX3_join 4 = .ok (.iconst 2, 1)) rfl ?_
  refine pr_icmp_ge hC 10 (by decide +kernel : decode cX3_join 5 = .ok (.if_icmp .ge 5, 3)) (by decide) (fun c_5 => ?_) (fun c_5 => ?_)
  · replace H := H.1 c_5
    refine pr_aload_n hC (by decide +kernel : decode cX3_join 10 = .ok (.aload_n 0, 1)) rfl ?_
    refine pr_dup hC (by decide +kernel : decode cX3_join 11 = .ok (.dup, 1)) rfl ?_
    refine pu_g0 hC fg_X3_28 (by decide +kernel : decode cX3_join 12 = .ok (.getfield 28, 3)) hU ho (by decide) rfl rfl ?_
    refine pr_iconst hC (1) (by decide +kernel : decode cX3_join 15 = .ok (.iconst 1, 1)) rfl ?_
    refine pr_isub hC (by decide +kernel : decode cX3_join 16 = .ok (.isub, 1)) ?_
    refine pv_p0 hC fp_X3_28 (by decide +kernel : decode cX3_join 17 = .ok (.putfield 28, 3)) hU ho (by decide) rfl rfl rfl rfl (fun U_1 h e_U_1 hU => ?_)
    replace H := H U_1 e_U_1
    refine pr_aload_n hC (by decide +kernel : decode cX3_join 20 = .ok (.aload_n 0, 1)) rfl ?_
    refine pu_g1 hC fg_X3_20 (by decide +kernel : decode cX3_join 21 = .ok (.getfield 20, 3)) hU ho (by decide) rfl (by decide) ?_
    refine pr_aload_n hC (by decide +kernel : decode cX3_join 24 = .ok (.aload_n 0, 1)) rfl ?_
    refine pu_g0 hC fg_X3_28 (by decide +kernel : decode cX3_join 25 = .ok (.getfield 28, 3)) hU ho (by decide) rfl rfl ?_
    refine pr_iconst hC (1) (by decide +kernel : decode cX3_join 28 = .ok (.iconst 1, 1)) rfl ?_
    refine pr_isub hC (by decide +kernel : decode cX3_join 29 = .ok (.isub, 1)) ?_
    refine pu_lald hC (by decide +kernel : decode cX3_join 30 = .ok (.laload, 1)) hU ho rfl H.1 ?_
    replace H := H.2
    refine pv_topl (fun x2_2 e_x2_2 => ?_)
    replace H := H x2_2 e_x2_2
    refine pr_lstore_n hC (by decide +kernel : decode cX3_join 31 = .ok (.lstore_n 2, 1)) (by decide) rfl ?_
    refine pr_aload_n hC (by decide +kernel : decode cX3_join 32 = .ok (.aload_n 0, 1)) rfl ?_
    refine pu_g1 hC fg_X3_20 (by decide +kernel : decode cX3_join 33 = .ok (.getfield 20, 3)) hU ho (by decide) rfl (by decide) ?_
    refine pr_aload_n hC (by decide +kernel : decode cX3_join 36 = .ok (.aload_n 0, 1)) rfl ?_
    refine pu_g0 hC fg_X3_28 (by decide +kernel : decode cX3_join 37 = .ok (.getfield 28, 3)) hU ho (by decide) rfl rfl ?_
    refine pu_lald hC (by decide +kernel : decode cX3_join 40 = .ok (.laload, 1)) hU ho rfl H.1 ?_
    replace H := H.2
    refine pv_topl (fun x4_3 e_x4_3 => ?_)
    replace H := H x4_3 e_x4_3
    refine pr_lstore hC (by decide +kernel : decode cX3_join 41 = .ok (.lstore 4, 2)) (by decide) rfl ?_
    refine pr_iload_n hC (by decide +kernel : decode cX3_join 43 = .ok (.iload_n 1, 1)) rfl ?_
    refine pr_bipush hC (-14) (by decide +kernel : decode cX3_join 44 = .ok (.bipush (-14), 2)) rfl ?_
    replace H := H (pw X Y.1 (pm_A hh sz) (pm_E X Y.1 hh sz 0 0 (pm_P Y h0 sz (pq_i post))) 58 [some (.ref (Y.2.1 o)), some (.int a1), some (.long x2_2), none, some (.long x4_3), none, none, none] [] h sz 0 0) (by
      intro  H
      refine pr_iload_n hC (by decide +kernel : decode cX3_join 58 = .ok (.iload_n 1, 1)) rfl ?_
      refine pv_table hC (by decide +kernel : decode cX3_join 59 = .ok (.tableswitch 52 (-13) (-11) #[43, 34, 25], 25)) 111 (by decide) (fun hq => ?_) (fun hq => ?_)
      · replace H := H.1 (fun e => absurd hq (by rw [e]; decide)) (fun e => absurd hq (by rw [e]; decide)) (fun e => absurd hq (by rw [e]; decide))
        refine pr_lload_n hC (by decide +kernel : decode cX3_join 111 = .ok (.lload_n 2, 1)) rfl ?_
        refine pr_lload hC (by decide +kernel : decode cX3_join 112 = .ok (.lload 4, 2)) rfl ?_
        refine vc_Sl hC hR [.long x2_2, .long x4_3] fv_X3_40 (by decide +kernel : decode cX3_join 114 = .ok (.invokestatic 40, 3)) hU (t_J9_floorDiv_f86c9  H) rfl rfl (Nat.le_of_ble_eq_true rfl) (Nat.le_of_ble_eq_true rfl) (Nat.le_refl 0) (Nat.le_refl 0) (fun r_6 U_5 h H hU => ?_)
        refine pr_lstore hC (by decide +kernel : decode cX3_join 117 = .ok (.lstore 6, 2)) (by decide) rfl ?_
        refine pr_aload_n hC (by decide +kernel : decode cX3_join 119 = .ok (.aload_n 0, 1)) rfl ?_
        refine pu_g1 hC fg_X3_20 (by decide +kernel : decode cX3_join 120 = .ok (.getfield 20, 3)) hU ho (by decide) rfl (by decide) ?_
        refine pr_aload_n hC (by decide +kernel : decode cX3_join 123 = .ok (.aload_n 0, 1)) rfl ?_
        refine pu_g0 hC fg_X3_28 (by decide +kernel : decode cX3_join 124 = .ok (.getfield 28, 3)) hU ho (by decide) rfl rfl ?_
        refine pr_iconst hC (1) (by decide +kernel : decode cX3_join 127 = .ok (.iconst 1, 1)) rfl ?_
        refine pr_isub hC (by decide +kernel : decode cX3_join 128 = .ok (.isub, 1)) ?_
        refine pr_lload hC (by decide +kernel : decode cX3_join 129 = .ok (.lload 6, 2)) rfl ?_
        refine pv_last hC (by decide +kernel : decode cX3_join 131 = .ok (.lastore, 1)) hU ho rfl H.1 (fun U_7 h e_U_7 hU => ?_)
        replace H := H.2 U_7 e_U_7
        refine pr_lload hC (by decide +kernel : decode cX3_join 132 = .ok (.lload 6, 2)) rfl ?_
        refine pr_ldc2 hC (-2147483648) (by decide +kernel : decode cX3_join 134 = .ok (.ldc2_w 46, 3)) fk_X3_46 ?_
        refine pr_lcmp hC (by decide +kernel : decode cX3_join 137 = .ok (.lcmp, 1)) ?_
        refine pr_if_lt hC 154 (by decide +kernel : decode cX3_join 138 = .ok (.ifCond .lt 16, 3)) (by decide) (fun c_138 => ?_) (fun c_138 => ?_)
        · replace H := H.1 c_138
          refine pr_iconst hC (0) (by decide +kernel : decode cX3_join 154 = .ok (.iconst 0, 1)) rfl ?_
          exact pv_zret hM (by decide +kernel : decode cX3_join 155 = .ok (.ireturn, 1)) (Or.inl rfl) hU H
        replace H := H.2 c_138
        refine pr_lload hC (by decide +kernel : decode cX3_join 141 = .ok (.lload 6, 2)) rfl ?_
        refine pr_ldc2 hC (2147483647) (by decide +kernel : decode cX3_join 143 = .ok (.ldc2_w 48, 3)) fk_X3_48 ?_
        refine pr_lcmp hC (by decide +kernel : decode cX3_join 146 = .ok (.lcmp, 1)) ?_
        refine pr_if_gt hC 154 (by decide +kernel : decode cX3_join 147 = .ok (.ifCond .gt 7, 3)) (by decide) (fun c_147 => ?_) (fun c_147 => ?_)
        · replace H := H.1 c_147
          refine pr_iconst hC (0) (by decide +kernel : decode cX3_join 154 = .ok (.iconst 0, 1)) rfl ?_
          exact pv_zret hM (by decide +kernel : decode cX3_join 155 = .ok (.ireturn, 1)) (Or.inl rfl) hU H
        replace H := H.2 c_147
        refine pr_iconst hC (1) (by decide +kernel : decode cX3_join 150 = .ok (.iconst 1, 1)) rfl ?_
        refine pr_goto hC 155 (by decide +kernel : decode cX3_join 151 = .ok (.goto 4, 3)) (by decide) ?_
        exact pv_zret hM (by decide +kernel : decode cX3_join 155 = .ok (.ireturn, 1)) (Or.inr rfl) hU H
      · replace H := H.2
        rcases (show Int32.toInt a1 = -13 ∨ Int32.toInt a1 = -12 ∨ Int32.toInt a1 = -11 from by omega) with hq | hq | hq
        · have e_59 : a1 = (-13) := Int32.toInt_inj.mp (hq.trans (by decide))
          replace H := H.1 e_59
          refine ⟨43, 102, by rw [hq]; rfl, by decide, ?_⟩
          refine pr_lload_n hC (by decide +kernel : decode cX3_join 102 = .ok (.lload_n 2, 1)) rfl ?_
          refine pr_lload hC (by decide +kernel : decode cX3_join 103 = .ok (.lload 4, 2)) rfl ?_
          refine pr_lmul hC (by decide +kernel : decode cX3_join 105 = .ok (.lmul, 1)) ?_
          refine pv_topl (fun x6_8 e_x6_8 => ?_)
          replace H := H x6_8 e_x6_8
          refine pr_lstore hC (by decide +kernel : decode cX3_join 106 = .ok (.lstore 6, 2)) (by decide) rfl ?_
          refine pr_goto hC 119 (by decide +kernel : decode cX3_join 108 = .ok (.goto 11, 3)) (by decide) ?_
          refine pr_aload_n hC (by decide +kernel : decode cX3_join 119 = .ok (.aload_n 0, 1)) rfl ?_
          refine pu_g1 hC fg_X3_20 (by decide +kernel : decode cX3_join 120 = .ok (.getfield 20, 3)) hU ho (by decide) rfl (by decide) ?_
          refine pr_aload_n hC (by decide +kernel : decode cX3_join 123 = .ok (.aload_n 0, 1)) rfl ?_
          refine pu_g0 hC fg_X3_28 (by decide +kernel : decode cX3_join 124 = .ok (.getfield 28, 3)) hU ho (by decide) rfl rfl ?_
          refine pr_iconst hC (1) (by decide +kernel : decode cX3_join 127 = .ok (.iconst 1, 1)) rfl ?_
          refine pr_isub hC (by decide +kernel : decode cX3_join 128 = .ok (.isub, 1)) ?_
          refine pr_lload hC (by decide +kernel : decode cX3_join 129 = .ok (.lload 6, 2)) rfl ?_
          refine pv_last hC (by decide +kernel : decode cX3_join 131 = .ok (.lastore, 1)) hU ho rfl H.1 (fun U_9 h e_U_9 hU => ?_)
          replace H := H.2 U_9 e_U_9
          refine pr_lload hC (by decide +kernel : decode cX3_join 132 = .ok (.lload 6, 2)) rfl ?_
          refine pr_ldc2 hC (-2147483648) (by decide +kernel : decode cX3_join 134 = .ok (.ldc2_w 46, 3)) fk_X3_46 ?_
          refine pr_lcmp hC (by decide +kernel : decode cX3_join 137 = .ok (.lcmp, 1)) ?_
          refine pr_if_lt hC 154 (by decide +kernel : decode cX3_join 138 = .ok (.ifCond .lt 16, 3)) (by decide) (fun c_138 => ?_) (fun c_138 => ?_)
          · replace H := H.1 c_138
            refine pr_iconst hC (0) (by decide +kernel : decode cX3_join 154 = .ok (.iconst 0, 1)) rfl ?_
            exact pv_zret hM (by decide +kernel : decode cX3_join 155 = .ok (.ireturn, 1)) (Or.inl rfl) hU H
          replace H := H.2 c_138
          refine pr_lload hC (by decide +kernel : decode cX3_join 141 = .ok (.lload 6, 2)) rfl ?_
          refine pr_ldc2 hC (2147483647) (by decide +kernel : decode cX3_join 143 = .ok (.ldc2_w 48, 3)) fk_X3_48 ?_
          refine pr_lcmp hC (by decide +kernel : decode cX3_join 146 = .ok (.lcmp, 1)) ?_
          refine pr_if_gt hC 154 (by decide +kernel : decode cX3_join 147 = .ok (.ifCond .gt 7, 3)) (by decide) (fun c_147 => ?_) (fun c_147 => ?_)
          · replace H := H.1 c_147
            refine pr_iconst hC (0) (by decide +kernel : decode cX3_join 154 = .ok (.iconst 0, 1)) rfl ?_
            exact pv_zret hM (by decide +kernel : decode cX3_join 155 = .ok (.ireturn, 1)) (Or.inl rfl) hU H
          replace H := H.2 c_147
          refine pr_iconst hC (1) (by decide +kernel : decode cX3_join 150 = .ok (.iconst 1, 1)) rfl ?_
          refine pr_goto hC 155 (by decide +kernel : decode cX3_join 151 = .ok (.goto 4, 3)) (by decide) ?_
          exact pv_zret hM (by decide +kernel : decode cX3_join 155 = .ok (.ireturn, 1)) (Or.inr rfl) hU H
        · have e_59 : a1 = (-12) := Int32.toInt_inj.mp (hq.trans (by decide))
          replace H := H.2.1 e_59
          refine ⟨34, 93, by rw [hq]; rfl, by decide, ?_⟩
          refine pr_lload_n hC (by decide +kernel : decode cX3_join 93 = .ok (.lload_n 2, 1)) rfl ?_
          refine pr_lload hC (by decide +kernel : decode cX3_join 94 = .ok (.lload 4, 2)) rfl ?_
          refine pr_lsub hC (by decide +kernel : decode cX3_join 96 = .ok (.lsub, 1)) ?_
          refine pv_topl (fun x6_10 e_x6_10 => ?_)
          replace H := H x6_10 e_x6_10
          refine pr_lstore hC (by decide +kernel : decode cX3_join 97 = .ok (.lstore 6, 2)) (by decide) rfl ?_
          refine pr_goto hC 119 (by decide +kernel : decode cX3_join 99 = .ok (.goto 20, 3)) (by decide) ?_
          refine pr_aload_n hC (by decide +kernel : decode cX3_join 119 = .ok (.aload_n 0, 1)) rfl ?_
          refine pu_g1 hC fg_X3_20 (by decide +kernel : decode cX3_join 120 = .ok (.getfield 20, 3)) hU ho (by decide) rfl (by decide) ?_
          refine pr_aload_n hC (by decide +kernel : decode cX3_join 123 = .ok (.aload_n 0, 1)) rfl ?_
          refine pu_g0 hC fg_X3_28 (by decide +kernel : decode cX3_join 124 = .ok (.getfield 28, 3)) hU ho (by decide) rfl rfl ?_
          refine pr_iconst hC (1) (by decide +kernel : decode cX3_join 127 = .ok (.iconst 1, 1)) rfl ?_
          refine pr_isub hC (by decide +kernel : decode cX3_join 128 = .ok (.isub, 1)) ?_
          refine pr_lload hC (by decide +kernel : decode cX3_join 129 = .ok (.lload 6, 2)) rfl ?_
          refine pv_last hC (by decide +kernel : decode cX3_join 131 = .ok (.lastore, 1)) hU ho rfl H.1 (fun U_11 h e_U_11 hU => ?_)
          replace H := H.2 U_11 e_U_11
          refine pr_lload hC (by decide +kernel : decode cX3_join 132 = .ok (.lload 6, 2)) rfl ?_
          refine pr_ldc2 hC (-2147483648) (by decide +kernel : decode cX3_join 134 = .ok (.ldc2_w 46, 3)) fk_X3_46 ?_
          refine pr_lcmp hC (by decide +kernel : decode cX3_join 137 = .ok (.lcmp, 1)) ?_
          refine pr_if_lt hC 154 (by decide +kernel : decode cX3_join 138 = .ok (.ifCond .lt 16, 3)) (by decide) (fun c_138 => ?_) (fun c_138 => ?_)
          · replace H := H.1 c_138
            refine pr_iconst hC (0) (by decide +kernel : decode cX3_join 154 = .ok (.iconst 0, 1)) rfl ?_
            exact pv_zret hM (by decide +kernel : decode cX3_join 155 = .ok (.ireturn, 1)) (Or.inl rfl) hU H
          replace H := H.2 c_138
          refine pr_lload hC (by decide +kernel : decode cX3_join 141 = .ok (.lload 6, 2)) rfl ?_
          refine pr_ldc2 hC (2147483647) (by decide +kernel : decode cX3_join 143 = .ok (.ldc2_w 48, 3)) fk_X3_48 ?_
          refine pr_lcmp hC (by decide +kernel : decode cX3_join 146 = .ok (.lcmp, 1)) ?_
          refine pr_if_gt hC 154 (by decide +kernel : decode cX3_join 147 = .ok (.ifCond .gt 7, 3)) (by decide) (fun c_147 => ?_) (fun c_147 => ?_)
          · replace H := H.1 c_147
            refine pr_iconst hC (0) (by decide +kernel : decode cX3_join 154 = .ok (.iconst 0, 1)) rfl ?_
            exact pv_zret hM (by decide +kernel : decode cX3_join 155 = .ok (.ireturn, 1)) (Or.inl rfl) hU H
          replace H := H.2 c_147
          refine pr_iconst hC (1) (by decide +kernel : decode cX3_join 150 = .ok (.iconst 1, 1)) rfl ?_
          refine pr_goto hC 155 (by decide +kernel : decode cX3_join 151 = .ok (.goto 4, 3)) (by decide) ?_
          exact pv_zret hM (by decide +kernel : decode cX3_join 155 = .ok (.ireturn, 1)) (Or.inr rfl) hU H
        · have e_59 : a1 = (-11) := Int32.toInt_inj.mp (hq.trans (by decide))
          replace H := H.2.2 e_59
          refine ⟨25, 84, by rw [hq]; rfl, by decide, ?_⟩
          refine pr_lload_n hC (by decide +kernel : decode cX3_join 84 = .ok (.lload_n 2, 1)) rfl ?_
          refine pr_lload hC (by decide +kernel : decode cX3_join 85 = .ok (.lload 4, 2)) rfl ?_
          refine pr_ladd hC (by decide +kernel : decode cX3_join 87 = .ok (.ladd, 1)) ?_
          refine pv_topl (fun x6_12 e_x6_12 => ?_)
          replace H := H x6_12 e_x6_12
          refine pr_lstore hC (by decide +kernel : decode cX3_join 88 = .ok (.lstore 6, 2)) (by decide) rfl ?_
          refine pr_goto hC 119 (by decide +kernel : decode cX3_join 90 = .ok (.goto 29, 3)) (by decide) ?_
          refine pr_aload_n hC (by decide +kernel : decode cX3_join 119 = .ok (.aload_n 0, 1)) rfl ?_
          refine pu_g1 hC fg_X3_20 (by decide +kernel : decode cX3_join 120 = .ok (.getfield 20, 3)) hU ho (by decide) rfl (by decide) ?_
          refine pr_aload_n hC (by decide +kernel : decode cX3_join 123 = .ok (.aload_n 0, 1)) rfl ?_
          refine pu_g0 hC fg_X3_28 (by decide +kernel : decode cX3_join 124 = .ok (.getfield 28, 3)) hU ho (by decide) rfl rfl ?_
          refine pr_iconst hC (1) (by decide +kernel : decode cX3_join 127 = .ok (.iconst 1, 1)) rfl ?_
          refine pr_isub hC (by decide +kernel : decode cX3_join 128 = .ok (.isub, 1)) ?_
          refine pr_lload hC (by decide +kernel : decode cX3_join 129 = .ok (.lload 6, 2)) rfl ?_
          refine pv_last hC (by decide +kernel : decode cX3_join 131 = .ok (.lastore, 1)) hU ho rfl H.1 (fun U_13 h e_U_13 hU => ?_)
          replace H := H.2 U_13 e_U_13
          refine pr_lload hC (by decide +kernel : decode cX3_join 132 = .ok (.lload 6, 2)) rfl ?_
          refine pr_ldc2 hC (-2147483648) (by decide +kernel : decode cX3_join 134 = .ok (.ldc2_w 46, 3)) fk_X3_46 ?_
          refine pr_lcmp hC (by decide +kernel : decode cX3_join 137 = .ok (.lcmp, 1)) ?_
          refine pr_if_lt hC 154 (by decide +kernel : decode cX3_join 138 = .ok (.ifCond .lt 16, 3)) (by decide) (fun c_138 => ?_) (fun c_138 => ?_)
          · replace H := H.1 c_138
            refine pr_iconst hC (0) (by decide +kernel : decode cX3_join 154 = .ok (.iconst 0, 1)) rfl ?_
            exact pv_zret hM (by decide +kernel : decode cX3_join 155 = .ok (.ireturn, 1)) (Or.inl rfl) hU H
          replace H := H.2 c_138
          refine pr_lload hC (by decide +kernel : decode cX3_join 141 = .ok (.lload 6, 2)) rfl ?_
          refine pr_ldc2 hC (2147483647) (by decide +kernel : decode cX3_join 143 = .ok (.ldc2_w 48, 3)) fk_X3_48 ?_
          refine pr_lcmp hC (by decide +kernel : decode cX3_join 146 = .ok (.lcmp, 1)) ?_
          refine pr_if_gt hC 154 (by decide +kernel : decode cX3_join 147 = .ok (.ifCond .gt 7, 3)) (by decide) (fun c_147 => ?_) (fun c_147 => ?_)
          · replace H := H.1 c_147
            refine pr_iconst hC (0) (by decide +kernel : decode cX3_join 154 = .ok (.iconst 0, 1)) rfl ?_
            exact pv_zret hM (by decide +kernel : decode cX3_join 155 = .ok (.ireturn, 1)) (Or.inl rfl) hU H
          replace H := H.2 c_147
          refine pr_iconst hC (1) (by decide +kernel : decode cX3_join 150 = .ok (.iconst 1, 1)) rfl ?_
          refine pr_goto hC 155 (by decide +kernel : decode cX3_join 151 = .ok (.goto 4, 3)) (by decide) ?_
          exact pv_zret hM (by decide +kernel : decode cX3_join 155 = .ok (.ireturn, 1)) (Or.inr rfl) hU H)
    refine pr_icmp_ne hC 58 (by decide +kernel : decode cX3_join 46 = .ok (.if_icmp .ne 12, 3)) (by decide) (fun c_46 => ?_) (fun c_46 => ?_)
    · replace H := H.2 c_46
      exact pv_sub [some (.ref (Y.2.1 o)), some (.int a1), some (.long x2_2), none, some (.long x4_3), none, none, none] (And.intro rfl (And.intro rfl (And.intro rfl (And.intro rfl trivial)))) (H )
    replace H := H.1 c_46
    refine pr_lload hC (by decide +kernel : decode cX3_join 49 = .ok (.lload 4, 2)) rfl ?_
    refine pr_lconst hC (0) (by decide +kernel : decode cX3_join 51 = .ok (.lconst 0, 1)) rfl ?_
    refine pr_lcmp hC (by decide +kernel : decode cX3_join 52 = .ok (.lcmp, 1)) ?_
    refine pr_if_ne hC 58 (by decide +kernel : decode cX3_join 53 = .ok (.ifCond .ne 5, 3)) (by decide) (fun c_53 => ?_) (fun c_53 => ?_)
    · replace H := H.2 c_53
      exact pv_sub [some (.ref (Y.2.1 o)), some (.int a1), some (.long x2_2), none, some (.long x4_3), none, none, none] (And.intro rfl (And.intro rfl (And.intro rfl (And.intro rfl trivial)))) (H )
    replace H := H.1 c_53
    refine pr_iconst hC (0) (by decide +kernel : decode cX3_join 56 = .ok (.iconst 0, 1)) rfl ?_
    exact pv_zret hM (by decide +kernel : decode cX3_join 57 = .ok (.ireturn, 1)) (Or.inl rfl) hU H
  replace H := H.2 c_5
  refine pr_iconst hC (0) (by decide +kernel : decode cX3_join 8 = .ok (.iconst 0, 1)) rfl ?_
  exact pv_zret hM (by decide +kernel : decode cX3_join 9 = .ok (.ireturn, 1)) (Or.inl rfl) hU H
def w_X3_push (o : Nat) (a1 : Int32) (U : Um) (post : Int32 → Um → Prop) : Prop :=
  ((a1 < 0 → vp_in ((-1) - a1) 8 ∧ True) ∧ (¬ a1 < 0 → True)) ∧ ∀ (xs_1 : Int32), xs_1 = (if a1 < 0 then uA U o 2 (Int32.toNatClampNeg ((-1) - a1)) else a1) → ((16 : Int32) ≤ (uI U o 4) → post 0 U) ∧ (¬ (16 : Int32) ≤ (uI U o 4) → (∀ K_2 : Prop, ((vp_in (uI U o 4) 16 ∧ ∀ (U_3 : Um), U_3 = sJ U o 3 (va_up (uJ U o 3) (Int32.toNatClampNeg (uI U o 4)) (Int32.toInt64 xs_1)) → ∀ (U_4 : Um), U_4 = sI U_3 o 4 ((uI U_3 o 4) + 1) → post 1 U_4) → K_2 ) → (a1 = (-7) → (xs_1 = (-1) → post 0 U) ∧ (¬ xs_1 = (-1) → K_2)) ∧ (¬ a1 = (-7) → K_2)))
set_option maxHeartbeats 4000000 in
theorem t_X3_push {l : Launch} {Y : px_Y} {o : Nat} {a1 : Int32} {U : Um} {post : Int32 → Um → Prop} (ho : oc o = 2) (H : w_X3_push o a1 U post) : um l Y 0 yX3_push cX3_push 3 (some (.boolean)) [.ref (Y.2.1 o), .int a1] U (pq_i post) := by
  unfold w_X3_push at H
  refine um_of (by decide) (Nat.le_of_ble_eq_true rfl) [some (.ref (Y.2.1 o)), some (.int a1), none] rfl (fun X h0 hh sz hM hU => ?_)
  have hC := hM.1
  have hR := hM.2.2.1
  refine pr_iload_n hC (by decide +kernel : decode cX3_push 0 = .ok (.iload_n 1, 1)) rfl ?_
  have HJ_5 : ∀ (xs_1 : Int32), xs_1 = (if a1 < 0 then uA U o 2 (Int32.toNatClampNeg ((-1) - a1)) else a1) → pw X Y.1 (pm_A hh sz) (pm_E X Y.1 hh sz 0 0 (pm_P Y h0 sz (pq_i post))) 16 [some (.ref (Y.2.1 o)), some (.int a1), none] [.int xs_1] hh sz 0 0 := by
    replace H := H.2
    intro xs_1 e_xs_1
    replace H := H xs_1 e_xs_1
    refine pr_istore_n hC (by decide +kernel : decode cX3_push 16 = .ok (.istore_n 2, 1)) (by decide) rfl ?_
    refine pr_aload_n hC (by decide +kernel : decode cX3_push 17 = .ok (.aload_n 0, 1)) rfl ?_
    refine pu_g0 hC fg_X3_28 (by decide +kernel : decode cX3_push 18 = .ok (.getfield 28, 3)) hU ho (by decide) rfl rfl ?_
    refine pr_bipush hC (16) (by decide +kernel : decode cX3_push 21 = .ok (.bipush 16, 2)) rfl ?_
    refine pr_icmp_ge hC 37 (by decide +kernel : decode cX3_push 23 = .ok (.if_icmp .ge 14, 3)) (by decide) (fun c_23 => ?_) (fun c_23 => ?_)
    · replace H := H.1 c_23
      refine pr_iconst hC (0) (by decide +kernel : decode cX3_push 37 = .ok (.iconst 0, 1)) rfl ?_
      exact pv_zret hM (by decide +kernel : decode cX3_push 38 = .ok (.ireturn, 1)) (Or.inl rfl) hU H
    replace H := H.2 c_23
    refine pr_iload_n hC (by decide +kernel : decode cX3_push 26 = .ok (.iload_n 1, 1)) rfl ?_
    refine pr_bipush hC (-7) (by decide +kernel : decode cX3_push 27 = .ok (.bipush (-7), 2)) rfl ?_
    replace H := H (pw X Y.1 (pm_A hh sz) (pm_E X Y.1 hh sz 0 0 (pm_P Y h0 sz (pq_i post))) 39 [some (.ref (Y.2.1 o)), none, some (.int xs_1)] [] hh sz 0 0) (by
      intro  H
      refine pr_aload_n hC (by decide +kernel : decode cX3_push 39 = .ok (.aload_n 0, 1)) rfl ?_
      refine pu_g1 hC fg_X3_20 (by decide +kernel : decode cX3_push 40 = .ok (.getfield 20, 3)) hU ho (by decide) rfl (by decide) ?_
      refine pr_aload_n hC (by decide +kernel : decode cX3_push 43 = .ok (.aload_n 0, 1)) rfl ?_
      refine pu_g0 hC fg_X3_28 (by decide +kernel : decode cX3_push 44 = .ok (.getfield 28, 3)) hU ho (by decide) rfl rfl ?_
      refine pr_iload_n hC (by decide +kernel : decode cX3_push 47 = .ok (.iload_n 2, 1)) rfl ?_
      refine pr_i2l hC (by decide +kernel : decode cX3_push 48 = .ok (.i2l, 1)) ?_
      refine pv_last hC (by decide +kernel : decode cX3_push 49 = .ok (.lastore, 1)) hU ho rfl H.1 (fun U_3 h e_U_3 hU => ?_)
      replace H := H.2 U_3 e_U_3
      refine pr_aload_n hC (by decide +kernel : decode cX3_push 50 = .ok (.aload_n 0, 1)) rfl ?_
      refine pr_dup hC (by decide +kernel : decode cX3_push 51 = .ok (.dup, 1)) rfl ?_
      refine pu_g0 hC fg_X3_28 (by decide +kernel : decode cX3_push 52 = .ok (.getfield 28, 3)) hU ho (by decide) rfl rfl ?_
      refine pr_iconst hC (1) (by decide +kernel : decode cX3_push 55 = .ok (.iconst 1, 1)) rfl ?_
      refine pr_iadd hC (by decide +kernel : decode cX3_push 56 = .ok (.iadd, 1)) ?_
      refine pv_p0 hC fp_X3_28 (by decide +kernel : decode cX3_push 57 = .ok (.putfield 28, 3)) hU ho (by decide) rfl rfl rfl rfl (fun U_4 h e_U_4 hU => ?_)
      replace H := H U_4 e_U_4
      refine pr_iconst hC (1) (by decide +kernel : decode cX3_push 60 = .ok (.iconst 1, 1)) rfl ?_
      exact pv_zret hM (by decide +kernel : decode cX3_push 61 = .ok (.ireturn, 1)) (Or.inr rfl) hU H)
    refine pr_icmp_ne hC 39 (by decide +kernel : decode cX3_push 29 = .ok (.if_icmp .ne 10, 3)) (by decide) (fun c_29 => ?_) (fun c_29 => ?_)
    · replace H := H.2 c_29
      exact pv_sub [some (.ref (Y.2.1 o)), none, some (.int xs_1)] (And.intro rfl (And.intro rfl trivial)) (H )
    replace H := H.1 c_29
    refine pr_iload_n hC (by decide +kernel : decode cX3_push 32 = .ok (.iload_n 2, 1)) rfl ?_
    refine pr_iconst hC (-1) (by decide +kernel : decode cX3_push 33 = .ok (.iconst (-1), 1)) rfl ?_
    refine pr_icmp_ne hC 39 (by decide +kernel : decode cX3_push 34 = .ok (.if_icmp .ne 5, 3)) (by decide) (fun c_34 => ?_) (fun c_34 => ?_)
    · replace H := H.2 c_34
      exact pv_sub [some (.ref (Y.2.1 o)), none, some (.int xs_1)] (And.intro rfl (And.intro rfl trivial)) (H )
    replace H := H.1 c_34
    refine pr_iconst hC (0) (by decide +kernel : decode cX3_push 37 = .ok (.iconst 0, 1)) rfl ?_
    exact pv_zret hM (by decide +kernel : decode cX3_push 38 = .ok (.ireturn, 1)) (Or.inl rfl) hU H
  replace H := H.1
  refine pr_if_lt hC 8 (by decide +kernel : decode cX3_push 1 = .ok (.ifCond .lt 7, 3)) (by decide) (fun c_1 => ?_) (fun c_1 => ?_)
  · replace H := H.1 c_1
    refine pr_aload_n hC (by decide +kernel : decode cX3_push 8 = .ok (.aload_n 0, 1)) rfl ?_
    refine pu_g1 hC fg_X3_17 (by decide +kernel : decode cX3_push 9 = .ok (.getfield 17, 3)) hU ho (by decide) rfl (by decide) ?_
    refine pr_iconst hC (-1) (by decide +kernel : decode cX3_push 12 = .ok (.iconst (-1), 1)) rfl ?_
    refine pr_iload_n hC (by decide +kernel : decode cX3_push 13 = .ok (.iload_n 1, 1)) rfl ?_
    refine pr_isub hC (by decide +kernel : decode cX3_push 14 = .ok (.isub, 1)) ?_
    refine pu_iald hC (by decide +kernel : decode cX3_push 15 = .ok (.iaload, 1)) hU ho rfl H.1 ?_
    replace H := H.2
    exact pv_sub [some (.ref (Y.2.1 o)), some (.int a1), none] (And.intro rfl (And.intro rfl trivial)) (HJ_5 _ (if_pos c_1).symm)
  replace H := H.2 c_1
  refine pr_iload_n hC (by decide +kernel : decode cX3_push 4 = .ok (.iload_n 1, 1)) rfl ?_
  refine pr_goto hC 16 (by decide +kernel : decode cX3_push 5 = .ok (.goto 11, 3)) (by decide) ?_
  exact pv_sub [some (.ref (Y.2.1 o)), some (.int a1), none] (And.intro rfl (And.intro rfl trivial)) (HJ_5 _ (if_neg c_1).symm)
def b_X3_tell_L18 (o0 : Nat) (post : Int64 → Um → Prop) (k_63 : Int32 → Um → Prop) (rec_ : Int32 → Int32 → Um → Prop) (x1 : Int32) (x2 : Int32) (U : Um) : Prop :=
  ((uI U o0 1) ≤ x2 → k_63 x1 U) ∧ (¬ (uI U o0 1) ≤ x2 → (x1 = 0 → k_63 x1 U) ∧ (¬ x1 = 0 → vp_in x2 1200 ∧ ∀ (x3_2 : Int32), x3_2 = uA U o0 0 (Int32.toNatClampNeg x2) → (((-11) : Int32) < x3_2 → w_X3_push o0 x3_2 U (fun r_4 U_3 => ∀ (x2_5 : Int32), x2_5 = x2 + 1 → rec_ r_4 x2_5 U_3)) ∧ (¬ ((-11) : Int32) < x3_2 → w_X3_join o0 x3_2 U (fun r_7 U_6 => ∀ (x2_8 : Int32), x2_8 = x2 + 1 → rec_ r_7 x2_8 U_6))))
def w_X3_tell_L18 (o0 : Nat) (post : Int64 → Um → Prop) (k_63 : Int32 → Um → Prop) (n_ : Nat) : Int32 → Int32 → Um → Prop := Nat.rec (motive := fun _ => Int32 → Int32 → Um → Prop) (fun _ _ _ => False) (fun _ ih => b_X3_tell_L18 o0 post k_63 ih) n_
def w_X3_tell (o : Nat) (U : Um) (post : Int64 → Um → Prop) : Prop :=
  ((uI U o 1) = 0 → post 0 U) ∧ (¬ (uI U o 1) = 0 → ∀ (U_1 : Um), U_1 = sI U o 4 0 → (∃ n_11, w_X3_tell_L18 o post (fun x1_9 U_10 => (x1_9 = 0 → post (-9223372036854775808) U_10) ∧ (¬ x1_9 = 0 → ((uI U_10 o 4) = 1 → vp_in 0 16 ∧ post (uJ U_10 o 3 (Int32.toNatClampNeg 0)) U_10) ∧ (¬ (uI U_10 o 4) = 1 → post (-9223372036854775808) U_10))) n_11 1 0 U_1))
set_option maxHeartbeats 4000000 in
theorem tl_X3_tell_L18 {l : Launch} {Y : px_Y} {X : px_X} {h0 hh : pe_H} {sz : Nat} (o0 : Nat) (post : Int64 → Um → Prop) (k_63 : Int32 → Um → Prop) (ho0 : oc o0 = 2)  (hC : px_C X Y.1 (pm_A hh sz) cX3_tell RX3 4) (hM : px_M l X Y.1 hh sz yX3_tell cX3_tell 4 (some (.long)) 2 0 0) (hR : X.2.2.2.1 = pm_rm 2 0 0) (hk_63 : ∀ (y1 : Int32) (U : Um) (h : pe_H), k_63 y1 U → rF Y h0 U h → pw X Y.1 (pm_A hh sz) (pm_E X Y.1 hh sz 0 0 (pm_P Y h0 sz (pq_l post))) 63 [some (.ref (Y.2.1 o0)), some (.int y1), none, none] [] h sz 0 0) : ∀ (n_ : Nat) (x1 : Int32) (x2 : Int32) (U : Um) (h : pe_H), rF Y h0 U h → w_X3_tell_L18 o0 post k_63 n_ x1 x2 U → pw X Y.1 (pm_A hh sz) (pm_E X Y.1 hh sz 0 0 (pm_P Y h0 sz (pq_l post))) 18 [some (.ref (Y.2.1 o0)), some (.int x1), some (.int x2), none] [] h sz 0 0 := by
  intro n_
  induction n_ with
  | zero => intro x1 x2 U h hU H; exact False.elim H
  | succ n_ ih =>
    intro x1 x2 U h hU H
    replace H : b_X3_tell_L18 o0 post k_63 (w_X3_tell_L18 o0 post k_63 n_) x1 x2 U := H
    unfold b_X3_tell_L18 at H
    refine pr_iload_n hC (by decide +kernel : decode cX3_tell 18 = .ok (.iload_n 2, 1)) rfl ?_
    refine pr_aload_n hC (by decide +kernel : decode cX3_tell 19 = .ok (.aload_n 0, 1)) rfl ?_
    refine pu_g0 hC fg_X3_24 (by decide +kernel : decode cX3_tell 20 = .ok (.getfield 24, 3)) hU ho0 (by decide) rfl rfl ?_
    refine pr_icmp_ge hC 63 (by decide +kernel : decode cX3_tell 23 = .ok (.if_icmp .ge 40, 3)) (by decide) (fun c_23 => ?_) (fun c_23 => ?_)
    · replace H := H.1 c_23
      exact pv_sub [some (.ref (Y.2.1 o0)), some (.int x1), none, none] (And.intro rfl (And.intro rfl trivial)) (hk_63 _ U h H hU)
    replace H := H.2 c_23
    refine pr_iload_n hC (by decide +kernel : decode cX3_tell 26 = .ok (.iload_n 1, 1)) rfl ?_
    refine pr_if_eq hC 63 (by decide +kernel : decode cX3_tell 27 = .ok (.ifCond .eq 36, 3)) (by decide) (fun c_27 => ?_) (fun c_27 => ?_)
    · replace H := H.1 c_27
      exact pv_sub [some (.ref (Y.2.1 o0)), some (.int x1), none, none] (And.intro rfl (And.intro rfl trivial)) (hk_63 _ U h H hU)
    replace H := H.2 c_27
    refine pr_aload_n hC (by decide +kernel : decode cX3_tell 30 = .ok (.aload_n 0, 1)) rfl ?_
    refine pu_g1 hC fg_X3_11 (by decide +kernel : decode cX3_tell 31 = .ok (.getfield 11, 3)) hU ho0 (by decide) rfl (by decide) ?_
    refine pr_iload_n hC (by decide +kernel : decode cX3_tell 34 = .ok (.iload_n 2, 1)) rfl ?_
    refine pu_iald hC (by decide +kernel : decode cX3_tell 35 = .ok (.iaload, 1)) hU ho0 rfl H.1 ?_
    replace H := H.2
    refine pv_topi (fun x3_2 e_x3_2 => ?_)
    replace H := H x3_2 e_x3_2
    refine pr_istore_n hC (by decide +kernel : decode cX3_tell 36 = .ok (.istore_n 3, 1)) (by decide) rfl ?_
    refine pr_iload_n hC (by decide +kernel : decode cX3_tell 37 = .ok (.iload_n 3, 1)) rfl ?_
    refine pr_bipush hC (-11) (by decide +kernel : decode cX3_tell 38 = .ok (.bipush (-11), 2)) rfl ?_
    refine pr_icmp_gt hC 51 (by decide +kernel : decode cX3_tell 40 = .ok (.if_icmp .gt 11, 3)) (by decide) (fun c_40 => ?_) (fun c_40 => ?_)
    · replace H := H.1 c_40
      refine pr_aload_n hC (by decide +kernel : decode cX3_tell 51 = .ok (.aload_n 0, 1)) rfl ?_
      refine pr_iload_n hC (by decide +kernel : decode cX3_tell 52 = .ok (.iload_n 3, 1)) rfl ?_
      refine vc_Vi hC hR [.int x3_2] fv_X3_35 (by decide +kernel : decode cX3_tell 53 = .ok (.invokevirtual 35, 3)) hU (t_X3_push ho0 H) ho0 (by decide) rfl rfl rfl (Nat.le_of_ble_eq_true rfl) (Nat.le_of_ble_eq_true rfl) (Nat.le_refl 0) (Nat.le_refl 0) (fun r_4 U_3 h H hU => ?_)
      refine pr_istore_n hC (by decide +kernel : decode cX3_tell 56 = .ok (.istore_n 1, 1)) (by decide) rfl ?_
      refine pv_iinc hC (v := x2 + 1) (by decide +kernel : decode cX3_tell 57 = .ok (.iinc 2 1, 3)) rfl (by decide) rfl rfl (fun x2_5 e_x2_5 => ?_)
      replace H := H x2_5 e_x2_5
      refine pr_goto hC 18 (by decide +kernel : decode cX3_tell 60 = .ok (.goto (-42), 3)) (by decide) ?_
      exact pv_sub [some (.ref (Y.2.1 o0)), some (.int r_4), some (.int x2_5), none] (And.intro rfl (And.intro rfl (And.intro rfl trivial))) (ih _ _ U_3 h hU H)
    replace H := H.2 c_40
    refine pr_aload_n hC (by decide +kernel : decode cX3_tell 43 = .ok (.aload_n 0, 1)) rfl ?_
    refine pr_iload_n hC (by decide +kernel : decode cX3_tell 44 = .ok (.iload_n 3, 1)) rfl ?_
    refine vc_Vi hC hR [.int x3_2] fv_X3_31 (by decide +kernel : decode cX3_tell 45 = .ok (.invokevirtual 31, 3)) hU (t_X3_join ho0 H) ho0 (by decide) rfl rfl rfl (Nat.le_of_ble_eq_true rfl) (Nat.le_of_ble_eq_true rfl) (Nat.le_refl 0) (Nat.le_refl 0) (fun r_7 U_6 h H hU => ?_)
    refine pr_goto hC 56 (by decide +kernel : decode cX3_tell 48 = .ok (.goto 8, 3)) (by decide) ?_
    refine pr_istore_n hC (by decide +kernel : decode cX3_tell 56 = .ok (.istore_n 1, 1)) (by decide) rfl ?_
    refine pv_iinc hC (v := x2 + 1) (by decide +kernel : decode cX3_tell 57 = .ok (.iinc 2 1, 3)) rfl (by decide) rfl rfl (fun x2_8 e_x2_8 => ?_)
    replace H := H x2_8 e_x2_8
    refine pr_goto hC 18 (by decide +kernel : decode cX3_tell 60 = .ok (.goto (-42), 3)) (by decide) ?_
    exact pv_sub [some (.ref (Y.2.1 o0)), some (.int r_7), some (.int x2_8), none] (And.intro rfl (And.intro rfl (And.intro rfl trivial))) (ih _ _ U_6 h hU H)
set_option maxHeartbeats 4000000 in
theorem t_X3_tell {l : Launch} {Y : px_Y} {o : Nat} {U : Um} {post : Int64 → Um → Prop} (ho : oc o = 2) (H : w_X3_tell o U post) : um l Y 2 yX3_tell cX3_tell 4 (some (.long)) [.ref (Y.2.1 o)] U (pq_l post) := by
  unfold w_X3_tell at H
  refine um_of (by decide) (Nat.le_of_ble_eq_true rfl) [some (.ref (Y.2.1 o)), none, none, none] rfl (fun X h0 hh sz hM hU => ?_)
  have hC := hM.1
  have hR := hM.2.2.1
  refine pr_aload_n hC (by decide +kernel : decode cX3_tell 0 = .ok (.aload_n 0, 1)) rfl ?_
  refine pu_g0 hC fg_X3_24 (by decide +kernel : decode cX3_tell 1 = .ok (.getfield 24, 3)) hU ho (by decide) rfl rfl ?_
  refine pr_if_ne hC 9 (by decide +kernel : decode cX3_tell 4 = .ok (.ifCond .ne 5, 3)) (by decide) (fun c_4 => ?_) (fun c_4 => ?_)
  · replace H := H.2 c_4
    refine pr_aload_n hC (by decide +kernel : decode cX3_tell 9 = .ok (.aload_n 0, 1)) rfl ?_
    refine pr_iconst hC (0) (by decide +kernel : decode cX3_tell 10 = .ok (.iconst 0, 1)) rfl ?_
    refine pv_p0 hC fp_X3_28 (by decide +kernel : decode cX3_tell 11 = .ok (.putfield 28, 3)) hU ho (by decide) rfl rfl rfl rfl (fun U_1 h e_U_1 hU => ?_)
    replace H := H U_1 e_U_1
    refine pr_iconst hC (1) (by decide +kernel : decode cX3_tell 14 = .ok (.iconst 1, 1)) rfl ?_
    refine pr_istore_n hC (by decide +kernel : decode cX3_tell 15 = .ok (.istore_n 1, 1)) (by decide) rfl ?_
    refine pr_iconst hC (0) (by decide +kernel : decode cX3_tell 16 = .ok (.iconst 0, 1)) rfl ?_
    refine pr_istore_n hC (by decide +kernel : decode cX3_tell 17 = .ok (.istore_n 2, 1)) (by decide) rfl ?_
    obtain ⟨n_11, H⟩ := H
    refine pv_sub [some (.ref (Y.2.1 o)), some (.int 1), some (.int 0), none] (And.intro rfl (And.intro rfl (And.intro rfl trivial))) ?_
    refine tl_X3_tell_L18 _ _ _ ho hC hM hR (fun x1_9 U_10 h H hU => ?_) n_11 _ _ U_1 h hU H
    refine pr_iload_n hC (by decide +kernel : decode cX3_tell 63 = .ok (.iload_n 1, 1)) rfl ?_
    refine pr_if_eq hC 84 (by decide +kernel : decode cX3_tell 64 = .ok (.ifCond .eq 20, 3)) (by decide) (fun c_64 => ?_) (fun c_64 => ?_)
    · replace H := H.1 c_64
      refine pr_ldc2 hC (-9223372036854775808) (by decide +kernel : decode cX3_tell 84 = .ok (.ldc2_w 38, 3)) fk_X3_38 ?_
      exact pv_lret hM (by decide +kernel : decode cX3_tell 87 = .ok (.lreturn, 1)) hU H
    replace H := H.2 c_64
    refine pr_aload_n hC (by decide +kernel : decode cX3_tell 67 = .ok (.aload_n 0, 1)) rfl ?_
    refine pu_g0 hC fg_X3_28 (by decide +kernel : decode cX3_tell 68 = .ok (.getfield 28, 3)) hU ho (by decide) rfl rfl ?_
    refine pr_iconst hC (1) (by decide +kernel : decode cX3_tell 71 = .ok (.iconst 1, 1)) rfl ?_
    refine pr_icmp_ne hC 84 (by decide +kernel : decode cX3_tell 72 = .ok (.if_icmp .ne 12, 3)) (by decide) (fun c_72 => ?_) (fun c_72 => ?_)
    · replace H := H.2 c_72
      refine pr_ldc2 hC (-9223372036854775808) (by decide +kernel : decode cX3_tell 84 = .ok (.ldc2_w 38, 3)) fk_X3_38 ?_
      exact pv_lret hM (by decide +kernel : decode cX3_tell 87 = .ok (.lreturn, 1)) hU H
    replace H := H.1 c_72
    refine pr_aload_n hC (by decide +kernel : decode cX3_tell 75 = .ok (.aload_n 0, 1)) rfl ?_
    refine pu_g1 hC fg_X3_20 (by decide +kernel : decode cX3_tell 76 = .ok (.getfield 20, 3)) hU ho (by decide) rfl (by decide) ?_
    refine pr_iconst hC (0) (by decide +kernel : decode cX3_tell 79 = .ok (.iconst 0, 1)) rfl ?_
    refine pu_lald hC (by decide +kernel : decode cX3_tell 80 = .ok (.laload, 1)) hU ho rfl H.1 ?_
    replace H := H.2
    refine pr_goto hC 87 (by decide +kernel : decode cX3_tell 81 = .ok (.goto 6, 3)) (by decide) ?_
    exact pv_lret hM (by decide +kernel : decode cX3_tell 87 = .ok (.lreturn, 1)) hU H
  replace H := H.1 c_4
  refine pr_lconst hC (0) (by decide +kernel : decode cX3_tell 7 = .ok (.lconst 0, 1)) rfl ?_
  exact pv_lret hM (by decide +kernel : decode cX3_tell 8 = .ok (.lreturn, 1)) hU H
def w_X6_pay (o : Nat) (a1 : Int32) (a2 : Int32) (a3 : Int32) (U : Um) (post : Int64 → Um → Prop) : Prop :=
  oc (uR U o 0) = 8 ∧ vp_in a1 16 ∧ oc (uAR U (uR U o 0) 6 (Int32.toNatClampNeg a1)) = 1 ∧ oc (uR U o 0) = 8 ∧ oc (uR U (uR U o 0) 11) = 2 ∧ vp_in a3 10 ∧ w_X3_set (uR U (uR U o 0) 11) (-1) (uA U o 4 (Int32.toNatClampNeg a3)) U (fun U_6 => w_X2_needOf (uAR U (uR U o 0) 6 (Int32.toNatClampNeg a1)) a2 U_6 (fun r_9 U_8 => w_X3_set (uR U (uR U o 0) 11) (-2) r_9 U_8 (fun U_10 => w_X3_set (uR U (uR U o 0) 11) (-3) a2 U_10 (fun U_12 => w_X3_set (uR U (uR U o 0) 11) (-4) (uI U_12 (uAR U (uR U o 0) 6 (Int32.toNatClampNeg a1)) 5) U_12 (fun U_14 => w_X3_set (uR U (uR U o 0) 11) (-5) (uI U_14 (uAR U (uR U o 0) 6 (Int32.toNatClampNeg a1)) 3) U_14 (fun U_16 => w_X3_set (uR U (uR U o 0) 11) (-6) (uI U_16 (uAR U (uR U o 0) 6 (Int32.toNatClampNeg a1)) 4) U_16 (fun U_18 => oc (uR U_18 o 0) = 8 ∧ oc (uR U_18 (uR U_18 o 0) 10) = 4 ∧ oc (uR U_18 o 0) = 8 ∧ vp_in a3 10 ∧ vp_in (uA U_18 (uR U_18 o 0) 3 (Int32.toNatClampNeg a3)) 6 ∧ vp_in (uI U_18 (uAR U (uR U o 0) 6 (Int32.toNatClampNeg a1)) 2) 6 ∧ w_X3_set (uR U (uR U o 0) 11) (-7) (uA U_18 (uR U_18 (uR U_18 o 0) 10) (ki 2 (Int32.toNatClampNeg (uA U_18 (uR U_18 o 0) 3 (Int32.toNatClampNeg a3)))) (Int32.toNatClampNeg (uI U_18 (uAR U (uR U o 0) 6 (Int32.toNatClampNeg a1)) 2))) U_18 (fun U_24 => vp_in a3 10 ∧ w_X3_set (uR U (uR U o 0) 11) (-8) (FP.f2i (uF U_24 o 5 (Int32.toNatClampNeg a3))) U_24 (fun U_26 => w_X3_tell (uR U (uR U o 0) 11) U_26 (fun r_29 U_28 => post r_29 U_28))))))))))
set_option maxHeartbeats 4000000 in
theorem t_X6_pay {l : Launch} {Y : px_Y} {o : Nat} {a1 : Int32} {a2 : Int32} {a3 : Int32} {U : Um} {post : Int64 → Um → Prop} (ho : oc o = 5) (H : w_X6_pay o a1 a2 a3 U post) : um l Y 3 yX6_pay cX6_pay 6 (some (.long)) [.ref (Y.2.1 o), .int a1, .int a2, .int a3] U (pq_l post) := by
  unfold w_X6_pay at H
  refine um_of (by decide) (Nat.le_of_ble_eq_true rfl) [some (.ref (Y.2.1 o)), some (.int a1), some (.int a2), some (.int a3), none, none] rfl (fun X h0 hh sz hM hU => ?_)
  have hC := hM.1
  have hR := hM.2.2.1
  refine pr_aload_n hC (by decide +kernel : decode cX6_pay 0 = .ok (.aload_n 0, 1)) rfl ?_
  refine pu_g21 hC fg_X6_41 (by decide +kernel : decode cX6_pay 1 = .ok (.getfield 41, 3)) hU ho (by decide) rfl rfl ?_
  have q_1 := H.1
  replace H := H.2
  refine pu_g1 hC fg_X6_62 (by decide +kernel : decode cX6_pay 4 = .ok (.getfield 62, 3)) hU q_1 (by decide) rfl (by decide) ?_
  refine pr_iload_n hC (by decide +kernel : decode cX6_pay 7 = .ok (.iload_n 1, 1)) rfl ?_
  have q_2 := H.1
  replace H := H.2
  refine pu_aald8 hC (by decide +kernel : decode cX6_pay 8 = .ok (.aaload, 1)) hU q_1 rfl q_2 ?_
  have q_3 := H.1
  replace H := H.2
  refine pr_astore hC (by decide +kernel : decode cX6_pay 9 = .ok (.astore 4, 2)) (by decide) rfl ?_
  refine pr_aload_n hC (by decide +kernel : decode cX6_pay 11 = .ok (.aload_n 0, 1)) rfl ?_
  refine pu_g21 hC fg_X6_41 (by decide +kernel : decode cX6_pay 12 = .ok (.getfield 41, 3)) hU ho (by decide) rfl rfl ?_
  have q_4 := H.1
  replace H := H.2
  refine pu_g21 hC fg_X6_170 (by decide +kernel : decode cX6_pay 15 = .ok (.getfield 170, 3)) hU q_4 (by decide) rfl rfl ?_
  have q_5 := H.1
  replace H := H.2
  refine pr_astore hC (by decide +kernel : decode cX6_pay 18 = .ok (.astore 5, 2)) (by decide) rfl ?_
  refine pr_aload hC (by decide +kernel : decode cX6_pay 20 = .ok (.aload 5, 2)) rfl ?_
  refine pr_iconst hC (-1) (by decide +kernel : decode cX6_pay 22 = .ok (.iconst (-1), 1)) rfl ?_
  refine pr_aload_n hC (by decide +kernel : decode cX6_pay 23 = .ok (.aload_n 0, 1)) rfl ?_
  refine pu_g1 hC fg_X6_18 (by decide +kernel : decode cX6_pay 24 = .ok (.getfield 18, 3)) hU ho (by decide) rfl (by decide) ?_
  refine pr_iload_n hC (by decide +kernel : decode cX6_pay 27 = .ok (.iload_n 3, 1)) rfl ?_
  refine pu_iald hC (by decide +kernel : decode cX6_pay 28 = .ok (.iaload, 1)) hU ho rfl H.1 ?_
  replace H := H.2
  refine vc_Vv hC hR [.int (-1), .int (uA U o 4 (Int32.toNatClampNeg a3))] fv_X6_176 (by decide +kernel : decode cX6_pay 29 = .ok (.invokevirtual 176, 3)) hU (t_X3_set q_5 H) q_5 (by decide) rfl rfl rfl (Nat.le_of_ble_eq_true rfl) (Nat.le_of_ble_eq_true rfl) (Nat.le_refl 0) (Nat.le_refl 0) (fun U_6 h H hU => ?_)
  refine pr_aload hC (by decide +kernel : decode cX6_pay 32 = .ok (.aload 5, 2)) rfl ?_
  refine pr_bipush hC (-2) (by decide +kernel : decode cX6_pay 34 = .ok (.bipush (-2), 2)) rfl ?_
  refine pr_aload hC (by decide +kernel : decode cX6_pay 36 = .ok (.aload 4, 2)) rfl ?_
  refine pr_iload_n hC (by decide +kernel : decode cX6_pay 38 = .ok (.iload_n 2, 1)) rfl ?_
  refine vc_Vi hC hR [.int a2] fv_X6_103 (by decide +kernel : decode cX6_pay 39 = .ok (.invokevirtual 103, 3)) hU (t_X2_needOf q_3 H) q_3 (by decide) rfl rfl rfl (Nat.le_of_ble_eq_true rfl) (Nat.le_of_ble_eq_true rfl) (Nat.le_refl 0) (Nat.le_refl 0) (fun r_9 U_8 h H hU => ?_)
  refine vc_Vv hC hR [.int (-2), .int r_9] fv_X6_176 (by decide +kernel : decode cX6_pay 42 = .ok (.invokevirtual 176, 3)) hU (t_X3_set q_5 H) q_5 (by decide) rfl rfl rfl (Nat.le_of_ble_eq_true rfl) (Nat.le_of_ble_eq_true rfl) (Nat.le_refl 0) (Nat.le_refl 0) (fun U_10 h H hU => ?_)
  refine pr_aload hC (by decide +kernel : decode cX6_pay 45 = .ok (.aload 5, 2)) rfl ?_
  refine pr_bipush hC (-3) (by decide +kernel : decode cX6_pay 47 = .ok (.bipush (-3), 2)) rfl ?_
  refine pr_iload_n hC (by decide +kernel : decode cX6_pay 49 = .ok (.iload_n 2, 1)) rfl ?_
  refine vc_Vv hC hR [.int (-3), .int a2] fv_X6_176 (by decide +kernel : decode cX6_pay 50 = .ok (.invokevirtual 176, 3)) hU (t_X3_set q_5 H) q_5 (by decide) rfl rfl rfl (Nat.le_of_ble_eq_true rfl) (Nat.le_of_ble_eq_true rfl) (Nat.le_refl 0) (Nat.le_refl 0) (fun U_12 h H hU => ?_)
  refine pr_aload hC (by decide +kernel : decode cX6_pay 53 = .ok (.aload 5, 2)) rfl ?_
  refine pr_bipush hC (-4) (by decide +kernel : decode cX6_pay 55 = .ok (.bipush (-4), 2)) rfl ?_
  refine pr_aload hC (by decide +kernel : decode cX6_pay 57 = .ok (.aload 4, 2)) rfl ?_
  refine pu_g0 hC fg_X6_179 (by decide +kernel : decode cX6_pay 59 = .ok (.getfield 179, 3)) hU q_3 (by decide) rfl rfl ?_
  refine vc_Vv hC hR [.int (-4), .int (uI U_12 (uAR U (uR U o 0) 6 (Int32.toNatClampNeg a1)) 5)] fv_X6_176 (by decide +kernel : decode cX6_pay 62 = .ok (.invokevirtual 176, 3)) hU (t_X3_set q_5 H) q_5 (by decide) rfl rfl rfl (Nat.le_of_ble_eq_true rfl) (Nat.le_of_ble_eq_true rfl) (Nat.le_refl 0) (Nat.le_refl 0) (fun U_14 h H hU => ?_)
  refine pr_aload hC (by decide +kernel : decode cX6_pay 65 = .ok (.aload 5, 2)) rfl ?_
  refine pr_bipush hC (-5) (by decide +kernel : decode cX6_pay 67 = .ok (.bipush (-5), 2)) rfl ?_
  refine pr_aload hC (by decide +kernel : decode cX6_pay 69 = .ok (.aload 4, 2)) rfl ?_
  refine pu_g0 hC fg_X6_66 (by decide +kernel : decode cX6_pay 71 = .ok (.getfield 66, 3)) hU q_3 (by decide) rfl rfl ?_
  refine vc_Vv hC hR [.int (-5), .int (uI U_14 (uAR U (uR U o 0) 6 (Int32.toNatClampNeg a1)) 3)] fv_X6_176 (by decide +kernel : decode cX6_pay 74 = .ok (.invokevirtual 176, 3)) hU (t_X3_set q_5 H) q_5 (by decide) rfl rfl rfl (Nat.le_of_ble_eq_true rfl) (Nat.le_of_ble_eq_true rfl) (Nat.le_refl 0) (Nat.le_refl 0) (fun U_16 h H hU => ?_)
  refine pr_aload hC (by decide +kernel : decode cX6_pay 77 = .ok (.aload 5, 2)) rfl ?_
  refine pr_bipush hC (-6) (by decide +kernel : decode cX6_pay 79 = .ok (.bipush (-6), 2)) rfl ?_
  refine pr_aload hC (by decide +kernel : decode cX6_pay 81 = .ok (.aload 4, 2)) rfl ?_
  refine pu_g0 hC fg_X6_182 (by decide +kernel : decode cX6_pay 83 = .ok (.getfield 182, 3)) hU q_3 (by decide) rfl rfl ?_
  refine vc_Vv hC hR [.int (-6), .int (uI U_16 (uAR U (uR U o 0) 6 (Int32.toNatClampNeg a1)) 4)] fv_X6_176 (by decide +kernel : decode cX6_pay 86 = .ok (.invokevirtual 176, 3)) hU (t_X3_set q_5 H) q_5 (by decide) rfl rfl rfl (Nat.le_of_ble_eq_true rfl) (Nat.le_of_ble_eq_true rfl) (Nat.le_refl 0) (Nat.le_refl 0) (fun U_18 h H hU => ?_)
  refine pr_aload hC (by decide +kernel : decode cX6_pay 89 = .ok (.aload 5, 2)) rfl ?_
  refine pr_bipush hC (-7) (by decide +kernel : decode cX6_pay 91 = .ok (.bipush (-7), 2)) rfl ?_
  refine pr_aload_n hC (by decide +kernel : decode cX6_pay 93 = .ok (.aload_n 0, 1)) rfl ?_
  refine pu_g21 hC fg_X6_41 (by decide +kernel : decode cX6_pay 94 = .ok (.getfield 41, 3)) hU ho (by decide) rfl rfl ?_
  have q_20 := H.1
  replace H := H.2
  refine pu_g21 hC fg_X6_124 (by decide +kernel : decode cX6_pay 97 = .ok (.getfield 124, 3)) hU q_20 (by decide) rfl rfl ?_
  have q_21 := H.1
  replace H := H.2
  refine pu_g1 hC fg_X6_128 (by decide +kernel : decode cX6_pay 100 = .ok (.getfield 128, 3)) hU q_21 (by decide) rfl (by decide) ?_
  refine pr_aload_n hC (by decide +kernel : decode cX6_pay 103 = .ok (.aload_n 0, 1)) rfl ?_
  refine pu_g21 hC fg_X6_41 (by decide +kernel : decode cX6_pay 104 = .ok (.getfield 41, 3)) hU ho (by decide) rfl rfl ?_
  have q_22 := H.1
  replace H := H.2
  refine pu_g1 hC fg_X6_134 (by decide +kernel : decode cX6_pay 107 = .ok (.getfield 134, 3)) hU q_22 (by decide) rfl (by decide) ?_
  refine pr_iload_n hC (by decide +kernel : decode cX6_pay 110 = .ok (.iload_n 3, 1)) rfl ?_
  refine pu_iald hC (by decide +kernel : decode cX6_pay 111 = .ok (.iaload, 1)) hU q_22 rfl H.1 ?_
  replace H := H.2
  have q_23 := H.1
  replace H := H.2
  refine pu_aald6 hC (by decide +kernel : decode cX6_pay 112 = .ok (.aaload, 1)) hU q_21 rfl q_23 ?_
  refine pr_aload hC (by decide +kernel : decode cX6_pay 113 = .ok (.aload 4, 2)) rfl ?_
  refine pu_g0 hC fg_X6_137 (by decide +kernel : decode cX6_pay 115 = .ok (.getfield 137, 3)) hU q_3 (by decide) rfl rfl ?_
  refine pu_iald7 hC (by decide +kernel : decode cX6_pay 118 = .ok (.iaload, 1)) hU q_21 rfl (vp_lt q_23) H.1 ?_
  replace H := H.2
  refine vc_Vv hC hR [.int (-7), .int (uA U_18 (uR U_18 (uR U_18 o 0) 10) (ki 2 (Int32.toNatClampNeg (uA U_18 (uR U_18 o 0) 3 (Int32.toNatClampNeg a3)))) (Int32.toNatClampNeg (uI U_18 (uAR U (uR U o 0) 6 (Int32.toNatClampNeg a1)) 2)))] fv_X6_176 (by decide +kernel : decode cX6_pay 119 = .ok (.invokevirtual 176, 3)) hU (t_X3_set q_5 H) q_5 (by decide) rfl rfl rfl (Nat.le_of_ble_eq_true rfl) (Nat.le_of_ble_eq_true rfl) (Nat.le_refl 0) (Nat.le_refl 0) (fun U_24 h H hU => ?_)
  refine pr_aload hC (by decide +kernel : decode cX6_pay 122 = .ok (.aload 5, 2)) rfl ?_
  refine pr_bipush hC (-8) (by decide +kernel : decode cX6_pay 124 = .ok (.bipush (-8), 2)) rfl ?_
  refine pr_aload_n hC (by decide +kernel : decode cX6_pay 126 = .ok (.aload_n 0, 1)) rfl ?_
  refine pu_g1 hC fg_X6_21 (by decide +kernel : decode cX6_pay 127 = .ok (.getfield 21, 3)) hU ho (by decide) rfl (by decide) ?_
  refine pr_iload_n hC (by decide +kernel : decode cX6_pay 130 = .ok (.iload_n 3, 1)) rfl ?_
  refine pu_fald hC (by decide +kernel : decode cX6_pay 131 = .ok (.faload, 1)) hU ho rfl H.1 ?_
  replace H := H.2
  refine pr_f2i hC (by decide +kernel : decode cX6_pay 132 = .ok (.f2i, 1)) ?_
  refine vc_Vv hC hR [.int (-8), .int (FP.f2i (uF U_24 o 5 (Int32.toNatClampNeg a3)))] fv_X6_176 (by decide +kernel : decode cX6_pay 133 = .ok (.invokevirtual 176, 3)) hU (t_X3_set q_5 H) q_5 (by decide) rfl rfl rfl (Nat.le_of_ble_eq_true rfl) (Nat.le_of_ble_eq_true rfl) (Nat.le_refl 0) (Nat.le_refl 0) (fun U_26 h H hU => ?_)
  refine pr_aload hC (by decide +kernel : decode cX6_pay 136 = .ok (.aload 5, 2)) rfl ?_
  refine vc_Vl hC hR [] fv_X6_185 (by decide +kernel : decode cX6_pay 138 = .ok (.invokevirtual 185, 3)) hU (t_X3_tell q_5 H) q_5 (by decide) rfl rfl rfl (Nat.le_of_ble_eq_true rfl) (Nat.le_of_ble_eq_true rfl) (Nat.le_refl 0) (Nat.le_refl 0) (fun r_29 U_28 h H hU => ?_)
  exact pv_lret hM (by decide +kernel : decode cX6_pay 141 = .ok (.lreturn, 1)) hU H
def b_X1_nearest_L11 (o0 : Nat) (x1 : Int32) (x2 : Int32) (post : Int32 → Um → Prop) (k_126 : Int32 → Um → Prop) (rec_ : Int32 → Int32 → Int64 → Int32 → Um → Prop) (x3 : Int32) (x4 : Int32) (x5 : Int64) (x7 : Int32) (U : Um) : Prop :=
  oc (uR U o0 0) = 5 ∧ w_X6_officials (uR U o0 0) U (fun r_3 U_2 => (r_3 ≤ x7 → k_126 x3 U_2) ∧ (¬ r_3 ≤ x7 → oc (uR U_2 o0 0) = 5 ∧ w_X6_reason (uR U_2 o0 0) x1 x2 x7 U_2 (fun r_6 U_5 => (r_6 = 0 → oc (uR U_5 o0 0) = 5 ∧ w_X6_detour (uR U_5 o0 0) x1 x2 x7 U_5 (fun r_9 U_8 => oc (uR U_8 o0 0) = 5 ∧ w_X6_pay (uR U_8 o0 0) x1 x2 x7 U_8 (fun r_12 U_11 => ∀ (xs_13 : Int64), xs_13 = (if (lg_cmp r_12 (-9223372036854775808)) = 0 then 2147483648 else r_12) → (∀ K_14 : Prop, ((∀ (x3_15 : Int32), x3_15 = x7 → ∀ (x7_16 : Int32), x7_16 = x7 + 1 → rec_ x3_15 r_9 xs_13 x7_16 U_11) → K_14 ) → (x3 = (-1) → K_14) ∧ (¬ x3 = (-1) → (r_9 < x4 → K_14) ∧ (¬ r_9 < x4 → (r_9 = x4 → ((0 : Int32) ≤ (lg_cmp xs_13 x5) → ∀ (x7_17 : Int32), x7_17 = x7 + 1 → rec_ x3 x4 x5 x7_17 U_11) ∧ (¬ (0 : Int32) ≤ (lg_cmp xs_13 x5) → K_14)) ∧ (¬ r_9 = x4 → ∀ (x7_18 : Int32), x7_18 = x7 + 1 → rec_ x3 x4 x5 x7_18 U_11))))))) ∧ (¬ r_6 = 0 → ∀ (x7_20 : Int32), x7_20 = x7 + 1 → rec_ x3 x4 x5 x7_20 U_5))))
def w_X1_nearest_L11 (o0 : Nat) (x1 : Int32) (x2 : Int32) (post : Int32 → Um → Prop) (k_126 : Int32 → Um → Prop) (n_ : Nat) : Int32 → Int32 → Int64 → Int32 → Um → Prop := Nat.rec (motive := fun _ => Int32 → Int32 → Int64 → Int32 → Um → Prop) (fun _ _ _ _ _ => False) (fun _ ih => b_X1_nearest_L11 o0 x1 x2 post k_126 ih) n_
def w_X1_nearest (o : Nat) (a1 : Int32) (a2 : Int32) (U : Um) (post : Int32 → Um → Prop) : Prop :=
  (∃ n_23, w_X1_nearest_L11 o a1 a2 post (fun x3_21 U_22 => post x3_21 U_22) n_23 (-1) 0 0 0 U)
set_option maxHeartbeats 4000000 in
theorem tl_X1_nearest_L11 {l : Launch} {Y : px_Y} {X : px_X} {h0 hh : pe_H} {sz : Nat} (o0 : Nat) (x1 : Int32) (x2 : Int32) (post : Int32 → Um → Prop) (k_126 : Int32 → Um → Prop) (ho0 : oc o0 = 0)  (hC : px_C X Y.1 (pm_A hh sz) cX1_nearest RX1 11) (hM : px_M l X Y.1 hh sz yX1_nearest cX1_nearest 11 (some (.int)) 4 0 0) (hR : X.2.2.2.1 = pm_rm 4 0 0) (hk_126 : ∀ (y3 : Int32) (U : Um) (h : pe_H), k_126 y3 U → rF Y h0 U h → pw X Y.1 (pm_A hh sz) (pm_E X Y.1 hh sz 0 0 (pm_P Y h0 sz (pq_i post))) 126 [none, none, none, some (.int y3), none, none, none, none, none, none, none] [] h sz 0 0) : ∀ (n_ : Nat) (x3 : Int32) (x4 : Int32) (x5 : Int64) (x7 : Int32) (U : Um) (h : pe_H), rF Y h0 U h → w_X1_nearest_L11 o0 x1 x2 post k_126 n_ x3 x4 x5 x7 U → pw X Y.1 (pm_A hh sz) (pm_E X Y.1 hh sz 0 0 (pm_P Y h0 sz (pq_i post))) 11 [some (.ref (Y.2.1 o0)), some (.int x1), some (.int x2), some (.int x3), some (.int x4), some (.long x5), none, some (.int x7), none, none, none] [] h sz 0 0 := by
  intro n_
  induction n_ with
  | zero => intro x3 x4 x5 x7 U h hU H; exact False.elim H
  | succ n_ ih =>
    intro x3 x4 x5 x7 U h hU H
    replace H : b_X1_nearest_L11 o0 x1 x2 post k_126 (w_X1_nearest_L11 o0 x1 x2 post k_126 n_) x3 x4 x5 x7 U := H
    unfold b_X1_nearest_L11 at H
    refine pr_iload hC (by decide +kernel : decode cX1_nearest 11 = .ok (.iload 7, 2)) rfl ?_
    refine pr_aload_n hC (by decide +kernel : decode cX1_nearest 13 = .ok (.aload_n 0, 1)) rfl ?_
    refine pu_g21 hC fg_X1_9 (by decide +kernel : decode cX1_nearest 14 = .ok (.getfield 9, 3)) hU ho0 (by decide) rfl rfl ?_
    have q_1 := H.1
    replace H := H.2
    refine vc_Vi hC hR [] fv_X1_28 (by decide +kernel : decode cX1_nearest 17 = .ok (.invokevirtual 28, 3)) hU (t_X6_officials q_1 H) q_1 (by decide) rfl rfl rfl (Nat.le_of_ble_eq_true rfl) (Nat.le_of_ble_eq_true rfl) (Nat.le_refl 0) (Nat.le_refl 0) (fun r_3 U_2 h H hU => ?_)
    refine pr_icmp_ge hC 126 (by decide +kernel : decode cX1_nearest 20 = .ok (.if_icmp .ge 106, 3)) (by decide) (fun c_20 => ?_) (fun c_20 => ?_)
    · replace H := H.1 c_20
      exact pv_sub [none, none, none, some (.int x3), none, none, none, none, none, none, none] (And.intro rfl trivial) (hk_126 _ U_2 h H hU)
    replace H := H.2 c_20
    refine pr_aload_n hC (by decide +kernel : decode cX1_nearest 23 = .ok (.aload_n 0, 1)) rfl ?_
    refine pu_g21 hC fg_X1_9 (by decide +kernel : decode cX1_nearest 24 = .ok (.getfield 9, 3)) hU ho0 (by decide) rfl rfl ?_
    have q_4 := H.1
    replace H := H.2
    refine pr_iload_n hC (by decide +kernel : decode cX1_nearest 27 = .ok (.iload_n 1, 1)) rfl ?_
    refine pr_iload_n hC (by decide +kernel : decode cX1_nearest 28 = .ok (.iload_n 2, 1)) rfl ?_
    refine pr_iload hC (by decide +kernel : decode cX1_nearest 29 = .ok (.iload 7, 2)) rfl ?_
    refine vc_Vi hC hR [.int x1, .int x2, .int x7] fv_X1_34 (by decide +kernel : decode cX1_nearest 31 = .ok (.invokevirtual 34, 3)) hU (t_X6_reason q_4 H) q_4 (by decide) rfl rfl rfl (Nat.le_of_ble_eq_true rfl) (Nat.le_of_ble_eq_true rfl) (Nat.le_refl 0) (Nat.le_refl 0) (fun r_6 U_5 h H hU => ?_)
    refine pr_if_ne hC 120 (by decide +kernel : decode cX1_nearest 34 = .ok (.ifCond .ne 86, 3)) (by decide) (fun c_34 => ?_) (fun c_34 => ?_)
    · replace H := H.2 c_34
      refine pv_iinc hC (v := x7 + 1) (by decide +kernel : decode cX1_nearest 120 = .ok (.iinc 7 1, 3)) rfl (by decide) rfl rfl (fun x7_20 e_x7_20 => ?_)
      replace H := H x7_20 e_x7_20
      refine pr_goto hC 11 (by decide +kernel : decode cX1_nearest 123 = .ok (.goto (-112), 3)) (by decide) ?_
      exact pv_sub [some (.ref (Y.2.1 o0)), some (.int x1), some (.int x2), some (.int x3), some (.int x4), some (.long x5), none, some (.int x7_20), none, none, none] (And.intro rfl (And.intro rfl (And.intro rfl (And.intro rfl (And.intro rfl (And.intro rfl (And.intro rfl trivial))))))) (ih _ _ _ _ U_5 h hU H)
    replace H := H.1 c_34
    refine pr_aload_n hC (by decide +kernel : decode cX1_nearest 37 = .ok (.aload_n 0, 1)) rfl ?_
    refine pu_g21 hC fg_X1_9 (by decide +kernel : decode cX1_nearest 38 = .ok (.getfield 9, 3)) hU ho0 (by decide) rfl rfl ?_
    have q_7 := H.1
    replace H := H.2
    refine pr_iload_n hC (by decide +kernel : decode cX1_nearest 41 = .ok (.iload_n 1, 1)) rfl ?_
    refine pr_iload_n hC (by decide +kernel : decode cX1_nearest 42 = .ok (.iload_n 2, 1)) rfl ?_
    refine pr_iload hC (by decide +kernel : decode cX1_nearest 43 = .ok (.iload 7, 2)) rfl ?_
    refine vc_Vi hC hR [.int x1, .int x2, .int x7] fv_X1_38 (by decide +kernel : decode cX1_nearest 45 = .ok (.invokevirtual 38, 3)) hU (t_X6_detour q_7 H) q_7 (by decide) rfl rfl rfl (Nat.le_of_ble_eq_true rfl) (Nat.le_of_ble_eq_true rfl) (Nat.le_refl 0) (Nat.le_refl 0) (fun r_9 U_8 h H hU => ?_)
    refine pr_istore hC (by decide +kernel : decode cX1_nearest 48 = .ok (.istore 8, 2)) (by decide) rfl ?_
    refine pr_aload_n hC (by decide +kernel : decode cX1_nearest 50 = .ok (.aload_n 0, 1)) rfl ?_
    refine pu_g21 hC fg_X1_9 (by decide +kernel : decode cX1_nearest 51 = .ok (.getfield 9, 3)) hU ho0 (by decide) rfl rfl ?_
    have q_10 := H.1
    replace H := H.2
    refine pr_iload_n hC (by decide +kernel : decode cX1_nearest 54 = .ok (.iload_n 1, 1)) rfl ?_
    refine pr_iload_n hC (by decide +kernel : decode cX1_nearest 55 = .ok (.iload_n 2, 1)) rfl ?_
    refine pr_iload hC (by decide +kernel : decode cX1_nearest 56 = .ok (.iload 7, 2)) rfl ?_
    refine vc_Vl hC hR [.int x1, .int x2, .int x7] fv_X1_41 (by decide +kernel : decode cX1_nearest 58 = .ok (.invokevirtual 41, 3)) hU (t_X6_pay q_10 H) q_10 (by decide) rfl rfl rfl (Nat.le_of_ble_eq_true rfl) (Nat.le_of_ble_eq_true rfl) (Nat.le_refl 0) (Nat.le_refl 0) (fun r_12 U_11 h H hU => ?_)
    refine pr_lstore hC (by decide +kernel : decode cX1_nearest 61 = .ok (.lstore 9, 2)) (by decide) rfl ?_
    refine pr_lload hC (by decide +kernel : decode cX1_nearest 63 = .ok (.lload 9, 2)) rfl ?_
    refine pr_ldc2 hC (-9223372036854775808) (by decide +kernel : decode cX1_nearest 65 = .ok (.ldc2_w 45, 3)) fk_X1_45 ?_
    refine pr_lcmp hC (by decide +kernel : decode cX1_nearest 68 = .ok (.lcmp, 1)) ?_
    have HJ_19 : ∀ (xs_13 : Int64), xs_13 = (if (lg_cmp r_12 (-9223372036854775808)) = 0 then 2147483648 else r_12) → pw X Y.1 (pm_A hh sz) (pm_E X Y.1 hh sz 0 0 (pm_P Y h0 sz (pq_i post))) 80 [some (.ref (Y.2.1 o0)), some (.int x1), some (.int x2), some (.int x3), some (.int x4), some (.long x5), none, some (.int x7), some (.int r_9), none, none] [.long xs_13] h sz 0 0 := by
      intro xs_13 e_xs_13
      replace H := H xs_13 e_xs_13
      refine pr_lstore hC (by decide +kernel : decode cX1_nearest 80 = .ok (.lstore 9, 2)) (by decide) rfl ?_
      refine pr_iload_n hC (by decide +kernel : decode cX1_nearest 82 = .ok (.iload_n 3, 1)) rfl ?_
      refine pr_iconst hC (-1) (by decide +kernel : decode cX1_nearest 83 = .ok (.iconst (-1), 1)) rfl ?_
      replace H := H (pw X Y.1 (pm_A hh sz) (pm_E X Y.1 hh sz 0 0 (pm_P Y h0 sz (pq_i post))) 109 [some (.ref (Y.2.1 o0)), some (.int x1), some (.int x2), none, none, none, none, some (.int x7), some (.int r_9), some (.long xs_13), none] [] h sz 0 0) (by
        intro  H
        refine pr_iload hC (by decide +kernel : decode cX1_nearest 109 = .ok (.iload 7, 2)) rfl ?_
        refine pv_topi (fun x3_15 e_x3_15 => ?_)
        replace H := H x3_15 e_x3_15
        refine pr_istore_n hC (by decide +kernel : decode cX1_nearest 111 = .ok (.istore_n 3, 1)) (by decide) rfl ?_
        refine pr_iload hC (by decide +kernel : decode cX1_nearest 112 = .ok (.iload 8, 2)) rfl ?_
        refine pr_istore hC (by decide +kernel : decode cX1_nearest 114 = .ok (.istore 4, 2)) (by decide) rfl ?_
        refine pr_lload hC (by decide +kernel : decode cX1_nearest 116 = .ok (.lload 9, 2)) rfl ?_
        refine pr_lstore hC (by decide +kernel : decode cX1_nearest 118 = .ok (.lstore 5, 2)) (by decide) rfl ?_
        refine pv_iinc hC (v := x7 + 1) (by decide +kernel : decode cX1_nearest 120 = .ok (.iinc 7 1, 3)) rfl (by decide) rfl rfl (fun x7_16 e_x7_16 => ?_)
        replace H := H x7_16 e_x7_16
        refine pr_goto hC 11 (by decide +kernel : decode cX1_nearest 123 = .ok (.goto (-112), 3)) (by decide) ?_
        exact pv_sub [some (.ref (Y.2.1 o0)), some (.int x1), some (.int x2), some (.int x3_15), some (.int r_9), some (.long xs_13), none, some (.int x7_16), none, none, none] (And.intro rfl (And.intro rfl (And.intro rfl (And.intro rfl (And.intro rfl (And.intro rfl (And.intro rfl trivial))))))) (ih _ _ _ _ U_11 h hU H))
      refine pr_icmp_eq hC 109 (by decide +kernel : decode cX1_nearest 84 = .ok (.if_icmp .eq 25, 3)) (by decide) (fun c_84 => ?_) (fun c_84 => ?_)
      · replace H := H.1 c_84
        exact pv_sub [some (.ref (Y.2.1 o0)), some (.int x1), some (.int x2), none, none, none, none, some (.int x7), some (.int r_9), some (.long xs_13), none] (And.intro rfl (And.intro rfl (And.intro rfl (And.intro rfl (And.intro rfl (And.intro rfl trivial)))))) (H )
      replace H := H.2 c_84
      refine pr_iload hC (by decide +kernel : decode cX1_nearest 87 = .ok (.iload 8, 2)) rfl ?_
      refine pr_iload hC (by decide +kernel : decode cX1_nearest 89 = .ok (.iload 4, 2)) rfl ?_
      refine pr_icmp_lt hC 109 (by decide +kernel : decode cX1_nearest 91 = .ok (.if_icmp .lt 18, 3)) (by decide) (fun c_91 => ?_) (fun c_91 => ?_)
      · replace H := H.1 c_91
        exact pv_sub [some (.ref (Y.2.1 o0)), some (.int x1), some (.int x2), none, none, none, none, some (.int x7), some (.int r_9), some (.long xs_13), none] (And.intro rfl (And.intro rfl (And.intro rfl (And.intro rfl (And.intro rfl (And.intro rfl trivial)))))) (H )
      replace H := H.2 c_91
      refine pr_iload hC (by decide +kernel : decode cX1_nearest 94 = .ok (.iload 8, 2)) rfl ?_
      refine pr_iload hC (by decide +kernel : decode cX1_nearest 96 = .ok (.iload 4, 2)) rfl ?_
      refine pr_icmp_ne hC 120 (by decide +kernel : decode cX1_nearest 98 = .ok (.if_icmp .ne 22, 3)) (by decide) (fun c_98 => ?_) (fun c_98 => ?_)
      · replace H := H.2 c_98
        refine pv_iinc hC (v := x7 + 1) (by decide +kernel : decode cX1_nearest 120 = .ok (.iinc 7 1, 3)) rfl (by decide) rfl rfl (fun x7_18 e_x7_18 => ?_)
        replace H := H x7_18 e_x7_18
        refine pr_goto hC 11 (by decide +kernel : decode cX1_nearest 123 = .ok (.goto (-112), 3)) (by decide) ?_
        exact pv_sub [some (.ref (Y.2.1 o0)), some (.int x1), some (.int x2), some (.int x3), some (.int x4), some (.long x5), none, some (.int x7_18), none, none, none] (And.intro rfl (And.intro rfl (And.intro rfl (And.intro rfl (And.intro rfl (And.intro rfl (And.intro rfl trivial))))))) (ih _ _ _ _ U_11 h hU H)
      replace H := H.1 c_98
      refine pr_lload hC (by decide +kernel : decode cX1_nearest 101 = .ok (.lload 9, 2)) rfl ?_
      refine pr_lload hC (by decide +kernel : decode cX1_nearest 103 = .ok (.lload 5, 2)) rfl ?_
      refine pr_lcmp hC (by decide +kernel : decode cX1_nearest 105 = .ok (.lcmp, 1)) ?_
      refine pr_if_ge hC 120 (by decide +kernel : decode cX1_nearest 106 = .ok (.ifCond .ge 14, 3)) (by decide) (fun c_106 => ?_) (fun c_106 => ?_)
      · replace H := H.1 c_106
        refine pv_iinc hC (v := x7 + 1) (by decide +kernel : decode cX1_nearest 120 = .ok (.iinc 7 1, 3)) rfl (by decide) rfl rfl (fun x7_17 e_x7_17 => ?_)
        replace H := H x7_17 e_x7_17
        refine pr_goto hC 11 (by decide +kernel : decode cX1_nearest 123 = .ok (.goto (-112), 3)) (by decide) ?_
        exact pv_sub [some (.ref (Y.2.1 o0)), some (.int x1), some (.int x2), some (.int x3), some (.int x4), some (.long x5), none, some (.int x7_17), none, none, none] (And.intro rfl (And.intro rfl (And.intro rfl (And.intro rfl (And.intro rfl (And.intro rfl (And.intro rfl trivial))))))) (ih _ _ _ _ U_11 h hU H)
      replace H := H.2 c_106
      exact pv_sub [some (.ref (Y.2.1 o0)), some (.int x1), some (.int x2), none, none, none, none, some (.int x7), some (.int r_9), some (.long xs_13), none] (And.intro rfl (And.intro rfl (And.intro rfl (And.intro rfl (And.intro rfl (And.intro rfl trivial)))))) (H )
    replace H := trivial
    refine pr_if_ne hC 78 (by decide +kernel : decode cX1_nearest 69 = .ok (.ifCond .ne 9, 3)) (by decide) (fun c_69 => ?_) (fun c_69 => ?_)
    · skip
      refine pr_lload hC (by decide +kernel : decode cX1_nearest 78 = .ok (.lload 9, 2)) rfl ?_
      exact pv_sub [some (.ref (Y.2.1 o0)), some (.int x1), some (.int x2), some (.int x3), some (.int x4), some (.long x5), none, some (.int x7), some (.int r_9), none, none] (And.intro rfl (And.intro rfl (And.intro rfl (And.intro rfl (And.intro rfl (And.intro rfl (And.intro rfl (And.intro rfl trivial)))))))) (HJ_19 _ (if_neg c_69).symm)
    skip
    refine pr_ldc2 hC (2147483648) (by decide +kernel : decode cX1_nearest 72 = .ok (.ldc2_w 47, 3)) fk_X1_47 ?_
    refine pr_goto hC 80 (by decide +kernel : decode cX1_nearest 75 = .ok (.goto 5, 3)) (by decide) ?_
    exact pv_sub [some (.ref (Y.2.1 o0)), some (.int x1), some (.int x2), some (.int x3), some (.int x4), some (.long x5), none, some (.int x7), some (.int r_9), none, none] (And.intro rfl (And.intro rfl (And.intro rfl (And.intro rfl (And.intro rfl (And.intro rfl (And.intro rfl (And.intro rfl trivial)))))))) (HJ_19 _ (if_pos c_69).symm)
set_option maxHeartbeats 4000000 in
theorem t_X1_nearest {l : Launch} {Y : px_Y} {o : Nat} {a1 : Int32} {a2 : Int32} {U : Um} {post : Int32 → Um → Prop} (ho : oc o = 0) (H : w_X1_nearest o a1 a2 U post) : um l Y 4 yX1_nearest cX1_nearest 11 (some (.int)) [.ref (Y.2.1 o), .int a1, .int a2] U (pq_i post) := by
  unfold w_X1_nearest at H
  refine um_of (by decide) (Nat.le_of_ble_eq_true rfl) [some (.ref (Y.2.1 o)), some (.int a1), some (.int a2), none, none, none, none, none, none, none, none] rfl (fun X h0 hh sz hM hU => ?_)
  have hC := hM.1
  have hR := hM.2.2.1
  refine pr_iconst hC (-1) (by decide +kernel : decode cX1_nearest 0 = .ok (.iconst (-1), 1)) rfl ?_
  refine pr_istore_n hC (by decide +kernel : decode cX1_nearest 1 = .ok (.istore_n 3, 1)) (by decide) rfl ?_
  refine pr_iconst hC (0) (by decide +kernel : decode cX1_nearest 2 = .ok (.iconst 0, 1)) rfl ?_
  refine pr_istore hC (by decide +kernel : decode cX1_nearest 3 = .ok (.istore 4, 2)) (by decide) rfl ?_
  refine pr_lconst hC (0) (by decide +kernel : decode cX1_nearest 5 = .ok (.lconst 0, 1)) rfl ?_
  refine pr_lstore hC (by decide +kernel : decode cX1_nearest 6 = .ok (.lstore 5, 2)) (by decide) rfl ?_
  refine pr_iconst hC (0) (by decide +kernel : decode cX1_nearest 8 = .ok (.iconst 0, 1)) rfl ?_
  refine pr_istore hC (by decide +kernel : decode cX1_nearest 9 = .ok (.istore 7, 2)) (by decide) rfl ?_
  obtain ⟨n_23, H⟩ := H
  refine pv_sub [some (.ref (Y.2.1 o)), some (.int a1), some (.int a2), some (.int (-1)), some (.int 0), some (.long 0), none, some (.int 0), none, none, none] (And.intro rfl (And.intro rfl (And.intro rfl (And.intro rfl (And.intro rfl (And.intro rfl (And.intro rfl trivial))))))) ?_
  refine tl_X1_nearest_L11 _ _ _ _ _ ho hC hM hR (fun x3_21 U_22 h H hU => ?_) n_23 _ _ _ _ U hh hU H
  refine pr_iload_n hC (by decide +kernel : decode cX1_nearest 126 = .ok (.iload_n 3, 1)) rfl ?_
  exact pv_iret hM (by decide +kernel : decode cX1_nearest 127 = .ok (.ireturn, 1)) hU H
def w_X6_sit (o : Nat) (a1 : Int32) (a2 : Int32) (a3 : Int32) (U : Um) (post : Um → Prop) : Prop :=
  w_X9_placeOf a1 a2 U (fun r_2 U_1 => vp_in r_2 48 ∧ ∀ (U_3 : Um), U_3 = sA U_1 o 2 (va_up (uA U_1 o 2) (Int32.toNatClampNeg r_2) a3) → vp_in a3 10 ∧ vp_in a3 10 ∧ ∀ (U_4 : Um), U_4 = sA U_3 o 7 (va_up (uA U_3 o 7) (Int32.toNatClampNeg a3) ((uA U_3 o 7 (Int32.toNatClampNeg a3)) ||| ((1 : Int32) <<< (a1 &&& 31)))) → post U_4)
set_option maxHeartbeats 4000000 in
theorem t_X6_sit {l : Launch} {Y : px_Y} {o : Nat} {a1 : Int32} {a2 : Int32} {a3 : Int32} {U : Um} {post : Um → Prop} (ho : oc o = 5) (H : w_X6_sit o a1 a2 a3 U post) : um l Y 1 yX6_sit cX6_sit 4 none [.ref (Y.2.1 o), .int a1, .int a2, .int a3] U (pq_v post) := by
  unfold w_X6_sit at H
  refine um_of (by decide) (Nat.le_of_ble_eq_true rfl) [some (.ref (Y.2.1 o)), some (.int a1), some (.int a2), some (.int a3)] rfl (fun X h0 hh sz hM hU => ?_)
  have hC := hM.1
  have hR := hM.2.2.1
  refine pr_aload_n hC (by decide +kernel : decode cX6_sit 0 = .ok (.aload_n 0, 1)) rfl ?_
  refine pu_g1 hC fg_X6_9 (by decide +kernel : decode cX6_sit 1 = .ok (.getfield 9, 3)) hU ho (by decide) rfl (by decide) ?_
  refine pr_iload_n hC (by decide +kernel : decode cX6_sit 4 = .ok (.iload_n 1, 1)) rfl ?_
  refine pr_iload_n hC (by decide +kernel : decode cX6_sit 5 = .ok (.iload_n 2, 1)) rfl ?_
  refine vc_Si hC hR [.int a1, .int a2] fv_X6_71 (by decide +kernel : decode cX6_sit 6 = .ok (.invokestatic 71, 3)) hU (t_X9_placeOf  H) rfl rfl (Nat.le_of_ble_eq_true rfl) (Nat.le_of_ble_eq_true rfl) (Nat.le_refl 0) (Nat.le_refl 0) (fun r_2 U_1 h H hU => ?_)
  refine pr_iload_n hC (by decide +kernel : decode cX6_sit 9 = .ok (.iload_n 3, 1)) rfl ?_
  refine pv_iast hC (by decide +kernel : decode cX6_sit 10 = .ok (.iastore, 1)) hU ho rfl H.1 (fun U_3 h e_U_3 hU => ?_)
  replace H := H.2 U_3 e_U_3
  refine pr_aload_n hC (by decide +kernel : decode cX6_sit 11 = .ok (.aload_n 0, 1)) rfl ?_
  refine pu_g1 hC fg_X6_28 (by decide +kernel : decode cX6_sit 12 = .ok (.getfield 28, 3)) hU ho (by decide) rfl (by decide) ?_
  refine pr_iload_n hC (by decide +kernel : decode cX6_sit 15 = .ok (.iload_n 3, 1)) rfl ?_
  refine pr_dup2 hC (by decide +kernel : decode cX6_sit 16 = .ok (.dup2, 1)) rfl rfl ?_
  refine pu_iald hC (by decide +kernel : decode cX6_sit 17 = .ok (.iaload, 1)) hU ho rfl H.1 ?_
  replace H := H.2
  refine pr_iconst hC (1) (by decide +kernel : decode cX6_sit 18 = .ok (.iconst 1, 1)) rfl ?_
  refine pr_iload_n hC (by decide +kernel : decode cX6_sit 19 = .ok (.iload_n 1, 1)) rfl ?_
  refine pr_ishl hC (by decide +kernel : decode cX6_sit 20 = .ok (.ishl, 1)) ?_
  refine pr_ior hC (by decide +kernel : decode cX6_sit 21 = .ok (.ior, 1)) ?_
  refine pv_iast hC (by decide +kernel : decode cX6_sit 22 = .ok (.iastore, 1)) hU ho rfl H.1 (fun U_4 h e_U_4 hU => ?_)
  replace H := H.2 U_4 e_U_4
  exact pv_vret hM (by decide +kernel : decode cX6_sit 23 = .ok (.return_, 1)) hU H
def w_X6_rise (o : Nat) (a1 : Int32) (a2 : Int32) (U : Um) (post : Um → Prop) : Prop :=
  w_X9_placeOf a1 a2 U (fun r_2 U_1 => vp_in r_2 48 ∧ ∀ (x4_3 : Int32), x4_3 = uA U_1 o 2 (Int32.toNatClampNeg r_2) → (x4_3 = (-1) → post U_1) ∧ (¬ x4_3 = (-1) → vp_in x4_3 10 ∧ vp_in x4_3 10 ∧ ∀ (U_4 : Um), U_4 = sA U_1 o 7 (va_up (uA U_1 o 7) (Int32.toNatClampNeg x4_3) ((uA U_1 o 7 (Int32.toNatClampNeg x4_3)) &&& (((1 : Int32) <<< (a1 &&& 31)) ^^^ (-1)))) → vp_in r_2 48 ∧ ∀ (U_5 : Um), U_5 = sA U_4 o 2 (va_up (uA U_4 o 2) (Int32.toNatClampNeg r_2) (-1)) → post U_5))
set_option maxHeartbeats 4000000 in
theorem t_X6_rise {l : Launch} {Y : px_Y} {o : Nat} {a1 : Int32} {a2 : Int32} {U : Um} {post : Um → Prop} (ho : oc o = 5) (H : w_X6_rise o a1 a2 U post) : um l Y 1 yX6_rise cX6_rise 5 none [.ref (Y.2.1 o), .int a1, .int a2] U (pq_v post) := by
  unfold w_X6_rise at H
  refine um_of (by decide) (Nat.le_of_ble_eq_true rfl) [some (.ref (Y.2.1 o)), some (.int a1), some (.int a2), none, none] rfl (fun X h0 hh sz hM hU => ?_)
  have hC := hM.1
  have hR := hM.2.2.1
  refine pr_iload_n hC (by decide +kernel : decode cX6_rise 0 = .ok (.iload_n 1, 1)) rfl ?_
  refine pr_iload_n hC (by decide +kernel : decode cX6_rise 1 = .ok (.iload_n 2, 1)) rfl ?_
  refine vc_Si hC hR [.int a1, .int a2] fv_X6_71 (by decide +kernel : decode cX6_rise 2 = .ok (.invokestatic 71, 3)) hU (t_X9_placeOf  H) rfl rfl (Nat.le_of_ble_eq_true rfl) (Nat.le_of_ble_eq_true rfl) (Nat.le_refl 0) (Nat.le_refl 0) (fun r_2 U_1 h H hU => ?_)
  refine pr_istore_n hC (by decide +kernel : decode cX6_rise 5 = .ok (.istore_n 3, 1)) (by decide) rfl ?_
  refine pr_aload_n hC (by decide +kernel : decode cX6_rise 6 = .ok (.aload_n 0, 1)) rfl ?_
  refine pu_g1 hC fg_X6_9 (by decide +kernel : decode cX6_rise 7 = .ok (.getfield 9, 3)) hU ho (by decide) rfl (by decide) ?_
  refine pr_iload_n hC (by decide +kernel : decode cX6_rise 10 = .ok (.iload_n 3, 1)) rfl ?_
  refine pu_iald hC (by decide +kernel : decode cX6_rise 11 = .ok (.iaload, 1)) hU ho rfl H.1 ?_
  replace H := H.2
  refine pv_topi (fun x4_3 e_x4_3 => ?_)
  replace H := H x4_3 e_x4_3
  refine pr_istore hC (by decide +kernel : decode cX6_rise 12 = .ok (.istore 4, 2)) (by decide) rfl ?_
  refine pr_iload hC (by decide +kernel : decode cX6_rise 14 = .ok (.iload 4, 2)) rfl ?_
  refine pr_iconst hC (-1) (by decide +kernel : decode cX6_rise 16 = .ok (.iconst (-1), 1)) rfl ?_
  refine pr_icmp_eq hC 42 (by decide +kernel : decode cX6_rise 17 = .ok (.if_icmp .eq 25, 3)) (by decide) (fun c_17 => ?_) (fun c_17 => ?_)
  · replace H := H.1 c_17
    exact pv_vret hM (by decide +kernel : decode cX6_rise 42 = .ok (.return_, 1)) hU H
  replace H := H.2 c_17
  refine pr_aload_n hC (by decide +kernel : decode cX6_rise 20 = .ok (.aload_n 0, 1)) rfl ?_
  refine pu_g1 hC fg_X6_28 (by decide +kernel : decode cX6_rise 21 = .ok (.getfield 28, 3)) hU ho (by decide) rfl (by decide) ?_
  refine pr_iload hC (by decide +kernel : decode cX6_rise 24 = .ok (.iload 4, 2)) rfl ?_
  refine pr_dup2 hC (by decide +kernel : decode cX6_rise 26 = .ok (.dup2, 1)) rfl rfl ?_
  refine pu_iald hC (by decide +kernel : decode cX6_rise 27 = .ok (.iaload, 1)) hU ho rfl H.1 ?_
  replace H := H.2
  refine pr_iconst hC (1) (by decide +kernel : decode cX6_rise 28 = .ok (.iconst 1, 1)) rfl ?_
  refine pr_iload_n hC (by decide +kernel : decode cX6_rise 29 = .ok (.iload_n 1, 1)) rfl ?_
  refine pr_ishl hC (by decide +kernel : decode cX6_rise 30 = .ok (.ishl, 1)) ?_
  refine pr_iconst hC (-1) (by decide +kernel : decode cX6_rise 31 = .ok (.iconst (-1), 1)) rfl ?_
  refine pr_ixor hC (by decide +kernel : decode cX6_rise 32 = .ok (.ixor, 1)) ?_
  refine pr_iand hC (by decide +kernel : decode cX6_rise 33 = .ok (.iand, 1)) ?_
  refine pv_iast hC (by decide +kernel : decode cX6_rise 34 = .ok (.iastore, 1)) hU ho rfl H.1 (fun U_4 h e_U_4 hU => ?_)
  replace H := H.2 U_4 e_U_4
  refine pr_aload_n hC (by decide +kernel : decode cX6_rise 35 = .ok (.aload_n 0, 1)) rfl ?_
  refine pu_g1 hC fg_X6_9 (by decide +kernel : decode cX6_rise 36 = .ok (.getfield 9, 3)) hU ho (by decide) rfl (by decide) ?_
  refine pr_iload_n hC (by decide +kernel : decode cX6_rise 39 = .ok (.iload_n 3, 1)) rfl ?_
  refine pr_iconst hC (-1) (by decide +kernel : decode cX6_rise 40 = .ok (.iconst (-1), 1)) rfl ?_
  refine pv_iast hC (by decide +kernel : decode cX6_rise 41 = .ok (.iastore, 1)) hU ho rfl H.1 (fun U_5 h e_U_5 hU => ?_)
  replace H := H.2 U_5 e_U_5
  exact pv_vret hM (by decide +kernel : decode cX6_rise 42 = .ok (.return_, 1)) hU H
def b_X1_tryEachIn_L3 (rec : Nat → Int32 → Int32 → Int32 → Um → (Um → Prop) → Prop) (o0 : Nat) (x1 : Int32) (x2 : Int32) (x3 : Int32) (post : Um → Prop) (k_80 : Um → Prop) (rec_ : Int32 → Um → Prop) (x4 : Int32) (U : Um) : Prop :=
  oc (uR U o0 0) = 5 ∧ w_X6_officials (uR U o0 0) U (fun r_3 U_2 => (r_3 ≤ x4 → k_80 U_2) ∧ (¬ r_3 ≤ x4 → oc (uR U_2 o0 0) = 5 ∧ w_X6_reason (uR U_2 o0 0) x1 x2 x4 U_2 (fun r_6 U_5 => (r_6 = 0 → oc (uR U_5 o0 0) = 5 ∧ w_X6_detour (uR U_5 o0 0) x1 x2 x4 U_5 (fun r_9 U_8 => oc (uR U_8 o0 0) = 5 ∧ w_X6_sit (uR U_8 o0 0) x1 x2 x4 U_8 (fun U_11 => rec o0 x1 (x2 + 1) (x3 + r_9) U_11 (fun U_13 => oc (uR U_13 o0 0) = 5 ∧ w_X6_rise (uR U_13 o0 0) x1 x2 U_13 (fun U_16 => ∀ (x4_18 : Int32), x4_18 = x4 + 1 → rec_ x4_18 U_16))))) ∧ (¬ r_6 = 0 → ∀ (x4_19 : Int32), x4_19 = x4 + 1 → rec_ x4_19 U_5))))
def w_X1_tryEachIn_L3 (rec : Nat → Int32 → Int32 → Int32 → Um → (Um → Prop) → Prop) (o0 : Nat) (x1 : Int32) (x2 : Int32) (x3 : Int32) (post : Um → Prop) (k_80 : Um → Prop) (n_ : Nat) : Int32 → Um → Prop := Nat.rec (motive := fun _ => Int32 → Um → Prop) (fun _ _ => False) (fun _ ih => b_X1_tryEachIn_L3 rec o0 x1 x2 x3 post k_80 ih) n_
def b_X1_tryEachIn (rec : Nat → Int32 → Int32 → Int32 → Um → (Um → Prop) → Prop) (o : Nat) (a1 : Int32) (a2 : Int32) (a3 : Int32) (U : Um) (post : Um → Prop) : Prop :=
  (∃ n_21, w_X1_tryEachIn_L3 rec o a1 a2 a3 post (fun U_20 => post U_20) n_21 0 U)
set_option maxHeartbeats 4000000 in
theorem tl_X1_tryEachIn_L3 {l : Launch} {Y : px_Y} {X : px_X} {h0 hh : pe_H} {sz : Nat} {dd : Nat} (rec : Nat → Int32 → Int32 → Int32 → Um → (Um → Prop) → Prop) (o0 : Nat) (x1 : Int32) (x2 : Int32) (x3 : Int32) (post : Um → Prop) (k_80 : Um → Prop) (ho0 : oc o0 = 0) (hrec : ∀ (l : Launch) (o : Nat) (a0 : Int32) (a1 : Int32) (a2 : Int32) (U : Um) (post : Um → Prop), oc o = 0 → rec o a0 a1 a2 U post → um l Y dd yX1_tryCrew cX1_tryCrew 6 none [.ref (Y.2.1 o), .int a0, .int a1, .int a2] U (pq_v post)) (hD : 5 ≤ dd) (hC : px_C X Y.1 (pm_A hh sz) cX1_tryEachIn RX1 6) (hM : px_M l X Y.1 hh sz yX1_tryEachIn cX1_tryEachIn 6 none (dd + 1) 0 0) (hR : X.2.2.2.1 = pm_rm (dd + 1) 0 0) (hk_80 : ∀ (U : Um) (h : pe_H), k_80 U → rF Y h0 U h → pw X Y.1 (pm_A hh sz) (pm_E X Y.1 hh sz 0 0 (pm_P Y h0 sz (pq_v post))) 80 [none, none, none, none, none, none] [] h sz 0 0) : ∀ (n_ : Nat) (x4 : Int32) (U : Um) (h : pe_H), rF Y h0 U h → w_X1_tryEachIn_L3 rec o0 x1 x2 x3 post k_80 n_ x4 U → pw X Y.1 (pm_A hh sz) (pm_E X Y.1 hh sz 0 0 (pm_P Y h0 sz (pq_v post))) 3 [some (.ref (Y.2.1 o0)), some (.int x1), some (.int x2), some (.int x3), some (.int x4), none] [] h sz 0 0 := by
  intro n_
  induction n_ with
  | zero => intro x4 U h hU H; exact False.elim H
  | succ n_ ih =>
    intro x4 U h hU H
    replace H : b_X1_tryEachIn_L3 rec o0 x1 x2 x3 post k_80 (w_X1_tryEachIn_L3 rec o0 x1 x2 x3 post k_80 n_) x4 U := H
    unfold b_X1_tryEachIn_L3 at H
    refine pr_iload hC (by decide +kernel : decode cX1_tryEachIn 3 = .ok (.iload 4, 2)) rfl ?_
    refine pr_aload_n hC (by decide +kernel : decode cX1_tryEachIn 5 = .ok (.aload_n 0, 1)) rfl ?_
    refine pu_g21 hC fg_X1_9 (by decide +kernel : decode cX1_tryEachIn 6 = .ok (.getfield 9, 3)) hU ho0 (by decide) rfl rfl ?_
    have q_1 := H.1
    replace H := H.2
    refine vc_Vi hC hR [] fv_X1_28 (by decide +kernel : decode cX1_tryEachIn 9 = .ok (.invokevirtual 28, 3)) hU (t_X6_officials q_1 H) q_1 (by decide) rfl rfl rfl (Nat.le_of_ble_eq_true rfl) (by omega) (Nat.le_refl 0) (Nat.le_refl 0) (fun r_3 U_2 h H hU => ?_)
    refine pr_icmp_ge hC 80 (by decide +kernel : decode cX1_tryEachIn 12 = .ok (.if_icmp .ge 68, 3)) (by decide) (fun c_12 => ?_) (fun c_12 => ?_)
    · replace H := H.1 c_12
      exact pv_sub [none, none, none, none, none, none] (trivial) (hk_80 U_2 h H hU)
    replace H := H.2 c_12
    refine pr_aload_n hC (by decide +kernel : decode cX1_tryEachIn 15 = .ok (.aload_n 0, 1)) rfl ?_
    refine pu_g21 hC fg_X1_9 (by decide +kernel : decode cX1_tryEachIn 16 = .ok (.getfield 9, 3)) hU ho0 (by decide) rfl rfl ?_
    have q_4 := H.1
    replace H := H.2
    refine pr_iload_n hC (by decide +kernel : decode cX1_tryEachIn 19 = .ok (.iload_n 1, 1)) rfl ?_
    refine pr_iload_n hC (by decide +kernel : decode cX1_tryEachIn 20 = .ok (.iload_n 2, 1)) rfl ?_
    refine pr_iload hC (by decide +kernel : decode cX1_tryEachIn 21 = .ok (.iload 4, 2)) rfl ?_
    refine vc_Vi hC hR [.int x1, .int x2, .int x4] fv_X1_34 (by decide +kernel : decode cX1_tryEachIn 23 = .ok (.invokevirtual 34, 3)) hU (t_X6_reason q_4 H) q_4 (by decide) rfl rfl rfl (Nat.le_of_ble_eq_true rfl) (by omega) (Nat.le_refl 0) (Nat.le_refl 0) (fun r_6 U_5 h H hU => ?_)
    refine pr_if_ne hC 74 (by decide +kernel : decode cX1_tryEachIn 26 = .ok (.ifCond .ne 48, 3)) (by decide) (fun c_26 => ?_) (fun c_26 => ?_)
    · replace H := H.2 c_26
      refine pv_iinc hC (v := x4 + 1) (by decide +kernel : decode cX1_tryEachIn 74 = .ok (.iinc 4 1, 3)) rfl (by decide) rfl rfl (fun x4_19 e_x4_19 => ?_)
      replace H := H x4_19 e_x4_19
      refine pr_goto hC 3 (by decide +kernel : decode cX1_tryEachIn 77 = .ok (.goto (-74), 3)) (by decide) ?_
      exact pv_sub [some (.ref (Y.2.1 o0)), some (.int x1), some (.int x2), some (.int x3), some (.int x4_19), none] (And.intro rfl (And.intro rfl (And.intro rfl (And.intro rfl (And.intro rfl trivial))))) (ih _ U_5 h hU H)
    replace H := H.1 c_26
    refine pr_aload_n hC (by decide +kernel : decode cX1_tryEachIn 29 = .ok (.aload_n 0, 1)) rfl ?_
    refine pu_g21 hC fg_X1_9 (by decide +kernel : decode cX1_tryEachIn 30 = .ok (.getfield 9, 3)) hU ho0 (by decide) rfl rfl ?_
    have q_7 := H.1
    replace H := H.2
    refine pr_iload_n hC (by decide +kernel : decode cX1_tryEachIn 33 = .ok (.iload_n 1, 1)) rfl ?_
    refine pr_iload_n hC (by decide +kernel : decode cX1_tryEachIn 34 = .ok (.iload_n 2, 1)) rfl ?_
    refine pr_iload hC (by decide +kernel : decode cX1_tryEachIn 35 = .ok (.iload 4, 2)) rfl ?_
    refine vc_Vi hC hR [.int x1, .int x2, .int x4] fv_X1_38 (by decide +kernel : decode cX1_tryEachIn 37 = .ok (.invokevirtual 38, 3)) hU (t_X6_detour q_7 H) q_7 (by decide) rfl rfl rfl (Nat.le_of_ble_eq_true rfl) (by omega) (Nat.le_refl 0) (Nat.le_refl 0) (fun r_9 U_8 h H hU => ?_)
    refine pr_istore hC (by decide +kernel : decode cX1_tryEachIn 40 = .ok (.istore 5, 2)) (by decide) rfl ?_
    refine pr_aload_n hC (by decide +kernel : decode cX1_tryEachIn 42 = .ok (.aload_n 0, 1)) rfl ?_
    refine pu_g21 hC fg_X1_9 (by decide +kernel : decode cX1_tryEachIn 43 = .ok (.getfield 9, 3)) hU ho0 (by decide) rfl rfl ?_
    have q_10 := H.1
    replace H := H.2
    refine pr_iload_n hC (by decide +kernel : decode cX1_tryEachIn 46 = .ok (.iload_n 1, 1)) rfl ?_
    refine pr_iload_n hC (by decide +kernel : decode cX1_tryEachIn 47 = .ok (.iload_n 2, 1)) rfl ?_
    refine pr_iload hC (by decide +kernel : decode cX1_tryEachIn 48 = .ok (.iload 4, 2)) rfl ?_
    refine vc_Vv hC hR [.int x1, .int x2, .int x4] fv_X1_96 (by decide +kernel : decode cX1_tryEachIn 50 = .ok (.invokevirtual 96, 3)) hU (t_X6_sit q_10 H) q_10 (by decide) rfl rfl rfl (Nat.le_of_ble_eq_true rfl) (by omega) (Nat.le_refl 0) (Nat.le_refl 0) (fun U_11 h H hU => ?_)
    refine pr_aload_n hC (by decide +kernel : decode cX1_tryEachIn 53 = .ok (.aload_n 0, 1)) rfl ?_
    refine pr_iload_n hC (by decide +kernel : decode cX1_tryEachIn 54 = .ok (.iload_n 1, 1)) rfl ?_
    refine pr_iload_n hC (by decide +kernel : decode cX1_tryEachIn 55 = .ok (.iload_n 2, 1)) rfl ?_
    refine pr_iconst hC (1) (by decide +kernel : decode cX1_tryEachIn 56 = .ok (.iconst 1, 1)) rfl ?_
    refine pr_iadd hC (by decide +kernel : decode cX1_tryEachIn 57 = .ok (.iadd, 1)) ?_
    refine pr_iload_n hC (by decide +kernel : decode cX1_tryEachIn 58 = .ok (.iload_n 3, 1)) rfl ?_
    refine pr_iload hC (by decide +kernel : decode cX1_tryEachIn 59 = .ok (.iload 5, 2)) rfl ?_
    refine pr_iadd hC (by decide +kernel : decode cX1_tryEachIn 61 = .ok (.iadd, 1)) ?_
    refine vc_Vv hC hR [.int x1, .int (x2 + 1), .int (x3 + r_9)] fv_X1_57 (by decide +kernel : decode cX1_tryEachIn 62 = .ok (.invokevirtual 57, 3)) hU (hrec _ _ _ _ _ _ _ ho0 H) ho0 (by decide) rfl rfl rfl (Nat.le_of_ble_eq_true rfl) (by omega) (Nat.le_refl 0) (Nat.le_refl 0) (fun U_13 h H hU => ?_)
    refine pr_aload_n hC (by decide +kernel : decode cX1_tryEachIn 65 = .ok (.aload_n 0, 1)) rfl ?_
    refine pu_g21 hC fg_X1_9 (by decide +kernel : decode cX1_tryEachIn 66 = .ok (.getfield 9, 3)) hU ho0 (by decide) rfl rfl ?_
    have q_15 := H.1
    replace H := H.2
    refine pr_iload_n hC (by decide +kernel : decode cX1_tryEachIn 69 = .ok (.iload_n 1, 1)) rfl ?_
    refine pr_iload_n hC (by decide +kernel : decode cX1_tryEachIn 70 = .ok (.iload_n 2, 1)) rfl ?_
    refine vc_Vv hC hR [.int x1, .int x2] fv_X1_99 (by decide +kernel : decode cX1_tryEachIn 71 = .ok (.invokevirtual 99, 3)) hU (t_X6_rise q_15 H) q_15 (by decide) rfl rfl rfl (Nat.le_of_ble_eq_true rfl) (by omega) (Nat.le_refl 0) (Nat.le_refl 0) (fun U_16 h H hU => ?_)
    refine pv_iinc hC (v := x4 + 1) (by decide +kernel : decode cX1_tryEachIn 74 = .ok (.iinc 4 1, 3)) rfl (by decide) rfl rfl (fun x4_18 e_x4_18 => ?_)
    replace H := H x4_18 e_x4_18
    refine pr_goto hC 3 (by decide +kernel : decode cX1_tryEachIn 77 = .ok (.goto (-74), 3)) (by decide) ?_
    exact pv_sub [some (.ref (Y.2.1 o0)), some (.int x1), some (.int x2), some (.int x3), some (.int x4_18), none] (And.intro rfl (And.intro rfl (And.intro rfl (And.intro rfl (And.intro rfl trivial))))) (ih _ U_16 h hU H)
set_option maxHeartbeats 4000000 in
theorem tb_X1_tryEachIn {l : Launch} {Y : px_Y} {dd : Nat} {rec : Nat → Int32 → Int32 → Int32 → Um → (Um → Prop) → Prop} (hrec : ∀ (l : Launch) (o : Nat) (a0 : Int32) (a1 : Int32) (a2 : Int32) (U : Um) (post : Um → Prop), oc o = 0 → rec o a0 a1 a2 U post → um l Y dd yX1_tryCrew cX1_tryCrew 6 none [.ref (Y.2.1 o), .int a0, .int a1, .int a2] U (pq_v post)) (hD : 5 ≤ dd) {o : Nat} {a1 : Int32} {a2 : Int32} {a3 : Int32} {U : Um} {post : Um → Prop} (ho : oc o = 0) (H : b_X1_tryEachIn rec o a1 a2 a3 U post) : um l Y (dd + 1) yX1_tryEachIn cX1_tryEachIn 6 none [.ref (Y.2.1 o), .int a1, .int a2, .int a3] U (pq_v post) := by
  unfold b_X1_tryEachIn at H
  refine um_of (by decide) (Nat.le_of_ble_eq_true rfl) [some (.ref (Y.2.1 o)), some (.int a1), some (.int a2), some (.int a3), none, none] rfl (fun X h0 hh sz hM hU => ?_)
  have hC := hM.1
  have hR := hM.2.2.1
  refine pr_iconst hC (0) (by decide +kernel : decode cX1_tryEachIn 0 = .ok (.iconst 0, 1)) rfl ?_
  refine pr_istore hC (by decide +kernel : decode cX1_tryEachIn 1 = .ok (.istore 4, 2)) (by decide) rfl ?_
  obtain ⟨n_21, H⟩ := H
  refine pv_sub [some (.ref (Y.2.1 o)), some (.int a1), some (.int a2), some (.int a3), some (.int 0), none] (And.intro rfl (And.intro rfl (And.intro rfl (And.intro rfl (And.intro rfl trivial))))) ?_
  refine tl_X1_tryEachIn_L3 _ _ _ _ _ _ _ ho hrec hD hC hM hR (fun U_20 h H hU => ?_) n_21 _ U hh hU H
  exact pv_vret hM (by decide +kernel : decode cX1_tryEachIn 80 = .ok (.return_, 1)) hU H
def b_X1_tryCrew_L20 (rec : Nat → Int32 → Int32 → Int32 → Um → (Um → Prop) → Prop) (o0 : Nat) (x1 : Int32) (x3 : Int32) (x4 : Int32) (post : Um → Prop) (k_51 : Int32 → Um → Prop) (rec_ : Int32 → Um → Prop) (x5 : Int32) (U : Um) : Prop :=
  (x4 ≤ x5 → k_51 x5 U) ∧ (¬ x4 ≤ x5 → oc (uR U o0 0) = 5 ∧ w_X9_placeOf x1 x5 U (fun r_9 U_8 => vp_in r_9 48 ∧ ((uA U_8 (uR U o0 0) 2 (Int32.toNatClampNeg r_9)) = (-1) → k_51 x5 U_8) ∧ (¬ (uA U_8 (uR U o0 0) 2 (Int32.toNatClampNeg r_9)) = (-1) → ∀ (x5_10 : Int32), x5_10 = x5 + 1 → rec_ x5_10 U_8)))
def w_X1_tryCrew_L20 (rec : Nat → Int32 → Int32 → Int32 → Um → (Um → Prop) → Prop) (o0 : Nat) (x1 : Int32) (x3 : Int32) (x4 : Int32) (post : Um → Prop) (k_51 : Int32 → Um → Prop) (n_ : Nat) : Int32 → Um → Prop := Nat.rec (motive := fun _ => Int32 → Um → Prop) (fun _ _ => False) (fun _ ih => b_X1_tryCrew_L20 rec o0 x1 x3 x4 post k_51 ih) n_
def b_X1_tryCrew (rec : Nat → Int32 → Int32 → Int32 → Um → (Um → Prop) → Prop) (o : Nat) (a1 : Int32) (a2 : Int32) (a3 : Int32) (U : Um) (post : Um → Prop) : Prop :=
  oc (uR U o 0) = 5 ∧ oc (uR U (uR U o 0) 0) = 8 ∧ vp_in a1 16 ∧ oc (uAR U (uR U (uR U o 0) 0) 6 (Int32.toNatClampNeg a1)) = 1 ∧ ∀ (x4_5 : Int32), x4_5 = uI U (uAR U (uR U (uR U o 0) 0) 6 (Int32.toNatClampNeg a1)) 7 → ∀ (x5_6 : Int32), x5_6 = a2 → (∃ n_22, w_X1_tryCrew_L20 rec o a1 a3 x4_5 post (fun x5_11 U_12 => (x4_5 ≤ x5_11 → (∀ K_13 : Prop, ((∀ (U_14 : Um), U_14 = sI U_12 o 5 1 → ∀ (U_15 : Um), U_15 = sI U_14 o 4 a3 → oc (uR U_15 o 0) = 5 ∧ w_X9_placeOf a1 0 U_15 (fun r_18 U_17 => vp_cp r_18 0 x4_5 48 3 ∧ ∀ (U_19 : Um), U_19 = sA U_17 o 3 (va_cpy (uA U_17 (uR U_15 o 0) 2) (uA U_17 o 3) (Int32.toNatClampNeg r_18) (Int32.toNatClampNeg 0) (Int32.toNatClampNeg x4_5)) → post U_19)) → K_13 ) → ((uI U_12 o 5) = 0 → K_13) ∧ (¬ (uI U_12 o 5) = 0 → ((uI U_12 o 4) ≤ a3 → post U_12) ∧ (¬ (uI U_12 o 4) ≤ a3 → K_13)))) ∧ (¬ x4_5 ≤ x5_11 → b_X1_tryEachIn rec o a1 x5_11 a3 U_12 (fun U_20 => post U_20))) n_22 x5_6 U)
def w_X1_tryCrew (n_ : Nat) : Nat → Int32 → Int32 → Int32 → Um → (Um → Prop) → Prop := Nat.rec (motive := fun _ => Nat → Int32 → Int32 → Int32 → Um → (Um → Prop) → Prop) (fun _ _ _ _ _ _ => False) (fun _ ih => b_X1_tryCrew ih) n_
set_option maxHeartbeats 4000000 in
theorem tl_X1_tryCrew_L20 {l : Launch} {Y : px_Y} {X : px_X} {h0 hh : pe_H} {sz : Nat} {dd : Nat} (rec : Nat → Int32 → Int32 → Int32 → Um → (Um → Prop) → Prop) (o0 : Nat) (x1 : Int32) (x3 : Int32) (x4 : Int32) (post : Um → Prop) (k_51 : Int32 → Um → Prop) (ho0 : oc o0 = 0) (hrec : ∀ (l : Launch) (o : Nat) (a0 : Int32) (a1 : Int32) (a2 : Int32) (U : Um) (post : Um → Prop), oc o = 0 → rec o a0 a1 a2 U post → um l Y dd yX1_tryCrew cX1_tryCrew 6 none [.ref (Y.2.1 o), .int a0, .int a1, .int a2] U (pq_v post)) (hD : 5 ≤ dd) (hC : px_C X Y.1 (pm_A hh sz) cX1_tryCrew RX1 6) (hM : px_M l X Y.1 hh sz yX1_tryCrew cX1_tryCrew 6 none (dd + 2) 0 0) (hR : X.2.2.2.1 = pm_rm (dd + 2) 0 0) (hk_51 : ∀ (y5 : Int32) (U : Um) (h : pe_H), k_51 y5 U → rF Y h0 U h → pw X Y.1 (pm_A hh sz) (pm_E X Y.1 hh sz 0 0 (pm_P Y h0 sz (pq_v post))) 51 [some (.ref (Y.2.1 o0)), some (.int x1), none, some (.int x3), some (.int x4), some (.int y5)] [] h sz 0 0) : ∀ (n_ : Nat) (x5 : Int32) (U : Um) (h : pe_H), rF Y h0 U h → w_X1_tryCrew_L20 rec o0 x1 x3 x4 post k_51 n_ x5 U → pw X Y.1 (pm_A hh sz) (pm_E X Y.1 hh sz 0 0 (pm_P Y h0 sz (pq_v post))) 20 [some (.ref (Y.2.1 o0)), some (.int x1), none, some (.int x3), some (.int x4), some (.int x5)] [] h sz 0 0 := by
  intro n_
  induction n_ with
  | zero => intro x5 U h hU H; exact False.elim H
  | succ n_ ih =>
    intro x5 U h hU H
    replace H : b_X1_tryCrew_L20 rec o0 x1 x3 x4 post k_51 (w_X1_tryCrew_L20 rec o0 x1 x3 x4 post k_51 n_) x5 U := H
    unfold b_X1_tryCrew_L20 at H
    refine pr_iload hC (by decide +kernel : decode cX1_tryCrew 20 = .ok (.iload 5, 2)) rfl ?_
    refine pr_iload hC (by decide +kernel : decode cX1_tryCrew 22 = .ok (.iload 4, 2)) rfl ?_
    refine pr_icmp_ge hC 51 (by decide +kernel : decode cX1_tryCrew 24 = .ok (.if_icmp .ge 27, 3)) (by decide) (fun c_24 => ?_) (fun c_24 => ?_)
    · replace H := H.1 c_24
      exact pv_sub [some (.ref (Y.2.1 o0)), some (.int x1), none, some (.int x3), some (.int x4), some (.int x5)] (And.intro rfl (And.intro rfl (And.intro rfl (And.intro rfl (And.intro rfl trivial))))) (hk_51 _ U h H hU)
    replace H := H.2 c_24
    refine pr_aload_n hC (by decide +kernel : decode cX1_tryCrew 27 = .ok (.aload_n 0, 1)) rfl ?_
    refine pu_g21 hC fg_X1_9 (by decide +kernel : decode cX1_tryCrew 28 = .ok (.getfield 9, 3)) hU ho0 (by decide) rfl rfl ?_
    have q_7 := H.1
    replace H := H.2
    refine pu_g1 hC fg_X1_80 (by decide +kernel : decode cX1_tryCrew 31 = .ok (.getfield 80, 3)) hU q_7 (by decide) rfl (by decide) ?_
    refine pr_iload_n hC (by decide +kernel : decode cX1_tryCrew 34 = .ok (.iload_n 1, 1)) rfl ?_
    refine pr_iload hC (by decide +kernel : decode cX1_tryCrew 35 = .ok (.iload 5, 2)) rfl ?_
    refine vc_Si hC hR [.int x1, .int x5] fv_X1_83 (by decide +kernel : decode cX1_tryCrew 37 = .ok (.invokestatic 83, 3)) hU (t_X9_placeOf  H) rfl rfl (Nat.le_of_ble_eq_true rfl) (by omega) (Nat.le_refl 0) (Nat.le_refl 0) (fun r_9 U_8 h H hU => ?_)
    refine pu_iald hC (by decide +kernel : decode cX1_tryCrew 40 = .ok (.iaload, 1)) hU q_7 rfl H.1 ?_
    replace H := H.2
    refine pr_iconst hC (-1) (by decide +kernel : decode cX1_tryCrew 41 = .ok (.iconst (-1), 1)) rfl ?_
    refine pr_icmp_eq hC 51 (by decide +kernel : decode cX1_tryCrew 42 = .ok (.if_icmp .eq 9, 3)) (by decide) (fun c_42 => ?_) (fun c_42 => ?_)
    · replace H := H.1 c_42
      exact pv_sub [some (.ref (Y.2.1 o0)), some (.int x1), none, some (.int x3), some (.int x4), some (.int x5)] (And.intro rfl (And.intro rfl (And.intro rfl (And.intro rfl (And.intro rfl trivial))))) (hk_51 _ U_8 h H hU)
    replace H := H.2 c_42
    refine pv_iinc hC (v := x5 + 1) (by decide +kernel : decode cX1_tryCrew 45 = .ok (.iinc 5 1, 3)) rfl (by decide) rfl rfl (fun x5_10 e_x5_10 => ?_)
    replace H := H x5_10 e_x5_10
    refine pr_goto hC 20 (by decide +kernel : decode cX1_tryCrew 48 = .ok (.goto (-28), 3)) (by decide) ?_
    exact pv_sub [some (.ref (Y.2.1 o0)), some (.int x1), none, some (.int x3), some (.int x4), some (.int x5_10)] (And.intro rfl (And.intro rfl (And.intro rfl (And.intro rfl (And.intro rfl trivial))))) (ih _ U_8 h hU H)
set_option maxHeartbeats 4000000 in
theorem tb_X1_tryCrew {l : Launch} {Y : px_Y} {dd : Nat} {rec : Nat → Int32 → Int32 → Int32 → Um → (Um → Prop) → Prop} (hrec : ∀ (l : Launch) (o : Nat) (a0 : Int32) (a1 : Int32) (a2 : Int32) (U : Um) (post : Um → Prop), oc o = 0 → rec o a0 a1 a2 U post → um l Y dd yX1_tryCrew cX1_tryCrew 6 none [.ref (Y.2.1 o), .int a0, .int a1, .int a2] U (pq_v post)) (hD : 5 ≤ dd) {o : Nat} {a1 : Int32} {a2 : Int32} {a3 : Int32} {U : Um} {post : Um → Prop} (ho : oc o = 0) (H : b_X1_tryCrew rec o a1 a2 a3 U post) : um l Y (dd + 2) yX1_tryCrew cX1_tryCrew 6 none [.ref (Y.2.1 o), .int a1, .int a2, .int a3] U (pq_v post) := by
  unfold b_X1_tryCrew at H
  refine um_of (by decide) (Nat.le_of_ble_eq_true rfl) [some (.ref (Y.2.1 o)), some (.int a1), some (.int a2), some (.int a3), none, none] rfl (fun X h0 hh sz hM hU => ?_)
  have hC := hM.1
  have hR := hM.2.2.1
  refine pr_aload_n hC (by decide +kernel : decode cX1_tryCrew 0 = .ok (.aload_n 0, 1)) rfl ?_
  refine pu_g21 hC fg_X1_9 (by decide +kernel : decode cX1_tryCrew 1 = .ok (.getfield 9, 3)) hU ho (by decide) rfl rfl ?_
  have q_1 := H.1
  replace H := H.2
  refine pu_g21 hC fg_X1_65 (by decide +kernel : decode cX1_tryCrew 4 = .ok (.getfield 65, 3)) hU q_1 (by decide) rfl rfl ?_
  have q_2 := H.1
  replace H := H.2
  refine pu_g1 hC fg_X1_69 (by decide +kernel : decode cX1_tryCrew 7 = .ok (.getfield 69, 3)) hU q_2 (by decide) rfl (by decide) ?_
  refine pr_iload_n hC (by decide +kernel : decode cX1_tryCrew 10 = .ok (.iload_n 1, 1)) rfl ?_
  have q_3 := H.1
  replace H := H.2
  refine pu_aald8 hC (by decide +kernel : decode cX1_tryCrew 11 = .ok (.aaload, 1)) hU q_2 rfl q_3 ?_
  have q_4 := H.1
  replace H := H.2
  refine pu_g0 hC fg_X1_75 (by decide +kernel : decode cX1_tryCrew 12 = .ok (.getfield 75, 3)) hU q_4 (by decide) rfl rfl ?_
  refine pv_topi (fun x4_5 e_x4_5 => ?_)
  replace H := H x4_5 e_x4_5
  refine pr_istore hC (by decide +kernel : decode cX1_tryCrew 15 = .ok (.istore 4, 2)) (by decide) rfl ?_
  refine pr_iload_n hC (by decide +kernel : decode cX1_tryCrew 17 = .ok (.iload_n 2, 1)) rfl ?_
  refine pv_topi (fun x5_6 e_x5_6 => ?_)
  replace H := H x5_6 e_x5_6
  refine pr_istore hC (by decide +kernel : decode cX1_tryCrew 18 = .ok (.istore 5, 2)) (by decide) rfl ?_
  obtain ⟨n_22, H⟩ := H
  refine pv_sub [some (.ref (Y.2.1 o)), some (.int a1), none, some (.int a3), some (.int x4_5), some (.int x5_6)] (And.intro rfl (And.intro rfl (And.intro rfl (And.intro rfl (And.intro rfl trivial))))) ?_
  refine tl_X1_tryCrew_L20 _ _ _ _ _ _ _ ho hrec hD hC hM hR (fun x5_11 U_12 h H hU => ?_) n_22 _ U hh hU H
  refine pr_iload hC (by decide +kernel : decode cX1_tryCrew 51 = .ok (.iload 5, 2)) rfl ?_
  refine pr_iload hC (by decide +kernel : decode cX1_tryCrew 53 = .ok (.iload 4, 2)) rfl ?_
  refine pr_icmp_ge hC 69 (by decide +kernel : decode cX1_tryCrew 55 = .ok (.if_icmp .ge 14, 3)) (by decide) (fun c_55 => ?_) (fun c_55 => ?_)
  · replace H := H.1 c_55
    refine pr_aload_n hC (by decide +kernel : decode cX1_tryCrew 69 = .ok (.aload_n 0, 1)) rfl ?_
    refine pu_g0 hC fg_X1_53 (by decide +kernel : decode cX1_tryCrew 70 = .ok (.getfield 53, 3)) hU ho (by decide) rfl rfl ?_
    replace H := H (pw X Y.1 (pm_A hh sz) (pm_E X Y.1 hh sz 0 0 (pm_P Y h0 sz (pq_v post))) 84 [some (.ref (Y.2.1 o)), some (.int a1), none, some (.int a3), some (.int x4_5), none] [] h sz 0 0) (by
      intro  H
      refine pr_aload_n hC (by decide +kernel : decode cX1_tryCrew 84 = .ok (.aload_n 0, 1)) rfl ?_
      refine pr_iconst hC (1) (by decide +kernel : decode cX1_tryCrew 85 = .ok (.iconst 1, 1)) rfl ?_
      refine pv_p0 hC fp_X1_53 (by decide +kernel : decode cX1_tryCrew 86 = .ok (.putfield 53, 3)) hU ho (by decide) rfl rfl rfl rfl (fun U_14 h e_U_14 hU => ?_)
      replace H := H U_14 e_U_14
      refine pr_aload_n hC (by decide +kernel : decode cX1_tryCrew 89 = .ok (.aload_n 0, 1)) rfl ?_
      refine pr_iload_n hC (by decide +kernel : decode cX1_tryCrew 90 = .ok (.iload_n 3, 1)) rfl ?_
      refine pv_p0 hC fp_X1_61 (by decide +kernel : decode cX1_tryCrew 91 = .ok (.putfield 61, 3)) hU ho (by decide) rfl rfl rfl rfl (fun U_15 h e_U_15 hU => ?_)
      replace H := H U_15 e_U_15
      refine pr_aload_n hC (by decide +kernel : decode cX1_tryCrew 94 = .ok (.aload_n 0, 1)) rfl ?_
      refine pu_g21 hC fg_X1_9 (by decide +kernel : decode cX1_tryCrew 95 = .ok (.getfield 9, 3)) hU ho (by decide) rfl rfl ?_
      have q_16 := H.1
      replace H := H.2
      refine pu_g1 hC fg_X1_80 (by decide +kernel : decode cX1_tryCrew 98 = .ok (.getfield 80, 3)) hU q_16 (by decide) rfl (by decide) ?_
      refine pr_iload_n hC (by decide +kernel : decode cX1_tryCrew 101 = .ok (.iload_n 1, 1)) rfl ?_
      refine pr_iconst hC (0) (by decide +kernel : decode cX1_tryCrew 102 = .ok (.iconst 0, 1)) rfl ?_
      refine vc_Si hC hR [.int a1, .int 0] fv_X1_83 (by decide +kernel : decode cX1_tryCrew 103 = .ok (.invokestatic 83, 3)) hU (t_X9_placeOf  H) rfl rfl (Nat.le_of_ble_eq_true rfl) (by omega) (Nat.le_refl 0) (Nat.le_refl 0) (fun r_18 U_17 h H hU => ?_)
      refine pr_aload_n hC (by decide +kernel : decode cX1_tryCrew 106 = .ok (.aload_n 0, 1)) rfl ?_
      refine pu_g1 hC fg_X1_22 (by decide +kernel : decode cX1_tryCrew 107 = .ok (.getfield 22, 3)) hU ho (by decide) rfl (by decide) ?_
      refine pr_iconst hC (0) (by decide +kernel : decode cX1_tryCrew 110 = .ok (.iconst 0, 1)) rfl ?_
      refine pr_iload hC (by decide +kernel : decode cX1_tryCrew 111 = .ok (.iload 4, 2)) rfl ?_
      refine pv_copyi hC hR (by omega) fa_X1_90 (by decide +kernel : decode cX1_tryCrew 113 = .ok (.invokestatic 90, 3)) hU q_16 ho rfl rfl H.1 (fun U_19 h e_U_19 hU => ?_)
      replace H := H.2 U_19 e_U_19
      exact pv_vret hM (by decide +kernel : decode cX1_tryCrew 116 = .ok (.return_, 1)) hU H)
    refine pr_if_eq hC 84 (by decide +kernel : decode cX1_tryCrew 73 = .ok (.ifCond .eq 11, 3)) (by decide) (fun c_73 => ?_) (fun c_73 => ?_)
    · replace H := H.1 c_73
      exact pv_sub [some (.ref (Y.2.1 o)), some (.int a1), none, some (.int a3), some (.int x4_5), none] (And.intro rfl (And.intro rfl (And.intro rfl (And.intro rfl trivial)))) (H )
    replace H := H.2 c_73
    refine pr_iload_n hC (by decide +kernel : decode cX1_tryCrew 76 = .ok (.iload_n 3, 1)) rfl ?_
    refine pr_aload_n hC (by decide +kernel : decode cX1_tryCrew 77 = .ok (.aload_n 0, 1)) rfl ?_
    refine pu_g0 hC fg_X1_61 (by decide +kernel : decode cX1_tryCrew 78 = .ok (.getfield 61, 3)) hU ho (by decide) rfl rfl ?_
    refine pr_icmp_ge hC 116 (by decide +kernel : decode cX1_tryCrew 81 = .ok (.if_icmp .ge 35, 3)) (by decide) (fun c_81 => ?_) (fun c_81 => ?_)
    · replace H := H.1 c_81
      exact pv_vret hM (by decide +kernel : decode cX1_tryCrew 116 = .ok (.return_, 1)) hU H
    replace H := H.2 c_81
    exact pv_sub [some (.ref (Y.2.1 o)), some (.int a1), none, some (.int a3), some (.int x4_5), none] (And.intro rfl (And.intro rfl (And.intro rfl (And.intro rfl trivial)))) (H )
  replace H := H.2 c_55
  refine pr_aload_n hC (by decide +kernel : decode cX1_tryCrew 58 = .ok (.aload_n 0, 1)) rfl ?_
  refine pr_iload_n hC (by decide +kernel : decode cX1_tryCrew 59 = .ok (.iload_n 1, 1)) rfl ?_
  refine pr_iload hC (by decide +kernel : decode cX1_tryCrew 60 = .ok (.iload 5, 2)) rfl ?_
  refine pr_iload_n hC (by decide +kernel : decode cX1_tryCrew 62 = .ok (.iload_n 3, 1)) rfl ?_
  refine vc_Vv hC hR [.int a1, .int x5_11, .int a3] fv_X1_87 (by decide +kernel : decode cX1_tryCrew 63 = .ok (.invokevirtual 87, 3)) hU (tb_X1_tryEachIn hrec hD ho H) ho (by decide) rfl rfl rfl (Nat.le_of_ble_eq_true rfl) (by omega) (Nat.le_refl 0) (Nat.le_refl 0) (fun U_20 h H hU => ?_)
  refine pr_goto hC 116 (by decide +kernel : decode cX1_tryCrew 66 = .ok (.goto 50, 3)) (by decide) ?_
  exact pv_vret hM (by decide +kernel : decode cX1_tryCrew 116 = .ok (.return_, 1)) hU H
theorem tn_X1_tryCrew {l : Launch} {Y : px_Y} : ∀ (n_ : Nat) (o : Nat) (a1 : Int32) (a2 : Int32) (a3 : Int32) (U : Um) (post : Um → Prop), oc o = 0 → w_X1_tryCrew n_ o a1 a2 a3 U post → um l Y (5 + 2 * n_) yX1_tryCrew cX1_tryCrew 6 none [.ref (Y.2.1 o), .int a1, .int a2, .int a3] U (pq_v post)
  | 0 => fun _ _ _ _ _ _ _ H => False.elim H
  | n_ + 1 => fun o a1 a2 a3 U post ho H => tb_X1_tryCrew (fun _ => tn_X1_tryCrew n_) (Nat.le_add_right _ _) ho H
theorem t_X1_tryCrew {l : Launch} {Y : px_Y} (n_ : Nat) {o : Nat} {a1 : Int32} {a2 : Int32} {a3 : Int32} {U : Um} {post : Um → Prop} (ho : oc o = 0) (H : w_X1_tryCrew n_ o a1 a2 a3 U post) : um l Y (5 + 2 * n_) yX1_tryCrew cX1_tryCrew 6 none [.ref (Y.2.1 o), .int a1, .int a2, .int a3] U (pq_v post) := tn_X1_tryCrew n_ _ _ _ _ _ _ ho H
def w_X1_findCrew (o : Nat) (a1 : Int32) (a2 : Int32) (U : Um) (post : Int32 → Um → Prop) : Prop :=
  oc (uR U o 0) = 5 ∧ w_X6_isPlayed (uR U o 0) a1 U (fun r_3 U_2 => (r_3 = 0 → ∀ (U_4 : Um), U_4 = sI U_2 o 5 0 → w_X1_tryCrew 4 o a1 0 0 U_4 (fun U_5 => ((uI U_5 o 5) = 0 → post (-1) U_5) ∧ (¬ (uI U_5 o 5) = 0 → (a2 = 0 → post (uI U_5 o 4) U_5) ∧ (¬ a2 = 0 → vp_in (a2 - 1) 3 ∧ post (uA U_5 o 3 (Int32.toNatClampNeg (a2 - 1))) U_5)))) ∧ (¬ r_3 = 0 → post (-1) U_2))
set_option maxHeartbeats 4000000 in
theorem t_X1_findCrew {l : Launch} {Y : px_Y} {o : Nat} {a1 : Int32} {a2 : Int32} {U : Um} {post : Int32 → Um → Prop} (ho : oc o = 0) (H : w_X1_findCrew o a1 a2 U post) : um l Y 14 yX1_findCrew cX1_findCrew 3 (some (.int)) [.ref (Y.2.1 o), .int a1, .int a2] U (pq_i post) := by
  unfold w_X1_findCrew at H
  refine um_of (by decide) (Nat.le_of_ble_eq_true rfl) [some (.ref (Y.2.1 o)), some (.int a1), some (.int a2)] rfl (fun X h0 hh sz hM hU => ?_)
  have hC := hM.1
  have hR := hM.2.2.1
  refine pr_aload_n hC (by decide +kernel : decode cX1_findCrew 0 = .ok (.aload_n 0, 1)) rfl ?_
  refine pu_g21 hC fg_X1_9 (by decide +kernel : decode cX1_findCrew 1 = .ok (.getfield 9, 3)) hU ho (by decide) rfl rfl ?_
  have q_1 := H.1
  replace H := H.2
  refine pr_iload_n hC (by decide +kernel : decode cX1_findCrew 4 = .ok (.iload_n 1, 1)) rfl ?_
  refine vc_Vi hC hR [.int a1] fv_X1_49 (by decide +kernel : decode cX1_findCrew 5 = .ok (.invokevirtual 49, 3)) hU (t_X6_isPlayed q_1 H) q_1 (by decide) rfl rfl rfl (Nat.le_of_ble_eq_true rfl) (Nat.le_of_ble_eq_true rfl) (Nat.le_refl 0) (Nat.le_refl 0) (fun r_3 U_2 h H hU => ?_)
  refine pr_if_eq hC 13 (by decide +kernel : decode cX1_findCrew 8 = .ok (.ifCond .eq 5, 3)) (by decide) (fun c_8 => ?_) (fun c_8 => ?_)
  · replace H := H.1 c_8
    refine pr_aload_n hC (by decide +kernel : decode cX1_findCrew 13 = .ok (.aload_n 0, 1)) rfl ?_
    refine pr_iconst hC (0) (by decide +kernel : decode cX1_findCrew 14 = .ok (.iconst 0, 1)) rfl ?_
    refine pv_p0 hC fp_X1_53 (by decide +kernel : decode cX1_findCrew 15 = .ok (.putfield 53, 3)) hU ho (by decide) rfl rfl rfl rfl (fun U_4 h e_U_4 hU => ?_)
    replace H := H U_4 e_U_4
    refine pr_aload_n hC (by decide +kernel : decode cX1_findCrew 18 = .ok (.aload_n 0, 1)) rfl ?_
    refine pr_iload_n hC (by decide +kernel : decode cX1_findCrew 19 = .ok (.iload_n 1, 1)) rfl ?_
    refine pr_iconst hC (0) (by decide +kernel : decode cX1_findCrew 20 = .ok (.iconst 0, 1)) rfl ?_
    refine pr_iconst hC (0) (by decide +kernel : decode cX1_findCrew 21 = .ok (.iconst 0, 1)) rfl ?_
    refine vc_Vv hC hR [.int a1, .int 0, .int 0] fv_X1_57 (by decide +kernel : decode cX1_findCrew 22 = .ok (.invokevirtual 57, 3)) hU (t_X1_tryCrew 4 ho H) ho (by decide) rfl rfl rfl (Nat.le_of_ble_eq_true rfl) (Nat.le_of_ble_eq_true rfl) (Nat.le_refl 0) (Nat.le_refl 0) (fun U_5 h H hU => ?_)
    refine pr_aload_n hC (by decide +kernel : decode cX1_findCrew 25 = .ok (.aload_n 0, 1)) rfl ?_
    refine pu_g0 hC fg_X1_53 (by decide +kernel : decode cX1_findCrew 26 = .ok (.getfield 53, 3)) hU ho (by decide) rfl rfl ?_
    refine pr_if_ne hC 34 (by decide +kernel : decode cX1_findCrew 29 = .ok (.ifCond .ne 5, 3)) (by decide) (fun c_29 => ?_) (fun c_29 => ?_)
    · replace H := H.2 c_29
      refine pr_iload_n hC (by decide +kernel : decode cX1_findCrew 34 = .ok (.iload_n 2, 1)) rfl ?_
      refine pr_if_ne hC 45 (by decide +kernel : decode cX1_findCrew 35 = .ok (.ifCond .ne 10, 3)) (by decide) (fun c_35 => ?_) (fun c_35 => ?_)
      · replace H := H.2 c_35
        refine pr_aload_n hC (by decide +kernel : decode cX1_findCrew 45 = .ok (.aload_n 0, 1)) rfl ?_
        refine pu_g1 hC fg_X1_22 (by decide +kernel : decode cX1_findCrew 46 = .ok (.getfield 22, 3)) hU ho (by decide) rfl (by decide) ?_
        refine pr_iload_n hC (by decide +kernel : decode cX1_findCrew 49 = .ok (.iload_n 2, 1)) rfl ?_
        refine pr_iconst hC (1) (by decide +kernel : decode cX1_findCrew 50 = .ok (.iconst 1, 1)) rfl ?_
        refine pr_isub hC (by decide +kernel : decode cX1_findCrew 51 = .ok (.isub, 1)) ?_
        refine pu_iald hC (by decide +kernel : decode cX1_findCrew 52 = .ok (.iaload, 1)) hU ho rfl H.1 ?_
        replace H := H.2
        exact pv_iret hM (by decide +kernel : decode cX1_findCrew 53 = .ok (.ireturn, 1)) hU H
      replace H := H.1 c_35
      refine pr_aload_n hC (by decide +kernel : decode cX1_findCrew 38 = .ok (.aload_n 0, 1)) rfl ?_
      refine pu_g0 hC fg_X1_61 (by decide +kernel : decode cX1_findCrew 39 = .ok (.getfield 61, 3)) hU ho (by decide) rfl rfl ?_
      refine pr_goto hC 53 (by decide +kernel : decode cX1_findCrew 42 = .ok (.goto 11, 3)) (by decide) ?_
      exact pv_iret hM (by decide +kernel : decode cX1_findCrew 53 = .ok (.ireturn, 1)) hU H
    replace H := H.1 c_29
    refine pr_iconst hC (-1) (by decide +kernel : decode cX1_findCrew 32 = .ok (.iconst (-1), 1)) rfl ?_
    exact pv_iret hM (by decide +kernel : decode cX1_findCrew 33 = .ok (.ireturn, 1)) hU H
  replace H := H.2 c_8
  refine pr_iconst hC (-1) (by decide +kernel : decode cX1_findCrew 11 = .ok (.iconst (-1), 1)) rfl ?_
  exact pv_iret hM (by decide +kernel : decode cX1_findCrew 12 = .ok (.ireturn, 1)) hU H
def w_X6_isLate (o : Nat) (a1 : Int32) (U : Um) (post : Int32 → Um → Prop) : Prop :=
  oc (uR U o 0) = 8 ∧ vp_in a1 16 ∧ oc (uAR U (uR U o 0) 6 (Int32.toNatClampNeg a1)) = 1 ∧ ((uI U (uAR U (uR U o 0) 6 (Int32.toNatClampNeg a1)) 3) = (uI U o 1) → post 1 U) ∧ (¬ (uI U (uAR U (uR U o 0) 6 (Int32.toNatClampNeg a1)) 3) = (uI U o 1) → post 0 U)
set_option maxHeartbeats 4000000 in
theorem t_X6_isLate {l : Launch} {Y : px_Y} {o : Nat} {a1 : Int32} {U : Um} {post : Int32 → Um → Prop} (ho : oc o = 5) (H : w_X6_isLate o a1 U post) : um l Y 0 yX6_isLate cX6_isLate 2 (some (.boolean)) [.ref (Y.2.1 o), .int a1] U (pq_i post) := by
  unfold w_X6_isLate at H
  refine um_of (by decide) (Nat.le_of_ble_eq_true rfl) [some (.ref (Y.2.1 o)), some (.int a1)] rfl (fun X h0 hh sz hM hU => ?_)
  have hC := hM.1
  have hR := hM.2.2.1
  refine pr_aload_n hC (by decide +kernel : decode cX6_isLate 0 = .ok (.aload_n 0, 1)) rfl ?_
  refine pu_g21 hC fg_X6_41 (by decide +kernel : decode cX6_isLate 1 = .ok (.getfield 41, 3)) hU ho (by decide) rfl rfl ?_
  have q_1 := H.1
  replace H := H.2
  refine pu_g1 hC fg_X6_62 (by decide +kernel : decode cX6_isLate 4 = .ok (.getfield 62, 3)) hU q_1 (by decide) rfl (by decide) ?_
  refine pr_iload_n hC (by decide +kernel : decode cX6_isLate 7 = .ok (.iload_n 1, 1)) rfl ?_
  have q_2 := H.1
  replace H := H.2
  refine pu_aald8 hC (by decide +kernel : decode cX6_isLate 8 = .ok (.aaload, 1)) hU q_1 rfl q_2 ?_
  have q_3 := H.1
  replace H := H.2
  refine pu_g0 hC fg_X6_66 (by decide +kernel : decode cX6_isLate 9 = .ok (.getfield 66, 3)) hU q_3 (by decide) rfl rfl ?_
  refine pr_aload_n hC (by decide +kernel : decode cX6_isLate 12 = .ok (.aload_n 0, 1)) rfl ?_
  refine pu_g0 hC fg_X6_45 (by decide +kernel : decode cX6_isLate 13 = .ok (.getfield 45, 3)) hU ho (by decide) rfl rfl ?_
  refine pr_icmp_ne hC 23 (by decide +kernel : decode cX6_isLate 16 = .ok (.if_icmp .ne 7, 3)) (by decide) (fun c_16 => ?_) (fun c_16 => ?_)
  · replace H := H.2 c_16
    refine pr_iconst hC (0) (by decide +kernel : decode cX6_isLate 23 = .ok (.iconst 0, 1)) rfl ?_
    exact pv_zret hM (by decide +kernel : decode cX6_isLate 24 = .ok (.ireturn, 1)) (Or.inl rfl) hU H
  replace H := H.1 c_16
  refine pr_iconst hC (1) (by decide +kernel : decode cX6_isLate 19 = .ok (.iconst 1, 1)) rfl ?_
  refine pr_goto hC 24 (by decide +kernel : decode cX6_isLate 20 = .ok (.goto 4, 3)) (by decide) ?_
  exact pv_zret hM (by decide +kernel : decode cX6_isLate 24 = .ok (.ireturn, 1)) (Or.inr rfl) hU H
def b_X1_listOpen_L49 (o0 : Nat) (x2 : Int32) (x3 : Int32) (post : Int32 → Um → Prop) (k_112 : Int32 → Um → Prop) (rec_ : Int32 → Int32 → Um → Prop) (x1 : Int32) (x4 : Int32) (U : Um) : Prop :=
  (x3 = 0 → k_112 x1 U) ∧ (¬ x3 = 0 → oc (uR U o0 0) = 5 ∧ oc (uR U (uR U o0 0) 0) = 8 ∧ vp_in x2 16 ∧ oc (uAR U (uR U (uR U o0 0) 0) 6 (Int32.toNatClampNeg x2)) = 1 ∧ ((uI U (uAR U (uR U (uR U o0 0) 0) 6 (Int32.toNatClampNeg x2)) 7) ≤ x4 → k_112 x1 U) ∧ (¬ (uI U (uAR U (uR U (uR U o0 0) 0) 6 (Int32.toNatClampNeg x2)) 7) ≤ x4 → w_X9_placeOf x2 x4 U (fun r_14 U_13 => oc (uR U_13 o0 0) = 5 ∧ vp_in r_14 48 ∧ ((uA U_13 (uR U_13 o0 0) 2 (Int32.toNatClampNeg r_14)) = (-1) → vp_in x1 48 ∧ ∀ (U_16 : Um), U_16 = sA U_13 o0 1 (va_up (uA U_13 o0 1) (Int32.toNatClampNeg x1) r_14) → ∀ (x1_17 : Int32), x1_17 = x1 + 1 → ∀ (x4_18 : Int32), x4_18 = x4 + 1 → rec_ x1_17 x4_18 U_16) ∧ (¬ (uA U_13 (uR U_13 o0 0) 2 (Int32.toNatClampNeg r_14)) = (-1) → ∀ (x4_19 : Int32), x4_19 = x4 + 1 → rec_ x1 x4_19 U_13))))
def w_X1_listOpen_L49 (o0 : Nat) (x2 : Int32) (x3 : Int32) (post : Int32 → Um → Prop) (k_112 : Int32 → Um → Prop) (n_ : Nat) : Int32 → Int32 → Um → Prop := Nat.rec (motive := fun _ => Int32 → Int32 → Um → Prop) (fun _ _ _ => False) (fun _ ih => b_X1_listOpen_L49 o0 x2 x3 post k_112 ih) n_
def b_X1_listOpen_L4 (o0 : Nat) (post : Int32 → Um → Prop) (k_118 : Int32 → Um → Prop) (rec_ : Int32 → Int32 → Um → Prop) (x1 : Int32) (x2 : Int32) (U : Um) : Prop :=
  oc (uR U o0 0) = 5 ∧ oc (uR U (uR U o0 0) 0) = 8 ∧ ((uI U (uR U (uR U o0 0) 0) 7) ≤ x2 → k_118 x1 U) ∧ (¬ (uI U (uR U (uR U o0 0) 0) 7) ≤ x2 → oc (uR U o0 0) = 5 ∧ w_X6_isPlayed (uR U o0 0) x2 U (fun r_5 U_4 => (∀ K_6 : Int32 → Um → Prop, (∀ (xs_7 : Int32) (U_8 : Um), ((∃ n_23, w_X1_listOpen_L49 o0 x2 xs_7 post (fun x1_20 U_21 => ∀ (x2_22 : Int32), x2_22 = x2 + 1 → rec_ x1_20 x2_22 U_21) n_23 x1 0 U_8)) → K_6 xs_7 U_8) → (r_5 = 0 → oc (uR U_4 o0 0) = 5 ∧ w_X6_isLate (uR U_4 o0 0) x2 U_4 (fun r_26 U_25 => (r_26 = 0 → K_6 1 U_25) ∧ (¬ r_26 = 0 → K_6 0 U_25))) ∧ (¬ r_5 = 0 → K_6 0 U_4))))
def w_X1_listOpen_L4 (o0 : Nat) (post : Int32 → Um → Prop) (k_118 : Int32 → Um → Prop) (n_ : Nat) : Int32 → Int32 → Um → Prop := Nat.rec (motive := fun _ => Int32 → Int32 → Um → Prop) (fun _ _ _ => False) (fun _ ih => b_X1_listOpen_L4 o0 post k_118 ih) n_
def w_X1_listOpen (o : Nat) (U : Um) (post : Int32 → Um → Prop) : Prop :=
  (∃ n_29, w_X1_listOpen_L4 o post (fun x1_27 U_28 => post x1_27 U_28) n_29 0 0 U)
set_option maxHeartbeats 4000000 in
theorem tl_X1_listOpen_L49 {l : Launch} {Y : px_Y} {X : px_X} {h0 hh : pe_H} {sz : Nat} (o0 : Nat) (x2 : Int32) (x3 : Int32) (post : Int32 → Um → Prop) (k_112 : Int32 → Um → Prop) (ho0 : oc o0 = 0)  (hC : px_C X Y.1 (pm_A hh sz) cX1_listOpen RX1 6) (hM : px_M l X Y.1 hh sz yX1_listOpen cX1_listOpen 6 (some (.int)) 1 0 0) (hR : X.2.2.2.1 = pm_rm 1 0 0) (hk_112 : ∀ (y1 : Int32) (U : Um) (h : pe_H), k_112 y1 U → rF Y h0 U h → pw X Y.1 (pm_A hh sz) (pm_E X Y.1 hh sz 0 0 (pm_P Y h0 sz (pq_i post))) 112 [some (.ref (Y.2.1 o0)), some (.int y1), some (.int x2), none, none, none] [] h sz 0 0) : ∀ (n_ : Nat) (x1 : Int32) (x4 : Int32) (U : Um) (h : pe_H), rF Y h0 U h → w_X1_listOpen_L49 o0 x2 x3 post k_112 n_ x1 x4 U → pw X Y.1 (pm_A hh sz) (pm_E X Y.1 hh sz 0 0 (pm_P Y h0 sz (pq_i post))) 49 [some (.ref (Y.2.1 o0)), some (.int x1), some (.int x2), some (.int x3), some (.int x4), none] [] h sz 0 0 := by
  intro n_
  induction n_ with
  | zero => intro x1 x4 U h hU H; exact False.elim H
  | succ n_ ih =>
    intro x1 x4 U h hU H
    replace H : b_X1_listOpen_L49 o0 x2 x3 post k_112 (w_X1_listOpen_L49 o0 x2 x3 post k_112 n_) x1 x4 U := H
    unfold b_X1_listOpen_L49 at H
    refine pr_iload_n hC (by decide +kernel : decode cX1_listOpen 49 = .ok (.iload_n 3, 1)) rfl ?_
    refine pr_if_eq hC 112 (by decide +kernel : decode cX1_listOpen 50 = .ok (.ifCond .eq 62, 3)) (by decide) (fun c_50 => ?_) (fun c_50 => ?_)
    · replace H := H.1 c_50
      exact pv_sub [some (.ref (Y.2.1 o0)), some (.int x1), some (.int x2), none, none, none] (And.intro rfl (And.intro rfl (And.intro rfl trivial))) (hk_112 _ U h H hU)
    replace H := H.2 c_50
    refine pr_iload hC (by decide +kernel : decode cX1_listOpen 53 = .ok (.iload 4, 2)) rfl ?_
    refine pr_aload_n hC (by decide +kernel : decode cX1_listOpen 55 = .ok (.aload_n 0, 1)) rfl ?_
    refine pu_g21 hC fg_X1_9 (by decide +kernel : decode cX1_listOpen 56 = .ok (.getfield 9, 3)) hU ho0 (by decide) rfl rfl ?_
    have q_9 := H.1
    replace H := H.2
    refine pu_g21 hC fg_X1_65 (by decide +kernel : decode cX1_listOpen 59 = .ok (.getfield 65, 3)) hU q_9 (by decide) rfl rfl ?_
    have q_10 := H.1
    replace H := H.2
    refine pu_g1 hC fg_X1_69 (by decide +kernel : decode cX1_listOpen 62 = .ok (.getfield 69, 3)) hU q_10 (by decide) rfl (by decide) ?_
    refine pr_iload_n hC (by decide +kernel : decode cX1_listOpen 65 = .ok (.iload_n 2, 1)) rfl ?_
    have q_11 := H.1
    replace H := H.2
    refine pu_aald8 hC (by decide +kernel : decode cX1_listOpen 66 = .ok (.aaload, 1)) hU q_10 rfl q_11 ?_
    have q_12 := H.1
    replace H := H.2
    refine pu_g0 hC fg_X1_75 (by decide +kernel : decode cX1_listOpen 67 = .ok (.getfield 75, 3)) hU q_12 (by decide) rfl rfl ?_
    refine pr_icmp_ge hC 112 (by decide +kernel : decode cX1_listOpen 70 = .ok (.if_icmp .ge 42, 3)) (by decide) (fun c_70 => ?_) (fun c_70 => ?_)
    · replace H := H.1 c_70
      exact pv_sub [some (.ref (Y.2.1 o0)), some (.int x1), some (.int x2), none, none, none] (And.intro rfl (And.intro rfl (And.intro rfl trivial))) (hk_112 _ U h H hU)
    replace H := H.2 c_70
    refine pr_iload_n hC (by decide +kernel : decode cX1_listOpen 73 = .ok (.iload_n 2, 1)) rfl ?_
    refine pr_iload hC (by decide +kernel : decode cX1_listOpen 74 = .ok (.iload 4, 2)) rfl ?_
    refine vc_Si hC hR [.int x2, .int x4] fv_X1_83 (by decide +kernel : decode cX1_listOpen 76 = .ok (.invokestatic 83, 3)) hU (t_X9_placeOf  H) rfl rfl (Nat.le_of_ble_eq_true rfl) (Nat.le_of_ble_eq_true rfl) (Nat.le_refl 0) (Nat.le_refl 0) (fun r_14 U_13 h H hU => ?_)
    refine pr_istore hC (by decide +kernel : decode cX1_listOpen 79 = .ok (.istore 5, 2)) (by decide) rfl ?_
    refine pr_aload_n hC (by decide +kernel : decode cX1_listOpen 81 = .ok (.aload_n 0, 1)) rfl ?_
    refine pu_g21 hC fg_X1_9 (by decide +kernel : decode cX1_listOpen 82 = .ok (.getfield 9, 3)) hU ho0 (by decide) rfl rfl ?_
    have q_15 := H.1
    replace H := H.2
    refine pu_g1 hC fg_X1_80 (by decide +kernel : decode cX1_listOpen 85 = .ok (.getfield 80, 3)) hU q_15 (by decide) rfl (by decide) ?_
    refine pr_iload hC (by decide +kernel : decode cX1_listOpen 88 = .ok (.iload 5, 2)) rfl ?_
    refine pu_iald hC (by decide +kernel : decode cX1_listOpen 90 = .ok (.iaload, 1)) hU q_15 rfl H.1 ?_
    replace H := H.2
    refine pr_iconst hC (-1) (by decide +kernel : decode cX1_listOpen 91 = .ok (.iconst (-1), 1)) rfl ?_
    refine pr_icmp_ne hC 106 (by decide +kernel : decode cX1_listOpen 92 = .ok (.if_icmp .ne 14, 3)) (by decide) (fun c_92 => ?_) (fun c_92 => ?_)
    · replace H := H.2 c_92
      refine pv_iinc hC (v := x4 + 1) (by decide +kernel : decode cX1_listOpen 106 = .ok (.iinc 4 1, 3)) rfl (by decide) rfl rfl (fun x4_19 e_x4_19 => ?_)
      replace H := H x4_19 e_x4_19
      refine pr_goto hC 49 (by decide +kernel : decode cX1_listOpen 109 = .ok (.goto (-60), 3)) (by decide) ?_
      exact pv_sub [some (.ref (Y.2.1 o0)), some (.int x1), some (.int x2), some (.int x3), some (.int x4_19), none] (And.intro rfl (And.intro rfl (And.intro rfl (And.intro rfl (And.intro rfl trivial))))) (ih _ _ U_13 h hU H)
    replace H := H.1 c_92
    refine pr_aload_n hC (by decide +kernel : decode cX1_listOpen 95 = .ok (.aload_n 0, 1)) rfl ?_
    refine pu_g1 hC fg_X1_15 (by decide +kernel : decode cX1_listOpen 96 = .ok (.getfield 15, 3)) hU ho0 (by decide) rfl (by decide) ?_
    refine pr_iload_n hC (by decide +kernel : decode cX1_listOpen 99 = .ok (.iload_n 1, 1)) rfl ?_
    refine pr_iload hC (by decide +kernel : decode cX1_listOpen 100 = .ok (.iload 5, 2)) rfl ?_
    refine pv_iast hC (by decide +kernel : decode cX1_listOpen 102 = .ok (.iastore, 1)) hU ho0 rfl H.1 (fun U_16 h e_U_16 hU => ?_)
    replace H := H.2 U_16 e_U_16
    refine pv_iinc hC (v := x1 + 1) (by decide +kernel : decode cX1_listOpen 103 = .ok (.iinc 1 1, 3)) rfl (by decide) rfl rfl (fun x1_17 e_x1_17 => ?_)
    replace H := H x1_17 e_x1_17
    refine pv_iinc hC (v := x4 + 1) (by decide +kernel : decode cX1_listOpen 106 = .ok (.iinc 4 1, 3)) rfl (by decide) rfl rfl (fun x4_18 e_x4_18 => ?_)
    replace H := H x4_18 e_x4_18
    refine pr_goto hC 49 (by decide +kernel : decode cX1_listOpen 109 = .ok (.goto (-60), 3)) (by decide) ?_
    exact pv_sub [some (.ref (Y.2.1 o0)), some (.int x1_17), some (.int x2), some (.int x3), some (.int x4_18), none] (And.intro rfl (And.intro rfl (And.intro rfl (And.intro rfl (And.intro rfl trivial))))) (ih _ _ U_16 h hU H)
set_option maxHeartbeats 4000000 in
theorem tl_X1_listOpen_L4 {l : Launch} {Y : px_Y} {X : px_X} {h0 hh : pe_H} {sz : Nat} (o0 : Nat) (post : Int32 → Um → Prop) (k_118 : Int32 → Um → Prop) (ho0 : oc o0 = 0)  (hC : px_C X Y.1 (pm_A hh sz) cX1_listOpen RX1 6) (hM : px_M l X Y.1 hh sz yX1_listOpen cX1_listOpen 6 (some (.int)) 1 0 0) (hR : X.2.2.2.1 = pm_rm 1 0 0) (hk_118 : ∀ (y1 : Int32) (U : Um) (h : pe_H), k_118 y1 U → rF Y h0 U h → pw X Y.1 (pm_A hh sz) (pm_E X Y.1 hh sz 0 0 (pm_P Y h0 sz (pq_i post))) 118 [none, some (.int y1), none, none, none, none] [] h sz 0 0) : ∀ (n_ : Nat) (x1 : Int32) (x2 : Int32) (U : Um) (h : pe_H), rF Y h0 U h → w_X1_listOpen_L4 o0 post k_118 n_ x1 x2 U → pw X Y.1 (pm_A hh sz) (pm_E X Y.1 hh sz 0 0 (pm_P Y h0 sz (pq_i post))) 4 [some (.ref (Y.2.1 o0)), some (.int x1), some (.int x2), none, none, none] [] h sz 0 0 := by
  intro n_
  induction n_ with
  | zero => intro x1 x2 U h hU H; exact False.elim H
  | succ n_ ih =>
    intro x1 x2 U h hU H
    replace H : b_X1_listOpen_L4 o0 post k_118 (w_X1_listOpen_L4 o0 post k_118 n_) x1 x2 U := H
    unfold b_X1_listOpen_L4 at H
    refine pr_iload_n hC (by decide +kernel : decode cX1_listOpen 4 = .ok (.iload_n 2, 1)) rfl ?_
    refine pr_aload_n hC (by decide +kernel : decode cX1_listOpen 5 = .ok (.aload_n 0, 1)) rfl ?_
    refine pu_g21 hC fg_X1_9 (by decide +kernel : decode cX1_listOpen 6 = .ok (.getfield 9, 3)) hU ho0 (by decide) rfl rfl ?_
    have q_1 := H.1
    replace H := H.2
    refine pu_g21 hC fg_X1_65 (by decide +kernel : decode cX1_listOpen 9 = .ok (.getfield 65, 3)) hU q_1 (by decide) rfl rfl ?_
    have q_2 := H.1
    replace H := H.2
    refine pu_g0 hC fg_X1_103 (by decide +kernel : decode cX1_listOpen 12 = .ok (.getfield 103, 3)) hU q_2 (by decide) rfl rfl ?_
    refine pr_icmp_ge hC 118 (by decide +kernel : decode cX1_listOpen 15 = .ok (.if_icmp .ge 103, 3)) (by decide) (fun c_15 => ?_) (fun c_15 => ?_)
    · replace H := H.1 c_15
      exact pv_sub [none, some (.int x1), none, none, none, none] (And.intro rfl trivial) (hk_118 _ U h H hU)
    replace H := H.2 c_15
    refine pr_aload_n hC (by decide +kernel : decode cX1_listOpen 18 = .ok (.aload_n 0, 1)) rfl ?_
    refine pu_g21 hC fg_X1_9 (by decide +kernel : decode cX1_listOpen 19 = .ok (.getfield 9, 3)) hU ho0 (by decide) rfl rfl ?_
    have q_3 := H.1
    replace H := H.2
    refine pr_iload_n hC (by decide +kernel : decode cX1_listOpen 22 = .ok (.iload_n 2, 1)) rfl ?_
    refine vc_Vi hC hR [.int x2] fv_X1_49 (by decide +kernel : decode cX1_listOpen 23 = .ok (.invokevirtual 49, 3)) hU (t_X6_isPlayed q_3 H) q_3 (by decide) rfl rfl rfl (Nat.le_of_ble_eq_true rfl) (Nat.le_of_ble_eq_true rfl) (Nat.le_refl 0) (Nat.le_refl 0) (fun r_5 U_4 h H hU => ?_)
    replace H := H (fun xs_7 U_8 => ∀ h : pe_H, rF Y h0 U_8 h → pw X Y.1 (pm_A hh sz) (pm_E X Y.1 hh sz 0 0 (pm_P Y h0 sz (pq_i post))) 45 [some (.ref (Y.2.1 o0)), some (.int x1), some (.int x2), none, none, none] [.int xs_7] h sz 0 0) (by
      intro xs_7 U_8 H h hU
      refine pr_istore_n hC (by decide +kernel : decode cX1_listOpen 45 = .ok (.istore_n 3, 1)) (by decide) rfl ?_
      refine pr_iconst hC (0) (by decide +kernel : decode cX1_listOpen 46 = .ok (.iconst 0, 1)) rfl ?_
      refine pr_istore hC (by decide +kernel : decode cX1_listOpen 47 = .ok (.istore 4, 2)) (by decide) rfl ?_
      obtain ⟨n_23, H⟩ := H
      refine pv_sub [some (.ref (Y.2.1 o0)), some (.int x1), some (.int x2), some (.int xs_7), some (.int 0), none] (And.intro rfl (And.intro rfl (And.intro rfl (And.intro rfl (And.intro rfl trivial))))) ?_
      refine tl_X1_listOpen_L49 _ _ _ _ _ ho0 hC hM hR (fun x1_20 U_21 h H hU => ?_) n_23 _ _ U_8 h hU H
      refine pv_iinc hC (v := x2 + 1) (by decide +kernel : decode cX1_listOpen 112 = .ok (.iinc 2 1, 3)) rfl (by decide) rfl rfl (fun x2_22 e_x2_22 => ?_)
      replace H := H x2_22 e_x2_22
      refine pr_goto hC 4 (by decide +kernel : decode cX1_listOpen 115 = .ok (.goto (-111), 3)) (by decide) ?_
      exact pv_sub [some (.ref (Y.2.1 o0)), some (.int x1_20), some (.int x2_22), none, none, none] (And.intro rfl (And.intro rfl (And.intro rfl trivial))) (ih _ _ U_21 h hU H))
    refine pr_if_ne hC 44 (by decide +kernel : decode cX1_listOpen 26 = .ok (.ifCond .ne 18, 3)) (by decide) (fun c_26 => ?_) (fun c_26 => ?_)
    · replace H := H.2 c_26
      refine pr_iconst hC (0) (by decide +kernel : decode cX1_listOpen 44 = .ok (.iconst 0, 1)) rfl ?_
      exact pv_sub [some (.ref (Y.2.1 o0)), some (.int x1), some (.int x2), none, none, none] (And.intro rfl (And.intro rfl (And.intro rfl trivial))) (H h hU)
    replace H := H.1 c_26
    refine pr_aload_n hC (by decide +kernel : decode cX1_listOpen 29 = .ok (.aload_n 0, 1)) rfl ?_
    refine pu_g21 hC fg_X1_9 (by decide +kernel : decode cX1_listOpen 30 = .ok (.getfield 9, 3)) hU ho0 (by decide) rfl rfl ?_
    have q_24 := H.1
    replace H := H.2
    refine pr_iload_n hC (by decide +kernel : decode cX1_listOpen 33 = .ok (.iload_n 2, 1)) rfl ?_
    refine vc_Vi hC hR [.int x2] fv_X1_106 (by decide +kernel : decode cX1_listOpen 34 = .ok (.invokevirtual 106, 3)) hU (t_X6_isLate q_24 H) q_24 (by decide) rfl rfl rfl (Nat.le_of_ble_eq_true rfl) (Nat.le_of_ble_eq_true rfl) (Nat.le_refl 0) (Nat.le_refl 0) (fun r_26 U_25 h H hU => ?_)
    refine pr_if_ne hC 44 (by decide +kernel : decode cX1_listOpen 37 = .ok (.ifCond .ne 7, 3)) (by decide) (fun c_37 => ?_) (fun c_37 => ?_)
    · replace H := H.2 c_37
      refine pr_iconst hC (0) (by decide +kernel : decode cX1_listOpen 44 = .ok (.iconst 0, 1)) rfl ?_
      exact pv_sub [some (.ref (Y.2.1 o0)), some (.int x1), some (.int x2), none, none, none] (And.intro rfl (And.intro rfl (And.intro rfl trivial))) (H h hU)
    replace H := H.1 c_37
    refine pr_iconst hC (1) (by decide +kernel : decode cX1_listOpen 40 = .ok (.iconst 1, 1)) rfl ?_
    refine pr_goto hC 45 (by decide +kernel : decode cX1_listOpen 41 = .ok (.goto 4, 3)) (by decide) ?_
    exact pv_sub [some (.ref (Y.2.1 o0)), some (.int x1), some (.int x2), none, none, none] (And.intro rfl (And.intro rfl (And.intro rfl trivial))) (H h hU)
set_option maxHeartbeats 4000000 in
theorem t_X1_listOpen {l : Launch} {Y : px_Y} {o : Nat} {U : Um} {post : Int32 → Um → Prop} (ho : oc o = 0) (H : w_X1_listOpen o U post) : um l Y 1 yX1_listOpen cX1_listOpen 6 (some (.int)) [.ref (Y.2.1 o)] U (pq_i post) := by
  unfold w_X1_listOpen at H
  refine um_of (by decide) (Nat.le_of_ble_eq_true rfl) [some (.ref (Y.2.1 o)), none, none, none, none, none] rfl (fun X h0 hh sz hM hU => ?_)
  have hC := hM.1
  have hR := hM.2.2.1
  refine pr_iconst hC (0) (by decide +kernel : decode cX1_listOpen 0 = .ok (.iconst 0, 1)) rfl ?_
  refine pr_istore_n hC (by decide +kernel : decode cX1_listOpen 1 = .ok (.istore_n 1, 1)) (by decide) rfl ?_
  refine pr_iconst hC (0) (by decide +kernel : decode cX1_listOpen 2 = .ok (.iconst 0, 1)) rfl ?_
  refine pr_istore_n hC (by decide +kernel : decode cX1_listOpen 3 = .ok (.istore_n 2, 1)) (by decide) rfl ?_
  obtain ⟨n_29, H⟩ := H
  refine pv_sub [some (.ref (Y.2.1 o)), some (.int 0), some (.int 0), none, none, none] (And.intro rfl (And.intro rfl (And.intro rfl trivial))) ?_
  refine tl_X1_listOpen_L4 _ _ _ ho hC hM hR (fun x1_27 U_28 h H hU => ?_) n_29 _ _ U hh hU H
  refine pr_iload_n hC (by decide +kernel : decode cX1_listOpen 118 = .ok (.iload_n 1, 1)) rfl ?_
  exact pv_iret hM (by decide +kernel : decode cX1_listOpen 119 = .ok (.ireturn, 1)) hU H
def b_X1_firstFor_L2 (o0 : Nat) (x1 : Int32) (post : Int32 → Um → Prop) (k_38 : Um → Prop) (rec_ : Int32 → Um → Prop) (x3 : Int32) (U : Um) : Prop :=
  oc (uR U o0 0) = 5 ∧ w_X6_officials (uR U o0 0) U (fun r_4 U_3 => (r_4 ≤ x3 → k_38 U_3) ∧ (¬ r_4 ≤ x3 → oc (uR U_3 o0 0) = 5 ∧ w_X6_reason (uR U_3 o0 0) (x1 / 3) (x1 - x1 / 3 * 3) x3 U_3 (fun r_7 U_6 => (r_7 = 0 → post x3 U_6) ∧ (¬ r_7 = 0 → ∀ (x3_8 : Int32), x3_8 = x3 + 1 → rec_ x3_8 U_6))))
def w_X1_firstFor_L2 (o0 : Nat) (x1 : Int32) (post : Int32 → Um → Prop) (k_38 : Um → Prop) (n_ : Nat) : Int32 → Um → Prop := Nat.rec (motive := fun _ => Int32 → Um → Prop) (fun _ _ => False) (fun _ ih => b_X1_firstFor_L2 o0 x1 post k_38 ih) n_
def w_X1_firstFor (o : Nat) (a1 : Int32) (a2 : Int32) (U : Um) (post : Int32 → Um → Prop) : Prop :=
  ∀ (x3_1 : Int32), x3_1 = a2 → (∃ n_10, w_X1_firstFor_L2 o a1 post (fun U_9 => post (-1) U_9) n_10 x3_1 U)
set_option maxHeartbeats 4000000 in
theorem tl_X1_firstFor_L2 {l : Launch} {Y : px_Y} {X : px_X} {h0 hh : pe_H} {sz : Nat} (o0 : Nat) (x1 : Int32) (post : Int32 → Um → Prop) (k_38 : Um → Prop) (ho0 : oc o0 = 0)  (hC : px_C X Y.1 (pm_A hh sz) cX1_firstFor RX1 4) (hM : px_M l X Y.1 hh sz yX1_firstFor cX1_firstFor 4 (some (.int)) 3 0 0) (hR : X.2.2.2.1 = pm_rm 3 0 0) (hk_38 : ∀ (U : Um) (h : pe_H), k_38 U → rF Y h0 U h → pw X Y.1 (pm_A hh sz) (pm_E X Y.1 hh sz 0 0 (pm_P Y h0 sz (pq_i post))) 38 [none, none, none, none] [] h sz 0 0) : ∀ (n_ : Nat) (x3 : Int32) (U : Um) (h : pe_H), rF Y h0 U h → w_X1_firstFor_L2 o0 x1 post k_38 n_ x3 U → pw X Y.1 (pm_A hh sz) (pm_E X Y.1 hh sz 0 0 (pm_P Y h0 sz (pq_i post))) 2 [some (.ref (Y.2.1 o0)), some (.int x1), none, some (.int x3)] [] h sz 0 0 := by
  intro n_
  induction n_ with
  | zero => intro x3 U h hU H; exact False.elim H
  | succ n_ ih =>
    intro x3 U h hU H
    replace H : b_X1_firstFor_L2 o0 x1 post k_38 (w_X1_firstFor_L2 o0 x1 post k_38 n_) x3 U := H
    unfold b_X1_firstFor_L2 at H
    refine pr_iload_n hC (by decide +kernel : decode cX1_firstFor 2 = .ok (.iload_n 3, 1)) rfl ?_
    refine pr_aload_n hC (by decide +kernel : decode cX1_firstFor 3 = .ok (.aload_n 0, 1)) rfl ?_
    refine pu_g21 hC fg_X1_9 (by decide +kernel : decode cX1_firstFor 4 = .ok (.getfield 9, 3)) hU ho0 (by decide) rfl rfl ?_
    have q_2 := H.1
    replace H := H.2
    refine vc_Vi hC hR [] fv_X1_28 (by decide +kernel : decode cX1_firstFor 7 = .ok (.invokevirtual 28, 3)) hU (t_X6_officials q_2 H) q_2 (by decide) rfl rfl rfl (Nat.le_of_ble_eq_true rfl) (Nat.le_of_ble_eq_true rfl) (Nat.le_refl 0) (Nat.le_refl 0) (fun r_4 U_3 h H hU => ?_)
    refine pr_icmp_ge hC 38 (by decide +kernel : decode cX1_firstFor 10 = .ok (.if_icmp .ge 28, 3)) (by decide) (fun c_10 => ?_) (fun c_10 => ?_)
    · replace H := H.1 c_10
      exact pv_sub [none, none, none, none] (trivial) (hk_38 U_3 h H hU)
    replace H := H.2 c_10
    refine pr_aload_n hC (by decide +kernel : decode cX1_firstFor 13 = .ok (.aload_n 0, 1)) rfl ?_
    refine pu_g21 hC fg_X1_9 (by decide +kernel : decode cX1_firstFor 14 = .ok (.getfield 9, 3)) hU ho0 (by decide) rfl rfl ?_
    have q_5 := H.1
    replace H := H.2
    refine pr_iload_n hC (by decide +kernel : decode cX1_firstFor 17 = .ok (.iload_n 1, 1)) rfl ?_
    refine pr_iconst hC (3) (by decide +kernel : decode cX1_firstFor 18 = .ok (.iconst 3, 1)) rfl ?_
    refine pr_idiv hC (by decide +kernel : decode cX1_firstFor 19 = .ok (.idiv, 1)) (by decide) ?_
    refine pr_iload_n hC (by decide +kernel : decode cX1_firstFor 20 = .ok (.iload_n 1, 1)) rfl ?_
    refine pr_iconst hC (3) (by decide +kernel : decode cX1_firstFor 21 = .ok (.iconst 3, 1)) rfl ?_
    refine pr_irem hC (by decide +kernel : decode cX1_firstFor 22 = .ok (.irem, 1)) (by decide) ?_
    refine pr_iload_n hC (by decide +kernel : decode cX1_firstFor 23 = .ok (.iload_n 3, 1)) rfl ?_
    refine vc_Vi hC hR [.int (x1 / 3), .int (x1 - x1 / 3 * 3), .int x3] fv_X1_34 (by decide +kernel : decode cX1_firstFor 24 = .ok (.invokevirtual 34, 3)) hU (t_X6_reason q_5 H) q_5 (by decide) rfl rfl rfl (Nat.le_of_ble_eq_true rfl) (Nat.le_of_ble_eq_true rfl) (Nat.le_refl 0) (Nat.le_refl 0) (fun r_7 U_6 h H hU => ?_)
    refine pr_if_ne hC 32 (by decide +kernel : decode cX1_firstFor 27 = .ok (.ifCond .ne 5, 3)) (by decide) (fun c_27 => ?_) (fun c_27 => ?_)
    · replace H := H.2 c_27
      refine pv_iinc hC (v := x3 + 1) (by decide +kernel : decode cX1_firstFor 32 = .ok (.iinc 3 1, 3)) rfl (by decide) rfl rfl (fun x3_8 e_x3_8 => ?_)
      replace H := H x3_8 e_x3_8
      refine pr_goto hC 2 (by decide +kernel : decode cX1_firstFor 35 = .ok (.goto (-33), 3)) (by decide) ?_
      exact pv_sub [some (.ref (Y.2.1 o0)), some (.int x1), none, some (.int x3_8)] (And.intro rfl (And.intro rfl (And.intro rfl trivial))) (ih _ U_6 h hU H)
    replace H := H.1 c_27
    refine pr_iload_n hC (by decide +kernel : decode cX1_firstFor 30 = .ok (.iload_n 3, 1)) rfl ?_
    exact pv_iret hM (by decide +kernel : decode cX1_firstFor 31 = .ok (.ireturn, 1)) hU H
set_option maxHeartbeats 4000000 in
theorem t_X1_firstFor {l : Launch} {Y : px_Y} {o : Nat} {a1 : Int32} {a2 : Int32} {U : Um} {post : Int32 → Um → Prop} (ho : oc o = 0) (H : w_X1_firstFor o a1 a2 U post) : um l Y 3 yX1_firstFor cX1_firstFor 4 (some (.int)) [.ref (Y.2.1 o), .int a1, .int a2] U (pq_i post) := by
  unfold w_X1_firstFor at H
  refine um_of (by decide) (Nat.le_of_ble_eq_true rfl) [some (.ref (Y.2.1 o)), some (.int a1), some (.int a2), none] rfl (fun X h0 hh sz hM hU => ?_)
  have hC := hM.1
  have hR := hM.2.2.1
  refine pr_iload_n hC (by decide +kernel : decode cX1_firstFor 0 = .ok (.iload_n 2, 1)) rfl ?_
  refine pv_topi (fun x3_1 e_x3_1 => ?_)
  replace H := H x3_1 e_x3_1
  refine pr_istore_n hC (by decide +kernel : decode cX1_firstFor 1 = .ok (.istore_n 3, 1)) (by decide) rfl ?_
  obtain ⟨n_10, H⟩ := H
  refine pv_sub [some (.ref (Y.2.1 o)), some (.int a1), none, some (.int x3_1)] (And.intro rfl (And.intro rfl (And.intro rfl trivial))) ?_
  refine tl_X1_firstFor_L2 _ _ _ _ ho hC hM hR (fun U_9 h H hU => ?_) n_10 _ U hh hU H
  refine pr_iconst hC (-1) (by decide +kernel : decode cX1_firstFor 38 = .ok (.iconst (-1), 1)) rfl ?_
  exact pv_iret hM (by decide +kernel : decode cX1_firstFor 39 = .ok (.ireturn, 1)) hU H
def b_X1_emptyFirst_L2 (o0 : Nat) (x1 : Int32) (post : Um → Prop) (k_36 : Um → Prop) (rec_ : Int32 → Um → Prop) (x2 : Int32) (U : Um) : Prop :=
  (x1 ≤ x2 → k_36 U) ∧ (¬ x1 ≤ x2 → oc (uR U o0 0) = 5 ∧ vp_in x2 48 ∧ vp_in x2 48 ∧ w_X6_rise (uR U o0 0) ((uA U o0 1 (Int32.toNatClampNeg x2)) / 3) ((uA U o0 1 (Int32.toNatClampNeg x2)) - (uA U o0 1 (Int32.toNatClampNeg x2)) / 3 * 3) U (fun U_2 => ∀ (x2_4 : Int32), x2_4 = x2 + 1 → rec_ x2_4 U_2))
def w_X1_emptyFirst_L2 (o0 : Nat) (x1 : Int32) (post : Um → Prop) (k_36 : Um → Prop) (n_ : Nat) : Int32 → Um → Prop := Nat.rec (motive := fun _ => Int32 → Um → Prop) (fun _ _ => False) (fun _ ih => b_X1_emptyFirst_L2 o0 x1 post k_36 ih) n_
def w_X1_emptyFirst (o : Nat) (a1 : Int32) (U : Um) (post : Um → Prop) : Prop :=
  (∃ n_6, w_X1_emptyFirst_L2 o a1 post (fun U_5 => post U_5) n_6 0 U)
set_option maxHeartbeats 4000000 in
theorem tl_X1_emptyFirst_L2 {l : Launch} {Y : px_Y} {X : px_X} {h0 hh : pe_H} {sz : Nat} (o0 : Nat) (x1 : Int32) (post : Um → Prop) (k_36 : Um → Prop) (ho0 : oc o0 = 0)  (hC : px_C X Y.1 (pm_A hh sz) cX1_emptyFirst RX1 3) (hM : px_M l X Y.1 hh sz yX1_emptyFirst cX1_emptyFirst 3 none 2 0 0) (hR : X.2.2.2.1 = pm_rm 2 0 0) (hk_36 : ∀ (U : Um) (h : pe_H), k_36 U → rF Y h0 U h → pw X Y.1 (pm_A hh sz) (pm_E X Y.1 hh sz 0 0 (pm_P Y h0 sz (pq_v post))) 36 [none, none, none] [] h sz 0 0) : ∀ (n_ : Nat) (x2 : Int32) (U : Um) (h : pe_H), rF Y h0 U h → w_X1_emptyFirst_L2 o0 x1 post k_36 n_ x2 U → pw X Y.1 (pm_A hh sz) (pm_E X Y.1 hh sz 0 0 (pm_P Y h0 sz (pq_v post))) 2 [some (.ref (Y.2.1 o0)), some (.int x1), some (.int x2)] [] h sz 0 0 := by
  intro n_
  induction n_ with
  | zero => intro x2 U h hU H; exact False.elim H
  | succ n_ ih =>
    intro x2 U h hU H
    replace H : b_X1_emptyFirst_L2 o0 x1 post k_36 (w_X1_emptyFirst_L2 o0 x1 post k_36 n_) x2 U := H
    unfold b_X1_emptyFirst_L2 at H
    refine pr_iload_n hC (by decide +kernel : decode cX1_emptyFirst 2 = .ok (.iload_n 2, 1)) rfl ?_
    refine pr_iload_n hC (by decide +kernel : decode cX1_emptyFirst 3 = .ok (.iload_n 1, 1)) rfl ?_
    refine pr_icmp_ge hC 36 (by decide +kernel : decode cX1_emptyFirst 4 = .ok (.if_icmp .ge 32, 3)) (by decide) (fun c_4 => ?_) (fun c_4 => ?_)
    · replace H := H.1 c_4
      exact pv_sub [none, none, none] (trivial) (hk_36 U h H hU)
    replace H := H.2 c_4
    refine pr_aload_n hC (by decide +kernel : decode cX1_emptyFirst 7 = .ok (.aload_n 0, 1)) rfl ?_
    refine pu_g21 hC fg_X1_9 (by decide +kernel : decode cX1_emptyFirst 8 = .ok (.getfield 9, 3)) hU ho0 (by decide) rfl rfl ?_
    have q_1 := H.1
    replace H := H.2
    refine pr_aload_n hC (by decide +kernel : decode cX1_emptyFirst 11 = .ok (.aload_n 0, 1)) rfl ?_
    refine pu_g1 hC fg_X1_15 (by decide +kernel : decode cX1_emptyFirst 12 = .ok (.getfield 15, 3)) hU ho0 (by decide) rfl (by decide) ?_
    refine pr_iload_n hC (by decide +kernel : decode cX1_emptyFirst 15 = .ok (.iload_n 2, 1)) rfl ?_
    refine pu_iald hC (by decide +kernel : decode cX1_emptyFirst 16 = .ok (.iaload, 1)) hU ho0 rfl H.1 ?_
    replace H := H.2
    refine pr_iconst hC (3) (by decide +kernel : decode cX1_emptyFirst 17 = .ok (.iconst 3, 1)) rfl ?_
    refine pr_idiv hC (by decide +kernel : decode cX1_emptyFirst 18 = .ok (.idiv, 1)) (by decide) ?_
    refine pr_aload_n hC (by decide +kernel : decode cX1_emptyFirst 19 = .ok (.aload_n 0, 1)) rfl ?_
    refine pu_g1 hC fg_X1_15 (by decide +kernel : decode cX1_emptyFirst 20 = .ok (.getfield 15, 3)) hU ho0 (by decide) rfl (by decide) ?_
    refine pr_iload_n hC (by decide +kernel : decode cX1_emptyFirst 23 = .ok (.iload_n 2, 1)) rfl ?_
    refine pu_iald hC (by decide +kernel : decode cX1_emptyFirst 24 = .ok (.iaload, 1)) hU ho0 rfl H.1 ?_
    replace H := H.2
    refine pr_iconst hC (3) (by decide +kernel : decode cX1_emptyFirst 25 = .ok (.iconst 3, 1)) rfl ?_
    refine pr_irem hC (by decide +kernel : decode cX1_emptyFirst 26 = .ok (.irem, 1)) (by decide) ?_
    refine vc_Vv hC hR [.int ((uA U o0 1 (Int32.toNatClampNeg x2)) / 3), .int ((uA U o0 1 (Int32.toNatClampNeg x2)) - (uA U o0 1 (Int32.toNatClampNeg x2)) / 3 * 3)] fv_X1_99 (by decide +kernel : decode cX1_emptyFirst 27 = .ok (.invokevirtual 99, 3)) hU (t_X6_rise q_1 H) q_1 (by decide) rfl rfl rfl (Nat.le_of_ble_eq_true rfl) (Nat.le_of_ble_eq_true rfl) (Nat.le_refl 0) (Nat.le_refl 0) (fun U_2 h H hU => ?_)
    refine pv_iinc hC (v := x2 + 1) (by decide +kernel : decode cX1_emptyFirst 30 = .ok (.iinc 2 1, 3)) rfl (by decide) rfl rfl (fun x2_4 e_x2_4 => ?_)
    replace H := H x2_4 e_x2_4
    refine pr_goto hC 2 (by decide +kernel : decode cX1_emptyFirst 33 = .ok (.goto (-31), 3)) (by decide) ?_
    exact pv_sub [some (.ref (Y.2.1 o0)), some (.int x1), some (.int x2_4)] (And.intro rfl (And.intro rfl (And.intro rfl trivial))) (ih _ U_2 h hU H)
set_option maxHeartbeats 4000000 in
theorem t_X1_emptyFirst {l : Launch} {Y : px_Y} {o : Nat} {a1 : Int32} {U : Um} {post : Um → Prop} (ho : oc o = 0) (H : w_X1_emptyFirst o a1 U post) : um l Y 2 yX1_emptyFirst cX1_emptyFirst 3 none [.ref (Y.2.1 o), .int a1] U (pq_v post) := by
  unfold w_X1_emptyFirst at H
  refine um_of (by decide) (Nat.le_of_ble_eq_true rfl) [some (.ref (Y.2.1 o)), some (.int a1), none] rfl (fun X h0 hh sz hM hU => ?_)
  have hC := hM.1
  have hR := hM.2.2.1
  refine pr_iconst hC (0) (by decide +kernel : decode cX1_emptyFirst 0 = .ok (.iconst 0, 1)) rfl ?_
  refine pr_istore_n hC (by decide +kernel : decode cX1_emptyFirst 1 = .ok (.istore_n 2, 1)) (by decide) rfl ?_
  obtain ⟨n_6, H⟩ := H
  refine pv_sub [some (.ref (Y.2.1 o)), some (.int a1), some (.int 0)] (And.intro rfl (And.intro rfl (And.intro rfl trivial))) ?_
  refine tl_X1_emptyFirst_L2 _ _ _ _ ho hC hM hR (fun U_5 h H hU => ?_) n_6 _ U hh hU H
  exact pv_vret hM (by decide +kernel : decode cX1_emptyFirst 36 = .ok (.return_, 1)) hU H
def b_X1_fillAll_L15 (o0 : Nat) (x1 : Int32) (post : Int32 → Um → Prop) (k_149 : Int32 → Int32 → Um → Prop) (rec_ : Int32 → Int32 → Int32 → Int32 → Um → Prop) (x2 : Int32) (x3 : Int32) (x4 : Int32) (x5 : Int32) (U : Um) : Prop :=
  ((1000000 : Int32) ≤ x5 → k_149 x2 x3 U) ∧ (¬ (1000000 : Int32) ≤ x5 → (x3 < 0 → k_149 x2 x3 U) ∧ (¬ x3 < 0 → (x1 ≤ x3 → k_149 x2 x3 U) ∧ (¬ x1 ≤ x3 → ((20000 : Int32) < x2 → k_149 x2 x3 U) ∧ (¬ (20000 : Int32) < x2 → vp_in x3 48 ∧ w_X1_firstFor o0 (uA U o0 1 (Int32.toNatClampNeg x3)) x4 U (fun r_4 U_3 => (r_4 = (-1) → ∀ (x3_5 : Int32), x3_5 = x3 + (-1) → (x3_5 < 0 → ∀ (x5_6 : Int32), x5_6 = x5 + 1 → rec_ x2 x3_5 x4 x5_6 U_3) ∧ (¬ x3_5 < 0 → oc (uR U_3 o0 0) = 5 ∧ vp_in x3_5 48 ∧ vp_in x3_5 48 ∧ w_X6_rise (uR U_3 o0 0) ((uA U_3 o0 1 (Int32.toNatClampNeg x3_5)) / 3) ((uA U_3 o0 1 (Int32.toNatClampNeg x3_5)) - (uA U_3 o0 1 (Int32.toNatClampNeg x3_5)) / 3 * 3) U_3 (fun U_8 => vp_in x3_5 48 ∧ ∀ (x4_10 : Int32), x4_10 = (uA U_8 o0 2 (Int32.toNatClampNeg x3_5)) + 1 → ∀ (x5_11 : Int32), x5_11 = x5 + 1 → rec_ x2 x3_5 x4_10 x5_11 U_8))) ∧ (¬ r_4 = (-1) → oc (uR U_3 o0 0) = 5 ∧ vp_in x3 48 ∧ vp_in x3 48 ∧ w_X6_sit (uR U_3 o0 0) ((uA U_3 o0 1 (Int32.toNatClampNeg x3)) / 3) ((uA U_3 o0 1 (Int32.toNatClampNeg x3)) - (uA U_3 o0 1 (Int32.toNatClampNeg x3)) / 3 * 3) r_4 U_3 (fun U_13 => vp_in x3 48 ∧ ∀ (U_15 : Um), U_15 = sA U_13 o0 2 (va_up (uA U_13 o0 2) (Int32.toNatClampNeg x3) r_4) → ∀ (x2_16 : Int32), x2_16 = x2 + 1 → ∀ (x3_17 : Int32), x3_17 = x3 + 1 → ∀ (x5_18 : Int32), x5_18 = x5 + 1 → rec_ x2_16 x3_17 0 x5_18 U_15)))))))
def w_X1_fillAll_L15 (o0 : Nat) (x1 : Int32) (post : Int32 → Um → Prop) (k_149 : Int32 → Int32 → Um → Prop) (n_ : Nat) : Int32 → Int32 → Int32 → Int32 → Um → Prop := Nat.rec (motive := fun _ => Int32 → Int32 → Int32 → Int32 → Um → Prop) (fun _ _ _ _ _ => False) (fun _ ih => b_X1_fillAll_L15 o0 x1 post k_149 ih) n_
def w_X1_fillAll (o : Nat) (U : Um) (post : Int32 → Um → Prop) : Prop :=
  w_X1_listOpen o U (fun r_2 U_1 => (∃ n_24, w_X1_fillAll_L15 o r_2 post (fun x2_19 x3_20 U_21 => (x2_19 ≤ 20000 → ((0 : Int32) ≤ x3_20 → post r_2 U_21) ∧ (¬ (0 : Int32) ≤ x3_20 → post (-1) U_21)) ∧ (¬ x2_19 ≤ 20000 → w_X1_emptyFirst o x3_20 U_21 (fun U_22 => post (-2) U_22))) n_24 0 0 0 0 U_1))
set_option maxHeartbeats 4000000 in
theorem tl_X1_fillAll_L15 {l : Launch} {Y : px_Y} {X : px_X} {h0 hh : pe_H} {sz : Nat} (o0 : Nat) (x1 : Int32) (post : Int32 → Um → Prop) (k_149 : Int32 → Int32 → Um → Prop) (ho0 : oc o0 = 0)  (hC : px_C X Y.1 (pm_A hh sz) cX1_fillAll RX1 7) (hM : px_M l X Y.1 hh sz yX1_fillAll cX1_fillAll 7 (some (.int)) 4 0 0) (hR : X.2.2.2.1 = pm_rm 4 0 0) (hk_149 : ∀ (y2 : Int32) (y3 : Int32) (U : Um) (h : pe_H), k_149 y2 y3 U → rF Y h0 U h → pw X Y.1 (pm_A hh sz) (pm_E X Y.1 hh sz 0 0 (pm_P Y h0 sz (pq_i post))) 149 [some (.ref (Y.2.1 o0)), some (.int x1), some (.int y2), some (.int y3), none, none, none] [] h sz 0 0) : ∀ (n_ : Nat) (x2 : Int32) (x3 : Int32) (x4 : Int32) (x5 : Int32) (U : Um) (h : pe_H), rF Y h0 U h → w_X1_fillAll_L15 o0 x1 post k_149 n_ x2 x3 x4 x5 U → pw X Y.1 (pm_A hh sz) (pm_E X Y.1 hh sz 0 0 (pm_P Y h0 sz (pq_i post))) 15 [some (.ref (Y.2.1 o0)), some (.int x1), some (.int x2), some (.int x3), some (.int x4), some (.int x5), none] [] h sz 0 0 := by
  intro n_
  induction n_ with
  | zero => intro x2 x3 x4 x5 U h hU H; exact False.elim H
  | succ n_ ih =>
    intro x2 x3 x4 x5 U h hU H
    replace H : b_X1_fillAll_L15 o0 x1 post k_149 (w_X1_fillAll_L15 o0 x1 post k_149 n_) x2 x3 x4 x5 U := H
    unfold b_X1_fillAll_L15 at H
    refine pr_iload hC (by decide +kernel : decode cX1_fillAll 15 = .ok (.iload 5, 2)) rfl ?_
    refine pr_ldc hC (1000000) (by decide +kernel : decode cX1_fillAll 17 = .ok (.ldc 112, 2)) fk_X1_112 ?_
    refine pr_icmp_ge hC 149 (by decide +kernel : decode cX1_fillAll 19 = .ok (.if_icmp .ge 130, 3)) (by decide) (fun c_19 => ?_) (fun c_19 => ?_)
    · replace H := H.1 c_19
      exact pv_sub [some (.ref (Y.2.1 o0)), some (.int x1), some (.int x2), some (.int x3), none, none, none] (And.intro rfl (And.intro rfl (And.intro rfl (And.intro rfl trivial)))) (hk_149 _ _ U h H hU)
    replace H := H.2 c_19
    refine pr_iload_n hC (by decide +kernel : decode cX1_fillAll 22 = .ok (.iload_n 3, 1)) rfl ?_
    refine pr_if_lt hC 149 (by decide +kernel : decode cX1_fillAll 23 = .ok (.ifCond .lt 126, 3)) (by decide) (fun c_23 => ?_) (fun c_23 => ?_)
    · replace H := H.1 c_23
      exact pv_sub [some (.ref (Y.2.1 o0)), some (.int x1), some (.int x2), some (.int x3), none, none, none] (And.intro rfl (And.intro rfl (And.intro rfl (And.intro rfl trivial)))) (hk_149 _ _ U h H hU)
    replace H := H.2 c_23
    refine pr_iload_n hC (by decide +kernel : decode cX1_fillAll 26 = .ok (.iload_n 3, 1)) rfl ?_
    refine pr_iload_n hC (by decide +kernel : decode cX1_fillAll 27 = .ok (.iload_n 1, 1)) rfl ?_
    refine pr_icmp_ge hC 149 (by decide +kernel : decode cX1_fillAll 28 = .ok (.if_icmp .ge 121, 3)) (by decide) (fun c_28 => ?_) (fun c_28 => ?_)
    · replace H := H.1 c_28
      exact pv_sub [some (.ref (Y.2.1 o0)), some (.int x1), some (.int x2), some (.int x3), none, none, none] (And.intro rfl (And.intro rfl (And.intro rfl (And.intro rfl trivial)))) (hk_149 _ _ U h H hU)
    replace H := H.2 c_28
    refine pr_iload_n hC (by decide +kernel : decode cX1_fillAll 31 = .ok (.iload_n 2, 1)) rfl ?_
    refine pr_sipush hC (20000) (by decide +kernel : decode cX1_fillAll 32 = .ok (.sipush 20000, 3)) rfl ?_
    refine pr_icmp_gt hC 149 (by decide +kernel : decode cX1_fillAll 35 = .ok (.if_icmp .gt 114, 3)) (by decide) (fun c_35 => ?_) (fun c_35 => ?_)
    · replace H := H.1 c_35
      exact pv_sub [some (.ref (Y.2.1 o0)), some (.int x1), some (.int x2), some (.int x3), none, none, none] (And.intro rfl (And.intro rfl (And.intro rfl (And.intro rfl trivial)))) (hk_149 _ _ U h H hU)
    replace H := H.2 c_35
    refine pr_aload_n hC (by decide +kernel : decode cX1_fillAll 38 = .ok (.aload_n 0, 1)) rfl ?_
    refine pr_aload_n hC (by decide +kernel : decode cX1_fillAll 39 = .ok (.aload_n 0, 1)) rfl ?_
    refine pu_g1 hC fg_X1_15 (by decide +kernel : decode cX1_fillAll 40 = .ok (.getfield 15, 3)) hU ho0 (by decide) rfl (by decide) ?_
    refine pr_iload_n hC (by decide +kernel : decode cX1_fillAll 43 = .ok (.iload_n 3, 1)) rfl ?_
    refine pu_iald hC (by decide +kernel : decode cX1_fillAll 44 = .ok (.iaload, 1)) hU ho0 rfl H.1 ?_
    replace H := H.2
    refine pr_iload hC (by decide +kernel : decode cX1_fillAll 45 = .ok (.iload 4, 2)) rfl ?_
    refine vc_Vi hC hR [.int (uA U o0 1 (Int32.toNatClampNeg x3)), .int x4] fv_X1_113 (by decide +kernel : decode cX1_fillAll 47 = .ok (.invokevirtual 113, 3)) hU (t_X1_firstFor ho0 H) ho0 (by decide) rfl rfl rfl (Nat.le_of_ble_eq_true rfl) (Nat.le_of_ble_eq_true rfl) (Nat.le_refl 0) (Nat.le_refl 0) (fun r_4 U_3 h H hU => ?_)
    refine pr_istore hC (by decide +kernel : decode cX1_fillAll 50 = .ok (.istore 6, 2)) (by decide) rfl ?_
    refine pr_iload hC (by decide +kernel : decode cX1_fillAll 52 = .ok (.iload 6, 2)) rfl ?_
    refine pr_iconst hC (-1) (by decide +kernel : decode cX1_fillAll 54 = .ok (.iconst (-1), 1)) rfl ?_
    refine pr_icmp_eq hC 103 (by decide +kernel : decode cX1_fillAll 55 = .ok (.if_icmp .eq 48, 3)) (by decide) (fun c_55 => ?_) (fun c_55 => ?_)
    · replace H := H.1 c_55
      refine pv_iinc hC (v := x3 + (-1)) (by decide +kernel : decode cX1_fillAll 103 = .ok (.iinc 3 (-1), 3)) rfl (by decide) rfl rfl (fun x3_5 e_x3_5 => ?_)
      replace H := H x3_5 e_x3_5
      refine pr_iload_n hC (by decide +kernel : decode cX1_fillAll 106 = .ok (.iload_n 3, 1)) rfl ?_
      refine pr_if_lt hC 143 (by decide +kernel : decode cX1_fillAll 107 = .ok (.ifCond .lt 36, 3)) (by decide) (fun c_107 => ?_) (fun c_107 => ?_)
      · replace H := H.1 c_107
        refine pv_iinc hC (v := x5 + 1) (by decide +kernel : decode cX1_fillAll 143 = .ok (.iinc 5 1, 3)) rfl (by decide) rfl rfl (fun x5_6 e_x5_6 => ?_)
        replace H := H x5_6 e_x5_6
        refine pr_goto hC 15 (by decide +kernel : decode cX1_fillAll 146 = .ok (.goto (-131), 3)) (by decide) ?_
        exact pv_sub [some (.ref (Y.2.1 o0)), some (.int x1), some (.int x2), some (.int x3_5), some (.int x4), some (.int x5_6), none] (And.intro rfl (And.intro rfl (And.intro rfl (And.intro rfl (And.intro rfl (And.intro rfl trivial)))))) (ih _ _ _ _ U_3 h hU H)
      replace H := H.2 c_107
      refine pr_aload_n hC (by decide +kernel : decode cX1_fillAll 110 = .ok (.aload_n 0, 1)) rfl ?_
      refine pu_g21 hC fg_X1_9 (by decide +kernel : decode cX1_fillAll 111 = .ok (.getfield 9, 3)) hU ho0 (by decide) rfl rfl ?_
      have q_7 := H.1
      replace H := H.2
      refine pr_aload_n hC (by decide +kernel : decode cX1_fillAll 114 = .ok (.aload_n 0, 1)) rfl ?_
      refine pu_g1 hC fg_X1_15 (by decide +kernel : decode cX1_fillAll 115 = .ok (.getfield 15, 3)) hU ho0 (by decide) rfl (by decide) ?_
      refine pr_iload_n hC (by decide +kernel : decode cX1_fillAll 118 = .ok (.iload_n 3, 1)) rfl ?_
      refine pu_iald hC (by decide +kernel : decode cX1_fillAll 119 = .ok (.iaload, 1)) hU ho0 rfl H.1 ?_
      replace H := H.2
      refine pr_iconst hC (3) (by decide +kernel : decode cX1_fillAll 120 = .ok (.iconst 3, 1)) rfl ?_
      refine pr_idiv hC (by decide +kernel : decode cX1_fillAll 121 = .ok (.idiv, 1)) (by decide) ?_
      refine pr_aload_n hC (by decide +kernel : decode cX1_fillAll 122 = .ok (.aload_n 0, 1)) rfl ?_
      refine pu_g1 hC fg_X1_15 (by decide +kernel : decode cX1_fillAll 123 = .ok (.getfield 15, 3)) hU ho0 (by decide) rfl (by decide) ?_
      refine pr_iload_n hC (by decide +kernel : decode cX1_fillAll 126 = .ok (.iload_n 3, 1)) rfl ?_
      refine pu_iald hC (by decide +kernel : decode cX1_fillAll 127 = .ok (.iaload, 1)) hU ho0 rfl H.1 ?_
      replace H := H.2
      refine pr_iconst hC (3) (by decide +kernel : decode cX1_fillAll 128 = .ok (.iconst 3, 1)) rfl ?_
      refine pr_irem hC (by decide +kernel : decode cX1_fillAll 129 = .ok (.irem, 1)) (by decide) ?_
      refine vc_Vv hC hR [.int ((uA U_3 o0 1 (Int32.toNatClampNeg x3_5)) / 3), .int ((uA U_3 o0 1 (Int32.toNatClampNeg x3_5)) - (uA U_3 o0 1 (Int32.toNatClampNeg x3_5)) / 3 * 3)] fv_X1_99 (by decide +kernel : decode cX1_fillAll 130 = .ok (.invokevirtual 99, 3)) hU (t_X6_rise q_7 H) q_7 (by decide) rfl rfl rfl (Nat.le_of_ble_eq_true rfl) (Nat.le_of_ble_eq_true rfl) (Nat.le_refl 0) (Nat.le_refl 0) (fun U_8 h H hU => ?_)
      refine pr_aload_n hC (by decide +kernel : decode cX1_fillAll 133 = .ok (.aload_n 0, 1)) rfl ?_
      refine pu_g1 hC fg_X1_19 (by decide +kernel : decode cX1_fillAll 134 = .ok (.getfield 19, 3)) hU ho0 (by decide) rfl (by decide) ?_
      refine pr_iload_n hC (by decide +kernel : decode cX1_fillAll 137 = .ok (.iload_n 3, 1)) rfl ?_
      refine pu_iald hC (by decide +kernel : decode cX1_fillAll 138 = .ok (.iaload, 1)) hU ho0 rfl H.1 ?_
      replace H := H.2
      refine pr_iconst hC (1) (by decide +kernel : decode cX1_fillAll 139 = .ok (.iconst 1, 1)) rfl ?_
      refine pr_iadd hC (by decide +kernel : decode cX1_fillAll 140 = .ok (.iadd, 1)) ?_
      refine pv_topi (fun x4_10 e_x4_10 => ?_)
      replace H := H x4_10 e_x4_10
      refine pr_istore hC (by decide +kernel : decode cX1_fillAll 141 = .ok (.istore 4, 2)) (by decide) rfl ?_
      refine pv_iinc hC (v := x5 + 1) (by decide +kernel : decode cX1_fillAll 143 = .ok (.iinc 5 1, 3)) rfl (by decide) rfl rfl (fun x5_11 e_x5_11 => ?_)
      replace H := H x5_11 e_x5_11
      refine pr_goto hC 15 (by decide +kernel : decode cX1_fillAll 146 = .ok (.goto (-131), 3)) (by decide) ?_
      exact pv_sub [some (.ref (Y.2.1 o0)), some (.int x1), some (.int x2), some (.int x3_5), some (.int x4_10), some (.int x5_11), none] (And.intro rfl (And.intro rfl (And.intro rfl (And.intro rfl (And.intro rfl (And.intro rfl trivial)))))) (ih _ _ _ _ U_8 h hU H)
    replace H := H.2 c_55
    refine pr_aload_n hC (by decide +kernel : decode cX1_fillAll 58 = .ok (.aload_n 0, 1)) rfl ?_
    refine pu_g21 hC fg_X1_9 (by decide +kernel : decode cX1_fillAll 59 = .ok (.getfield 9, 3)) hU ho0 (by decide) rfl rfl ?_
    have q_12 := H.1
    replace H := H.2
    refine pr_aload_n hC (by decide +kernel : decode cX1_fillAll 62 = .ok (.aload_n 0, 1)) rfl ?_
    refine pu_g1 hC fg_X1_15 (by decide +kernel : decode cX1_fillAll 63 = .ok (.getfield 15, 3)) hU ho0 (by decide) rfl (by decide) ?_
    refine pr_iload_n hC (by decide +kernel : decode cX1_fillAll 66 = .ok (.iload_n 3, 1)) rfl ?_
    refine pu_iald hC (by decide +kernel : decode cX1_fillAll 67 = .ok (.iaload, 1)) hU ho0 rfl H.1 ?_
    replace H := H.2
    refine pr_iconst hC (3) (by decide +kernel : decode cX1_fillAll 68 = .ok (.iconst 3, 1)) rfl ?_
    refine pr_idiv hC (by decide +kernel : decode cX1_fillAll 69 = .ok (.idiv, 1)) (by decide) ?_
    refine pr_aload_n hC (by decide +kernel : decode cX1_fillAll 70 = .ok (.aload_n 0, 1)) rfl ?_
    refine pu_g1 hC fg_X1_15 (by decide +kernel : decode cX1_fillAll 71 = .ok (.getfield 15, 3)) hU ho0 (by decide) rfl (by decide) ?_
    refine pr_iload_n hC (by decide +kernel : decode cX1_fillAll 74 = .ok (.iload_n 3, 1)) rfl ?_
    refine pu_iald hC (by decide +kernel : decode cX1_fillAll 75 = .ok (.iaload, 1)) hU ho0 rfl H.1 ?_
    replace H := H.2
    refine pr_iconst hC (3) (by decide +kernel : decode cX1_fillAll 76 = .ok (.iconst 3, 1)) rfl ?_
    refine pr_irem hC (by decide +kernel : decode cX1_fillAll 77 = .ok (.irem, 1)) (by decide) ?_
    refine pr_iload hC (by decide +kernel : decode cX1_fillAll 78 = .ok (.iload 6, 2)) rfl ?_
    refine vc_Vv hC hR [.int ((uA U_3 o0 1 (Int32.toNatClampNeg x3)) / 3), .int ((uA U_3 o0 1 (Int32.toNatClampNeg x3)) - (uA U_3 o0 1 (Int32.toNatClampNeg x3)) / 3 * 3), .int r_4] fv_X1_96 (by decide +kernel : decode cX1_fillAll 80 = .ok (.invokevirtual 96, 3)) hU (t_X6_sit q_12 H) q_12 (by decide) rfl rfl rfl (Nat.le_of_ble_eq_true rfl) (Nat.le_of_ble_eq_true rfl) (Nat.le_refl 0) (Nat.le_refl 0) (fun U_13 h H hU => ?_)
    refine pr_aload_n hC (by decide +kernel : decode cX1_fillAll 83 = .ok (.aload_n 0, 1)) rfl ?_
    refine pu_g1 hC fg_X1_19 (by decide +kernel : decode cX1_fillAll 84 = .ok (.getfield 19, 3)) hU ho0 (by decide) rfl (by decide) ?_
    refine pr_iload_n hC (by decide +kernel : decode cX1_fillAll 87 = .ok (.iload_n 3, 1)) rfl ?_
    refine pr_iload hC (by decide +kernel : decode cX1_fillAll 88 = .ok (.iload 6, 2)) rfl ?_
    refine pv_iast hC (by decide +kernel : decode cX1_fillAll 90 = .ok (.iastore, 1)) hU ho0 rfl H.1 (fun U_15 h e_U_15 hU => ?_)
    replace H := H.2 U_15 e_U_15
    refine pv_iinc hC (v := x2 + 1) (by decide +kernel : decode cX1_fillAll 91 = .ok (.iinc 2 1, 3)) rfl (by decide) rfl rfl (fun x2_16 e_x2_16 => ?_)
    replace H := H x2_16 e_x2_16
    refine pv_iinc hC (v := x3 + 1) (by decide +kernel : decode cX1_fillAll 94 = .ok (.iinc 3 1, 3)) rfl (by decide) rfl rfl (fun x3_17 e_x3_17 => ?_)
    replace H := H x3_17 e_x3_17
    refine pr_iconst hC (0) (by decide +kernel : decode cX1_fillAll 97 = .ok (.iconst 0, 1)) rfl ?_
    refine pr_istore hC (by decide +kernel : decode cX1_fillAll 98 = .ok (.istore 4, 2)) (by decide) rfl ?_
    refine pr_goto hC 143 (by decide +kernel : decode cX1_fillAll 100 = .ok (.goto 43, 3)) (by decide) ?_
    refine pv_iinc hC (v := x5 + 1) (by decide +kernel : decode cX1_fillAll 143 = .ok (.iinc 5 1, 3)) rfl (by decide) rfl rfl (fun x5_18 e_x5_18 => ?_)
    replace H := H x5_18 e_x5_18
    refine pr_goto hC 15 (by decide +kernel : decode cX1_fillAll 146 = .ok (.goto (-131), 3)) (by decide) ?_
    exact pv_sub [some (.ref (Y.2.1 o0)), some (.int x1), some (.int x2_16), some (.int x3_17), some (.int 0), some (.int x5_18), none] (And.intro rfl (And.intro rfl (And.intro rfl (And.intro rfl (And.intro rfl (And.intro rfl trivial)))))) (ih _ _ _ _ U_15 h hU H)
set_option maxHeartbeats 4000000 in
theorem t_X1_fillAll {l : Launch} {Y : px_Y} {o : Nat} {U : Um} {post : Int32 → Um → Prop} (ho : oc o = 0) (H : w_X1_fillAll o U post) : um l Y 4 yX1_fillAll cX1_fillAll 7 (some (.int)) [.ref (Y.2.1 o)] U (pq_i post) := by
  unfold w_X1_fillAll at H
  refine um_of (by decide) (Nat.le_of_ble_eq_true rfl) [some (.ref (Y.2.1 o)), none, none, none, none, none, none] rfl (fun X h0 hh sz hM hU => ?_)
  have hC := hM.1
  have hR := hM.2.2.1
  refine pr_aload_n hC (by decide +kernel : decode cX1_fillAll 0 = .ok (.aload_n 0, 1)) rfl ?_
  refine vc_Vi hC hR [] fv_X1_109 (by decide +kernel : decode cX1_fillAll 1 = .ok (.invokevirtual 109, 3)) hU (t_X1_listOpen ho H) ho (by decide) rfl rfl rfl (Nat.le_of_ble_eq_true rfl) (Nat.le_of_ble_eq_true rfl) (Nat.le_refl 0) (Nat.le_refl 0) (fun r_2 U_1 h H hU => ?_)
  refine pr_istore_n hC (by decide +kernel : decode cX1_fillAll 4 = .ok (.istore_n 1, 1)) (by decide) rfl ?_
  refine pr_iconst hC (0) (by decide +kernel : decode cX1_fillAll 5 = .ok (.iconst 0, 1)) rfl ?_
  refine pr_istore_n hC (by decide +kernel : decode cX1_fillAll 6 = .ok (.istore_n 2, 1)) (by decide) rfl ?_
  refine pr_iconst hC (0) (by decide +kernel : decode cX1_fillAll 7 = .ok (.iconst 0, 1)) rfl ?_
  refine pr_istore_n hC (by decide +kernel : decode cX1_fillAll 8 = .ok (.istore_n 3, 1)) (by decide) rfl ?_
  refine pr_iconst hC (0) (by decide +kernel : decode cX1_fillAll 9 = .ok (.iconst 0, 1)) rfl ?_
  refine pr_istore hC (by decide +kernel : decode cX1_fillAll 10 = .ok (.istore 4, 2)) (by decide) rfl ?_
  refine pr_iconst hC (0) (by decide +kernel : decode cX1_fillAll 12 = .ok (.iconst 0, 1)) rfl ?_
  refine pr_istore hC (by decide +kernel : decode cX1_fillAll 13 = .ok (.istore 5, 2)) (by decide) rfl ?_
  obtain ⟨n_24, H⟩ := H
  refine pv_sub [some (.ref (Y.2.1 o)), some (.int r_2), some (.int 0), some (.int 0), some (.int 0), some (.int 0), none] (And.intro rfl (And.intro rfl (And.intro rfl (And.intro rfl (And.intro rfl (And.intro rfl trivial)))))) ?_
  refine tl_X1_fillAll_L15 _ _ _ _ ho hC hM hR (fun x2_19 x3_20 U_21 h H hU => ?_) n_24 _ _ _ _ U_1 h hU H
  refine pr_iload_n hC (by decide +kernel : decode cX1_fillAll 149 = .ok (.iload_n 2, 1)) rfl ?_
  refine pr_sipush hC (20000) (by decide +kernel : decode cX1_fillAll 150 = .ok (.sipush 20000, 3)) rfl ?_
  refine pr_icmp_le hC 164 (by decide +kernel : decode cX1_fillAll 153 = .ok (.if_icmp .le 11, 3)) (by decide) (fun c_153 => ?_) (fun c_153 => ?_)
  · replace H := H.1 c_153
    refine pr_iload_n hC (by decide +kernel : decode cX1_fillAll 164 = .ok (.iload_n 3, 1)) rfl ?_
    refine pr_if_ge hC 172 (by decide +kernel : decode cX1_fillAll 165 = .ok (.ifCond .ge 7, 3)) (by decide) (fun c_165 => ?_) (fun c_165 => ?_)
    · replace H := H.1 c_165
      refine pr_iload_n hC (by decide +kernel : decode cX1_fillAll 172 = .ok (.iload_n 1, 1)) rfl ?_
      exact pv_iret hM (by decide +kernel : decode cX1_fillAll 173 = .ok (.ireturn, 1)) hU H
    replace H := H.2 c_165
    refine pr_iconst hC (-1) (by decide +kernel : decode cX1_fillAll 168 = .ok (.iconst (-1), 1)) rfl ?_
    refine pr_goto hC 173 (by decide +kernel : decode cX1_fillAll 169 = .ok (.goto 4, 3)) (by decide) ?_
    exact pv_iret hM (by decide +kernel : decode cX1_fillAll 173 = .ok (.ireturn, 1)) hU H
  replace H := H.2 c_153
  refine pr_aload_n hC (by decide +kernel : decode cX1_fillAll 156 = .ok (.aload_n 0, 1)) rfl ?_
  refine pr_iload_n hC (by decide +kernel : decode cX1_fillAll 157 = .ok (.iload_n 3, 1)) rfl ?_
  refine vc_Vv hC hR [.int x3_20] fv_X1_116 (by decide +kernel : decode cX1_fillAll 158 = .ok (.invokevirtual 116, 3)) hU (t_X1_emptyFirst ho H) ho (by decide) rfl rfl rfl (Nat.le_of_ble_eq_true rfl) (Nat.le_of_ble_eq_true rfl) (Nat.le_refl 0) (Nat.le_refl 0) (fun U_22 h H hU => ?_)
  refine pr_bipush hC (-2) (by decide +kernel : decode cX1_fillAll 161 = .ok (.bipush (-2), 2)) rfl ?_
  exact pv_iret hM (by decide +kernel : decode cX1_fillAll 163 = .ok (.ireturn, 1)) hU H
def w_X1_note (o : Nat) (a1 : Int32) (a2 : Int32) (a3 : Int32) (a4 : Int32) (a5 : Int32) (U : Um) (post : Um → Prop) : Prop :=
  vp_in 0 5 ∧ ∀ (U_1 : Um), U_1 = sA U o 6 (va_up (uA U o 6) (Int32.toNatClampNeg 0) a1) → vp_in 1 5 ∧ ∀ (U_2 : Um), U_2 = sA U_1 o 6 (va_up (uA U_1 o 6) (Int32.toNatClampNeg 1) a2) → vp_in 2 5 ∧ ∀ (U_3 : Um), U_3 = sA U_2 o 6 (va_up (uA U_2 o 6) (Int32.toNatClampNeg 2) a3) → vp_in 3 5 ∧ ∀ (U_4 : Um), U_4 = sA U_3 o 6 (va_up (uA U_3 o 6) (Int32.toNatClampNeg 3) a4) → vp_in 4 5 ∧ ∀ (U_5 : Um), U_5 = sA U_4 o 6 (va_up (uA U_4 o 6) (Int32.toNatClampNeg 4) a5) → post U_5
set_option maxHeartbeats 4000000 in
theorem t_X1_note {l : Launch} {Y : px_Y} {o : Nat} {a1 : Int32} {a2 : Int32} {a3 : Int32} {a4 : Int32} {a5 : Int32} {U : Um} {post : Um → Prop} (ho : oc o = 0) (H : w_X1_note o a1 a2 a3 a4 a5 U post) : um l Y 0 yX1_note cX1_note 6 none [.ref (Y.2.1 o), .int a1, .int a2, .int a3, .int a4, .int a5] U (pq_v post) := by
  unfold w_X1_note at H
  refine um_of (by decide) (Nat.le_of_ble_eq_true rfl) [some (.ref (Y.2.1 o)), some (.int a1), some (.int a2), some (.int a3), some (.int a4), some (.int a5)] rfl (fun X h0 hh sz hM hU => ?_)
  have hC := hM.1
  have hR := hM.2.2.1
  refine pr_aload_n hC (by decide +kernel : decode cX1_note 0 = .ok (.aload_n 0, 1)) rfl ?_
  refine pu_g1 hC fg_X1_25 (by decide +kernel : decode cX1_note 1 = .ok (.getfield 25, 3)) hU ho (by decide) rfl (by decide) ?_
  refine pr_iconst hC (0) (by decide +kernel : decode cX1_note 4 = .ok (.iconst 0, 1)) rfl ?_
  refine pr_iload_n hC (by decide +kernel : decode cX1_note 5 = .ok (.iload_n 1, 1)) rfl ?_
  refine pv_iast hC (by decide +kernel : decode cX1_note 6 = .ok (.iastore, 1)) hU ho rfl H.1 (fun U_1 h e_U_1 hU => ?_)
  replace H := H.2 U_1 e_U_1
  refine pr_aload_n hC (by decide +kernel : decode cX1_note 7 = .ok (.aload_n 0, 1)) rfl ?_
  refine pu_g1 hC fg_X1_25 (by decide +kernel : decode cX1_note 8 = .ok (.getfield 25, 3)) hU ho (by decide) rfl (by decide) ?_
  refine pr_iconst hC (1) (by decide +kernel : decode cX1_note 11 = .ok (.iconst 1, 1)) rfl ?_
  refine pr_iload_n hC (by decide +kernel : decode cX1_note 12 = .ok (.iload_n 2, 1)) rfl ?_
  refine pv_iast hC (by decide +kernel : decode cX1_note 13 = .ok (.iastore, 1)) hU ho rfl H.1 (fun U_2 h e_U_2 hU => ?_)
  replace H := H.2 U_2 e_U_2
  refine pr_aload_n hC (by decide +kernel : decode cX1_note 14 = .ok (.aload_n 0, 1)) rfl ?_
  refine pu_g1 hC fg_X1_25 (by decide +kernel : decode cX1_note 15 = .ok (.getfield 25, 3)) hU ho (by decide) rfl (by decide) ?_
  refine pr_iconst hC (2) (by decide +kernel : decode cX1_note 18 = .ok (.iconst 2, 1)) rfl ?_
  refine pr_iload_n hC (by decide +kernel : decode cX1_note 19 = .ok (.iload_n 3, 1)) rfl ?_
  refine pv_iast hC (by decide +kernel : decode cX1_note 20 = .ok (.iastore, 1)) hU ho rfl H.1 (fun U_3 h e_U_3 hU => ?_)
  replace H := H.2 U_3 e_U_3
  refine pr_aload_n hC (by decide +kernel : decode cX1_note 21 = .ok (.aload_n 0, 1)) rfl ?_
  refine pu_g1 hC fg_X1_25 (by decide +kernel : decode cX1_note 22 = .ok (.getfield 25, 3)) hU ho (by decide) rfl (by decide) ?_
  refine pr_iconst hC (3) (by decide +kernel : decode cX1_note 25 = .ok (.iconst 3, 1)) rfl ?_
  refine pr_iload hC (by decide +kernel : decode cX1_note 26 = .ok (.iload 4, 2)) rfl ?_
  refine pv_iast hC (by decide +kernel : decode cX1_note 28 = .ok (.iastore, 1)) hU ho rfl H.1 (fun U_4 h e_U_4 hU => ?_)
  replace H := H.2 U_4 e_U_4
  refine pr_aload_n hC (by decide +kernel : decode cX1_note 29 = .ok (.aload_n 0, 1)) rfl ?_
  refine pu_g1 hC fg_X1_25 (by decide +kernel : decode cX1_note 30 = .ok (.getfield 25, 3)) hU ho (by decide) rfl (by decide) ?_
  refine pr_iconst hC (4) (by decide +kernel : decode cX1_note 33 = .ok (.iconst 4, 1)) rfl ?_
  refine pr_iload hC (by decide +kernel : decode cX1_note 34 = .ok (.iload 5, 2)) rfl ?_
  refine pv_iast hC (by decide +kernel : decode cX1_note 36 = .ok (.iastore, 1)) hU ho rfl H.1 (fun U_5 h e_U_5 hU => ?_)
  replace H := H.2 U_5 e_U_5
  exact pv_vret hM (by decide +kernel : decode cX1_note 37 = .ok (.return_, 1)) hU H
def b_X1_otherFor_L3 (o0 : Nat) (x1 : Int32) (x2 : Int32) (x3 : Int32) (x4 : Int32) (post : Int32 → Um → Prop) (k_61 : Um → Prop) (rec_ : Int32 → Um → Prop) (x5 : Int32) (U : Um) : Prop :=
  oc (uR U o0 0) = 5 ∧ w_X6_officials (uR U o0 0) U (fun r_3 U_2 => (r_3 ≤ x5 → k_61 U_2) ∧ (¬ r_3 ≤ x5 → (x5 = x3 → ∀ (x5_4 : Int32), x5_4 = x5 + 1 → rec_ x5_4 U_2) ∧ (¬ x5 = x3 → (x5 = x4 → ∀ (x5_5 : Int32), x5_5 = x5 + 1 → rec_ x5_5 U_2) ∧ (¬ x5 = x4 → oc (uR U_2 o0 0) = 5 ∧ oc (uR U_2 o0 0) = 5 ∧ vp_in x5 10 ∧ w_X6_hindrance (uR U_2 o0 0) x1 x2 x5 (uA U_2 (uR U_2 o0 0) 7 (Int32.toNatClampNeg x5)) U_2 (fun r_9 U_8 => (r_9 = 0 → post x5 U_8) ∧ (¬ r_9 = 0 → ∀ (x5_10 : Int32), x5_10 = x5 + 1 → rec_ x5_10 U_8))))))
def w_X1_otherFor_L3 (o0 : Nat) (x1 : Int32) (x2 : Int32) (x3 : Int32) (x4 : Int32) (post : Int32 → Um → Prop) (k_61 : Um → Prop) (n_ : Nat) : Int32 → Um → Prop := Nat.rec (motive := fun _ => Int32 → Um → Prop) (fun _ _ => False) (fun _ ih => b_X1_otherFor_L3 o0 x1 x2 x3 x4 post k_61 ih) n_
def w_X1_otherFor (o : Nat) (a1 : Int32) (a2 : Int32) (a3 : Int32) (a4 : Int32) (U : Um) (post : Int32 → Um → Prop) : Prop :=
  (∃ n_12, w_X1_otherFor_L3 o a1 a2 a3 a4 post (fun U_11 => post (-1) U_11) n_12 0 U)
set_option maxHeartbeats 4000000 in
theorem tl_X1_otherFor_L3 {l : Launch} {Y : px_Y} {X : px_X} {h0 hh : pe_H} {sz : Nat} (o0 : Nat) (x1 : Int32) (x2 : Int32) (x3 : Int32) (x4 : Int32) (post : Int32 → Um → Prop) (k_61 : Um → Prop) (ho0 : oc o0 = 0)  (hC : px_C X Y.1 (pm_A hh sz) cX1_otherFor RX1 6) (hM : px_M l X Y.1 hh sz yX1_otherFor cX1_otherFor 6 (some (.int)) 2 0 0) (hR : X.2.2.2.1 = pm_rm 2 0 0) (hk_61 : ∀ (U : Um) (h : pe_H), k_61 U → rF Y h0 U h → pw X Y.1 (pm_A hh sz) (pm_E X Y.1 hh sz 0 0 (pm_P Y h0 sz (pq_i post))) 61 [none, none, none, none, none, none] [] h sz 0 0) : ∀ (n_ : Nat) (x5 : Int32) (U : Um) (h : pe_H), rF Y h0 U h → w_X1_otherFor_L3 o0 x1 x2 x3 x4 post k_61 n_ x5 U → pw X Y.1 (pm_A hh sz) (pm_E X Y.1 hh sz 0 0 (pm_P Y h0 sz (pq_i post))) 3 [some (.ref (Y.2.1 o0)), some (.int x1), some (.int x2), some (.int x3), some (.int x4), some (.int x5)] [] h sz 0 0 := by
  intro n_
  induction n_ with
  | zero => intro x5 U h hU H; exact False.elim H
  | succ n_ ih =>
    intro x5 U h hU H
    replace H : b_X1_otherFor_L3 o0 x1 x2 x3 x4 post k_61 (w_X1_otherFor_L3 o0 x1 x2 x3 x4 post k_61 n_) x5 U := H
    unfold b_X1_otherFor_L3 at H
    refine pr_iload hC (by decide +kernel : decode cX1_otherFor 3 = .ok (.iload 5, 2)) rfl ?_
    refine pr_aload_n hC (by decide +kernel : decode cX1_otherFor 5 = .ok (.aload_n 0, 1)) rfl ?_
    refine pu_g21 hC fg_X1_9 (by decide +kernel : decode cX1_otherFor 6 = .ok (.getfield 9, 3)) hU ho0 (by decide) rfl rfl ?_
    have q_1 := H.1
    replace H := H.2
    refine vc_Vi hC hR [] fv_X1_28 (by decide +kernel : decode cX1_otherFor 9 = .ok (.invokevirtual 28, 3)) hU (t_X6_officials q_1 H) q_1 (by decide) rfl rfl rfl (Nat.le_of_ble_eq_true rfl) (Nat.le_of_ble_eq_true rfl) (Nat.le_refl 0) (Nat.le_refl 0) (fun r_3 U_2 h H hU => ?_)
    refine pr_icmp_ge hC 61 (by decide +kernel : decode cX1_otherFor 12 = .ok (.if_icmp .ge 49, 3)) (by decide) (fun c_12 => ?_) (fun c_12 => ?_)
    · replace H := H.1 c_12
      exact pv_sub [none, none, none, none, none, none] (trivial) (hk_61 U_2 h H hU)
    replace H := H.2 c_12
    refine pr_iload hC (by decide +kernel : decode cX1_otherFor 15 = .ok (.iload 5, 2)) rfl ?_
    refine pr_iload_n hC (by decide +kernel : decode cX1_otherFor 17 = .ok (.iload_n 3, 1)) rfl ?_
    refine pr_icmp_eq hC 55 (by decide +kernel : decode cX1_otherFor 18 = .ok (.if_icmp .eq 37, 3)) (by decide) (fun c_18 => ?_) (fun c_18 => ?_)
    · replace H := H.1 c_18
      refine pv_iinc hC (v := x5 + 1) (by decide +kernel : decode cX1_otherFor 55 = .ok (.iinc 5 1, 3)) rfl (by decide) rfl rfl (fun x5_4 e_x5_4 => ?_)
      replace H := H x5_4 e_x5_4
      refine pr_goto hC 3 (by decide +kernel : decode cX1_otherFor 58 = .ok (.goto (-55), 3)) (by decide) ?_
      exact pv_sub [some (.ref (Y.2.1 o0)), some (.int x1), some (.int x2), some (.int x3), some (.int x4), some (.int x5_4)] (And.intro rfl (And.intro rfl (And.intro rfl (And.intro rfl (And.intro rfl (And.intro rfl trivial)))))) (ih _ U_2 h hU H)
    replace H := H.2 c_18
    refine pr_iload hC (by decide +kernel : decode cX1_otherFor 21 = .ok (.iload 5, 2)) rfl ?_
    refine pr_iload hC (by decide +kernel : decode cX1_otherFor 23 = .ok (.iload 4, 2)) rfl ?_
    refine pr_icmp_eq hC 55 (by decide +kernel : decode cX1_otherFor 25 = .ok (.if_icmp .eq 30, 3)) (by decide) (fun c_25 => ?_) (fun c_25 => ?_)
    · replace H := H.1 c_25
      refine pv_iinc hC (v := x5 + 1) (by decide +kernel : decode cX1_otherFor 55 = .ok (.iinc 5 1, 3)) rfl (by decide) rfl rfl (fun x5_5 e_x5_5 => ?_)
      replace H := H x5_5 e_x5_5
      refine pr_goto hC 3 (by decide +kernel : decode cX1_otherFor 58 = .ok (.goto (-55), 3)) (by decide) ?_
      exact pv_sub [some (.ref (Y.2.1 o0)), some (.int x1), some (.int x2), some (.int x3), some (.int x4), some (.int x5_5)] (And.intro rfl (And.intro rfl (And.intro rfl (And.intro rfl (And.intro rfl (And.intro rfl trivial)))))) (ih _ U_2 h hU H)
    replace H := H.2 c_25
    refine pr_aload_n hC (by decide +kernel : decode cX1_otherFor 28 = .ok (.aload_n 0, 1)) rfl ?_
    refine pu_g21 hC fg_X1_9 (by decide +kernel : decode cX1_otherFor 29 = .ok (.getfield 9, 3)) hU ho0 (by decide) rfl rfl ?_
    have q_6 := H.1
    replace H := H.2
    refine pr_iload_n hC (by decide +kernel : decode cX1_otherFor 32 = .ok (.iload_n 1, 1)) rfl ?_
    refine pr_iload_n hC (by decide +kernel : decode cX1_otherFor 33 = .ok (.iload_n 2, 1)) rfl ?_
    refine pr_iload hC (by decide +kernel : decode cX1_otherFor 34 = .ok (.iload 5, 2)) rfl ?_
    refine pr_aload_n hC (by decide +kernel : decode cX1_otherFor 36 = .ok (.aload_n 0, 1)) rfl ?_
    refine pu_g21 hC fg_X1_9 (by decide +kernel : decode cX1_otherFor 37 = .ok (.getfield 9, 3)) hU ho0 (by decide) rfl rfl ?_
    have q_7 := H.1
    replace H := H.2
    refine pu_g1 hC fg_X1_132 (by decide +kernel : decode cX1_otherFor 40 = .ok (.getfield 132, 3)) hU q_7 (by decide) rfl (by decide) ?_
    refine pr_iload hC (by decide +kernel : decode cX1_otherFor 43 = .ok (.iload 5, 2)) rfl ?_
    refine pu_iald hC (by decide +kernel : decode cX1_otherFor 45 = .ok (.iaload, 1)) hU q_7 rfl H.1 ?_
    replace H := H.2
    refine vc_Vi hC hR [.int x1, .int x2, .int x5, .int (uA U_2 (uR U_2 o0 0) 7 (Int32.toNatClampNeg x5))] fv_X1_135 (by decide +kernel : decode cX1_otherFor 46 = .ok (.invokevirtual 135, 3)) hU (t_X6_hindrance q_6 H) q_6 (by decide) rfl rfl rfl (Nat.le_of_ble_eq_true rfl) (Nat.le_of_ble_eq_true rfl) (Nat.le_refl 0) (Nat.le_refl 0) (fun r_9 U_8 h H hU => ?_)
    refine pr_if_ne hC 55 (by decide +kernel : decode cX1_otherFor 49 = .ok (.ifCond .ne 6, 3)) (by decide) (fun c_49 => ?_) (fun c_49 => ?_)
    · replace H := H.2 c_49
      refine pv_iinc hC (v := x5 + 1) (by decide +kernel : decode cX1_otherFor 55 = .ok (.iinc 5 1, 3)) rfl (by decide) rfl rfl (fun x5_10 e_x5_10 => ?_)
      replace H := H x5_10 e_x5_10
      refine pr_goto hC 3 (by decide +kernel : decode cX1_otherFor 58 = .ok (.goto (-55), 3)) (by decide) ?_
      exact pv_sub [some (.ref (Y.2.1 o0)), some (.int x1), some (.int x2), some (.int x3), some (.int x4), some (.int x5_10)] (And.intro rfl (And.intro rfl (And.intro rfl (And.intro rfl (And.intro rfl (And.intro rfl trivial)))))) (ih _ U_8 h hU H)
    replace H := H.1 c_49
    refine pr_iload hC (by decide +kernel : decode cX1_otherFor 52 = .ok (.iload 5, 2)) rfl ?_
    exact pv_iret hM (by decide +kernel : decode cX1_otherFor 54 = .ok (.ireturn, 1)) hU H
set_option maxHeartbeats 4000000 in
theorem t_X1_otherFor {l : Launch} {Y : px_Y} {o : Nat} {a1 : Int32} {a2 : Int32} {a3 : Int32} {a4 : Int32} {U : Um} {post : Int32 → Um → Prop} (ho : oc o = 0) (H : w_X1_otherFor o a1 a2 a3 a4 U post) : um l Y 2 yX1_otherFor cX1_otherFor 6 (some (.int)) [.ref (Y.2.1 o), .int a1, .int a2, .int a3, .int a4] U (pq_i post) := by
  unfold w_X1_otherFor at H
  refine um_of (by decide) (Nat.le_of_ble_eq_true rfl) [some (.ref (Y.2.1 o)), some (.int a1), some (.int a2), some (.int a3), some (.int a4), none] rfl (fun X h0 hh sz hM hU => ?_)
  have hC := hM.1
  have hR := hM.2.2.1
  refine pr_iconst hC (0) (by decide +kernel : decode cX1_otherFor 0 = .ok (.iconst 0, 1)) rfl ?_
  refine pr_istore hC (by decide +kernel : decode cX1_otherFor 1 = .ok (.istore 5, 2)) (by decide) rfl ?_
  obtain ⟨n_12, H⟩ := H
  refine pv_sub [some (.ref (Y.2.1 o)), some (.int a1), some (.int a2), some (.int a3), some (.int a4), some (.int 0)] (And.intro rfl (And.intro rfl (And.intro rfl (And.intro rfl (And.intro rfl (And.intro rfl trivial)))))) ?_
  refine tl_X1_otherFor_L3 _ _ _ _ _ _ _ ho hC hM hR (fun U_11 h H hU => ?_) n_12 _ U hh hU H
  refine pr_iconst hC (-1) (by decide +kernel : decode cX1_otherFor 61 = .ok (.iconst (-1), 1)) rfl ?_
  exact pv_iret hM (by decide +kernel : decode cX1_otherFor 62 = .ok (.ireturn, 1)) hU H
def b_X1_seatIn_L19 (o0 : Nat) (x1 : Int32) (x2 : Int32) (x3 : Int32) (post : Int32 → Um → Prop) (k_51 : Int32 → Um → Prop) (rec_ : Int32 → Um → Prop) (x4 : Int32) (U : Um) : Prop :=
  ((x3 - 1) ≤ x4 → k_51 x4 U) ∧ (¬ (x3 - 1) ≤ x4 → oc (uR U o0 0) = 5 ∧ w_X9_placeOf x1 x4 U (fun r_8 U_7 => vp_in r_8 48 ∧ ((uA U_7 (uR U o0 0) 2 (Int32.toNatClampNeg r_8)) = x2 → k_51 x4 U_7) ∧ (¬ (uA U_7 (uR U o0 0) 2 (Int32.toNatClampNeg r_8)) = x2 → ∀ (x4_9 : Int32), x4_9 = x4 + 1 → rec_ x4_9 U_7)))
def w_X1_seatIn_L19 (o0 : Nat) (x1 : Int32) (x2 : Int32) (x3 : Int32) (post : Int32 → Um → Prop) (k_51 : Int32 → Um → Prop) (n_ : Nat) : Int32 → Um → Prop := Nat.rec (motive := fun _ => Int32 → Um → Prop) (fun _ _ => False) (fun _ ih => b_X1_seatIn_L19 o0 x1 x2 x3 post k_51 ih) n_
def w_X1_seatIn (o : Nat) (a1 : Int32) (a2 : Int32) (U : Um) (post : Int32 → Um → Prop) : Prop :=
  oc (uR U o 0) = 5 ∧ oc (uR U (uR U o 0) 0) = 8 ∧ vp_in a1 16 ∧ oc (uAR U (uR U (uR U o 0) 0) 6 (Int32.toNatClampNeg a1)) = 1 ∧ ∀ (x3_5 : Int32), x3_5 = uI U (uAR U (uR U (uR U o 0) 0) 6 (Int32.toNatClampNeg a1)) 7 → (∃ n_12, w_X1_seatIn_L19 o a1 a2 x3_5 post (fun x4_10 U_11 => post x4_10 U_11) n_12 0 U)
set_option maxHeartbeats 4000000 in
theorem tl_X1_seatIn_L19 {l : Launch} {Y : px_Y} {X : px_X} {h0 hh : pe_H} {sz : Nat} (o0 : Nat) (x1 : Int32) (x2 : Int32) (x3 : Int32) (post : Int32 → Um → Prop) (k_51 : Int32 → Um → Prop) (ho0 : oc o0 = 0)  (hC : px_C X Y.1 (pm_A hh sz) cX1_seatIn RX1 5) (hM : px_M l X Y.1 hh sz yX1_seatIn cX1_seatIn 5 (some (.int)) 1 0 0) (hR : X.2.2.2.1 = pm_rm 1 0 0) (hk_51 : ∀ (y4 : Int32) (U : Um) (h : pe_H), k_51 y4 U → rF Y h0 U h → pw X Y.1 (pm_A hh sz) (pm_E X Y.1 hh sz 0 0 (pm_P Y h0 sz (pq_i post))) 51 [none, none, none, none, some (.int y4)] [] h sz 0 0) : ∀ (n_ : Nat) (x4 : Int32) (U : Um) (h : pe_H), rF Y h0 U h → w_X1_seatIn_L19 o0 x1 x2 x3 post k_51 n_ x4 U → pw X Y.1 (pm_A hh sz) (pm_E X Y.1 hh sz 0 0 (pm_P Y h0 sz (pq_i post))) 19 [some (.ref (Y.2.1 o0)), some (.int x1), some (.int x2), some (.int x3), some (.int x4)] [] h sz 0 0 := by
  intro n_
  induction n_ with
  | zero => intro x4 U h hU H; exact False.elim H
  | succ n_ ih =>
    intro x4 U h hU H
    replace H : b_X1_seatIn_L19 o0 x1 x2 x3 post k_51 (w_X1_seatIn_L19 o0 x1 x2 x3 post k_51 n_) x4 U := H
    unfold b_X1_seatIn_L19 at H
    refine pr_iload hC (by decide +kernel : decode cX1_seatIn 19 = .ok (.iload 4, 2)) rfl ?_
    refine pr_iload_n hC (by decide +kernel : decode cX1_seatIn 21 = .ok (.iload_n 3, 1)) rfl ?_
    refine pr_iconst hC (1) (by decide +kernel : decode cX1_seatIn 22 = .ok (.iconst 1, 1)) rfl ?_
    refine pr_isub hC (by decide +kernel : decode cX1_seatIn 23 = .ok (.isub, 1)) ?_
    refine pr_icmp_ge hC 51 (by decide +kernel : decode cX1_seatIn 24 = .ok (.if_icmp .ge 27, 3)) (by decide) (fun c_24 => ?_) (fun c_24 => ?_)
    · replace H := H.1 c_24
      exact pv_sub [none, none, none, none, some (.int x4)] (And.intro rfl trivial) (hk_51 _ U h H hU)
    replace H := H.2 c_24
    refine pr_aload_n hC (by decide +kernel : decode cX1_seatIn 27 = .ok (.aload_n 0, 1)) rfl ?_
    refine pu_g21 hC fg_X1_9 (by decide +kernel : decode cX1_seatIn 28 = .ok (.getfield 9, 3)) hU ho0 (by decide) rfl rfl ?_
    have q_6 := H.1
    replace H := H.2
    refine pu_g1 hC fg_X1_80 (by decide +kernel : decode cX1_seatIn 31 = .ok (.getfield 80, 3)) hU q_6 (by decide) rfl (by decide) ?_
    refine pr_iload_n hC (by decide +kernel : decode cX1_seatIn 34 = .ok (.iload_n 1, 1)) rfl ?_
    refine pr_iload hC (by decide +kernel : decode cX1_seatIn 35 = .ok (.iload 4, 2)) rfl ?_
    refine vc_Si hC hR [.int x1, .int x4] fv_X1_83 (by decide +kernel : decode cX1_seatIn 37 = .ok (.invokestatic 83, 3)) hU (t_X9_placeOf  H) rfl rfl (Nat.le_of_ble_eq_true rfl) (Nat.le_of_ble_eq_true rfl) (Nat.le_refl 0) (Nat.le_refl 0) (fun r_8 U_7 h H hU => ?_)
    refine pu_iald hC (by decide +kernel : decode cX1_seatIn 40 = .ok (.iaload, 1)) hU q_6 rfl H.1 ?_
    replace H := H.2
    refine pr_iload_n hC (by decide +kernel : decode cX1_seatIn 41 = .ok (.iload_n 2, 1)) rfl ?_
    refine pr_icmp_eq hC 51 (by decide +kernel : decode cX1_seatIn 42 = .ok (.if_icmp .eq 9, 3)) (by decide) (fun c_42 => ?_) (fun c_42 => ?_)
    · replace H := H.1 c_42
      exact pv_sub [none, none, none, none, some (.int x4)] (And.intro rfl trivial) (hk_51 _ U_7 h H hU)
    replace H := H.2 c_42
    refine pv_iinc hC (v := x4 + 1) (by decide +kernel : decode cX1_seatIn 45 = .ok (.iinc 4 1, 3)) rfl (by decide) rfl rfl (fun x4_9 e_x4_9 => ?_)
    replace H := H x4_9 e_x4_9
    refine pr_goto hC 19 (by decide +kernel : decode cX1_seatIn 48 = .ok (.goto (-29), 3)) (by decide) ?_
    exact pv_sub [some (.ref (Y.2.1 o0)), some (.int x1), some (.int x2), some (.int x3), some (.int x4_9)] (And.intro rfl (And.intro rfl (And.intro rfl (And.intro rfl (And.intro rfl trivial))))) (ih _ U_7 h hU H)
set_option maxHeartbeats 4000000 in
theorem t_X1_seatIn {l : Launch} {Y : px_Y} {o : Nat} {a1 : Int32} {a2 : Int32} {U : Um} {post : Int32 → Um → Prop} (ho : oc o = 0) (H : w_X1_seatIn o a1 a2 U post) : um l Y 1 yX1_seatIn cX1_seatIn 5 (some (.int)) [.ref (Y.2.1 o), .int a1, .int a2] U (pq_i post) := by
  unfold w_X1_seatIn at H
  refine um_of (by decide) (Nat.le_of_ble_eq_true rfl) [some (.ref (Y.2.1 o)), some (.int a1), some (.int a2), none, none] rfl (fun X h0 hh sz hM hU => ?_)
  have hC := hM.1
  have hR := hM.2.2.1
  refine pr_aload_n hC (by decide +kernel : decode cX1_seatIn 0 = .ok (.aload_n 0, 1)) rfl ?_
  refine pu_g21 hC fg_X1_9 (by decide +kernel : decode cX1_seatIn 1 = .ok (.getfield 9, 3)) hU ho (by decide) rfl rfl ?_
  have q_1 := H.1
  replace H := H.2
  refine pu_g21 hC fg_X1_65 (by decide +kernel : decode cX1_seatIn 4 = .ok (.getfield 65, 3)) hU q_1 (by decide) rfl rfl ?_
  have q_2 := H.1
  replace H := H.2
  refine pu_g1 hC fg_X1_69 (by decide +kernel : decode cX1_seatIn 7 = .ok (.getfield 69, 3)) hU q_2 (by decide) rfl (by decide) ?_
  refine pr_iload_n hC (by decide +kernel : decode cX1_seatIn 10 = .ok (.iload_n 1, 1)) rfl ?_
  have q_3 := H.1
  replace H := H.2
  refine pu_aald8 hC (by decide +kernel : decode cX1_seatIn 11 = .ok (.aaload, 1)) hU q_2 rfl q_3 ?_
  have q_4 := H.1
  replace H := H.2
  refine pu_g0 hC fg_X1_75 (by decide +kernel : decode cX1_seatIn 12 = .ok (.getfield 75, 3)) hU q_4 (by decide) rfl rfl ?_
  refine pv_topi (fun x3_5 e_x3_5 => ?_)
  replace H := H x3_5 e_x3_5
  refine pr_istore_n hC (by decide +kernel : decode cX1_seatIn 15 = .ok (.istore_n 3, 1)) (by decide) rfl ?_
  refine pr_iconst hC (0) (by decide +kernel : decode cX1_seatIn 16 = .ok (.iconst 0, 1)) rfl ?_
  refine pr_istore hC (by decide +kernel : decode cX1_seatIn 17 = .ok (.istore 4, 2)) (by decide) rfl ?_
  obtain ⟨n_12, H⟩ := H
  refine pv_sub [some (.ref (Y.2.1 o)), some (.int a1), some (.int a2), some (.int x3_5), some (.int 0)] (And.intro rfl (And.intro rfl (And.intro rfl (And.intro rfl (And.intro rfl trivial))))) ?_
  refine tl_X1_seatIn_L19 _ _ _ _ _ _ ho hC hM hR (fun x4_10 U_11 h H hU => ?_) n_12 _ U hh hU H
  refine pr_iload hC (by decide +kernel : decode cX1_seatIn 51 = .ok (.iload 4, 2)) rfl ?_
  exact pv_iret hM (by decide +kernel : decode cX1_seatIn 53 = .ok (.ireturn, 1)) hU H
def b_X1_followUp_L3 (o0 : Nat) (x1 : Int32) (x2 : Int32) (x3 : Int32) (x4 : Int32) (post : Um → Prop) (k_126 : Int32 → Int32 → Int32 → Um → Prop) (rec_ : Int32 → Um → Prop) (x5 : Int32) (U : Um) : Prop :=
  oc (uR U o0 0) = 5 ∧ oc (uR U (uR U o0 0) 0) = 8 ∧ ((uI U (uR U (uR U o0 0) 0) 7) ≤ x5 → post U) ∧ (¬ (uI U (uR U (uR U o0 0) 0) 7) ≤ x5 → (∀ K_3 : Int32 → Um → Prop, (∀ (xs_4 : Int32) (U_5 : Um), ((xs_4 = 0 → ∀ (x5_6 : Int32), x5_6 = x5 + 1 → rec_ x5_6 U_5) ∧ (¬ xs_4 = 0 → oc (uR U_5 o0 0) = 5 ∧ oc (uR U_5 o0 0) = 5 ∧ vp_in x4 10 ∧ w_X6_hindrance (uR U_5 o0 0) x1 x2 x4 ((uA U_5 (uR U_5 o0 0) 7 (Int32.toNatClampNeg x4)) &&& (((1 : Int32) <<< (x5 &&& 31)) ^^^ (-1))) U_5 (fun r_10 U_9 => (r_10 = 0 → w_X1_seatIn o0 x5 x4 U_9 (fun r_12 U_11 => w_X1_otherFor o0 x5 r_12 x3 x4 U_11 (fun r_14 U_13 => (r_14 = (-1) → ∀ (x5_15 : Int32), x5_15 = x5 + 1 → rec_ x5_15 U_13) ∧ (¬ r_14 = (-1) → k_126 x5 r_12 r_14 U_13)))) ∧ (¬ r_10 = 0 → ∀ (x5_16 : Int32), x5_16 = x5 + 1 → rec_ x5_16 U_9)))) → K_3 xs_4 U_5) → (x5 = x1 → K_3 0 U) ∧ (¬ x5 = x1 → oc (uR U o0 0) = 5 ∧ w_X6_isPlayed (uR U o0 0) x5 U (fun r_19 U_18 => (r_19 = 0 → oc (uR U_18 o0 0) = 5 ∧ vp_in x4 10 ∧ ((((uA U_18 (uR U_18 o0 0) 7 (Int32.toNatClampNeg x4)) >>> (x5 &&& 31)) &&& 1) = 0 → K_3 0 U_18) ∧ (¬ (((uA U_18 (uR U_18 o0 0) 7 (Int32.toNatClampNeg x4)) >>> (x5 &&& 31)) &&& 1) = 0 → K_3 1 U_18)) ∧ (¬ r_19 = 0 → K_3 0 U_18)))))
def w_X1_followUp_L3 (o0 : Nat) (x1 : Int32) (x2 : Int32) (x3 : Int32) (x4 : Int32) (post : Um → Prop) (k_126 : Int32 → Int32 → Int32 → Um → Prop) (n_ : Nat) : Int32 → Um → Prop := Nat.rec (motive := fun _ => Int32 → Um → Prop) (fun _ _ => False) (fun _ ih => b_X1_followUp_L3 o0 x1 x2 x3 x4 post k_126 ih) n_
def w_X1_followUp (o : Nat) (a1 : Int32) (a2 : Int32) (a3 : Int32) (a4 : Int32) (U : Um) (post : Um → Prop) : Prop :=
  (∃ n_27, w_X1_followUp_L3 o a1 a2 a3 a4 post (fun x5_21 x7_22 x8_23 U_24 => w_X1_note o 2 a4 x5_21 x7_22 x8_23 U_24 (fun U_25 => post U_25)) n_27 0 U)
set_option maxHeartbeats 4000000 in
theorem tl_X1_followUp_L3 {l : Launch} {Y : px_Y} {X : px_X} {h0 hh : pe_H} {sz : Nat} (o0 : Nat) (x1 : Int32) (x2 : Int32) (x3 : Int32) (x4 : Int32) (post : Um → Prop) (k_126 : Int32 → Int32 → Int32 → Um → Prop) (ho0 : oc o0 = 0)  (hC : px_C X Y.1 (pm_A hh sz) cX1_followUp RX1 9) (hM : px_M l X Y.1 hh sz yX1_followUp cX1_followUp 9 none 3 0 0) (hR : X.2.2.2.1 = pm_rm 3 0 0) (hk_126 : ∀ (y5 : Int32) (y7 : Int32) (y8 : Int32) (U : Um) (h : pe_H), k_126 y5 y7 y8 U → rF Y h0 U h → pw X Y.1 (pm_A hh sz) (pm_E X Y.1 hh sz 0 0 (pm_P Y h0 sz (pq_v post))) 126 [some (.ref (Y.2.1 o0)), none, none, none, some (.int x4), some (.int y5), none, some (.int y7), some (.int y8)] [] h sz 0 0) : ∀ (n_ : Nat) (x5 : Int32) (U : Um) (h : pe_H), rF Y h0 U h → w_X1_followUp_L3 o0 x1 x2 x3 x4 post k_126 n_ x5 U → pw X Y.1 (pm_A hh sz) (pm_E X Y.1 hh sz 0 0 (pm_P Y h0 sz (pq_v post))) 3 [some (.ref (Y.2.1 o0)), some (.int x1), some (.int x2), some (.int x3), some (.int x4), some (.int x5), none, none, none] [] h sz 0 0 := by
  intro n_
  induction n_ with
  | zero => intro x5 U h hU H; exact False.elim H
  | succ n_ ih =>
    intro x5 U h hU H
    replace H : b_X1_followUp_L3 o0 x1 x2 x3 x4 post k_126 (w_X1_followUp_L3 o0 x1 x2 x3 x4 post k_126 n_) x5 U := H
    unfold b_X1_followUp_L3 at H
    refine pr_iload hC (by decide +kernel : decode cX1_followUp 3 = .ok (.iload 5, 2)) rfl ?_
    refine pr_aload_n hC (by decide +kernel : decode cX1_followUp 5 = .ok (.aload_n 0, 1)) rfl ?_
    refine pu_g21 hC fg_X1_9 (by decide +kernel : decode cX1_followUp 6 = .ok (.getfield 9, 3)) hU ho0 (by decide) rfl rfl ?_
    have q_1 := H.1
    replace H := H.2
    refine pu_g21 hC fg_X1_65 (by decide +kernel : decode cX1_followUp 9 = .ok (.getfield 65, 3)) hU q_1 (by decide) rfl rfl ?_
    have q_2 := H.1
    replace H := H.2
    refine pu_g0 hC fg_X1_103 (by decide +kernel : decode cX1_followUp 12 = .ok (.getfield 103, 3)) hU q_2 (by decide) rfl rfl ?_
    refine pr_icmp_ge hC 146 (by decide +kernel : decode cX1_followUp 15 = .ok (.if_icmp .ge 131, 3)) (by decide) (fun c_15 => ?_) (fun c_15 => ?_)
    · replace H := H.1 c_15
      exact pv_vret hM (by decide +kernel : decode cX1_followUp 146 = .ok (.return_, 1)) hU H
    replace H := H.2 c_15
    refine pr_iload hC (by decide +kernel : decode cX1_followUp 18 = .ok (.iload 5, 2)) rfl ?_
    refine pr_iload_n hC (by decide +kernel : decode cX1_followUp 20 = .ok (.iload_n 1, 1)) rfl ?_
    replace H := H (fun xs_4 U_5 => ∀ h : pe_H, rF Y h0 U_5 h → pw X Y.1 (pm_A hh sz) (pm_E X Y.1 hh sz 0 0 (pm_P Y h0 sz (pq_v post))) 59 [some (.ref (Y.2.1 o0)), some (.int x1), some (.int x2), some (.int x3), some (.int x4), some (.int x5), none, none, none] [.int xs_4] h sz 0 0) (by
      intro xs_4 U_5 H h hU
      refine pr_istore hC (by decide +kernel : decode cX1_followUp 59 = .ok (.istore 6, 2)) (by decide) rfl ?_
      refine pr_iload hC (by decide +kernel : decode cX1_followUp 61 = .ok (.iload 6, 2)) rfl ?_
      refine pr_if_eq hC 140 (by decide +kernel : decode cX1_followUp 63 = .ok (.ifCond .eq 77, 3)) (by decide) (fun c_63 => ?_) (fun c_63 => ?_)
      · replace H := H.1 c_63
        refine pv_iinc hC (v := x5 + 1) (by decide +kernel : decode cX1_followUp 140 = .ok (.iinc 5 1, 3)) rfl (by decide) rfl rfl (fun x5_6 e_x5_6 => ?_)
        replace H := H x5_6 e_x5_6
        refine pr_goto hC 3 (by decide +kernel : decode cX1_followUp 143 = .ok (.goto (-140), 3)) (by decide) ?_
        exact pv_sub [some (.ref (Y.2.1 o0)), some (.int x1), some (.int x2), some (.int x3), some (.int x4), some (.int x5_6), none, none, none] (And.intro rfl (And.intro rfl (And.intro rfl (And.intro rfl (And.intro rfl (And.intro rfl trivial)))))) (ih _ U_5 h hU H)
      replace H := H.2 c_63
      refine pr_aload_n hC (by decide +kernel : decode cX1_followUp 66 = .ok (.aload_n 0, 1)) rfl ?_
      refine pu_g21 hC fg_X1_9 (by decide +kernel : decode cX1_followUp 67 = .ok (.getfield 9, 3)) hU ho0 (by decide) rfl rfl ?_
      have q_7 := H.1
      replace H := H.2
      refine pr_iload_n hC (by decide +kernel : decode cX1_followUp 70 = .ok (.iload_n 1, 1)) rfl ?_
      refine pr_iload_n hC (by decide +kernel : decode cX1_followUp 71 = .ok (.iload_n 2, 1)) rfl ?_
      refine pr_iload hC (by decide +kernel : decode cX1_followUp 72 = .ok (.iload 4, 2)) rfl ?_
      refine pr_aload_n hC (by decide +kernel : decode cX1_followUp 74 = .ok (.aload_n 0, 1)) rfl ?_
      refine pu_g21 hC fg_X1_9 (by decide +kernel : decode cX1_followUp 75 = .ok (.getfield 9, 3)) hU ho0 (by decide) rfl rfl ?_
      have q_8 := H.1
      replace H := H.2
      refine pu_g1 hC fg_X1_132 (by decide +kernel : decode cX1_followUp 78 = .ok (.getfield 132, 3)) hU q_8 (by decide) rfl (by decide) ?_
      refine pr_iload hC (by decide +kernel : decode cX1_followUp 81 = .ok (.iload 4, 2)) rfl ?_
      refine pu_iald hC (by decide +kernel : decode cX1_followUp 83 = .ok (.iaload, 1)) hU q_8 rfl H.1 ?_
      replace H := H.2
      refine pr_iconst hC (1) (by decide +kernel : decode cX1_followUp 84 = .ok (.iconst 1, 1)) rfl ?_
      refine pr_iload hC (by decide +kernel : decode cX1_followUp 85 = .ok (.iload 5, 2)) rfl ?_
      refine pr_ishl hC (by decide +kernel : decode cX1_followUp 87 = .ok (.ishl, 1)) ?_
      refine pr_iconst hC (-1) (by decide +kernel : decode cX1_followUp 88 = .ok (.iconst (-1), 1)) rfl ?_
      refine pr_ixor hC (by decide +kernel : decode cX1_followUp 89 = .ok (.ixor, 1)) ?_
      refine pr_iand hC (by decide +kernel : decode cX1_followUp 90 = .ok (.iand, 1)) ?_
      refine vc_Vi hC hR [.int x1, .int x2, .int x4, .int ((uA U_5 (uR U_5 o0 0) 7 (Int32.toNatClampNeg x4)) &&& (((1 : Int32) <<< (x5 &&& 31)) ^^^ (-1)))] fv_X1_135 (by decide +kernel : decode cX1_followUp 91 = .ok (.invokevirtual 135, 3)) hU (t_X6_hindrance q_7 H) q_7 (by decide) rfl rfl rfl (Nat.le_of_ble_eq_true rfl) (Nat.le_of_ble_eq_true rfl) (Nat.le_refl 0) (Nat.le_refl 0) (fun r_10 U_9 h H hU => ?_)
      refine pr_if_ne hC 140 (by decide +kernel : decode cX1_followUp 94 = .ok (.ifCond .ne 46, 3)) (by decide) (fun c_94 => ?_) (fun c_94 => ?_)
      · replace H := H.2 c_94
        refine pv_iinc hC (v := x5 + 1) (by decide +kernel : decode cX1_followUp 140 = .ok (.iinc 5 1, 3)) rfl (by decide) rfl rfl (fun x5_16 e_x5_16 => ?_)
        replace H := H x5_16 e_x5_16
        refine pr_goto hC 3 (by decide +kernel : decode cX1_followUp 143 = .ok (.goto (-140), 3)) (by decide) ?_
        exact pv_sub [some (.ref (Y.2.1 o0)), some (.int x1), some (.int x2), some (.int x3), some (.int x4), some (.int x5_16), none, none, none] (And.intro rfl (And.intro rfl (And.intro rfl (And.intro rfl (And.intro rfl (And.intro rfl trivial)))))) (ih _ U_9 h hU H)
      replace H := H.1 c_94
      refine pr_aload_n hC (by decide +kernel : decode cX1_followUp 97 = .ok (.aload_n 0, 1)) rfl ?_
      refine pr_iload hC (by decide +kernel : decode cX1_followUp 98 = .ok (.iload 5, 2)) rfl ?_
      refine pr_iload hC (by decide +kernel : decode cX1_followUp 100 = .ok (.iload 4, 2)) rfl ?_
      refine vc_Vi hC hR [.int x5, .int x4] fv_X1_138 (by decide +kernel : decode cX1_followUp 102 = .ok (.invokevirtual 138, 3)) hU (t_X1_seatIn ho0 H) ho0 (by decide) rfl rfl rfl (Nat.le_of_ble_eq_true rfl) (Nat.le_of_ble_eq_true rfl) (Nat.le_refl 0) (Nat.le_refl 0) (fun r_12 U_11 h H hU => ?_)
      refine pr_istore hC (by decide +kernel : decode cX1_followUp 105 = .ok (.istore 7, 2)) (by decide) rfl ?_
      refine pr_aload_n hC (by decide +kernel : decode cX1_followUp 107 = .ok (.aload_n 0, 1)) rfl ?_
      refine pr_iload hC (by decide +kernel : decode cX1_followUp 108 = .ok (.iload 5, 2)) rfl ?_
      refine pr_iload hC (by decide +kernel : decode cX1_followUp 110 = .ok (.iload 7, 2)) rfl ?_
      refine pr_iload_n hC (by decide +kernel : decode cX1_followUp 112 = .ok (.iload_n 3, 1)) rfl ?_
      refine pr_iload hC (by decide +kernel : decode cX1_followUp 113 = .ok (.iload 4, 2)) rfl ?_
      refine vc_Vi hC hR [.int x5, .int r_12, .int x3, .int x4] fv_X1_124 (by decide +kernel : decode cX1_followUp 115 = .ok (.invokevirtual 124, 3)) hU (t_X1_otherFor ho0 H) ho0 (by decide) rfl rfl rfl (Nat.le_of_ble_eq_true rfl) (Nat.le_of_ble_eq_true rfl) (Nat.le_refl 0) (Nat.le_refl 0) (fun r_14 U_13 h H hU => ?_)
      refine pr_istore hC (by decide +kernel : decode cX1_followUp 118 = .ok (.istore 8, 2)) (by decide) rfl ?_
      refine pr_iload hC (by decide +kernel : decode cX1_followUp 120 = .ok (.iload 8, 2)) rfl ?_
      refine pr_iconst hC (-1) (by decide +kernel : decode cX1_followUp 122 = .ok (.iconst (-1), 1)) rfl ?_
      refine pr_icmp_eq hC 140 (by decide +kernel : decode cX1_followUp 123 = .ok (.if_icmp .eq 17, 3)) (by decide) (fun c_123 => ?_) (fun c_123 => ?_)
      · replace H := H.1 c_123
        refine pv_iinc hC (v := x5 + 1) (by decide +kernel : decode cX1_followUp 140 = .ok (.iinc 5 1, 3)) rfl (by decide) rfl rfl (fun x5_15 e_x5_15 => ?_)
        replace H := H x5_15 e_x5_15
        refine pr_goto hC 3 (by decide +kernel : decode cX1_followUp 143 = .ok (.goto (-140), 3)) (by decide) ?_
        exact pv_sub [some (.ref (Y.2.1 o0)), some (.int x1), some (.int x2), some (.int x3), some (.int x4), some (.int x5_15), none, none, none] (And.intro rfl (And.intro rfl (And.intro rfl (And.intro rfl (And.intro rfl (And.intro rfl trivial)))))) (ih _ U_13 h hU H)
      replace H := H.2 c_123
      exact pv_sub [some (.ref (Y.2.1 o0)), none, none, none, some (.int x4), some (.int x5), none, some (.int r_12), some (.int r_14)] (And.intro rfl (And.intro rfl (And.intro rfl (And.intro rfl (And.intro rfl trivial))))) (hk_126 _ _ _ U_13 h H hU))
    refine pr_icmp_eq hC 58 (by decide +kernel : decode cX1_followUp 21 = .ok (.if_icmp .eq 37, 3)) (by decide) (fun c_21 => ?_) (fun c_21 => ?_)
    · replace H := H.1 c_21
      refine pr_iconst hC (0) (by decide +kernel : decode cX1_followUp 58 = .ok (.iconst 0, 1)) rfl ?_
      exact pv_sub [some (.ref (Y.2.1 o0)), some (.int x1), some (.int x2), some (.int x3), some (.int x4), some (.int x5), none, none, none] (And.intro rfl (And.intro rfl (And.intro rfl (And.intro rfl (And.intro rfl (And.intro rfl trivial)))))) (H h hU)
    replace H := H.2 c_21
    refine pr_aload_n hC (by decide +kernel : decode cX1_followUp 24 = .ok (.aload_n 0, 1)) rfl ?_
    refine pu_g21 hC fg_X1_9 (by decide +kernel : decode cX1_followUp 25 = .ok (.getfield 9, 3)) hU ho0 (by decide) rfl rfl ?_
    have q_17 := H.1
    replace H := H.2
    refine pr_iload hC (by decide +kernel : decode cX1_followUp 28 = .ok (.iload 5, 2)) rfl ?_
    refine vc_Vi hC hR [.int x5] fv_X1_49 (by decide +kernel : decode cX1_followUp 30 = .ok (.invokevirtual 49, 3)) hU (t_X6_isPlayed q_17 H) q_17 (by decide) rfl rfl rfl (Nat.le_of_ble_eq_true rfl) (Nat.le_of_ble_eq_true rfl) (Nat.le_refl 0) (Nat.le_refl 0) (fun r_19 U_18 h H hU => ?_)
    refine pr_if_ne hC 58 (by decide +kernel : decode cX1_followUp 33 = .ok (.ifCond .ne 25, 3)) (by decide) (fun c_33 => ?_) (fun c_33 => ?_)
    · replace H := H.2 c_33
      refine pr_iconst hC (0) (by decide +kernel : decode cX1_followUp 58 = .ok (.iconst 0, 1)) rfl ?_
      exact pv_sub [some (.ref (Y.2.1 o0)), some (.int x1), some (.int x2), some (.int x3), some (.int x4), some (.int x5), none, none, none] (And.intro rfl (And.intro rfl (And.intro rfl (And.intro rfl (And.intro rfl (And.intro rfl trivial)))))) (H h hU)
    replace H := H.1 c_33
    refine pr_aload_n hC (by decide +kernel : decode cX1_followUp 36 = .ok (.aload_n 0, 1)) rfl ?_
    refine pu_g21 hC fg_X1_9 (by decide +kernel : decode cX1_followUp 37 = .ok (.getfield 9, 3)) hU ho0 (by decide) rfl rfl ?_
    have q_20 := H.1
    replace H := H.2
    refine pu_g1 hC fg_X1_132 (by decide +kernel : decode cX1_followUp 40 = .ok (.getfield 132, 3)) hU q_20 (by decide) rfl (by decide) ?_
    refine pr_iload hC (by decide +kernel : decode cX1_followUp 43 = .ok (.iload 4, 2)) rfl ?_
    refine pu_iald hC (by decide +kernel : decode cX1_followUp 45 = .ok (.iaload, 1)) hU q_20 rfl H.1 ?_
    replace H := H.2
    refine pr_iload hC (by decide +kernel : decode cX1_followUp 46 = .ok (.iload 5, 2)) rfl ?_
    refine pr_ishr hC (by decide +kernel : decode cX1_followUp 48 = .ok (.ishr, 1)) ?_
    refine pr_iconst hC (1) (by decide +kernel : decode cX1_followUp 49 = .ok (.iconst 1, 1)) rfl ?_
    refine pr_iand hC (by decide +kernel : decode cX1_followUp 50 = .ok (.iand, 1)) ?_
    refine pr_if_eq hC 58 (by decide +kernel : decode cX1_followUp 51 = .ok (.ifCond .eq 7, 3)) (by decide) (fun c_51 => ?_) (fun c_51 => ?_)
    · replace H := H.1 c_51
      refine pr_iconst hC (0) (by decide +kernel : decode cX1_followUp 58 = .ok (.iconst 0, 1)) rfl ?_
      exact pv_sub [some (.ref (Y.2.1 o0)), some (.int x1), some (.int x2), some (.int x3), some (.int x4), some (.int x5), none, none, none] (And.intro rfl (And.intro rfl (And.intro rfl (And.intro rfl (And.intro rfl (And.intro rfl trivial)))))) (H h hU)
    replace H := H.2 c_51
    refine pr_iconst hC (1) (by decide +kernel : decode cX1_followUp 54 = .ok (.iconst 1, 1)) rfl ?_
    refine pr_goto hC 59 (by decide +kernel : decode cX1_followUp 55 = .ok (.goto 4, 3)) (by decide) ?_
    exact pv_sub [some (.ref (Y.2.1 o0)), some (.int x1), some (.int x2), some (.int x3), some (.int x4), some (.int x5), none, none, none] (And.intro rfl (And.intro rfl (And.intro rfl (And.intro rfl (And.intro rfl (And.intro rfl trivial)))))) (H h hU)
set_option maxHeartbeats 4000000 in
theorem t_X1_followUp {l : Launch} {Y : px_Y} {o : Nat} {a1 : Int32} {a2 : Int32} {a3 : Int32} {a4 : Int32} {U : Um} {post : Um → Prop} (ho : oc o = 0) (H : w_X1_followUp o a1 a2 a3 a4 U post) : um l Y 3 yX1_followUp cX1_followUp 9 none [.ref (Y.2.1 o), .int a1, .int a2, .int a3, .int a4] U (pq_v post) := by
  unfold w_X1_followUp at H
  refine um_of (by decide) (Nat.le_of_ble_eq_true rfl) [some (.ref (Y.2.1 o)), some (.int a1), some (.int a2), some (.int a3), some (.int a4), none, none, none, none] rfl (fun X h0 hh sz hM hU => ?_)
  have hC := hM.1
  have hR := hM.2.2.1
  refine pr_iconst hC (0) (by decide +kernel : decode cX1_followUp 0 = .ok (.iconst 0, 1)) rfl ?_
  refine pr_istore hC (by decide +kernel : decode cX1_followUp 1 = .ok (.istore 5, 2)) (by decide) rfl ?_
  obtain ⟨n_27, H⟩ := H
  refine pv_sub [some (.ref (Y.2.1 o)), some (.int a1), some (.int a2), some (.int a3), some (.int a4), some (.int 0), none, none, none] (And.intro rfl (And.intro rfl (And.intro rfl (And.intro rfl (And.intro rfl (And.intro rfl trivial)))))) ?_
  refine tl_X1_followUp_L3 _ _ _ _ _ _ _ ho hC hM hR (fun x5_21 x7_22 x8_23 U_24 h H hU => ?_) n_27 _ U hh hU H
  refine pr_aload_n hC (by decide +kernel : decode cX1_followUp 126 = .ok (.aload_n 0, 1)) rfl ?_
  refine pr_iconst hC (2) (by decide +kernel : decode cX1_followUp 127 = .ok (.iconst 2, 1)) rfl ?_
  refine pr_iload hC (by decide +kernel : decode cX1_followUp 128 = .ok (.iload 4, 2)) rfl ?_
  refine pr_iload hC (by decide +kernel : decode cX1_followUp 130 = .ok (.iload 5, 2)) rfl ?_
  refine pr_iload hC (by decide +kernel : decode cX1_followUp 132 = .ok (.iload 7, 2)) rfl ?_
  refine pr_iload hC (by decide +kernel : decode cX1_followUp 134 = .ok (.iload 8, 2)) rfl ?_
  refine vc_Vv hC hR [.int 2, .int a4, .int x5_21, .int x7_22, .int x8_23] fv_X1_120 (by decide +kernel : decode cX1_followUp 136 = .ok (.invokevirtual 120, 3)) hU (t_X1_note ho H) ho (by decide) rfl rfl rfl (Nat.le_of_ble_eq_true rfl) (Nat.le_of_ble_eq_true rfl) (Nat.le_refl 0) (Nat.le_refl 0) (fun U_25 h H hU => ?_)
  exact pv_vret hM (by decide +kernel : decode cX1_followUp 139 = .ok (.return_, 1)) hU H
