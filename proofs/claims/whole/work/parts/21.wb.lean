def b_X1_findStep_L62 (o0 : Nat) (x1 : Int32) (x2 : Int32) (x3 : Int32) (x4 : Int32) (post : Int32 → Um → Prop) (k_107 : Um → Prop) (rec_ : Int32 → Um → Prop) (x6 : Int32) (U : Um) : Prop :=
  oc (uR U o0 0) = 5 ∧ w_X6_officials (uR U o0 0) U (fun r_13 U_12 => (r_13 ≤ x6 → k_107 U_12) ∧ (¬ r_13 ≤ x6 → vp_in 0 5 ∧ ((uA U_12 o0 6 (Int32.toNatClampNeg 0)) = (-1) → (x6 = x4 → ∀ (x6_14 : Int32), x6_14 = x6 + 1 → rec_ x6_14 U_12) ∧ (¬ x6 = x4 → w_X1_followUp o0 x1 x2 x4 x6 U_12 (fun U_15 => ∀ (x6_17 : Int32), x6_17 = x6 + 1 → rec_ x6_17 U_15))) ∧ (¬ (uA U_12 o0 6 (Int32.toNatClampNeg 0)) = (-1) → k_107 U_12)))
def w_X1_findStep_L62 (o0 : Nat) (x1 : Int32) (x2 : Int32) (x3 : Int32) (x4 : Int32) (post : Int32 → Um → Prop) (k_107 : Um → Prop) (n_ : Nat) : Int32 → Um → Prop := Nat.rec (motive := fun _ => Int32 → Um → Prop) (fun _ _ => False) (fun _ ih => b_X1_findStep_L62 o0 x1 x2 x3 x4 post k_107 ih) n_
def w_X1_findStep (o : Nat) (a1 : Int32) (a2 : Int32) (a3 : Int32) (U : Um) (post : Int32 → Um → Prop) : Prop :=
  oc (uR U o 0) = 5 ∧ w_X9_placeOf a1 a2 U (fun r_3 U_2 => vp_in r_3 48 ∧ ∀ (x4_4 : Int32), x4_4 = uA U_2 (uR U o 0) 2 (Int32.toNatClampNeg r_3) → w_X1_note o (-1) (-1) (-1) (-1) (-1) U_2 (fun U_5 => (x4_4 = (-1) → post (-1) U_5) ∧ (¬ x4_4 = (-1) → w_X1_otherFor o a1 a2 x4_4 (-1) U_5 (fun r_8 U_7 => (∀ K_9 : Um → Prop, (∀ (U_10 : Um), ((∃ n_19, w_X1_findStep_L62 o a1 a2 a3 x4_4 post (fun U_18 => vp_in a3 5 ∧ post (uA U_18 o 6 (Int32.toNatClampNeg a3)) U_18) n_19 0 U_10)) → K_9 U_10) → (r_8 = (-1) → K_9 U_7) ∧ (¬ r_8 = (-1) → w_X1_note o 1 r_8 (-1) (-1) (-1) U_7 (fun U_20 => K_9 U_20)))))))
set_option maxHeartbeats 4000000 in
theorem tl_X1_findStep_L62 {l : Launch} {Y : px_Y} {X : px_X} {h0 hh : pe_H} {sz : Nat} (o0 : Nat) (x1 : Int32) (x2 : Int32) (x3 : Int32) (x4 : Int32) (post : Int32 → Um → Prop) (k_107 : Um → Prop) (ho0 : oc o0 = 0)  (hC : px_C X Y.1 (pm_A hh sz) cX1_findStep RX1 7) (hM : px_M l X Y.1 hh sz yX1_findStep cX1_findStep 7 (some (.int)) 4 0 0) (hR : X.2.2.2.1 = pm_rm 4 0 0) (hk_107 : ∀ (U : Um) (h : pe_H), k_107 U → rF Y h0 U h → pw X Y.1 (pm_A hh sz) (pm_E X Y.1 hh sz 0 0 (pm_P Y h0 sz (pq_i post))) 107 [some (.ref (Y.2.1 o0)), none, none, some (.int x3), none, none, none] [] h sz 0 0) : ∀ (n_ : Nat) (x6 : Int32) (U : Um) (h : pe_H), rF Y h0 U h → w_X1_findStep_L62 o0 x1 x2 x3 x4 post k_107 n_ x6 U → pw X Y.1 (pm_A hh sz) (pm_E X Y.1 hh sz 0 0 (pm_P Y h0 sz (pq_i post))) 62 [some (.ref (Y.2.1 o0)), some (.int x1), some (.int x2), some (.int x3), some (.int x4), none, some (.int x6)] [] h sz 0 0 := by
  intro n_
  induction n_ with
  | zero => intro x6 U h hU H; exact False.elim H
  | succ n_ ih =>
    intro x6 U h hU H
    replace H : b_X1_findStep_L62 o0 x1 x2 x3 x4 post k_107 (w_X1_findStep_L62 o0 x1 x2 x3 x4 post k_107 n_) x6 U := H
    unfold b_X1_findStep_L62 at H
    refine pr_iload hC (by decide +kernel : decode cX1_findStep 62 = .ok (.iload 6, 2)) rfl ?_
    refine pr_aload_n hC (by decide +kernel : decode cX1_findStep 64 = .ok (.aload_n 0, 1)) rfl ?_
    refine pu_g21 hC fg_X1_9 (by decide +kernel : decode cX1_findStep 65 = .ok (.getfield 9, 3)) hU ho0 (by decide) rfl rfl ?_
    have q_11 := H.1
    replace H := H.2
    refine vc_Vi hC hR [] fv_X1_28 (by decide +kernel : decode cX1_findStep 68 = .ok (.invokevirtual 28, 3)) hU (t_X6_officials q_11 H) q_11 (by decide) rfl rfl rfl (Nat.le_of_ble_eq_true rfl) (Nat.le_of_ble_eq_true rfl) (Nat.le_refl 0) (Nat.le_refl 0) (fun r_13 U_12 h H hU => ?_)
    refine pr_icmp_ge hC 107 (by decide +kernel : decode cX1_findStep 71 = .ok (.if_icmp .ge 36, 3)) (by decide) (fun c_71 => ?_) (fun c_71 => ?_)
    · replace H := H.1 c_71
      exact pv_sub [some (.ref (Y.2.1 o0)), none, none, some (.int x3), none, none, none] (And.intro rfl (And.intro rfl trivial)) (hk_107 U_12 h H hU)
    replace H := H.2 c_71
    refine pr_aload_n hC (by decide +kernel : decode cX1_findStep 74 = .ok (.aload_n 0, 1)) rfl ?_
    refine pu_g1 hC fg_X1_25 (by decide +kernel : decode cX1_findStep 75 = .ok (.getfield 25, 3)) hU ho0 (by decide) rfl (by decide) ?_
    refine pr_iconst hC (0) (by decide +kernel : decode cX1_findStep 78 = .ok (.iconst 0, 1)) rfl ?_
    refine pu_iald hC (by decide +kernel : decode cX1_findStep 79 = .ok (.iaload, 1)) hU ho0 rfl H.1 ?_
    replace H := H.2
    refine pr_iconst hC (-1) (by decide +kernel : decode cX1_findStep 80 = .ok (.iconst (-1), 1)) rfl ?_
    refine pr_icmp_ne hC 107 (by decide +kernel : decode cX1_findStep 81 = .ok (.if_icmp .ne 26, 3)) (by decide) (fun c_81 => ?_) (fun c_81 => ?_)
    · replace H := H.2 c_81
      exact pv_sub [some (.ref (Y.2.1 o0)), none, none, some (.int x3), none, none, none] (And.intro rfl (And.intro rfl trivial)) (hk_107 U_12 h H hU)
    replace H := H.1 c_81
    refine pr_iload hC (by decide +kernel : decode cX1_findStep 84 = .ok (.iload 6, 2)) rfl ?_
    refine pr_iload hC (by decide +kernel : decode cX1_findStep 86 = .ok (.iload 4, 2)) rfl ?_
    refine pr_icmp_eq hC 101 (by decide +kernel : decode cX1_findStep 88 = .ok (.if_icmp .eq 13, 3)) (by decide) (fun c_88 => ?_) (fun c_88 => ?_)
    · replace H := H.1 c_88
      refine pv_iinc hC (v := x6 + 1) (by decide +kernel : decode cX1_findStep 101 = .ok (.iinc 6 1, 3)) rfl (by decide) rfl rfl (fun x6_14 e_x6_14 => ?_)
      replace H := H x6_14 e_x6_14
      refine pr_goto hC 62 (by decide +kernel : decode cX1_findStep 104 = .ok (.goto (-42), 3)) (by decide) ?_
      exact pv_sub [some (.ref (Y.2.1 o0)), some (.int x1), some (.int x2), some (.int x3), some (.int x4), none, some (.int x6_14)] (And.intro rfl (And.intro rfl (And.intro rfl (And.intro rfl (And.intro rfl (And.intro rfl trivial)))))) (ih _ U_12 h hU H)
    replace H := H.2 c_88
    refine pr_aload_n hC (by decide +kernel : decode cX1_findStep 91 = .ok (.aload_n 0, 1)) rfl ?_
    refine pr_iload_n hC (by decide +kernel : decode cX1_findStep 92 = .ok (.iload_n 1, 1)) rfl ?_
    refine pr_iload_n hC (by decide +kernel : decode cX1_findStep 93 = .ok (.iload_n 2, 1)) rfl ?_
    refine pr_iload hC (by decide +kernel : decode cX1_findStep 94 = .ok (.iload 4, 2)) rfl ?_
    refine pr_iload hC (by decide +kernel : decode cX1_findStep 96 = .ok (.iload 6, 2)) rfl ?_
    refine vc_Vv hC hR [.int x1, .int x2, .int x4, .int x6] fv_X1_128 (by decide +kernel : decode cX1_findStep 98 = .ok (.invokevirtual 128, 3)) hU (t_X1_followUp ho0 H) ho0 (by decide) rfl rfl rfl (Nat.le_of_ble_eq_true rfl) (Nat.le_of_ble_eq_true rfl) (Nat.le_refl 0) (Nat.le_refl 0) (fun U_15 h H hU => ?_)
    refine pv_iinc hC (v := x6 + 1) (by decide +kernel : decode cX1_findStep 101 = .ok (.iinc 6 1, 3)) rfl (by decide) rfl rfl (fun x6_17 e_x6_17 => ?_)
    replace H := H x6_17 e_x6_17
    refine pr_goto hC 62 (by decide +kernel : decode cX1_findStep 104 = .ok (.goto (-42), 3)) (by decide) ?_
    exact pv_sub [some (.ref (Y.2.1 o0)), some (.int x1), some (.int x2), some (.int x3), some (.int x4), none, some (.int x6_17)] (And.intro rfl (And.intro rfl (And.intro rfl (And.intro rfl (And.intro rfl (And.intro rfl trivial)))))) (ih _ U_15 h hU H)
set_option maxHeartbeats 4000000 in
theorem t_X1_findStep {l : Launch} {Y : px_Y} {o : Nat} {a1 : Int32} {a2 : Int32} {a3 : Int32} {U : Um} {post : Int32 → Um → Prop} (ho : oc o = 0) (H : w_X1_findStep o a1 a2 a3 U post) : um l Y 4 yX1_findStep cX1_findStep 7 (some (.int)) [.ref (Y.2.1 o), .int a1, .int a2, .int a3] U (pq_i post) := by
  unfold w_X1_findStep at H
  refine um_of (by decide) (Nat.le_of_ble_eq_true rfl) [some (.ref (Y.2.1 o)), some (.int a1), some (.int a2), some (.int a3), none, none, none] rfl (fun X h0 hh sz hM hU => ?_)
  have hC := hM.1
  have hR := hM.2.2.1
  refine pr_aload_n hC (by decide +kernel : decode cX1_findStep 0 = .ok (.aload_n 0, 1)) rfl ?_
  refine pu_g21 hC fg_X1_9 (by decide +kernel : decode cX1_findStep 1 = .ok (.getfield 9, 3)) hU ho (by decide) rfl rfl ?_
  have q_1 := H.1
  replace H := H.2
  refine pu_g1 hC fg_X1_80 (by decide +kernel : decode cX1_findStep 4 = .ok (.getfield 80, 3)) hU q_1 (by decide) rfl (by decide) ?_
  refine pr_iload_n hC (by decide +kernel : decode cX1_findStep 7 = .ok (.iload_n 1, 1)) rfl ?_
  refine pr_iload_n hC (by decide +kernel : decode cX1_findStep 8 = .ok (.iload_n 2, 1)) rfl ?_
  refine vc_Si hC hR [.int a1, .int a2] fv_X1_83 (by decide +kernel : decode cX1_findStep 9 = .ok (.invokestatic 83, 3)) hU (t_X9_placeOf  H) rfl rfl (Nat.le_of_ble_eq_true rfl) (Nat.le_of_ble_eq_true rfl) (Nat.le_refl 0) (Nat.le_refl 0) (fun r_3 U_2 h H hU => ?_)
  refine pu_iald hC (by decide +kernel : decode cX1_findStep 12 = .ok (.iaload, 1)) hU q_1 rfl H.1 ?_
  replace H := H.2
  refine pv_topi (fun x4_4 e_x4_4 => ?_)
  replace H := H x4_4 e_x4_4
  refine pr_istore hC (by decide +kernel : decode cX1_findStep 13 = .ok (.istore 4, 2)) (by decide) rfl ?_
  refine pr_aload_n hC (by decide +kernel : decode cX1_findStep 15 = .ok (.aload_n 0, 1)) rfl ?_
  refine pr_iconst hC (-1) (by decide +kernel : decode cX1_findStep 16 = .ok (.iconst (-1), 1)) rfl ?_
  refine pr_iconst hC (-1) (by decide +kernel : decode cX1_findStep 17 = .ok (.iconst (-1), 1)) rfl ?_
  refine pr_iconst hC (-1) (by decide +kernel : decode cX1_findStep 18 = .ok (.iconst (-1), 1)) rfl ?_
  refine pr_iconst hC (-1) (by decide +kernel : decode cX1_findStep 19 = .ok (.iconst (-1), 1)) rfl ?_
  refine pr_iconst hC (-1) (by decide +kernel : decode cX1_findStep 20 = .ok (.iconst (-1), 1)) rfl ?_
  refine vc_Vv hC hR [.int (-1), .int (-1), .int (-1), .int (-1), .int (-1)] fv_X1_120 (by decide +kernel : decode cX1_findStep 21 = .ok (.invokevirtual 120, 3)) hU (t_X1_note ho H) ho (by decide) rfl rfl rfl (Nat.le_of_ble_eq_true rfl) (Nat.le_of_ble_eq_true rfl) (Nat.le_refl 0) (Nat.le_refl 0) (fun U_5 h H hU => ?_)
  refine pr_iload hC (by decide +kernel : decode cX1_findStep 24 = .ok (.iload 4, 2)) rfl ?_
  refine pr_iconst hC (-1) (by decide +kernel : decode cX1_findStep 26 = .ok (.iconst (-1), 1)) rfl ?_
  refine pr_icmp_ne hC 32 (by decide +kernel : decode cX1_findStep 27 = .ok (.if_icmp .ne 5, 3)) (by decide) (fun c_27 => ?_) (fun c_27 => ?_)
  · replace H := H.2 c_27
    refine pr_aload_n hC (by decide +kernel : decode cX1_findStep 32 = .ok (.aload_n 0, 1)) rfl ?_
    refine pr_iload_n hC (by decide +kernel : decode cX1_findStep 33 = .ok (.iload_n 1, 1)) rfl ?_
    refine pr_iload_n hC (by decide +kernel : decode cX1_findStep 34 = .ok (.iload_n 2, 1)) rfl ?_
    refine pr_iload hC (by decide +kernel : decode cX1_findStep 35 = .ok (.iload 4, 2)) rfl ?_
    refine pr_iconst hC (-1) (by decide +kernel : decode cX1_findStep 37 = .ok (.iconst (-1), 1)) rfl ?_
    refine vc_Vi hC hR [.int a1, .int a2, .int x4_4, .int (-1)] fv_X1_124 (by decide +kernel : decode cX1_findStep 38 = .ok (.invokevirtual 124, 3)) hU (t_X1_otherFor ho H) ho (by decide) rfl rfl rfl (Nat.le_of_ble_eq_true rfl) (Nat.le_of_ble_eq_true rfl) (Nat.le_refl 0) (Nat.le_refl 0) (fun r_8 U_7 h H hU => ?_)
    refine pr_istore hC (by decide +kernel : decode cX1_findStep 41 = .ok (.istore 5, 2)) (by decide) rfl ?_
    refine pr_iload hC (by decide +kernel : decode cX1_findStep 43 = .ok (.iload 5, 2)) rfl ?_
    refine pr_iconst hC (-1) (by decide +kernel : decode cX1_findStep 45 = .ok (.iconst (-1), 1)) rfl ?_
    replace H := H (fun U_10 => ∀ h : pe_H, rF Y h0 U_10 h → pw X Y.1 (pm_A hh sz) (pm_E X Y.1 hh sz 0 0 (pm_P Y h0 sz (pq_i post))) 59 [some (.ref (Y.2.1 o)), some (.int a1), some (.int a2), some (.int a3), some (.int x4_4), none, none] [] h sz 0 0) (by
      intro U_10 H h hU
      refine pr_iconst hC (0) (by decide +kernel : decode cX1_findStep 59 = .ok (.iconst 0, 1)) rfl ?_
      refine pr_istore hC (by decide +kernel : decode cX1_findStep 60 = .ok (.istore 6, 2)) (by decide) rfl ?_
      obtain ⟨n_19, H⟩ := H
      refine pv_sub [some (.ref (Y.2.1 o)), some (.int a1), some (.int a2), some (.int a3), some (.int x4_4), none, some (.int 0)] (And.intro rfl (And.intro rfl (And.intro rfl (And.intro rfl (And.intro rfl (And.intro rfl trivial)))))) ?_
      refine tl_X1_findStep_L62 _ _ _ _ _ _ _ ho hC hM hR (fun U_18 h H hU => ?_) n_19 _ U_10 h hU H
      refine pr_aload_n hC (by decide +kernel : decode cX1_findStep 107 = .ok (.aload_n 0, 1)) rfl ?_
      refine pu_g1 hC fg_X1_25 (by decide +kernel : decode cX1_findStep 108 = .ok (.getfield 25, 3)) hU ho (by decide) rfl (by decide) ?_
      refine pr_iload_n hC (by decide +kernel : decode cX1_findStep 111 = .ok (.iload_n 3, 1)) rfl ?_
      refine pu_iald hC (by decide +kernel : decode cX1_findStep 112 = .ok (.iaload, 1)) hU ho rfl H.1 ?_
      replace H := H.2
      exact pv_iret hM (by decide +kernel : decode cX1_findStep 113 = .ok (.ireturn, 1)) hU H)
    refine pr_icmp_eq hC 59 (by decide +kernel : decode cX1_findStep 46 = .ok (.if_icmp .eq 13, 3)) (by decide) (fun c_46 => ?_) (fun c_46 => ?_)
    · replace H := H.1 c_46
      exact pv_sub [some (.ref (Y.2.1 o)), some (.int a1), some (.int a2), some (.int a3), some (.int x4_4), none, none] (And.intro rfl (And.intro rfl (And.intro rfl (And.intro rfl (And.intro rfl trivial))))) (H h hU)
    replace H := H.2 c_46
    refine pr_aload_n hC (by decide +kernel : decode cX1_findStep 49 = .ok (.aload_n 0, 1)) rfl ?_
    refine pr_iconst hC (1) (by decide +kernel : decode cX1_findStep 50 = .ok (.iconst 1, 1)) rfl ?_
    refine pr_iload hC (by decide +kernel : decode cX1_findStep 51 = .ok (.iload 5, 2)) rfl ?_
    refine pr_iconst hC (-1) (by decide +kernel : decode cX1_findStep 53 = .ok (.iconst (-1), 1)) rfl ?_
    refine pr_iconst hC (-1) (by decide +kernel : decode cX1_findStep 54 = .ok (.iconst (-1), 1)) rfl ?_
    refine pr_iconst hC (-1) (by decide +kernel : decode cX1_findStep 55 = .ok (.iconst (-1), 1)) rfl ?_
    refine vc_Vv hC hR [.int 1, .int r_8, .int (-1), .int (-1), .int (-1)] fv_X1_120 (by decide +kernel : decode cX1_findStep 56 = .ok (.invokevirtual 120, 3)) hU (t_X1_note ho H) ho (by decide) rfl rfl rfl (Nat.le_of_ble_eq_true rfl) (Nat.le_of_ble_eq_true rfl) (Nat.le_refl 0) (Nat.le_refl 0) (fun U_20 h H hU => ?_)
    exact pv_sub [some (.ref (Y.2.1 o)), some (.int a1), some (.int a2), some (.int a3), some (.int x4_4), none, none] (And.intro rfl (And.intro rfl (And.intro rfl (And.intro rfl (And.intro rfl trivial))))) (H h hU)
  replace H := H.1 c_27
  refine pr_iconst hC (-1) (by decide +kernel : decode cX1_findStep 30 = .ok (.iconst (-1), 1)) rfl ?_
  exact pv_iret hM (by decide +kernel : decode cX1_findStep 31 = .ok (.ireturn, 1)) hU H
def w_X6_exchangeable (o : Nat) (a1 : Int32) (a2 : Int32) (a3 : Int32) (a4 : Int32) (U : Um) (post : Int32 → Um → Prop) : Prop :=
  oc (uR U o 0) = 8 ∧ w_X9_isSeat (uR U o 0) a1 a2 U (fun r_3 U_2 => (r_3 = 0 → post (-1) U_2) ∧ (¬ r_3 = 0 → oc (uR U_2 o 0) = 8 ∧ w_X9_isSeat (uR U_2 o 0) a3 a4 U_2 (fun r_6 U_5 => (r_6 = 0 → post (-1) U_5) ∧ (¬ r_6 = 0 → w_X6_isPlayed o a1 U_5 (fun r_8 U_7 => (r_8 = 0 → w_X6_isPlayed o a3 U_7 (fun r_10 U_9 => (r_10 = 0 → w_X9_placeOf a1 a2 U_9 (fun r_12 U_11 => vp_in r_12 48 ∧ ∀ (x5_13 : Int32), x5_13 = uA U_11 o 2 (Int32.toNatClampNeg r_12) → w_X9_placeOf a3 a4 U_11 (fun r_15 U_14 => vp_in r_15 48 ∧ ∀ (x6_16 : Int32), x6_16 = uA U_14 o 2 (Int32.toNatClampNeg r_15) → (x5_13 = (-1) → post (-3) U_14) ∧ (¬ x5_13 = (-1) → (x6_16 = (-1) → post (-3) U_14) ∧ (¬ x6_16 = (-1) → (a1 = a3 → post (-4) U_14) ∧ (¬ a1 = a3 → (x5_13 = x6_16 → post (-4) U_14) ∧ (¬ x5_13 = x6_16 → vp_in x5_13 10 ∧ vp_in x6_16 10 ∧ ((uA U_14 o 4 (Int32.toNatClampNeg x5_13)) = (uA U_14 o 4 (Int32.toNatClampNeg x6_16)) → vp_in x5_13 10 ∧ w_X6_hindrance o a3 a4 x5_13 ((uA U_14 o 7 (Int32.toNatClampNeg x5_13)) &&& (((1 : Int32) <<< (a1 &&& 31)) ^^^ (-1))) U_14 (fun r_18 U_17 => (r_18 = 0 → vp_in x6_16 10 ∧ w_X6_hindrance o a1 a2 x6_16 ((uA U_17 o 7 (Int32.toNatClampNeg x6_16)) &&& (((1 : Int32) <<< (a3 &&& 31)) ^^^ (-1))) U_17 (fun r_20 U_19 => (r_20 = 0 → ((1 : Int32) = 0 → post (-6) U_19) ∧ (¬ (1 : Int32) = 0 → post 0 U_19)) ∧ (¬ r_20 = 0 → ((0 : Int32) = 0 → post (-6) U_19) ∧ (¬ (0 : Int32) = 0 → post 0 U_19)))) ∧ (¬ r_18 = 0 → ((0 : Int32) = 0 → post (-6) U_17) ∧ (¬ (0 : Int32) = 0 → post 0 U_17)))) ∧ (¬ (uA U_14 o 4 (Int32.toNatClampNeg x5_13)) = (uA U_14 o 4 (Int32.toNatClampNeg x6_16)) → post (-5) U_14)))))))) ∧ (¬ r_10 = 0 → post (-2) U_9))) ∧ (¬ r_8 = 0 → post (-2) U_7))))))
set_option maxHeartbeats 4000000 in
theorem t_X6_exchangeable {l : Launch} {Y : px_Y} {o : Nat} {a1 : Int32} {a2 : Int32} {a3 : Int32} {a4 : Int32} {U : Um} {post : Int32 → Um → Prop} (ho : oc o = 5) (H : w_X6_exchangeable o a1 a2 a3 a4 U post) : um l Y 2 yX6_exchangeable cX6_exchangeable 8 (some (.int)) [.ref (Y.2.1 o), .int a1, .int a2, .int a3, .int a4] U (pq_i post) := by
  unfold w_X6_exchangeable at H
  refine um_of (by decide) (Nat.le_of_ble_eq_true rfl) [some (.ref (Y.2.1 o)), some (.int a1), some (.int a2), some (.int a3), some (.int a4), none, none, none] rfl (fun X h0 hh sz hM hU => ?_)
  have hC := hM.1
  have hR := hM.2.2.1
  refine pr_aload_n hC (by decide +kernel : decode cX6_exchangeable 0 = .ok (.aload_n 0, 1)) rfl ?_
  refine pu_g21 hC fg_X6_41 (by decide +kernel : decode cX6_exchangeable 1 = .ok (.getfield 41, 3)) hU ho (by decide) rfl rfl ?_
  have q_1 := H.1
  replace H := H.2
  refine pr_iload_n hC (by decide +kernel : decode cX6_exchangeable 4 = .ok (.iload_n 1, 1)) rfl ?_
  refine pr_iload_n hC (by decide +kernel : decode cX6_exchangeable 5 = .ok (.iload_n 2, 1)) rfl ?_
  refine vc_Vi hC hR [.int a1, .int a2] fv_X6_85 (by decide +kernel : decode cX6_exchangeable 6 = .ok (.invokevirtual 85, 3)) hU (t_X9_isSeat q_1 H) q_1 (by decide) rfl rfl rfl (Nat.le_of_ble_eq_true rfl) (Nat.le_of_ble_eq_true rfl) (Nat.le_refl 0) (Nat.le_refl 0) (fun r_3 U_2 h H hU => ?_)
  refine pr_if_eq hC 25 (by decide +kernel : decode cX6_exchangeable 9 = .ok (.ifCond .eq 16, 3)) (by decide) (fun c_9 => ?_) (fun c_9 => ?_)
  · replace H := H.1 c_9
    refine pr_iconst hC (-1) (by decide +kernel : decode cX6_exchangeable 25 = .ok (.iconst (-1), 1)) rfl ?_
    exact pv_iret hM (by decide +kernel : decode cX6_exchangeable 26 = .ok (.ireturn, 1)) hU H
  replace H := H.2 c_9
  refine pr_aload_n hC (by decide +kernel : decode cX6_exchangeable 12 = .ok (.aload_n 0, 1)) rfl ?_
  refine pu_g21 hC fg_X6_41 (by decide +kernel : decode cX6_exchangeable 13 = .ok (.getfield 41, 3)) hU ho (by decide) rfl rfl ?_
  have q_4 := H.1
  replace H := H.2
  refine pr_iload_n hC (by decide +kernel : decode cX6_exchangeable 16 = .ok (.iload_n 3, 1)) rfl ?_
  refine pr_iload hC (by decide +kernel : decode cX6_exchangeable 17 = .ok (.iload 4, 2)) rfl ?_
  refine vc_Vi hC hR [.int a3, .int a4] fv_X6_85 (by decide +kernel : decode cX6_exchangeable 19 = .ok (.invokevirtual 85, 3)) hU (t_X9_isSeat q_4 H) q_4 (by decide) rfl rfl rfl (Nat.le_of_ble_eq_true rfl) (Nat.le_of_ble_eq_true rfl) (Nat.le_refl 0) (Nat.le_refl 0) (fun r_6 U_5 h H hU => ?_)
  refine pr_if_ne hC 27 (by decide +kernel : decode cX6_exchangeable 22 = .ok (.ifCond .ne 5, 3)) (by decide) (fun c_22 => ?_) (fun c_22 => ?_)
  · replace H := H.2 c_22
    refine pr_aload_n hC (by decide +kernel : decode cX6_exchangeable 27 = .ok (.aload_n 0, 1)) rfl ?_
    refine pr_iload_n hC (by decide +kernel : decode cX6_exchangeable 28 = .ok (.iload_n 1, 1)) rfl ?_
    refine vc_Vi hC hR [.int a1] fv_X6_92 (by decide +kernel : decode cX6_exchangeable 29 = .ok (.invokevirtual 92, 3)) hU (t_X6_isPlayed ho H) ho (by decide) rfl rfl rfl (Nat.le_of_ble_eq_true rfl) (Nat.le_of_ble_eq_true rfl) (Nat.le_refl 0) (Nat.le_refl 0) (fun r_8 U_7 h H hU => ?_)
    refine pr_if_ne hC 43 (by decide +kernel : decode cX6_exchangeable 32 = .ok (.ifCond .ne 11, 3)) (by decide) (fun c_32 => ?_) (fun c_32 => ?_)
    · replace H := H.2 c_32
      refine pr_bipush hC (-2) (by decide +kernel : decode cX6_exchangeable 43 = .ok (.bipush (-2), 2)) rfl ?_
      exact pv_iret hM (by decide +kernel : decode cX6_exchangeable 45 = .ok (.ireturn, 1)) hU H
    replace H := H.1 c_32
    refine pr_aload_n hC (by decide +kernel : decode cX6_exchangeable 35 = .ok (.aload_n 0, 1)) rfl ?_
    refine pr_iload_n hC (by decide +kernel : decode cX6_exchangeable 36 = .ok (.iload_n 3, 1)) rfl ?_
    refine vc_Vi hC hR [.int a3] fv_X6_92 (by decide +kernel : decode cX6_exchangeable 37 = .ok (.invokevirtual 92, 3)) hU (t_X6_isPlayed ho H) ho (by decide) rfl rfl rfl (Nat.le_of_ble_eq_true rfl) (Nat.le_of_ble_eq_true rfl) (Nat.le_refl 0) (Nat.le_refl 0) (fun r_10 U_9 h H hU => ?_)
    refine pr_if_eq hC 46 (by decide +kernel : decode cX6_exchangeable 40 = .ok (.ifCond .eq 6, 3)) (by decide) (fun c_40 => ?_) (fun c_40 => ?_)
    · replace H := H.1 c_40
      refine pr_aload_n hC (by decide +kernel : decode cX6_exchangeable 46 = .ok (.aload_n 0, 1)) rfl ?_
      refine pu_g1 hC fg_X6_9 (by decide +kernel : decode cX6_exchangeable 47 = .ok (.getfield 9, 3)) hU ho (by decide) rfl (by decide) ?_
      refine pr_iload_n hC (by decide +kernel : decode cX6_exchangeable 50 = .ok (.iload_n 1, 1)) rfl ?_
      refine pr_iload_n hC (by decide +kernel : decode cX6_exchangeable 51 = .ok (.iload_n 2, 1)) rfl ?_
      refine vc_Si hC hR [.int a1, .int a2] fv_X6_71 (by decide +kernel : decode cX6_exchangeable 52 = .ok (.invokestatic 71, 3)) hU (t_X9_placeOf  H) rfl rfl (Nat.le_of_ble_eq_true rfl) (Nat.le_of_ble_eq_true rfl) (Nat.le_refl 0) (Nat.le_refl 0) (fun r_12 U_11 h H hU => ?_)
      refine pu_iald hC (by decide +kernel : decode cX6_exchangeable 55 = .ok (.iaload, 1)) hU ho rfl H.1 ?_
      replace H := H.2
      refine pv_topi (fun x5_13 e_x5_13 => ?_)
      replace H := H x5_13 e_x5_13
      refine pr_istore hC (by decide +kernel : decode cX6_exchangeable 56 = .ok (.istore 5, 2)) (by decide) rfl ?_
      refine pr_aload_n hC (by decide +kernel : decode cX6_exchangeable 58 = .ok (.aload_n 0, 1)) rfl ?_
      refine pu_g1 hC fg_X6_9 (by decide +kernel : decode cX6_exchangeable 59 = .ok (.getfield 9, 3)) hU ho (by decide) rfl (by decide) ?_
      refine pr_iload_n hC (by decide +kernel : decode cX6_exchangeable 62 = .ok (.iload_n 3, 1)) rfl ?_
      refine pr_iload hC (by decide +kernel : decode cX6_exchangeable 63 = .ok (.iload 4, 2)) rfl ?_
      refine vc_Si hC hR [.int a3, .int a4] fv_X6_71 (by decide +kernel : decode cX6_exchangeable 65 = .ok (.invokestatic 71, 3)) hU (t_X9_placeOf  H) rfl rfl (Nat.le_of_ble_eq_true rfl) (Nat.le_of_ble_eq_true rfl) (Nat.le_refl 0) (Nat.le_refl 0) (fun r_15 U_14 h H hU => ?_)
      refine pu_iald hC (by decide +kernel : decode cX6_exchangeable 68 = .ok (.iaload, 1)) hU ho rfl H.1 ?_
      replace H := H.2
      refine pv_topi (fun x6_16 e_x6_16 => ?_)
      replace H := H x6_16 e_x6_16
      refine pr_istore hC (by decide +kernel : decode cX6_exchangeable 69 = .ok (.istore 6, 2)) (by decide) rfl ?_
      refine pr_iload hC (by decide +kernel : decode cX6_exchangeable 71 = .ok (.iload 5, 2)) rfl ?_
      refine pr_iconst hC (-1) (by decide +kernel : decode cX6_exchangeable 73 = .ok (.iconst (-1), 1)) rfl ?_
      refine pr_icmp_eq hC 83 (by decide +kernel : decode cX6_exchangeable 74 = .ok (.if_icmp .eq 9, 3)) (by decide) (fun c_74 => ?_) (fun c_74 => ?_)
      · replace H := H.1 c_74
        refine pr_bipush hC (-3) (by decide +kernel : decode cX6_exchangeable 83 = .ok (.bipush (-3), 2)) rfl ?_
        exact pv_iret hM (by decide +kernel : decode cX6_exchangeable 85 = .ok (.ireturn, 1)) hU H
      replace H := H.2 c_74
      refine pr_iload hC (by decide +kernel : decode cX6_exchangeable 77 = .ok (.iload 6, 2)) rfl ?_
      refine pr_iconst hC (-1) (by decide +kernel : decode cX6_exchangeable 79 = .ok (.iconst (-1), 1)) rfl ?_
      refine pr_icmp_ne hC 86 (by decide +kernel : decode cX6_exchangeable 80 = .ok (.if_icmp .ne 6, 3)) (by decide) (fun c_80 => ?_) (fun c_80 => ?_)
      · replace H := H.2 c_80
        refine pr_iload_n hC (by decide +kernel : decode cX6_exchangeable 86 = .ok (.iload_n 1, 1)) rfl ?_
        refine pr_iload_n hC (by decide +kernel : decode cX6_exchangeable 87 = .ok (.iload_n 3, 1)) rfl ?_
        refine pr_icmp_eq hC 98 (by decide +kernel : decode cX6_exchangeable 88 = .ok (.if_icmp .eq 10, 3)) (by decide) (fun c_88 => ?_) (fun c_88 => ?_)
        · replace H := H.1 c_88
          refine pr_bipush hC (-4) (by decide +kernel : decode cX6_exchangeable 98 = .ok (.bipush (-4), 2)) rfl ?_
          exact pv_iret hM (by decide +kernel : decode cX6_exchangeable 100 = .ok (.ireturn, 1)) hU H
        replace H := H.2 c_88
        refine pr_iload hC (by decide +kernel : decode cX6_exchangeable 91 = .ok (.iload 5, 2)) rfl ?_
        refine pr_iload hC (by decide +kernel : decode cX6_exchangeable 93 = .ok (.iload 6, 2)) rfl ?_
        refine pr_icmp_ne hC 101 (by decide +kernel : decode cX6_exchangeable 95 = .ok (.if_icmp .ne 6, 3)) (by decide) (fun c_95 => ?_) (fun c_95 => ?_)
        · replace H := H.2 c_95
          refine pr_aload_n hC (by decide +kernel : decode cX6_exchangeable 101 = .ok (.aload_n 0, 1)) rfl ?_
          refine pu_g1 hC fg_X6_18 (by decide +kernel : decode cX6_exchangeable 102 = .ok (.getfield 18, 3)) hU ho (by decide) rfl (by decide) ?_
          refine pr_iload hC (by decide +kernel : decode cX6_exchangeable 105 = .ok (.iload 5, 2)) rfl ?_
          refine pu_iald hC (by decide +kernel : decode cX6_exchangeable 107 = .ok (.iaload, 1)) hU ho rfl H.1 ?_
          replace H := H.2
          refine pr_aload_n hC (by decide +kernel : decode cX6_exchangeable 108 = .ok (.aload_n 0, 1)) rfl ?_
          refine pu_g1 hC fg_X6_18 (by decide +kernel : decode cX6_exchangeable 109 = .ok (.getfield 18, 3)) hU ho (by decide) rfl (by decide) ?_
          refine pr_iload hC (by decide +kernel : decode cX6_exchangeable 112 = .ok (.iload 6, 2)) rfl ?_
          refine pu_iald hC (by decide +kernel : decode cX6_exchangeable 114 = .ok (.iaload, 1)) hU ho rfl H.1 ?_
          replace H := H.2
          refine pr_icmp_eq hC 121 (by decide +kernel : decode cX6_exchangeable 115 = .ok (.if_icmp .eq 6, 3)) (by decide) (fun c_115 => ?_) (fun c_115 => ?_)
          · replace H := H.1 c_115
            refine pr_aload_n hC (by decide +kernel : decode cX6_exchangeable 121 = .ok (.aload_n 0, 1)) rfl ?_
            refine pr_iload_n hC (by decide +kernel : decode cX6_exchangeable 122 = .ok (.iload_n 3, 1)) rfl ?_
            refine pr_iload hC (by decide +kernel : decode cX6_exchangeable 123 = .ok (.iload 4, 2)) rfl ?_
            refine pr_iload hC (by decide +kernel : decode cX6_exchangeable 125 = .ok (.iload 5, 2)) rfl ?_
            refine pr_aload_n hC (by decide +kernel : decode cX6_exchangeable 127 = .ok (.aload_n 0, 1)) rfl ?_
            refine pu_g1 hC fg_X6_28 (by decide +kernel : decode cX6_exchangeable 128 = .ok (.getfield 28, 3)) hU ho (by decide) rfl (by decide) ?_
            refine pr_iload hC (by decide +kernel : decode cX6_exchangeable 131 = .ok (.iload 5, 2)) rfl ?_
            refine pu_iald hC (by decide +kernel : decode cX6_exchangeable 133 = .ok (.iaload, 1)) hU ho rfl H.1 ?_
            replace H := H.2
            refine pr_iconst hC (1) (by decide +kernel : decode cX6_exchangeable 134 = .ok (.iconst 1, 1)) rfl ?_
            refine pr_iload_n hC (by decide +kernel : decode cX6_exchangeable 135 = .ok (.iload_n 1, 1)) rfl ?_
            refine pr_ishl hC (by decide +kernel : decode cX6_exchangeable 136 = .ok (.ishl, 1)) ?_
            refine pr_iconst hC (-1) (by decide +kernel : decode cX6_exchangeable 137 = .ok (.iconst (-1), 1)) rfl ?_
            refine pr_ixor hC (by decide +kernel : decode cX6_exchangeable 138 = .ok (.ixor, 1)) ?_
            refine pr_iand hC (by decide +kernel : decode cX6_exchangeable 139 = .ok (.iand, 1)) ?_
            refine vc_Vi hC hR [.int a3, .int a4, .int x5_13, .int ((uA U_14 o 7 (Int32.toNatClampNeg x5_13)) &&& (((1 : Int32) <<< (a1 &&& 31)) ^^^ (-1)))] fv_X6_96 (by decide +kernel : decode cX6_exchangeable 140 = .ok (.invokevirtual 96, 3)) hU (t_X6_hindrance ho H) ho (by decide) rfl rfl rfl (Nat.le_of_ble_eq_true rfl) (Nat.le_of_ble_eq_true rfl) (Nat.le_refl 0) (Nat.le_refl 0) (fun r_18 U_17 h H hU => ?_)
            refine pr_if_ne hC 174 (by decide +kernel : decode cX6_exchangeable 143 = .ok (.ifCond .ne 31, 3)) (by decide) (fun c_143 => ?_) (fun c_143 => ?_)
            · replace H := H.2 c_143
              refine pr_iconst hC (0) (by decide +kernel : decode cX6_exchangeable 174 = .ok (.iconst 0, 1)) rfl ?_
              refine pr_istore hC (by decide +kernel : decode cX6_exchangeable 175 = .ok (.istore 7, 2)) (by decide) rfl ?_
              refine pr_iload hC (by decide +kernel : decode cX6_exchangeable 177 = .ok (.iload 7, 2)) rfl ?_
              refine pr_if_eq hC 186 (by decide +kernel : decode cX6_exchangeable 179 = .ok (.ifCond .eq 7, 3)) (by decide) (fun c_179 => ?_) (fun c_179 => ?_)
              · replace H := H.1 c_179
                refine pr_bipush hC (-6) (by decide +kernel : decode cX6_exchangeable 186 = .ok (.bipush (-6), 2)) rfl ?_
                exact pv_iret hM (by decide +kernel : decode cX6_exchangeable 188 = .ok (.ireturn, 1)) hU H
              replace H := H.2 c_179
              refine pr_iconst hC (0) (by decide +kernel : decode cX6_exchangeable 182 = .ok (.iconst 0, 1)) rfl ?_
              refine pr_goto hC 188 (by decide +kernel : decode cX6_exchangeable 183 = .ok (.goto 5, 3)) (by decide) ?_
              exact pv_iret hM (by decide +kernel : decode cX6_exchangeable 188 = .ok (.ireturn, 1)) hU H
            replace H := H.1 c_143
            refine pr_aload_n hC (by decide +kernel : decode cX6_exchangeable 146 = .ok (.aload_n 0, 1)) rfl ?_
            refine pr_iload_n hC (by decide +kernel : decode cX6_exchangeable 147 = .ok (.iload_n 1, 1)) rfl ?_
            refine pr_iload_n hC (by decide +kernel : decode cX6_exchangeable 148 = .ok (.iload_n 2, 1)) rfl ?_
            refine pr_iload hC (by decide +kernel : decode cX6_exchangeable 149 = .ok (.iload 6, 2)) rfl ?_
            refine pr_aload_n hC (by decide +kernel : decode cX6_exchangeable 151 = .ok (.aload_n 0, 1)) rfl ?_
            refine pu_g1 hC fg_X6_28 (by decide +kernel : decode cX6_exchangeable 152 = .ok (.getfield 28, 3)) hU ho (by decide) rfl (by decide) ?_
            refine pr_iload hC (by decide +kernel : decode cX6_exchangeable 155 = .ok (.iload 6, 2)) rfl ?_
            refine pu_iald hC (by decide +kernel : decode cX6_exchangeable 157 = .ok (.iaload, 1)) hU ho rfl H.1 ?_
            replace H := H.2
            refine pr_iconst hC (1) (by decide +kernel : decode cX6_exchangeable 158 = .ok (.iconst 1, 1)) rfl ?_
            refine pr_iload_n hC (by decide +kernel : decode cX6_exchangeable 159 = .ok (.iload_n 3, 1)) rfl ?_
            refine pr_ishl hC (by decide +kernel : decode cX6_exchangeable 160 = .ok (.ishl, 1)) ?_
            refine pr_iconst hC (-1) (by decide +kernel : decode cX6_exchangeable 161 = .ok (.iconst (-1), 1)) rfl ?_
            refine pr_ixor hC (by decide +kernel : decode cX6_exchangeable 162 = .ok (.ixor, 1)) ?_
            refine pr_iand hC (by decide +kernel : decode cX6_exchangeable 163 = .ok (.iand, 1)) ?_
            refine vc_Vi hC hR [.int a1, .int a2, .int x6_16, .int ((uA U_17 o 7 (Int32.toNatClampNeg x6_16)) &&& (((1 : Int32) <<< (a3 &&& 31)) ^^^ (-1)))] fv_X6_96 (by decide +kernel : decode cX6_exchangeable 164 = .ok (.invokevirtual 96, 3)) hU (t_X6_hindrance ho H) ho (by decide) rfl rfl rfl (Nat.le_of_ble_eq_true rfl) (Nat.le_of_ble_eq_true rfl) (Nat.le_refl 0) (Nat.le_refl 0) (fun r_20 U_19 h H hU => ?_)
            refine pr_if_ne hC 174 (by decide +kernel : decode cX6_exchangeable 167 = .ok (.ifCond .ne 7, 3)) (by decide) (fun c_167 => ?_) (fun c_167 => ?_)
            · replace H := H.2 c_167
              refine pr_iconst hC (0) (by decide +kernel : decode cX6_exchangeable 174 = .ok (.iconst 0, 1)) rfl ?_
              refine pr_istore hC (by decide +kernel : decode cX6_exchangeable 175 = .ok (.istore 7, 2)) (by decide) rfl ?_
              refine pr_iload hC (by decide +kernel : decode cX6_exchangeable 177 = .ok (.iload 7, 2)) rfl ?_
              refine pr_if_eq hC 186 (by decide +kernel : decode cX6_exchangeable 179 = .ok (.ifCond .eq 7, 3)) (by decide) (fun c_179 => ?_) (fun c_179 => ?_)
              · replace H := H.1 c_179
                refine pr_bipush hC (-6) (by decide +kernel : decode cX6_exchangeable 186 = .ok (.bipush (-6), 2)) rfl ?_
                exact pv_iret hM (by decide +kernel : decode cX6_exchangeable 188 = .ok (.ireturn, 1)) hU H
              replace H := H.2 c_179
              refine pr_iconst hC (0) (by decide +kernel : decode cX6_exchangeable 182 = .ok (.iconst 0, 1)) rfl ?_
              refine pr_goto hC 188 (by decide +kernel : decode cX6_exchangeable 183 = .ok (.goto 5, 3)) (by decide) ?_
              exact pv_iret hM (by decide +kernel : decode cX6_exchangeable 188 = .ok (.ireturn, 1)) hU H
            replace H := H.1 c_167
            refine pr_iconst hC (1) (by decide +kernel : decode cX6_exchangeable 170 = .ok (.iconst 1, 1)) rfl ?_
            refine pr_goto hC 175 (by decide +kernel : decode cX6_exchangeable 171 = .ok (.goto 4, 3)) (by decide) ?_
            refine pr_istore hC (by decide +kernel : decode cX6_exchangeable 175 = .ok (.istore 7, 2)) (by decide) rfl ?_
            refine pr_iload hC (by decide +kernel : decode cX6_exchangeable 177 = .ok (.iload 7, 2)) rfl ?_
            refine pr_if_eq hC 186 (by decide +kernel : decode cX6_exchangeable 179 = .ok (.ifCond .eq 7, 3)) (by decide) (fun c_179 => ?_) (fun c_179 => ?_)
            · replace H := H.1 c_179
              refine pr_bipush hC (-6) (by decide +kernel : decode cX6_exchangeable 186 = .ok (.bipush (-6), 2)) rfl ?_
              exact pv_iret hM (by decide +kernel : decode cX6_exchangeable 188 = .ok (.ireturn, 1)) hU H
            replace H := H.2 c_179
            refine pr_iconst hC (0) (by decide +kernel : decode cX6_exchangeable 182 = .ok (.iconst 0, 1)) rfl ?_
            refine pr_goto hC 188 (by decide +kernel : decode cX6_exchangeable 183 = .ok (.goto 5, 3)) (by decide) ?_
            exact pv_iret hM (by decide +kernel : decode cX6_exchangeable 188 = .ok (.ireturn, 1)) hU H
          replace H := H.2 c_115
          refine pr_bipush hC (-5) (by decide +kernel : decode cX6_exchangeable 118 = .ok (.bipush (-5), 2)) rfl ?_
          exact pv_iret hM (by decide +kernel : decode cX6_exchangeable 120 = .ok (.ireturn, 1)) hU H
        replace H := H.1 c_95
        refine pr_bipush hC (-4) (by decide +kernel : decode cX6_exchangeable 98 = .ok (.bipush (-4), 2)) rfl ?_
        exact pv_iret hM (by decide +kernel : decode cX6_exchangeable 100 = .ok (.ireturn, 1)) hU H
      replace H := H.1 c_80
      refine pr_bipush hC (-3) (by decide +kernel : decode cX6_exchangeable 83 = .ok (.bipush (-3), 2)) rfl ?_
      exact pv_iret hM (by decide +kernel : decode cX6_exchangeable 85 = .ok (.ireturn, 1)) hU H
    replace H := H.2 c_40
    refine pr_bipush hC (-2) (by decide +kernel : decode cX6_exchangeable 43 = .ok (.bipush (-2), 2)) rfl ?_
    exact pv_iret hM (by decide +kernel : decode cX6_exchangeable 45 = .ok (.ireturn, 1)) hU H
  replace H := H.1 c_22
  refine pr_iconst hC (-1) (by decide +kernel : decode cX6_exchangeable 25 = .ok (.iconst (-1), 1)) rfl ?_
  exact pv_iret hM (by decide +kernel : decode cX6_exchangeable 26 = .ok (.ireturn, 1)) hU H
def w_X1_gain (o : Nat) (a1 : Int32) (a2 : Int32) (a3 : Int32) (U : Um) (post : Int32 → Um → Prop) : Prop :=
  oc (uR U o 0) = 5 ∧ vp_in a1 10 ∧ ∀ (x4_2 : Int32), x4_2 = uA U (uR U o 0) 7 (Int32.toNatClampNeg a1) → ∀ (x5_3 : Int32), x5_3 = (x4_2 &&& (((1 : Int32) <<< (a2 &&& 31)) ^^^ (-1))) ||| ((1 : Int32) <<< (a3 &&& 31)) → oc (uR U o 0) = 5 ∧ oc (uR U (uR U o 0) 0) = 8 ∧ vp_in a2 16 ∧ oc (uAR U (uR U (uR U o 0) 0) 6 (Int32.toNatClampNeg a2)) = 1 ∧ ∀ (x6_8 : Int32), x6_8 = uI U (uAR U (uR U (uR U o 0) 0) 6 (Int32.toNatClampNeg a2)) 3 → oc (uR U o 0) = 5 ∧ oc (uR U (uR U o 0) 0) = 8 ∧ vp_in a3 16 ∧ oc (uAR U (uR U (uR U o 0) 0) 6 (Int32.toNatClampNeg a3)) = 1 ∧ ∀ (x7_13 : Int32), x7_13 = uI U (uAR U (uR U (uR U o 0) 0) 6 (Int32.toNatClampNeg a3)) 3 → oc (uR U o 0) = 5 ∧ w_X6_roundOn (uR U o 0) a1 x4_2 x6_8 U (fun r_16 U_15 => oc (uR U_15 o 0) = 5 ∧ w_X6_roundOn (uR U_15 o 0) a1 x5_3 x6_8 U_15 (fun r_19 U_18 => ∀ (x8_20 : Int32), x8_20 = r_16 - r_19 → (x7_13 = x6_8 → post x8_20 U_18) ∧ (¬ x7_13 = x6_8 → oc (uR U_18 o 0) = 5 ∧ w_X6_roundOn (uR U_18 o 0) a1 x4_2 x7_13 U_18 (fun r_23 U_22 => oc (uR U_22 o 0) = 5 ∧ w_X6_roundOn (uR U_22 o 0) a1 x5_3 x7_13 U_22 (fun r_26 U_25 => ∀ (x8_27 : Int32), x8_27 = x8_20 + (r_23 - r_26) → post x8_27 U_25)))))
set_option maxHeartbeats 4000000 in
theorem t_X1_gain {l : Launch} {Y : px_Y} {o : Nat} {a1 : Int32} {a2 : Int32} {a3 : Int32} {U : Um} {post : Int32 → Um → Prop} (ho : oc o = 0) (H : w_X1_gain o a1 a2 a3 U post) : um l Y 2 yX1_gain cX1_gain 9 (some (.int)) [.ref (Y.2.1 o), .int a1, .int a2, .int a3] U (pq_i post) := by
  unfold w_X1_gain at H
  refine um_of (by decide) (Nat.le_of_ble_eq_true rfl) [some (.ref (Y.2.1 o)), some (.int a1), some (.int a2), some (.int a3), none, none, none, none, none] rfl (fun X h0 hh sz hM hU => ?_)
  have hC := hM.1
  have hR := hM.2.2.1
  refine pr_aload_n hC (by decide +kernel : decode cX1_gain 0 = .ok (.aload_n 0, 1)) rfl ?_
  refine pu_g21 hC fg_X1_9 (by decide +kernel : decode cX1_gain 1 = .ok (.getfield 9, 3)) hU ho (by decide) rfl rfl ?_
  have q_1 := H.1
  replace H := H.2
  refine pu_g1 hC fg_X1_132 (by decide +kernel : decode cX1_gain 4 = .ok (.getfield 132, 3)) hU q_1 (by decide) rfl (by decide) ?_
  refine pr_iload_n hC (by decide +kernel : decode cX1_gain 7 = .ok (.iload_n 1, 1)) rfl ?_
  refine pu_iald hC (by decide +kernel : decode cX1_gain 8 = .ok (.iaload, 1)) hU q_1 rfl H.1 ?_
  replace H := H.2
  refine pv_topi (fun x4_2 e_x4_2 => ?_)
  replace H := H x4_2 e_x4_2
  refine pr_istore hC (by decide +kernel : decode cX1_gain 9 = .ok (.istore 4, 2)) (by decide) rfl ?_
  refine pr_iload hC (by decide +kernel : decode cX1_gain 11 = .ok (.iload 4, 2)) rfl ?_
  refine pr_iconst hC (1) (by decide +kernel : decode cX1_gain 13 = .ok (.iconst 1, 1)) rfl ?_
  refine pr_iload_n hC (by decide +kernel : decode cX1_gain 14 = .ok (.iload_n 2, 1)) rfl ?_
  refine pr_ishl hC (by decide +kernel : decode cX1_gain 15 = .ok (.ishl, 1)) ?_
  refine pr_iconst hC (-1) (by decide +kernel : decode cX1_gain 16 = .ok (.iconst (-1), 1)) rfl ?_
  refine pr_ixor hC (by decide +kernel : decode cX1_gain 17 = .ok (.ixor, 1)) ?_
  refine pr_iand hC (by decide +kernel : decode cX1_gain 18 = .ok (.iand, 1)) ?_
  refine pr_iconst hC (1) (by decide +kernel : decode cX1_gain 19 = .ok (.iconst 1, 1)) rfl ?_
  refine pr_iload_n hC (by decide +kernel : decode cX1_gain 20 = .ok (.iload_n 3, 1)) rfl ?_
  refine pr_ishl hC (by decide +kernel : decode cX1_gain 21 = .ok (.ishl, 1)) ?_
  refine pr_ior hC (by decide +kernel : decode cX1_gain 22 = .ok (.ior, 1)) ?_
  refine pv_topi (fun x5_3 e_x5_3 => ?_)
  replace H := H x5_3 e_x5_3
  refine pr_istore hC (by decide +kernel : decode cX1_gain 23 = .ok (.istore 5, 2)) (by decide) rfl ?_
  refine pr_aload_n hC (by decide +kernel : decode cX1_gain 25 = .ok (.aload_n 0, 1)) rfl ?_
  refine pu_g21 hC fg_X1_9 (by decide +kernel : decode cX1_gain 26 = .ok (.getfield 9, 3)) hU ho (by decide) rfl rfl ?_
  have q_4 := H.1
  replace H := H.2
  refine pu_g21 hC fg_X1_65 (by decide +kernel : decode cX1_gain 29 = .ok (.getfield 65, 3)) hU q_4 (by decide) rfl rfl ?_
  have q_5 := H.1
  replace H := H.2
  refine pu_g1 hC fg_X1_69 (by decide +kernel : decode cX1_gain 32 = .ok (.getfield 69, 3)) hU q_5 (by decide) rfl (by decide) ?_
  refine pr_iload_n hC (by decide +kernel : decode cX1_gain 35 = .ok (.iload_n 2, 1)) rfl ?_
  have q_6 := H.1
  replace H := H.2
  refine pu_aald8 hC (by decide +kernel : decode cX1_gain 36 = .ok (.aaload, 1)) hU q_5 rfl q_6 ?_
  have q_7 := H.1
  replace H := H.2
  refine pu_g0 hC fg_X1_150 (by decide +kernel : decode cX1_gain 37 = .ok (.getfield 150, 3)) hU q_7 (by decide) rfl rfl ?_
  refine pv_topi (fun x6_8 e_x6_8 => ?_)
  replace H := H x6_8 e_x6_8
  refine pr_istore hC (by decide +kernel : decode cX1_gain 40 = .ok (.istore 6, 2)) (by decide) rfl ?_
  refine pr_aload_n hC (by decide +kernel : decode cX1_gain 42 = .ok (.aload_n 0, 1)) rfl ?_
  refine pu_g21 hC fg_X1_9 (by decide +kernel : decode cX1_gain 43 = .ok (.getfield 9, 3)) hU ho (by decide) rfl rfl ?_
  have q_9 := H.1
  replace H := H.2
  refine pu_g21 hC fg_X1_65 (by decide +kernel : decode cX1_gain 46 = .ok (.getfield 65, 3)) hU q_9 (by decide) rfl rfl ?_
  have q_10 := H.1
  replace H := H.2
  refine pu_g1 hC fg_X1_69 (by decide +kernel : decode cX1_gain 49 = .ok (.getfield 69, 3)) hU q_10 (by decide) rfl (by decide) ?_
  refine pr_iload_n hC (by decide +kernel : decode cX1_gain 52 = .ok (.iload_n 3, 1)) rfl ?_
  have q_11 := H.1
  replace H := H.2
  refine pu_aald8 hC (by decide +kernel : decode cX1_gain 53 = .ok (.aaload, 1)) hU q_10 rfl q_11 ?_
  have q_12 := H.1
  replace H := H.2
  refine pu_g0 hC fg_X1_150 (by decide +kernel : decode cX1_gain 54 = .ok (.getfield 150, 3)) hU q_12 (by decide) rfl rfl ?_
  refine pv_topi (fun x7_13 e_x7_13 => ?_)
  replace H := H x7_13 e_x7_13
  refine pr_istore hC (by decide +kernel : decode cX1_gain 57 = .ok (.istore 7, 2)) (by decide) rfl ?_
  refine pr_aload_n hC (by decide +kernel : decode cX1_gain 59 = .ok (.aload_n 0, 1)) rfl ?_
  refine pu_g21 hC fg_X1_9 (by decide +kernel : decode cX1_gain 60 = .ok (.getfield 9, 3)) hU ho (by decide) rfl rfl ?_
  have q_14 := H.1
  replace H := H.2
  refine pr_iload_n hC (by decide +kernel : decode cX1_gain 63 = .ok (.iload_n 1, 1)) rfl ?_
  refine pr_iload hC (by decide +kernel : decode cX1_gain 64 = .ok (.iload 4, 2)) rfl ?_
  refine pr_iload hC (by decide +kernel : decode cX1_gain 66 = .ok (.iload 6, 2)) rfl ?_
  refine vc_Vi hC hR [.int a1, .int x4_2, .int x6_8] fv_X1_153 (by decide +kernel : decode cX1_gain 68 = .ok (.invokevirtual 153, 3)) hU (t_X6_roundOn q_14 H) q_14 (by decide) rfl rfl rfl (Nat.le_of_ble_eq_true rfl) (Nat.le_of_ble_eq_true rfl) (Nat.le_refl 0) (Nat.le_refl 0) (fun r_16 U_15 h H hU => ?_)
  refine pr_aload_n hC (by decide +kernel : decode cX1_gain 71 = .ok (.aload_n 0, 1)) rfl ?_
  refine pu_g21 hC fg_X1_9 (by decide +kernel : decode cX1_gain 72 = .ok (.getfield 9, 3)) hU ho (by decide) rfl rfl ?_
  have q_17 := H.1
  replace H := H.2
  refine pr_iload_n hC (by decide +kernel : decode cX1_gain 75 = .ok (.iload_n 1, 1)) rfl ?_
  refine pr_iload hC (by decide +kernel : decode cX1_gain 76 = .ok (.iload 5, 2)) rfl ?_
  refine pr_iload hC (by decide +kernel : decode cX1_gain 78 = .ok (.iload 6, 2)) rfl ?_
  refine vc_Vi hC hR [.int a1, .int x5_3, .int x6_8] fv_X1_153 (by decide +kernel : decode cX1_gain 80 = .ok (.invokevirtual 153, 3)) hU (t_X6_roundOn q_17 H) q_17 (by decide) rfl rfl rfl (Nat.le_of_ble_eq_true rfl) (Nat.le_of_ble_eq_true rfl) (Nat.le_refl 0) (Nat.le_refl 0) (fun r_19 U_18 h H hU => ?_)
  refine pr_isub hC (by decide +kernel : decode cX1_gain 83 = .ok (.isub, 1)) ?_
  refine pv_topi (fun x8_20 e_x8_20 => ?_)
  replace H := H x8_20 e_x8_20
  refine pr_istore hC (by decide +kernel : decode cX1_gain 84 = .ok (.istore 8, 2)) (by decide) rfl ?_
  refine pr_iload hC (by decide +kernel : decode cX1_gain 86 = .ok (.iload 7, 2)) rfl ?_
  refine pr_iload hC (by decide +kernel : decode cX1_gain 88 = .ok (.iload 6, 2)) rfl ?_
  refine pr_icmp_eq hC 123 (by decide +kernel : decode cX1_gain 90 = .ok (.if_icmp .eq 33, 3)) (by decide) (fun c_90 => ?_) (fun c_90 => ?_)
  · replace H := H.1 c_90
    refine pr_iload hC (by decide +kernel : decode cX1_gain 123 = .ok (.iload 8, 2)) rfl ?_
    exact pv_iret hM (by decide +kernel : decode cX1_gain 125 = .ok (.ireturn, 1)) hU H
  replace H := H.2 c_90
  refine pr_iload hC (by decide +kernel : decode cX1_gain 93 = .ok (.iload 8, 2)) rfl ?_
  refine pr_aload_n hC (by decide +kernel : decode cX1_gain 95 = .ok (.aload_n 0, 1)) rfl ?_
  refine pu_g21 hC fg_X1_9 (by decide +kernel : decode cX1_gain 96 = .ok (.getfield 9, 3)) hU ho (by decide) rfl rfl ?_
  have q_21 := H.1
  replace H := H.2
  refine pr_iload_n hC (by decide +kernel : decode cX1_gain 99 = .ok (.iload_n 1, 1)) rfl ?_
  refine pr_iload hC (by decide +kernel : decode cX1_gain 100 = .ok (.iload 4, 2)) rfl ?_
  refine pr_iload hC (by decide +kernel : decode cX1_gain 102 = .ok (.iload 7, 2)) rfl ?_
  refine vc_Vi hC hR [.int a1, .int x4_2, .int x7_13] fv_X1_153 (by decide +kernel : decode cX1_gain 104 = .ok (.invokevirtual 153, 3)) hU (t_X6_roundOn q_21 H) q_21 (by decide) rfl rfl rfl (Nat.le_of_ble_eq_true rfl) (Nat.le_of_ble_eq_true rfl) (Nat.le_refl 0) (Nat.le_refl 0) (fun r_23 U_22 h H hU => ?_)
  refine pr_aload_n hC (by decide +kernel : decode cX1_gain 107 = .ok (.aload_n 0, 1)) rfl ?_
  refine pu_g21 hC fg_X1_9 (by decide +kernel : decode cX1_gain 108 = .ok (.getfield 9, 3)) hU ho (by decide) rfl rfl ?_
  have q_24 := H.1
  replace H := H.2
  refine pr_iload_n hC (by decide +kernel : decode cX1_gain 111 = .ok (.iload_n 1, 1)) rfl ?_
  refine pr_iload hC (by decide +kernel : decode cX1_gain 112 = .ok (.iload 5, 2)) rfl ?_
  refine pr_iload hC (by decide +kernel : decode cX1_gain 114 = .ok (.iload 7, 2)) rfl ?_
  refine vc_Vi hC hR [.int a1, .int x5_3, .int x7_13] fv_X1_153 (by decide +kernel : decode cX1_gain 116 = .ok (.invokevirtual 153, 3)) hU (t_X6_roundOn q_24 H) q_24 (by decide) rfl rfl rfl (Nat.le_of_ble_eq_true rfl) (Nat.le_of_ble_eq_true rfl) (Nat.le_refl 0) (Nat.le_refl 0) (fun r_26 U_25 h H hU => ?_)
  refine pr_isub hC (by decide +kernel : decode cX1_gain 119 = .ok (.isub, 1)) ?_
  refine pr_iadd hC (by decide +kernel : decode cX1_gain 120 = .ok (.iadd, 1)) ?_
  refine pv_topi (fun x8_27 e_x8_27 => ?_)
  replace H := H x8_27 e_x8_27
  refine pr_istore hC (by decide +kernel : decode cX1_gain 121 = .ok (.istore 8, 2)) (by decide) rfl ?_
  refine pr_iload hC (by decide +kernel : decode cX1_gain 123 = .ok (.iload 8, 2)) rfl ?_
  exact pv_iret hM (by decide +kernel : decode cX1_gain 125 = .ok (.ireturn, 1)) hU H
def w_X1_weigh (o : Nat) (a1 : Int32) (a2 : Int32) (a3 : Int32) (a4 : Int32) (U : Um) (post : Um → Prop) : Prop :=
  oc (uR U o 0) = 5 ∧ w_X6_exchangeable (uR U o 0) a1 a2 a3 a4 U (fun r_3 U_2 => (r_3 = 0 → oc (uR U_2 o 0) = 5 ∧ w_X9_placeOf a1 a2 U_2 (fun r_6 U_5 => vp_in r_6 48 ∧ ∀ (x5_7 : Int32), x5_7 = uA U_5 (uR U_2 o 0) 2 (Int32.toNatClampNeg r_6) → oc (uR U_5 o 0) = 5 ∧ w_X9_placeOf a3 a4 U_5 (fun r_10 U_9 => vp_in r_10 48 ∧ ∀ (x6_11 : Int32), x6_11 = uA U_9 (uR U_5 o 0) 2 (Int32.toNatClampNeg r_10) → w_X1_gain o x5_7 a1 a3 U_9 (fun r_13 U_12 => w_X1_gain o x6_11 a3 a1 U_12 (fun r_15 U_14 => ∀ (x7_16 : Int32), x7_16 = r_13 + r_15 → vp_in 0 5 ∧ (x7_16 ≤ (uA U_14 o 6 (Int32.toNatClampNeg 0)) → post U_14) ∧ (¬ x7_16 ≤ (uA U_14 o 6 (Int32.toNatClampNeg 0)) → w_X1_note o x7_16 a1 a2 a3 a4 U_14 (fun U_17 => post U_17))))))) ∧ (¬ r_3 = 0 → post U_2))
set_option maxHeartbeats 4000000 in
theorem t_X1_weigh {l : Launch} {Y : px_Y} {o : Nat} {a1 : Int32} {a2 : Int32} {a3 : Int32} {a4 : Int32} {U : Um} {post : Um → Prop} (ho : oc o = 0) (H : w_X1_weigh o a1 a2 a3 a4 U post) : um l Y 3 yX1_weigh cX1_weigh 8 none [.ref (Y.2.1 o), .int a1, .int a2, .int a3, .int a4] U (pq_v post) := by
  unfold w_X1_weigh at H
  refine um_of (by decide) (Nat.le_of_ble_eq_true rfl) [some (.ref (Y.2.1 o)), some (.int a1), some (.int a2), some (.int a3), some (.int a4), none, none, none] rfl (fun X h0 hh sz hM hU => ?_)
  have hC := hM.1
  have hR := hM.2.2.1
  refine pr_aload_n hC (by decide +kernel : decode cX1_weigh 0 = .ok (.aload_n 0, 1)) rfl ?_
  refine pu_g21 hC fg_X1_9 (by decide +kernel : decode cX1_weigh 1 = .ok (.getfield 9, 3)) hU ho (by decide) rfl rfl ?_
  have q_1 := H.1
  replace H := H.2
  refine pr_iload_n hC (by decide +kernel : decode cX1_weigh 4 = .ok (.iload_n 1, 1)) rfl ?_
  refine pr_iload_n hC (by decide +kernel : decode cX1_weigh 5 = .ok (.iload_n 2, 1)) rfl ?_
  refine pr_iload_n hC (by decide +kernel : decode cX1_weigh 6 = .ok (.iload_n 3, 1)) rfl ?_
  refine pr_iload hC (by decide +kernel : decode cX1_weigh 7 = .ok (.iload 4, 2)) rfl ?_
  refine vc_Vi hC hR [.int a1, .int a2, .int a3, .int a4] fv_X1_144 (by decide +kernel : decode cX1_weigh 9 = .ok (.invokevirtual 144, 3)) hU (t_X6_exchangeable q_1 H) q_1 (by decide) rfl rfl rfl (Nat.le_of_ble_eq_true rfl) (Nat.le_of_ble_eq_true rfl) (Nat.le_refl 0) (Nat.le_refl 0) (fun r_3 U_2 h H hU => ?_)
  refine pr_if_ne hC 87 (by decide +kernel : decode cX1_weigh 12 = .ok (.ifCond .ne 75, 3)) (by decide) (fun c_12 => ?_) (fun c_12 => ?_)
  · replace H := H.2 c_12
    exact pv_vret hM (by decide +kernel : decode cX1_weigh 87 = .ok (.return_, 1)) hU H
  replace H := H.1 c_12
  refine pr_aload_n hC (by decide +kernel : decode cX1_weigh 15 = .ok (.aload_n 0, 1)) rfl ?_
  refine pu_g21 hC fg_X1_9 (by decide +kernel : decode cX1_weigh 16 = .ok (.getfield 9, 3)) hU ho (by decide) rfl rfl ?_
  have q_4 := H.1
  replace H := H.2
  refine pu_g1 hC fg_X1_80 (by decide +kernel : decode cX1_weigh 19 = .ok (.getfield 80, 3)) hU q_4 (by decide) rfl (by decide) ?_
  refine pr_iload_n hC (by decide +kernel : decode cX1_weigh 22 = .ok (.iload_n 1, 1)) rfl ?_
  refine pr_iload_n hC (by decide +kernel : decode cX1_weigh 23 = .ok (.iload_n 2, 1)) rfl ?_
  refine vc_Si hC hR [.int a1, .int a2] fv_X1_83 (by decide +kernel : decode cX1_weigh 24 = .ok (.invokestatic 83, 3)) hU (t_X9_placeOf  H) rfl rfl (Nat.le_of_ble_eq_true rfl) (Nat.le_of_ble_eq_true rfl) (Nat.le_refl 0) (Nat.le_refl 0) (fun r_6 U_5 h H hU => ?_)
  refine pu_iald hC (by decide +kernel : decode cX1_weigh 27 = .ok (.iaload, 1)) hU q_4 rfl H.1 ?_
  replace H := H.2
  refine pv_topi (fun x5_7 e_x5_7 => ?_)
  replace H := H x5_7 e_x5_7
  refine pr_istore hC (by decide +kernel : decode cX1_weigh 28 = .ok (.istore 5, 2)) (by decide) rfl ?_
  refine pr_aload_n hC (by decide +kernel : decode cX1_weigh 30 = .ok (.aload_n 0, 1)) rfl ?_
  refine pu_g21 hC fg_X1_9 (by decide +kernel : decode cX1_weigh 31 = .ok (.getfield 9, 3)) hU ho (by decide) rfl rfl ?_
  have q_8 := H.1
  replace H := H.2
  refine pu_g1 hC fg_X1_80 (by decide +kernel : decode cX1_weigh 34 = .ok (.getfield 80, 3)) hU q_8 (by decide) rfl (by decide) ?_
  refine pr_iload_n hC (by decide +kernel : decode cX1_weigh 37 = .ok (.iload_n 3, 1)) rfl ?_
  refine pr_iload hC (by decide +kernel : decode cX1_weigh 38 = .ok (.iload 4, 2)) rfl ?_
  refine vc_Si hC hR [.int a3, .int a4] fv_X1_83 (by decide +kernel : decode cX1_weigh 40 = .ok (.invokestatic 83, 3)) hU (t_X9_placeOf  H) rfl rfl (Nat.le_of_ble_eq_true rfl) (Nat.le_of_ble_eq_true rfl) (Nat.le_refl 0) (Nat.le_refl 0) (fun r_10 U_9 h H hU => ?_)
  refine pu_iald hC (by decide +kernel : decode cX1_weigh 43 = .ok (.iaload, 1)) hU q_8 rfl H.1 ?_
  replace H := H.2
  refine pv_topi (fun x6_11 e_x6_11 => ?_)
  replace H := H x6_11 e_x6_11
  refine pr_istore hC (by decide +kernel : decode cX1_weigh 44 = .ok (.istore 6, 2)) (by decide) rfl ?_
  refine pr_aload_n hC (by decide +kernel : decode cX1_weigh 46 = .ok (.aload_n 0, 1)) rfl ?_
  refine pr_iload hC (by decide +kernel : decode cX1_weigh 47 = .ok (.iload 5, 2)) rfl ?_
  refine pr_iload_n hC (by decide +kernel : decode cX1_weigh 49 = .ok (.iload_n 1, 1)) rfl ?_
  refine pr_iload_n hC (by decide +kernel : decode cX1_weigh 50 = .ok (.iload_n 3, 1)) rfl ?_
  refine vc_Vi hC hR [.int x5_7, .int a1, .int a3] fv_X1_147 (by decide +kernel : decode cX1_weigh 51 = .ok (.invokevirtual 147, 3)) hU (t_X1_gain ho H) ho (by decide) rfl rfl rfl (Nat.le_of_ble_eq_true rfl) (Nat.le_of_ble_eq_true rfl) (Nat.le_refl 0) (Nat.le_refl 0) (fun r_13 U_12 h H hU => ?_)
  refine pr_aload_n hC (by decide +kernel : decode cX1_weigh 54 = .ok (.aload_n 0, 1)) rfl ?_
  refine pr_iload hC (by decide +kernel : decode cX1_weigh 55 = .ok (.iload 6, 2)) rfl ?_
  refine pr_iload_n hC (by decide +kernel : decode cX1_weigh 57 = .ok (.iload_n 3, 1)) rfl ?_
  refine pr_iload_n hC (by decide +kernel : decode cX1_weigh 58 = .ok (.iload_n 1, 1)) rfl ?_
  refine vc_Vi hC hR [.int x6_11, .int a3, .int a1] fv_X1_147 (by decide +kernel : decode cX1_weigh 59 = .ok (.invokevirtual 147, 3)) hU (t_X1_gain ho H) ho (by decide) rfl rfl rfl (Nat.le_of_ble_eq_true rfl) (Nat.le_of_ble_eq_true rfl) (Nat.le_refl 0) (Nat.le_refl 0) (fun r_15 U_14 h H hU => ?_)
  refine pr_iadd hC (by decide +kernel : decode cX1_weigh 62 = .ok (.iadd, 1)) ?_
  refine pv_topi (fun x7_16 e_x7_16 => ?_)
  replace H := H x7_16 e_x7_16
  refine pr_istore hC (by decide +kernel : decode cX1_weigh 63 = .ok (.istore 7, 2)) (by decide) rfl ?_
  refine pr_iload hC (by decide +kernel : decode cX1_weigh 65 = .ok (.iload 7, 2)) rfl ?_
  refine pr_aload_n hC (by decide +kernel : decode cX1_weigh 67 = .ok (.aload_n 0, 1)) rfl ?_
  refine pu_g1 hC fg_X1_25 (by decide +kernel : decode cX1_weigh 68 = .ok (.getfield 25, 3)) hU ho (by decide) rfl (by decide) ?_
  refine pr_iconst hC (0) (by decide +kernel : decode cX1_weigh 71 = .ok (.iconst 0, 1)) rfl ?_
  refine pu_iald hC (by decide +kernel : decode cX1_weigh 72 = .ok (.iaload, 1)) hU ho rfl H.1 ?_
  replace H := H.2
  refine pr_icmp_le hC 87 (by decide +kernel : decode cX1_weigh 73 = .ok (.if_icmp .le 14, 3)) (by decide) (fun c_73 => ?_) (fun c_73 => ?_)
  · replace H := H.1 c_73
    exact pv_vret hM (by decide +kernel : decode cX1_weigh 87 = .ok (.return_, 1)) hU H
  replace H := H.2 c_73
  refine pr_aload_n hC (by decide +kernel : decode cX1_weigh 76 = .ok (.aload_n 0, 1)) rfl ?_
  refine pr_iload hC (by decide +kernel : decode cX1_weigh 77 = .ok (.iload 7, 2)) rfl ?_
  refine pr_iload_n hC (by decide +kernel : decode cX1_weigh 79 = .ok (.iload_n 1, 1)) rfl ?_
  refine pr_iload_n hC (by decide +kernel : decode cX1_weigh 80 = .ok (.iload_n 2, 1)) rfl ?_
  refine pr_iload_n hC (by decide +kernel : decode cX1_weigh 81 = .ok (.iload_n 3, 1)) rfl ?_
  refine pr_iload hC (by decide +kernel : decode cX1_weigh 82 = .ok (.iload 4, 2)) rfl ?_
  refine vc_Vv hC hR [.int x7_16, .int a1, .int a2, .int a3, .int a4] fv_X1_120 (by decide +kernel : decode cX1_weigh 84 = .ok (.invokevirtual 120, 3)) hU (t_X1_note ho H) ho (by decide) rfl rfl rfl (Nat.le_of_ble_eq_true rfl) (Nat.le_of_ble_eq_true rfl) (Nat.le_refl 0) (Nat.le_refl 0) (fun U_17 h H hU => ?_)
  exact pv_vret hM (by decide +kernel : decode cX1_weigh 87 = .ok (.return_, 1)) hU H
def b_X1_findExchange_L34 (o0 : Nat) (x1 : Int32) (x2 : Int32) (x3 : Int32) (post : Int32 → Um → Prop) (k_77 : Um → Prop) (rec_ : Int32 → Um → Prop) (x4 : Int32) (U : Um) : Prop :=
  (x2 ≤ x4 → k_77 U) ∧ (¬ x2 ≤ x4 → oc (uR U o0 0) = 5 ∧ vp_in x3 48 ∧ ((uA U (uR U o0 0) 2 (Int32.toNatClampNeg x3)) = (-1) → k_77 U) ∧ (¬ (uA U (uR U o0 0) 2 (Int32.toNatClampNeg x3)) = (-1) → w_X1_weigh o0 (x3 / 3) (x3 - x3 / 3 * 3) (x4 / 3) (x4 - x4 / 3 * 3) U (fun U_8 => ∀ (x4_10 : Int32), x4_10 = x4 + 1 → rec_ x4_10 U_8)))
def w_X1_findExchange_L34 (o0 : Nat) (x1 : Int32) (x2 : Int32) (x3 : Int32) (post : Int32 → Um → Prop) (k_77 : Um → Prop) (n_ : Nat) : Int32 → Um → Prop := Nat.rec (motive := fun _ => Int32 → Um → Prop) (fun _ _ => False) (fun _ ih => b_X1_findExchange_L34 o0 x1 x2 x3 post k_77 ih) n_
def b_X1_findExchange_L24 (o0 : Nat) (x1 : Int32) (x2 : Int32) (post : Int32 → Um → Prop) (k_83 : Um → Prop) (rec_ : Int32 → Um → Prop) (x3 : Int32) (U : Um) : Prop :=
  (x2 ≤ x3 → k_83 U) ∧ (¬ x2 ≤ x3 → ∀ (x4_6 : Int32), x4_6 = x3 + 1 → (∃ n_13, w_X1_findExchange_L34 o0 x1 x2 x3 post (fun U_11 => ∀ (x3_12 : Int32), x3_12 = x3 + 1 → rec_ x3_12 U_11) n_13 x4_6 U))
def w_X1_findExchange_L24 (o0 : Nat) (x1 : Int32) (x2 : Int32) (post : Int32 → Um → Prop) (k_83 : Um → Prop) (n_ : Nat) : Int32 → Um → Prop := Nat.rec (motive := fun _ => Int32 → Um → Prop) (fun _ _ => False) (fun _ ih => b_X1_findExchange_L24 o0 x1 x2 post k_83 ih) n_
def w_X1_findExchange (o : Nat) (a1 : Int32) (U : Um) (post : Int32 → Um → Prop) : Prop :=
  w_X1_note o 0 (-1) (-1) (-1) (-1) U (fun U_1 => oc (uR U_1 o 0) = 5 ∧ oc (uR U_1 (uR U_1 o 0) 0) = 8 ∧ ∀ (x2_5 : Int32), x2_5 = 3 * (uI U_1 (uR U_1 (uR U_1 o 0) 0) 7) → (∃ n_15, w_X1_findExchange_L24 o a1 x2_5 post (fun U_14 => vp_in a1 5 ∧ post (uA U_14 o 6 (Int32.toNatClampNeg a1)) U_14) n_15 0 U_1))
set_option maxHeartbeats 4000000 in
theorem tl_X1_findExchange_L34 {l : Launch} {Y : px_Y} {X : px_X} {h0 hh : pe_H} {sz : Nat} (o0 : Nat) (x1 : Int32) (x2 : Int32) (x3 : Int32) (post : Int32 → Um → Prop) (k_77 : Um → Prop) (ho0 : oc o0 = 0)  (hC : px_C X Y.1 (pm_A hh sz) cX1_findExchange RX1 5) (hM : px_M l X Y.1 hh sz yX1_findExchange cX1_findExchange 5 (some (.int)) 4 0 0) (hR : X.2.2.2.1 = pm_rm 4 0 0) (hk_77 : ∀ (U : Um) (h : pe_H), k_77 U → rF Y h0 U h → pw X Y.1 (pm_A hh sz) (pm_E X Y.1 hh sz 0 0 (pm_P Y h0 sz (pq_i post))) 77 [some (.ref (Y.2.1 o0)), some (.int x1), some (.int x2), some (.int x3), none] [] h sz 0 0) : ∀ (n_ : Nat) (x4 : Int32) (U : Um) (h : pe_H), rF Y h0 U h → w_X1_findExchange_L34 o0 x1 x2 x3 post k_77 n_ x4 U → pw X Y.1 (pm_A hh sz) (pm_E X Y.1 hh sz 0 0 (pm_P Y h0 sz (pq_i post))) 34 [some (.ref (Y.2.1 o0)), some (.int x1), some (.int x2), some (.int x3), some (.int x4)] [] h sz 0 0 := by
  intro n_
  induction n_ with
  | zero => intro x4 U h hU H; exact False.elim H
  | succ n_ ih =>
    intro x4 U h hU H
    replace H : b_X1_findExchange_L34 o0 x1 x2 x3 post k_77 (w_X1_findExchange_L34 o0 x1 x2 x3 post k_77 n_) x4 U := H
    unfold b_X1_findExchange_L34 at H
    refine pr_iload hC (by decide +kernel : decode cX1_findExchange 34 = .ok (.iload 4, 2)) rfl ?_
    refine pr_iload_n hC (by decide +kernel : decode cX1_findExchange 36 = .ok (.iload_n 2, 1)) rfl ?_
    refine pr_icmp_ge hC 77 (by decide +kernel : decode cX1_findExchange 37 = .ok (.if_icmp .ge 40, 3)) (by decide) (fun c_37 => ?_) (fun c_37 => ?_)
    · replace H := H.1 c_37
      exact pv_sub [some (.ref (Y.2.1 o0)), some (.int x1), some (.int x2), some (.int x3), none] (And.intro rfl (And.intro rfl (And.intro rfl (And.intro rfl trivial)))) (hk_77 U h H hU)
    replace H := H.2 c_37
    refine pr_aload_n hC (by decide +kernel : decode cX1_findExchange 40 = .ok (.aload_n 0, 1)) rfl ?_
    refine pu_g21 hC fg_X1_9 (by decide +kernel : decode cX1_findExchange 41 = .ok (.getfield 9, 3)) hU ho0 (by decide) rfl rfl ?_
    have q_7 := H.1
    replace H := H.2
    refine pu_g1 hC fg_X1_80 (by decide +kernel : decode cX1_findExchange 44 = .ok (.getfield 80, 3)) hU q_7 (by decide) rfl (by decide) ?_
    refine pr_iload_n hC (by decide +kernel : decode cX1_findExchange 47 = .ok (.iload_n 3, 1)) rfl ?_
    refine pu_iald hC (by decide +kernel : decode cX1_findExchange 48 = .ok (.iaload, 1)) hU q_7 rfl H.1 ?_
    replace H := H.2
    refine pr_iconst hC (-1) (by decide +kernel : decode cX1_findExchange 49 = .ok (.iconst (-1), 1)) rfl ?_
    refine pr_icmp_eq hC 77 (by decide +kernel : decode cX1_findExchange 50 = .ok (.if_icmp .eq 27, 3)) (by decide) (fun c_50 => ?_) (fun c_50 => ?_)
    · replace H := H.1 c_50
      exact pv_sub [some (.ref (Y.2.1 o0)), some (.int x1), some (.int x2), some (.int x3), none] (And.intro rfl (And.intro rfl (And.intro rfl (And.intro rfl trivial)))) (hk_77 U h H hU)
    replace H := H.2 c_50
    refine pr_aload_n hC (by decide +kernel : decode cX1_findExchange 53 = .ok (.aload_n 0, 1)) rfl ?_
    refine pr_iload_n hC (by decide +kernel : decode cX1_findExchange 54 = .ok (.iload_n 3, 1)) rfl ?_
    refine pr_iconst hC (3) (by decide +kernel : decode cX1_findExchange 55 = .ok (.iconst 3, 1)) rfl ?_
    refine pr_idiv hC (by decide +kernel : decode cX1_findExchange 56 = .ok (.idiv, 1)) (by decide) ?_
    refine pr_iload_n hC (by decide +kernel : decode cX1_findExchange 57 = .ok (.iload_n 3, 1)) rfl ?_
    refine pr_iconst hC (3) (by decide +kernel : decode cX1_findExchange 58 = .ok (.iconst 3, 1)) rfl ?_
    refine pr_irem hC (by decide +kernel : decode cX1_findExchange 59 = .ok (.irem, 1)) (by decide) ?_
    refine pr_iload hC (by decide +kernel : decode cX1_findExchange 60 = .ok (.iload 4, 2)) rfl ?_
    refine pr_iconst hC (3) (by decide +kernel : decode cX1_findExchange 62 = .ok (.iconst 3, 1)) rfl ?_
    refine pr_idiv hC (by decide +kernel : decode cX1_findExchange 63 = .ok (.idiv, 1)) (by decide) ?_
    refine pr_iload hC (by decide +kernel : decode cX1_findExchange 64 = .ok (.iload 4, 2)) rfl ?_
    refine pr_iconst hC (3) (by decide +kernel : decode cX1_findExchange 66 = .ok (.iconst 3, 1)) rfl ?_
    refine pr_irem hC (by decide +kernel : decode cX1_findExchange 67 = .ok (.irem, 1)) (by decide) ?_
    refine vc_Vv hC hR [.int (x3 / 3), .int (x3 - x3 / 3 * 3), .int (x4 / 3), .int (x4 - x4 / 3 * 3)] fv_X1_141 (by decide +kernel : decode cX1_findExchange 68 = .ok (.invokevirtual 141, 3)) hU (t_X1_weigh ho0 H) ho0 (by decide) rfl rfl rfl (Nat.le_of_ble_eq_true rfl) (Nat.le_of_ble_eq_true rfl) (Nat.le_refl 0) (Nat.le_refl 0) (fun U_8 h H hU => ?_)
    refine pv_iinc hC (v := x4 + 1) (by decide +kernel : decode cX1_findExchange 71 = .ok (.iinc 4 1, 3)) rfl (by decide) rfl rfl (fun x4_10 e_x4_10 => ?_)
    replace H := H x4_10 e_x4_10
    refine pr_goto hC 34 (by decide +kernel : decode cX1_findExchange 74 = .ok (.goto (-40), 3)) (by decide) ?_
    exact pv_sub [some (.ref (Y.2.1 o0)), some (.int x1), some (.int x2), some (.int x3), some (.int x4_10)] (And.intro rfl (And.intro rfl (And.intro rfl (And.intro rfl (And.intro rfl trivial))))) (ih _ U_8 h hU H)
set_option maxHeartbeats 4000000 in
theorem tl_X1_findExchange_L24 {l : Launch} {Y : px_Y} {X : px_X} {h0 hh : pe_H} {sz : Nat} (o0 : Nat) (x1 : Int32) (x2 : Int32) (post : Int32 → Um → Prop) (k_83 : Um → Prop) (ho0 : oc o0 = 0)  (hC : px_C X Y.1 (pm_A hh sz) cX1_findExchange RX1 5) (hM : px_M l X Y.1 hh sz yX1_findExchange cX1_findExchange 5 (some (.int)) 4 0 0) (hR : X.2.2.2.1 = pm_rm 4 0 0) (hk_83 : ∀ (U : Um) (h : pe_H), k_83 U → rF Y h0 U h → pw X Y.1 (pm_A hh sz) (pm_E X Y.1 hh sz 0 0 (pm_P Y h0 sz (pq_i post))) 83 [some (.ref (Y.2.1 o0)), some (.int x1), none, none, none] [] h sz 0 0) : ∀ (n_ : Nat) (x3 : Int32) (U : Um) (h : pe_H), rF Y h0 U h → w_X1_findExchange_L24 o0 x1 x2 post k_83 n_ x3 U → pw X Y.1 (pm_A hh sz) (pm_E X Y.1 hh sz 0 0 (pm_P Y h0 sz (pq_i post))) 24 [some (.ref (Y.2.1 o0)), some (.int x1), some (.int x2), some (.int x3), none] [] h sz 0 0 := by
  intro n_
  induction n_ with
  | zero => intro x3 U h hU H; exact False.elim H
  | succ n_ ih =>
    intro x3 U h hU H
    replace H : b_X1_findExchange_L24 o0 x1 x2 post k_83 (w_X1_findExchange_L24 o0 x1 x2 post k_83 n_) x3 U := H
    unfold b_X1_findExchange_L24 at H
    refine pr_iload_n hC (by decide +kernel : decode cX1_findExchange 24 = .ok (.iload_n 3, 1)) rfl ?_
    refine pr_iload_n hC (by decide +kernel : decode cX1_findExchange 25 = .ok (.iload_n 2, 1)) rfl ?_
    refine pr_icmp_ge hC 83 (by decide +kernel : decode cX1_findExchange 26 = .ok (.if_icmp .ge 57, 3)) (by decide) (fun c_26 => ?_) (fun c_26 => ?_)
    · replace H := H.1 c_26
      exact pv_sub [some (.ref (Y.2.1 o0)), some (.int x1), none, none, none] (And.intro rfl (And.intro rfl trivial)) (hk_83 U h H hU)
    replace H := H.2 c_26
    refine pr_iload_n hC (by decide +kernel : decode cX1_findExchange 29 = .ok (.iload_n 3, 1)) rfl ?_
    refine pr_iconst hC (1) (by decide +kernel : decode cX1_findExchange 30 = .ok (.iconst 1, 1)) rfl ?_
    refine pr_iadd hC (by decide +kernel : decode cX1_findExchange 31 = .ok (.iadd, 1)) ?_
    refine pv_topi (fun x4_6 e_x4_6 => ?_)
    replace H := H x4_6 e_x4_6
    refine pr_istore hC (by decide +kernel : decode cX1_findExchange 32 = .ok (.istore 4, 2)) (by decide) rfl ?_
    obtain ⟨n_13, H⟩ := H
    refine pv_sub [some (.ref (Y.2.1 o0)), some (.int x1), some (.int x2), some (.int x3), some (.int x4_6)] (And.intro rfl (And.intro rfl (And.intro rfl (And.intro rfl (And.intro rfl trivial))))) ?_
    refine tl_X1_findExchange_L34 _ _ _ _ _ _ ho0 hC hM hR (fun U_11 h H hU => ?_) n_13 _ U h hU H
    refine pv_iinc hC (v := x3 + 1) (by decide +kernel : decode cX1_findExchange 77 = .ok (.iinc 3 1, 3)) rfl (by decide) rfl rfl (fun x3_12 e_x3_12 => ?_)
    replace H := H x3_12 e_x3_12
    refine pr_goto hC 24 (by decide +kernel : decode cX1_findExchange 80 = .ok (.goto (-56), 3)) (by decide) ?_
    exact pv_sub [some (.ref (Y.2.1 o0)), some (.int x1), some (.int x2), some (.int x3_12), none] (And.intro rfl (And.intro rfl (And.intro rfl (And.intro rfl trivial)))) (ih _ U_11 h hU H)
set_option maxHeartbeats 4000000 in
theorem t_X1_findExchange {l : Launch} {Y : px_Y} {o : Nat} {a1 : Int32} {U : Um} {post : Int32 → Um → Prop} (ho : oc o = 0) (H : w_X1_findExchange o a1 U post) : um l Y 4 yX1_findExchange cX1_findExchange 5 (some (.int)) [.ref (Y.2.1 o), .int a1] U (pq_i post) := by
  unfold w_X1_findExchange at H
  refine um_of (by decide) (Nat.le_of_ble_eq_true rfl) [some (.ref (Y.2.1 o)), some (.int a1), none, none, none] rfl (fun X h0 hh sz hM hU => ?_)
  have hC := hM.1
  have hR := hM.2.2.1
  refine pr_aload_n hC (by decide +kernel : decode cX1_findExchange 0 = .ok (.aload_n 0, 1)) rfl ?_
  refine pr_iconst hC (0) (by decide +kernel : decode cX1_findExchange 1 = .ok (.iconst 0, 1)) rfl ?_
  refine pr_iconst hC (-1) (by decide +kernel : decode cX1_findExchange 2 = .ok (.iconst (-1), 1)) rfl ?_
  refine pr_iconst hC (-1) (by decide +kernel : decode cX1_findExchange 3 = .ok (.iconst (-1), 1)) rfl ?_
  refine pr_iconst hC (-1) (by decide +kernel : decode cX1_findExchange 4 = .ok (.iconst (-1), 1)) rfl ?_
  refine pr_iconst hC (-1) (by decide +kernel : decode cX1_findExchange 5 = .ok (.iconst (-1), 1)) rfl ?_
  refine vc_Vv hC hR [.int 0, .int (-1), .int (-1), .int (-1), .int (-1)] fv_X1_120 (by decide +kernel : decode cX1_findExchange 6 = .ok (.invokevirtual 120, 3)) hU (t_X1_note ho H) ho (by decide) rfl rfl rfl (Nat.le_of_ble_eq_true rfl) (Nat.le_of_ble_eq_true rfl) (Nat.le_refl 0) (Nat.le_refl 0) (fun U_1 h H hU => ?_)
  refine pr_iconst hC (3) (by decide +kernel : decode cX1_findExchange 9 = .ok (.iconst 3, 1)) rfl ?_
  refine pr_aload_n hC (by decide +kernel : decode cX1_findExchange 10 = .ok (.aload_n 0, 1)) rfl ?_
  refine pu_g21 hC fg_X1_9 (by decide +kernel : decode cX1_findExchange 11 = .ok (.getfield 9, 3)) hU ho (by decide) rfl rfl ?_
  have q_3 := H.1
  replace H := H.2
  refine pu_g21 hC fg_X1_65 (by decide +kernel : decode cX1_findExchange 14 = .ok (.getfield 65, 3)) hU q_3 (by decide) rfl rfl ?_
  have q_4 := H.1
  replace H := H.2
  refine pu_g0 hC fg_X1_103 (by decide +kernel : decode cX1_findExchange 17 = .ok (.getfield 103, 3)) hU q_4 (by decide) rfl rfl ?_
  refine pr_imul hC (by decide +kernel : decode cX1_findExchange 20 = .ok (.imul, 1)) ?_
  refine pv_topi (fun x2_5 e_x2_5 => ?_)
  replace H := H x2_5 e_x2_5
  refine pr_istore_n hC (by decide +kernel : decode cX1_findExchange 21 = .ok (.istore_n 2, 1)) (by decide) rfl ?_
  refine pr_iconst hC (0) (by decide +kernel : decode cX1_findExchange 22 = .ok (.iconst 0, 1)) rfl ?_
  refine pr_istore_n hC (by decide +kernel : decode cX1_findExchange 23 = .ok (.istore_n 3, 1)) (by decide) rfl ?_
  obtain ⟨n_15, H⟩ := H
  refine pv_sub [some (.ref (Y.2.1 o)), some (.int a1), some (.int x2_5), some (.int 0), none] (And.intro rfl (And.intro rfl (And.intro rfl (And.intro rfl trivial)))) ?_
  refine tl_X1_findExchange_L24 _ _ _ _ _ ho hC hM hR (fun U_14 h H hU => ?_) n_15 _ U_1 h hU H
  refine pr_aload_n hC (by decide +kernel : decode cX1_findExchange 83 = .ok (.aload_n 0, 1)) rfl ?_
  refine pu_g1 hC fg_X1_25 (by decide +kernel : decode cX1_findExchange 84 = .ok (.getfield 25, 3)) hU ho (by decide) rfl (by decide) ?_
  refine pr_iload_n hC (by decide +kernel : decode cX1_findExchange 87 = .ok (.iload_n 1, 1)) rfl ?_
  refine pu_iald hC (by decide +kernel : decode cX1_findExchange 88 = .ok (.iaload, 1)) hU ho rfl H.1 ?_
  replace H := H.2
  exact pv_iret hM (by decide +kernel : decode cX1_findExchange 89 = .ok (.ireturn, 1)) hU H
def w_X2_ends (o : Nat) (U : Um) (post : Int32 → Um → Prop) : Prop :=
  post ((uI U o 4) + (uI U o 5)) U
set_option maxHeartbeats 4000000 in
theorem t_X2_ends {l : Launch} {Y : px_Y} {o : Nat} {U : Um} {post : Int32 → Um → Prop} (ho : oc o = 1) (H : w_X2_ends o U post) : um l Y 0 yX2_ends cX2_ends 1 (some (.int)) [.ref (Y.2.1 o)] U (pq_i post) := by
  unfold w_X2_ends at H
  refine um_of (by decide) (Nat.le_of_ble_eq_true rfl) [some (.ref (Y.2.1 o))] rfl (fun X h0 hh sz hM hU => ?_)
  have hC := hM.1
  have hR := hM.2.2.1
  refine pr_aload_n hC (by decide +kernel : decode cX2_ends 0 = .ok (.aload_n 0, 1)) rfl ?_
  refine pu_g0 hC fg_X2_9 (by decide +kernel : decode cX2_ends 1 = .ok (.getfield 9, 3)) hU ho (by decide) rfl rfl ?_
  refine pr_aload_n hC (by decide +kernel : decode cX2_ends 4 = .ok (.aload_n 0, 1)) rfl ?_
  refine pu_g0 hC fg_X2_15 (by decide +kernel : decode cX2_ends 5 = .ok (.getfield 15, 3)) hU ho (by decide) rfl rfl ?_
  refine pr_iadd hC (by decide +kernel : decode cX2_ends 8 = .ok (.iadd, 1)) ?_
  exact pv_iret hM (by decide +kernel : decode cX2_ends 9 = .ok (.ireturn, 1)) hU H
def w_X2_compare (o : Nat) (a1 : Nat) (a2 : Int32) (a3 : Int32) (U : Um) (post : Um → Prop) : Prop :=
  w_X2_ends a1 U (fun r_2 U_1 => (∀ K_3 : Int32 → Um → Prop, (∀ (xs_4 : Int32) (U_5 : Um), ((∀ K_6 : Int32 → Um → Prop, (∀ (xs_7 : Int32) (U_8 : Um), (∀ (xs_9 : Int32), xs_9 = (if xs_4 = 0 then 0 else a2) → ∀ (U_10 : Um), U_10 = sI U_8 o 8 ((uI U_8 o 8) ||| xs_9) → (a3 = (-1) → ∀ (U_11 : Um), U_11 = sI U_10 o 9 ((uI U_10 o 9) ||| a2) → post U_11) ∧ (¬ a3 = (-1) → (a3 ≤ xs_7 → ∀ (U_12 : Um), U_12 = sI U_10 o 9 ((uI U_10 o 9) ||| 0) → post U_12) ∧ (¬ a3 ≤ xs_7 → ∀ (U_13 : Um), U_13 = sI U_10 o 9 ((uI U_10 o 9) ||| a2) → post U_13))) → K_6 xs_7 U_8) → ((uI U_5 a1 4) ≤ (uI U_5 o 4) → w_X2_ends a1 U_5 (fun r_16 U_15 => K_6 ((uI U_5 o 4) - r_16) U_15)) ∧ (¬ (uI U_5 a1 4) ≤ (uI U_5 o 4) → w_X2_ends o U_5 (fun r_18 U_17 => K_6 ((uI U_5 a1 4) - r_18) U_17)))) → K_3 xs_4 U_5) → (r_2 ≤ (uI U o 4) → K_3 0 U_1) ∧ (¬ r_2 ≤ (uI U o 4) → w_X2_ends o U_1 (fun r_20 U_19 => (r_20 ≤ (uI U_1 a1 4) → K_3 0 U_19) ∧ (¬ r_20 ≤ (uI U_1 a1 4) → K_3 1 U_19)))))
set_option maxHeartbeats 4000000 in
theorem t_X2_compare {l : Launch} {Y : px_Y} {o : Nat} {a1 : Nat} {a2 : Int32} {a3 : Int32} {U : Um} {post : Um → Prop} (ho : oc o = 1) (ha1 : oc a1 = 1) (H : w_X2_compare o a1 a2 a3 U post) : um l Y 1 yX2_compare cX2_compare 6 none [.ref (Y.2.1 o), .ref (Y.2.1 a1), .int a2, .int a3] U (pq_v post) := by
  unfold w_X2_compare at H
  refine um_of (by decide) (Nat.le_of_ble_eq_true rfl) [some (.ref (Y.2.1 o)), some (.ref (Y.2.1 a1)), some (.int a2), some (.int a3), none, none] rfl (fun X h0 hh sz hM hU => ?_)
  have hC := hM.1
  have hR := hM.2.2.1
  refine pr_aload_n hC (by decide +kernel : decode cX2_compare 0 = .ok (.aload_n 0, 1)) rfl ?_
  refine pu_g0 hC fg_X2_9 (by decide +kernel : decode cX2_compare 1 = .ok (.getfield 9, 3)) hU ho (by decide) rfl rfl ?_
  refine pr_aload_n hC (by decide +kernel : decode cX2_compare 4 = .ok (.aload_n 1, 1)) rfl ?_
  refine vc_Vi hC hR [] fv_X2_21 (by decide +kernel : decode cX2_compare 5 = .ok (.invokevirtual 21, 3)) hU (t_X2_ends ha1 H) ha1 (by decide) rfl rfl rfl (Nat.le_of_ble_eq_true rfl) (Nat.le_of_ble_eq_true rfl) (Nat.le_refl 0) (Nat.le_refl 0) (fun r_2 U_1 h H hU => ?_)
  replace H := H (fun xs_4 U_5 => ∀ h : pe_H, rF Y h0 U_5 h → pw X Y.1 (pm_A hh sz) (pm_E X Y.1 hh sz 0 0 (pm_P Y h0 sz (pq_v post))) 27 [some (.ref (Y.2.1 o)), some (.ref (Y.2.1 a1)), some (.int a2), some (.int a3), none, none] [.int xs_4] h sz 0 0) (by
    intro xs_4 U_5 H h hU
    refine pr_istore hC (by decide +kernel : decode cX2_compare 27 = .ok (.istore 4, 2)) (by decide) rfl ?_
    refine pr_aload_n hC (by decide +kernel : decode cX2_compare 29 = .ok (.aload_n 0, 1)) rfl ?_
    refine pu_g0 hC fg_X2_9 (by decide +kernel : decode cX2_compare 30 = .ok (.getfield 9, 3)) hU ho (by decide) rfl rfl ?_
    refine pr_aload_n hC (by decide +kernel : decode cX2_compare 33 = .ok (.aload_n 1, 1)) rfl ?_
    refine pu_g0 hC fg_X2_9 (by decide +kernel : decode cX2_compare 34 = .ok (.getfield 9, 3)) hU ha1 (by decide) rfl rfl ?_
    replace H := H (fun xs_7 U_8 => ∀ h : pe_H, rF Y h0 U_8 h → pw X Y.1 (pm_A hh sz) (pm_E X Y.1 hh sz 0 0 (pm_P Y h0 sz (pq_v post))) 61 [some (.ref (Y.2.1 o)), none, some (.int a2), some (.int a3), some (.int xs_4), none] [.int xs_7] h sz 0 0) (by
      intro xs_7 U_8 H h hU
      refine pr_istore hC (by decide +kernel : decode cX2_compare 61 = .ok (.istore 5, 2)) (by decide) rfl ?_
      refine pr_aload_n hC (by decide +kernel : decode cX2_compare 63 = .ok (.aload_n 0, 1)) rfl ?_
      refine pr_dup hC (by decide +kernel : decode cX2_compare 64 = .ok (.dup, 1)) rfl ?_
      refine pu_g0 hC fg_X2_25 (by decide +kernel : decode cX2_compare 65 = .ok (.getfield 25, 3)) hU ho (by decide) rfl rfl ?_
      refine pr_iload hC (by decide +kernel : decode cX2_compare 68 = .ok (.iload 4, 2)) rfl ?_
      have HJ_14 : ∀ (xs_9 : Int32), xs_9 = (if xs_4 = 0 then 0 else a2) → pw X Y.1 (pm_A hh sz) (pm_E X Y.1 hh sz 0 0 (pm_P Y h0 sz (pq_v post))) 78 [some (.ref (Y.2.1 o)), none, some (.int a2), some (.int a3), none, some (.int xs_7)] [.int xs_9, .int (uI U_8 o 8), .ref (Y.2.1 o)] h sz 0 0 := by
        intro xs_9 e_xs_9
        replace H := H xs_9 e_xs_9
        refine pr_ior hC (by decide +kernel : decode cX2_compare 78 = .ok (.ior, 1)) ?_
        refine pv_p0 hC fp_X2_25 (by decide +kernel : decode cX2_compare 79 = .ok (.putfield 25, 3)) hU ho (by decide) rfl rfl rfl rfl (fun U_10 h e_U_10 hU => ?_)
        replace H := H U_10 e_U_10
        refine pr_aload_n hC (by decide +kernel : decode cX2_compare 82 = .ok (.aload_n 0, 1)) rfl ?_
        refine pr_dup hC (by decide +kernel : decode cX2_compare 83 = .ok (.dup, 1)) rfl ?_
        refine pu_g0 hC fg_X2_28 (by decide +kernel : decode cX2_compare 84 = .ok (.getfield 28, 3)) hU ho (by decide) rfl rfl ?_
        refine pr_iload_n hC (by decide +kernel : decode cX2_compare 87 = .ok (.iload_n 3, 1)) rfl ?_
        refine pr_iconst hC (-1) (by decide +kernel : decode cX2_compare 88 = .ok (.iconst (-1), 1)) rfl ?_
        refine pr_icmp_eq hC 98 (by decide +kernel : decode cX2_compare 89 = .ok (.if_icmp .eq 9, 3)) (by decide) (fun c_89 => ?_) (fun c_89 => ?_)
        · replace H := H.1 c_89
          refine pr_iload_n hC (by decide +kernel : decode cX2_compare 98 = .ok (.iload_n 2, 1)) rfl ?_
          refine pr_goto hC 103 (by decide +kernel : decode cX2_compare 99 = .ok (.goto 4, 3)) (by decide) ?_
          refine pr_ior hC (by decide +kernel : decode cX2_compare 103 = .ok (.ior, 1)) ?_
          refine pv_p0 hC fp_X2_28 (by decide +kernel : decode cX2_compare 104 = .ok (.putfield 28, 3)) hU ho (by decide) rfl rfl rfl rfl (fun U_11 h e_U_11 hU => ?_)
          replace H := H U_11 e_U_11
          exact pv_vret hM (by decide +kernel : decode cX2_compare 107 = .ok (.return_, 1)) hU H
        replace H := H.2 c_89
        refine pr_iload hC (by decide +kernel : decode cX2_compare 92 = .ok (.iload 5, 2)) rfl ?_
        refine pr_iload_n hC (by decide +kernel : decode cX2_compare 94 = .ok (.iload_n 3, 1)) rfl ?_
        refine pr_icmp_ge hC 102 (by decide +kernel : decode cX2_compare 95 = .ok (.if_icmp .ge 7, 3)) (by decide) (fun c_95 => ?_) (fun c_95 => ?_)
        · replace H := H.1 c_95
          refine pr_iconst hC (0) (by decide +kernel : decode cX2_compare 102 = .ok (.iconst 0, 1)) rfl ?_
          refine pr_ior hC (by decide +kernel : decode cX2_compare 103 = .ok (.ior, 1)) ?_
          refine pv_p0 hC fp_X2_28 (by decide +kernel : decode cX2_compare 104 = .ok (.putfield 28, 3)) hU ho (by decide) rfl rfl rfl rfl (fun U_12 h e_U_12 hU => ?_)
          replace H := H U_12 e_U_12
          exact pv_vret hM (by decide +kernel : decode cX2_compare 107 = .ok (.return_, 1)) hU H
        replace H := H.2 c_95
        refine pr_iload_n hC (by decide +kernel : decode cX2_compare 98 = .ok (.iload_n 2, 1)) rfl ?_
        refine pr_goto hC 103 (by decide +kernel : decode cX2_compare 99 = .ok (.goto 4, 3)) (by decide) ?_
        refine pr_ior hC (by decide +kernel : decode cX2_compare 103 = .ok (.ior, 1)) ?_
        refine pv_p0 hC fp_X2_28 (by decide +kernel : decode cX2_compare 104 = .ok (.putfield 28, 3)) hU ho (by decide) rfl rfl rfl rfl (fun U_13 h e_U_13 hU => ?_)
        replace H := H U_13 e_U_13
        exact pv_vret hM (by decide +kernel : decode cX2_compare 107 = .ok (.return_, 1)) hU H
      replace H := trivial
      refine pr_if_eq hC 77 (by decide +kernel : decode cX2_compare 70 = .ok (.ifCond .eq 7, 3)) (by decide) (fun c_70 => ?_) (fun c_70 => ?_)
      · skip
        refine pr_iconst hC (0) (by decide +kernel : decode cX2_compare 77 = .ok (.iconst 0, 1)) rfl ?_
        exact pv_sub [some (.ref (Y.2.1 o)), none, some (.int a2), some (.int a3), none, some (.int xs_7)] (And.intro rfl (And.intro rfl (And.intro rfl (And.intro rfl trivial)))) (HJ_14 _ (if_pos c_70).symm)
      skip
      refine pr_iload_n hC (by decide +kernel : decode cX2_compare 73 = .ok (.iload_n 2, 1)) rfl ?_
      refine pr_goto hC 78 (by decide +kernel : decode cX2_compare 74 = .ok (.goto 4, 3)) (by decide) ?_
      exact pv_sub [some (.ref (Y.2.1 o)), none, some (.int a2), some (.int a3), none, some (.int xs_7)] (And.intro rfl (And.intro rfl (And.intro rfl (And.intro rfl trivial)))) (HJ_14 _ (if_neg c_70).symm))
    refine pr_icmp_ge hC 52 (by decide +kernel : decode cX2_compare 37 = .ok (.if_icmp .ge 15, 3)) (by decide) (fun c_37 => ?_) (fun c_37 => ?_)
    · replace H := H.1 c_37
      refine pr_aload_n hC (by decide +kernel : decode cX2_compare 52 = .ok (.aload_n 0, 1)) rfl ?_
      refine pu_g0 hC fg_X2_9 (by decide +kernel : decode cX2_compare 53 = .ok (.getfield 9, 3)) hU ho (by decide) rfl rfl ?_
      refine pr_aload_n hC (by decide +kernel : decode cX2_compare 56 = .ok (.aload_n 1, 1)) rfl ?_
      refine vc_Vi hC hR [] fv_X2_21 (by decide +kernel : decode cX2_compare 57 = .ok (.invokevirtual 21, 3)) hU (t_X2_ends ha1 H) ha1 (by decide) rfl rfl rfl (Nat.le_of_ble_eq_true rfl) (Nat.le_of_ble_eq_true rfl) (Nat.le_refl 0) (Nat.le_refl 0) (fun r_16 U_15 h H hU => ?_)
      refine pr_isub hC (by decide +kernel : decode cX2_compare 60 = .ok (.isub, 1)) ?_
      exact pv_sub [some (.ref (Y.2.1 o)), none, some (.int a2), some (.int a3), some (.int xs_4), none] (And.intro rfl (And.intro rfl (And.intro rfl (And.intro rfl trivial)))) (H h hU)
    replace H := H.2 c_37
    refine pr_aload_n hC (by decide +kernel : decode cX2_compare 40 = .ok (.aload_n 1, 1)) rfl ?_
    refine pu_g0 hC fg_X2_9 (by decide +kernel : decode cX2_compare 41 = .ok (.getfield 9, 3)) hU ha1 (by decide) rfl rfl ?_
    refine pr_aload_n hC (by decide +kernel : decode cX2_compare 44 = .ok (.aload_n 0, 1)) rfl ?_
    refine vc_Vi hC hR [] fv_X2_21 (by decide +kernel : decode cX2_compare 45 = .ok (.invokevirtual 21, 3)) hU (t_X2_ends ho H) ho (by decide) rfl rfl rfl (Nat.le_of_ble_eq_true rfl) (Nat.le_of_ble_eq_true rfl) (Nat.le_refl 0) (Nat.le_refl 0) (fun r_18 U_17 h H hU => ?_)
    refine pr_isub hC (by decide +kernel : decode cX2_compare 48 = .ok (.isub, 1)) ?_
    refine pr_goto hC 61 (by decide +kernel : decode cX2_compare 49 = .ok (.goto 12, 3)) (by decide) ?_
    exact pv_sub [some (.ref (Y.2.1 o)), none, some (.int a2), some (.int a3), some (.int xs_4), none] (And.intro rfl (And.intro rfl (And.intro rfl (And.intro rfl trivial)))) (H h hU))
  refine pr_icmp_ge hC 26 (by decide +kernel : decode cX2_compare 8 = .ok (.if_icmp .ge 18, 3)) (by decide) (fun c_8 => ?_) (fun c_8 => ?_)
  · replace H := H.1 c_8
    refine pr_iconst hC (0) (by decide +kernel : decode cX2_compare 26 = .ok (.iconst 0, 1)) rfl ?_
    exact pv_sub [some (.ref (Y.2.1 o)), some (.ref (Y.2.1 a1)), some (.int a2), some (.int a3), none, none] (And.intro rfl (And.intro rfl (And.intro rfl (And.intro rfl trivial)))) (H h hU)
  replace H := H.2 c_8
  refine pr_aload_n hC (by decide +kernel : decode cX2_compare 11 = .ok (.aload_n 1, 1)) rfl ?_
  refine pu_g0 hC fg_X2_9 (by decide +kernel : decode cX2_compare 12 = .ok (.getfield 9, 3)) hU ha1 (by decide) rfl rfl ?_
  refine pr_aload_n hC (by decide +kernel : decode cX2_compare 15 = .ok (.aload_n 0, 1)) rfl ?_
  refine vc_Vi hC hR [] fv_X2_21 (by decide +kernel : decode cX2_compare 16 = .ok (.invokevirtual 21, 3)) hU (t_X2_ends ho H) ho (by decide) rfl rfl rfl (Nat.le_of_ble_eq_true rfl) (Nat.le_of_ble_eq_true rfl) (Nat.le_refl 0) (Nat.le_refl 0) (fun r_20 U_19 h H hU => ?_)
  refine pr_icmp_ge hC 26 (by decide +kernel : decode cX2_compare 19 = .ok (.if_icmp .ge 7, 3)) (by decide) (fun c_19 => ?_) (fun c_19 => ?_)
  · replace H := H.1 c_19
    refine pr_iconst hC (0) (by decide +kernel : decode cX2_compare 26 = .ok (.iconst 0, 1)) rfl ?_
    exact pv_sub [some (.ref (Y.2.1 o)), some (.ref (Y.2.1 a1)), some (.int a2), some (.int a3), none, none] (And.intro rfl (And.intro rfl (And.intro rfl (And.intro rfl trivial)))) (H h hU)
  replace H := H.2 c_19
  refine pr_iconst hC (1) (by decide +kernel : decode cX2_compare 22 = .ok (.iconst 1, 1)) rfl ?_
  refine pr_goto hC 27 (by decide +kernel : decode cX2_compare 23 = .ok (.goto 4, 3)) (by decide) ?_
  exact pv_sub [some (.ref (Y.2.1 o)), some (.ref (Y.2.1 a1)), some (.int a2), some (.int a3), none, none] (And.intro rfl (And.intro rfl (And.intro rfl (And.intro rfl trivial)))) (H h hU)
def w_X3_add (o : Nat) (a1 : Int32) (U : Um) (post : Um → Prop) : Prop :=
  ((1200 : Int32) ≤ (uI U o 1) → post U) ∧ (¬ (1200 : Int32) ≤ (uI U o 1) → vp_in (uI U o 1) 1200 ∧ ∀ (U_1 : Um), U_1 = sA U o 0 (va_up (uA U o 0) (Int32.toNatClampNeg (uI U o 1)) a1) → ∀ (U_2 : Um), U_2 = sI U_1 o 1 ((uI U_1 o 1) + 1) → post U_2)
set_option maxHeartbeats 4000000 in
theorem t_X3_add {l : Launch} {Y : px_Y} {o : Nat} {a1 : Int32} {U : Um} {post : Um → Prop} (ho : oc o = 2) (H : w_X3_add o a1 U post) : um l Y 0 yX3_add cX3_add 2 none [.ref (Y.2.1 o), .int a1] U (pq_v post) := by
  unfold w_X3_add at H
  refine um_of (by decide) (Nat.le_of_ble_eq_true rfl) [some (.ref (Y.2.1 o)), some (.int a1)] rfl (fun X h0 hh sz hM hU => ?_)
  have hC := hM.1
  have hR := hM.2.2.1
  refine pr_aload_n hC (by decide +kernel : decode cX3_add 0 = .ok (.aload_n 0, 1)) rfl ?_
  refine pu_g0 hC fg_X3_24 (by decide +kernel : decode cX3_add 1 = .ok (.getfield 24, 3)) hU ho (by decide) rfl rfl ?_
  refine pr_aload_n hC (by decide +kernel : decode cX3_add 4 = .ok (.aload_n 0, 1)) rfl ?_
  refine pu_g1 hC fg_X3_11 (by decide +kernel : decode cX3_add 5 = .ok (.getfield 11, 3)) hU ho (by decide) rfl (by decide) ?_
  refine pu_len1 hC (by decide +kernel : decode cX3_add 8 = .ok (.arraylength, 1)) hU ho rfl (v := 1200) rfl ?_
  refine pr_icmp_ge hC 32 (by decide +kernel : decode cX3_add 9 = .ok (.if_icmp .ge 23, 3)) (by decide) (fun c_9 => ?_) (fun c_9 => ?_)
  · replace H := H.1 c_9
    exact pv_vret hM (by decide +kernel : decode cX3_add 32 = .ok (.return_, 1)) hU H
  replace H := H.2 c_9
  refine pr_aload_n hC (by decide +kernel : decode cX3_add 12 = .ok (.aload_n 0, 1)) rfl ?_
  refine pu_g1 hC fg_X3_11 (by decide +kernel : decode cX3_add 13 = .ok (.getfield 11, 3)) hU ho (by decide) rfl (by decide) ?_
  refine pr_aload_n hC (by decide +kernel : decode cX3_add 16 = .ok (.aload_n 0, 1)) rfl ?_
  refine pu_g0 hC fg_X3_24 (by decide +kernel : decode cX3_add 17 = .ok (.getfield 24, 3)) hU ho (by decide) rfl rfl ?_
  refine pr_iload_n hC (by decide +kernel : decode cX3_add 20 = .ok (.iload_n 1, 1)) rfl ?_
  refine pv_iast hC (by decide +kernel : decode cX3_add 21 = .ok (.iastore, 1)) hU ho rfl H.1 (fun U_1 h e_U_1 hU => ?_)
  replace H := H.2 U_1 e_U_1
  refine pr_aload_n hC (by decide +kernel : decode cX3_add 22 = .ok (.aload_n 0, 1)) rfl ?_
  refine pr_dup hC (by decide +kernel : decode cX3_add 23 = .ok (.dup, 1)) rfl ?_
  refine pu_g0 hC fg_X3_24 (by decide +kernel : decode cX3_add 24 = .ok (.getfield 24, 3)) hU ho (by decide) rfl rfl ?_
  refine pr_iconst hC (1) (by decide +kernel : decode cX3_add 27 = .ok (.iconst 1, 1)) rfl ?_
  refine pr_iadd hC (by decide +kernel : decode cX3_add 28 = .ok (.iadd, 1)) ?_
  refine pv_p0 hC fp_X3_24 (by decide +kernel : decode cX3_add 29 = .ok (.putfield 24, 3)) hU ho (by decide) rfl rfl rfl rfl (fun U_2 h e_U_2 hU => ?_)
  replace H := H U_2 e_U_2
  exact pv_vret hM (by decide +kernel : decode cX3_add 32 = .ok (.return_, 1)) hU H
def b_X5_empty_L15 (o0 : Nat) (x1 : Int32) (post : Um → Prop) (k_36 : Um → Prop) (rec_ : Int32 → Um → Prop) (x2 : Int32) (U : Um) : Prop :=
  ((6 : Int32) ≤ x2 → k_36 U) ∧ (¬ (6 : Int32) ≤ x2 → vp_in x1 6 ∧ vp_in x2 6 ∧ ∀ (U_3 : Um), U_3 = sA U o0 (ki 1 (Int32.toNatClampNeg x1)) (va_up (uA U o0 (ki 1 (Int32.toNatClampNeg x1))) (Int32.toNatClampNeg x2) 0) → ∀ (x2_4 : Int32), x2_4 = x2 + 1 → rec_ x2_4 U_3)
def w_X5_empty_L15 (o0 : Nat) (x1 : Int32) (post : Um → Prop) (k_36 : Um → Prop) (n_ : Nat) : Int32 → Um → Prop := Nat.rec (motive := fun _ => Int32 → Um → Prop) (fun _ _ => False) (fun _ ih => b_X5_empty_L15 o0 x1 post k_36 ih) n_
def b_X5_empty_L7 (o0 : Nat) (post : Um → Prop) (k_42 : Um → Prop) (rec_ : Int32 → Um → Prop) (x1 : Int32) (U : Um) : Prop :=
  ((6 : Int32) ≤ x1 → k_42 U) ∧ (¬ (6 : Int32) ≤ x1 → (∃ n_7, w_X5_empty_L15 o0 x1 post (fun U_5 => ∀ (x1_6 : Int32), x1_6 = x1 + 1 → rec_ x1_6 U_5) n_7 0 U))
def w_X5_empty_L7 (o0 : Nat) (post : Um → Prop) (k_42 : Um → Prop) (n_ : Nat) : Int32 → Um → Prop := Nat.rec (motive := fun _ => Int32 → Um → Prop) (fun _ _ => False) (fun _ ih => b_X5_empty_L7 o0 post k_42 ih) n_
def w_X5_empty (o : Nat) (U : Um) (post : Um → Prop) : Prop :=
  ∀ (U_1 : Um), U_1 = sI U o 0 0 → (∃ n_9, w_X5_empty_L7 o post (fun U_8 => post U_8) n_9 0 U_1)
set_option maxHeartbeats 4000000 in
theorem tl_X5_empty_L15 {l : Launch} {Y : px_Y} {X : px_X} {h0 hh : pe_H} {sz : Nat} (o0 : Nat) (x1 : Int32) (post : Um → Prop) (k_36 : Um → Prop) (ho0 : oc o0 = 4)  (hC : px_C X Y.1 (pm_A hh sz) cX5_empty RX5 3) (hM : px_M l X Y.1 hh sz yX5_empty cX5_empty 3 none 0 0 0) (hR : X.2.2.2.1 = pm_rm 0 0 0) (hk_36 : ∀ (U : Um) (h : pe_H), k_36 U → rF Y h0 U h → pw X Y.1 (pm_A hh sz) (pm_E X Y.1 hh sz 0 0 (pm_P Y h0 sz (pq_v post))) 36 [some (.ref (Y.2.1 o0)), some (.int x1), none] [] h sz 0 0) : ∀ (n_ : Nat) (x2 : Int32) (U : Um) (h : pe_H), rF Y h0 U h → w_X5_empty_L15 o0 x1 post k_36 n_ x2 U → pw X Y.1 (pm_A hh sz) (pm_E X Y.1 hh sz 0 0 (pm_P Y h0 sz (pq_v post))) 15 [some (.ref (Y.2.1 o0)), some (.int x1), some (.int x2)] [] h sz 0 0 := by
  intro n_
  induction n_ with
  | zero => intro x2 U h hU H; exact False.elim H
  | succ n_ ih =>
    intro x2 U h hU H
    replace H : b_X5_empty_L15 o0 x1 post k_36 (w_X5_empty_L15 o0 x1 post k_36 n_) x2 U := H
    unfold b_X5_empty_L15 at H
    refine pr_iload_n hC (by decide +kernel : decode cX5_empty 15 = .ok (.iload_n 2, 1)) rfl ?_
    refine pr_bipush hC (6) (by decide +kernel : decode cX5_empty 16 = .ok (.bipush 6, 2)) rfl ?_
    refine pr_icmp_ge hC 36 (by decide +kernel : decode cX5_empty 18 = .ok (.if_icmp .ge 18, 3)) (by decide) (fun c_18 => ?_) (fun c_18 => ?_)
    · replace H := H.1 c_18
      exact pv_sub [some (.ref (Y.2.1 o0)), some (.int x1), none] (And.intro rfl (And.intro rfl trivial)) (hk_36 U h H hU)
    replace H := H.2 c_18
    refine pr_aload_n hC (by decide +kernel : decode cX5_empty 21 = .ok (.aload_n 0, 1)) rfl ?_
    refine pu_g1 hC fg_X5_13 (by decide +kernel : decode cX5_empty 22 = .ok (.getfield 13, 3)) hU ho0 (by decide) rfl (by decide) ?_
    refine pr_iload_n hC (by decide +kernel : decode cX5_empty 25 = .ok (.iload_n 1, 1)) rfl ?_
    have q_2 := H.1
    replace H := H.2
    refine pu_aald6 hC (by decide +kernel : decode cX5_empty 26 = .ok (.aaload, 1)) hU ho0 rfl q_2 ?_
    refine pr_iload_n hC (by decide +kernel : decode cX5_empty 27 = .ok (.iload_n 2, 1)) rfl ?_
    refine pr_iconst hC (0) (by decide +kernel : decode cX5_empty 28 = .ok (.iconst 0, 1)) rfl ?_
    refine pv_iast7 hC (by decide +kernel : decode cX5_empty 29 = .ok (.iastore, 1)) hU ho0 rfl (vp_lt q_2) H.1 (fun U_3 h e_U_3 hU => ?_)
    replace H := H.2 U_3 e_U_3
    refine pv_iinc hC (v := x2 + 1) (by decide +kernel : decode cX5_empty 30 = .ok (.iinc 2 1, 3)) rfl (by decide) rfl rfl (fun x2_4 e_x2_4 => ?_)
    replace H := H x2_4 e_x2_4
    refine pr_goto hC 15 (by decide +kernel : decode cX5_empty 33 = .ok (.goto (-18), 3)) (by decide) ?_
    exact pv_sub [some (.ref (Y.2.1 o0)), some (.int x1), some (.int x2_4)] (And.intro rfl (And.intro rfl (And.intro rfl trivial))) (ih _ U_3 h hU H)
set_option maxHeartbeats 4000000 in
theorem tl_X5_empty_L7 {l : Launch} {Y : px_Y} {X : px_X} {h0 hh : pe_H} {sz : Nat} (o0 : Nat) (post : Um → Prop) (k_42 : Um → Prop) (ho0 : oc o0 = 4)  (hC : px_C X Y.1 (pm_A hh sz) cX5_empty RX5 3) (hM : px_M l X Y.1 hh sz yX5_empty cX5_empty 3 none 0 0 0) (hR : X.2.2.2.1 = pm_rm 0 0 0) (hk_42 : ∀ (U : Um) (h : pe_H), k_42 U → rF Y h0 U h → pw X Y.1 (pm_A hh sz) (pm_E X Y.1 hh sz 0 0 (pm_P Y h0 sz (pq_v post))) 42 [none, none, none] [] h sz 0 0) : ∀ (n_ : Nat) (x1 : Int32) (U : Um) (h : pe_H), rF Y h0 U h → w_X5_empty_L7 o0 post k_42 n_ x1 U → pw X Y.1 (pm_A hh sz) (pm_E X Y.1 hh sz 0 0 (pm_P Y h0 sz (pq_v post))) 7 [some (.ref (Y.2.1 o0)), some (.int x1), none] [] h sz 0 0 := by
  intro n_
  induction n_ with
  | zero => intro x1 U h hU H; exact False.elim H
  | succ n_ ih =>
    intro x1 U h hU H
    replace H : b_X5_empty_L7 o0 post k_42 (w_X5_empty_L7 o0 post k_42 n_) x1 U := H
    unfold b_X5_empty_L7 at H
    refine pr_iload_n hC (by decide +kernel : decode cX5_empty 7 = .ok (.iload_n 1, 1)) rfl ?_
    refine pr_bipush hC (6) (by decide +kernel : decode cX5_empty 8 = .ok (.bipush 6, 2)) rfl ?_
    refine pr_icmp_ge hC 42 (by decide +kernel : decode cX5_empty 10 = .ok (.if_icmp .ge 32, 3)) (by decide) (fun c_10 => ?_) (fun c_10 => ?_)
    · replace H := H.1 c_10
      exact pv_sub [none, none, none] (trivial) (hk_42 U h H hU)
    replace H := H.2 c_10
    refine pr_iconst hC (0) (by decide +kernel : decode cX5_empty 13 = .ok (.iconst 0, 1)) rfl ?_
    refine pr_istore_n hC (by decide +kernel : decode cX5_empty 14 = .ok (.istore_n 2, 1)) (by decide) rfl ?_
    obtain ⟨n_7, H⟩ := H
    refine pv_sub [some (.ref (Y.2.1 o0)), some (.int x1), some (.int 0)] (And.intro rfl (And.intro rfl (And.intro rfl trivial))) ?_
    refine tl_X5_empty_L15 _ _ _ _ ho0 hC hM hR (fun U_5 h H hU => ?_) n_7 _ U h hU H
    refine pv_iinc hC (v := x1 + 1) (by decide +kernel : decode cX5_empty 36 = .ok (.iinc 1 1, 3)) rfl (by decide) rfl rfl (fun x1_6 e_x1_6 => ?_)
    replace H := H x1_6 e_x1_6
    refine pr_goto hC 7 (by decide +kernel : decode cX5_empty 39 = .ok (.goto (-32), 3)) (by decide) ?_
    exact pv_sub [some (.ref (Y.2.1 o0)), some (.int x1_6), none] (And.intro rfl (And.intro rfl trivial)) (ih _ U_5 h hU H)
set_option maxHeartbeats 4000000 in
theorem t_X5_empty {l : Launch} {Y : px_Y} {o : Nat} {U : Um} {post : Um → Prop} (ho : oc o = 4) (H : w_X5_empty o U post) : um l Y 0 yX5_empty cX5_empty 3 none [.ref (Y.2.1 o)] U (pq_v post) := by
  unfold w_X5_empty at H
  refine um_of (by decide) (Nat.le_of_ble_eq_true rfl) [some (.ref (Y.2.1 o)), none, none] rfl (fun X h0 hh sz hM hU => ?_)
  have hC := hM.1
  have hR := hM.2.2.1
  refine pr_aload_n hC (by decide +kernel : decode cX5_empty 0 = .ok (.aload_n 0, 1)) rfl ?_
  refine pr_iconst hC (0) (by decide +kernel : decode cX5_empty 1 = .ok (.iconst 0, 1)) rfl ?_
  refine pv_p0 hC fp_X5_19 (by decide +kernel : decode cX5_empty 2 = .ok (.putfield 19, 3)) hU ho (by decide) rfl rfl rfl rfl (fun U_1 h e_U_1 hU => ?_)
  replace H := H U_1 e_U_1
  refine pr_iconst hC (0) (by decide +kernel : decode cX5_empty 5 = .ok (.iconst 0, 1)) rfl ?_
  refine pr_istore_n hC (by decide +kernel : decode cX5_empty 6 = .ok (.istore_n 1, 1)) (by decide) rfl ?_
  obtain ⟨n_9, H⟩ := H
  refine pv_sub [some (.ref (Y.2.1 o)), some (.int 0), none] (And.intro rfl (And.intro rfl trivial)) ?_
  refine tl_X5_empty_L7 _ _ _ ho hC hM hR (fun U_8 h H hU => ?_) n_9 _ U_1 h hU H
  exact pv_vret hM (by decide +kernel : decode cX5_empty 42 = .ok (.return_, 1)) hU H
def b_X9_empty_L2 (o0 : Nat) (post : Um → Prop) (k_24 : Um → Prop) (rec_ : Int32 → Um → Prop) (x1 : Int32) (U : Um) : Prop :=
  ((3 : Int32) ≤ x1 → k_24 U) ∧ (¬ (3 : Int32) ≤ x1 → vp_in x1 3 ∧ ∀ (U_1 : Um), U_1 = sA U o0 1 (va_up (uA U o0 1) (Int32.toNatClampNeg x1) 0) → ∀ (x1_2 : Int32), x1_2 = x1 + 1 → rec_ x1_2 U_1)
def w_X9_empty_L2 (o0 : Nat) (post : Um → Prop) (k_24 : Um → Prop) (n_ : Nat) : Int32 → Um → Prop := Nat.rec (motive := fun _ => Int32 → Um → Prop) (fun _ _ => False) (fun _ ih => b_X9_empty_L2 o0 post k_24 ih) n_
def w_X9_empty (o : Nat) (U : Um) (post : Um → Prop) : Prop :=
  (∃ n_12, w_X9_empty_L2 o post (fun U_3 => ∀ (U_4 : Um), U_4 = sI U_3 o 7 0 → ∀ (U_5 : Um), U_5 = sI U_4 o 8 10 → ∀ (U_6 : Um), U_6 = sI U_5 o 9 3 → oc (uR U_6 o 10) = 4 ∧ w_X5_empty (uR U_6 o 10) U_6 (fun U_8 => oc (uR U_8 o 11) = 2 ∧ ∀ (U_11 : Um), U_11 = sI U_8 (uR U_8 o 11) 1 0 → post U_11)) n_12 0 U)
set_option maxHeartbeats 4000000 in
theorem tl_X9_empty_L2 {l : Launch} {Y : px_Y} {X : px_X} {h0 hh : pe_H} {sz : Nat} (o0 : Nat) (post : Um → Prop) (k_24 : Um → Prop) (ho0 : oc o0 = 8)  (hC : px_C X Y.1 (pm_A hh sz) cX9_empty RX9 2) (hM : px_M l X Y.1 hh sz yX9_empty cX9_empty 2 none 1 0 0) (hR : X.2.2.2.1 = pm_rm 1 0 0) (hk_24 : ∀ (U : Um) (h : pe_H), k_24 U → rF Y h0 U h → pw X Y.1 (pm_A hh sz) (pm_E X Y.1 hh sz 0 0 (pm_P Y h0 sz (pq_v post))) 24 [some (.ref (Y.2.1 o0)), none] [] h sz 0 0) : ∀ (n_ : Nat) (x1 : Int32) (U : Um) (h : pe_H), rF Y h0 U h → w_X9_empty_L2 o0 post k_24 n_ x1 U → pw X Y.1 (pm_A hh sz) (pm_E X Y.1 hh sz 0 0 (pm_P Y h0 sz (pq_v post))) 2 [some (.ref (Y.2.1 o0)), some (.int x1)] [] h sz 0 0 := by
  intro n_
  induction n_ with
  | zero => intro x1 U h hU H; exact False.elim H
  | succ n_ ih =>
    intro x1 U h hU H
    replace H : b_X9_empty_L2 o0 post k_24 (w_X9_empty_L2 o0 post k_24 n_) x1 U := H
    unfold b_X9_empty_L2 at H
    refine pr_iload_n hC (by decide +kernel : decode cX9_empty 2 = .ok (.iload_n 1, 1)) rfl ?_
    refine pr_aload_n hC (by decide +kernel : decode cX9_empty 3 = .ok (.aload_n 0, 1)) rfl ?_
    refine pu_g1 hC fg_X9_16 (by decide +kernel : decode cX9_empty 4 = .ok (.getfield 16, 3)) hU ho0 (by decide) rfl (by decide) ?_
    refine pu_len1 hC (by decide +kernel : decode cX9_empty 7 = .ok (.arraylength, 1)) hU ho0 rfl (v := 3) rfl ?_
    refine pr_icmp_ge hC 24 (by decide +kernel : decode cX9_empty 8 = .ok (.if_icmp .ge 16, 3)) (by decide) (fun c_8 => ?_) (fun c_8 => ?_)
    · replace H := H.1 c_8
      exact pv_sub [some (.ref (Y.2.1 o0)), none] (And.intro rfl trivial) (hk_24 U h H hU)
    replace H := H.2 c_8
    refine pr_aload_n hC (by decide +kernel : decode cX9_empty 11 = .ok (.aload_n 0, 1)) rfl ?_
    refine pu_g1 hC fg_X9_16 (by decide +kernel : decode cX9_empty 12 = .ok (.getfield 16, 3)) hU ho0 (by decide) rfl (by decide) ?_
    refine pr_iload_n hC (by decide +kernel : decode cX9_empty 15 = .ok (.iload_n 1, 1)) rfl ?_
    refine pr_iconst hC (0) (by decide +kernel : decode cX9_empty 16 = .ok (.iconst 0, 1)) rfl ?_
    refine pv_iast hC (by decide +kernel : decode cX9_empty 17 = .ok (.iastore, 1)) hU ho0 rfl H.1 (fun U_1 h e_U_1 hU => ?_)
    replace H := H.2 U_1 e_U_1
    refine pv_iinc hC (v := x1 + 1) (by decide +kernel : decode cX9_empty 18 = .ok (.iinc 1 1, 3)) rfl (by decide) rfl rfl (fun x1_2 e_x1_2 => ?_)
    replace H := H x1_2 e_x1_2
    refine pr_goto hC 2 (by decide +kernel : decode cX9_empty 21 = .ok (.goto (-19), 3)) (by decide) ?_
    exact pv_sub [some (.ref (Y.2.1 o0)), some (.int x1_2)] (And.intro rfl (And.intro rfl trivial)) (ih _ U_1 h hU H)
set_option maxHeartbeats 4000000 in
theorem t_X9_empty {l : Launch} {Y : px_Y} {o : Nat} {U : Um} {post : Um → Prop} (ho : oc o = 8) (H : w_X9_empty o U post) : um l Y 1 yX9_empty cX9_empty 2 none [.ref (Y.2.1 o)] U (pq_v post) := by
  unfold w_X9_empty at H
  refine um_of (by decide) (Nat.le_of_ble_eq_true rfl) [some (.ref (Y.2.1 o)), none] rfl (fun X h0 hh sz hM hU => ?_)
  have hC := hM.1
  have hR := hM.2.2.1
  refine pr_iconst hC (0) (by decide +kernel : decode cX9_empty 0 = .ok (.iconst 0, 1)) rfl ?_
  refine pr_istore_n hC (by decide +kernel : decode cX9_empty 1 = .ok (.istore_n 1, 1)) (by decide) rfl ?_
  obtain ⟨n_12, H⟩ := H
  refine pv_sub [some (.ref (Y.2.1 o)), some (.int 0)] (And.intro rfl (And.intro rfl trivial)) ?_
  refine tl_X9_empty_L2 _ _ _ ho hC hM hR (fun U_3 h H hU => ?_) n_12 _ U hh hU H
  refine pr_aload_n hC (by decide +kernel : decode cX9_empty 24 = .ok (.aload_n 0, 1)) rfl ?_
  refine pr_iconst hC (0) (by decide +kernel : decode cX9_empty 25 = .ok (.iconst 0, 1)) rfl ?_
  refine pv_p0 hC fp_X9_69 (by decide +kernel : decode cX9_empty 26 = .ok (.putfield 69, 3)) hU ho (by decide) rfl rfl rfl rfl (fun U_4 h e_U_4 hU => ?_)
  replace H := H U_4 e_U_4
  refine pr_aload_n hC (by decide +kernel : decode cX9_empty 29 = .ok (.aload_n 0, 1)) rfl ?_
  refine pr_bipush hC (10) (by decide +kernel : decode cX9_empty 30 = .ok (.bipush 10, 2)) rfl ?_
  refine pv_p0 hC fp_X9_62 (by decide +kernel : decode cX9_empty 32 = .ok (.putfield 62, 3)) hU ho (by decide) rfl rfl rfl rfl (fun U_5 h e_U_5 hU => ?_)
  replace H := H U_5 e_U_5
  refine pr_aload_n hC (by decide +kernel : decode cX9_empty 35 = .ok (.aload_n 0, 1)) rfl ?_
  refine pr_iconst hC (3) (by decide +kernel : decode cX9_empty 36 = .ok (.iconst 3, 1)) rfl ?_
  refine pv_p0 hC fp_X9_66 (by decide +kernel : decode cX9_empty 37 = .ok (.putfield 66, 3)) hU ho (by decide) rfl rfl rfl rfl (fun U_6 h e_U_6 hU => ?_)
  replace H := H U_6 e_U_6
  refine pr_aload_n hC (by decide +kernel : decode cX9_empty 40 = .ok (.aload_n 0, 1)) rfl ?_
  refine pu_g21 hC fg_X9_42 (by decide +kernel : decode cX9_empty 41 = .ok (.getfield 42, 3)) hU ho (by decide) rfl rfl ?_
  have q_7 := H.1
  replace H := H.2
  refine vc_Vv hC hR [] fv_X9_72 (by decide +kernel : decode cX9_empty 44 = .ok (.invokevirtual 72, 3)) hU (t_X5_empty q_7 H) q_7 (by decide) rfl rfl rfl (Nat.le_of_ble_eq_true rfl) (Nat.le_of_ble_eq_true rfl) (Nat.le_refl 0) (Nat.le_refl 0) (fun U_8 h H hU => ?_)
  refine pr_aload_n hC (by decide +kernel : decode cX9_empty 47 = .ok (.aload_n 0, 1)) rfl ?_
  refine pu_g21 hC fg_X9_49 (by decide +kernel : decode cX9_empty 48 = .ok (.getfield 49, 3)) hU ho (by decide) rfl rfl ?_
  have q_10 := H.1
  replace H := H.2
  refine pr_iconst hC (0) (by decide +kernel : decode cX9_empty 51 = .ok (.iconst 0, 1)) rfl ?_
  refine pv_p0 hC fp_X9_75 (by decide +kernel : decode cX9_empty 52 = .ok (.putfield 75, 3)) hU q_10 (by decide) rfl rfl rfl rfl (fun U_11 h e_U_11 hU => ?_)
  replace H := H U_11 e_U_11
  exact pv_vret hM (by decide +kernel : decode cX9_empty 55 = .ok (.return_, 1)) hU H
def b_X8_advance_L16 (o0 : Nat) (post : Um → Prop) (k_68 : Um → Prop) (rec_ : Um → Prop)  (U : Um) : Prop :=
  ((uI U o0 1) ≤ (uI U o0 2) → k_68 U) ∧ (¬ (uI U o0 1) ≤ (uI U o0 2) → vp_in (uI U o0 2) 1200 ∧ ((uA U o0 0 (Int32.toNatClampNeg (uI U o0 2))) = 32 → ∀ (U_3 : Um), U_3 = sI U o0 2 ((uI U o0 2) + 1) → rec_ U_3) ∧ (¬ (uA U o0 0 (Int32.toNatClampNeg (uI U o0 2))) = 32 → vp_in (uI U o0 2) 1200 ∧ ((uA U o0 0 (Int32.toNatClampNeg (uI U o0 2))) = 10 → ∀ (U_4 : Um), U_4 = sI U o0 2 ((uI U o0 2) + 1) → rec_ U_4) ∧ (¬ (uA U o0 0 (Int32.toNatClampNeg (uI U o0 2))) = 10 → k_68 U)))
def w_X8_advance_L16 (o0 : Nat) (post : Um → Prop) (k_68 : Um → Prop) (n_ : Nat) : Um → Prop := Nat.rec (motive := fun _ => Um → Prop) (fun _ => False) (fun _ ih => b_X8_advance_L16 o0 post k_68 ih) n_
def b_X8_advance_L78 (o0 : Nat) (post : Um → Prop) (k_150 : Int32 → Um → Prop) (rec_ : Int32 → Um → Prop) (x1 : Int32) (U : Um) : Prop :=
  ((uI U o0 1) ≤ (uI U o0 3) → k_150 x1 U) ∧ (¬ (uI U o0 1) ≤ (uI U o0 3) → vp_in (uI U o0 3) 1200 ∧ ((uA U o0 0 (Int32.toNatClampNeg (uI U o0 3))) < 97 → k_150 x1 U) ∧ (¬ (uA U o0 0 (Int32.toNatClampNeg (uI U o0 3))) < 97 → vp_in (uI U o0 3) 1200 ∧ ((122 : Int32) < (uA U o0 0 (Int32.toNatClampNeg (uI U o0 3))) → k_150 x1 U) ∧ (¬ (122 : Int32) < (uA U o0 0 (Int32.toNatClampNeg (uI U o0 3))) → vp_in (uI U o0 3) 1200 ∧ ∀ (x1_7 : Int32), x1_7 = (((x1 * 27) + (uA U o0 0 (Int32.toNatClampNeg (uI U o0 3)))) - 97) + 1 → ∀ (U_8 : Um), U_8 = sI U o0 3 ((uI U o0 3) + 1) → rec_ x1_7 U_8)))
def w_X8_advance_L78 (o0 : Nat) (post : Um → Prop) (k_150 : Int32 → Um → Prop) (n_ : Nat) : Int32 → Um → Prop := Nat.rec (motive := fun _ => Int32 → Um → Prop) (fun _ _ => False) (fun _ ih => b_X8_advance_L78 o0 post k_150 ih) n_
def b_X8_advance_L181 (o0 : Nat) (x2 : Int32) (post : Um → Prop) (k_255 : Int32 → Um → Prop) (rec_ : Int32 → Um → Prop) (x1 : Int32) (U : Um) : Prop :=
  (x2 = 0 → ((uI U o0 1) ≤ (uI U o0 3) → k_255 x1 U) ∧ (¬ (uI U o0 1) ≤ (uI U o0 3) → vp_in (uI U o0 3) 1200 ∧ ((uA U o0 0 (Int32.toNatClampNeg (uI U o0 3))) < 48 → k_255 x1 U) ∧ (¬ (uA U o0 0 (Int32.toNatClampNeg (uI U o0 3))) < 48 → vp_in (uI U o0 3) 1200 ∧ ((57 : Int32) < (uA U o0 0 (Int32.toNatClampNeg (uI U o0 3))) → k_255 x1 U) ∧ (¬ (57 : Int32) < (uA U o0 0 (Int32.toNatClampNeg (uI U o0 3))) → vp_in (uI U o0 3) 1200 ∧ ∀ (x1_15 : Int32), x1_15 = ((x1 * 10) + (uA U o0 0 (Int32.toNatClampNeg (uI U o0 3)))) - 48 → ∀ (U_16 : Um), U_16 = sI U o0 3 ((uI U o0 3) + 1) → rec_ x1_15 U_16)))) ∧ (¬ x2 = 0 → k_255 x1 U)
def w_X8_advance_L181 (o0 : Nat) (x2 : Int32) (post : Um → Prop) (k_255 : Int32 → Um → Prop) (n_ : Nat) : Int32 → Um → Prop := Nat.rec (motive := fun _ => Int32 → Um → Prop) (fun _ _ => False) (fun _ ih => b_X8_advance_L181 o0 x2 post k_255 ih) n_
def w_X8_advance (o : Nat) (U : Um) (post : Um → Prop) : Prop :=
  ∀ (U_1 : Um), U_1 = sI U o 4 (uI U o 2) → ∀ (U_2 : Um), U_2 = sI U_1 o 2 (uI U_1 o 3) → (∃ n_30, w_X8_advance_L16 o post (fun U_5 => ∀ (U_6 : Um), U_6 = sI U_5 o 3 (uI U_5 o 2) → (∃ n_29, w_X8_advance_L78 o post (fun x1_9 U_10 => ∀ (x2_11 : Int32), x2_11 = (uI U_10 o 3) - (uI U_10 o 2) → ∀ (xs_13 : Int32), xs_13 = (if x2_11 ≤ 0 then (-1) else (if (6 : Int32) < x2_11 then (-1) else x1_9)) → ∀ (U_14 : Um), U_14 = sI U_10 o 5 xs_13 → (∃ n_27, w_X8_advance_L181 o x2_11 post (fun x1_17 U_18 => ∀ (x3_19 : Int32), x3_19 = ((uI U_18 o 3) - (uI U_18 o 2)) - x2_11 → ∀ (xs_21 : Int32), xs_21 = (if x3_19 ≤ 0 then (-1) else (if (4 : Int32) < x3_19 then (-1) else x1_17)) → ∀ (U_22 : Um), U_22 = sI U_18 o 6 xs_21 → ∀ (U_23 : Um), U_23 = sI U_22 o 7 (-1) → ((uI U_23 o 3) = (uI U_23 o 2) → ((uI U_23 o 1) ≤ (uI U_23 o 2) → post U_23) ∧ (¬ (uI U_23 o 1) ≤ (uI U_23 o 2) → vp_in (uI U_23 o 2) 1200 ∧ ∀ (U_24 : Um), U_24 = sI U_23 o 7 ((uA U_23 o 0 (Int32.toNatClampNeg (uI U_23 o 2))) &&& 255) → ∀ (U_25 : Um), U_25 = sI U_24 o 3 ((uI U_24 o 3) + 1) → post U_25)) ∧ (¬ (uI U_23 o 3) = (uI U_23 o 2) → post U_23)) n_27 0 U_14)) n_29 0 U_6)) n_30  U_2)
set_option maxHeartbeats 4000000 in
theorem tl_X8_advance_L16 {l : Launch} {Y : px_Y} {X : px_X} {h0 hh : pe_H} {sz : Nat} (o0 : Nat) (post : Um → Prop) (k_68 : Um → Prop) (ho0 : oc o0 = 7)  (hC : px_C X Y.1 (pm_A hh sz) cX8_advance RX8 4) (hM : px_M l X Y.1 hh sz yX8_advance cX8_advance 4 none 0 0 0) (hR : X.2.2.2.1 = pm_rm 0 0 0) (hk_68 : ∀ (U : Um) (h : pe_H), k_68 U → rF Y h0 U h → pw X Y.1 (pm_A hh sz) (pm_E X Y.1 hh sz 0 0 (pm_P Y h0 sz (pq_v post))) 68 [some (.ref (Y.2.1 o0)), none, none, none] [] h sz 0 0) : ∀ (n_ : Nat)  (U : Um) (h : pe_H), rF Y h0 U h → w_X8_advance_L16 o0 post k_68 n_  U → pw X Y.1 (pm_A hh sz) (pm_E X Y.1 hh sz 0 0 (pm_P Y h0 sz (pq_v post))) 16 [some (.ref (Y.2.1 o0)), none, none, none] [] h sz 0 0 := by
  intro n_
  induction n_ with
  | zero => intro  U h hU H; exact False.elim H
  | succ n_ ih =>
    intro  U h hU H
    replace H : b_X8_advance_L16 o0 post k_68 (w_X8_advance_L16 o0 post k_68 n_)  U := H
    unfold b_X8_advance_L16 at H
    refine pr_aload_n hC (by decide +kernel : decode cX8_advance 16 = .ok (.aload_n 0, 1)) rfl ?_
    refine pu_g0 hC fg_X8_19 (by decide +kernel : decode cX8_advance 17 = .ok (.getfield 19, 3)) hU ho0 (by decide) rfl rfl ?_
    refine pr_aload_n hC (by decide +kernel : decode cX8_advance 20 = .ok (.aload_n 0, 1)) rfl ?_
    refine pu_g0 hC fg_X8_15 (by decide +kernel : decode cX8_advance 21 = .ok (.getfield 15, 3)) hU ho0 (by decide) rfl rfl ?_
    refine pr_icmp_ge hC 68 (by decide +kernel : decode cX8_advance 24 = .ok (.if_icmp .ge 44, 3)) (by decide) (fun c_24 => ?_) (fun c_24 => ?_)
    · replace H := H.1 c_24
      exact pv_sub [some (.ref (Y.2.1 o0)), none, none, none] (And.intro rfl trivial) (hk_68 U h H hU)
    replace H := H.2 c_24
    refine pr_aload_n hC (by decide +kernel : decode cX8_advance 27 = .ok (.aload_n 0, 1)) rfl ?_
    refine pu_g1 hC fg_X8_11 (by decide +kernel : decode cX8_advance 28 = .ok (.getfield 11, 3)) hU ho0 (by decide) rfl (by decide) ?_
    refine pr_aload_n hC (by decide +kernel : decode cX8_advance 31 = .ok (.aload_n 0, 1)) rfl ?_
    refine pu_g0 hC fg_X8_19 (by decide +kernel : decode cX8_advance 32 = .ok (.getfield 19, 3)) hU ho0 (by decide) rfl rfl ?_
    refine pu_bald hC (by decide +kernel : decode cX8_advance 35 = .ok (.baload, 1)) hU ho0 rfl H.1 ?_
    replace H := H.2
    refine pr_bipush hC (32) (by decide +kernel : decode cX8_advance 36 = .ok (.bipush 32, 2)) rfl ?_
    refine pr_icmp_eq hC 55 (by decide +kernel : decode cX8_advance 38 = .ok (.if_icmp .eq 17, 3)) (by decide) (fun c_38 => ?_) (fun c_38 => ?_)
    · replace H := H.1 c_38
      refine pr_aload_n hC (by decide +kernel : decode cX8_advance 55 = .ok (.aload_n 0, 1)) rfl ?_
      refine pr_dup hC (by decide +kernel : decode cX8_advance 56 = .ok (.dup, 1)) rfl ?_
      refine pu_g0 hC fg_X8_19 (by decide +kernel : decode cX8_advance 57 = .ok (.getfield 19, 3)) hU ho0 (by decide) rfl rfl ?_
      refine pr_iconst hC (1) (by decide +kernel : decode cX8_advance 60 = .ok (.iconst 1, 1)) rfl ?_
      refine pr_iadd hC (by decide +kernel : decode cX8_advance 61 = .ok (.iadd, 1)) ?_
      refine pv_p0 hC fp_X8_19 (by decide +kernel : decode cX8_advance 62 = .ok (.putfield 19, 3)) hU ho0 (by decide) rfl rfl rfl rfl (fun U_3 h e_U_3 hU => ?_)
      replace H := H U_3 e_U_3
      refine pr_goto hC 16 (by decide +kernel : decode cX8_advance 65 = .ok (.goto (-49), 3)) (by decide) ?_
      exact pv_sub [some (.ref (Y.2.1 o0)), none, none, none] (And.intro rfl trivial) (ih U_3 h hU H)
    replace H := H.2 c_38
    refine pr_aload_n hC (by decide +kernel : decode cX8_advance 41 = .ok (.aload_n 0, 1)) rfl ?_
    refine pu_g1 hC fg_X8_11 (by decide +kernel : decode cX8_advance 42 = .ok (.getfield 11, 3)) hU ho0 (by decide) rfl (by decide) ?_
    refine pr_aload_n hC (by decide +kernel : decode cX8_advance 45 = .ok (.aload_n 0, 1)) rfl ?_
    refine pu_g0 hC fg_X8_19 (by decide +kernel : decode cX8_advance 46 = .ok (.getfield 19, 3)) hU ho0 (by decide) rfl rfl ?_
    refine pu_bald hC (by decide +kernel : decode cX8_advance 49 = .ok (.baload, 1)) hU ho0 rfl H.1 ?_
    replace H := H.2
    refine pr_bipush hC (10) (by decide +kernel : decode cX8_advance 50 = .ok (.bipush 10, 2)) rfl ?_
    refine pr_icmp_ne hC 68 (by decide +kernel : decode cX8_advance 52 = .ok (.if_icmp .ne 16, 3)) (by decide) (fun c_52 => ?_) (fun c_52 => ?_)
    · replace H := H.2 c_52
      exact pv_sub [some (.ref (Y.2.1 o0)), none, none, none] (And.intro rfl trivial) (hk_68 U h H hU)
    replace H := H.1 c_52
    refine pr_aload_n hC (by decide +kernel : decode cX8_advance 55 = .ok (.aload_n 0, 1)) rfl ?_
    refine pr_dup hC (by decide +kernel : decode cX8_advance 56 = .ok (.dup, 1)) rfl ?_
    refine pu_g0 hC fg_X8_19 (by decide +kernel : decode cX8_advance 57 = .ok (.getfield 19, 3)) hU ho0 (by decide) rfl rfl ?_
    refine pr_iconst hC (1) (by decide +kernel : decode cX8_advance 60 = .ok (.iconst 1, 1)) rfl ?_
    refine pr_iadd hC (by decide +kernel : decode cX8_advance 61 = .ok (.iadd, 1)) ?_
    refine pv_p0 hC fp_X8_19 (by decide +kernel : decode cX8_advance 62 = .ok (.putfield 19, 3)) hU ho0 (by decide) rfl rfl rfl rfl (fun U_4 h e_U_4 hU => ?_)
    replace H := H U_4 e_U_4
    refine pr_goto hC 16 (by decide +kernel : decode cX8_advance 65 = .ok (.goto (-49), 3)) (by decide) ?_
    exact pv_sub [some (.ref (Y.2.1 o0)), none, none, none] (And.intro rfl trivial) (ih U_4 h hU H)
set_option maxHeartbeats 4000000 in
theorem tl_X8_advance_L78 {l : Launch} {Y : px_Y} {X : px_X} {h0 hh : pe_H} {sz : Nat} (o0 : Nat) (post : Um → Prop) (k_150 : Int32 → Um → Prop) (ho0 : oc o0 = 7)  (hC : px_C X Y.1 (pm_A hh sz) cX8_advance RX8 4) (hM : px_M l X Y.1 hh sz yX8_advance cX8_advance 4 none 0 0 0) (hR : X.2.2.2.1 = pm_rm 0 0 0) (hk_150 : ∀ (y1 : Int32) (U : Um) (h : pe_H), k_150 y1 U → rF Y h0 U h → pw X Y.1 (pm_A hh sz) (pm_E X Y.1 hh sz 0 0 (pm_P Y h0 sz (pq_v post))) 150 [some (.ref (Y.2.1 o0)), some (.int y1), none, none] [] h sz 0 0) : ∀ (n_ : Nat) (x1 : Int32) (U : Um) (h : pe_H), rF Y h0 U h → w_X8_advance_L78 o0 post k_150 n_ x1 U → pw X Y.1 (pm_A hh sz) (pm_E X Y.1 hh sz 0 0 (pm_P Y h0 sz (pq_v post))) 78 [some (.ref (Y.2.1 o0)), some (.int x1), none, none] [] h sz 0 0 := by
  intro n_
  induction n_ with
  | zero => intro x1 U h hU H; exact False.elim H
  | succ n_ ih =>
    intro x1 U h hU H
    replace H : b_X8_advance_L78 o0 post k_150 (w_X8_advance_L78 o0 post k_150 n_) x1 U := H
    unfold b_X8_advance_L78 at H
    refine pr_aload_n hC (by decide +kernel : decode cX8_advance 78 = .ok (.aload_n 0, 1)) rfl ?_
    refine pu_g0 hC fg_X8_22 (by decide +kernel : decode cX8_advance 79 = .ok (.getfield 22, 3)) hU ho0 (by decide) rfl rfl ?_
    refine pr_aload_n hC (by decide +kernel : decode cX8_advance 82 = .ok (.aload_n 0, 1)) rfl ?_
    refine pu_g0 hC fg_X8_15 (by decide +kernel : decode cX8_advance 83 = .ok (.getfield 15, 3)) hU ho0 (by decide) rfl rfl ?_
    refine pr_icmp_ge hC 150 (by decide +kernel : decode cX8_advance 86 = .ok (.if_icmp .ge 64, 3)) (by decide) (fun c_86 => ?_) (fun c_86 => ?_)
    · replace H := H.1 c_86
      exact pv_sub [some (.ref (Y.2.1 o0)), some (.int x1), none, none] (And.intro rfl (And.intro rfl trivial)) (hk_150 _ U h H hU)
    replace H := H.2 c_86
    refine pr_aload_n hC (by decide +kernel : decode cX8_advance 89 = .ok (.aload_n 0, 1)) rfl ?_
    refine pu_g1 hC fg_X8_11 (by decide +kernel : decode cX8_advance 90 = .ok (.getfield 11, 3)) hU ho0 (by decide) rfl (by decide) ?_
    refine pr_aload_n hC (by decide +kernel : decode cX8_advance 93 = .ok (.aload_n 0, 1)) rfl ?_
    refine pu_g0 hC fg_X8_22 (by decide +kernel : decode cX8_advance 94 = .ok (.getfield 22, 3)) hU ho0 (by decide) rfl rfl ?_
    refine pu_bald hC (by decide +kernel : decode cX8_advance 97 = .ok (.baload, 1)) hU ho0 rfl H.1 ?_
    replace H := H.2
    refine pr_bipush hC (97) (by decide +kernel : decode cX8_advance 98 = .ok (.bipush 97, 2)) rfl ?_
    refine pr_icmp_lt hC 150 (by decide +kernel : decode cX8_advance 100 = .ok (.if_icmp .lt 50, 3)) (by decide) (fun c_100 => ?_) (fun c_100 => ?_)
    · replace H := H.1 c_100
      exact pv_sub [some (.ref (Y.2.1 o0)), some (.int x1), none, none] (And.intro rfl (And.intro rfl trivial)) (hk_150 _ U h H hU)
    replace H := H.2 c_100
    refine pr_aload_n hC (by decide +kernel : decode cX8_advance 103 = .ok (.aload_n 0, 1)) rfl ?_
    refine pu_g1 hC fg_X8_11 (by decide +kernel : decode cX8_advance 104 = .ok (.getfield 11, 3)) hU ho0 (by decide) rfl (by decide) ?_
    refine pr_aload_n hC (by decide +kernel : decode cX8_advance 107 = .ok (.aload_n 0, 1)) rfl ?_
    refine pu_g0 hC fg_X8_22 (by decide +kernel : decode cX8_advance 108 = .ok (.getfield 22, 3)) hU ho0 (by decide) rfl rfl ?_
    refine pu_bald hC (by decide +kernel : decode cX8_advance 111 = .ok (.baload, 1)) hU ho0 rfl H.1 ?_
    replace H := H.2
    refine pr_bipush hC (122) (by decide +kernel : decode cX8_advance 112 = .ok (.bipush 122, 2)) rfl ?_
    refine pr_icmp_gt hC 150 (by decide +kernel : decode cX8_advance 114 = .ok (.if_icmp .gt 36, 3)) (by decide) (fun c_114 => ?_) (fun c_114 => ?_)
    · replace H := H.1 c_114
      exact pv_sub [some (.ref (Y.2.1 o0)), some (.int x1), none, none] (And.intro rfl (And.intro rfl trivial)) (hk_150 _ U h H hU)
    replace H := H.2 c_114
    refine pr_iload_n hC (by decide +kernel : decode cX8_advance 117 = .ok (.iload_n 1, 1)) rfl ?_
    refine pr_bipush hC (27) (by decide +kernel : decode cX8_advance 118 = .ok (.bipush 27, 2)) rfl ?_
    refine pr_imul hC (by decide +kernel : decode cX8_advance 120 = .ok (.imul, 1)) ?_
    refine pr_aload_n hC (by decide +kernel : decode cX8_advance 121 = .ok (.aload_n 0, 1)) rfl ?_
    refine pu_g1 hC fg_X8_11 (by decide +kernel : decode cX8_advance 122 = .ok (.getfield 11, 3)) hU ho0 (by decide) rfl (by decide) ?_
    refine pr_aload_n hC (by decide +kernel : decode cX8_advance 125 = .ok (.aload_n 0, 1)) rfl ?_
    refine pu_g0 hC fg_X8_22 (by decide +kernel : decode cX8_advance 126 = .ok (.getfield 22, 3)) hU ho0 (by decide) rfl rfl ?_
    refine pu_bald hC (by decide +kernel : decode cX8_advance 129 = .ok (.baload, 1)) hU ho0 rfl H.1 ?_
    replace H := H.2
    refine pr_iadd hC (by decide +kernel : decode cX8_advance 130 = .ok (.iadd, 1)) ?_
    refine pr_bipush hC (97) (by decide +kernel : decode cX8_advance 131 = .ok (.bipush 97, 2)) rfl ?_
    refine pr_isub hC (by decide +kernel : decode cX8_advance 133 = .ok (.isub, 1)) ?_
    refine pr_iconst hC (1) (by decide +kernel : decode cX8_advance 134 = .ok (.iconst 1, 1)) rfl ?_
    refine pr_iadd hC (by decide +kernel : decode cX8_advance 135 = .ok (.iadd, 1)) ?_
    refine pv_topi (fun x1_7 e_x1_7 => ?_)
    replace H := H x1_7 e_x1_7
    refine pr_istore_n hC (by decide +kernel : decode cX8_advance 136 = .ok (.istore_n 1, 1)) (by decide) rfl ?_
    refine pr_aload_n hC (by decide +kernel : decode cX8_advance 137 = .ok (.aload_n 0, 1)) rfl ?_
    refine pr_dup hC (by decide +kernel : decode cX8_advance 138 = .ok (.dup, 1)) rfl ?_
    refine pu_g0 hC fg_X8_22 (by decide +kernel : decode cX8_advance 139 = .ok (.getfield 22, 3)) hU ho0 (by decide) rfl rfl ?_
    refine pr_iconst hC (1) (by decide +kernel : decode cX8_advance 142 = .ok (.iconst 1, 1)) rfl ?_
    refine pr_iadd hC (by decide +kernel : decode cX8_advance 143 = .ok (.iadd, 1)) ?_
    refine pv_p0 hC fp_X8_22 (by decide +kernel : decode cX8_advance 144 = .ok (.putfield 22, 3)) hU ho0 (by decide) rfl rfl rfl rfl (fun U_8 h e_U_8 hU => ?_)
    replace H := H U_8 e_U_8
    refine pr_goto hC 78 (by decide +kernel : decode cX8_advance 147 = .ok (.goto (-69), 3)) (by decide) ?_
    exact pv_sub [some (.ref (Y.2.1 o0)), some (.int x1_7), none, none] (And.intro rfl (And.intro rfl trivial)) (ih _ U_8 h hU H)
set_option maxHeartbeats 4000000 in
theorem tl_X8_advance_L181 {l : Launch} {Y : px_Y} {X : px_X} {h0 hh : pe_H} {sz : Nat} (o0 : Nat) (x2 : Int32) (post : Um → Prop) (k_255 : Int32 → Um → Prop) (ho0 : oc o0 = 7)  (hC : px_C X Y.1 (pm_A hh sz) cX8_advance RX8 4) (hM : px_M l X Y.1 hh sz yX8_advance cX8_advance 4 none 0 0 0) (hR : X.2.2.2.1 = pm_rm 0 0 0) (hk_255 : ∀ (y1 : Int32) (U : Um) (h : pe_H), k_255 y1 U → rF Y h0 U h → pw X Y.1 (pm_A hh sz) (pm_E X Y.1 hh sz 0 0 (pm_P Y h0 sz (pq_v post))) 255 [some (.ref (Y.2.1 o0)), some (.int y1), some (.int x2), none] [] h sz 0 0) : ∀ (n_ : Nat) (x1 : Int32) (U : Um) (h : pe_H), rF Y h0 U h → w_X8_advance_L181 o0 x2 post k_255 n_ x1 U → pw X Y.1 (pm_A hh sz) (pm_E X Y.1 hh sz 0 0 (pm_P Y h0 sz (pq_v post))) 181 [some (.ref (Y.2.1 o0)), some (.int x1), some (.int x2), none] [] h sz 0 0 := by
  intro n_
  induction n_ with
  | zero => intro x1 U h hU H; exact False.elim H
  | succ n_ ih =>
    intro x1 U h hU H
    replace H : b_X8_advance_L181 o0 x2 post k_255 (w_X8_advance_L181 o0 x2 post k_255 n_) x1 U := H
    unfold b_X8_advance_L181 at H
    refine pr_iload_n hC (by decide +kernel : decode cX8_advance 181 = .ok (.iload_n 2, 1)) rfl ?_
    refine pr_if_ne hC 255 (by decide +kernel : decode cX8_advance 182 = .ok (.ifCond .ne 73, 3)) (by decide) (fun c_182 => ?_) (fun c_182 => ?_)
    · replace H := H.2 c_182
      exact pv_sub [some (.ref (Y.2.1 o0)), some (.int x1), some (.int x2), none] (And.intro rfl (And.intro rfl (And.intro rfl trivial))) (hk_255 _ U h H hU)
    replace H := H.1 c_182
    refine pr_aload_n hC (by decide +kernel : decode cX8_advance 185 = .ok (.aload_n 0, 1)) rfl ?_
    refine pu_g0 hC fg_X8_22 (by decide +kernel : decode cX8_advance 186 = .ok (.getfield 22, 3)) hU ho0 (by decide) rfl rfl ?_
    refine pr_aload_n hC (by decide +kernel : decode cX8_advance 189 = .ok (.aload_n 0, 1)) rfl ?_
    refine pu_g0 hC fg_X8_15 (by decide +kernel : decode cX8_advance 190 = .ok (.getfield 15, 3)) hU ho0 (by decide) rfl rfl ?_
    refine pr_icmp_ge hC 255 (by decide +kernel : decode cX8_advance 193 = .ok (.if_icmp .ge 62, 3)) (by decide) (fun c_193 => ?_) (fun c_193 => ?_)
    · replace H := H.1 c_193
      exact pv_sub [some (.ref (Y.2.1 o0)), some (.int x1), some (.int x2), none] (And.intro rfl (And.intro rfl (And.intro rfl trivial))) (hk_255 _ U h H hU)
    replace H := H.2 c_193
    refine pr_aload_n hC (by decide +kernel : decode cX8_advance 196 = .ok (.aload_n 0, 1)) rfl ?_
    refine pu_g1 hC fg_X8_11 (by decide +kernel : decode cX8_advance 197 = .ok (.getfield 11, 3)) hU ho0 (by decide) rfl (by decide) ?_
    refine pr_aload_n hC (by decide +kernel : decode cX8_advance 200 = .ok (.aload_n 0, 1)) rfl ?_
    refine pu_g0 hC fg_X8_22 (by decide +kernel : decode cX8_advance 201 = .ok (.getfield 22, 3)) hU ho0 (by decide) rfl rfl ?_
    refine pu_bald hC (by decide +kernel : decode cX8_advance 204 = .ok (.baload, 1)) hU ho0 rfl H.1 ?_
    replace H := H.2
    refine pr_bipush hC (48) (by decide +kernel : decode cX8_advance 205 = .ok (.bipush 48, 2)) rfl ?_
    refine pr_icmp_lt hC 255 (by decide +kernel : decode cX8_advance 207 = .ok (.if_icmp .lt 48, 3)) (by decide) (fun c_207 => ?_) (fun c_207 => ?_)
    · replace H := H.1 c_207
      exact pv_sub [some (.ref (Y.2.1 o0)), some (.int x1), some (.int x2), none] (And.intro rfl (And.intro rfl (And.intro rfl trivial))) (hk_255 _ U h H hU)
    replace H := H.2 c_207
    refine pr_aload_n hC (by decide +kernel : decode cX8_advance 210 = .ok (.aload_n 0, 1)) rfl ?_
    refine pu_g1 hC fg_X8_11 (by decide +kernel : decode cX8_advance 211 = .ok (.getfield 11, 3)) hU ho0 (by decide) rfl (by decide) ?_
    refine pr_aload_n hC (by decide +kernel : decode cX8_advance 214 = .ok (.aload_n 0, 1)) rfl ?_
    refine pu_g0 hC fg_X8_22 (by decide +kernel : decode cX8_advance 215 = .ok (.getfield 22, 3)) hU ho0 (by decide) rfl rfl ?_
    refine pu_bald hC (by decide +kernel : decode cX8_advance 218 = .ok (.baload, 1)) hU ho0 rfl H.1 ?_
    replace H := H.2
    refine pr_bipush hC (57) (by decide +kernel : decode cX8_advance 219 = .ok (.bipush 57, 2)) rfl ?_
    refine pr_icmp_gt hC 255 (by decide +kernel : decode cX8_advance 221 = .ok (.if_icmp .gt 34, 3)) (by decide) (fun c_221 => ?_) (fun c_221 => ?_)
    · replace H := H.1 c_221
      exact pv_sub [some (.ref (Y.2.1 o0)), some (.int x1), some (.int x2), none] (And.intro rfl (And.intro rfl (And.intro rfl trivial))) (hk_255 _ U h H hU)
    replace H := H.2 c_221
    refine pr_iload_n hC (by decide +kernel : decode cX8_advance 224 = .ok (.iload_n 1, 1)) rfl ?_
    refine pr_bipush hC (10) (by decide +kernel : decode cX8_advance 225 = .ok (.bipush 10, 2)) rfl ?_
    refine pr_imul hC (by decide +kernel : decode cX8_advance 227 = .ok (.imul, 1)) ?_
    refine pr_aload_n hC (by decide +kernel : decode cX8_advance 228 = .ok (.aload_n 0, 1)) rfl ?_
    refine pu_g1 hC fg_X8_11 (by decide +kernel : decode cX8_advance 229 = .ok (.getfield 11, 3)) hU ho0 (by decide) rfl (by decide) ?_
    refine pr_aload_n hC (by decide +kernel : decode cX8_advance 232 = .ok (.aload_n 0, 1)) rfl ?_
    refine pu_g0 hC fg_X8_22 (by decide +kernel : decode cX8_advance 233 = .ok (.getfield 22, 3)) hU ho0 (by decide) rfl rfl ?_
    refine pu_bald hC (by decide +kernel : decode cX8_advance 236 = .ok (.baload, 1)) hU ho0 rfl H.1 ?_
    replace H := H.2
    refine pr_iadd hC (by decide +kernel : decode cX8_advance 237 = .ok (.iadd, 1)) ?_
    refine pr_bipush hC (48) (by decide +kernel : decode cX8_advance 238 = .ok (.bipush 48, 2)) rfl ?_
    refine pr_isub hC (by decide +kernel : decode cX8_advance 240 = .ok (.isub, 1)) ?_
    refine pv_topi (fun x1_15 e_x1_15 => ?_)
    replace H := H x1_15 e_x1_15
    refine pr_istore_n hC (by decide +kernel : decode cX8_advance 241 = .ok (.istore_n 1, 1)) (by decide) rfl ?_
    refine pr_aload_n hC (by decide +kernel : decode cX8_advance 242 = .ok (.aload_n 0, 1)) rfl ?_
    refine pr_dup hC (by decide +kernel : decode cX8_advance 243 = .ok (.dup, 1)) rfl ?_
    refine pu_g0 hC fg_X8_22 (by decide +kernel : decode cX8_advance 244 = .ok (.getfield 22, 3)) hU ho0 (by decide) rfl rfl ?_
    refine pr_iconst hC (1) (by decide +kernel : decode cX8_advance 247 = .ok (.iconst 1, 1)) rfl ?_
    refine pr_iadd hC (by decide +kernel : decode cX8_advance 248 = .ok (.iadd, 1)) ?_
    refine pv_p0 hC fp_X8_22 (by decide +kernel : decode cX8_advance 249 = .ok (.putfield 22, 3)) hU ho0 (by decide) rfl rfl rfl rfl (fun U_16 h e_U_16 hU => ?_)
    replace H := H U_16 e_U_16
    refine pr_goto hC 181 (by decide +kernel : decode cX8_advance 252 = .ok (.goto (-71), 3)) (by decide) ?_
    exact pv_sub [some (.ref (Y.2.1 o0)), some (.int x1_15), some (.int x2), none] (And.intro rfl (And.intro rfl (And.intro rfl trivial))) (ih _ U_16 h hU H)
set_option maxHeartbeats 4000000 in
theorem t_X8_advance {l : Launch} {Y : px_Y} {o : Nat} {U : Um} {post : Um → Prop} (ho : oc o = 7) (H : w_X8_advance o U post) : um l Y 0 yX8_advance cX8_advance 4 none [.ref (Y.2.1 o)] U (pq_v post) := by
  unfold w_X8_advance at H
  refine um_of (by decide) (Nat.le_of_ble_eq_true rfl) [some (.ref (Y.2.1 o)), none, none, none] rfl (fun X h0 hh sz hM hU => ?_)
  have hC := hM.1
  have hR := hM.2.2.1
  refine pr_aload_n hC (by decide +kernel : decode cX8_advance 0 = .ok (.aload_n 0, 1)) rfl ?_
  refine pr_aload_n hC (by decide +kernel : decode cX8_advance 1 = .ok (.aload_n 0, 1)) rfl ?_
  refine pu_g0 hC fg_X8_19 (by decide +kernel : decode cX8_advance 2 = .ok (.getfield 19, 3)) hU ho (by decide) rfl rfl ?_
  refine pv_p0 hC fp_X8_28 (by decide +kernel : decode cX8_advance 5 = .ok (.putfield 28, 3)) hU ho (by decide) rfl rfl rfl rfl (fun U_1 h e_U_1 hU => ?_)
  replace H := H U_1 e_U_1
  refine pr_aload_n hC (by decide +kernel : decode cX8_advance 8 = .ok (.aload_n 0, 1)) rfl ?_
  refine pr_aload_n hC (by decide +kernel : decode cX8_advance 9 = .ok (.aload_n 0, 1)) rfl ?_
  refine pu_g0 hC fg_X8_22 (by decide +kernel : decode cX8_advance 10 = .ok (.getfield 22, 3)) hU ho (by decide) rfl rfl ?_
  refine pv_p0 hC fp_X8_19 (by decide +kernel : decode cX8_advance 13 = .ok (.putfield 19, 3)) hU ho (by decide) rfl rfl rfl rfl (fun U_2 h e_U_2 hU => ?_)
  replace H := H U_2 e_U_2
  obtain ⟨n_30, H⟩ := H
  refine pv_sub [some (.ref (Y.2.1 o)), none, none, none] (And.intro rfl trivial) ?_
  refine tl_X8_advance_L16 _ _ _ ho hC hM hR (fun U_5 h H hU => ?_) n_30 U_2 h hU H
  refine pr_aload_n hC (by decide +kernel : decode cX8_advance 68 = .ok (.aload_n 0, 1)) rfl ?_
  refine pr_aload_n hC (by decide +kernel : decode cX8_advance 69 = .ok (.aload_n 0, 1)) rfl ?_
  refine pu_g0 hC fg_X8_19 (by decide +kernel : decode cX8_advance 70 = .ok (.getfield 19, 3)) hU ho (by decide) rfl rfl ?_
  refine pv_p0 hC fp_X8_22 (by decide +kernel : decode cX8_advance 73 = .ok (.putfield 22, 3)) hU ho (by decide) rfl rfl rfl rfl (fun U_6 h e_U_6 hU => ?_)
  replace H := H U_6 e_U_6
  refine pr_iconst hC (0) (by decide +kernel : decode cX8_advance 76 = .ok (.iconst 0, 1)) rfl ?_
  refine pr_istore_n hC (by decide +kernel : decode cX8_advance 77 = .ok (.istore_n 1, 1)) (by decide) rfl ?_
  obtain ⟨n_29, H⟩ := H
  refine pv_sub [some (.ref (Y.2.1 o)), some (.int 0), none, none] (And.intro rfl (And.intro rfl trivial)) ?_
  refine tl_X8_advance_L78 _ _ _ ho hC hM hR (fun x1_9 U_10 h H hU => ?_) n_29 _ U_6 h hU H
  refine pr_aload_n hC (by decide +kernel : decode cX8_advance 150 = .ok (.aload_n 0, 1)) rfl ?_
  refine pu_g0 hC fg_X8_22 (by decide +kernel : decode cX8_advance 151 = .ok (.getfield 22, 3)) hU ho (by decide) rfl rfl ?_
  refine pr_aload_n hC (by decide +kernel : decode cX8_advance 154 = .ok (.aload_n 0, 1)) rfl ?_
  refine pu_g0 hC fg_X8_19 (by decide +kernel : decode cX8_advance 155 = .ok (.getfield 19, 3)) hU ho (by decide) rfl rfl ?_
  refine pr_isub hC (by decide +kernel : decode cX8_advance 158 = .ok (.isub, 1)) ?_
  refine pv_topi (fun x2_11 e_x2_11 => ?_)
  replace H := H x2_11 e_x2_11
  refine pr_istore_n hC (by decide +kernel : decode cX8_advance 159 = .ok (.istore_n 2, 1)) (by decide) rfl ?_
  refine pr_aload_n hC (by decide +kernel : decode cX8_advance 160 = .ok (.aload_n 0, 1)) rfl ?_
  refine pr_iload_n hC (by decide +kernel : decode cX8_advance 161 = .ok (.iload_n 2, 1)) rfl ?_
  have HJ_28 : ∀ (xs_13 : Int32), xs_13 = (if x2_11 ≤ 0 then (-1) else (if (6 : Int32) < x2_11 then (-1) else x1_9)) → pw X Y.1 (pm_A hh sz) (pm_E X Y.1 hh sz 0 0 (pm_P Y h0 sz (pq_v post))) 176 [some (.ref (Y.2.1 o)), none, some (.int x2_11), none] [.int xs_13, .ref (Y.2.1 o)] h sz 0 0 := by
    intro xs_13 e_xs_13
    replace H := H xs_13 e_xs_13
    refine pv_p0 hC fp_X8_31 (by decide +kernel : decode cX8_advance 176 = .ok (.putfield 31, 3)) hU ho (by decide) rfl rfl rfl rfl (fun U_14 h e_U_14 hU => ?_)
    replace H := H U_14 e_U_14
    refine pr_iconst hC (0) (by decide +kernel : decode cX8_advance 179 = .ok (.iconst 0, 1)) rfl ?_
    refine pr_istore_n hC (by decide +kernel : decode cX8_advance 180 = .ok (.istore_n 1, 1)) (by decide) rfl ?_
    obtain ⟨n_27, H⟩ := H
    refine pv_sub [some (.ref (Y.2.1 o)), some (.int 0), some (.int x2_11), none] (And.intro rfl (And.intro rfl (And.intro rfl trivial))) ?_
    refine tl_X8_advance_L181 _ _ _ _ ho hC hM hR (fun x1_17 U_18 h H hU => ?_) n_27 _ U_14 h hU H
    refine pr_aload_n hC (by decide +kernel : decode cX8_advance 255 = .ok (.aload_n 0, 1)) rfl ?_
    refine pu_g0 hC fg_X8_22 (by decide +kernel : decode cX8_advance 256 = .ok (.getfield 22, 3)) hU ho (by decide) rfl rfl ?_
    refine pr_aload_n hC (by decide +kernel : decode cX8_advance 259 = .ok (.aload_n 0, 1)) rfl ?_
    refine pu_g0 hC fg_X8_19 (by decide +kernel : decode cX8_advance 260 = .ok (.getfield 19, 3)) hU ho (by decide) rfl rfl ?_
    refine pr_isub hC (by decide +kernel : decode cX8_advance 263 = .ok (.isub, 1)) ?_
    refine pr_iload_n hC (by decide +kernel : decode cX8_advance 264 = .ok (.iload_n 2, 1)) rfl ?_
    refine pr_isub hC (by decide +kernel : decode cX8_advance 265 = .ok (.isub, 1)) ?_
    refine pv_topi (fun x3_19 e_x3_19 => ?_)
    replace H := H x3_19 e_x3_19
    refine pr_istore_n hC (by decide +kernel : decode cX8_advance 266 = .ok (.istore_n 3, 1)) (by decide) rfl ?_
    refine pr_aload_n hC (by decide +kernel : decode cX8_advance 267 = .ok (.aload_n 0, 1)) rfl ?_
    refine pr_iload_n hC (by decide +kernel : decode cX8_advance 268 = .ok (.iload_n 3, 1)) rfl ?_
    have HJ_26 : ∀ (xs_21 : Int32), xs_21 = (if x3_19 ≤ 0 then (-1) else (if (4 : Int32) < x3_19 then (-1) else x1_17)) → pw X Y.1 (pm_A hh sz) (pm_E X Y.1 hh sz 0 0 (pm_P Y h0 sz (pq_v post))) 282 [some (.ref (Y.2.1 o)), none, none, none] [.int xs_21, .ref (Y.2.1 o)] h sz 0 0 := by
      intro xs_21 e_xs_21
      replace H := H xs_21 e_xs_21
      refine pv_p0 hC fp_X8_34 (by decide +kernel : decode cX8_advance 282 = .ok (.putfield 34, 3)) hU ho (by decide) rfl rfl rfl rfl (fun U_22 h e_U_22 hU => ?_)
      replace H := H U_22 e_U_22
      refine pr_aload_n hC (by decide +kernel : decode cX8_advance 285 = .ok (.aload_n 0, 1)) rfl ?_
      refine pr_iconst hC (-1) (by decide +kernel : decode cX8_advance 286 = .ok (.iconst (-1), 1)) rfl ?_
      refine pv_p0 hC fp_X8_37 (by decide +kernel : decode cX8_advance 287 = .ok (.putfield 37, 3)) hU ho (by decide) rfl rfl rfl rfl (fun U_23 h e_U_23 hU => ?_)
      replace H := H U_23 e_U_23
      refine pr_aload_n hC (by decide +kernel : decode cX8_advance 290 = .ok (.aload_n 0, 1)) rfl ?_
      refine pu_g0 hC fg_X8_22 (by decide +kernel : decode cX8_advance 291 = .ok (.getfield 22, 3)) hU ho (by decide) rfl rfl ?_
      refine pr_aload_n hC (by decide +kernel : decode cX8_advance 294 = .ok (.aload_n 0, 1)) rfl ?_
      refine pu_g0 hC fg_X8_19 (by decide +kernel : decode cX8_advance 295 = .ok (.getfield 19, 3)) hU ho (by decide) rfl rfl ?_
      refine pr_icmp_ne hC 339 (by decide +kernel : decode cX8_advance 298 = .ok (.if_icmp .ne 41, 3)) (by decide) (fun c_298 => ?_) (fun c_298 => ?_)
      · replace H := H.2 c_298
        exact pv_vret hM (by decide +kernel : decode cX8_advance 339 = .ok (.return_, 1)) hU H
      replace H := H.1 c_298
      refine pr_aload_n hC (by decide +kernel : decode cX8_advance 301 = .ok (.aload_n 0, 1)) rfl ?_
      refine pu_g0 hC fg_X8_19 (by decide +kernel : decode cX8_advance 302 = .ok (.getfield 19, 3)) hU ho (by decide) rfl rfl ?_
      refine pr_aload_n hC (by decide +kernel : decode cX8_advance 305 = .ok (.aload_n 0, 1)) rfl ?_
      refine pu_g0 hC fg_X8_15 (by decide +kernel : decode cX8_advance 306 = .ok (.getfield 15, 3)) hU ho (by decide) rfl rfl ?_
      refine pr_icmp_ge hC 339 (by decide +kernel : decode cX8_advance 309 = .ok (.if_icmp .ge 30, 3)) (by decide) (fun c_309 => ?_) (fun c_309 => ?_)
      · replace H := H.1 c_309
        exact pv_vret hM (by decide +kernel : decode cX8_advance 339 = .ok (.return_, 1)) hU H
      replace H := H.2 c_309
      refine pr_aload_n hC (by decide +kernel : decode cX8_advance 312 = .ok (.aload_n 0, 1)) rfl ?_
      refine pr_aload_n hC (by decide +kernel : decode cX8_advance 313 = .ok (.aload_n 0, 1)) rfl ?_
      refine pu_g1 hC fg_X8_11 (by decide +kernel : decode cX8_advance 314 = .ok (.getfield 11, 3)) hU ho (by decide) rfl (by decide) ?_
      refine pr_aload_n hC (by decide +kernel : decode cX8_advance 317 = .ok (.aload_n 0, 1)) rfl ?_
      refine pu_g0 hC fg_X8_19 (by decide +kernel : decode cX8_advance 318 = .ok (.getfield 19, 3)) hU ho (by decide) rfl rfl ?_
      refine pu_bald hC (by decide +kernel : decode cX8_advance 321 = .ok (.baload, 1)) hU ho rfl H.1 ?_
      replace H := H.2
      refine pr_sipush hC (255) (by decide +kernel : decode cX8_advance 322 = .ok (.sipush 255, 3)) rfl ?_
      refine pr_iand hC (by decide +kernel : decode cX8_advance 325 = .ok (.iand, 1)) ?_
      refine pv_p0 hC fp_X8_37 (by decide +kernel : decode cX8_advance 326 = .ok (.putfield 37, 3)) hU ho (by decide) rfl rfl rfl rfl (fun U_24 h e_U_24 hU => ?_)
      replace H := H U_24 e_U_24
      refine pr_aload_n hC (by decide +kernel : decode cX8_advance 329 = .ok (.aload_n 0, 1)) rfl ?_
      refine pr_dup hC (by decide +kernel : decode cX8_advance 330 = .ok (.dup, 1)) rfl ?_
      refine pu_g0 hC fg_X8_22 (by decide +kernel : decode cX8_advance 331 = .ok (.getfield 22, 3)) hU ho (by decide) rfl rfl ?_
      refine pr_iconst hC (1) (by decide +kernel : decode cX8_advance 334 = .ok (.iconst 1, 1)) rfl ?_
      refine pr_iadd hC (by decide +kernel : decode cX8_advance 335 = .ok (.iadd, 1)) ?_
      refine pv_p0 hC fp_X8_22 (by decide +kernel : decode cX8_advance 336 = .ok (.putfield 22, 3)) hU ho (by decide) rfl rfl rfl rfl (fun U_25 h e_U_25 hU => ?_)
      replace H := H U_25 e_U_25
      exact pv_vret hM (by decide +kernel : decode cX8_advance 339 = .ok (.return_, 1)) hU H
    replace H := trivial
    refine pr_if_le hC 281 (by decide +kernel : decode cX8_advance 269 = .ok (.ifCond .le 12, 3)) (by decide) (fun c_269 => ?_) (fun c_269 => ?_)
    · skip
      refine pr_iconst hC (-1) (by decide +kernel : decode cX8_advance 281 = .ok (.iconst (-1), 1)) rfl ?_
      exact pv_sub [some (.ref (Y.2.1 o)), none, none, none] (And.intro rfl trivial) (HJ_26 _ (if_pos c_269).symm)
    skip
    refine pr_iload_n hC (by decide +kernel : decode cX8_advance 272 = .ok (.iload_n 3, 1)) rfl ?_
    refine pr_iconst hC (4) (by decide +kernel : decode cX8_advance 273 = .ok (.iconst 4, 1)) rfl ?_
    refine pr_icmp_gt hC 281 (by decide +kernel : decode cX8_advance 274 = .ok (.if_icmp .gt 7, 3)) (by decide) (fun c_274_20 => ?_) (fun c_274_20 => ?_)
    · skip
      refine pr_iconst hC (-1) (by decide +kernel : decode cX8_advance 281 = .ok (.iconst (-1), 1)) rfl ?_
      exact pv_sub [some (.ref (Y.2.1 o)), none, none, none] (And.intro rfl trivial) (HJ_26 _ ((if_neg c_269).trans (if_pos c_274_20)).symm)
    skip
    refine pr_iload_n hC (by decide +kernel : decode cX8_advance 277 = .ok (.iload_n 1, 1)) rfl ?_
    refine pr_goto hC 282 (by decide +kernel : decode cX8_advance 278 = .ok (.goto 4, 3)) (by decide) ?_
    exact pv_sub [some (.ref (Y.2.1 o)), none, none, none] (And.intro rfl trivial) (HJ_26 _ ((if_neg c_269).trans (if_neg c_274_20)).symm)
  replace H := trivial
  refine pr_if_le hC 175 (by decide +kernel : decode cX8_advance 162 = .ok (.ifCond .le 13, 3)) (by decide) (fun c_162 => ?_) (fun c_162 => ?_)
  · skip
    refine pr_iconst hC (-1) (by decide +kernel : decode cX8_advance 175 = .ok (.iconst (-1), 1)) rfl ?_
    exact pv_sub [some (.ref (Y.2.1 o)), none, some (.int x2_11), none] (And.intro rfl (And.intro rfl trivial)) (HJ_28 _ (if_pos c_162).symm)
  skip
  refine pr_iload_n hC (by decide +kernel : decode cX8_advance 165 = .ok (.iload_n 2, 1)) rfl ?_
  refine pr_bipush hC (6) (by decide +kernel : decode cX8_advance 166 = .ok (.bipush 6, 2)) rfl ?_
  refine pr_icmp_gt hC 175 (by decide +kernel : decode cX8_advance 168 = .ok (.if_icmp .gt 7, 3)) (by decide) (fun c_168_12 => ?_) (fun c_168_12 => ?_)
  · skip
    refine pr_iconst hC (-1) (by decide +kernel : decode cX8_advance 175 = .ok (.iconst (-1), 1)) rfl ?_
    exact pv_sub [some (.ref (Y.2.1 o)), none, some (.int x2_11), none] (And.intro rfl (And.intro rfl trivial)) (HJ_28 _ ((if_neg c_162).trans (if_pos c_168_12)).symm)
  skip
  refine pr_iload_n hC (by decide +kernel : decode cX8_advance 171 = .ok (.iload_n 1, 1)) rfl ?_
  refine pr_goto hC 176 (by decide +kernel : decode cX8_advance 172 = .ok (.goto 4, 3)) (by decide) ?_
  exact pv_sub [some (.ref (Y.2.1 o)), none, some (.int x2_11), none] (And.intro rfl (And.intro rfl trivial)) (HJ_28 _ ((if_neg c_162).trans (if_neg c_168_12)).symm)
def w_X8_rewind (o : Nat) (U : Um) (post : Um → Prop) : Prop :=
  ∀ (U_1 : Um), U_1 = sI U o 2 0 → ∀ (U_2 : Um), U_2 = sI U_1 o 3 0 → w_X8_advance o U_2 (fun U_3 => post U_3)
set_option maxHeartbeats 4000000 in
theorem t_X8_rewind {l : Launch} {Y : px_Y} {o : Nat} {U : Um} {post : Um → Prop} (ho : oc o = 7) (H : w_X8_rewind o U post) : um l Y 1 yX8_rewind cX8_rewind 1 none [.ref (Y.2.1 o)] U (pq_v post) := by
  unfold w_X8_rewind at H
  refine um_of (by decide) (Nat.le_of_ble_eq_true rfl) [some (.ref (Y.2.1 o))] rfl (fun X h0 hh sz hM hU => ?_)
  have hC := hM.1
  have hR := hM.2.2.1
  refine pr_aload_n hC (by decide +kernel : decode cX8_rewind 0 = .ok (.aload_n 0, 1)) rfl ?_
  refine pr_iconst hC (0) (by decide +kernel : decode cX8_rewind 1 = .ok (.iconst 0, 1)) rfl ?_
  refine pv_p0 hC fp_X8_19 (by decide +kernel : decode cX8_rewind 2 = .ok (.putfield 19, 3)) hU ho (by decide) rfl rfl rfl rfl (fun U_1 h e_U_1 hU => ?_)
  replace H := H U_1 e_U_1
  refine pr_aload_n hC (by decide +kernel : decode cX8_rewind 5 = .ok (.aload_n 0, 1)) rfl ?_
  refine pr_iconst hC (0) (by decide +kernel : decode cX8_rewind 6 = .ok (.iconst 0, 1)) rfl ?_
  refine pv_p0 hC fp_X8_22 (by decide +kernel : decode cX8_rewind 7 = .ok (.putfield 22, 3)) hU ho (by decide) rfl rfl rfl rfl (fun U_2 h e_U_2 hU => ?_)
  replace H := H U_2 e_U_2
  refine pr_aload_n hC (by decide +kernel : decode cX8_rewind 10 = .ok (.aload_n 0, 1)) rfl ?_
  refine vc_Vv hC hR [] fv_X8_25 (by decide +kernel : decode cX8_rewind 11 = .ok (.invokevirtual 25, 3)) hU (t_X8_advance ho H) ho (by decide) rfl rfl rfl (Nat.le_of_ble_eq_true rfl) (Nat.le_of_ble_eq_true rfl) (Nat.le_refl 0) (Nat.le_refl 0) (fun U_3 h H hU => ?_)
  exact pv_vret hM (by decide +kernel : decode cX8_rewind 14 = .ok (.return_, 1)) hU H
def w_X8_isOver (o : Nat) (U : Um) (post : Int32 → Um → Prop) : Prop :=
  ((uI U o 2) < (uI U o 1) → post 0 U) ∧ (¬ (uI U o 2) < (uI U o 1) → post 1 U)
set_option maxHeartbeats 4000000 in
theorem t_X8_isOver {l : Launch} {Y : px_Y} {o : Nat} {U : Um} {post : Int32 → Um → Prop} (ho : oc o = 7) (H : w_X8_isOver o U post) : um l Y 0 yX8_isOver cX8_isOver 1 (some (.boolean)) [.ref (Y.2.1 o)] U (pq_i post) := by
  unfold w_X8_isOver at H
  refine um_of (by decide) (Nat.le_of_ble_eq_true rfl) [some (.ref (Y.2.1 o))] rfl (fun X h0 hh sz hM hU => ?_)
  have hC := hM.1
  have hR := hM.2.2.1
  refine pr_aload_n hC (by decide +kernel : decode cX8_isOver 0 = .ok (.aload_n 0, 1)) rfl ?_
  refine pu_g0 hC fg_X8_19 (by decide +kernel : decode cX8_isOver 1 = .ok (.getfield 19, 3)) hU ho (by decide) rfl rfl ?_
  refine pr_aload_n hC (by decide +kernel : decode cX8_isOver 4 = .ok (.aload_n 0, 1)) rfl ?_
  refine pu_g0 hC fg_X8_15 (by decide +kernel : decode cX8_isOver 5 = .ok (.getfield 15, 3)) hU ho (by decide) rfl rfl ?_
  refine pr_icmp_lt hC 15 (by decide +kernel : decode cX8_isOver 8 = .ok (.if_icmp .lt 7, 3)) (by decide) (fun c_8 => ?_) (fun c_8 => ?_)
  · replace H := H.1 c_8
    refine pr_iconst hC (0) (by decide +kernel : decode cX8_isOver 15 = .ok (.iconst 0, 1)) rfl ?_
    exact pv_zret hM (by decide +kernel : decode cX8_isOver 16 = .ok (.ireturn, 1)) (Or.inl rfl) hU H
  replace H := H.2 c_8
  refine pr_iconst hC (1) (by decide +kernel : decode cX8_isOver 11 = .ok (.iconst 1, 1)) rfl ?_
  refine pr_goto hC 16 (by decide +kernel : decode cX8_isOver 12 = .ok (.goto 4, 3)) (by decide) ?_
  exact pv_zret hM (by decide +kernel : decode cX8_isOver 16 = .ok (.ireturn, 1)) (Or.inr rfl) hU H
def b_X10_of_L2 (x0 : Int32) (post : Nat → Um → Prop) (k_34 : Um → Prop) (rec_ : Int32 → Um → Prop) (x1 : Int32) (U : Um) : Prop :=
  ((23 : Int32) ≤ x1 → k_34 U) ∧ (¬ (23 : Int32) ≤ x1 → vp_in x1 23 ∧ ((wcode (Int32.toNatClampNeg x1)) = x0 → vp_in x1 23 ∧ post (Int32.toNatClampNeg x1) U) ∧ (¬ (wcode (Int32.toNatClampNeg x1)) = x0 → ∀ (x1_3 : Int32), x1_3 = x1 + 1 → rec_ x1_3 U))
def w_X10_of_L2 (x0 : Int32) (post : Nat → Um → Prop) (k_34 : Um → Prop) (n_ : Nat) : Int32 → Um → Prop := Nat.rec (motive := fun _ => Int32 → Um → Prop) (fun _ _ => False) (fun _ ih => b_X10_of_L2 x0 post k_34 ih) n_
def w_X10_of (a1 : Int32) (U : Um) (post : Nat → Um → Prop) : Prop :=
  (∃ n_5, w_X10_of_L2 a1 post (fun U_4 => post 99 U_4) n_5 0 U)
set_option maxHeartbeats 4000000 in
theorem tl_X10_of_L2 {l : Launch} {Y : px_Y} {X : px_X} {h0 hh : pe_H} {sz : Nat} (x0 : Int32) (post : Nat → Um → Prop) (k_34 : Um → Prop)   (hC : px_C X Y.1 (pm_A hh sz) cX10_of RX10 2) (hM : px_M l X Y.1 hh sz yX10_of cX10_of 2 (some (.object "WhistleRoster$Word")) 0 0 0) (hR : X.2.2.2.1 = pm_rm 0 0 0) (hk_34 : ∀ (U : Um) (h : pe_H), k_34 U → rF Y h0 U h → pw X Y.1 (pm_A hh sz) (pm_E X Y.1 hh sz 0 0 (pm_P Y h0 sz (pq_w Y post))) 34 [none, none] [] h sz 0 0) : ∀ (n_ : Nat) (x1 : Int32) (U : Um) (h : pe_H), rF Y h0 U h → w_X10_of_L2 x0 post k_34 n_ x1 U → pw X Y.1 (pm_A hh sz) (pm_E X Y.1 hh sz 0 0 (pm_P Y h0 sz (pq_w Y post))) 2 [some (.int x0), some (.int x1)] [] h sz 0 0 := by
  intro n_
  induction n_ with
  | zero => intro x1 U h hU H; exact False.elim H
  | succ n_ ih =>
    intro x1 U h hU H
    replace H : b_X10_of_L2 x0 post k_34 (w_X10_of_L2 x0 post k_34 n_) x1 U := H
    unfold b_X10_of_L2 at H
    refine pr_iload_n hC (by decide +kernel : decode cX10_of 2 = .ok (.iload_n 1, 1)) rfl ?_
    refine pr_gets hC fs_X10_111 (ro_z0 _) (by decide +kernel : decode cX10_of 3 = .ok (.getstatic 111, 3)) ?_
    refine pr_alenW hC (by decide +kernel : decode cX10_of 6 = .ok (.arraylength, 1)) ?_
    refine pr_icmp_ge hC 34 (by decide +kernel : decode cX10_of 7 = .ok (.if_icmp .ge 27, 3)) (by decide) (fun c_7 => ?_) (fun c_7 => ?_)
    · replace H := H.1 c_7
      exact pv_sub [none, none] (trivial) (hk_34 U h H hU)
    replace H := H.2 c_7
    refine pr_gets hC fs_X10_111 (ro_z0 _) (by decide +kernel : decode cX10_of 10 = .ok (.getstatic 111, 3)) ?_
    refine pr_iload_n hC (by decide +kernel : decode cX10_of 13 = .ok (.iload_n 1, 1)) rfl ?_
    have q_1 := H.1
    replace H := H.2
    refine pr_aaloadW hC (by decide +kernel : decode cX10_of 14 = .ok (.aaload, 1)) q_1 ?_
    refine pr_getW_code hC fw_X10_104 (by decide +kernel : decode cX10_of 15 = .ok (.getfield 104, 3)) (vp_lt q_1) ?_
    refine pr_iload_n hC (by decide +kernel : decode cX10_of 18 = .ok (.iload_n 0, 1)) rfl ?_
    refine pr_icmp_ne hC 28 (by decide +kernel : decode cX10_of 19 = .ok (.if_icmp .ne 9, 3)) (by decide) (fun c_19 => ?_) (fun c_19 => ?_)
    · replace H := H.2 c_19
      refine pv_iinc hC (v := x1 + 1) (by decide +kernel : decode cX10_of 28 = .ok (.iinc 1 1, 3)) rfl (by decide) rfl rfl (fun x1_3 e_x1_3 => ?_)
      replace H := H x1_3 e_x1_3
      refine pr_goto hC 2 (by decide +kernel : decode cX10_of 31 = .ok (.goto (-29), 3)) (by decide) ?_
      exact pv_sub [some (.int x0), some (.int x1_3)] (And.intro rfl (And.intro rfl trivial)) (ih _ U h hU H)
    replace H := H.1 c_19
    refine pr_gets hC fs_X10_111 (ro_z0 _) (by decide +kernel : decode cX10_of 22 = .ok (.getstatic 111, 3)) ?_
    refine pr_iload_n hC (by decide +kernel : decode cX10_of 25 = .ok (.iload_n 1, 1)) rfl ?_
    have q_2 := H.1
    replace H := H.2
    refine pr_aaloadW hC (by decide +kernel : decode cX10_of 26 = .ok (.aaload, 1)) q_2 ?_
    exact pv_wret hM (by decide +kernel : decode cX10_of 27 = .ok (.areturn, 1)) (vp_lt q_2) hU H
set_option maxHeartbeats 4000000 in
theorem t_X10_of {l : Launch} {Y : px_Y} {a1 : Int32} {U : Um} {post : Nat → Um → Prop}  (H : w_X10_of a1 U post) : um l Y 0 yX10_of cX10_of 2 (some (.object "WhistleRoster$Word")) [.int a1] U (pq_w Y post) := by
  unfold w_X10_of at H
  refine um_of (by decide) (Nat.le_of_ble_eq_true rfl) [some (.int a1), none] rfl (fun X h0 hh sz hM hU => ?_)
  have hC := hM.1
  have hR := hM.2.2.1
  refine pr_iconst hC (0) (by decide +kernel : decode cX10_of 0 = .ok (.iconst 0, 1)) rfl ?_
  refine pr_istore_n hC (by decide +kernel : decode cX10_of 1 = .ok (.istore_n 1, 1)) (by decide) rfl ?_
  obtain ⟨n_5, H⟩ := H
  refine pv_sub [some (.int a1), some (.int 0)] (And.intro rfl (And.intro rfl trivial)) ?_
  refine tl_X10_of_L2 _ _ _ hC hM hR (fun U_4 h H hU => ?_) n_5 _ U hh hU H
  refine pr_null hC (by decide +kernel : decode cX10_of 34 = .ok (.aconst_null, 1)) ?_
  exact pv_nret hM (by decide +kernel : decode cX10_of 35 = .ok (.areturn, 1)) hU H
def w_X4_fail (o : Nat) (a1 : Int32) (a2 : Int32) (U : Um) (post : Um → Prop) : Prop :=
  ((uI U o 2) = 0 → ∀ (U_1 : Um), U_1 = sI U o 2 a1 → ∀ (U_2 : Um), U_2 = sI U_1 o 3 a2 → post U_2) ∧ (¬ (uI U o 2) = 0 → post U)
set_option maxHeartbeats 4000000 in
theorem t_X4_fail {l : Launch} {Y : px_Y} {o : Nat} {a1 : Int32} {a2 : Int32} {U : Um} {post : Um → Prop} (ho : oc o = 3) (H : w_X4_fail o a1 a2 U post) : um l Y 0 yX4_fail cX4_fail 3 none [.ref (Y.2.1 o), .int a1, .int a2] U (pq_v post) := by
  unfold w_X4_fail at H
  refine um_of (by decide) (Nat.le_of_ble_eq_true rfl) [some (.ref (Y.2.1 o)), some (.int a1), some (.int a2)] rfl (fun X h0 hh sz hM hU => ?_)
  have hC := hM.1
  have hR := hM.2.2.1
  refine pr_aload_n hC (by decide +kernel : decode cX4_fail 0 = .ok (.aload_n 0, 1)) rfl ?_
  refine pu_g0 hC fg_X4_28 (by decide +kernel : decode cX4_fail 1 = .ok (.getfield 28, 3)) hU ho (by decide) rfl rfl ?_
  refine pr_if_ne hC 17 (by decide +kernel : decode cX4_fail 4 = .ok (.ifCond .ne 13, 3)) (by decide) (fun c_4 => ?_) (fun c_4 => ?_)
  · replace H := H.2 c_4
    exact pv_vret hM (by decide +kernel : decode cX4_fail 17 = .ok (.return_, 1)) hU H
  replace H := H.1 c_4
  refine pr_aload_n hC (by decide +kernel : decode cX4_fail 7 = .ok (.aload_n 0, 1)) rfl ?_
  refine pr_iload_n hC (by decide +kernel : decode cX4_fail 8 = .ok (.iload_n 1, 1)) rfl ?_
  refine pv_p0 hC fp_X4_28 (by decide +kernel : decode cX4_fail 9 = .ok (.putfield 28, 3)) hU ho (by decide) rfl rfl rfl rfl (fun U_1 h e_U_1 hU => ?_)
  replace H := H U_1 e_U_1
  refine pr_aload_n hC (by decide +kernel : decode cX4_fail 12 = .ok (.aload_n 0, 1)) rfl ?_
  refine pr_iload_n hC (by decide +kernel : decode cX4_fail 13 = .ok (.iload_n 2, 1)) rfl ?_
  refine pv_p0 hC fp_X4_15 (by decide +kernel : decode cX4_fail 14 = .ok (.putfield 15, 3)) hU ho (by decide) rfl rfl rfl rfl (fun U_2 h e_U_2 hU => ?_)
  replace H := H U_2 e_U_2
  exact pv_vret hM (by decide +kernel : decode cX4_fail 17 = .ok (.return_, 1)) hU H
def w_Jx29ce0_ordinal_8abf5 (o : Nat) (U : Um) (post : Int32 → Um → Prop) : Prop :=
  post (Int32.ofNat o) U
set_option maxHeartbeats 4000000 in
theorem t_Jx29ce0_ordinal_8abf5 {l : Launch} {Y : px_Y} {o : Nat} {U : Um} {post : Int32 → Um → Prop} (ho : o < 23) (H : w_Jx29ce0_ordinal_8abf5 o U post) : um l Y 0 yJx29ce0_ordinal_8abf5 cJx29ce0_ordinal_8abf5 1 (some (.int)) [.ref (Y.1.2.2 (100 + o))] U (pq_i post) := by
  unfold w_Jx29ce0_ordinal_8abf5 at H
  refine um_ofF (by decide +kernel) (Nat.le_of_ble_eq_true rfl) [some (.ref (Y.1.2.2 (100 + o)))] rfl (fun X h0 hh sz hM hU => ?_)
  have hC := hM.1
  have hR := hM.2.2.1
  refine pr_aload_n hC (by decide +kernel : decode cJx29ce0_ordinal_8abf5 0 = .ok (.aload_n 0, 1)) rfl ?_
  refine pr_getW_ordinal hC fw_Jx29ce0_7 (by decide +kernel : decode cJx29ce0_ordinal_8abf5 1 = .ok (.getfield 7, 3)) ho ?_
  exact pv_iret hM (by decide +kernel : decode cJx29ce0_ordinal_8abf5 4 = .ok (.ireturn, 1)) hU H
def w_X9_isFull (o : Nat) (a1 : Int32) (U : Um) (post : Int32 → Um → Prop) : Prop :=
  vp_in a1 3 ∧ vp_in a1 3 ∧ ((uA U o 1 (Int32.toNatClampNeg a1)) < (if Int32.toNatClampNeg a1 = 0 then 6 else if Int32.toNatClampNeg a1 = 1 then 8 else 10) → post 0 U) ∧ (¬ (uA U o 1 (Int32.toNatClampNeg a1)) < (if Int32.toNatClampNeg a1 = 0 then 6 else if Int32.toNatClampNeg a1 = 1 then 8 else 10) → post 1 U)
set_option maxHeartbeats 4000000 in
theorem t_X9_isFull {l : Launch} {Y : px_Y} {o : Nat} {a1 : Int32} {U : Um} {post : Int32 → Um → Prop} (ho : oc o = 8) (H : w_X9_isFull o a1 U post) : um l Y 0 yX9_isFull cX9_isFull 2 (some (.boolean)) [.ref (Y.2.1 o), .int a1] U (pq_i post) := by
  unfold w_X9_isFull at H
  refine um_of (by decide) (Nat.le_of_ble_eq_true rfl) [some (.ref (Y.2.1 o)), some (.int a1)] rfl (fun X h0 hh sz hM hU => ?_)
  have hC := hM.1
  have hR := hM.2.2.1
  refine pr_aload_n hC (by decide +kernel : decode cX9_isFull 0 = .ok (.aload_n 0, 1)) rfl ?_
  refine pu_g1 hC fg_X9_16 (by decide +kernel : decode cX9_isFull 1 = .ok (.getfield 16, 3)) hU ho (by decide) rfl (by decide) ?_
  refine pr_iload_n hC (by decide +kernel : decode cX9_isFull 4 = .ok (.iload_n 1, 1)) rfl ?_
  refine pu_iald hC (by decide +kernel : decode cX9_isFull 5 = .ok (.iaload, 1)) hU ho rfl H.1 ?_
  replace H := H.2
  refine pr_gets hC fs_X9_78 (ro_z2 _) (by decide +kernel : decode cX9_isFull 6 = .ok (.getstatic 78, 3)) ?_
  refine pr_iload_n hC (by decide +kernel : decode cX9_isFull 9 = .ok (.iload_n 1, 1)) rfl ?_
  refine pr_ialoadR hC (ro_t2 _) (by decide +kernel : decode cX9_isFull 10 = .ok (.iaload, 1)) H.1 rfl ?_
  replace H := H.2
  refine pr_icmp_lt hC 18 (by decide +kernel : decode cX9_isFull 11 = .ok (.if_icmp .lt 7, 3)) (by decide) (fun c_11 => ?_) (fun c_11 => ?_)
  · replace H := H.1 c_11
    refine pr_iconst hC (0) (by decide +kernel : decode cX9_isFull 18 = .ok (.iconst 0, 1)) rfl ?_
    exact pv_zret hM (by decide +kernel : decode cX9_isFull 19 = .ok (.ireturn, 1)) (Or.inl rfl) hU H
  replace H := H.2 c_11
  refine pr_iconst hC (1) (by decide +kernel : decode cX9_isFull 14 = .ok (.iconst 1, 1)) rfl ?_
  refine pr_goto hC 19 (by decide +kernel : decode cX9_isFull 15 = .ok (.goto 4, 3)) (by decide) ?_
  exact pv_zret hM (by decide +kernel : decode cX9_isFull 19 = .ok (.ireturn, 1)) (Or.inr rfl) hU H
def w_X4_anyName (o : Nat) (U : Um) (post : Int32 → Um → Prop) : Prop :=
  oc (uR U o 0) = 7 ∧ ∀ (x1_2 : Int32), x1_2 = uI U (uR U o 0) 5 → (∀ K_3 : Um → Prop, (∀ (U_4 : Um), (oc (uR U_4 o 0) = 7 ∧ w_X4_fail o 1 (uI U_4 (uR U_4 o 0) 2) U_4 (fun U_6 => post x1_2 U_6)) → K_3 U_4) → (x1_2 = (-1) → K_3 U) ∧ (¬ x1_2 = (-1) → w_X10_of x1_2 U (fun r_9 U_8 => (r_9 = 99 → post x1_2 U_8) ∧ (r_9 < 23 → K_3 U_8))))
set_option maxHeartbeats 4000000 in
theorem t_X4_anyName {l : Launch} {Y : px_Y} {o : Nat} {U : Um} {post : Int32 → Um → Prop} (ho : oc o = 3) (H : w_X4_anyName o U post) : um l Y 1 yX4_anyName cX4_anyName 2 (some (.int)) [.ref (Y.2.1 o)] U (pq_i post) := by
  unfold w_X4_anyName at H
  refine um_of (by decide) (Nat.le_of_ble_eq_true rfl) [some (.ref (Y.2.1 o)), none] rfl (fun X h0 hh sz hM hU => ?_)
  have hC := hM.1
  have hR := hM.2.2.1
  refine pr_aload_n hC (by decide +kernel : decode cX4_anyName 0 = .ok (.aload_n 0, 1)) rfl ?_
  refine pu_g21 hC fg_X4_9 (by decide +kernel : decode cX4_anyName 1 = .ok (.getfield 9, 3)) hU ho (by decide) rfl rfl ?_
  have q_1 := H.1
  replace H := H.2
  refine pu_g0 hC fg_X4_52 (by decide +kernel : decode cX4_anyName 4 = .ok (.getfield 52, 3)) hU q_1 (by decide) rfl rfl ?_
  refine pv_topi (fun x1_2 e_x1_2 => ?_)
  replace H := H x1_2 e_x1_2
  refine pr_istore_n hC (by decide +kernel : decode cX4_anyName 7 = .ok (.istore_n 1, 1)) (by decide) rfl ?_
  refine pr_iload_n hC (by decide +kernel : decode cX4_anyName 8 = .ok (.iload_n 1, 1)) rfl ?_
  refine pr_iconst hC (-1) (by decide +kernel : decode cX4_anyName 9 = .ok (.iconst (-1), 1)) rfl ?_
  replace H := H (fun U_4 => ∀ h : pe_H, rF Y h0 U_4 h → pw X Y.1 (pm_A hh sz) (pm_E X Y.1 hh sz 0 0 (pm_P Y h0 sz (pq_i post))) 20 [some (.ref (Y.2.1 o)), some (.int x1_2)] [] h sz 0 0) (by
    intro U_4 H h hU
    refine pr_aload_n hC (by decide +kernel : decode cX4_anyName 20 = .ok (.aload_n 0, 1)) rfl ?_
    refine pr_iconst hC (1) (by decide +kernel : decode cX4_anyName 21 = .ok (.iconst 1, 1)) rfl ?_
    refine pr_aload_n hC (by decide +kernel : decode cX4_anyName 22 = .ok (.aload_n 0, 1)) rfl ?_
    refine pu_g21 hC fg_X4_9 (by decide +kernel : decode cX4_anyName 23 = .ok (.getfield 9, 3)) hU ho (by decide) rfl rfl ?_
    have q_5 := H.1
    replace H := H.2
    refine pu_g0 hC fg_X4_46 (by decide +kernel : decode cX4_anyName 26 = .ok (.getfield 46, 3)) hU q_5 (by decide) rfl rfl ?_
    refine vc_Vv hC hR [.int 1, .int (uI U_4 (uR U_4 o 0) 2)] fv_X4_61 (by decide +kernel : decode cX4_anyName 29 = .ok (.invokevirtual 61, 3)) hU (t_X4_fail ho H) ho (by decide) rfl rfl rfl (Nat.le_of_ble_eq_true rfl) (Nat.le_of_ble_eq_true rfl) (Nat.le_refl 0) (Nat.le_refl 0) (fun U_6 h H hU => ?_)
    refine pr_iload_n hC (by decide +kernel : decode cX4_anyName 32 = .ok (.iload_n 1, 1)) rfl ?_
    exact pv_iret hM (by decide +kernel : decode cX4_anyName 33 = .ok (.ireturn, 1)) hU H)
  refine pr_icmp_eq hC 20 (by decide +kernel : decode cX4_anyName 10 = .ok (.if_icmp .eq 10, 3)) (by decide) (fun c_10 => ?_) (fun c_10 => ?_)
  · replace H := H.1 c_10
    exact pv_sub [some (.ref (Y.2.1 o)), some (.int x1_2)] (And.intro rfl (And.intro rfl trivial)) (H hh hU)
  replace H := H.2 c_10
  refine pr_iload_n hC (by decide +kernel : decode cX4_anyName 13 = .ok (.iload_n 1, 1)) rfl ?_
  refine vc_Sw hC hR [.int x1_2] fv_X4_55 (by decide +kernel : decode cX4_anyName 14 = .ok (.invokestatic 55, 3)) hU (t_X10_of  H) rfl rfl (Nat.le_of_ble_eq_true rfl) (Nat.le_of_ble_eq_true rfl) (Nat.le_refl 0) (Nat.le_refl 0) (fun U_8 h H hU => ?_) (fun r_9 U_8 h hw_r_9 H hU => ?_)
  · replace H := H.1 rfl
    refine pr_ifnullN hC 32 (by decide +kernel : decode cX4_anyName 17 = .ok (.ifnull 15, 3)) (by decide) ?_
    refine pr_iload_n hC (by decide +kernel : decode cX4_anyName 32 = .ok (.iload_n 1, 1)) rfl ?_
    exact pv_iret hM (by decide +kernel : decode cX4_anyName 33 = .ok (.ireturn, 1)) hU H
  replace H := H.2 hw_r_9
  refine pr_ifnull hC (by decide +kernel : decode cX4_anyName 17 = .ok (.ifnull 15, 3)) ?_
  exact pv_sub [some (.ref (Y.2.1 o)), some (.int x1_2)] (And.intro rfl (And.intro rfl trivial)) (H h hU)
def b_X9_find_L2 (o0 : Nat) (x1 : Int32) (x2 : Int32) (post : Int32 → Um → Prop) (k_32 : Um → Prop) (rec_ : Int32 → Um → Prop) (x3 : Int32) (U : Um) : Prop :=
  vp_in x1 3 ∧ ((uA U o0 1 (Int32.toNatClampNeg x1)) ≤ x3 → k_32 U) ∧ (¬ (uA U o0 1 (Int32.toNatClampNeg x1)) ≤ x3 → vp_in x1 3 ∧ vp_in x3 10 ∧ ((uA U o0 (ki 0 (Int32.toNatClampNeg x1)) (Int32.toNatClampNeg x3)) = x2 → post x3 U) ∧ (¬ (uA U o0 (ki 0 (Int32.toNatClampNeg x1)) (Int32.toNatClampNeg x3)) = x2 → ∀ (x3_2 : Int32), x3_2 = x3 + 1 → rec_ x3_2 U))
def w_X9_find_L2 (o0 : Nat) (x1 : Int32) (x2 : Int32) (post : Int32 → Um → Prop) (k_32 : Um → Prop) (n_ : Nat) : Int32 → Um → Prop := Nat.rec (motive := fun _ => Int32 → Um → Prop) (fun _ _ => False) (fun _ ih => b_X9_find_L2 o0 x1 x2 post k_32 ih) n_
def w_X9_find (o : Nat) (a1 : Int32) (a2 : Int32) (U : Um) (post : Int32 → Um → Prop) : Prop :=
  (∃ n_4, w_X9_find_L2 o a1 a2 post (fun U_3 => post (-1) U_3) n_4 0 U)
set_option maxHeartbeats 4000000 in
theorem tl_X9_find_L2 {l : Launch} {Y : px_Y} {X : px_X} {h0 hh : pe_H} {sz : Nat} (o0 : Nat) (x1 : Int32) (x2 : Int32) (post : Int32 → Um → Prop) (k_32 : Um → Prop) (ho0 : oc o0 = 8)  (hC : px_C X Y.1 (pm_A hh sz) cX9_find RX9 4) (hM : px_M l X Y.1 hh sz yX9_find cX9_find 4 (some (.int)) 0 0 0) (hR : X.2.2.2.1 = pm_rm 0 0 0) (hk_32 : ∀ (U : Um) (h : pe_H), k_32 U → rF Y h0 U h → pw X Y.1 (pm_A hh sz) (pm_E X Y.1 hh sz 0 0 (pm_P Y h0 sz (pq_i post))) 32 [none, none, none, none] [] h sz 0 0) : ∀ (n_ : Nat) (x3 : Int32) (U : Um) (h : pe_H), rF Y h0 U h → w_X9_find_L2 o0 x1 x2 post k_32 n_ x3 U → pw X Y.1 (pm_A hh sz) (pm_E X Y.1 hh sz 0 0 (pm_P Y h0 sz (pq_i post))) 2 [some (.ref (Y.2.1 o0)), some (.int x1), some (.int x2), some (.int x3)] [] h sz 0 0 := by
  intro n_
  induction n_ with
  | zero => intro x3 U h hU H; exact False.elim H
  | succ n_ ih =>
    intro x3 U h hU H
    replace H : b_X9_find_L2 o0 x1 x2 post k_32 (w_X9_find_L2 o0 x1 x2 post k_32 n_) x3 U := H
    unfold b_X9_find_L2 at H
    refine pr_iload_n hC (by decide +kernel : decode cX9_find 2 = .ok (.iload_n 3, 1)) rfl ?_
    refine pr_aload_n hC (by decide +kernel : decode cX9_find 3 = .ok (.aload_n 0, 1)) rfl ?_
    refine pu_g1 hC fg_X9_16 (by decide +kernel : decode cX9_find 4 = .ok (.getfield 16, 3)) hU ho0 (by decide) rfl (by decide) ?_
    refine pr_iload_n hC (by decide +kernel : decode cX9_find 7 = .ok (.iload_n 1, 1)) rfl ?_
    refine pu_iald hC (by decide +kernel : decode cX9_find 8 = .ok (.iaload, 1)) hU ho0 rfl H.1 ?_
    replace H := H.2
    refine pr_icmp_ge hC 32 (by decide +kernel : decode cX9_find 9 = .ok (.if_icmp .ge 23, 3)) (by decide) (fun c_9 => ?_) (fun c_9 => ?_)
    · replace H := H.1 c_9
      exact pv_sub [none, none, none, none] (trivial) (hk_32 U h H hU)
    replace H := H.2 c_9
    refine pr_aload_n hC (by decide +kernel : decode cX9_find 12 = .ok (.aload_n 0, 1)) rfl ?_
    refine pu_g1 hC fg_X9_11 (by decide +kernel : decode cX9_find 13 = .ok (.getfield 11, 3)) hU ho0 (by decide) rfl (by decide) ?_
    refine pr_iload_n hC (by decide +kernel : decode cX9_find 16 = .ok (.iload_n 1, 1)) rfl ?_
    have q_1 := H.1
    replace H := H.2
    refine pu_aald6 hC (by decide +kernel : decode cX9_find 17 = .ok (.aaload, 1)) hU ho0 rfl q_1 ?_
    refine pr_iload_n hC (by decide +kernel : decode cX9_find 18 = .ok (.iload_n 3, 1)) rfl ?_
    refine pu_iald7 hC (by decide +kernel : decode cX9_find 19 = .ok (.iaload, 1)) hU ho0 rfl (vp_lt q_1) H.1 ?_
    replace H := H.2
    refine pr_iload_n hC (by decide +kernel : decode cX9_find 20 = .ok (.iload_n 2, 1)) rfl ?_
    refine pr_icmp_ne hC 26 (by decide +kernel : decode cX9_find 21 = .ok (.if_icmp .ne 5, 3)) (by decide) (fun c_21 => ?_) (fun c_21 => ?_)
    · replace H := H.2 c_21
      refine pv_iinc hC (v := x3 + 1) (by decide +kernel : decode cX9_find 26 = .ok (.iinc 3 1, 3)) rfl (by decide) rfl rfl (fun x3_2 e_x3_2 => ?_)
      replace H := H x3_2 e_x3_2
      refine pr_goto hC 2 (by decide +kernel : decode cX9_find 29 = .ok (.goto (-27), 3)) (by decide) ?_
      exact pv_sub [some (.ref (Y.2.1 o0)), some (.int x1), some (.int x2), some (.int x3_2)] (And.intro rfl (And.intro rfl (And.intro rfl (And.intro rfl trivial)))) (ih _ U h hU H)
    replace H := H.1 c_21
    refine pr_iload_n hC (by decide +kernel : decode cX9_find 24 = .ok (.iload_n 3, 1)) rfl ?_
    exact pv_iret hM (by decide +kernel : decode cX9_find 25 = .ok (.ireturn, 1)) hU H
set_option maxHeartbeats 4000000 in
theorem t_X9_find {l : Launch} {Y : px_Y} {o : Nat} {a1 : Int32} {a2 : Int32} {U : Um} {post : Int32 → Um → Prop} (ho : oc o = 8) (H : w_X9_find o a1 a2 U post) : um l Y 0 yX9_find cX9_find 4 (some (.int)) [.ref (Y.2.1 o), .int a1, .int a2] U (pq_i post) := by
  unfold w_X9_find at H
  refine um_of (by decide) (Nat.le_of_ble_eq_true rfl) [some (.ref (Y.2.1 o)), some (.int a1), some (.int a2), none] rfl (fun X h0 hh sz hM hU => ?_)
  have hC := hM.1
  have hR := hM.2.2.1
  refine pr_iconst hC (0) (by decide +kernel : decode cX9_find 0 = .ok (.iconst 0, 1)) rfl ?_
  refine pr_istore_n hC (by decide +kernel : decode cX9_find 1 = .ok (.istore_n 3, 1)) (by decide) rfl ?_
  obtain ⟨n_4, H⟩ := H
  refine pv_sub [some (.ref (Y.2.1 o)), some (.int a1), some (.int a2), some (.int 0)] (And.intro rfl (And.intro rfl (And.intro rfl (And.intro rfl trivial)))) ?_
  refine tl_X9_find_L2 _ _ _ _ _ ho hC hM hR (fun U_3 h H hU => ?_) n_4 _ U hh hU H
  refine pr_iconst hC (-1) (by decide +kernel : decode cX9_find 32 = .ok (.iconst (-1), 1)) rfl ?_
  exact pv_iret hM (by decide +kernel : decode cX9_find 33 = .ok (.ireturn, 1)) hU H
def w_X9_isGiven (o : Nat) (a1 : Int32) (U : Um) (post : Int32 → Um → Prop) : Prop :=
  w_X9_find o 0 a1 U (fun r_2 U_1 => (r_2 = (-1) → w_X9_find o 1 a1 U_1 (fun r_4 U_3 => (r_4 = (-1) → w_X9_find o 2 a1 U_3 (fun r_6 U_5 => (r_6 = (-1) → post 0 U_5) ∧ (¬ r_6 = (-1) → post 1 U_5))) ∧ (¬ r_4 = (-1) → post 1 U_3))) ∧ (¬ r_2 = (-1) → post 1 U_1))
set_option maxHeartbeats 4000000 in
theorem t_X9_isGiven {l : Launch} {Y : px_Y} {o : Nat} {a1 : Int32} {U : Um} {post : Int32 → Um → Prop} (ho : oc o = 8) (H : w_X9_isGiven o a1 U post) : um l Y 1 yX9_isGiven cX9_isGiven 2 (some (.boolean)) [.ref (Y.2.1 o), .int a1] U (pq_i post) := by
  unfold w_X9_isGiven at H
  refine um_of (by decide) (Nat.le_of_ble_eq_true rfl) [some (.ref (Y.2.1 o)), some (.int a1)] rfl (fun X h0 hh sz hM hU => ?_)
  have hC := hM.1
  have hR := hM.2.2.1
  refine pr_aload_n hC (by decide +kernel : decode cX9_isGiven 0 = .ok (.aload_n 0, 1)) rfl ?_
  refine pr_iconst hC (0) (by decide +kernel : decode cX9_isGiven 1 = .ok (.iconst 0, 1)) rfl ?_
  refine pr_iload_n hC (by decide +kernel : decode cX9_isGiven 2 = .ok (.iload_n 1, 1)) rfl ?_
  refine vc_Vi hC hR [.int 0, .int a1] fv_X9_81 (by decide +kernel : decode cX9_isGiven 3 = .ok (.invokevirtual 81, 3)) hU (t_X9_find ho H) ho (by decide) rfl rfl rfl (Nat.le_of_ble_eq_true rfl) (Nat.le_of_ble_eq_true rfl) (Nat.le_refl 0) (Nat.le_refl 0) (fun r_2 U_1 h H hU => ?_)
  refine pr_iconst hC (-1) (by decide +kernel : decode cX9_isGiven 6 = .ok (.iconst (-1), 1)) rfl ?_
  refine pr_icmp_ne hC 30 (by decide +kernel : decode cX9_isGiven 7 = .ok (.if_icmp .ne 23, 3)) (by decide) (fun c_7 => ?_) (fun c_7 => ?_)
  · replace H := H.2 c_7
    refine pr_iconst hC (1) (by decide +kernel : decode cX9_isGiven 30 = .ok (.iconst 1, 1)) rfl ?_
    refine pr_goto hC 35 (by decide +kernel : decode cX9_isGiven 31 = .ok (.goto 4, 3)) (by decide) ?_
    exact pv_zret hM (by decide +kernel : decode cX9_isGiven 35 = .ok (.ireturn, 1)) (Or.inr rfl) hU H
  replace H := H.1 c_7
  refine pr_aload_n hC (by decide +kernel : decode cX9_isGiven 10 = .ok (.aload_n 0, 1)) rfl ?_
  refine pr_iconst hC (1) (by decide +kernel : decode cX9_isGiven 11 = .ok (.iconst 1, 1)) rfl ?_
  refine pr_iload_n hC (by decide +kernel : decode cX9_isGiven 12 = .ok (.iload_n 1, 1)) rfl ?_
  refine vc_Vi hC hR [.int 1, .int a1] fv_X9_81 (by decide +kernel : decode cX9_isGiven 13 = .ok (.invokevirtual 81, 3)) hU (t_X9_find ho H) ho (by decide) rfl rfl rfl (Nat.le_of_ble_eq_true rfl) (Nat.le_of_ble_eq_true rfl) (Nat.le_refl 0) (Nat.le_refl 0) (fun r_4 U_3 h H hU => ?_)
  refine pr_iconst hC (-1) (by decide +kernel : decode cX9_isGiven 16 = .ok (.iconst (-1), 1)) rfl ?_
  refine pr_icmp_ne hC 30 (by decide +kernel : decode cX9_isGiven 17 = .ok (.if_icmp .ne 13, 3)) (by decide) (fun c_17 => ?_) (fun c_17 => ?_)
  · replace H := H.2 c_17
    refine pr_iconst hC (1) (by decide +kernel : decode cX9_isGiven 30 = .ok (.iconst 1, 1)) rfl ?_
    refine pr_goto hC 35 (by decide +kernel : decode cX9_isGiven 31 = .ok (.goto 4, 3)) (by decide) ?_
    exact pv_zret hM (by decide +kernel : decode cX9_isGiven 35 = .ok (.ireturn, 1)) (Or.inr rfl) hU H
  replace H := H.1 c_17
  refine pr_aload_n hC (by decide +kernel : decode cX9_isGiven 20 = .ok (.aload_n 0, 1)) rfl ?_
  refine pr_iconst hC (2) (by decide +kernel : decode cX9_isGiven 21 = .ok (.iconst 2, 1)) rfl ?_
  refine pr_iload_n hC (by decide +kernel : decode cX9_isGiven 22 = .ok (.iload_n 1, 1)) rfl ?_
  refine vc_Vi hC hR [.int 2, .int a1] fv_X9_81 (by decide +kernel : decode cX9_isGiven 23 = .ok (.invokevirtual 81, 3)) hU (t_X9_find ho H) ho (by decide) rfl rfl rfl (Nat.le_of_ble_eq_true rfl) (Nat.le_of_ble_eq_true rfl) (Nat.le_refl 0) (Nat.le_refl 0) (fun r_6 U_5 h H hU => ?_)
  refine pr_iconst hC (-1) (by decide +kernel : decode cX9_isGiven 26 = .ok (.iconst (-1), 1)) rfl ?_
  refine pr_icmp_eq hC 34 (by decide +kernel : decode cX9_isGiven 27 = .ok (.if_icmp .eq 7, 3)) (by decide) (fun c_27 => ?_) (fun c_27 => ?_)
  · replace H := H.1 c_27
    refine pr_iconst hC (0) (by decide +kernel : decode cX9_isGiven 34 = .ok (.iconst 0, 1)) rfl ?_
    exact pv_zret hM (by decide +kernel : decode cX9_isGiven 35 = .ok (.ireturn, 1)) (Or.inl rfl) hU H
  replace H := H.2 c_27
  refine pr_iconst hC (1) (by decide +kernel : decode cX9_isGiven 30 = .ok (.iconst 1, 1)) rfl ?_
  refine pr_goto hC 35 (by decide +kernel : decode cX9_isGiven 31 = .ok (.goto 4, 3)) (by decide) ?_
  exact pv_zret hM (by decide +kernel : decode cX9_isGiven 35 = .ok (.ireturn, 1)) (Or.inr rfl) hU H
def w_X4_newName (o : Nat) (U : Um) (post : Int32 → Um → Prop) : Prop :=
  w_X4_anyName o U (fun r_2 U_1 => (∀ K_3 : Um → Prop, (∀ (U_4 : Um), (((uI U_4 o 2) = 0 → oc (uR U_4 o 0) = 7 ∧ w_X8_advance (uR U_4 o 0) U_4 (fun U_6 => post r_2 U_6)) ∧ (¬ (uI U_4 o 2) = 0 → post (-1) U_4)) → K_3 U_4) → ((uI U_1 o 2) = 0 → uR U_1 o 1 ≠ 99 ∧ oc (uR U_1 o 1) = 8 ∧ w_X9_isGiven (uR U_1 o 1) r_2 U_1 (fun r_10 U_9 => (r_10 = 0 → K_3 U_9) ∧ (¬ r_10 = 0 → oc (uR U_9 o 0) = 7 ∧ w_X4_fail o 3 (uI U_9 (uR U_9 o 0) 2) U_9 (fun U_12 => K_3 U_12)))) ∧ (¬ (uI U_1 o 2) = 0 → K_3 U_1)))
set_option maxHeartbeats 4000000 in
theorem t_X4_newName {l : Launch} {Y : px_Y} {o : Nat} {U : Um} {post : Int32 → Um → Prop} (ho : oc o = 3) (H : w_X4_newName o U post) : um l Y 2 yX4_newName cX4_newName 2 (some (.int)) [.ref (Y.2.1 o)] U (pq_i post) := by
  unfold w_X4_newName at H
  refine um_of (by decide) (Nat.le_of_ble_eq_true rfl) [some (.ref (Y.2.1 o)), none] rfl (fun X h0 hh sz hM hU => ?_)
  have hC := hM.1
  have hR := hM.2.2.1
  refine pr_aload_n hC (by decide +kernel : decode cX4_newName 0 = .ok (.aload_n 0, 1)) rfl ?_
  refine vc_Vi hC hR [] fv_X4_256 (by decide +kernel : decode cX4_newName 1 = .ok (.invokevirtual 256, 3)) hU (t_X4_anyName ho H) ho (by decide) rfl rfl rfl (Nat.le_of_ble_eq_true rfl) (Nat.le_of_ble_eq_true rfl) (Nat.le_refl 0) (Nat.le_refl 0) (fun r_2 U_1 h H hU => ?_)
  refine pr_istore_n hC (by decide +kernel : decode cX4_newName 4 = .ok (.istore_n 1, 1)) (by decide) rfl ?_
  refine pr_aload_n hC (by decide +kernel : decode cX4_newName 5 = .ok (.aload_n 0, 1)) rfl ?_
  refine pu_g0 hC fg_X4_28 (by decide +kernel : decode cX4_newName 6 = .ok (.getfield 28, 3)) hU ho (by decide) rfl rfl ?_
  replace H := H (fun U_4 => ∀ h : pe_H, rF Y h0 U_4 h → pw X Y.1 (pm_A hh sz) (pm_E X Y.1 hh sz 0 0 (pm_P Y h0 sz (pq_i post))) 35 [some (.ref (Y.2.1 o)), some (.int r_2)] [] h sz 0 0) (by
    intro U_4 H h hU
    refine pr_aload_n hC (by decide +kernel : decode cX4_newName 35 = .ok (.aload_n 0, 1)) rfl ?_
    refine pu_g0 hC fg_X4_28 (by decide +kernel : decode cX4_newName 36 = .ok (.getfield 28, 3)) hU ho (by decide) rfl rfl ?_
    refine pr_if_eq hC 44 (by decide +kernel : decode cX4_newName 39 = .ok (.ifCond .eq 5, 3)) (by decide) (fun c_39 => ?_) (fun c_39 => ?_)
    · replace H := H.1 c_39
      refine pr_aload_n hC (by decide +kernel : decode cX4_newName 44 = .ok (.aload_n 0, 1)) rfl ?_
      refine pu_g21 hC fg_X4_9 (by decide +kernel : decode cX4_newName 45 = .ok (.getfield 9, 3)) hU ho (by decide) rfl rfl ?_
      have q_5 := H.1
      replace H := H.2
      refine vc_Vv hC hR [] fv_X4_65 (by decide +kernel : decode cX4_newName 48 = .ok (.invokevirtual 65, 3)) hU (t_X8_advance q_5 H) q_5 (by decide) rfl rfl rfl (Nat.le_of_ble_eq_true rfl) (Nat.le_of_ble_eq_true rfl) (Nat.le_refl 0) (Nat.le_refl 0) (fun U_6 h H hU => ?_)
      refine pr_iload_n hC (by decide +kernel : decode cX4_newName 51 = .ok (.iload_n 1, 1)) rfl ?_
      exact pv_iret hM (by decide +kernel : decode cX4_newName 52 = .ok (.ireturn, 1)) hU H
    replace H := H.2 c_39
    refine pr_iconst hC (-1) (by decide +kernel : decode cX4_newName 42 = .ok (.iconst (-1), 1)) rfl ?_
    exact pv_iret hM (by decide +kernel : decode cX4_newName 43 = .ok (.ireturn, 1)) hU H)
  refine pr_if_ne hC 35 (by decide +kernel : decode cX4_newName 9 = .ok (.ifCond .ne 26, 3)) (by decide) (fun c_9 => ?_) (fun c_9 => ?_)
  · replace H := H.2 c_9
    exact pv_sub [some (.ref (Y.2.1 o)), some (.int r_2)] (And.intro rfl (And.intro rfl trivial)) (H h hU)
  replace H := H.1 c_9
  refine pr_aload_n hC (by decide +kernel : decode cX4_newName 12 = .ok (.aload_n 0, 1)) rfl ?_
  refine pu_g22 hC fg_X4_19 (by decide +kernel : decode cX4_newName 13 = .ok (.getfield 19, 3)) hU ho (by decide) rfl rfl H.1 ?_
  replace H := H.2
  have q_8 := H.1
  replace H := H.2
  refine pr_iload_n hC (by decide +kernel : decode cX4_newName 16 = .ok (.iload_n 1, 1)) rfl ?_
  refine vc_Vi hC hR [.int r_2] fv_X4_259 (by decide +kernel : decode cX4_newName 17 = .ok (.invokevirtual 259, 3)) hU (t_X9_isGiven q_8 H) q_8 (by decide) rfl rfl rfl (Nat.le_of_ble_eq_true rfl) (Nat.le_of_ble_eq_true rfl) (Nat.le_refl 0) (Nat.le_refl 0) (fun r_10 U_9 h H hU => ?_)
  refine pr_if_eq hC 35 (by decide +kernel : decode cX4_newName 20 = .ok (.ifCond .eq 15, 3)) (by decide) (fun c_20 => ?_) (fun c_20 => ?_)
  · replace H := H.1 c_20
    exact pv_sub [some (.ref (Y.2.1 o)), some (.int r_2)] (And.intro rfl (And.intro rfl trivial)) (H h hU)
  replace H := H.2 c_20
  refine pr_aload_n hC (by decide +kernel : decode cX4_newName 23 = .ok (.aload_n 0, 1)) rfl ?_
  refine pr_iconst hC (3) (by decide +kernel : decode cX4_newName 24 = .ok (.iconst 3, 1)) rfl ?_
  refine pr_aload_n hC (by decide +kernel : decode cX4_newName 25 = .ok (.aload_n 0, 1)) rfl ?_
  refine pu_g21 hC fg_X4_9 (by decide +kernel : decode cX4_newName 26 = .ok (.getfield 9, 3)) hU ho (by decide) rfl rfl ?_
  have q_11 := H.1
  replace H := H.2
  refine pu_g0 hC fg_X4_46 (by decide +kernel : decode cX4_newName 29 = .ok (.getfield 46, 3)) hU q_11 (by decide) rfl rfl ?_
  refine vc_Vv hC hR [.int 3, .int (uI U_9 (uR U_9 o 0) 2)] fv_X4_61 (by decide +kernel : decode cX4_newName 32 = .ok (.invokevirtual 61, 3)) hU (t_X4_fail ho H) ho (by decide) rfl rfl rfl (Nat.le_of_ble_eq_true rfl) (Nat.le_of_ble_eq_true rfl) (Nat.le_refl 0) (Nat.le_refl 0) (fun U_12 h H hU => ?_)
  exact pv_sub [some (.ref (Y.2.1 o)), some (.int r_2)] (And.intro rfl (And.intro rfl trivial)) (H h hU)
def w_X9_addName (o : Nat) (a1 : Int32) (a2 : Int32) (U : Um) (post : Int32 → Um → Prop) : Prop :=
  vp_in a1 3 ∧ ∀ (x3_1 : Int32), x3_1 = uA U o 1 (Int32.toNatClampNeg a1) → vp_in a1 3 ∧ vp_in x3_1 10 ∧ ∀ (U_3 : Um), U_3 = sA U o (ki 0 (Int32.toNatClampNeg a1)) (va_up (uA U o (ki 0 (Int32.toNatClampNeg a1))) (Int32.toNatClampNeg x3_1) a2) → vp_in a1 3 ∧ vp_in a1 3 ∧ ∀ (U_4 : Um), U_4 = sA U_3 o 1 (va_up (uA U_3 o 1) (Int32.toNatClampNeg a1) ((uA U_3 o 1 (Int32.toNatClampNeg a1)) + 1)) → post x3_1 U_4
set_option maxHeartbeats 4000000 in
theorem t_X9_addName {l : Launch} {Y : px_Y} {o : Nat} {a1 : Int32} {a2 : Int32} {U : Um} {post : Int32 → Um → Prop} (ho : oc o = 8) (H : w_X9_addName o a1 a2 U post) : um l Y 0 yX9_addName cX9_addName 4 (some (.int)) [.ref (Y.2.1 o), .int a1, .int a2] U (pq_i post) := by
  unfold w_X9_addName at H
  refine um_of (by decide) (Nat.le_of_ble_eq_true rfl) [some (.ref (Y.2.1 o)), some (.int a1), some (.int a2), none] rfl (fun X h0 hh sz hM hU => ?_)
  have hC := hM.1
  have hR := hM.2.2.1
  refine pr_aload_n hC (by decide +kernel : decode cX9_addName 0 = .ok (.aload_n 0, 1)) rfl ?_
  refine pu_g1 hC fg_X9_16 (by decide +kernel : decode cX9_addName 1 = .ok (.getfield 16, 3)) hU ho (by decide) rfl (by decide) ?_
  refine pr_iload_n hC (by decide +kernel : decode cX9_addName 4 = .ok (.iload_n 1, 1)) rfl ?_
  refine pu_iald hC (by decide +kernel : decode cX9_addName 5 = .ok (.iaload, 1)) hU ho rfl H.1 ?_
  replace H := H.2
  refine pv_topi (fun x3_1 e_x3_1 => ?_)
  replace H := H x3_1 e_x3_1
  refine pr_istore_n hC (by decide +kernel : decode cX9_addName 6 = .ok (.istore_n 3, 1)) (by decide) rfl ?_
  refine pr_aload_n hC (by decide +kernel : decode cX9_addName 7 = .ok (.aload_n 0, 1)) rfl ?_
  refine pu_g1 hC fg_X9_11 (by decide +kernel : decode cX9_addName 8 = .ok (.getfield 11, 3)) hU ho (by decide) rfl (by decide) ?_
  refine pr_iload_n hC (by decide +kernel : decode cX9_addName 11 = .ok (.iload_n 1, 1)) rfl ?_
  have q_2 := H.1
  replace H := H.2
  refine pu_aald6 hC (by decide +kernel : decode cX9_addName 12 = .ok (.aaload, 1)) hU ho rfl q_2 ?_
  refine pr_iload_n hC (by decide +kernel : decode cX9_addName 13 = .ok (.iload_n 3, 1)) rfl ?_
  refine pr_iload_n hC (by decide +kernel : decode cX9_addName 14 = .ok (.iload_n 2, 1)) rfl ?_
  refine pv_iast7 hC (by decide +kernel : decode cX9_addName 15 = .ok (.iastore, 1)) hU ho rfl (vp_lt q_2) H.1 (fun U_3 h e_U_3 hU => ?_)
  replace H := H.2 U_3 e_U_3
  refine pr_aload_n hC (by decide +kernel : decode cX9_addName 16 = .ok (.aload_n 0, 1)) rfl ?_
  refine pu_g1 hC fg_X9_16 (by decide +kernel : decode cX9_addName 17 = .ok (.getfield 16, 3)) hU ho (by decide) rfl (by decide) ?_
  refine pr_iload_n hC (by decide +kernel : decode cX9_addName 20 = .ok (.iload_n 1, 1)) rfl ?_
  refine pr_dup2 hC (by decide +kernel : decode cX9_addName 21 = .ok (.dup2, 1)) rfl rfl ?_
  refine pu_iald hC (by decide +kernel : decode cX9_addName 22 = .ok (.iaload, 1)) hU ho rfl H.1 ?_
  replace H := H.2
  refine pr_iconst hC (1) (by decide +kernel : decode cX9_addName 23 = .ok (.iconst 1, 1)) rfl ?_
  refine pr_iadd hC (by decide +kernel : decode cX9_addName 24 = .ok (.iadd, 1)) ?_
  refine pv_iast hC (by decide +kernel : decode cX9_addName 25 = .ok (.iastore, 1)) hU ho rfl H.1 (fun U_4 h e_U_4 hU => ?_)
  replace H := H.2 U_4 e_U_4
  refine pr_iload_n hC (by decide +kernel : decode cX9_addName 26 = .ok (.iload_n 3, 1)) rfl ?_
  exact pv_iret hM (by decide +kernel : decode cX9_addName 27 = .ok (.ireturn, 1)) hU H
def w_X4_readGiven (o : Nat) (a1 : Int32) (U : Um) (post : Int32 → Um → Prop) : Prop :=
  uR U o 1 ≠ 99 ∧ oc (uR U o 1) = 8 ∧ w_X9_isFull (uR U o 1) a1 U (fun r_3 U_2 => (∀ K_4 : Um → Prop, (∀ (U_5 : Um), (w_X4_newName o U_5 (fun r_7 U_6 => ((uI U_6 o 2) = 0 → uR U_6 o 1 ≠ 99 ∧ oc (uR U_6 o 1) = 8 ∧ w_X9_addName (uR U_6 o 1) a1 r_7 U_6 (fun r_10 U_9 => post r_10 U_9)) ∧ (¬ (uI U_6 o 2) = 0 → post (-1) U_6))) → K_4 U_5) → (r_3 = 0 → K_4 U_2) ∧ (¬ r_3 = 0 → w_X4_fail o 4 (uI U_2 o 4) U_2 (fun U_11 => K_4 U_11))))
set_option maxHeartbeats 4000000 in
theorem t_X4_readGiven {l : Launch} {Y : px_Y} {o : Nat} {a1 : Int32} {U : Um} {post : Int32 → Um → Prop} (ho : oc o = 3) (H : w_X4_readGiven o a1 U post) : um l Y 3 yX4_readGiven cX4_readGiven 3 (some (.int)) [.ref (Y.2.1 o), .int a1] U (pq_i post) := by
  unfold w_X4_readGiven at H
  refine um_of (by decide) (Nat.le_of_ble_eq_true rfl) [some (.ref (Y.2.1 o)), some (.int a1), none] rfl (fun X h0 hh sz hM hU => ?_)
  have hC := hM.1
  have hR := hM.2.2.1
  refine pr_aload_n hC (by decide +kernel : decode cX4_readGiven 0 = .ok (.aload_n 0, 1)) rfl ?_
  refine pu_g22 hC fg_X4_19 (by decide +kernel : decode cX4_readGiven 1 = .ok (.getfield 19, 3)) hU ho (by decide) rfl rfl H.1 ?_
  replace H := H.2
  have q_1 := H.1
  replace H := H.2
  refine pr_iload_n hC (by decide +kernel : decode cX4_readGiven 4 = .ok (.iload_n 1, 1)) rfl ?_
  refine vc_Vi hC hR [.int a1] fv_X4_110 (by decide +kernel : decode cX4_readGiven 5 = .ok (.invokevirtual 110, 3)) hU (t_X9_isFull q_1 H) q_1 (by decide) rfl rfl rfl (Nat.le_of_ble_eq_true rfl) (Nat.le_of_ble_eq_true rfl) (Nat.le_refl 0) (Nat.le_refl 0) (fun r_3 U_2 h H hU => ?_)
  replace H := H (fun U_5 => ∀ h : pe_H, rF Y h0 U_5 h → pw X Y.1 (pm_A hh sz) (pm_E X Y.1 hh sz 0 0 (pm_P Y h0 sz (pq_i post))) 20 [some (.ref (Y.2.1 o)), some (.int a1), none] [] h sz 0 0) (by
    intro U_5 H h hU
    refine pr_aload_n hC (by decide +kernel : decode cX4_readGiven 20 = .ok (.aload_n 0, 1)) rfl ?_
    refine vc_Vi hC hR [] fv_X4_114 (by decide +kernel : decode cX4_readGiven 21 = .ok (.invokevirtual 114, 3)) hU (t_X4_newName ho H) ho (by decide) rfl rfl rfl (Nat.le_of_ble_eq_true rfl) (Nat.le_of_ble_eq_true rfl) (Nat.le_refl 0) (Nat.le_refl 0) (fun r_7 U_6 h H hU => ?_)
    refine pr_istore_n hC (by decide +kernel : decode cX4_readGiven 24 = .ok (.istore_n 2, 1)) (by decide) rfl ?_
    refine pr_aload_n hC (by decide +kernel : decode cX4_readGiven 25 = .ok (.aload_n 0, 1)) rfl ?_
    refine pu_g0 hC fg_X4_28 (by decide +kernel : decode cX4_readGiven 26 = .ok (.getfield 28, 3)) hU ho (by decide) rfl rfl ?_
    refine pr_if_ne hC 44 (by decide +kernel : decode cX4_readGiven 29 = .ok (.ifCond .ne 15, 3)) (by decide) (fun c_29 => ?_) (fun c_29 => ?_)
    · replace H := H.2 c_29
      refine pr_iconst hC (-1) (by decide +kernel : decode cX4_readGiven 44 = .ok (.iconst (-1), 1)) rfl ?_
      exact pv_iret hM (by decide +kernel : decode cX4_readGiven 45 = .ok (.ireturn, 1)) hU H
    replace H := H.1 c_29
    refine pr_aload_n hC (by decide +kernel : decode cX4_readGiven 32 = .ok (.aload_n 0, 1)) rfl ?_
    refine pu_g22 hC fg_X4_19 (by decide +kernel : decode cX4_readGiven 33 = .ok (.getfield 19, 3)) hU ho (by decide) rfl rfl H.1 ?_
    replace H := H.2
    have q_8 := H.1
    replace H := H.2
    refine pr_iload_n hC (by decide +kernel : decode cX4_readGiven 36 = .ok (.iload_n 1, 1)) rfl ?_
    refine pr_iload_n hC (by decide +kernel : decode cX4_readGiven 37 = .ok (.iload_n 2, 1)) rfl ?_
    refine vc_Vi hC hR [.int a1, .int r_7] fv_X4_117 (by decide +kernel : decode cX4_readGiven 38 = .ok (.invokevirtual 117, 3)) hU (t_X9_addName q_8 H) q_8 (by decide) rfl rfl rfl (Nat.le_of_ble_eq_true rfl) (Nat.le_of_ble_eq_true rfl) (Nat.le_refl 0) (Nat.le_refl 0) (fun r_10 U_9 h H hU => ?_)
    refine pr_goto hC 45 (by decide +kernel : decode cX4_readGiven 41 = .ok (.goto 4, 3)) (by decide) ?_
    exact pv_iret hM (by decide +kernel : decode cX4_readGiven 45 = .ok (.ireturn, 1)) hU H)
  refine pr_if_eq hC 20 (by decide +kernel : decode cX4_readGiven 8 = .ok (.ifCond .eq 12, 3)) (by decide) (fun c_8 => ?_) (fun c_8 => ?_)
  · replace H := H.1 c_8
    exact pv_sub [some (.ref (Y.2.1 o)), some (.int a1), none] (And.intro rfl (And.intro rfl trivial)) (H h hU)
  replace H := H.2 c_8
  refine pr_aload_n hC (by decide +kernel : decode cX4_readGiven 11 = .ok (.aload_n 0, 1)) rfl ?_
  refine pr_iconst hC (4) (by decide +kernel : decode cX4_readGiven 12 = .ok (.iconst 4, 1)) rfl ?_
  refine pr_aload_n hC (by decide +kernel : decode cX4_readGiven 13 = .ok (.aload_n 0, 1)) rfl ?_
  refine pu_g0 hC fg_X4_49 (by decide +kernel : decode cX4_readGiven 14 = .ok (.getfield 49, 3)) hU ho (by decide) rfl rfl ?_
  refine vc_Vv hC hR [.int 4, .int (uI U_2 o 4)] fv_X4_61 (by decide +kernel : decode cX4_readGiven 17 = .ok (.invokevirtual 61, 3)) hU (t_X4_fail ho H) ho (by decide) rfl rfl rfl (Nat.le_of_ble_eq_true rfl) (Nat.le_of_ble_eq_true rfl) (Nat.le_refl 0) (Nat.le_refl 0) (fun U_11 h H hU => ?_)
  exact pv_sub [some (.ref (Y.2.1 o)), some (.int a1), none] (And.intro rfl (And.intro rfl trivial)) (H h hU)
def w_X4_numberWithin (o : Nat) (a1 : Int32) (a2 : Int32) (U : Um) (post : Int32 → Um → Prop) : Prop :=
  oc (uR U o 0) = 7 ∧ ∀ (x3_2 : Int32), x3_2 = uI U (uR U o 0) 6 → (∀ K_3 : Um → Prop, (∀ (U_4 : Um), (((uI U_4 o 2) = 0 → oc (uR U_4 o 0) = 7 ∧ w_X8_advance (uR U_4 o 0) U_4 (fun U_6 => post x3_2 U_6)) ∧ (¬ (uI U_4 o 2) = 0 → post (-1) U_4)) → K_3 U_4) → (x3_2 = (-1) → oc (uR U o 0) = 7 ∧ w_X4_fail o 1 (uI U (uR U o 0) 2) U (fun U_9 => K_3 U_9)) ∧ (¬ x3_2 = (-1) → (∀ K_11 : Prop, ((oc (uR U o 0) = 7 ∧ w_X4_fail o 2 (uI U (uR U o 0) 2) U (fun U_13 => K_3 U_13)) → K_11 ) → (x3_2 < a1 → K_11) ∧ (¬ x3_2 < a1 → (x3_2 ≤ a2 → K_3 U) ∧ (¬ x3_2 ≤ a2 → K_11)))))
set_option maxHeartbeats 4000000 in
theorem t_X4_numberWithin {l : Launch} {Y : px_Y} {o : Nat} {a1 : Int32} {a2 : Int32} {U : Um} {post : Int32 → Um → Prop} (ho : oc o = 3) (H : w_X4_numberWithin o a1 a2 U post) : um l Y 1 yX4_numberWithin cX4_numberWithin 4 (some (.int)) [.ref (Y.2.1 o), .int a1, .int a2] U (pq_i post) := by
  unfold w_X4_numberWithin at H
  refine um_of (by decide) (Nat.le_of_ble_eq_true rfl) [some (.ref (Y.2.1 o)), some (.int a1), some (.int a2), none] rfl (fun X h0 hh sz hM hU => ?_)
  have hC := hM.1
  have hR := hM.2.2.1
  refine pr_aload_n hC (by decide +kernel : decode cX4_numberWithin 0 = .ok (.aload_n 0, 1)) rfl ?_
  refine pu_g21 hC fg_X4_9 (by decide +kernel : decode cX4_numberWithin 1 = .ok (.getfield 9, 3)) hU ho (by decide) rfl rfl ?_
  have q_1 := H.1
  replace H := H.2
  refine pu_g0 hC fg_X4_249 (by decide +kernel : decode cX4_numberWithin 4 = .ok (.getfield 249, 3)) hU q_1 (by decide) rfl rfl ?_
  refine pv_topi (fun x3_2 e_x3_2 => ?_)
  replace H := H x3_2 e_x3_2
  refine pr_istore_n hC (by decide +kernel : decode cX4_numberWithin 7 = .ok (.istore_n 3, 1)) (by decide) rfl ?_
  refine pr_iload_n hC (by decide +kernel : decode cX4_numberWithin 8 = .ok (.iload_n 3, 1)) rfl ?_
  refine pr_iconst hC (-1) (by decide +kernel : decode cX4_numberWithin 9 = .ok (.iconst (-1), 1)) rfl ?_
  replace H := H (fun U_4 => ∀ h : pe_H, rF Y h0 U_4 h → pw X Y.1 (pm_A hh sz) (pm_E X Y.1 hh sz 0 0 (pm_P Y h0 sz (pq_i post))) 50 [some (.ref (Y.2.1 o)), none, none, some (.int x3_2)] [] h sz 0 0) (by
    intro U_4 H h hU
    refine pr_aload_n hC (by decide +kernel : decode cX4_numberWithin 50 = .ok (.aload_n 0, 1)) rfl ?_
    refine pu_g0 hC fg_X4_28 (by decide +kernel : decode cX4_numberWithin 51 = .ok (.getfield 28, 3)) hU ho (by decide) rfl rfl ?_
    refine pr_if_eq hC 59 (by decide +kernel : decode cX4_numberWithin 54 = .ok (.ifCond .eq 5, 3)) (by decide) (fun c_54 => ?_) (fun c_54 => ?_)
    · replace H := H.1 c_54
      refine pr_aload_n hC (by decide +kernel : decode cX4_numberWithin 59 = .ok (.aload_n 0, 1)) rfl ?_
      refine pu_g21 hC fg_X4_9 (by decide +kernel : decode cX4_numberWithin 60 = .ok (.getfield 9, 3)) hU ho (by decide) rfl rfl ?_
      have q_5 := H.1
      replace H := H.2
      refine vc_Vv hC hR [] fv_X4_65 (by decide +kernel : decode cX4_numberWithin 63 = .ok (.invokevirtual 65, 3)) hU (t_X8_advance q_5 H) q_5 (by decide) rfl rfl rfl (Nat.le_of_ble_eq_true rfl) (Nat.le_of_ble_eq_true rfl) (Nat.le_refl 0) (Nat.le_refl 0) (fun U_6 h H hU => ?_)
      refine pr_iload_n hC (by decide +kernel : decode cX4_numberWithin 66 = .ok (.iload_n 3, 1)) rfl ?_
      exact pv_iret hM (by decide +kernel : decode cX4_numberWithin 67 = .ok (.ireturn, 1)) hU H
    replace H := H.2 c_54
    refine pr_iconst hC (-1) (by decide +kernel : decode cX4_numberWithin 57 = .ok (.iconst (-1), 1)) rfl ?_
    exact pv_iret hM (by decide +kernel : decode cX4_numberWithin 58 = .ok (.ireturn, 1)) hU H)
  refine pr_icmp_ne hC 28 (by decide +kernel : decode cX4_numberWithin 10 = .ok (.if_icmp .ne 18, 3)) (by decide) (fun c_10 => ?_) (fun c_10 => ?_)
  · replace H := H.2 c_10
    refine pr_iload_n hC (by decide +kernel : decode cX4_numberWithin 28 = .ok (.iload_n 3, 1)) rfl ?_
    refine pr_iload_n hC (by decide +kernel : decode cX4_numberWithin 29 = .ok (.iload_n 1, 1)) rfl ?_
    replace H := H (pw X Y.1 (pm_A hh sz) (pm_E X Y.1 hh sz 0 0 (pm_P Y h0 sz (pq_i post))) 38 [some (.ref (Y.2.1 o)), none, none, some (.int x3_2)] [] hh sz 0 0) (by
      intro  H
      refine pr_aload_n hC (by decide +kernel : decode cX4_numberWithin 38 = .ok (.aload_n 0, 1)) rfl ?_
      refine pr_iconst hC (2) (by decide +kernel : decode cX4_numberWithin 39 = .ok (.iconst 2, 1)) rfl ?_
      refine pr_aload_n hC (by decide +kernel : decode cX4_numberWithin 40 = .ok (.aload_n 0, 1)) rfl ?_
      refine pu_g21 hC fg_X4_9 (by decide +kernel : decode cX4_numberWithin 41 = .ok (.getfield 9, 3)) hU ho (by decide) rfl rfl ?_
      have q_12 := H.1
      replace H := H.2
      refine pu_g0 hC fg_X4_46 (by decide +kernel : decode cX4_numberWithin 44 = .ok (.getfield 46, 3)) hU q_12 (by decide) rfl rfl ?_
      refine vc_Vv hC hR [.int 2, .int (uI U (uR U o 0) 2)] fv_X4_61 (by decide +kernel : decode cX4_numberWithin 47 = .ok (.invokevirtual 61, 3)) hU (t_X4_fail ho H) ho (by decide) rfl rfl rfl (Nat.le_of_ble_eq_true rfl) (Nat.le_of_ble_eq_true rfl) (Nat.le_refl 0) (Nat.le_refl 0) (fun U_13 h H hU => ?_)
      exact pv_sub [some (.ref (Y.2.1 o)), none, none, some (.int x3_2)] (And.intro rfl (And.intro rfl trivial)) (H h hU))
    refine pr_icmp_lt hC 38 (by decide +kernel : decode cX4_numberWithin 30 = .ok (.if_icmp .lt 8, 3)) (by decide) (fun c_30 => ?_) (fun c_30 => ?_)
    · replace H := H.1 c_30
      exact pv_sub [some (.ref (Y.2.1 o)), none, none, some (.int x3_2)] (And.intro rfl (And.intro rfl trivial)) (H )
    replace H := H.2 c_30
    refine pr_iload_n hC (by decide +kernel : decode cX4_numberWithin 33 = .ok (.iload_n 3, 1)) rfl ?_
    refine pr_iload_n hC (by decide +kernel : decode cX4_numberWithin 34 = .ok (.iload_n 2, 1)) rfl ?_
    refine pr_icmp_le hC 50 (by decide +kernel : decode cX4_numberWithin 35 = .ok (.if_icmp .le 15, 3)) (by decide) (fun c_35 => ?_) (fun c_35 => ?_)
    · replace H := H.1 c_35
      exact pv_sub [some (.ref (Y.2.1 o)), none, none, some (.int x3_2)] (And.intro rfl (And.intro rfl trivial)) (H hh hU)
    replace H := H.2 c_35
    exact pv_sub [some (.ref (Y.2.1 o)), none, none, some (.int x3_2)] (And.intro rfl (And.intro rfl trivial)) (H )
  replace H := H.1 c_10
  refine pr_aload_n hC (by decide +kernel : decode cX4_numberWithin 13 = .ok (.aload_n 0, 1)) rfl ?_
  refine pr_iconst hC (1) (by decide +kernel : decode cX4_numberWithin 14 = .ok (.iconst 1, 1)) rfl ?_
  refine pr_aload_n hC (by decide +kernel : decode cX4_numberWithin 15 = .ok (.aload_n 0, 1)) rfl ?_
  refine pu_g21 hC fg_X4_9 (by decide +kernel : decode cX4_numberWithin 16 = .ok (.getfield 9, 3)) hU ho (by decide) rfl rfl ?_
  have q_8 := H.1
  replace H := H.2
  refine pu_g0 hC fg_X4_46 (by decide +kernel : decode cX4_numberWithin 19 = .ok (.getfield 46, 3)) hU q_8 (by decide) rfl rfl ?_
  refine vc_Vv hC hR [.int 1, .int (uI U (uR U o 0) 2)] fv_X4_61 (by decide +kernel : decode cX4_numberWithin 22 = .ok (.invokevirtual 61, 3)) hU (t_X4_fail ho H) ho (by decide) rfl rfl rfl (Nat.le_of_ble_eq_true rfl) (Nat.le_of_ble_eq_true rfl) (Nat.le_refl 0) (Nat.le_refl 0) (fun U_9 h H hU => ?_)
  refine pr_goto hC 50 (by decide +kernel : decode cX4_numberWithin 25 = .ok (.goto 25, 3)) (by decide) ?_
  exact pv_sub [some (.ref (Y.2.1 o)), none, none, some (.int x3_2)] (And.intro rfl (And.intro rfl trivial)) (H h hU)
def w_X4_isWord (o : Nat) (a1 : Nat) (U : Um) (post : Int32 → Um → Prop) : Prop :=
  oc (uR U o 0) = 7 ∧ ((uI U (uR U o 0) 5) = (wcode a1) → post 1 U) ∧ (¬ (uI U (uR U o 0) 5) = (wcode a1) → post 0 U)
set_option maxHeartbeats 4000000 in
theorem t_X4_isWord {l : Launch} {Y : px_Y} {o : Nat} {a1 : Nat} {U : Um} {post : Int32 → Um → Prop} (ho : oc o = 3) (ha1 : a1 < 23) (H : w_X4_isWord o a1 U post) : um l Y 0 yX4_isWord cX4_isWord 2 (some (.boolean)) [.ref (Y.2.1 o), .ref (Y.1.2.2 (100 + a1))] U (pq_i post) := by
  unfold w_X4_isWord at H
  refine um_of (by decide) (Nat.le_of_ble_eq_true rfl) [some (.ref (Y.2.1 o)), some (.ref (Y.1.2.2 (100 + a1)))] rfl (fun X h0 hh sz hM hU => ?_)
  have hC := hM.1
  have hR := hM.2.2.1
  refine pr_aload_n hC (by decide +kernel : decode cX4_isWord 0 = .ok (.aload_n 0, 1)) rfl ?_
  refine pu_g21 hC fg_X4_9 (by decide +kernel : decode cX4_isWord 1 = .ok (.getfield 9, 3)) hU ho (by decide) rfl rfl ?_
  have q_1 := H.1
  replace H := H.2
  refine pu_g0 hC fg_X4_52 (by decide +kernel : decode cX4_isWord 4 = .ok (.getfield 52, 3)) hU q_1 (by decide) rfl rfl ?_
  refine pr_aload_n hC (by decide +kernel : decode cX4_isWord 7 = .ok (.aload_n 1, 1)) rfl ?_
  refine pr_getW_code hC fw_X4_255 (by decide +kernel : decode cX4_isWord 8 = .ok (.getfield 255, 3)) ha1 ?_
  refine pr_icmp_ne hC 18 (by decide +kernel : decode cX4_isWord 11 = .ok (.if_icmp .ne 7, 3)) (by decide) (fun c_11 => ?_) (fun c_11 => ?_)
  · replace H := H.2 c_11
    refine pr_iconst hC (0) (by decide +kernel : decode cX4_isWord 18 = .ok (.iconst 0, 1)) rfl ?_
    exact pv_zret hM (by decide +kernel : decode cX4_isWord 19 = .ok (.ireturn, 1)) (Or.inl rfl) hU H
  replace H := H.1 c_11
  refine pr_iconst hC (1) (by decide +kernel : decode cX4_isWord 14 = .ok (.iconst 1, 1)) rfl ?_
  refine pr_goto hC 19 (by decide +kernel : decode cX4_isWord 15 = .ok (.goto 4, 3)) (by decide) ?_
  exact pv_zret hM (by decide +kernel : decode cX4_isWord 19 = .ok (.ireturn, 1)) (Or.inr rfl) hU H
def w_X4_expectWord (o : Nat) (a1 : Nat) (U : Um) (post : Um → Prop) : Prop :=
  ((uI U o 2) = 0 → w_X4_isWord o a1 U (fun r_2 U_1 => (r_2 = 0 → oc (uR U_1 o 0) = 7 ∧ w_X4_fail o 1 (uI U_1 (uR U_1 o 0) 2) U_1 (fun U_4 => post U_4)) ∧ (¬ r_2 = 0 → oc (uR U_1 o 0) = 7 ∧ w_X8_advance (uR U_1 o 0) U_1 (fun U_7 => post U_7)))) ∧ (¬ (uI U o 2) = 0 → post U)
set_option maxHeartbeats 4000000 in
theorem t_X4_expectWord {l : Launch} {Y : px_Y} {o : Nat} {a1 : Nat} {U : Um} {post : Um → Prop} (ho : oc o = 3) (ha1 : a1 < 23) (H : w_X4_expectWord o a1 U post) : um l Y 1 yX4_expectWord cX4_expectWord 2 none [.ref (Y.2.1 o), .ref (Y.1.2.2 (100 + a1))] U (pq_v post) := by
  unfold w_X4_expectWord at H
  refine um_of (by decide) (Nat.le_of_ble_eq_true rfl) [some (.ref (Y.2.1 o)), some (.ref (Y.1.2.2 (100 + a1)))] rfl (fun X h0 hh sz hM hU => ?_)
  have hC := hM.1
  have hR := hM.2.2.1
  refine pr_aload_n hC (by decide +kernel : decode cX4_expectWord 0 = .ok (.aload_n 0, 1)) rfl ?_
  refine pu_g0 hC fg_X4_28 (by decide +kernel : decode cX4_expectWord 1 = .ok (.getfield 28, 3)) hU ho (by decide) rfl rfl ?_
  refine pr_if_ne hC 37 (by decide +kernel : decode cX4_expectWord 4 = .ok (.ifCond .ne 33, 3)) (by decide) (fun c_4 => ?_) (fun c_4 => ?_)
  · replace H := H.2 c_4
    exact pv_vret hM (by decide +kernel : decode cX4_expectWord 37 = .ok (.return_, 1)) hU H
  replace H := H.1 c_4
  refine pr_aload_n hC (by decide +kernel : decode cX4_expectWord 7 = .ok (.aload_n 0, 1)) rfl ?_
  refine pr_aload_n hC (by decide +kernel : decode cX4_expectWord 8 = .ok (.aload_n 1, 1)) rfl ?_
  refine vc_Vi hC hR [.ref (Y.1.2.2 (100 + a1))] fv_X4_138 (by decide +kernel : decode cX4_expectWord 9 = .ok (.invokevirtual 138, 3)) hU (t_X4_isWord ho ha1 H) ho (by decide) rfl rfl rfl (Nat.le_of_ble_eq_true rfl) (Nat.le_of_ble_eq_true rfl) (Nat.le_refl 0) (Nat.le_refl 0) (fun r_2 U_1 h H hU => ?_)
  refine pr_if_eq hC 25 (by decide +kernel : decode cX4_expectWord 12 = .ok (.ifCond .eq 13, 3)) (by decide) (fun c_12 => ?_) (fun c_12 => ?_)
  · replace H := H.1 c_12
    refine pr_aload_n hC (by decide +kernel : decode cX4_expectWord 25 = .ok (.aload_n 0, 1)) rfl ?_
    refine pr_iconst hC (1) (by decide +kernel : decode cX4_expectWord 26 = .ok (.iconst 1, 1)) rfl ?_
    refine pr_aload_n hC (by decide +kernel : decode cX4_expectWord 27 = .ok (.aload_n 0, 1)) rfl ?_
    refine pu_g21 hC fg_X4_9 (by decide +kernel : decode cX4_expectWord 28 = .ok (.getfield 9, 3)) hU ho (by decide) rfl rfl ?_
    have q_3 := H.1
    replace H := H.2
    refine pu_g0 hC fg_X4_46 (by decide +kernel : decode cX4_expectWord 31 = .ok (.getfield 46, 3)) hU q_3 (by decide) rfl rfl ?_
    refine vc_Vv hC hR [.int 1, .int (uI U_1 (uR U_1 o 0) 2)] fv_X4_61 (by decide +kernel : decode cX4_expectWord 34 = .ok (.invokevirtual 61, 3)) hU (t_X4_fail ho H) ho (by decide) rfl rfl rfl (Nat.le_of_ble_eq_true rfl) (Nat.le_of_ble_eq_true rfl) (Nat.le_refl 0) (Nat.le_refl 0) (fun U_4 h H hU => ?_)
    exact pv_vret hM (by decide +kernel : decode cX4_expectWord 37 = .ok (.return_, 1)) hU H
  replace H := H.2 c_12
  refine pr_aload_n hC (by decide +kernel : decode cX4_expectWord 15 = .ok (.aload_n 0, 1)) rfl ?_
  refine pu_g21 hC fg_X4_9 (by decide +kernel : decode cX4_expectWord 16 = .ok (.getfield 9, 3)) hU ho (by decide) rfl rfl ?_
  have q_6 := H.1
  replace H := H.2
  refine vc_Vv hC hR [] fv_X4_65 (by decide +kernel : decode cX4_expectWord 19 = .ok (.invokevirtual 65, 3)) hU (t_X8_advance q_6 H) q_6 (by decide) rfl rfl rfl (Nat.le_of_ble_eq_true rfl) (Nat.le_of_ble_eq_true rfl) (Nat.le_refl 0) (Nat.le_refl 0) (fun U_7 h H hU => ?_)
  refine pr_goto hC 37 (by decide +kernel : decode cX4_expectWord 22 = .ok (.goto 15, 3)) (by decide) ?_
  exact pv_vret hM (by decide +kernel : decode cX4_expectWord 37 = .ok (.return_, 1)) hU H
def w_X4_toldName (o : Nat) (a1 : Int32) (U : Um) (post : Int32 → Um → Prop) : Prop :=
  uR U o 1 ≠ 99 ∧ oc (uR U o 1) = 8 ∧ w_X4_anyName o U (fun r_3 U_2 => w_X9_find (uR U o 1) a1 r_3 U_2 (fun r_5 U_4 => (∀ K_6 : Um → Prop, (∀ (U_7 : Um), (((uI U_7 o 2) = 0 → oc (uR U_7 o 0) = 7 ∧ w_X8_advance (uR U_7 o 0) U_7 (fun U_9 => post r_5 U_9)) ∧ (¬ (uI U_7 o 2) = 0 → post (-1) U_7)) → K_6 U_7) → (r_5 = (-1) → oc (uR U_4 o 0) = 7 ∧ w_X4_fail o 3 (uI U_4 (uR U_4 o 0) 2) U_4 (fun U_12 => K_6 U_12)) ∧ (¬ r_5 = (-1) → K_6 U_4))))
set_option maxHeartbeats 4000000 in
theorem t_X4_toldName {l : Launch} {Y : px_Y} {o : Nat} {a1 : Int32} {U : Um} {post : Int32 → Um → Prop} (ho : oc o = 3) (H : w_X4_toldName o a1 U post) : um l Y 2 yX4_toldName cX4_toldName 3 (some (.int)) [.ref (Y.2.1 o), .int a1] U (pq_i post) := by
  unfold w_X4_toldName at H
  refine um_of (by decide) (Nat.le_of_ble_eq_true rfl) [some (.ref (Y.2.1 o)), some (.int a1), none] rfl (fun X h0 hh sz hM hU => ?_)
  have hC := hM.1
  have hR := hM.2.2.1
  refine pr_aload_n hC (by decide +kernel : decode cX4_toldName 0 = .ok (.aload_n 0, 1)) rfl ?_
  refine pu_g22 hC fg_X4_19 (by decide +kernel : decode cX4_toldName 1 = .ok (.getfield 19, 3)) hU ho (by decide) rfl rfl H.1 ?_
  replace H := H.2
  have q_1 := H.1
  replace H := H.2
  refine pr_iload_n hC (by decide +kernel : decode cX4_toldName 4 = .ok (.iload_n 1, 1)) rfl ?_
  refine pr_aload_n hC (by decide +kernel : decode cX4_toldName 5 = .ok (.aload_n 0, 1)) rfl ?_
  refine vc_Vi hC hR [] fv_X4_256 (by decide +kernel : decode cX4_toldName 6 = .ok (.invokevirtual 256, 3)) hU (t_X4_anyName ho H) ho (by decide) rfl rfl rfl (Nat.le_of_ble_eq_true rfl) (Nat.le_of_ble_eq_true rfl) (Nat.le_refl 0) (Nat.le_refl 0) (fun r_3 U_2 h H hU => ?_)
  refine vc_Vi hC hR [.int a1, .int r_3] fv_X4_262 (by decide +kernel : decode cX4_toldName 9 = .ok (.invokevirtual 262, 3)) hU (t_X9_find q_1 H) q_1 (by decide) rfl rfl rfl (Nat.le_of_ble_eq_true rfl) (Nat.le_of_ble_eq_true rfl) (Nat.le_refl 0) (Nat.le_refl 0) (fun r_5 U_4 h H hU => ?_)
  refine pr_istore_n hC (by decide +kernel : decode cX4_toldName 12 = .ok (.istore_n 2, 1)) (by decide) rfl ?_
  refine pr_iload_n hC (by decide +kernel : decode cX4_toldName 13 = .ok (.iload_n 2, 1)) rfl ?_
  refine pr_iconst hC (-1) (by decide +kernel : decode cX4_toldName 14 = .ok (.iconst (-1), 1)) rfl ?_
  replace H := H (fun U_7 => ∀ h : pe_H, rF Y h0 U_7 h → pw X Y.1 (pm_A hh sz) (pm_E X Y.1 hh sz 0 0 (pm_P Y h0 sz (pq_i post))) 30 [some (.ref (Y.2.1 o)), none, some (.int r_5)] [] h sz 0 0) (by
    intro U_7 H h hU
    refine pr_aload_n hC (by decide +kernel : decode cX4_toldName 30 = .ok (.aload_n 0, 1)) rfl ?_
    refine pu_g0 hC fg_X4_28 (by decide +kernel : decode cX4_toldName 31 = .ok (.getfield 28, 3)) hU ho (by decide) rfl rfl ?_
    refine pr_if_eq hC 39 (by decide +kernel : decode cX4_toldName 34 = .ok (.ifCond .eq 5, 3)) (by decide) (fun c_34 => ?_) (fun c_34 => ?_)
    · replace H := H.1 c_34
      refine pr_aload_n hC (by decide +kernel : decode cX4_toldName 39 = .ok (.aload_n 0, 1)) rfl ?_
      refine pu_g21 hC fg_X4_9 (by decide +kernel : decode cX4_toldName 40 = .ok (.getfield 9, 3)) hU ho (by decide) rfl rfl ?_
      have q_8 := H.1
      replace H := H.2
      refine vc_Vv hC hR [] fv_X4_65 (by decide +kernel : decode cX4_toldName 43 = .ok (.invokevirtual 65, 3)) hU (t_X8_advance q_8 H) q_8 (by decide) rfl rfl rfl (Nat.le_of_ble_eq_true rfl) (Nat.le_of_ble_eq_true rfl) (Nat.le_refl 0) (Nat.le_refl 0) (fun U_9 h H hU => ?_)
      refine pr_iload_n hC (by decide +kernel : decode cX4_toldName 46 = .ok (.iload_n 2, 1)) rfl ?_
      exact pv_iret hM (by decide +kernel : decode cX4_toldName 47 = .ok (.ireturn, 1)) hU H
    replace H := H.2 c_34
    refine pr_iconst hC (-1) (by decide +kernel : decode cX4_toldName 37 = .ok (.iconst (-1), 1)) rfl ?_
    exact pv_iret hM (by decide +kernel : decode cX4_toldName 38 = .ok (.ireturn, 1)) hU H)
  refine pr_icmp_ne hC 30 (by decide +kernel : decode cX4_toldName 15 = .ok (.if_icmp .ne 15, 3)) (by decide) (fun c_15 => ?_) (fun c_15 => ?_)
  · replace H := H.2 c_15
    exact pv_sub [some (.ref (Y.2.1 o)), none, some (.int r_5)] (And.intro rfl (And.intro rfl trivial)) (H h hU)
  replace H := H.1 c_15
  refine pr_aload_n hC (by decide +kernel : decode cX4_toldName 18 = .ok (.aload_n 0, 1)) rfl ?_
  refine pr_iconst hC (3) (by decide +kernel : decode cX4_toldName 19 = .ok (.iconst 3, 1)) rfl ?_
  refine pr_aload_n hC (by decide +kernel : decode cX4_toldName 20 = .ok (.aload_n 0, 1)) rfl ?_
  refine pu_g21 hC fg_X4_9 (by decide +kernel : decode cX4_toldName 21 = .ok (.getfield 9, 3)) hU ho (by decide) rfl rfl ?_
  have q_11 := H.1
  replace H := H.2
  refine pu_g0 hC fg_X4_46 (by decide +kernel : decode cX4_toldName 24 = .ok (.getfield 46, 3)) hU q_11 (by decide) rfl rfl ?_
  refine vc_Vv hC hR [.int 3, .int (uI U_4 (uR U_4 o 0) 2)] fv_X4_61 (by decide +kernel : decode cX4_toldName 27 = .ok (.invokevirtual 61, 3)) hU (t_X4_fail ho H) ho (by decide) rfl rfl rfl (Nat.le_of_ble_eq_true rfl) (Nat.le_of_ble_eq_true rfl) (Nat.le_refl 0) (Nat.le_refl 0) (fun U_12 h H hU => ?_)
  exact pv_sub [some (.ref (Y.2.1 o)), none, some (.int r_5)] (And.intro rfl (And.intro rfl trivial)) (H h hU)
def b_X4_readOfficial_L32 (o0 : Nat) (x1 : Int32) (x2 : Int32) (x3 : Int32) (post : Um → Prop) (k_126 : Int32 → Um → Prop) (rec_ : Int32 → Int32 → Um → Prop) (x4 : Int32) (x5 : Int32) (U : Um) : Prop :=
  ((1200 : Int32) ≤ x5 → k_126 x4 U) ∧ (¬ (1200 : Int32) ≤ x5 → ((uI U o0 2) = 0 → w_X4_isWord o0 5 U (fun r_10 U_9 => (r_10 = 0 → k_126 x4 U_9) ∧ (¬ r_10 = 0 → oc (uR U_9 o0 0) = 7 ∧ w_X8_advance (uR U_9 o0 0) U_9 (fun U_12 => w_X4_toldName o0 1 U_12 (fun r_15 U_14 => (∀ K_16 : Um → Prop, (∀ (U_17 : Um), (((uI U_17 o0 2) = 0 → ∀ (x4_18 : Int32), x4_18 = x4 ||| ((1 : Int32) <<< (r_15 &&& 31)) → ∀ (x5_19 : Int32), x5_19 = x5 + 1 → rec_ x4_18 x5_19 U_17) ∧ (¬ (uI U_17 o0 2) = 0 → ∀ (x4_20 : Int32), x4_20 = x4 ||| 0 → ∀ (x5_21 : Int32), x5_21 = x5 + 1 → rec_ x4_20 x5_21 U_17)) → K_16 U_17) → ((uI U_14 o0 2) = 0 → (((x4 >>> (r_15 &&& 31)) &&& 1) = 0 → K_16 U_14) ∧ (¬ ((x4 >>> (r_15 &&& 31)) &&& 1) = 0 → oc (uR U_14 o0 0) = 7 ∧ w_X4_fail o0 3 (uI U_14 (uR U_14 o0 0) 4) U_14 (fun U_23 => K_16 U_23))) ∧ (¬ (uI U_14 o0 2) = 0 → K_16 U_14))))))) ∧ (¬ (uI U o0 2) = 0 → k_126 x4 U))
def w_X4_readOfficial_L32 (o0 : Nat) (x1 : Int32) (x2 : Int32) (x3 : Int32) (post : Um → Prop) (k_126 : Int32 → Um → Prop) (n_ : Nat) : Int32 → Int32 → Um → Prop := Nat.rec (motive := fun _ => Int32 → Int32 → Um → Prop) (fun _ _ _ => False) (fun _ ih => b_X4_readOfficial_L32 o0 x1 x2 x3 post k_126 ih) n_
def w_X4_readOfficial (o : Nat) (U : Um) (post : Um → Prop) : Prop :=
  w_X4_readGiven o 2 U (fun r_2 U_1 => w_X4_numberWithin o 1 5 U_1 (fun r_4 U_3 => w_X4_expectWord o 4 U_3 (fun U_5 => w_X4_toldName o 0 U_5 (fun r_8 U_7 => (∃ n_35, w_X4_readOfficial_L32 o r_2 r_4 r_8 post (fun x4_25 U_26 => ((uI U_26 o 2) = 0 → uR U_26 o 1 ≠ 99 ∧ oc (uR U_26 o 1) = 8 ∧ vp_in r_2 10 ∧ ∀ (U_28 : Um), U_28 = sA U_26 (uR U_26 o 1) 2 (va_up (uA U_26 (uR U_26 o 1) 2) (Int32.toNatClampNeg r_2) r_4) → uR U_28 o 1 ≠ 99 ∧ oc (uR U_28 o 1) = 8 ∧ vp_in r_2 10 ∧ ∀ (U_30 : Um), U_30 = sA U_28 (uR U_28 o 1) 3 (va_up (uA U_28 (uR U_28 o 1) 3) (Int32.toNatClampNeg r_2) r_8) → uR U_30 o 1 ≠ 99 ∧ oc (uR U_30 o 1) = 8 ∧ vp_in r_2 10 ∧ ∀ (U_32 : Um), U_32 = sA U_30 (uR U_30 o 1) 4 (va_up (uA U_30 (uR U_30 o 1) 4) (Int32.toNatClampNeg r_2) x4_25) → uR U_32 o 1 ≠ 99 ∧ oc (uR U_32 o 1) = 8 ∧ vp_in r_2 10 ∧ ∀ (U_34 : Um), U_34 = sA U_32 (uR U_32 o 1) 5 (va_up (uA U_32 (uR U_32 o 1) 5) (Int32.toNatClampNeg r_2) 0) → post U_34) ∧ (¬ (uI U_26 o 2) = 0 → post U_26)) n_35 0 0 U_7)))))
set_option maxHeartbeats 4000000 in
theorem tl_X4_readOfficial_L32 {l : Launch} {Y : px_Y} {X : px_X} {h0 hh : pe_H} {sz : Nat} (o0 : Nat) (x1 : Int32) (x2 : Int32) (x3 : Int32) (post : Um → Prop) (k_126 : Int32 → Um → Prop) (ho0 : oc o0 = 3)  (hC : px_C X Y.1 (pm_A hh sz) cX4_readOfficial RX4 7) (hM : px_M l X Y.1 hh sz yX4_readOfficial cX4_readOfficial 7 none 4 0 0) (hR : X.2.2.2.1 = pm_rm 4 0 0) (hk_126 : ∀ (y4 : Int32) (U : Um) (h : pe_H), k_126 y4 U → rF Y h0 U h → pw X Y.1 (pm_A hh sz) (pm_E X Y.1 hh sz 0 0 (pm_P Y h0 sz (pq_v post))) 126 [some (.ref (Y.2.1 o0)), some (.int x1), some (.int x2), some (.int x3), some (.int y4), none, none] [] h sz 0 0) : ∀ (n_ : Nat) (x4 : Int32) (x5 : Int32) (U : Um) (h : pe_H), rF Y h0 U h → w_X4_readOfficial_L32 o0 x1 x2 x3 post k_126 n_ x4 x5 U → pw X Y.1 (pm_A hh sz) (pm_E X Y.1 hh sz 0 0 (pm_P Y h0 sz (pq_v post))) 32 [some (.ref (Y.2.1 o0)), some (.int x1), some (.int x2), some (.int x3), some (.int x4), some (.int x5), none] [] h sz 0 0 := by
  intro n_
  induction n_ with
  | zero => intro x4 x5 U h hU H; exact False.elim H
  | succ n_ ih =>
    intro x4 x5 U h hU H
    replace H : b_X4_readOfficial_L32 o0 x1 x2 x3 post k_126 (w_X4_readOfficial_L32 o0 x1 x2 x3 post k_126 n_) x4 x5 U := H
    unfold b_X4_readOfficial_L32 at H
    refine pr_iload hC (by decide +kernel : decode cX4_readOfficial 32 = .ok (.iload 5, 2)) rfl ?_
    refine pr_sipush hC (1200) (by decide +kernel : decode cX4_readOfficial 34 = .ok (.sipush 1200, 3)) rfl ?_
    refine pr_icmp_ge hC 126 (by decide +kernel : decode cX4_readOfficial 37 = .ok (.if_icmp .ge 89, 3)) (by decide) (fun c_37 => ?_) (fun c_37 => ?_)
    · replace H := H.1 c_37
      exact pv_sub [some (.ref (Y.2.1 o0)), some (.int x1), some (.int x2), some (.int x3), some (.int x4), none, none] (And.intro rfl (And.intro rfl (And.intro rfl (And.intro rfl (And.intro rfl trivial))))) (hk_126 _ U h H hU)
    replace H := H.2 c_37
    refine pr_aload_n hC (by decide +kernel : decode cX4_readOfficial 40 = .ok (.aload_n 0, 1)) rfl ?_
    refine pu_g0 hC fg_X4_28 (by decide +kernel : decode cX4_readOfficial 41 = .ok (.getfield 28, 3)) hU ho0 (by decide) rfl rfl ?_
    refine pr_if_ne hC 126 (by decide +kernel : decode cX4_readOfficial 44 = .ok (.ifCond .ne 82, 3)) (by decide) (fun c_44 => ?_) (fun c_44 => ?_)
    · replace H := H.2 c_44
      exact pv_sub [some (.ref (Y.2.1 o0)), some (.int x1), some (.int x2), some (.int x3), some (.int x4), none, none] (And.intro rfl (And.intro rfl (And.intro rfl (And.intro rfl (And.intro rfl trivial))))) (hk_126 _ U h H hU)
    replace H := H.1 c_44
    refine pr_aload_n hC (by decide +kernel : decode cX4_readOfficial 47 = .ok (.aload_n 0, 1)) rfl ?_
    refine pr_gets hC fs_X4_135 (ro_w5 _) (by decide +kernel : decode cX4_readOfficial 48 = .ok (.getstatic 135, 3)) ?_
    refine vc_Vi hC hR [.ref (Y.1.2.2 (100 + 5))] fv_X4_138 (by decide +kernel : decode cX4_readOfficial 51 = .ok (.invokevirtual 138, 3)) hU (t_X4_isWord ho0 (by decide) H) ho0 (by decide) rfl rfl rfl (Nat.le_of_ble_eq_true rfl) (Nat.le_of_ble_eq_true rfl) (Nat.le_refl 0) (Nat.le_refl 0) (fun r_10 U_9 h H hU => ?_)
    refine pr_if_eq hC 126 (by decide +kernel : decode cX4_readOfficial 54 = .ok (.ifCond .eq 72, 3)) (by decide) (fun c_54 => ?_) (fun c_54 => ?_)
    · replace H := H.1 c_54
      exact pv_sub [some (.ref (Y.2.1 o0)), some (.int x1), some (.int x2), some (.int x3), some (.int x4), none, none] (And.intro rfl (And.intro rfl (And.intro rfl (And.intro rfl (And.intro rfl trivial))))) (hk_126 _ U_9 h H hU)
    replace H := H.2 c_54
    refine pr_aload_n hC (by decide +kernel : decode cX4_readOfficial 57 = .ok (.aload_n 0, 1)) rfl ?_
    refine pu_g21 hC fg_X4_9 (by decide +kernel : decode cX4_readOfficial 58 = .ok (.getfield 9, 3)) hU ho0 (by decide) rfl rfl ?_
    have q_11 := H.1
    replace H := H.2
    refine vc_Vv hC hR [] fv_X4_65 (by decide +kernel : decode cX4_readOfficial 61 = .ok (.invokevirtual 65, 3)) hU (t_X8_advance q_11 H) q_11 (by decide) rfl rfl rfl (Nat.le_of_ble_eq_true rfl) (Nat.le_of_ble_eq_true rfl) (Nat.le_refl 0) (Nat.le_refl 0) (fun U_12 h H hU => ?_)
    refine pr_aload_n hC (by decide +kernel : decode cX4_readOfficial 64 = .ok (.aload_n 0, 1)) rfl ?_
    refine pr_iconst hC (1) (by decide +kernel : decode cX4_readOfficial 65 = .ok (.iconst 1, 1)) rfl ?_
    refine vc_Vi hC hR [.int 1] fv_X4_132 (by decide +kernel : decode cX4_readOfficial 66 = .ok (.invokevirtual 132, 3)) hU (t_X4_toldName ho0 H) ho0 (by decide) rfl rfl rfl (Nat.le_of_ble_eq_true rfl) (Nat.le_of_ble_eq_true rfl) (Nat.le_refl 0) (Nat.le_refl 0) (fun r_15 U_14 h H hU => ?_)
    refine pr_istore hC (by decide +kernel : decode cX4_readOfficial 69 = .ok (.istore 6, 2)) (by decide) rfl ?_
    refine pr_aload_n hC (by decide +kernel : decode cX4_readOfficial 71 = .ok (.aload_n 0, 1)) rfl ?_
    refine pu_g0 hC fg_X4_28 (by decide +kernel : decode cX4_readOfficial 72 = .ok (.getfield 28, 3)) hU ho0 (by decide) rfl rfl ?_
    replace H := H (fun U_17 => ∀ h : pe_H, rF Y h0 U_17 h → pw X Y.1 (pm_A hh sz) (pm_E X Y.1 hh sz 0 0 (pm_P Y h0 sz (pq_v post))) 100 [some (.ref (Y.2.1 o0)), some (.int x1), some (.int x2), some (.int x3), some (.int x4), some (.int x5), some (.int r_15)] [] h sz 0 0) (by
      intro U_17 H h hU
      refine pr_iload hC (by decide +kernel : decode cX4_readOfficial 100 = .ok (.iload 4, 2)) rfl ?_
      refine pr_aload_n hC (by decide +kernel : decode cX4_readOfficial 102 = .ok (.aload_n 0, 1)) rfl ?_
      refine pu_g0 hC fg_X4_28 (by decide +kernel : decode cX4_readOfficial 103 = .ok (.getfield 28, 3)) hU ho0 (by decide) rfl rfl ?_
      refine pr_if_ne hC 116 (by decide +kernel : decode cX4_readOfficial 106 = .ok (.ifCond .ne 10, 3)) (by decide) (fun c_106 => ?_) (fun c_106 => ?_)
      · replace H := H.2 c_106
        refine pr_iconst hC (0) (by decide +kernel : decode cX4_readOfficial 116 = .ok (.iconst 0, 1)) rfl ?_
        refine pr_ior hC (by decide +kernel : decode cX4_readOfficial 117 = .ok (.ior, 1)) ?_
        refine pv_topi (fun x4_20 e_x4_20 => ?_)
        replace H := H x4_20 e_x4_20
        refine pr_istore hC (by decide +kernel : decode cX4_readOfficial 118 = .ok (.istore 4, 2)) (by decide) rfl ?_
        refine pv_iinc hC (v := x5 + 1) (by decide +kernel : decode cX4_readOfficial 120 = .ok (.iinc 5 1, 3)) rfl (by decide) rfl rfl (fun x5_21 e_x5_21 => ?_)
        replace H := H x5_21 e_x5_21
        refine pr_goto hC 32 (by decide +kernel : decode cX4_readOfficial 123 = .ok (.goto (-91), 3)) (by decide) ?_
        exact pv_sub [some (.ref (Y.2.1 o0)), some (.int x1), some (.int x2), some (.int x3), some (.int x4_20), some (.int x5_21), none] (And.intro rfl (And.intro rfl (And.intro rfl (And.intro rfl (And.intro rfl (And.intro rfl trivial)))))) (ih _ _ U_17 h hU H)
      replace H := H.1 c_106
      refine pr_iconst hC (1) (by decide +kernel : decode cX4_readOfficial 109 = .ok (.iconst 1, 1)) rfl ?_
      refine pr_iload hC (by decide +kernel : decode cX4_readOfficial 110 = .ok (.iload 6, 2)) rfl ?_
      refine pr_ishl hC (by decide +kernel : decode cX4_readOfficial 112 = .ok (.ishl, 1)) ?_
      refine pr_goto hC 117 (by decide +kernel : decode cX4_readOfficial 113 = .ok (.goto 4, 3)) (by decide) ?_
      refine pr_ior hC (by decide +kernel : decode cX4_readOfficial 117 = .ok (.ior, 1)) ?_
      refine pv_topi (fun x4_18 e_x4_18 => ?_)
      replace H := H x4_18 e_x4_18
      refine pr_istore hC (by decide +kernel : decode cX4_readOfficial 118 = .ok (.istore 4, 2)) (by decide) rfl ?_
      refine pv_iinc hC (v := x5 + 1) (by decide +kernel : decode cX4_readOfficial 120 = .ok (.iinc 5 1, 3)) rfl (by decide) rfl rfl (fun x5_19 e_x5_19 => ?_)
      replace H := H x5_19 e_x5_19
      refine pr_goto hC 32 (by decide +kernel : decode cX4_readOfficial 123 = .ok (.goto (-91), 3)) (by decide) ?_
      exact pv_sub [some (.ref (Y.2.1 o0)), some (.int x1), some (.int x2), some (.int x3), some (.int x4_18), some (.int x5_19), none] (And.intro rfl (And.intro rfl (And.intro rfl (And.intro rfl (And.intro rfl (And.intro rfl trivial)))))) (ih _ _ U_17 h hU H))
    refine pr_if_ne hC 100 (by decide +kernel : decode cX4_readOfficial 75 = .ok (.ifCond .ne 25, 3)) (by decide) (fun c_75 => ?_) (fun c_75 => ?_)
    · replace H := H.2 c_75
      exact pv_sub [some (.ref (Y.2.1 o0)), some (.int x1), some (.int x2), some (.int x3), some (.int x4), some (.int x5), some (.int r_15)] (And.intro rfl (And.intro rfl (And.intro rfl (And.intro rfl (And.intro rfl (And.intro rfl (And.intro rfl trivial))))))) (H h hU)
    replace H := H.1 c_75
    refine pr_iload hC (by decide +kernel : decode cX4_readOfficial 78 = .ok (.iload 4, 2)) rfl ?_
    refine pr_iload hC (by decide +kernel : decode cX4_readOfficial 80 = .ok (.iload 6, 2)) rfl ?_
    refine pr_ishr hC (by decide +kernel : decode cX4_readOfficial 82 = .ok (.ishr, 1)) ?_
    refine pr_iconst hC (1) (by decide +kernel : decode cX4_readOfficial 83 = .ok (.iconst 1, 1)) rfl ?_
    refine pr_iand hC (by decide +kernel : decode cX4_readOfficial 84 = .ok (.iand, 1)) ?_
    refine pr_if_eq hC 100 (by decide +kernel : decode cX4_readOfficial 85 = .ok (.ifCond .eq 15, 3)) (by decide) (fun c_85 => ?_) (fun c_85 => ?_)
    · replace H := H.1 c_85
      exact pv_sub [some (.ref (Y.2.1 o0)), some (.int x1), some (.int x2), some (.int x3), some (.int x4), some (.int x5), some (.int r_15)] (And.intro rfl (And.intro rfl (And.intro rfl (And.intro rfl (And.intro rfl (And.intro rfl (And.intro rfl trivial))))))) (H h hU)
    replace H := H.2 c_85
    refine pr_aload_n hC (by decide +kernel : decode cX4_readOfficial 88 = .ok (.aload_n 0, 1)) rfl ?_
    refine pr_iconst hC (3) (by decide +kernel : decode cX4_readOfficial 89 = .ok (.iconst 3, 1)) rfl ?_
    refine pr_aload_n hC (by decide +kernel : decode cX4_readOfficial 90 = .ok (.aload_n 0, 1)) rfl ?_
    refine pu_g21 hC fg_X4_9 (by decide +kernel : decode cX4_readOfficial 91 = .ok (.getfield 9, 3)) hU ho0 (by decide) rfl rfl ?_
    have q_22 := H.1
    replace H := H.2
    refine pu_g0 hC fg_X4_142 (by decide +kernel : decode cX4_readOfficial 94 = .ok (.getfield 142, 3)) hU q_22 (by decide) rfl rfl ?_
    refine vc_Vv hC hR [.int 3, .int (uI U_14 (uR U_14 o0 0) 4)] fv_X4_61 (by decide +kernel : decode cX4_readOfficial 97 = .ok (.invokevirtual 61, 3)) hU (t_X4_fail ho0 H) ho0 (by decide) rfl rfl rfl (Nat.le_of_ble_eq_true rfl) (Nat.le_of_ble_eq_true rfl) (Nat.le_refl 0) (Nat.le_refl 0) (fun U_23 h H hU => ?_)
    exact pv_sub [some (.ref (Y.2.1 o0)), some (.int x1), some (.int x2), some (.int x3), some (.int x4), some (.int x5), some (.int r_15)] (And.intro rfl (And.intro rfl (And.intro rfl (And.intro rfl (And.intro rfl (And.intro rfl (And.intro rfl trivial))))))) (H h hU)
set_option maxHeartbeats 4000000 in
theorem t_X4_readOfficial {l : Launch} {Y : px_Y} {o : Nat} {U : Um} {post : Um → Prop} (ho : oc o = 3) (H : w_X4_readOfficial o U post) : um l Y 4 yX4_readOfficial cX4_readOfficial 7 none [.ref (Y.2.1 o)] U (pq_v post) := by
  unfold w_X4_readOfficial at H
  refine um_of (by decide) (Nat.le_of_ble_eq_true rfl) [some (.ref (Y.2.1 o)), none, none, none, none, none, none] rfl (fun X h0 hh sz hM hU => ?_)
  have hC := hM.1
  have hR := hM.2.2.1
  refine pr_aload_n hC (by decide +kernel : decode cX4_readOfficial 0 = .ok (.aload_n 0, 1)) rfl ?_
  refine pr_iconst hC (2) (by decide +kernel : decode cX4_readOfficial 1 = .ok (.iconst 2, 1)) rfl ?_
  refine vc_Vi hC hR [.int 2] fv_X4_78 (by decide +kernel : decode cX4_readOfficial 2 = .ok (.invokevirtual 78, 3)) hU (t_X4_readGiven ho H) ho (by decide) rfl rfl rfl (Nat.le_of_ble_eq_true rfl) (Nat.le_of_ble_eq_true rfl) (Nat.le_refl 0) (Nat.le_refl 0) (fun r_2 U_1 h H hU => ?_)
  refine pr_istore_n hC (by decide +kernel : decode cX4_readOfficial 5 = .ok (.istore_n 1, 1)) (by decide) rfl ?_
  refine pr_aload_n hC (by decide +kernel : decode cX4_readOfficial 6 = .ok (.aload_n 0, 1)) rfl ?_
  refine pr_iconst hC (1) (by decide +kernel : decode cX4_readOfficial 7 = .ok (.iconst 1, 1)) rfl ?_
  refine pr_iconst hC (5) (by decide +kernel : decode cX4_readOfficial 8 = .ok (.iconst 5, 1)) rfl ?_
  refine vc_Vi hC hR [.int 1, .int 5] fv_X4_121 (by decide +kernel : decode cX4_readOfficial 9 = .ok (.invokevirtual 121, 3)) hU (t_X4_numberWithin ho H) ho (by decide) rfl rfl rfl (Nat.le_of_ble_eq_true rfl) (Nat.le_of_ble_eq_true rfl) (Nat.le_refl 0) (Nat.le_refl 0) (fun r_4 U_3 h H hU => ?_)
  refine pr_istore_n hC (by decide +kernel : decode cX4_readOfficial 12 = .ok (.istore_n 2, 1)) (by decide) rfl ?_
  refine pr_aload_n hC (by decide +kernel : decode cX4_readOfficial 13 = .ok (.aload_n 0, 1)) rfl ?_
  refine pr_gets hC fs_X4_124 (ro_w4 _) (by decide +kernel : decode cX4_readOfficial 14 = .ok (.getstatic 124, 3)) ?_
  refine vc_Vv hC hR [.ref (Y.1.2.2 (100 + 4))] fv_X4_128 (by decide +kernel : decode cX4_readOfficial 17 = .ok (.invokevirtual 128, 3)) hU (t_X4_expectWord ho (by decide) H) ho (by decide) rfl rfl rfl (Nat.le_of_ble_eq_true rfl) (Nat.le_of_ble_eq_true rfl) (Nat.le_refl 0) (Nat.le_refl 0) (fun U_5 h H hU => ?_)
  refine pr_aload_n hC (by decide +kernel : decode cX4_readOfficial 20 = .ok (.aload_n 0, 1)) rfl ?_
  refine pr_iconst hC (0) (by decide +kernel : decode cX4_readOfficial 21 = .ok (.iconst 0, 1)) rfl ?_
  refine vc_Vi hC hR [.int 0] fv_X4_132 (by decide +kernel : decode cX4_readOfficial 22 = .ok (.invokevirtual 132, 3)) hU (t_X4_toldName ho H) ho (by decide) rfl rfl rfl (Nat.le_of_ble_eq_true rfl) (Nat.le_of_ble_eq_true rfl) (Nat.le_refl 0) (Nat.le_refl 0) (fun r_8 U_7 h H hU => ?_)
  refine pr_istore_n hC (by decide +kernel : decode cX4_readOfficial 25 = .ok (.istore_n 3, 1)) (by decide) rfl ?_
  refine pr_iconst hC (0) (by decide +kernel : decode cX4_readOfficial 26 = .ok (.iconst 0, 1)) rfl ?_
  refine pr_istore hC (by decide +kernel : decode cX4_readOfficial 27 = .ok (.istore 4, 2)) (by decide) rfl ?_
  refine pr_iconst hC (0) (by decide +kernel : decode cX4_readOfficial 29 = .ok (.iconst 0, 1)) rfl ?_
  refine pr_istore hC (by decide +kernel : decode cX4_readOfficial 30 = .ok (.istore 5, 2)) (by decide) rfl ?_
  obtain ⟨n_35, H⟩ := H
  refine pv_sub [some (.ref (Y.2.1 o)), some (.int r_2), some (.int r_4), some (.int r_8), some (.int 0), some (.int 0), none] (And.intro rfl (And.intro rfl (And.intro rfl (And.intro rfl (And.intro rfl (And.intro rfl trivial)))))) ?_
  refine tl_X4_readOfficial_L32 _ _ _ _ _ _ ho hC hM hR (fun x4_25 U_26 h H hU => ?_) n_35 _ _ U_7 h hU H
  refine pr_aload_n hC (by decide +kernel : decode cX4_readOfficial 126 = .ok (.aload_n 0, 1)) rfl ?_
  refine pu_g0 hC fg_X4_28 (by decide +kernel : decode cX4_readOfficial 127 = .ok (.getfield 28, 3)) hU ho (by decide) rfl rfl ?_
  refine pr_if_ne hC 174 (by decide +kernel : decode cX4_readOfficial 130 = .ok (.ifCond .ne 44, 3)) (by decide) (fun c_130 => ?_) (fun c_130 => ?_)
  · replace H := H.2 c_130
    exact pv_vret hM (by decide +kernel : decode cX4_readOfficial 174 = .ok (.return_, 1)) hU H
  replace H := H.1 c_130
  refine pr_aload_n hC (by decide +kernel : decode cX4_readOfficial 133 = .ok (.aload_n 0, 1)) rfl ?_
  refine pu_g22 hC fg_X4_19 (by decide +kernel : decode cX4_readOfficial 134 = .ok (.getfield 19, 3)) hU ho (by decide) rfl rfl H.1 ?_
  replace H := H.2
  have q_27 := H.1
  replace H := H.2
  refine pu_g1 hC fg_X4_145 (by decide +kernel : decode cX4_readOfficial 137 = .ok (.getfield 145, 3)) hU q_27 (by decide) rfl (by decide) ?_
  refine pr_iload_n hC (by decide +kernel : decode cX4_readOfficial 140 = .ok (.iload_n 1, 1)) rfl ?_
  refine pr_iload_n hC (by decide +kernel : decode cX4_readOfficial 141 = .ok (.iload_n 2, 1)) rfl ?_
  refine pv_iast hC (by decide +kernel : decode cX4_readOfficial 142 = .ok (.iastore, 1)) hU q_27 rfl H.1 (fun U_28 h e_U_28 hU => ?_)
  replace H := H.2 U_28 e_U_28
  refine pr_aload_n hC (by decide +kernel : decode cX4_readOfficial 143 = .ok (.aload_n 0, 1)) rfl ?_
  refine pu_g22 hC fg_X4_19 (by decide +kernel : decode cX4_readOfficial 144 = .ok (.getfield 19, 3)) hU ho (by decide) rfl rfl H.1 ?_
  replace H := H.2
  have q_29 := H.1
  replace H := H.2
  refine pu_g1 hC fg_X4_148 (by decide +kernel : decode cX4_readOfficial 147 = .ok (.getfield 148, 3)) hU q_29 (by decide) rfl (by decide) ?_
  refine pr_iload_n hC (by decide +kernel : decode cX4_readOfficial 150 = .ok (.iload_n 1, 1)) rfl ?_
  refine pr_iload_n hC (by decide +kernel : decode cX4_readOfficial 151 = .ok (.iload_n 3, 1)) rfl ?_
  refine pv_iast hC (by decide +kernel : decode cX4_readOfficial 152 = .ok (.iastore, 1)) hU q_29 rfl H.1 (fun U_30 h e_U_30 hU => ?_)
  replace H := H.2 U_30 e_U_30
  refine pr_aload_n hC (by decide +kernel : decode cX4_readOfficial 153 = .ok (.aload_n 0, 1)) rfl ?_
  refine pu_g22 hC fg_X4_19 (by decide +kernel : decode cX4_readOfficial 154 = .ok (.getfield 19, 3)) hU ho (by decide) rfl rfl H.1 ?_
  replace H := H.2
  have q_31 := H.1
  replace H := H.2
  refine pu_g1 hC fg_X4_151 (by decide +kernel : decode cX4_readOfficial 157 = .ok (.getfield 151, 3)) hU q_31 (by decide) rfl (by decide) ?_
  refine pr_iload_n hC (by decide +kernel : decode cX4_readOfficial 160 = .ok (.iload_n 1, 1)) rfl ?_
  refine pr_iload hC (by decide +kernel : decode cX4_readOfficial 161 = .ok (.iload 4, 2)) rfl ?_
  refine pv_iast hC (by decide +kernel : decode cX4_readOfficial 163 = .ok (.iastore, 1)) hU q_31 rfl H.1 (fun U_32 h e_U_32 hU => ?_)
  replace H := H.2 U_32 e_U_32
  refine pr_aload_n hC (by decide +kernel : decode cX4_readOfficial 164 = .ok (.aload_n 0, 1)) rfl ?_
  refine pu_g22 hC fg_X4_19 (by decide +kernel : decode cX4_readOfficial 165 = .ok (.getfield 19, 3)) hU ho (by decide) rfl rfl H.1 ?_
  replace H := H.2
  have q_33 := H.1
  replace H := H.2
  refine pu_g1 hC fg_X4_154 (by decide +kernel : decode cX4_readOfficial 168 = .ok (.getfield 154, 3)) hU q_33 (by decide) rfl (by decide) ?_
  refine pr_iload_n hC (by decide +kernel : decode cX4_readOfficial 171 = .ok (.iload_n 1, 1)) rfl ?_
  refine pr_iconst hC (0) (by decide +kernel : decode cX4_readOfficial 172 = .ok (.iconst 0, 1)) rfl ?_
  refine pv_iast hC (by decide +kernel : decode cX4_readOfficial 173 = .ok (.iastore, 1)) hU q_33 rfl H.1 (fun U_34 h e_U_34 hU => ?_)
  replace H := H.2 U_34 e_U_34
  exact pv_vret hM (by decide +kernel : decode cX4_readOfficial 174 = .ok (.return_, 1)) hU H
def w_X5_isRoad (o : Nat) (a1 : Int32) (a2 : Int32) (U : Um) (post : Int32 → Um → Prop) : Prop :=
  vp_in a1 6 ∧ vp_in a2 6 ∧ ((uA U o (ki 1 (Int32.toNatClampNeg a1)) (Int32.toNatClampNeg a2)) = 0 → post 0 U) ∧ (¬ (uA U o (ki 1 (Int32.toNatClampNeg a1)) (Int32.toNatClampNeg a2)) = 0 → post 1 U)
set_option maxHeartbeats 4000000 in
theorem t_X5_isRoad {l : Launch} {Y : px_Y} {o : Nat} {a1 : Int32} {a2 : Int32} {U : Um} {post : Int32 → Um → Prop} (ho : oc o = 4) (H : w_X5_isRoad o a1 a2 U post) : um l Y 0 yX5_isRoad cX5_isRoad 3 (some (.boolean)) [.ref (Y.2.1 o), .int a1, .int a2] U (pq_i post) := by
  unfold w_X5_isRoad at H
  refine um_of (by decide) (Nat.le_of_ble_eq_true rfl) [some (.ref (Y.2.1 o)), some (.int a1), some (.int a2)] rfl (fun X h0 hh sz hM hU => ?_)
  have hC := hM.1
  have hR := hM.2.2.1
  refine pr_aload_n hC (by decide +kernel : decode cX5_isRoad 0 = .ok (.aload_n 0, 1)) rfl ?_
  refine pu_g1 hC fg_X5_13 (by decide +kernel : decode cX5_isRoad 1 = .ok (.getfield 13, 3)) hU ho (by decide) rfl (by decide) ?_
  refine pr_iload_n hC (by decide +kernel : decode cX5_isRoad 4 = .ok (.iload_n 1, 1)) rfl ?_
  have q_1 := H.1
  replace H := H.2
  refine pu_aald6 hC (by decide +kernel : decode cX5_isRoad 5 = .ok (.aaload, 1)) hU ho rfl q_1 ?_
  refine pr_iload_n hC (by decide +kernel : decode cX5_isRoad 6 = .ok (.iload_n 2, 1)) rfl ?_
  refine pu_iald7 hC (by decide +kernel : decode cX5_isRoad 7 = .ok (.iaload, 1)) hU ho rfl (vp_lt q_1) H.1 ?_
  replace H := H.2
  refine pr_if_eq hC 15 (by decide +kernel : decode cX5_isRoad 8 = .ok (.ifCond .eq 7, 3)) (by decide) (fun c_8 => ?_) (fun c_8 => ?_)
  · replace H := H.1 c_8
    refine pr_iconst hC (0) (by decide +kernel : decode cX5_isRoad 15 = .ok (.iconst 0, 1)) rfl ?_
    exact pv_zret hM (by decide +kernel : decode cX5_isRoad 16 = .ok (.ireturn, 1)) (Or.inl rfl) hU H
  replace H := H.2 c_8
  refine pr_iconst hC (1) (by decide +kernel : decode cX5_isRoad 11 = .ok (.iconst 1, 1)) rfl ?_
  refine pr_goto hC 16 (by decide +kernel : decode cX5_isRoad 12 = .ok (.goto 4, 3)) (by decide) ?_
  exact pv_zret hM (by decide +kernel : decode cX5_isRoad 16 = .ok (.ireturn, 1)) (Or.inr rfl) hU H
def w_X5_build (o : Nat) (a1 : Int32) (a2 : Int32) (a3 : Int32) (U : Um) (post : Um → Prop) : Prop :=
  vp_in a1 6 ∧ vp_in a2 6 ∧ ∀ (U_2 : Um), U_2 = sA U o (ki 1 (Int32.toNatClampNeg a1)) (va_up (uA U o (ki 1 (Int32.toNatClampNeg a1))) (Int32.toNatClampNeg a2) a3) → vp_in a2 6 ∧ vp_in a1 6 ∧ ∀ (U_4 : Um), U_4 = sA U_2 o (ki 1 (Int32.toNatClampNeg a2)) (va_up (uA U_2 o (ki 1 (Int32.toNatClampNeg a2))) (Int32.toNatClampNeg a1) a3) → post U_4
set_option maxHeartbeats 4000000 in
theorem t_X5_build {l : Launch} {Y : px_Y} {o : Nat} {a1 : Int32} {a2 : Int32} {a3 : Int32} {U : Um} {post : Um → Prop} (ho : oc o = 4) (H : w_X5_build o a1 a2 a3 U post) : um l Y 0 yX5_build cX5_build 4 none [.ref (Y.2.1 o), .int a1, .int a2, .int a3] U (pq_v post) := by
  unfold w_X5_build at H
  refine um_of (by decide) (Nat.le_of_ble_eq_true rfl) [some (.ref (Y.2.1 o)), some (.int a1), some (.int a2), some (.int a3)] rfl (fun X h0 hh sz hM hU => ?_)
  have hC := hM.1
  have hR := hM.2.2.1
  refine pr_aload_n hC (by decide +kernel : decode cX5_build 0 = .ok (.aload_n 0, 1)) rfl ?_
  refine pu_g1 hC fg_X5_13 (by decide +kernel : decode cX5_build 1 = .ok (.getfield 13, 3)) hU ho (by decide) rfl (by decide) ?_
  refine pr_iload_n hC (by decide +kernel : decode cX5_build 4 = .ok (.iload_n 1, 1)) rfl ?_
  have q_1 := H.1
  replace H := H.2
  refine pu_aald6 hC (by decide +kernel : decode cX5_build 5 = .ok (.aaload, 1)) hU ho rfl q_1 ?_
  refine pr_iload_n hC (by decide +kernel : decode cX5_build 6 = .ok (.iload_n 2, 1)) rfl ?_
  refine pr_iload_n hC (by decide +kernel : decode cX5_build 7 = .ok (.iload_n 3, 1)) rfl ?_
  refine pv_iast7 hC (by decide +kernel : decode cX5_build 8 = .ok (.iastore, 1)) hU ho rfl (vp_lt q_1) H.1 (fun U_2 h e_U_2 hU => ?_)
  replace H := H.2 U_2 e_U_2
  refine pr_aload_n hC (by decide +kernel : decode cX5_build 9 = .ok (.aload_n 0, 1)) rfl ?_
  refine pu_g1 hC fg_X5_13 (by decide +kernel : decode cX5_build 10 = .ok (.getfield 13, 3)) hU ho (by decide) rfl (by decide) ?_
  refine pr_iload_n hC (by decide +kernel : decode cX5_build 13 = .ok (.iload_n 2, 1)) rfl ?_
  have q_3 := H.1
  replace H := H.2
  refine pu_aald6 hC (by decide +kernel : decode cX5_build 14 = .ok (.aaload, 1)) hU ho rfl q_3 ?_
  refine pr_iload_n hC (by decide +kernel : decode cX5_build 15 = .ok (.iload_n 1, 1)) rfl ?_
  refine pr_iload_n hC (by decide +kernel : decode cX5_build 16 = .ok (.iload_n 3, 1)) rfl ?_
  refine pv_iast7 hC (by decide +kernel : decode cX5_build 17 = .ok (.iastore, 1)) hU ho rfl (vp_lt q_3) H.1 (fun U_4 h e_U_4 hU => ?_)
  replace H := H.2 U_4 e_U_4
  exact pv_vret hM (by decide +kernel : decode cX5_build 18 = .ok (.return_, 1)) hU H
def w_X4_readRoad (o : Nat) (U : Um) (post : Um → Prop) : Prop :=
  w_X4_toldName o 0 U (fun r_2 U_1 => w_X4_toldName o 0 U_1 (fun r_4 U_3 => (∀ K_5 : Um → Prop, (∀ (U_6 : Um), (w_X4_numberWithin o 1 240 U_6 (fun r_8 U_7 => ((uI U_7 o 2) = 0 → uR U_7 o 1 ≠ 99 ∧ oc (uR U_7 o 1) = 8 ∧ oc (uR U_7 (uR U_7 o 1) 10) = 4 ∧ w_X5_build (uR U_7 (uR U_7 o 1) 10) r_2 r_4 r_8 U_7 (fun U_11 => post U_11)) ∧ (¬ (uI U_7 o 2) = 0 → post U_7))) → K_5 U_6) → ((uI U_3 o 2) = 0 → (∀ K_13 : Um → Prop, (∀ (U_14 : Um), (oc (uR U_14 o 0) = 7 ∧ w_X4_fail o 3 (uI U_14 (uR U_14 o 0) 4) U_14 (fun U_16 => K_5 U_16)) → K_13 U_14) → (r_2 = r_4 → K_13 U_3) ∧ (¬ r_2 = r_4 → uR U_3 o 1 ≠ 99 ∧ oc (uR U_3 o 1) = 8 ∧ oc (uR U_3 (uR U_3 o 1) 10) = 4 ∧ w_X5_isRoad (uR U_3 (uR U_3 o 1) 10) r_2 r_4 U_3 (fun r_21 U_20 => (r_21 = 0 → K_5 U_20) ∧ (¬ r_21 = 0 → K_13 U_20))))) ∧ (¬ (uI U_3 o 2) = 0 → K_5 U_3))))
set_option maxHeartbeats 4000000 in
theorem t_X4_readRoad {l : Launch} {Y : px_Y} {o : Nat} {U : Um} {post : Um → Prop} (ho : oc o = 3) (H : w_X4_readRoad o U post) : um l Y 3 yX4_readRoad cX4_readRoad 4 none [.ref (Y.2.1 o)] U (pq_v post) := by
  unfold w_X4_readRoad at H
  refine um_of (by decide) (Nat.le_of_ble_eq_true rfl) [some (.ref (Y.2.1 o)), none, none, none] rfl (fun X h0 hh sz hM hU => ?_)
  have hC := hM.1
  have hR := hM.2.2.1
  refine pr_aload_n hC (by decide +kernel : decode cX4_readRoad 0 = .ok (.aload_n 0, 1)) rfl ?_
  refine pr_iconst hC (0) (by decide +kernel : decode cX4_readRoad 1 = .ok (.iconst 0, 1)) rfl ?_
  refine vc_Vi hC hR [.int 0] fv_X4_132 (by decide +kernel : decode cX4_readRoad 2 = .ok (.invokevirtual 132, 3)) hU (t_X4_toldName ho H) ho (by decide) rfl rfl rfl (Nat.le_of_ble_eq_true rfl) (Nat.le_of_ble_eq_true rfl) (Nat.le_refl 0) (Nat.le_refl 0) (fun r_2 U_1 h H hU => ?_)
  refine pr_istore_n hC (by decide +kernel : decode cX4_readRoad 5 = .ok (.istore_n 1, 1)) (by decide) rfl ?_
  refine pr_aload_n hC (by decide +kernel : decode cX4_readRoad 6 = .ok (.aload_n 0, 1)) rfl ?_
  refine pr_iconst hC (0) (by decide +kernel : decode cX4_readRoad 7 = .ok (.iconst 0, 1)) rfl ?_
  refine vc_Vi hC hR [.int 0] fv_X4_132 (by decide +kernel : decode cX4_readRoad 8 = .ok (.invokevirtual 132, 3)) hU (t_X4_toldName ho H) ho (by decide) rfl rfl rfl (Nat.le_of_ble_eq_true rfl) (Nat.le_of_ble_eq_true rfl) (Nat.le_refl 0) (Nat.le_refl 0) (fun r_4 U_3 h H hU => ?_)
  refine pr_istore_n hC (by decide +kernel : decode cX4_readRoad 11 = .ok (.istore_n 2, 1)) (by decide) rfl ?_
  refine pr_aload_n hC (by decide +kernel : decode cX4_readRoad 12 = .ok (.aload_n 0, 1)) rfl ?_
  refine pu_g0 hC fg_X4_28 (by decide +kernel : decode cX4_readRoad 13 = .ok (.getfield 28, 3)) hU ho (by decide) rfl rfl ?_
  replace H := H (fun U_6 => ∀ h : pe_H, rF Y h0 U_6 h → pw X Y.1 (pm_A hh sz) (pm_E X Y.1 hh sz 0 0 (pm_P Y h0 sz (pq_v post))) 51 [some (.ref (Y.2.1 o)), some (.int r_2), some (.int r_4), none] [] h sz 0 0) (by
    intro U_6 H h hU
    refine pr_aload_n hC (by decide +kernel : decode cX4_readRoad 51 = .ok (.aload_n 0, 1)) rfl ?_
    refine pr_iconst hC (1) (by decide +kernel : decode cX4_readRoad 52 = .ok (.iconst 1, 1)) rfl ?_
    refine pr_sipush hC (240) (by decide +kernel : decode cX4_readRoad 53 = .ok (.sipush 240, 3)) rfl ?_
    refine vc_Vi hC hR [.int 1, .int 240] fv_X4_121 (by decide +kernel : decode cX4_readRoad 56 = .ok (.invokevirtual 121, 3)) hU (t_X4_numberWithin ho H) ho (by decide) rfl rfl rfl (Nat.le_of_ble_eq_true rfl) (Nat.le_of_ble_eq_true rfl) (Nat.le_refl 0) (Nat.le_refl 0) (fun r_8 U_7 h H hU => ?_)
    refine pr_istore_n hC (by decide +kernel : decode cX4_readRoad 59 = .ok (.istore_n 3, 1)) (by decide) rfl ?_
    refine pr_aload_n hC (by decide +kernel : decode cX4_readRoad 60 = .ok (.aload_n 0, 1)) rfl ?_
    refine pu_g0 hC fg_X4_28 (by decide +kernel : decode cX4_readRoad 61 = .ok (.getfield 28, 3)) hU ho (by decide) rfl rfl ?_
    refine pr_if_ne hC 80 (by decide +kernel : decode cX4_readRoad 64 = .ok (.ifCond .ne 16, 3)) (by decide) (fun c_64 => ?_) (fun c_64 => ?_)
    · replace H := H.2 c_64
      exact pv_vret hM (by decide +kernel : decode cX4_readRoad 80 = .ok (.return_, 1)) hU H
    replace H := H.1 c_64
    refine pr_aload_n hC (by decide +kernel : decode cX4_readRoad 67 = .ok (.aload_n 0, 1)) rfl ?_
    refine pu_g22 hC fg_X4_19 (by decide +kernel : decode cX4_readRoad 68 = .ok (.getfield 19, 3)) hU ho (by decide) rfl rfl H.1 ?_
    replace H := H.2
    have q_9 := H.1
    replace H := H.2
    refine pu_g21 hC fg_X4_157 (by decide +kernel : decode cX4_readRoad 71 = .ok (.getfield 157, 3)) hU q_9 (by decide) rfl rfl ?_
    have q_10 := H.1
    replace H := H.2
    refine pr_iload_n hC (by decide +kernel : decode cX4_readRoad 74 = .ok (.iload_n 1, 1)) rfl ?_
    refine pr_iload_n hC (by decide +kernel : decode cX4_readRoad 75 = .ok (.iload_n 2, 1)) rfl ?_
    refine pr_iload_n hC (by decide +kernel : decode cX4_readRoad 76 = .ok (.iload_n 3, 1)) rfl ?_
    refine vc_Vv hC hR [.int r_2, .int r_4, .int r_8] fv_X4_167 (by decide +kernel : decode cX4_readRoad 77 = .ok (.invokevirtual 167, 3)) hU (t_X5_build q_10 H) q_10 (by decide) rfl rfl rfl (Nat.le_of_ble_eq_true rfl) (Nat.le_of_ble_eq_true rfl) (Nat.le_refl 0) (Nat.le_refl 0) (fun U_11 h H hU => ?_)
    exact pv_vret hM (by decide +kernel : decode cX4_readRoad 80 = .ok (.return_, 1)) hU H)
  refine pr_if_ne hC 51 (by decide +kernel : decode cX4_readRoad 16 = .ok (.ifCond .ne 35, 3)) (by decide) (fun c_16 => ?_) (fun c_16 => ?_)
  · replace H := H.2 c_16
    exact pv_sub [some (.ref (Y.2.1 o)), some (.int r_2), some (.int r_4), none] (And.intro rfl (And.intro rfl (And.intro rfl trivial))) (H h hU)
  replace H := H.1 c_16
  refine pr_iload_n hC (by decide +kernel : decode cX4_readRoad 19 = .ok (.iload_n 1, 1)) rfl ?_
  refine pr_iload_n hC (by decide +kernel : decode cX4_readRoad 20 = .ok (.iload_n 2, 1)) rfl ?_
  replace H := H (fun U_14 => ∀ h : pe_H, rF Y h0 U_14 h → pw X Y.1 (pm_A hh sz) (pm_E X Y.1 hh sz 0 0 (pm_P Y h0 sz (pq_v post))) 39 [some (.ref (Y.2.1 o)), some (.int r_2), some (.int r_4), none] [] h sz 0 0) (by
    intro U_14 H h hU
    refine pr_aload_n hC (by decide +kernel : decode cX4_readRoad 39 = .ok (.aload_n 0, 1)) rfl ?_
    refine pr_iconst hC (3) (by decide +kernel : decode cX4_readRoad 40 = .ok (.iconst 3, 1)) rfl ?_
    refine pr_aload_n hC (by decide +kernel : decode cX4_readRoad 41 = .ok (.aload_n 0, 1)) rfl ?_
    refine pu_g21 hC fg_X4_9 (by decide +kernel : decode cX4_readRoad 42 = .ok (.getfield 9, 3)) hU ho (by decide) rfl rfl ?_
    have q_15 := H.1
    replace H := H.2
    refine pu_g0 hC fg_X4_142 (by decide +kernel : decode cX4_readRoad 45 = .ok (.getfield 142, 3)) hU q_15 (by decide) rfl rfl ?_
    refine vc_Vv hC hR [.int 3, .int (uI U_14 (uR U_14 o 0) 4)] fv_X4_61 (by decide +kernel : decode cX4_readRoad 48 = .ok (.invokevirtual 61, 3)) hU (t_X4_fail ho H) ho (by decide) rfl rfl rfl (Nat.le_of_ble_eq_true rfl) (Nat.le_of_ble_eq_true rfl) (Nat.le_refl 0) (Nat.le_refl 0) (fun U_16 h H hU => ?_)
    exact pv_sub [some (.ref (Y.2.1 o)), some (.int r_2), some (.int r_4), none] (And.intro rfl (And.intro rfl (And.intro rfl trivial))) (H h hU))
  refine pr_icmp_eq hC 39 (by decide +kernel : decode cX4_readRoad 21 = .ok (.if_icmp .eq 18, 3)) (by decide) (fun c_21 => ?_) (fun c_21 => ?_)
  · replace H := H.1 c_21
    exact pv_sub [some (.ref (Y.2.1 o)), some (.int r_2), some (.int r_4), none] (And.intro rfl (And.intro rfl (And.intro rfl trivial))) (H h hU)
  replace H := H.2 c_21
  refine pr_aload_n hC (by decide +kernel : decode cX4_readRoad 24 = .ok (.aload_n 0, 1)) rfl ?_
  refine pu_g22 hC fg_X4_19 (by decide +kernel : decode cX4_readRoad 25 = .ok (.getfield 19, 3)) hU ho (by decide) rfl rfl H.1 ?_
  replace H := H.2
  have q_18 := H.1
  replace H := H.2
  refine pu_g21 hC fg_X4_157 (by decide +kernel : decode cX4_readRoad 28 = .ok (.getfield 157, 3)) hU q_18 (by decide) rfl rfl ?_
  have q_19 := H.1
  replace H := H.2
  refine pr_iload_n hC (by decide +kernel : decode cX4_readRoad 31 = .ok (.iload_n 1, 1)) rfl ?_
  refine pr_iload_n hC (by decide +kernel : decode cX4_readRoad 32 = .ok (.iload_n 2, 1)) rfl ?_
  refine vc_Vi hC hR [.int r_2, .int r_4] fv_X4_161 (by decide +kernel : decode cX4_readRoad 33 = .ok (.invokevirtual 161, 3)) hU (t_X5_isRoad q_19 H) q_19 (by decide) rfl rfl rfl (Nat.le_of_ble_eq_true rfl) (Nat.le_of_ble_eq_true rfl) (Nat.le_refl 0) (Nat.le_refl 0) (fun r_21 U_20 h H hU => ?_)
  refine pr_if_eq hC 51 (by decide +kernel : decode cX4_readRoad 36 = .ok (.ifCond .eq 15, 3)) (by decide) (fun c_36 => ?_) (fun c_36 => ?_)
  · replace H := H.1 c_36
    exact pv_sub [some (.ref (Y.2.1 o)), some (.int r_2), some (.int r_4), none] (And.intro rfl (And.intro rfl (And.intro rfl trivial))) (H h hU)
  replace H := H.2 c_36
  exact pv_sub [some (.ref (Y.2.1 o)), some (.int r_2), some (.int r_4), none] (And.intro rfl (And.intro rfl (And.intro rfl trivial))) (H h hU)
def b_X4_readOff_L51 (o0 : Nat) (x1 : Int32) (x3 : Int32) (post : Um → Prop) (k_86 : Um → Prop) (rec_ : Int32 → Um → Prop) (x4 : Int32) (U : Um) : Prop :=
  ((uI U o0 2) = 0 → (x3 < x4 → k_86 U) ∧ (¬ x3 < x4 → uR U o0 1 ≠ 99 ∧ oc (uR U o0 1) = 8 ∧ vp_in x1 10 ∧ vp_in x1 10 ∧ ∀ (U_9 : Um), U_9 = sA U (uR U o0 1) 5 (va_up (uA U (uR U o0 1) 5) (Int32.toNatClampNeg x1) ((uA U (uR U o0 1) 5 (Int32.toNatClampNeg x1)) ||| ((1 : Int32) <<< (x4 &&& 31)))) → ∀ (x4_10 : Int32), x4_10 = x4 + 1 → rec_ x4_10 U_9)) ∧ (¬ (uI U o0 2) = 0 → k_86 U)
def w_X4_readOff_L51 (o0 : Nat) (x1 : Int32) (x3 : Int32) (post : Um → Prop) (k_86 : Um → Prop) (n_ : Nat) : Int32 → Um → Prop := Nat.rec (motive := fun _ => Int32 → Um → Prop) (fun _ _ => False) (fun _ ih => b_X4_readOff_L51 o0 x1 x3 post k_86 ih) n_
def w_X4_readOff (o : Nat) (U : Um) (post : Um → Prop) : Prop :=
  w_X4_toldName o 2 U (fun r_2 U_1 => w_X4_numberWithin o 0 6 U_1 (fun r_4 U_3 => (∀ K_5 : Int32 → Um → Prop, (∀ (x3_6 : Int32) (U_7 : Um), ((∃ n_12, w_X4_readOff_L51 o r_2 x3_6 post (fun U_11 => post U_11) n_12 r_4 U_7)) → K_5 x3_6 U_7) → ((uI U_3 o 2) = 0 → w_X4_isWord o 7 U_3 (fun r_14 U_13 => (r_14 = 0 → K_5 r_4 U_13) ∧ (¬ r_14 = 0 → oc (uR U_13 o 0) = 7 ∧ w_X8_advance (uR U_13 o 0) U_13 (fun U_16 => w_X4_numberWithin o r_4 6 U_16 (fun r_19 U_18 => K_5 r_19 U_18))))) ∧ (¬ (uI U_3 o 2) = 0 → K_5 r_4 U_3))))
set_option maxHeartbeats 4000000 in
theorem tl_X4_readOff_L51 {l : Launch} {Y : px_Y} {X : px_X} {h0 hh : pe_H} {sz : Nat} (o0 : Nat) (x1 : Int32) (x3 : Int32) (post : Um → Prop) (k_86 : Um → Prop) (ho0 : oc o0 = 3)  (hC : px_C X Y.1 (pm_A hh sz) cX4_readOff RX4 5) (hM : px_M l X Y.1 hh sz yX4_readOff cX4_readOff 5 none 3 0 0) (hR : X.2.2.2.1 = pm_rm 3 0 0) (hk_86 : ∀ (U : Um) (h : pe_H), k_86 U → rF Y h0 U h → pw X Y.1 (pm_A hh sz) (pm_E X Y.1 hh sz 0 0 (pm_P Y h0 sz (pq_v post))) 86 [none, none, none, none, none] [] h sz 0 0) : ∀ (n_ : Nat) (x4 : Int32) (U : Um) (h : pe_H), rF Y h0 U h → w_X4_readOff_L51 o0 x1 x3 post k_86 n_ x4 U → pw X Y.1 (pm_A hh sz) (pm_E X Y.1 hh sz 0 0 (pm_P Y h0 sz (pq_v post))) 51 [some (.ref (Y.2.1 o0)), some (.int x1), none, some (.int x3), some (.int x4)] [] h sz 0 0 := by
  intro n_
  induction n_ with
  | zero => intro x4 U h hU H; exact False.elim H
  | succ n_ ih =>
    intro x4 U h hU H
    replace H : b_X4_readOff_L51 o0 x1 x3 post k_86 (w_X4_readOff_L51 o0 x1 x3 post k_86 n_) x4 U := H
    unfold b_X4_readOff_L51 at H
    refine pr_aload_n hC (by decide +kernel : decode cX4_readOff 51 = .ok (.aload_n 0, 1)) rfl ?_
    refine pu_g0 hC fg_X4_28 (by decide +kernel : decode cX4_readOff 52 = .ok (.getfield 28, 3)) hU ho0 (by decide) rfl rfl ?_
    refine pr_if_ne hC 86 (by decide +kernel : decode cX4_readOff 55 = .ok (.ifCond .ne 31, 3)) (by decide) (fun c_55 => ?_) (fun c_55 => ?_)
    · replace H := H.2 c_55
      exact pv_sub [none, none, none, none, none] (trivial) (hk_86 U h H hU)
    replace H := H.1 c_55
    refine pr_iload hC (by decide +kernel : decode cX4_readOff 58 = .ok (.iload 4, 2)) rfl ?_
    refine pr_iload_n hC (by decide +kernel : decode cX4_readOff 60 = .ok (.iload_n 3, 1)) rfl ?_
    refine pr_icmp_gt hC 86 (by decide +kernel : decode cX4_readOff 61 = .ok (.if_icmp .gt 25, 3)) (by decide) (fun c_61 => ?_) (fun c_61 => ?_)
    · replace H := H.1 c_61
      exact pv_sub [none, none, none, none, none] (trivial) (hk_86 U h H hU)
    replace H := H.2 c_61
    refine pr_aload_n hC (by decide +kernel : decode cX4_readOff 64 = .ok (.aload_n 0, 1)) rfl ?_
    refine pu_g22 hC fg_X4_19 (by decide +kernel : decode cX4_readOff 65 = .ok (.getfield 19, 3)) hU ho0 (by decide) rfl rfl H.1 ?_
    replace H := H.2
    have q_8 := H.1
    replace H := H.2
    refine pu_g1 hC fg_X4_154 (by decide +kernel : decode cX4_readOff 68 = .ok (.getfield 154, 3)) hU q_8 (by decide) rfl (by decide) ?_
    refine pr_iload_n hC (by decide +kernel : decode cX4_readOff 71 = .ok (.iload_n 1, 1)) rfl ?_
    refine pr_dup2 hC (by decide +kernel : decode cX4_readOff 72 = .ok (.dup2, 1)) rfl rfl ?_
    refine pu_iald hC (by decide +kernel : decode cX4_readOff 73 = .ok (.iaload, 1)) hU q_8 rfl H.1 ?_
    replace H := H.2
    refine pr_iconst hC (1) (by decide +kernel : decode cX4_readOff 74 = .ok (.iconst 1, 1)) rfl ?_
    refine pr_iload hC (by decide +kernel : decode cX4_readOff 75 = .ok (.iload 4, 2)) rfl ?_
    refine pr_ishl hC (by decide +kernel : decode cX4_readOff 77 = .ok (.ishl, 1)) ?_
    refine pr_ior hC (by decide +kernel : decode cX4_readOff 78 = .ok (.ior, 1)) ?_
    refine pv_iast hC (by decide +kernel : decode cX4_readOff 79 = .ok (.iastore, 1)) hU q_8 rfl H.1 (fun U_9 h e_U_9 hU => ?_)
    replace H := H.2 U_9 e_U_9
    refine pv_iinc hC (v := x4 + 1) (by decide +kernel : decode cX4_readOff 80 = .ok (.iinc 4 1, 3)) rfl (by decide) rfl rfl (fun x4_10 e_x4_10 => ?_)
    replace H := H x4_10 e_x4_10
    refine pr_goto hC 51 (by decide +kernel : decode cX4_readOff 83 = .ok (.goto (-32), 3)) (by decide) ?_
    exact pv_sub [some (.ref (Y.2.1 o0)), some (.int x1), none, some (.int x3), some (.int x4_10)] (And.intro rfl (And.intro rfl (And.intro rfl (And.intro rfl trivial)))) (ih _ U_9 h hU H)
set_option maxHeartbeats 4000000 in
theorem t_X4_readOff {l : Launch} {Y : px_Y} {o : Nat} {U : Um} {post : Um → Prop} (ho : oc o = 3) (H : w_X4_readOff o U post) : um l Y 3 yX4_readOff cX4_readOff 5 none [.ref (Y.2.1 o)] U (pq_v post) := by
  unfold w_X4_readOff at H
  refine um_of (by decide) (Nat.le_of_ble_eq_true rfl) [some (.ref (Y.2.1 o)), none, none, none, none] rfl (fun X h0 hh sz hM hU => ?_)
  have hC := hM.1
  have hR := hM.2.2.1
  refine pr_aload_n hC (by decide +kernel : decode cX4_readOff 0 = .ok (.aload_n 0, 1)) rfl ?_
  refine pr_iconst hC (2) (by decide +kernel : decode cX4_readOff 1 = .ok (.iconst 2, 1)) rfl ?_
  refine vc_Vi hC hR [.int 2] fv_X4_132 (by decide +kernel : decode cX4_readOff 2 = .ok (.invokevirtual 132, 3)) hU (t_X4_toldName ho H) ho (by decide) rfl rfl rfl (Nat.le_of_ble_eq_true rfl) (Nat.le_of_ble_eq_true rfl) (Nat.le_refl 0) (Nat.le_refl 0) (fun r_2 U_1 h H hU => ?_)
  refine pr_istore_n hC (by decide +kernel : decode cX4_readOff 5 = .ok (.istore_n 1, 1)) (by decide) rfl ?_
  refine pr_aload_n hC (by decide +kernel : decode cX4_readOff 6 = .ok (.aload_n 0, 1)) rfl ?_
  refine pr_iconst hC (0) (by decide +kernel : decode cX4_readOff 7 = .ok (.iconst 0, 1)) rfl ?_
  refine pr_bipush hC (6) (by decide +kernel : decode cX4_readOff 8 = .ok (.bipush 6, 2)) rfl ?_
  refine vc_Vi hC hR [.int 0, .int 6] fv_X4_121 (by decide +kernel : decode cX4_readOff 10 = .ok (.invokevirtual 121, 3)) hU (t_X4_numberWithin ho H) ho (by decide) rfl rfl rfl (Nat.le_of_ble_eq_true rfl) (Nat.le_of_ble_eq_true rfl) (Nat.le_refl 0) (Nat.le_refl 0) (fun r_4 U_3 h H hU => ?_)
  refine pr_istore_n hC (by decide +kernel : decode cX4_readOff 13 = .ok (.istore_n 2, 1)) (by decide) rfl ?_
  refine pr_iload_n hC (by decide +kernel : decode cX4_readOff 14 = .ok (.iload_n 2, 1)) rfl ?_
  refine pr_istore_n hC (by decide +kernel : decode cX4_readOff 15 = .ok (.istore_n 3, 1)) (by decide) rfl ?_
  refine pr_aload_n hC (by decide +kernel : decode cX4_readOff 16 = .ok (.aload_n 0, 1)) rfl ?_
  refine pu_g0 hC fg_X4_28 (by decide +kernel : decode cX4_readOff 17 = .ok (.getfield 28, 3)) hU ho (by decide) rfl rfl ?_
  replace H := H (fun x3_6 U_7 => ∀ h : pe_H, rF Y h0 U_7 h → pw X Y.1 (pm_A hh sz) (pm_E X Y.1 hh sz 0 0 (pm_P Y h0 sz (pq_v post))) 48 [some (.ref (Y.2.1 o)), some (.int r_2), some (.int r_4), some (.int x3_6), none] [] h sz 0 0) (by
    intro x3_6 U_7 H h hU
    refine pr_iload_n hC (by decide +kernel : decode cX4_readOff 48 = .ok (.iload_n 2, 1)) rfl ?_
    refine pr_istore hC (by decide +kernel : decode cX4_readOff 49 = .ok (.istore 4, 2)) (by decide) rfl ?_
    obtain ⟨n_12, H⟩ := H
    refine pv_sub [some (.ref (Y.2.1 o)), some (.int r_2), none, some (.int x3_6), some (.int r_4)] (And.intro rfl (And.intro rfl (And.intro rfl (And.intro rfl trivial)))) ?_
    refine tl_X4_readOff_L51 _ _ _ _ _ ho hC hM hR (fun U_11 h H hU => ?_) n_12 _ U_7 h hU H
    exact pv_vret hM (by decide +kernel : decode cX4_readOff 86 = .ok (.return_, 1)) hU H)
  refine pr_if_ne hC 48 (by decide +kernel : decode cX4_readOff 20 = .ok (.ifCond .ne 28, 3)) (by decide) (fun c_20 => ?_) (fun c_20 => ?_)
  · replace H := H.2 c_20
    exact pv_sub [some (.ref (Y.2.1 o)), some (.int r_2), some (.int r_4), some (.int r_4), none] (And.intro rfl (And.intro rfl (And.intro rfl (And.intro rfl trivial)))) (H h hU)
  replace H := H.1 c_20
  refine pr_aload_n hC (by decide +kernel : decode cX4_readOff 23 = .ok (.aload_n 0, 1)) rfl ?_
  refine pr_gets hC fs_X4_171 (ro_w7 _) (by decide +kernel : decode cX4_readOff 24 = .ok (.getstatic 171, 3)) ?_
  refine vc_Vi hC hR [.ref (Y.1.2.2 (100 + 7))] fv_X4_138 (by decide +kernel : decode cX4_readOff 27 = .ok (.invokevirtual 138, 3)) hU (t_X4_isWord ho (by decide) H) ho (by decide) rfl rfl rfl (Nat.le_of_ble_eq_true rfl) (Nat.le_of_ble_eq_true rfl) (Nat.le_refl 0) (Nat.le_refl 0) (fun r_14 U_13 h H hU => ?_)
  refine pr_if_eq hC 48 (by decide +kernel : decode cX4_readOff 30 = .ok (.ifCond .eq 18, 3)) (by decide) (fun c_30 => ?_) (fun c_30 => ?_)
  · replace H := H.1 c_30
    exact pv_sub [some (.ref (Y.2.1 o)), some (.int r_2), some (.int r_4), some (.int r_4), none] (And.intro rfl (And.intro rfl (And.intro rfl (And.intro rfl trivial)))) (H h hU)
  replace H := H.2 c_30
  refine pr_aload_n hC (by decide +kernel : decode cX4_readOff 33 = .ok (.aload_n 0, 1)) rfl ?_
  refine pu_g21 hC fg_X4_9 (by decide +kernel : decode cX4_readOff 34 = .ok (.getfield 9, 3)) hU ho (by decide) rfl rfl ?_
  have q_15 := H.1
  replace H := H.2
  refine vc_Vv hC hR [] fv_X4_65 (by decide +kernel : decode cX4_readOff 37 = .ok (.invokevirtual 65, 3)) hU (t_X8_advance q_15 H) q_15 (by decide) rfl rfl rfl (Nat.le_of_ble_eq_true rfl) (Nat.le_of_ble_eq_true rfl) (Nat.le_refl 0) (Nat.le_refl 0) (fun U_16 h H hU => ?_)
  refine pr_aload_n hC (by decide +kernel : decode cX4_readOff 40 = .ok (.aload_n 0, 1)) rfl ?_
  refine pr_iload_n hC (by decide +kernel : decode cX4_readOff 41 = .ok (.iload_n 2, 1)) rfl ?_
  refine pr_bipush hC (6) (by decide +kernel : decode cX4_readOff 42 = .ok (.bipush 6, 2)) rfl ?_
  refine vc_Vi hC hR [.int r_4, .int 6] fv_X4_121 (by decide +kernel : decode cX4_readOff 44 = .ok (.invokevirtual 121, 3)) hU (t_X4_numberWithin ho H) ho (by decide) rfl rfl rfl (Nat.le_of_ble_eq_true rfl) (Nat.le_of_ble_eq_true rfl) (Nat.le_refl 0) (Nat.le_refl 0) (fun r_19 U_18 h H hU => ?_)
  refine pr_istore_n hC (by decide +kernel : decode cX4_readOff 47 = .ok (.istore_n 3, 1)) (by decide) rfl ?_
  exact pv_sub [some (.ref (Y.2.1 o)), some (.int r_2), some (.int r_4), some (.int r_19), none] (And.intro rfl (And.intro rfl (And.intro rfl (And.intro rfl trivial)))) (H h hU)
def w_X4_readTimeOf (o : Nat) (a1 : Nat) (U : Um) (post : Um → Prop) : Prop :=
  w_X4_expectWord o 9 U (fun U_1 => w_X4_numberWithin o 0 6 U_1 (fun r_4 U_3 => ∀ (U_5 : Um), U_5 = sI U_3 a1 3 r_4 → w_X4_numberWithin o 0 1299 U_5 (fun r_7 U_6 => ∀ (U_8 : Um), U_8 = sI U_6 a1 4 r_7 → w_X4_expectWord o 10 U_8 (fun U_9 => w_X4_numberWithin o 10 140 U_9 (fun r_12 U_11 => ∀ (U_13 : Um), U_13 = sI U_11 a1 5 r_12 → w_X4_expectWord o 15 U_13 (fun U_14 => w_X4_numberWithin o 1 5 U_14 (fun r_17 U_16 => ∀ (U_18 : Um), U_18 = sI U_16 a1 6 r_17 → ∀ (U_19 : Um), U_19 = sI U_18 a1 7 1 → ((uI U_19 o 2) = 0 → w_X4_isWord o 11 U_19 (fun r_21 U_20 => (r_21 = 0 → post U_20) ∧ (¬ r_21 = 0 → oc (uR U_20 o 0) = 7 ∧ w_X8_advance (uR U_20 o 0) U_20 (fun U_23 => w_X4_numberWithin o 1 3 U_23 (fun r_26 U_25 => ∀ (U_27 : Um), U_27 = sI U_25 a1 7 r_26 → post U_27))))) ∧ (¬ (uI U_19 o 2) = 0 → post U_19))))))))
set_option maxHeartbeats 4000000 in
theorem t_X4_readTimeOf {l : Launch} {Y : px_Y} {o : Nat} {a1 : Nat} {U : Um} {post : Um → Prop} (ho : oc o = 3) (ha1 : oc a1 = 1) (H : w_X4_readTimeOf o a1 U post) : um l Y 2 yX4_readTimeOf cX4_readTimeOf 2 none [.ref (Y.2.1 o), .ref (Y.2.1 a1)] U (pq_v post) := by
  unfold w_X4_readTimeOf at H
  refine um_of (by decide) (Nat.le_of_ble_eq_true rfl) [some (.ref (Y.2.1 o)), some (.ref (Y.2.1 a1))] rfl (fun X h0 hh sz hM hU => ?_)
  have hC := hM.1
  have hR := hM.2.2.1
  refine pr_aload_n hC (by decide +kernel : decode cX4_readTimeOf 0 = .ok (.aload_n 0, 1)) rfl ?_
  refine pr_gets hC fs_X4_196 (ro_w9 _) (by decide +kernel : decode cX4_readTimeOf 1 = .ok (.getstatic 196, 3)) ?_
  refine vc_Vv hC hR [.ref (Y.1.2.2 (100 + 9))] fv_X4_128 (by decide +kernel : decode cX4_readTimeOf 4 = .ok (.invokevirtual 128, 3)) hU (t_X4_expectWord ho (by decide) H) ho (by decide) rfl rfl rfl (Nat.le_of_ble_eq_true rfl) (Nat.le_of_ble_eq_true rfl) (Nat.le_refl 0) (Nat.le_refl 0) (fun U_1 h H hU => ?_)
  refine pr_aload_n hC (by decide +kernel : decode cX4_readTimeOf 7 = .ok (.aload_n 1, 1)) rfl ?_
  refine pr_aload_n hC (by decide +kernel : decode cX4_readTimeOf 8 = .ok (.aload_n 0, 1)) rfl ?_
  refine pr_iconst hC (0) (by decide +kernel : decode cX4_readTimeOf 9 = .ok (.iconst 0, 1)) rfl ?_
  refine pr_bipush hC (6) (by decide +kernel : decode cX4_readTimeOf 10 = .ok (.bipush 6, 2)) rfl ?_
  refine vc_Vi hC hR [.int 0, .int 6] fv_X4_121 (by decide +kernel : decode cX4_readTimeOf 12 = .ok (.invokevirtual 121, 3)) hU (t_X4_numberWithin ho H) ho (by decide) rfl rfl rfl (Nat.le_of_ble_eq_true rfl) (Nat.le_of_ble_eq_true rfl) (Nat.le_refl 0) (Nat.le_refl 0) (fun r_4 U_3 h H hU => ?_)
  refine pv_p0 hC fp_X4_199 (by decide +kernel : decode cX4_readTimeOf 15 = .ok (.putfield 199, 3)) hU ha1 (by decide) rfl rfl rfl rfl (fun U_5 h e_U_5 hU => ?_)
  replace H := H U_5 e_U_5
  refine pr_aload_n hC (by decide +kernel : decode cX4_readTimeOf 18 = .ok (.aload_n 1, 1)) rfl ?_
  refine pr_aload_n hC (by decide +kernel : decode cX4_readTimeOf 19 = .ok (.aload_n 0, 1)) rfl ?_
  refine pr_iconst hC (0) (by decide +kernel : decode cX4_readTimeOf 20 = .ok (.iconst 0, 1)) rfl ?_
  refine pr_sipush hC (1299) (by decide +kernel : decode cX4_readTimeOf 21 = .ok (.sipush 1299, 3)) rfl ?_
  refine vc_Vi hC hR [.int 0, .int 1299] fv_X4_121 (by decide +kernel : decode cX4_readTimeOf 24 = .ok (.invokevirtual 121, 3)) hU (t_X4_numberWithin ho H) ho (by decide) rfl rfl rfl (Nat.le_of_ble_eq_true rfl) (Nat.le_of_ble_eq_true rfl) (Nat.le_refl 0) (Nat.le_refl 0) (fun r_7 U_6 h H hU => ?_)
  refine pv_p0 hC fp_X4_202 (by decide +kernel : decode cX4_readTimeOf 27 = .ok (.putfield 202, 3)) hU ha1 (by decide) rfl rfl rfl rfl (fun U_8 h e_U_8 hU => ?_)
  replace H := H U_8 e_U_8
  refine pr_aload_n hC (by decide +kernel : decode cX4_readTimeOf 30 = .ok (.aload_n 0, 1)) rfl ?_
  refine pr_gets hC fs_X4_205 (ro_w10 _) (by decide +kernel : decode cX4_readTimeOf 31 = .ok (.getstatic 205, 3)) ?_
  refine vc_Vv hC hR [.ref (Y.1.2.2 (100 + 10))] fv_X4_128 (by decide +kernel : decode cX4_readTimeOf 34 = .ok (.invokevirtual 128, 3)) hU (t_X4_expectWord ho (by decide) H) ho (by decide) rfl rfl rfl (Nat.le_of_ble_eq_true rfl) (Nat.le_of_ble_eq_true rfl) (Nat.le_refl 0) (Nat.le_refl 0) (fun U_9 h H hU => ?_)
  refine pr_aload_n hC (by decide +kernel : decode cX4_readTimeOf 37 = .ok (.aload_n 1, 1)) rfl ?_
  refine pr_aload_n hC (by decide +kernel : decode cX4_readTimeOf 38 = .ok (.aload_n 0, 1)) rfl ?_
  refine pr_bipush hC (10) (by decide +kernel : decode cX4_readTimeOf 39 = .ok (.bipush 10, 2)) rfl ?_
  refine pr_sipush hC (140) (by decide +kernel : decode cX4_readTimeOf 41 = .ok (.sipush 140, 3)) rfl ?_
  refine vc_Vi hC hR [.int 10, .int 140] fv_X4_121 (by decide +kernel : decode cX4_readTimeOf 44 = .ok (.invokevirtual 121, 3)) hU (t_X4_numberWithin ho H) ho (by decide) rfl rfl rfl (Nat.le_of_ble_eq_true rfl) (Nat.le_of_ble_eq_true rfl) (Nat.le_refl 0) (Nat.le_refl 0) (fun r_12 U_11 h H hU => ?_)
  refine pv_p0 hC fp_X4_208 (by decide +kernel : decode cX4_readTimeOf 47 = .ok (.putfield 208, 3)) hU ha1 (by decide) rfl rfl rfl rfl (fun U_13 h e_U_13 hU => ?_)
  replace H := H U_13 e_U_13
  refine pr_aload_n hC (by decide +kernel : decode cX4_readTimeOf 50 = .ok (.aload_n 0, 1)) rfl ?_
  refine pr_gets hC fs_X4_211 (ro_w15 _) (by decide +kernel : decode cX4_readTimeOf 51 = .ok (.getstatic 211, 3)) ?_
  refine vc_Vv hC hR [.ref (Y.1.2.2 (100 + 15))] fv_X4_128 (by decide +kernel : decode cX4_readTimeOf 54 = .ok (.invokevirtual 128, 3)) hU (t_X4_expectWord ho (by decide) H) ho (by decide) rfl rfl rfl (Nat.le_of_ble_eq_true rfl) (Nat.le_of_ble_eq_true rfl) (Nat.le_refl 0) (Nat.le_refl 0) (fun U_14 h H hU => ?_)
  refine pr_aload_n hC (by decide +kernel : decode cX4_readTimeOf 57 = .ok (.aload_n 1, 1)) rfl ?_
  refine pr_aload_n hC (by decide +kernel : decode cX4_readTimeOf 58 = .ok (.aload_n 0, 1)) rfl ?_
  refine pr_iconst hC (1) (by decide +kernel : decode cX4_readTimeOf 59 = .ok (.iconst 1, 1)) rfl ?_
  refine pr_iconst hC (5) (by decide +kernel : decode cX4_readTimeOf 60 = .ok (.iconst 5, 1)) rfl ?_
  refine vc_Vi hC hR [.int 1, .int 5] fv_X4_121 (by decide +kernel : decode cX4_readTimeOf 61 = .ok (.invokevirtual 121, 3)) hU (t_X4_numberWithin ho H) ho (by decide) rfl rfl rfl (Nat.le_of_ble_eq_true rfl) (Nat.le_of_ble_eq_true rfl) (Nat.le_refl 0) (Nat.le_refl 0) (fun r_17 U_16 h H hU => ?_)
  refine pv_p0 hC fp_X4_214 (by decide +kernel : decode cX4_readTimeOf 64 = .ok (.putfield 214, 3)) hU ha1 (by decide) rfl rfl rfl rfl (fun U_18 h e_U_18 hU => ?_)
  replace H := H U_18 e_U_18
  refine pr_aload_n hC (by decide +kernel : decode cX4_readTimeOf 67 = .ok (.aload_n 1, 1)) rfl ?_
  refine pr_iconst hC (1) (by decide +kernel : decode cX4_readTimeOf 68 = .ok (.iconst 1, 1)) rfl ?_
  refine pv_p0 hC fp_X4_216 (by decide +kernel : decode cX4_readTimeOf 69 = .ok (.putfield 216, 3)) hU ha1 (by decide) rfl rfl rfl rfl (fun U_19 h e_U_19 hU => ?_)
  replace H := H U_19 e_U_19
  refine pr_aload_n hC (by decide +kernel : decode cX4_readTimeOf 72 = .ok (.aload_n 0, 1)) rfl ?_
  refine pu_g0 hC fg_X4_28 (by decide +kernel : decode cX4_readTimeOf 73 = .ok (.getfield 28, 3)) hU ho (by decide) rfl rfl ?_
  refine pr_if_ne hC 106 (by decide +kernel : decode cX4_readTimeOf 76 = .ok (.ifCond .ne 30, 3)) (by decide) (fun c_76 => ?_) (fun c_76 => ?_)
  · replace H := H.2 c_76
    exact pv_vret hM (by decide +kernel : decode cX4_readTimeOf 106 = .ok (.return_, 1)) hU H
  replace H := H.1 c_76
  refine pr_aload_n hC (by decide +kernel : decode cX4_readTimeOf 79 = .ok (.aload_n 0, 1)) rfl ?_
  refine pr_gets hC fs_X4_219 (ro_w11 _) (by decide +kernel : decode cX4_readTimeOf 80 = .ok (.getstatic 219, 3)) ?_
  refine vc_Vi hC hR [.ref (Y.1.2.2 (100 + 11))] fv_X4_138 (by decide +kernel : decode cX4_readTimeOf 83 = .ok (.invokevirtual 138, 3)) hU (t_X4_isWord ho (by decide) H) ho (by decide) rfl rfl rfl (Nat.le_of_ble_eq_true rfl) (Nat.le_of_ble_eq_true rfl) (Nat.le_refl 0) (Nat.le_refl 0) (fun r_21 U_20 h H hU => ?_)
  refine pr_if_eq hC 106 (by decide +kernel : decode cX4_readTimeOf 86 = .ok (.ifCond .eq 20, 3)) (by decide) (fun c_86 => ?_) (fun c_86 => ?_)
  · replace H := H.1 c_86
    exact pv_vret hM (by decide +kernel : decode cX4_readTimeOf 106 = .ok (.return_, 1)) hU H
  replace H := H.2 c_86
  refine pr_aload_n hC (by decide +kernel : decode cX4_readTimeOf 89 = .ok (.aload_n 0, 1)) rfl ?_
  refine pu_g21 hC fg_X4_9 (by decide +kernel : decode cX4_readTimeOf 90 = .ok (.getfield 9, 3)) hU ho (by decide) rfl rfl ?_
  have q_22 := H.1
  replace H := H.2
  refine vc_Vv hC hR [] fv_X4_65 (by decide +kernel : decode cX4_readTimeOf 93 = .ok (.invokevirtual 65, 3)) hU (t_X8_advance q_22 H) q_22 (by decide) rfl rfl rfl (Nat.le_of_ble_eq_true rfl) (Nat.le_of_ble_eq_true rfl) (Nat.le_refl 0) (Nat.le_refl 0) (fun U_23 h H hU => ?_)
  refine pr_aload_n hC (by decide +kernel : decode cX4_readTimeOf 96 = .ok (.aload_n 1, 1)) rfl ?_
  refine pr_aload_n hC (by decide +kernel : decode cX4_readTimeOf 97 = .ok (.aload_n 0, 1)) rfl ?_
  refine pr_iconst hC (1) (by decide +kernel : decode cX4_readTimeOf 98 = .ok (.iconst 1, 1)) rfl ?_
  refine pr_iconst hC (3) (by decide +kernel : decode cX4_readTimeOf 99 = .ok (.iconst 3, 1)) rfl ?_
  refine vc_Vi hC hR [.int 1, .int 3] fv_X4_121 (by decide +kernel : decode cX4_readTimeOf 100 = .ok (.invokevirtual 121, 3)) hU (t_X4_numberWithin ho H) ho (by decide) rfl rfl rfl (Nat.le_of_ble_eq_true rfl) (Nat.le_of_ble_eq_true rfl) (Nat.le_refl 0) (Nat.le_refl 0) (fun r_26 U_25 h H hU => ?_)
  refine pv_p0 hC fp_X4_216 (by decide +kernel : decode cX4_readTimeOf 103 = .ok (.putfield 216, 3)) hU ha1 (by decide) rfl rfl rfl rfl (fun U_27 h e_U_27 hU => ?_)
  replace H := H U_27 e_U_27
  exact pv_vret hM (by decide +kernel : decode cX4_readTimeOf 106 = .ok (.return_, 1)) hU H
def w_X4_readGame (o : Nat) (U : Um) (post : Um → Prop) : Prop :=
  uR U o 1 ≠ 99 ∧ oc (uR U o 1) = 8 ∧ (∀ K_2 : Um → Prop, (∀ (U_3 : Um), (w_X4_toldName o 1 U_3 (fun r_5 U_4 => w_X4_toldName o 1 U_4 (fun r_7 U_6 => (∀ K_8 : Um → Prop, (∀ (U_9 : Um), (w_X4_expectWord o 4 U_9 (fun U_10 => w_X4_toldName o 0 U_10 (fun r_13 U_12 => (∀ K_14 : Um → Prop, (∀ (U_15 : Um), (((uI U_15 o 2) = 0 → uR U_15 o 1 ≠ 99 ∧ oc (uR U_15 o 1) = 8 ∧ ∀ (U_17 : Um), U_17 = sI U_15 (uR U_15 o 1) 7 ((uI U_15 (uR U_15 o 1) 7) + 1) → post U_17) ∧ (¬ (uI U_15 o 2) = 0 → post U_15)) → K_14 U_15) → ((uI U_12 o 2) = 0 → uR U_12 o 1 ≠ 99 ∧ oc (uR U_12 o 1) = 8 ∧ uR U_12 o 1 ≠ 99 ∧ oc (uR U_12 o 1) = 8 ∧ vp_in (uI U_12 (uR U_12 o 1) 7) 16 ∧ oc (uAR U_12 (uR U_12 o 1) 6 (Int32.toNatClampNeg (uI U_12 (uR U_12 o 1) 7))) = 1 ∧ ∀ (U_22 : Um), U_22 = sI U_12 (uAR U_12 (uR U_12 o 1) 6 (Int32.toNatClampNeg (uI U_12 (uR U_12 o 1) 7))) 0 r_5 → ∀ (U_23 : Um), U_23 = sI U_22 (uAR U_12 (uR U_12 o 1) 6 (Int32.toNatClampNeg (uI U_12 (uR U_12 o 1) 7))) 1 r_7 → ∀ (U_24 : Um), U_24 = sI U_23 (uAR U_12 (uR U_12 o 1) 6 (Int32.toNatClampNeg (uI U_12 (uR U_12 o 1) 7))) 2 r_13 → w_X4_readTimeOf o (uAR U_12 (uR U_12 o 1) 6 (Int32.toNatClampNeg (uI U_12 (uR U_12 o 1) 7))) U_24 (fun U_25 => K_14 U_25)) ∧ (¬ (uI U_12 o 2) = 0 → K_14 U_12))))) → K_8 U_9) → ((uI U_6 o 2) = 0 → (r_5 = r_7 → oc (uR U_6 o 0) = 7 ∧ w_X4_fail o 3 (uI U_6 (uR U_6 o 0) 4) U_6 (fun U_28 => K_8 U_28)) ∧ (¬ r_5 = r_7 → K_8 U_6)) ∧ (¬ (uI U_6 o 2) = 0 → K_8 U_6))))) → K_2 U_3) → ((uI U (uR U o 1) 7) < 16 → K_2 U) ∧ (¬ (uI U (uR U o 1) 7) < 16 → w_X4_fail o 4 (uI U o 4) U (fun U_30 => K_2 U_30)))
set_option maxHeartbeats 4000000 in
theorem t_X4_readGame {l : Launch} {Y : px_Y} {o : Nat} {U : Um} {post : Um → Prop} (ho : oc o = 3) (H : w_X4_readGame o U post) : um l Y 3 yX4_readGame cX4_readGame 5 none [.ref (Y.2.1 o)] U (pq_v post) := by
  unfold w_X4_readGame at H
  refine um_of (by decide) (Nat.le_of_ble_eq_true rfl) [some (.ref (Y.2.1 o)), none, none, none, none] rfl (fun X h0 hh sz hM hU => ?_)
  have hC := hM.1
  have hR := hM.2.2.1
  refine pr_aload_n hC (by decide +kernel : decode cX4_readGame 0 = .ok (.aload_n 0, 1)) rfl ?_
  refine pu_g22 hC fg_X4_19 (by decide +kernel : decode cX4_readGame 1 = .ok (.getfield 19, 3)) hU ho (by decide) rfl rfl H.1 ?_
  replace H := H.2
  have q_1 := H.1
  replace H := H.2
  refine pu_g0 hC fg_X4_174 (by decide +kernel : decode cX4_readGame 4 = .ok (.getfield 174, 3)) hU q_1 (by decide) rfl rfl ?_
  refine pr_bipush hC (16) (by decide +kernel : decode cX4_readGame 7 = .ok (.bipush 16, 2)) rfl ?_
  replace H := H (fun U_3 => ∀ h : pe_H, rF Y h0 U_3 h → pw X Y.1 (pm_A hh sz) (pm_E X Y.1 hh sz 0 0 (pm_P Y h0 sz (pq_v post))) 21 [some (.ref (Y.2.1 o)), none, none, none, none] [] h sz 0 0) (by
    intro U_3 H h hU
    refine pr_aload_n hC (by decide +kernel : decode cX4_readGame 21 = .ok (.aload_n 0, 1)) rfl ?_
    refine pr_iconst hC (1) (by decide +kernel : decode cX4_readGame 22 = .ok (.iconst 1, 1)) rfl ?_
    refine vc_Vi hC hR [.int 1] fv_X4_132 (by decide +kernel : decode cX4_readGame 23 = .ok (.invokevirtual 132, 3)) hU (t_X4_toldName ho H) ho (by decide) rfl rfl rfl (Nat.le_of_ble_eq_true rfl) (Nat.le_of_ble_eq_true rfl) (Nat.le_refl 0) (Nat.le_refl 0) (fun r_5 U_4 h H hU => ?_)
    refine pr_istore_n hC (by decide +kernel : decode cX4_readGame 26 = .ok (.istore_n 1, 1)) (by decide) rfl ?_
    refine pr_aload_n hC (by decide +kernel : decode cX4_readGame 27 = .ok (.aload_n 0, 1)) rfl ?_
    refine pr_iconst hC (1) (by decide +kernel : decode cX4_readGame 28 = .ok (.iconst 1, 1)) rfl ?_
    refine vc_Vi hC hR [.int 1] fv_X4_132 (by decide +kernel : decode cX4_readGame 29 = .ok (.invokevirtual 132, 3)) hU (t_X4_toldName ho H) ho (by decide) rfl rfl rfl (Nat.le_of_ble_eq_true rfl) (Nat.le_of_ble_eq_true rfl) (Nat.le_refl 0) (Nat.le_refl 0) (fun r_7 U_6 h H hU => ?_)
    refine pr_istore_n hC (by decide +kernel : decode cX4_readGame 32 = .ok (.istore_n 2, 1)) (by decide) rfl ?_
    refine pr_aload_n hC (by decide +kernel : decode cX4_readGame 33 = .ok (.aload_n 0, 1)) rfl ?_
    refine pu_g0 hC fg_X4_28 (by decide +kernel : decode cX4_readGame 34 = .ok (.getfield 28, 3)) hU ho (by decide) rfl rfl ?_
    replace H := H (fun U_9 => ∀ h : pe_H, rF Y h0 U_9 h → pw X Y.1 (pm_A hh sz) (pm_E X Y.1 hh sz 0 0 (pm_P Y h0 sz (pq_v post))) 57 [some (.ref (Y.2.1 o)), some (.int r_5), some (.int r_7), none, none] [] h sz 0 0) (by
      intro U_9 H h hU
      refine pr_aload_n hC (by decide +kernel : decode cX4_readGame 57 = .ok (.aload_n 0, 1)) rfl ?_
      refine pr_gets hC fs_X4_124 (ro_w4 _) (by decide +kernel : decode cX4_readGame 58 = .ok (.getstatic 124, 3)) ?_
      refine vc_Vv hC hR [.ref (Y.1.2.2 (100 + 4))] fv_X4_128 (by decide +kernel : decode cX4_readGame 61 = .ok (.invokevirtual 128, 3)) hU (t_X4_expectWord ho (by decide) H) ho (by decide) rfl rfl rfl (Nat.le_of_ble_eq_true rfl) (Nat.le_of_ble_eq_true rfl) (Nat.le_refl 0) (Nat.le_refl 0) (fun U_10 h H hU => ?_)
      refine pr_aload_n hC (by decide +kernel : decode cX4_readGame 64 = .ok (.aload_n 0, 1)) rfl ?_
      refine pr_iconst hC (0) (by decide +kernel : decode cX4_readGame 65 = .ok (.iconst 0, 1)) rfl ?_
      refine vc_Vi hC hR [.int 0] fv_X4_132 (by decide +kernel : decode cX4_readGame 66 = .ok (.invokevirtual 132, 3)) hU (t_X4_toldName ho H) ho (by decide) rfl rfl rfl (Nat.le_of_ble_eq_true rfl) (Nat.le_of_ble_eq_true rfl) (Nat.le_refl 0) (Nat.le_refl 0) (fun r_13 U_12 h H hU => ?_)
      refine pr_istore_n hC (by decide +kernel : decode cX4_readGame 69 = .ok (.istore_n 3, 1)) (by decide) rfl ?_
      refine pr_aload_n hC (by decide +kernel : decode cX4_readGame 70 = .ok (.aload_n 0, 1)) rfl ?_
      refine pu_g0 hC fg_X4_28 (by decide +kernel : decode cX4_readGame 71 = .ok (.getfield 28, 3)) hU ho (by decide) rfl rfl ?_
      replace H := H (fun U_15 => ∀ h : pe_H, rF Y h0 U_15 h → pw X Y.1 (pm_A hh sz) (pm_E X Y.1 hh sz 0 0 (pm_P Y h0 sz (pq_v post))) 118 [some (.ref (Y.2.1 o)), none, none, none, none] [] h sz 0 0) (by
        intro U_15 H h hU
        refine pr_aload_n hC (by decide +kernel : decode cX4_readGame 118 = .ok (.aload_n 0, 1)) rfl ?_
        refine pu_g0 hC fg_X4_28 (by decide +kernel : decode cX4_readGame 119 = .ok (.getfield 28, 3)) hU ho (by decide) rfl rfl ?_
        refine pr_if_ne hC 138 (by decide +kernel : decode cX4_readGame 122 = .ok (.ifCond .ne 16, 3)) (by decide) (fun c_122 => ?_) (fun c_122 => ?_)
        · replace H := H.2 c_122
          exact pv_vret hM (by decide +kernel : decode cX4_readGame 138 = .ok (.return_, 1)) hU H
        replace H := H.1 c_122
        refine pr_aload_n hC (by decide +kernel : decode cX4_readGame 125 = .ok (.aload_n 0, 1)) rfl ?_
        refine pu_g22 hC fg_X4_19 (by decide +kernel : decode cX4_readGame 126 = .ok (.getfield 19, 3)) hU ho (by decide) rfl rfl H.1 ?_
        replace H := H.2
        have q_16 := H.1
        replace H := H.2
        refine pr_dup hC (by decide +kernel : decode cX4_readGame 129 = .ok (.dup, 1)) rfl ?_
        refine pu_g0 hC fg_X4_174 (by decide +kernel : decode cX4_readGame 130 = .ok (.getfield 174, 3)) hU q_16 (by decide) rfl rfl ?_
        refine pr_iconst hC (1) (by decide +kernel : decode cX4_readGame 133 = .ok (.iconst 1, 1)) rfl ?_
        refine pr_iadd hC (by decide +kernel : decode cX4_readGame 134 = .ok (.iadd, 1)) ?_
        refine pv_p0 hC fp_X4_174 (by decide +kernel : decode cX4_readGame 135 = .ok (.putfield 174, 3)) hU q_16 (by decide) rfl rfl rfl rfl (fun U_17 h e_U_17 hU => ?_)
        replace H := H U_17 e_U_17
        exact pv_vret hM (by decide +kernel : decode cX4_readGame 138 = .ok (.return_, 1)) hU H)
      refine pr_if_ne hC 118 (by decide +kernel : decode cX4_readGame 74 = .ok (.ifCond .ne 44, 3)) (by decide) (fun c_74 => ?_) (fun c_74 => ?_)
      · replace H := H.2 c_74
        exact pv_sub [some (.ref (Y.2.1 o)), none, none, none, none] (And.intro rfl trivial) (H h hU)
      replace H := H.1 c_74
      refine pr_aload_n hC (by decide +kernel : decode cX4_readGame 77 = .ok (.aload_n 0, 1)) rfl ?_
      refine pu_g22 hC fg_X4_19 (by decide +kernel : decode cX4_readGame 78 = .ok (.getfield 19, 3)) hU ho (by decide) rfl rfl H.1 ?_
      replace H := H.2
      have q_18 := H.1
      replace H := H.2
      refine pu_g1 hC fg_X4_177 (by decide +kernel : decode cX4_readGame 81 = .ok (.getfield 177, 3)) hU q_18 (by decide) rfl (by decide) ?_
      refine pr_aload_n hC (by decide +kernel : decode cX4_readGame 84 = .ok (.aload_n 0, 1)) rfl ?_
      refine pu_g22 hC fg_X4_19 (by decide +kernel : decode cX4_readGame 85 = .ok (.getfield 19, 3)) hU ho (by decide) rfl rfl H.1 ?_
      replace H := H.2
      have q_19 := H.1
      replace H := H.2
      refine pu_g0 hC fg_X4_174 (by decide +kernel : decode cX4_readGame 88 = .ok (.getfield 174, 3)) hU q_19 (by decide) rfl rfl ?_
      have q_20 := H.1
      replace H := H.2
      refine pu_aald8 hC (by decide +kernel : decode cX4_readGame 91 = .ok (.aaload, 1)) hU q_18 rfl q_20 ?_
      have q_21 := H.1
      replace H := H.2
      refine pr_astore hC (by decide +kernel : decode cX4_readGame 92 = .ok (.astore 4, 2)) (by decide) rfl ?_
      refine pr_aload hC (by decide +kernel : decode cX4_readGame 94 = .ok (.aload 4, 2)) rfl ?_
      refine pr_iload_n hC (by decide +kernel : decode cX4_readGame 96 = .ok (.iload_n 1, 1)) rfl ?_
      refine pv_p0 hC fp_X4_181 (by decide +kernel : decode cX4_readGame 97 = .ok (.putfield 181, 3)) hU q_21 (by decide) rfl rfl rfl rfl (fun U_22 h e_U_22 hU => ?_)
      replace H := H U_22 e_U_22
      refine pr_aload hC (by decide +kernel : decode cX4_readGame 100 = .ok (.aload 4, 2)) rfl ?_
      refine pr_iload_n hC (by decide +kernel : decode cX4_readGame 102 = .ok (.iload_n 2, 1)) rfl ?_
      refine pv_p0 hC fp_X4_186 (by decide +kernel : decode cX4_readGame 103 = .ok (.putfield 186, 3)) hU q_21 (by decide) rfl rfl rfl rfl (fun U_23 h e_U_23 hU => ?_)
      replace H := H U_23 e_U_23
      refine pr_aload hC (by decide +kernel : decode cX4_readGame 106 = .ok (.aload 4, 2)) rfl ?_
      refine pr_iload_n hC (by decide +kernel : decode cX4_readGame 108 = .ok (.iload_n 3, 1)) rfl ?_
      refine pv_p0 hC fp_X4_189 (by decide +kernel : decode cX4_readGame 109 = .ok (.putfield 189, 3)) hU q_21 (by decide) rfl rfl rfl rfl (fun U_24 h e_U_24 hU => ?_)
      replace H := H U_24 e_U_24
      refine pr_aload_n hC (by decide +kernel : decode cX4_readGame 112 = .ok (.aload_n 0, 1)) rfl ?_
      refine pr_aload hC (by decide +kernel : decode cX4_readGame 113 = .ok (.aload 4, 2)) rfl ?_
      refine vc_Vv hC hR [.ref (Y.2.1 (uAR U_12 (uR U_12 o 1) 6 (Int32.toNatClampNeg (uI U_12 (uR U_12 o 1) 7))))] fv_X4_192 (by decide +kernel : decode cX4_readGame 115 = .ok (.invokevirtual 192, 3)) hU (t_X4_readTimeOf ho q_21 H) ho (by decide) rfl rfl rfl (Nat.le_of_ble_eq_true rfl) (Nat.le_of_ble_eq_true rfl) (Nat.le_refl 0) (Nat.le_refl 0) (fun U_25 h H hU => ?_)
      exact pv_sub [some (.ref (Y.2.1 o)), none, none, none, none] (And.intro rfl trivial) (H h hU))
    refine pr_if_ne hC 57 (by decide +kernel : decode cX4_readGame 37 = .ok (.ifCond .ne 20, 3)) (by decide) (fun c_37 => ?_) (fun c_37 => ?_)
    · replace H := H.2 c_37
      exact pv_sub [some (.ref (Y.2.1 o)), some (.int r_5), some (.int r_7), none, none] (And.intro rfl (And.intro rfl (And.intro rfl trivial))) (H h hU)
    replace H := H.1 c_37
    refine pr_iload_n hC (by decide +kernel : decode cX4_readGame 40 = .ok (.iload_n 1, 1)) rfl ?_
    refine pr_iload_n hC (by decide +kernel : decode cX4_readGame 41 = .ok (.iload_n 2, 1)) rfl ?_
    refine pr_icmp_ne hC 57 (by decide +kernel : decode cX4_readGame 42 = .ok (.if_icmp .ne 15, 3)) (by decide) (fun c_42 => ?_) (fun c_42 => ?_)
    · replace H := H.2 c_42
      exact pv_sub [some (.ref (Y.2.1 o)), some (.int r_5), some (.int r_7), none, none] (And.intro rfl (And.intro rfl (And.intro rfl trivial))) (H h hU)
    replace H := H.1 c_42
    refine pr_aload_n hC (by decide +kernel : decode cX4_readGame 45 = .ok (.aload_n 0, 1)) rfl ?_
    refine pr_iconst hC (3) (by decide +kernel : decode cX4_readGame 46 = .ok (.iconst 3, 1)) rfl ?_
    refine pr_aload_n hC (by decide +kernel : decode cX4_readGame 47 = .ok (.aload_n 0, 1)) rfl ?_
    refine pu_g21 hC fg_X4_9 (by decide +kernel : decode cX4_readGame 48 = .ok (.getfield 9, 3)) hU ho (by decide) rfl rfl ?_
    have q_27 := H.1
    replace H := H.2
    refine pu_g0 hC fg_X4_142 (by decide +kernel : decode cX4_readGame 51 = .ok (.getfield 142, 3)) hU q_27 (by decide) rfl rfl ?_
    refine vc_Vv hC hR [.int 3, .int (uI U_6 (uR U_6 o 0) 4)] fv_X4_61 (by decide +kernel : decode cX4_readGame 54 = .ok (.invokevirtual 61, 3)) hU (t_X4_fail ho H) ho (by decide) rfl rfl rfl (Nat.le_of_ble_eq_true rfl) (Nat.le_of_ble_eq_true rfl) (Nat.le_refl 0) (Nat.le_refl 0) (fun U_28 h H hU => ?_)
    exact pv_sub [some (.ref (Y.2.1 o)), some (.int r_5), some (.int r_7), none, none] (And.intro rfl (And.intro rfl (And.intro rfl trivial))) (H h hU))
  refine pr_icmp_lt hC 21 (by decide +kernel : decode cX4_readGame 9 = .ok (.if_icmp .lt 12, 3)) (by decide) (fun c_9 => ?_) (fun c_9 => ?_)
  · replace H := H.1 c_9
    exact pv_sub [some (.ref (Y.2.1 o)), none, none, none, none] (And.intro rfl trivial) (H hh hU)
  replace H := H.2 c_9
  refine pr_aload_n hC (by decide +kernel : decode cX4_readGame 12 = .ok (.aload_n 0, 1)) rfl ?_
  refine pr_iconst hC (4) (by decide +kernel : decode cX4_readGame 13 = .ok (.iconst 4, 1)) rfl ?_
  refine pr_aload_n hC (by decide +kernel : decode cX4_readGame 14 = .ok (.aload_n 0, 1)) rfl ?_
  refine pu_g0 hC fg_X4_49 (by decide +kernel : decode cX4_readGame 15 = .ok (.getfield 49, 3)) hU ho (by decide) rfl rfl ?_
  refine vc_Vv hC hR [.int 4, .int (uI U o 4)] fv_X4_61 (by decide +kernel : decode cX4_readGame 18 = .ok (.invokevirtual 61, 3)) hU (t_X4_fail ho H) ho (by decide) rfl rfl rfl (Nat.le_of_ble_eq_true rfl) (Nat.le_of_ble_eq_true rfl) (Nat.le_refl 0) (Nat.le_refl 0) (fun U_30 h H hU => ?_)
  exact pv_sub [some (.ref (Y.2.1 o)), none, none, none, none] (And.intro rfl trivial) (H h hU)
def w_X4_readRest (o : Nat) (U : Um) (post : Um → Prop) : Prop :=
  w_X4_numberWithin o 0 120 U (fun r_2 U_1 => ((uI U_1 o 2) = 0 → uR U_1 o 1 ≠ 99 ∧ oc (uR U_1 o 1) = 8 ∧ ∀ (U_4 : Um), U_4 = sI U_1 (uR U_1 o 1) 8 r_2 → post U_4) ∧ (¬ (uI U_1 o 2) = 0 → post U_1))
set_option maxHeartbeats 4000000 in
theorem t_X4_readRest {l : Launch} {Y : px_Y} {o : Nat} {U : Um} {post : Um → Prop} (ho : oc o = 3) (H : w_X4_readRest o U post) : um l Y 2 yX4_readRest cX4_readRest 2 none [.ref (Y.2.1 o)] U (pq_v post) := by
  unfold w_X4_readRest at H
  refine um_of (by decide) (Nat.le_of_ble_eq_true rfl) [some (.ref (Y.2.1 o)), none] rfl (fun X h0 hh sz hM hU => ?_)
  have hC := hM.1
  have hR := hM.2.2.1
  refine pr_aload_n hC (by decide +kernel : decode cX4_readRest 0 = .ok (.aload_n 0, 1)) rfl ?_
  refine pr_iconst hC (0) (by decide +kernel : decode cX4_readRest 1 = .ok (.iconst 0, 1)) rfl ?_
  refine pr_bipush hC (120) (by decide +kernel : decode cX4_readRest 2 = .ok (.bipush 120, 2)) rfl ?_
  refine vc_Vi hC hR [.int 0, .int 120] fv_X4_121 (by decide +kernel : decode cX4_readRest 4 = .ok (.invokevirtual 121, 3)) hU (t_X4_numberWithin ho H) ho (by decide) rfl rfl rfl (Nat.le_of_ble_eq_true rfl) (Nat.le_of_ble_eq_true rfl) (Nat.le_refl 0) (Nat.le_refl 0) (fun r_2 U_1 h H hU => ?_)
  refine pr_istore_n hC (by decide +kernel : decode cX4_readRest 7 = .ok (.istore_n 1, 1)) (by decide) rfl ?_
  refine pr_aload_n hC (by decide +kernel : decode cX4_readRest 8 = .ok (.aload_n 0, 1)) rfl ?_
  refine pu_g0 hC fg_X4_28 (by decide +kernel : decode cX4_readRest 9 = .ok (.getfield 28, 3)) hU ho (by decide) rfl rfl ?_
  refine pr_if_ne hC 23 (by decide +kernel : decode cX4_readRest 12 = .ok (.ifCond .ne 11, 3)) (by decide) (fun c_12 => ?_) (fun c_12 => ?_)
  · replace H := H.2 c_12
    exact pv_vret hM (by decide +kernel : decode cX4_readRest 23 = .ok (.return_, 1)) hU H
  replace H := H.1 c_12
  refine pr_aload_n hC (by decide +kernel : decode cX4_readRest 15 = .ok (.aload_n 0, 1)) rfl ?_
  refine pu_g22 hC fg_X4_19 (by decide +kernel : decode cX4_readRest 16 = .ok (.getfield 19, 3)) hU ho (by decide) rfl rfl H.1 ?_
  replace H := H.2
  have q_3 := H.1
  replace H := H.2
  refine pr_iload_n hC (by decide +kernel : decode cX4_readRest 19 = .ok (.iload_n 1, 1)) rfl ?_
  refine pv_p0 hC fp_X4_222 (by decide +kernel : decode cX4_readRest 20 = .ok (.putfield 222, 3)) hU q_3 (by decide) rfl rfl rfl rfl (fun U_4 h e_U_4 hU => ?_)
  replace H := H U_4 e_U_4
  exact pv_vret hM (by decide +kernel : decode cX4_readRest 23 = .ok (.return_, 1)) hU H
def w_X4_readMost (o : Nat) (U : Um) (post : Um → Prop) : Prop :=
  w_X4_numberWithin o 1 4 U (fun r_2 U_1 => ((uI U_1 o 2) = 0 → uR U_1 o 1 ≠ 99 ∧ oc (uR U_1 o 1) = 8 ∧ ∀ (U_4 : Um), U_4 = sI U_1 (uR U_1 o 1) 9 r_2 → post U_4) ∧ (¬ (uI U_1 o 2) = 0 → post U_1))
set_option maxHeartbeats 4000000 in
theorem t_X4_readMost {l : Launch} {Y : px_Y} {o : Nat} {U : Um} {post : Um → Prop} (ho : oc o = 3) (H : w_X4_readMost o U post) : um l Y 2 yX4_readMost cX4_readMost 2 none [.ref (Y.2.1 o)] U (pq_v post) := by
  unfold w_X4_readMost at H
  refine um_of (by decide) (Nat.le_of_ble_eq_true rfl) [some (.ref (Y.2.1 o)), none] rfl (fun X h0 hh sz hM hU => ?_)
  have hC := hM.1
  have hR := hM.2.2.1
  refine pr_aload_n hC (by decide +kernel : decode cX4_readMost 0 = .ok (.aload_n 0, 1)) rfl ?_
  refine pr_iconst hC (1) (by decide +kernel : decode cX4_readMost 1 = .ok (.iconst 1, 1)) rfl ?_
  refine pr_iconst hC (4) (by decide +kernel : decode cX4_readMost 2 = .ok (.iconst 4, 1)) rfl ?_
  refine vc_Vi hC hR [.int 1, .int 4] fv_X4_121 (by decide +kernel : decode cX4_readMost 3 = .ok (.invokevirtual 121, 3)) hU (t_X4_numberWithin ho H) ho (by decide) rfl rfl rfl (Nat.le_of_ble_eq_true rfl) (Nat.le_of_ble_eq_true rfl) (Nat.le_refl 0) (Nat.le_refl 0) (fun r_2 U_1 h H hU => ?_)
  refine pr_istore_n hC (by decide +kernel : decode cX4_readMost 6 = .ok (.istore_n 1, 1)) (by decide) rfl ?_
  refine pr_aload_n hC (by decide +kernel : decode cX4_readMost 7 = .ok (.aload_n 0, 1)) rfl ?_
  refine pu_g0 hC fg_X4_28 (by decide +kernel : decode cX4_readMost 8 = .ok (.getfield 28, 3)) hU ho (by decide) rfl rfl ?_
  refine pr_if_ne hC 22 (by decide +kernel : decode cX4_readMost 11 = .ok (.ifCond .ne 11, 3)) (by decide) (fun c_11 => ?_) (fun c_11 => ?_)
  · replace H := H.2 c_11
    exact pv_vret hM (by decide +kernel : decode cX4_readMost 22 = .ok (.return_, 1)) hU H
  replace H := H.1 c_11
  refine pr_aload_n hC (by decide +kernel : decode cX4_readMost 14 = .ok (.aload_n 0, 1)) rfl ?_
  refine pu_g22 hC fg_X4_19 (by decide +kernel : decode cX4_readMost 15 = .ok (.getfield 19, 3)) hU ho (by decide) rfl rfl H.1 ?_
  replace H := H.2
  have q_3 := H.1
  replace H := H.2
  refine pr_iload_n hC (by decide +kernel : decode cX4_readMost 18 = .ok (.iload_n 1, 1)) rfl ?_
  refine pv_p0 hC fp_X4_225 (by decide +kernel : decode cX4_readMost 19 = .ok (.putfield 225, 3)) hU q_3 (by decide) rfl rfl rfl rfl (fun U_4 h e_U_4 hU => ?_)
  replace H := H U_4 e_U_4
  exact pv_vret hM (by decide +kernel : decode cX4_readMost 22 = .ok (.return_, 1)) hU H
