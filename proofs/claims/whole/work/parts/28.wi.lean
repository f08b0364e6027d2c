def b_X12_spread_L35 (o0 : Nat) (x1 : Int32) (post : Int32 → Um → Prop) (k_86 : Int32 → Int32 → Um → Prop) (rec_ : Int32 → Int32 → Int32 → Um → Prop) (x2 : Int32) (x3 : Int32) (x4 : Int32) (U : Um) : Prop :=
  vp_in 2 14 ∧ ((uA U o0 11 (Int32.toNatClampNeg 2)) ≤ x4 → k_86 x2 x3 U) ∧ (¬ (uA U o0 11 (Int32.toNatClampNeg 2)) ≤ x4 → w_X12_seatsOf o0 x4 U (fun r_5 U_4 => w_X12_seatsOf o0 x2 U_4 (fun r_7 U_6 => ∀ (x2_8 : Int32), x2_8 = (if r_5 ≤ r_7 then x2 else x4) → w_X12_seatsOf o0 x4 U_6 (fun r_10 U_9 => w_X12_seatsOf o0 x3 U_9 (fun r_12 U_11 => (r_12 ≤ r_10 → ∀ (x4_13 : Int32), x4_13 = x4 + 1 → rec_ x2_8 x3 x4_13 U_11) ∧ (¬ r_12 ≤ r_10 → ∀ (x3_14 : Int32), x3_14 = x4 → ∀ (x4_15 : Int32), x4_15 = x4 + 1 → rec_ x2_8 x3_14 x4_15 U_11))))))
def w_X12_spread_L35 (o0 : Nat) (x1 : Int32) (post : Int32 → Um → Prop) (k_86 : Int32 → Int32 → Um → Prop) (n_ : Nat) : Int32 → Int32 → Int32 → Um → Prop := Nat.rec (motive := fun _ => Int32 → Int32 → Int32 → Um → Prop) (fun _ _ _ _ => False) (fun _ ih => b_X12_spread_L35 o0 x1 post k_86 ih) n_
def w_X12_spread (o : Nat) (a1 : Int32) (U : Um) (post : Int32 → Um → Prop) : Prop :=
  ∀ (U_1 : Um), U_1 = sI U o 0 0 → vp_in 2 14 ∧ ((uA U_1 o 11 (Int32.toNatClampNeg 2)) = 0 → post (-1) U_1) ∧ (¬ (uA U_1 o 11 (Int32.toNatClampNeg 2)) = 0 → w_X12_isIn (Int32.toInt64 a1) 0 2 U_1 (fun r_3 U_2 => (r_3 = 0 → post (-1) U_2) ∧ (¬ r_3 = 0 → (∃ n_24, w_X12_spread_L35 o a1 post (fun x2_17 x3_18 U_19 => (a1 = 0 → w_X12_seatsOf o x2_17 U_19 (fun r_21 U_20 => w_X12_seatsOf o x3_18 U_20 (fun r_23 U_22 => post (r_21 - r_23) U_22))) ∧ (¬ a1 = 0 → (a1 = 1 → post x2_17 U_19) ∧ (¬ a1 = 1 → post x3_18 U_19))) n_24 0 0 1 U_2))))
set_option maxHeartbeats 4000000 in
theorem tl_X12_spread_L35 {l : Launch} {Y : px_Y} {X : px_X} {h0 hh : pe_H} {sz : Nat} (o0 : Nat) (x1 : Int32) (post : Int32 → Um → Prop) (k_86 : Int32 → Int32 → Um → Prop) (ho0 : oc o0 = 10)  (hC : px_C X Y.1 (pm_A hh sz) cX12_spread RX12 5) (hM : px_M l X Y.1 hh sz yX12_spread cX12_spread 5 (some (.int)) 2 0 0) (hR : X.2.2.2.1 = pm_rm 2 0 0) (hk_86 : ∀ (y2 : Int32) (y3 : Int32) (U : Um) (h : pe_H), k_86 y2 y3 U → rF Y h0 U h → pw X Y.1 (pm_A hh sz) (pm_E X Y.1 hh sz 0 0 (pm_P Y h0 sz (pq_i post))) 86 [some (.ref (Y.2.1 o0)), some (.int x1), some (.int y2), some (.int y3), none] [] h sz 0 0) : ∀ (n_ : Nat) (x2 : Int32) (x3 : Int32) (x4 : Int32) (U : Um) (h : pe_H), rF Y h0 U h → w_X12_spread_L35 o0 x1 post k_86 n_ x2 x3 x4 U → pw X Y.1 (pm_A hh sz) (pm_E X Y.1 hh sz 0 0 (pm_P Y h0 sz (pq_i post))) 35 [some (.ref (Y.2.1 o0)), some (.int x1), some (.int x2), some (.int x3), some (.int x4)] [] h sz 0 0 := by
  intro n_
  induction n_ with
  | zero => intro x2 x3 x4 U h hU H; exact False.elim H
  | succ n_ ih =>
    intro x2 x3 x4 U h hU H
    replace H : b_X12_spread_L35 o0 x1 post k_86 (w_X12_spread_L35 o0 x1 post k_86 n_) x2 x3 x4 U := H
    unfold b_X12_spread_L35 at H
    refine pr_iload hC (by decide +kernel : decode cX12_spread 35 = .ok (.iload 4, 2)) rfl ?_
    refine pr_aload_n hC (by decide +kernel : decode cX12_spread 37 = .ok (.aload_n 0, 1)) rfl ?_
    refine pu_g1 hC fg_X12_43 (by decide +kernel : decode cX12_spread 38 = .ok (.getfield 43, 3)) hU ho0 (by decide) rfl (by decide) ?_
    refine pr_iconst hC (2) (by decide +kernel : decode cX12_spread 41 = .ok (.iconst 2, 1)) rfl ?_
    refine pu_iald hC (by decide +kernel : decode cX12_spread 42 = .ok (.iaload, 1)) hU ho0 rfl H.1 ?_
    replace H := H.2
    refine pr_icmp_ge hC 86 (by decide +kernel : decode cX12_spread 43 = .ok (.if_icmp .ge 43, 3)) (by decide) (fun c_43 => ?_) (fun c_43 => ?_)
    · replace H := H.1 c_43
      exact pv_sub [some (.ref (Y.2.1 o0)), some (.int x1), some (.int x2), some (.int x3), none] (And.intro rfl (And.intro rfl (And.intro rfl (And.intro rfl trivial)))) (hk_86 _ _ U h H hU)
    replace H := H.2 c_43
    refine pr_aload_n hC (by decide +kernel : decode cX12_spread 46 = .ok (.aload_n 0, 1)) rfl ?_
    refine pr_iload hC (by decide +kernel : decode cX12_spread 47 = .ok (.iload 4, 2)) rfl ?_
    refine vc_Vi hC hR [.int x4] fv_X12_371 (by decide +kernel : decode cX12_spread 49 = .ok (.invokevirtual 371, 3)) hU (t_X12_seatsOf ho0 H) ho0 (by decide) rfl rfl rfl (Nat.le_of_ble_eq_true rfl) (Nat.le_of_ble_eq_true rfl) (Nat.le_refl 0) (Nat.le_refl 0) (fun r_5 U_4 h H hU => ?_)
    refine pr_aload_n hC (by decide +kernel : decode cX12_spread 52 = .ok (.aload_n 0, 1)) rfl ?_
    refine pr_iload_n hC (by decide +kernel : decode cX12_spread 53 = .ok (.iload_n 2, 1)) rfl ?_
    refine vc_Vi hC hR [.int x2] fv_X12_371 (by decide +kernel : decode cX12_spread 54 = .ok (.invokevirtual 371, 3)) hU (t_X12_seatsOf ho0 H) ho0 (by decide) rfl rfl rfl (Nat.le_of_ble_eq_true rfl) (Nat.le_of_ble_eq_true rfl) (Nat.le_refl 0) (Nat.le_refl 0) (fun r_7 U_6 h H hU => ?_)
    have HJ_16 : ∀ (x2_8 : Int32), x2_8 = (if r_5 ≤ r_7 then x2 else x4) → pw X Y.1 (pm_A hh sz) (pm_E X Y.1 hh sz 0 0 (pm_P Y h0 sz (pq_i post))) 63 [some (.ref (Y.2.1 o0)), some (.int x1), some (.int x2_8), some (.int x3), some (.int x4)] [] h sz 0 0 := by
      intro x2_8 e_x2_8
      replace H := H x2_8 e_x2_8
      refine pr_aload_n hC (by decide +kernel : decode cX12_spread 63 = .ok (.aload_n 0, 1)) rfl ?_
      refine pr_iload hC (by decide +kernel : decode cX12_spread 64 = .ok (.iload 4, 2)) rfl ?_
      refine vc_Vi hC hR [.int x4] fv_X12_371 (by decide +kernel : decode cX12_spread 66 = .ok (.invokevirtual 371, 3)) hU (t_X12_seatsOf ho0 H) ho0 (by decide) rfl rfl rfl (Nat.le_of_ble_eq_true rfl) (Nat.le_of_ble_eq_true rfl) (Nat.le_refl 0) (Nat.le_refl 0) (fun r_10 U_9 h H hU => ?_)
      refine pr_aload_n hC (by decide +kernel : decode cX12_spread 69 = .ok (.aload_n 0, 1)) rfl ?_
      refine pr_iload_n hC (by decide +kernel : decode cX12_spread 70 = .ok (.iload_n 3, 1)) rfl ?_
      refine vc_Vi hC hR [.int x3] fv_X12_371 (by decide +kernel : decode cX12_spread 71 = .ok (.invokevirtual 371, 3)) hU (t_X12_seatsOf ho0 H) ho0 (by decide) rfl rfl rfl (Nat.le_of_ble_eq_true rfl) (Nat.le_of_ble_eq_true rfl) (Nat.le_refl 0) (Nat.le_refl 0) (fun r_12 U_11 h H hU => ?_)
      refine pr_icmp_ge hC 80 (by decide +kernel : decode cX12_spread 74 = .ok (.if_icmp .ge 6, 3)) (by decide) (fun c_74 => ?_) (fun c_74 => ?_)
      · replace H := H.1 c_74
        refine pv_iinc hC (v := x4 + 1) (by decide +kernel : decode cX12_spread 80 = .ok (.iinc 4 1, 3)) rfl (by decide) rfl rfl (fun x4_13 e_x4_13 => ?_)
        replace H := H x4_13 e_x4_13
        refine pr_goto hC 35 (by decide +kernel : decode cX12_spread 83 = .ok (.goto (-48), 3)) (by decide) ?_
        exact pv_sub [some (.ref (Y.2.1 o0)), some (.int x1), some (.int x2_8), some (.int x3), some (.int x4_13)] (And.intro rfl (And.intro rfl (And.intro rfl (And.intro rfl (And.intro rfl trivial))))) (ih _ _ _ U_11 h hU H)
      replace H := H.2 c_74
      refine pr_iload hC (by decide +kernel : decode cX12_spread 77 = .ok (.iload 4, 2)) rfl ?_
      refine pv_topi (fun x3_14 e_x3_14 => ?_)
      replace H := H x3_14 e_x3_14
      refine pr_istore_n hC (by decide +kernel : decode cX12_spread 79 = .ok (.istore_n 3, 1)) (by decide) rfl ?_
      refine pv_iinc hC (v := x4 + 1) (by decide +kernel : decode cX12_spread 80 = .ok (.iinc 4 1, 3)) rfl (by decide) rfl rfl (fun x4_15 e_x4_15 => ?_)
      replace H := H x4_15 e_x4_15
      refine pr_goto hC 35 (by decide +kernel : decode cX12_spread 83 = .ok (.goto (-48), 3)) (by decide) ?_
      exact pv_sub [some (.ref (Y.2.1 o0)), some (.int x1), some (.int x2_8), some (.int x3_14), some (.int x4_15)] (And.intro rfl (And.intro rfl (And.intro rfl (And.intro rfl (And.intro rfl trivial))))) (ih _ _ _ U_11 h hU H)
    replace H := trivial
    refine pr_icmp_le hC 63 (by decide +kernel : decode cX12_spread 57 = .ok (.if_icmp .le 6, 3)) (by decide) (fun c_57 => ?_) (fun c_57 => ?_)
    · skip
      exact pv_sub [some (.ref (Y.2.1 o0)), some (.int x1), some (.int x2), some (.int x3), some (.int x4)] (And.intro rfl (And.intro rfl (And.intro rfl (And.intro rfl (And.intro rfl trivial))))) (HJ_16 _ (if_pos c_57).symm)
    skip
    refine pr_iload hC (by decide +kernel : decode cX12_spread 60 = .ok (.iload 4, 2)) rfl ?_
    refine pr_istore_n hC (by decide +kernel : decode cX12_spread 62 = .ok (.istore_n 2, 1)) (by decide) rfl ?_
    exact pv_sub [some (.ref (Y.2.1 o0)), some (.int x1), some (.int x4), some (.int x3), some (.int x4)] (And.intro rfl (And.intro rfl (And.intro rfl (And.intro rfl (And.intro rfl trivial))))) (HJ_16 _ (if_neg c_57).symm)
set_option maxHeartbeats 4000000 in
theorem t_X12_spread {l : Launch} {Y : px_Y} {o : Nat} {a1 : Int32} {U : Um} {post : Int32 → Um → Prop} (ho : oc o = 10) (H : w_X12_spread o a1 U post) : um l Y 2 yX12_spread cX12_spread 5 (some (.int)) [.ref (Y.2.1 o), .int a1] U (pq_i post) := by
  unfold w_X12_spread at H
  refine um_of (by decide) (Nat.le_of_ble_eq_true rfl) [some (.ref (Y.2.1 o)), some (.int a1), none, none, none] rfl (fun X h0 hh sz hM hU => ?_)
  have hC := hM.1
  have hR := hM.2.2.1
  refine pr_aload_n hC (by decide +kernel : decode cX12_spread 0 = .ok (.aload_n 0, 1)) rfl ?_
  refine pr_iconst hC (0) (by decide +kernel : decode cX12_spread 1 = .ok (.iconst 0, 1)) rfl ?_
  refine pv_p0 hC fp_X12_121 (by decide +kernel : decode cX12_spread 2 = .ok (.putfield 121, 3)) hU ho (by decide) rfl rfl rfl rfl (fun U_1 h e_U_1 hU => ?_)
  replace H := H U_1 e_U_1
  refine pr_aload_n hC (by decide +kernel : decode cX12_spread 5 = .ok (.aload_n 0, 1)) rfl ?_
  refine pu_g1 hC fg_X12_43 (by decide +kernel : decode cX12_spread 6 = .ok (.getfield 43, 3)) hU ho (by decide) rfl (by decide) ?_
  refine pr_iconst hC (2) (by decide +kernel : decode cX12_spread 9 = .ok (.iconst 2, 1)) rfl ?_
  refine pu_iald hC (by decide +kernel : decode cX12_spread 10 = .ok (.iaload, 1)) hU ho rfl H.1 ?_
  replace H := H.2
  refine pr_if_eq hC 26 (by decide +kernel : decode cX12_spread 11 = .ok (.ifCond .eq 15, 3)) (by decide) (fun c_11 => ?_) (fun c_11 => ?_)
  · replace H := H.1 c_11
    refine pr_iconst hC (-1) (by decide +kernel : decode cX12_spread 26 = .ok (.iconst (-1), 1)) rfl ?_
    exact pv_iret hM (by decide +kernel : decode cX12_spread 27 = .ok (.ireturn, 1)) hU H
  replace H := H.2 c_11
  refine pr_iload_n hC (by decide +kernel : decode cX12_spread 14 = .ok (.iload_n 1, 1)) rfl ?_
  refine pr_i2l hC (by decide +kernel : decode cX12_spread 15 = .ok (.i2l, 1)) ?_
  refine pr_lconst hC (0) (by decide +kernel : decode cX12_spread 16 = .ok (.lconst 0, 1)) rfl ?_
  refine pr_ldc2 hC (2) (by decide +kernel : decode cX12_spread 17 = .ok (.ldc2_w 362, 3)) fk_X12_362 ?_
  refine vc_Si hC hR [.long (Int32.toInt64 a1), .long 0, .long 2] fv_X12_131 (by decide +kernel : decode cX12_spread 20 = .ok (.invokestatic 131, 3)) hU (t_X12_isIn  H) rfl rfl (Nat.le_of_ble_eq_true rfl) (Nat.le_of_ble_eq_true rfl) (Nat.le_refl 0) (Nat.le_refl 0) (fun r_3 U_2 h H hU => ?_)
  refine pr_if_ne hC 28 (by decide +kernel : decode cX12_spread 23 = .ok (.ifCond .ne 5, 3)) (by decide) (fun c_23 => ?_) (fun c_23 => ?_)
  · replace H := H.2 c_23
    refine pr_iconst hC (0) (by decide +kernel : decode cX12_spread 28 = .ok (.iconst 0, 1)) rfl ?_
    refine pr_istore_n hC (by decide +kernel : decode cX12_spread 29 = .ok (.istore_n 2, 1)) (by decide) rfl ?_
    refine pr_iconst hC (0) (by decide +kernel : decode cX12_spread 30 = .ok (.iconst 0, 1)) rfl ?_
    refine pr_istore_n hC (by decide +kernel : decode cX12_spread 31 = .ok (.istore_n 3, 1)) (by decide) rfl ?_
    refine pr_iconst hC (1) (by decide +kernel : decode cX12_spread 32 = .ok (.iconst 1, 1)) rfl ?_
    refine pr_istore hC (by decide +kernel : decode cX12_spread 33 = .ok (.istore 4, 2)) (by decide) rfl ?_
    obtain ⟨n_24, H⟩ := H
    refine pv_sub [some (.ref (Y.2.1 o)), some (.int a1), some (.int 0), some (.int 0), some (.int 1)] (And.intro rfl (And.intro rfl (And.intro rfl (And.intro rfl (And.intro rfl trivial))))) ?_
    refine tl_X12_spread_L35 _ _ _ _ ho hC hM hR (fun x2_17 x3_18 U_19 h H hU => ?_) n_24 _ _ _ U_2 h hU H
    refine pr_iload_n hC (by decide +kernel : decode cX12_spread 86 = .ok (.iload_n 1, 1)) rfl ?_
    refine pr_if_ne hC 104 (by decide +kernel : decode cX12_spread 87 = .ok (.ifCond .ne 17, 3)) (by decide) (fun c_87 => ?_) (fun c_87 => ?_)
    · replace H := H.2 c_87
      refine pr_iload_n hC (by decide +kernel : decode cX12_spread 104 = .ok (.iload_n 1, 1)) rfl ?_
      refine pr_iconst hC (1) (by decide +kernel : decode cX12_spread 105 = .ok (.iconst 1, 1)) rfl ?_
      refine pr_icmp_ne hC 113 (by decide +kernel : decode cX12_spread 106 = .ok (.if_icmp .ne 7, 3)) (by decide) (fun c_106 => ?_) (fun c_106 => ?_)
      · replace H := H.2 c_106
        refine pr_iload_n hC (by decide +kernel : decode cX12_spread 113 = .ok (.iload_n 3, 1)) rfl ?_
        exact pv_iret hM (by decide +kernel : decode cX12_spread 114 = .ok (.ireturn, 1)) hU H
      replace H := H.1 c_106
      refine pr_iload_n hC (by decide +kernel : decode cX12_spread 109 = .ok (.iload_n 2, 1)) rfl ?_
      refine pr_goto hC 114 (by decide +kernel : decode cX12_spread 110 = .ok (.goto 4, 3)) (by decide) ?_
      exact pv_iret hM (by decide +kernel : decode cX12_spread 114 = .ok (.ireturn, 1)) hU H
    replace H := H.1 c_87
    refine pr_aload_n hC (by decide +kernel : decode cX12_spread 90 = .ok (.aload_n 0, 1)) rfl ?_
    refine pr_iload_n hC (by decide +kernel : decode cX12_spread 91 = .ok (.iload_n 2, 1)) rfl ?_
    refine vc_Vi hC hR [.int x2_17] fv_X12_371 (by decide +kernel : decode cX12_spread 92 = .ok (.invokevirtual 371, 3)) hU (t_X12_seatsOf ho H) ho (by decide) rfl rfl rfl (Nat.le_of_ble_eq_true rfl) (Nat.le_of_ble_eq_true rfl) (Nat.le_refl 0) (Nat.le_refl 0) (fun r_21 U_20 h H hU => ?_)
    refine pr_aload_n hC (by decide +kernel : decode cX12_spread 95 = .ok (.aload_n 0, 1)) rfl ?_
    refine pr_iload_n hC (by decide +kernel : decode cX12_spread 96 = .ok (.iload_n 3, 1)) rfl ?_
    refine vc_Vi hC hR [.int x3_18] fv_X12_371 (by decide +kernel : decode cX12_spread 97 = .ok (.invokevirtual 371, 3)) hU (t_X12_seatsOf ho H) ho (by decide) rfl rfl rfl (Nat.le_of_ble_eq_true rfl) (Nat.le_of_ble_eq_true rfl) (Nat.le_refl 0) (Nat.le_refl 0) (fun r_23 U_22 h H hU => ?_)
    refine pr_isub hC (by decide +kernel : decode cX12_spread 100 = .ok (.isub, 1)) ?_
    refine pr_goto hC 114 (by decide +kernel : decode cX12_spread 101 = .ok (.goto 13, 3)) (by decide) ?_
    exact pv_iret hM (by decide +kernel : decode cX12_spread 114 = .ok (.ireturn, 1)) hU H
  replace H := H.1 c_23
  refine pr_iconst hC (-1) (by decide +kernel : decode cX12_spread 26 = .ok (.iconst (-1), 1)) rfl ?_
  exact pv_iret hM (by decide +kernel : decode cX12_spread 27 = .ok (.ireturn, 1)) hU H
def w_X12_day (o : Nat) (U : Um) (post : Int32 → Um → Prop) : Prop :=
  ∀ (U_1 : Um), U_1 = sI U o 0 0 → ((uI U_1 o 35) = 7 → post (-1) U_1) ∧ (¬ (uI U_1 o 35) = 7 → w_X12_keeps o U_1 (fun U_2 => ∀ (U_4 : Um), U_4 = sI U_2 o 35 ((uI U_2 o 35) + 1) → post (uI U_4 o 35) U_4))
set_option maxHeartbeats 4000000 in
theorem t_X12_day {l : Launch} {Y : px_Y} {o : Nat} {U : Um} {post : Int32 → Um → Prop} (ho : oc o = 10) (H : w_X12_day o U post) : um l Y 1 yX12_day cX12_day 1 (some (.int)) [.ref (Y.2.1 o)] U (pq_i post) := by
  unfold w_X12_day at H
  refine um_of (by decide) (Nat.le_of_ble_eq_true rfl) [some (.ref (Y.2.1 o))] rfl (fun X h0 hh sz hM hU => ?_)
  have hC := hM.1
  have hR := hM.2.2.1
  refine pr_aload_n hC (by decide +kernel : decode cX12_day 0 = .ok (.aload_n 0, 1)) rfl ?_
  refine pr_iconst hC (0) (by decide +kernel : decode cX12_day 1 = .ok (.iconst 0, 1)) rfl ?_
  refine pv_p0 hC fp_X12_121 (by decide +kernel : decode cX12_day 2 = .ok (.putfield 121, 3)) hU ho (by decide) rfl rfl rfl rfl (fun U_1 h e_U_1 hU => ?_)
  replace H := H U_1 e_U_1
  refine pr_aload_n hC (by decide +kernel : decode cX12_day 5 = .ok (.aload_n 0, 1)) rfl ?_
  refine pu_g0 hC fg_X12_75 (by decide +kernel : decode cX12_day 6 = .ok (.getfield 75, 3)) hU ho (by decide) rfl rfl ?_
  refine pr_bipush hC (7) (by decide +kernel : decode cX12_day 9 = .ok (.bipush 7, 2)) rfl ?_
  refine pr_icmp_ne hC 16 (by decide +kernel : decode cX12_day 11 = .ok (.if_icmp .ne 5, 3)) (by decide) (fun c_11 => ?_) (fun c_11 => ?_)
  · replace H := H.2 c_11
    refine pr_aload_n hC (by decide +kernel : decode cX12_day 16 = .ok (.aload_n 0, 1)) rfl ?_
    refine vc_Vv hC hR [] fv_X12_430 (by decide +kernel : decode cX12_day 17 = .ok (.invokevirtual 430, 3)) hU (t_X12_keeps ho H) ho (by decide) rfl rfl rfl (Nat.le_of_ble_eq_true rfl) (Nat.le_of_ble_eq_true rfl) (Nat.le_refl 0) (Nat.le_refl 0) (fun U_2 h H hU => ?_)
    refine pr_aload_n hC (by decide +kernel : decode cX12_day 20 = .ok (.aload_n 0, 1)) rfl ?_
    refine pr_dup hC (by decide +kernel : decode cX12_day 21 = .ok (.dup, 1)) rfl ?_
    refine pu_g0 hC fg_X12_75 (by decide +kernel : decode cX12_day 22 = .ok (.getfield 75, 3)) hU ho (by decide) rfl rfl ?_
    refine pr_iconst hC (1) (by decide +kernel : decode cX12_day 25 = .ok (.iconst 1, 1)) rfl ?_
    refine pr_iadd hC (by decide +kernel : decode cX12_day 26 = .ok (.iadd, 1)) ?_
    refine pv_p0 hC fp_X12_75 (by decide +kernel : decode cX12_day 27 = .ok (.putfield 75, 3)) hU ho (by decide) rfl rfl rfl rfl (fun U_4 h e_U_4 hU => ?_)
    replace H := H U_4 e_U_4
    refine pr_aload_n hC (by decide +kernel : decode cX12_day 30 = .ok (.aload_n 0, 1)) rfl ?_
    refine pu_g0 hC fg_X12_75 (by decide +kernel : decode cX12_day 31 = .ok (.getfield 75, 3)) hU ho (by decide) rfl rfl ?_
    exact pv_iret hM (by decide +kernel : decode cX12_day 34 = .ok (.ireturn, 1)) hU H
  replace H := H.1 c_11
  refine pr_iconst hC (-1) (by decide +kernel : decode cX12_day 14 = .ok (.iconst (-1), 1)) rfl ?_
  exact pv_iret hM (by decide +kernel : decode cX12_day 15 = .ok (.ireturn, 1)) hU H
def w_X12_marks (o : Nat) (a1 : Int32) (a2 : Int32) (U : Um) (post : Um → Prop) : Prop :=
  vp_in a1 48 ∧ ∀ (x3_1 : Int32), x3_1 = uA U o 30 (Int32.toNatClampNeg a1) → vp_in a1 48 ∧ ∀ (U_2 : Um), U_2 = sA U o 31 (va_up (uA U o 31) (Int32.toNatClampNeg a1) a2) → vp_in x3_1 10 ∧ vf_n32 (FP.fmul (uF U_2 o 34 (Int32.toNatClampNeg x3_1)) 1061158912) ∧ ∀ (x4_3 : UInt32), x4_3 = FP.fmul (uF U_2 o 34 (Int32.toNatClampNeg x3_1)) 1061158912 → vf_n32 (FP.fmul (FP.i2f a2) 1048576000) ∧ ∀ (x5_4 : UInt32), x5_4 = FP.fmul (FP.i2f a2) 1048576000 → vf_n32 (FP.fadd x4_3 x5_4) ∧ vp_in x3_1 10 ∧ ∀ (U_5 : Um), U_5 = sF U_2 o 34 (va_up (uF U_2 o 34) (Int32.toNatClampNeg x3_1) (FP.fadd x4_3 x5_4)) → vp_in x3_1 10 ∧ vp_in x3_1 10 ∧ ∀ (U_6 : Um), U_6 = sA U_5 o 33 (va_up (uA U_5 o 33) (Int32.toNatClampNeg x3_1) ((uA U_5 o 33 (Int32.toNatClampNeg x3_1)) + 1)) → post U_6
set_option maxHeartbeats 4000000 in
theorem t_X12_marks {l : Launch} {Y : px_Y} {o : Nat} {a1 : Int32} {a2 : Int32} {U : Um} {post : Um → Prop} (ho : oc o = 10) (H : w_X12_marks o a1 a2 U post) : um l Y 0 yX12_marks cX12_marks 6 none [.ref (Y.2.1 o), .int a1, .int a2] U (pq_v post) := by
  unfold w_X12_marks at H
  refine um_of (by decide) (Nat.le_of_ble_eq_true rfl) [some (.ref (Y.2.1 o)), some (.int a1), some (.int a2), none, none, none] rfl (fun X h0 hh sz hM hU => ?_)
  have hC := hM.1
  have hR := hM.2.2.1
  refine pr_aload_n hC (by decide +kernel : decode cX12_marks 0 = .ok (.aload_n 0, 1)) rfl ?_
  refine pu_g1 hC fg_X12_59 (by decide +kernel : decode cX12_marks 1 = .ok (.getfield 59, 3)) hU ho (by decide) rfl (by decide) ?_
  refine pr_iload_n hC (by decide +kernel : decode cX12_marks 4 = .ok (.iload_n 1, 1)) rfl ?_
  refine pu_iald hC (by decide +kernel : decode cX12_marks 5 = .ok (.iaload, 1)) hU ho rfl H.1 ?_
  replace H := H.2
  refine pv_topi (fun x3_1 e_x3_1 => ?_)
  replace H := H x3_1 e_x3_1
  refine pr_istore_n hC (by decide +kernel : decode cX12_marks 6 = .ok (.istore_n 3, 1)) (by decide) rfl ?_
  refine pr_aload_n hC (by decide +kernel : decode cX12_marks 7 = .ok (.aload_n 0, 1)) rfl ?_
  refine pu_g1 hC fg_X12_62 (by decide +kernel : decode cX12_marks 8 = .ok (.getfield 62, 3)) hU ho (by decide) rfl (by decide) ?_
  refine pr_iload_n hC (by decide +kernel : decode cX12_marks 11 = .ok (.iload_n 1, 1)) rfl ?_
  refine pr_iload_n hC (by decide +kernel : decode cX12_marks 12 = .ok (.iload_n 2, 1)) rfl ?_
  refine pv_iast hC (by decide +kernel : decode cX12_marks 13 = .ok (.iastore, 1)) hU ho rfl H.1 (fun U_2 h e_U_2 hU => ?_)
  replace H := H.2 U_2 e_U_2
  refine pr_aload_n hC (by decide +kernel : decode cX12_marks 14 = .ok (.aload_n 0, 1)) rfl ?_
  refine pu_g1 hC fg_X12_71 (by decide +kernel : decode cX12_marks 15 = .ok (.getfield 71, 3)) hU ho (by decide) rfl (by decide) ?_
  refine pr_iload_n hC (by decide +kernel : decode cX12_marks 18 = .ok (.iload_n 3, 1)) rfl ?_
  refine pu_fald hC (by decide +kernel : decode cX12_marks 19 = .ok (.faload, 1)) hU ho rfl H.1 ?_
  replace H := H.2
  refine pr_ldcwf hC (1061158912) (by decide +kernel : decode cX12_marks 20 = .ok (.ldc_w 510, 3)) fk_X12_510 ?_
  refine pr_fmul hC (by decide +kernel : decode cX12_marks 23 = .ok (.fmul, 1)) H.1 ?_
  replace H := H.2
  refine pv_topf (fun x4_3 e_x4_3 => ?_)
  replace H := H x4_3 e_x4_3
  refine pr_fstore hC (by decide +kernel : decode cX12_marks 24 = .ok (.fstore 4, 2)) (by decide) rfl ?_
  refine pr_iload_n hC (by decide +kernel : decode cX12_marks 26 = .ok (.iload_n 2, 1)) rfl ?_
  refine pr_i2f hC (by decide +kernel : decode cX12_marks 27 = .ok (.i2f, 1)) ?_
  refine pr_ldcwf hC (1048576000) (by decide +kernel : decode cX12_marks 28 = .ok (.ldc_w 511, 3)) fk_X12_511 ?_
  refine pr_fmul hC (by decide +kernel : decode cX12_marks 31 = .ok (.fmul, 1)) H.1 ?_
  replace H := H.2
  refine pv_topf (fun x5_4 e_x5_4 => ?_)
  replace H := H x5_4 e_x5_4
  refine pr_fstore hC (by decide +kernel : decode cX12_marks 32 = .ok (.fstore 5, 2)) (by decide) rfl ?_
  refine pr_aload_n hC (by decide +kernel : decode cX12_marks 34 = .ok (.aload_n 0, 1)) rfl ?_
  refine pu_g1 hC fg_X12_71 (by decide +kernel : decode cX12_marks 35 = .ok (.getfield 71, 3)) hU ho (by decide) rfl (by decide) ?_
  refine pr_iload_n hC (by decide +kernel : decode cX12_marks 38 = .ok (.iload_n 3, 1)) rfl ?_
  refine pr_fload hC (by decide +kernel : decode cX12_marks 39 = .ok (.fload 4, 2)) rfl ?_
  refine pr_fload hC (by decide +kernel : decode cX12_marks 41 = .ok (.fload 5, 2)) rfl ?_
  refine pr_fadd hC (by decide +kernel : decode cX12_marks 43 = .ok (.fadd, 1)) H.1 ?_
  replace H := H.2
  refine pv_fast hC (by decide +kernel : decode cX12_marks 44 = .ok (.fastore, 1)) hU ho rfl H.1 (fun U_5 h e_U_5 hU => ?_)
  replace H := H.2 U_5 e_U_5
  refine pr_aload_n hC (by decide +kernel : decode cX12_marks 45 = .ok (.aload_n 0, 1)) rfl ?_
  refine pu_g1 hC fg_X12_68 (by decide +kernel : decode cX12_marks 46 = .ok (.getfield 68, 3)) hU ho (by decide) rfl (by decide) ?_
  refine pr_iload_n hC (by decide +kernel : decode cX12_marks 49 = .ok (.iload_n 3, 1)) rfl ?_
  refine pr_dup2 hC (by decide +kernel : decode cX12_marks 50 = .ok (.dup2, 1)) rfl rfl ?_
  refine pu_iald hC (by decide +kernel : decode cX12_marks 51 = .ok (.iaload, 1)) hU ho rfl H.1 ?_
  replace H := H.2
  refine pr_iconst hC (1) (by decide +kernel : decode cX12_marks 52 = .ok (.iconst 1, 1)) rfl ?_
  refine pr_iadd hC (by decide +kernel : decode cX12_marks 53 = .ok (.iadd, 1)) ?_
  refine pv_iast hC (by decide +kernel : decode cX12_marks 54 = .ok (.iastore, 1)) hU ho rfl H.1 (fun U_6 h e_U_6 hU => ?_)
  replace H := H.2 U_6 e_U_6
  exact pv_vret hM (by decide +kernel : decode cX12_marks 55 = .ok (.return_, 1)) hU H
def b_X12_play_L37 (o0 : Nat) (post : Int32 → Um → Prop) (k_123 : Int32 → Um → Prop) (rec_ : Int32 → Int32 → Int32 → Um → Prop) (x2 : Int32) (x3 : Int32) (x4 : Int32) (U : Um) : Prop :=
  ((48 : Int32) ≤ x4 → k_123 x3 U) ∧ (¬ (48 : Int32) ≤ x4 → w_X12_isSeat o0 (x4 / 3) (x4 - x4 / 3 * 3) U (fun r_7 U_6 => (r_7 = 0 → ∀ (x4_8 : Int32), x4_8 = x4 + 1 → rec_ x2 x3 x4_8 U_6) ∧ (¬ r_7 = 0 → vp_in x4 48 ∧ ((uA U_6 o0 30 (Int32.toNatClampNeg x4)) = (-1) → ∀ (x4_9 : Int32), x4_9 = x4 + 1 → rec_ x2 x3 x4_9 U_6) ∧ (¬ (uA U_6 o0 30 (Int32.toNatClampNeg x4)) = (-1) → w_X12_of o0 (x4 / 3) 3 U_6 (fun r_11 U_10 => (r_11 = ((uI U_10 o0 35) - 1) → ∀ (x2_12 : Int32), x2_12 = (x2 * 1103515245) + 12345 → w_X12_marks o0 x4 (((x2_12.toUInt32 >>> ((Int32.toUInt32 16) &&& Int32.toUInt32 31)).toInt32) - ((x2_12.toUInt32 >>> ((Int32.toUInt32 16) &&& Int32.toUInt32 31)).toInt32) / 101 * 101) U_10 (fun U_13 => ∀ (x3_15 : Int32), x3_15 = x3 + 1 → ∀ (x4_16 : Int32), x4_16 = x4 + 1 → rec_ x2_12 x3_15 x4_16 U_13)) ∧ (¬ r_11 = ((uI U_10 o0 35) - 1) → ∀ (x4_17 : Int32), x4_17 = x4 + 1 → rec_ x2 x3 x4_17 U_10))))))
def w_X12_play_L37 (o0 : Nat) (post : Int32 → Um → Prop) (k_123 : Int32 → Um → Prop) (n_ : Nat) : Int32 → Int32 → Int32 → Um → Prop := Nat.rec (motive := fun _ => Int32 → Int32 → Int32 → Um → Prop) (fun _ _ _ _ => False) (fun _ ih => b_X12_play_L37 o0 post k_123 ih) n_
def w_X12_play (o : Nat) (a1 : Int32) (U : Um) (post : Int32 → Um → Prop) : Prop :=
  ∀ (U_1 : Um), U_1 = sI U o 0 0 → ((uI U_1 o 35) = 7 → post (-1) U_1) ∧ (¬ (uI U_1 o 35) = 7 → w_X12_keeps o U_1 (fun U_2 => ∀ (U_4 : Um), U_4 = sI U_2 o 35 ((uI U_2 o 35) + 1) → ∀ (x2_5 : Int32), x2_5 = a1 → (∃ n_20, w_X12_play_L37 o post (fun x3_18 U_19 => post x3_18 U_19) n_20 x2_5 0 0 U_4)))
set_option maxHeartbeats 4000000 in
theorem tl_X12_play_L37 {l : Launch} {Y : px_Y} {X : px_X} {h0 hh : pe_H} {sz : Nat} (o0 : Nat) (post : Int32 → Um → Prop) (k_123 : Int32 → Um → Prop) (ho0 : oc o0 = 10)  (hC : px_C X Y.1 (pm_A hh sz) cX12_play RX12 5) (hM : px_M l X Y.1 hh sz yX12_play cX12_play 5 (some (.int)) 3 0 0) (hR : X.2.2.2.1 = pm_rm 3 0 0) (hk_123 : ∀ (y3 : Int32) (U : Um) (h : pe_H), k_123 y3 U → rF Y h0 U h → pw X Y.1 (pm_A hh sz) (pm_E X Y.1 hh sz 0 0 (pm_P Y h0 sz (pq_i post))) 123 [none, none, none, some (.int y3), none] [] h sz 0 0) : ∀ (n_ : Nat) (x2 : Int32) (x3 : Int32) (x4 : Int32) (U : Um) (h : pe_H), rF Y h0 U h → w_X12_play_L37 o0 post k_123 n_ x2 x3 x4 U → pw X Y.1 (pm_A hh sz) (pm_E X Y.1 hh sz 0 0 (pm_P Y h0 sz (pq_i post))) 37 [some (.ref (Y.2.1 o0)), none, some (.int x2), some (.int x3), some (.int x4)] [] h sz 0 0 := by
  intro n_
  induction n_ with
  | zero => intro x2 x3 x4 U h hU H; exact False.elim H
  | succ n_ ih =>
    intro x2 x3 x4 U h hU H
    replace H : b_X12_play_L37 o0 post k_123 (w_X12_play_L37 o0 post k_123 n_) x2 x3 x4 U := H
    unfold b_X12_play_L37 at H
    refine pr_iload hC (by decide +kernel : decode cX12_play 37 = .ok (.iload 4, 2)) rfl ?_
    refine pr_bipush hC (48) (by decide +kernel : decode cX12_play 39 = .ok (.bipush 48, 2)) rfl ?_
    refine pr_icmp_ge hC 123 (by decide +kernel : decode cX12_play 41 = .ok (.if_icmp .ge 82, 3)) (by decide) (fun c_41 => ?_) (fun c_41 => ?_)
    · replace H := H.1 c_41
      exact pv_sub [none, none, none, some (.int x3), none] (And.intro rfl trivial) (hk_123 _ U h H hU)
    replace H := H.2 c_41
    refine pr_aload_n hC (by decide +kernel : decode cX12_play 44 = .ok (.aload_n 0, 1)) rfl ?_
    refine pr_iload hC (by decide +kernel : decode cX12_play 45 = .ok (.iload 4, 2)) rfl ?_
    refine pr_iconst hC (3) (by decide +kernel : decode cX12_play 47 = .ok (.iconst 3, 1)) rfl ?_
    refine pr_idiv hC (by decide +kernel : decode cX12_play 48 = .ok (.idiv, 1)) (by decide) ?_
    refine pr_iload hC (by decide +kernel : decode cX12_play 49 = .ok (.iload 4, 2)) rfl ?_
    refine pr_iconst hC (3) (by decide +kernel : decode cX12_play 51 = .ok (.iconst 3, 1)) rfl ?_
    refine pr_irem hC (by decide +kernel : decode cX12_play 52 = .ok (.irem, 1)) (by decide) ?_
    refine vc_Vi hC hR [.int (x4 / 3), .int (x4 - x4 / 3 * 3)] fv_X12_388 (by decide +kernel : decode cX12_play 53 = .ok (.invokevirtual 388, 3)) hU (t_X12_isSeat ho0 H) ho0 (by decide) rfl rfl rfl (Nat.le_of_ble_eq_true rfl) (Nat.le_of_ble_eq_true rfl) (Nat.le_refl 0) (Nat.le_refl 0) (fun r_7 U_6 h H hU => ?_)
    refine pr_if_eq hC 117 (by decide +kernel : decode cX12_play 56 = .ok (.ifCond .eq 61, 3)) (by decide) (fun c_56 => ?_) (fun c_56 => ?_)
    · replace H := H.1 c_56
      refine pv_iinc hC (v := x4 + 1) (by decide +kernel : decode cX12_play 117 = .ok (.iinc 4 1, 3)) rfl (by decide) rfl rfl (fun x4_8 e_x4_8 => ?_)
      replace H := H x4_8 e_x4_8
      refine pr_goto hC 37 (by decide +kernel : decode cX12_play 120 = .ok (.goto (-83), 3)) (by decide) ?_
      exact pv_sub [some (.ref (Y.2.1 o0)), none, some (.int x2), some (.int x3), some (.int x4_8)] (And.intro rfl (And.intro rfl (And.intro rfl (And.intro rfl trivial)))) (ih _ _ _ U_6 h hU H)
    replace H := H.2 c_56
    refine pr_aload_n hC (by decide +kernel : decode cX12_play 59 = .ok (.aload_n 0, 1)) rfl ?_
    refine pu_g1 hC fg_X12_59 (by decide +kernel : decode cX12_play 60 = .ok (.getfield 59, 3)) hU ho0 (by decide) rfl (by decide) ?_
    refine pr_iload hC (by decide +kernel : decode cX12_play 63 = .ok (.iload 4, 2)) rfl ?_
    refine pu_iald hC (by decide +kernel : decode cX12_play 65 = .ok (.iaload, 1)) hU ho0 rfl H.1 ?_
    replace H := H.2
    refine pr_iconst hC (-1) (by decide +kernel : decode cX12_play 66 = .ok (.iconst (-1), 1)) rfl ?_
    refine pr_icmp_eq hC 117 (by decide +kernel : decode cX12_play 67 = .ok (.if_icmp .eq 50, 3)) (by decide) (fun c_67 => ?_) (fun c_67 => ?_)
    · replace H := H.1 c_67
      refine pv_iinc hC (v := x4 + 1) (by decide +kernel : decode cX12_play 117 = .ok (.iinc 4 1, 3)) rfl (by decide) rfl rfl (fun x4_9 e_x4_9 => ?_)
      replace H := H x4_9 e_x4_9
      refine pr_goto hC 37 (by decide +kernel : decode cX12_play 120 = .ok (.goto (-83), 3)) (by decide) ?_
      exact pv_sub [some (.ref (Y.2.1 o0)), none, some (.int x2), some (.int x3), some (.int x4_9)] (And.intro rfl (And.intro rfl (And.intro rfl (And.intro rfl trivial)))) (ih _ _ _ U_6 h hU H)
    replace H := H.2 c_67
    refine pr_aload_n hC (by decide +kernel : decode cX12_play 70 = .ok (.aload_n 0, 1)) rfl ?_
    refine pr_iload hC (by decide +kernel : decode cX12_play 71 = .ok (.iload 4, 2)) rfl ?_
    refine pr_iconst hC (3) (by decide +kernel : decode cX12_play 73 = .ok (.iconst 3, 1)) rfl ?_
    refine pr_idiv hC (by decide +kernel : decode cX12_play 74 = .ok (.idiv, 1)) (by decide) ?_
    refine pr_iconst hC (3) (by decide +kernel : decode cX12_play 75 = .ok (.iconst 3, 1)) rfl ?_
    refine vc_Vi hC hR [.int (x4 / 3), .int 3] fv_X12_353 (by decide +kernel : decode cX12_play 76 = .ok (.invokevirtual 353, 3)) hU (t_X12_of ho0 H) ho0 (by decide) rfl rfl rfl (Nat.le_of_ble_eq_true rfl) (Nat.le_of_ble_eq_true rfl) (Nat.le_refl 0) (Nat.le_refl 0) (fun r_11 U_10 h H hU => ?_)
    refine pr_aload_n hC (by decide +kernel : decode cX12_play 79 = .ok (.aload_n 0, 1)) rfl ?_
    refine pu_g0 hC fg_X12_75 (by decide +kernel : decode cX12_play 80 = .ok (.getfield 75, 3)) hU ho0 (by decide) rfl rfl ?_
    refine pr_iconst hC (1) (by decide +kernel : decode cX12_play 83 = .ok (.iconst 1, 1)) rfl ?_
    refine pr_isub hC (by decide +kernel : decode cX12_play 84 = .ok (.isub, 1)) ?_
    refine pr_icmp_eq hC 91 (by decide +kernel : decode cX12_play 85 = .ok (.if_icmp .eq 6, 3)) (by decide) (fun c_85 => ?_) (fun c_85 => ?_)
    · replace H := H.1 c_85
      refine pr_iload_n hC (by decide +kernel : decode cX12_play 91 = .ok (.iload_n 2, 1)) rfl ?_
      refine pr_ldcw hC (1103515245) (by decide +kernel : decode cX12_play 92 = .ok (.ldc_w 512, 3)) fk_X12_512 ?_
      refine pr_imul hC (by decide +kernel : decode cX12_play 95 = .ok (.imul, 1)) ?_
      refine pr_sipush hC (12345) (by decide +kernel : decode cX12_play 96 = .ok (.sipush 12345, 3)) rfl ?_
      refine pr_iadd hC (by decide +kernel : decode cX12_play 99 = .ok (.iadd, 1)) ?_
      refine pv_topi (fun x2_12 e_x2_12 => ?_)
      replace H := H x2_12 e_x2_12
      refine pr_istore_n hC (by decide +kernel : decode cX12_play 100 = .ok (.istore_n 2, 1)) (by decide) rfl ?_
      refine pr_aload_n hC (by decide +kernel : decode cX12_play 101 = .ok (.aload_n 0, 1)) rfl ?_
      refine pr_iload hC (by decide +kernel : decode cX12_play 102 = .ok (.iload 4, 2)) rfl ?_
      refine pr_iload_n hC (by decide +kernel : decode cX12_play 104 = .ok (.iload_n 2, 1)) rfl ?_
      refine pr_bipush hC (16) (by decide +kernel : decode cX12_play 105 = .ok (.bipush 16, 2)) rfl ?_
      refine pr_iushr hC (by decide +kernel : decode cX12_play 107 = .ok (.iushr, 1)) ?_
      refine pr_bipush hC (101) (by decide +kernel : decode cX12_play 108 = .ok (.bipush 101, 2)) rfl ?_
      refine pr_irem hC (by decide +kernel : decode cX12_play 110 = .ok (.irem, 1)) (by decide) ?_
      refine vc_Vv hC hR [.int x4, .int (((x2_12.toUInt32 >>> ((Int32.toUInt32 16) &&& Int32.toUInt32 31)).toInt32) - ((x2_12.toUInt32 >>> ((Int32.toUInt32 16) &&& Int32.toUInt32 31)).toInt32) / 101 * 101)] fv_X12_513 (by decide +kernel : decode cX12_play 111 = .ok (.invokevirtual 513, 3)) hU (t_X12_marks ho0 H) ho0 (by decide) rfl rfl rfl (Nat.le_of_ble_eq_true rfl) (Nat.le_of_ble_eq_true rfl) (Nat.le_refl 0) (Nat.le_refl 0) (fun U_13 h H hU => ?_)
      refine pv_iinc hC (v := x3 + 1) (by decide +kernel : decode cX12_play 114 = .ok (.iinc 3 1, 3)) rfl (by decide) rfl rfl (fun x3_15 e_x3_15 => ?_)
      replace H := H x3_15 e_x3_15
      refine pv_iinc hC (v := x4 + 1) (by decide +kernel : decode cX12_play 117 = .ok (.iinc 4 1, 3)) rfl (by decide) rfl rfl (fun x4_16 e_x4_16 => ?_)
      replace H := H x4_16 e_x4_16
      refine pr_goto hC 37 (by decide +kernel : decode cX12_play 120 = .ok (.goto (-83), 3)) (by decide) ?_
      exact pv_sub [some (.ref (Y.2.1 o0)), none, some (.int x2_12), some (.int x3_15), some (.int x4_16)] (And.intro rfl (And.intro rfl (And.intro rfl (And.intro rfl trivial)))) (ih _ _ _ U_13 h hU H)
    replace H := H.2 c_85
    refine pr_goto hC 117 (by decide +kernel : decode cX12_play 88 = .ok (.goto 29, 3)) (by decide) ?_
    refine pv_iinc hC (v := x4 + 1) (by decide +kernel : decode cX12_play 117 = .ok (.iinc 4 1, 3)) rfl (by decide) rfl rfl (fun x4_17 e_x4_17 => ?_)
    replace H := H x4_17 e_x4_17
    refine pr_goto hC 37 (by decide +kernel : decode cX12_play 120 = .ok (.goto (-83), 3)) (by decide) ?_
    exact pv_sub [some (.ref (Y.2.1 o0)), none, some (.int x2), some (.int x3), some (.int x4_17)] (And.intro rfl (And.intro rfl (And.intro rfl (And.intro rfl trivial)))) (ih _ _ _ U_10 h hU H)
set_option maxHeartbeats 4000000 in
theorem t_X12_play {l : Launch} {Y : px_Y} {o : Nat} {a1 : Int32} {U : Um} {post : Int32 → Um → Prop} (ho : oc o = 10) (H : w_X12_play o a1 U post) : um l Y 3 yX12_play cX12_play 5 (some (.int)) [.ref (Y.2.1 o), .int a1] U (pq_i post) := by
  unfold w_X12_play at H
  refine um_of (by decide) (Nat.le_of_ble_eq_true rfl) [some (.ref (Y.2.1 o)), some (.int a1), none, none, none] rfl (fun X h0 hh sz hM hU => ?_)
  have hC := hM.1
  have hR := hM.2.2.1
  refine pr_aload_n hC (by decide +kernel : decode cX12_play 0 = .ok (.aload_n 0, 1)) rfl ?_
  refine pr_iconst hC (0) (by decide +kernel : decode cX12_play 1 = .ok (.iconst 0, 1)) rfl ?_
  refine pv_p0 hC fp_X12_121 (by decide +kernel : decode cX12_play 2 = .ok (.putfield 121, 3)) hU ho (by decide) rfl rfl rfl rfl (fun U_1 h e_U_1 hU => ?_)
  replace H := H U_1 e_U_1
  refine pr_aload_n hC (by decide +kernel : decode cX12_play 5 = .ok (.aload_n 0, 1)) rfl ?_
  refine pu_g0 hC fg_X12_75 (by decide +kernel : decode cX12_play 6 = .ok (.getfield 75, 3)) hU ho (by decide) rfl rfl ?_
  refine pr_bipush hC (7) (by decide +kernel : decode cX12_play 9 = .ok (.bipush 7, 2)) rfl ?_
  refine pr_icmp_ne hC 16 (by decide +kernel : decode cX12_play 11 = .ok (.if_icmp .ne 5, 3)) (by decide) (fun c_11 => ?_) (fun c_11 => ?_)
  · replace H := H.2 c_11
    refine pr_aload_n hC (by decide +kernel : decode cX12_play 16 = .ok (.aload_n 0, 1)) rfl ?_
    refine vc_Vv hC hR [] fv_X12_430 (by decide +kernel : decode cX12_play 17 = .ok (.invokevirtual 430, 3)) hU (t_X12_keeps ho H) ho (by decide) rfl rfl rfl (Nat.le_of_ble_eq_true rfl) (Nat.le_of_ble_eq_true rfl) (Nat.le_refl 0) (Nat.le_refl 0) (fun U_2 h H hU => ?_)
    refine pr_aload_n hC (by decide +kernel : decode cX12_play 20 = .ok (.aload_n 0, 1)) rfl ?_
    refine pr_dup hC (by decide +kernel : decode cX12_play 21 = .ok (.dup, 1)) rfl ?_
    refine pu_g0 hC fg_X12_75 (by decide +kernel : decode cX12_play 22 = .ok (.getfield 75, 3)) hU ho (by decide) rfl rfl ?_
    refine pr_iconst hC (1) (by decide +kernel : decode cX12_play 25 = .ok (.iconst 1, 1)) rfl ?_
    refine pr_iadd hC (by decide +kernel : decode cX12_play 26 = .ok (.iadd, 1)) ?_
    refine pv_p0 hC fp_X12_75 (by decide +kernel : decode cX12_play 27 = .ok (.putfield 75, 3)) hU ho (by decide) rfl rfl rfl rfl (fun U_4 h e_U_4 hU => ?_)
    replace H := H U_4 e_U_4
    refine pr_iload_n hC (by decide +kernel : decode cX12_play 30 = .ok (.iload_n 1, 1)) rfl ?_
    refine pv_topi (fun x2_5 e_x2_5 => ?_)
    replace H := H x2_5 e_x2_5
    refine pr_istore_n hC (by decide +kernel : decode cX12_play 31 = .ok (.istore_n 2, 1)) (by decide) rfl ?_
    refine pr_iconst hC (0) (by decide +kernel : decode cX12_play 32 = .ok (.iconst 0, 1)) rfl ?_
    refine pr_istore_n hC (by decide +kernel : decode cX12_play 33 = .ok (.istore_n 3, 1)) (by decide) rfl ?_
    refine pr_iconst hC (0) (by decide +kernel : decode cX12_play 34 = .ok (.iconst 0, 1)) rfl ?_
    refine pr_istore hC (by decide +kernel : decode cX12_play 35 = .ok (.istore 4, 2)) (by decide) rfl ?_
    obtain ⟨n_20, H⟩ := H
    refine pv_sub [some (.ref (Y.2.1 o)), none, some (.int x2_5), some (.int 0), some (.int 0)] (And.intro rfl (And.intro rfl (And.intro rfl (And.intro rfl trivial)))) ?_
    refine tl_X12_play_L37 _ _ _ ho hC hM hR (fun x3_18 U_19 h H hU => ?_) n_20 _ _ _ U_4 h hU H
    refine pr_iload_n hC (by decide +kernel : decode cX12_play 123 = .ok (.iload_n 3, 1)) rfl ?_
    exact pv_iret hM (by decide +kernel : decode cX12_play 124 = .ok (.ireturn, 1)) hU H
  replace H := H.1 c_11
  refine pr_iconst hC (-1) (by decide +kernel : decode cX12_play 14 = .ok (.iconst (-1), 1)) rfl ?_
  exact pv_iret hM (by decide +kernel : decode cX12_play 15 = .ok (.ireturn, 1)) hU H
def w_X12_mark (o : Nat) (a1 : Int32) (a2 : Int32) (a3 : Int32) (U : Um) (post : Int32 → Um → Prop) : Prop :=
  ∀ (U_1 : Um), U_1 = sI U o 0 0 → w_X12_isSeat o a1 a2 U_1 (fun r_3 U_2 => (r_3 = 0 → post (-1) U_2) ∧ (¬ r_3 = 0 → w_X12_at a1 a2 U_2 (fun r_5 U_4 => vp_in r_5 48 ∧ ((uA U_4 o 30 (Int32.toNatClampNeg r_5)) = (-1) → post (-1) U_4) ∧ (¬ (uA U_4 o 30 (Int32.toNatClampNeg r_5)) = (-1) → w_X12_isPlayed o a1 U_4 (fun r_7 U_6 => (r_7 = 0 → post (-1) U_6) ∧ (¬ r_7 = 0 → w_X12_at a1 a2 U_6 (fun r_9 U_8 => vp_in r_9 48 ∧ ((uA U_8 o 31 (Int32.toNatClampNeg r_9)) = (-1) → w_X12_isIn (Int32.toInt64 a3) 0 100 U_8 (fun r_11 U_10 => (r_11 = 0 → post (-1) U_10) ∧ (¬ r_11 = 0 → w_X12_keeps o U_10 (fun U_12 => w_X12_at a1 a2 U_12 (fun r_15 U_14 => w_X12_marks o r_15 a3 U_14 (fun U_16 => w_X12_at a1 a2 U_16 (fun r_19 U_18 => vp_in r_19 48 ∧ vp_in (uA U_18 o 30 (Int32.toNatClampNeg r_19)) 10 ∧ post (FP.f2i (uF U_18 o 34 (Int32.toNatClampNeg (uA U_18 o 30 (Int32.toNatClampNeg r_19))))) U_18))))))) ∧ (¬ (uA U_8 o 31 (Int32.toNatClampNeg r_9)) = (-1) → post (-1) U_8))))))))
set_option maxHeartbeats 4000000 in
theorem t_X12_mark {l : Launch} {Y : px_Y} {o : Nat} {a1 : Int32} {a2 : Int32} {a3 : Int32} {U : Um} {post : Int32 → Um → Prop} (ho : oc o = 10) (H : w_X12_mark o a1 a2 a3 U post) : um l Y 3 yX12_mark cX12_mark 4 (some (.int)) [.ref (Y.2.1 o), .int a1, .int a2, .int a3] U (pq_i post) := by
  unfold w_X12_mark at H
  refine um_of (by decide) (Nat.le_of_ble_eq_true rfl) [some (.ref (Y.2.1 o)), some (.int a1), some (.int a2), some (.int a3)] rfl (fun X h0 hh sz hM hU => ?_)
  have hC := hM.1
  have hR := hM.2.2.1
  refine pr_aload_n hC (by decide +kernel : decode cX12_mark 0 = .ok (.aload_n 0, 1)) rfl ?_
  refine pr_iconst hC (0) (by decide +kernel : decode cX12_mark 1 = .ok (.iconst 0, 1)) rfl ?_
  refine pv_p0 hC fp_X12_121 (by decide +kernel : decode cX12_mark 2 = .ok (.putfield 121, 3)) hU ho (by decide) rfl rfl rfl rfl (fun U_1 h e_U_1 hU => ?_)
  replace H := H U_1 e_U_1
  refine pr_aload_n hC (by decide +kernel : decode cX12_mark 5 = .ok (.aload_n 0, 1)) rfl ?_
  refine pr_iload_n hC (by decide +kernel : decode cX12_mark 6 = .ok (.iload_n 1, 1)) rfl ?_
  refine pr_iload_n hC (by decide +kernel : decode cX12_mark 7 = .ok (.iload_n 2, 1)) rfl ?_
  refine vc_Vi hC hR [.int a1, .int a2] fv_X12_388 (by decide +kernel : decode cX12_mark 8 = .ok (.invokevirtual 388, 3)) hU (t_X12_isSeat ho H) ho (by decide) rfl rfl rfl (Nat.le_of_ble_eq_true rfl) (Nat.le_of_ble_eq_true rfl) (Nat.le_refl 0) (Nat.le_refl 0) (fun r_3 U_2 h H hU => ?_)
  refine pr_if_eq hC 62 (by decide +kernel : decode cX12_mark 11 = .ok (.ifCond .eq 51, 3)) (by decide) (fun c_11 => ?_) (fun c_11 => ?_)
  · replace H := H.1 c_11
    refine pr_iconst hC (-1) (by decide +kernel : decode cX12_mark 62 = .ok (.iconst (-1), 1)) rfl ?_
    exact pv_iret hM (by decide +kernel : decode cX12_mark 63 = .ok (.ireturn, 1)) hU H
  replace H := H.2 c_11
  refine pr_aload_n hC (by decide +kernel : decode cX12_mark 14 = .ok (.aload_n 0, 1)) rfl ?_
  refine pu_g1 hC fg_X12_59 (by decide +kernel : decode cX12_mark 15 = .ok (.getfield 59, 3)) hU ho (by decide) rfl (by decide) ?_
  refine pr_iload_n hC (by decide +kernel : decode cX12_mark 18 = .ok (.iload_n 1, 1)) rfl ?_
  refine pr_iload_n hC (by decide +kernel : decode cX12_mark 19 = .ok (.iload_n 2, 1)) rfl ?_
  refine vc_Si hC hR [.int a1, .int a2] fv_X12_360 (by decide +kernel : decode cX12_mark 20 = .ok (.invokestatic 360, 3)) hU (t_X12_at  H) rfl rfl (Nat.le_of_ble_eq_true rfl) (Nat.le_of_ble_eq_true rfl) (Nat.le_refl 0) (Nat.le_refl 0) (fun r_5 U_4 h H hU => ?_)
  refine pu_iald hC (by decide +kernel : decode cX12_mark 23 = .ok (.iaload, 1)) hU ho rfl H.1 ?_
  replace H := H.2
  refine pr_iconst hC (-1) (by decide +kernel : decode cX12_mark 24 = .ok (.iconst (-1), 1)) rfl ?_
  refine pr_icmp_eq hC 62 (by decide +kernel : decode cX12_mark 25 = .ok (.if_icmp .eq 37, 3)) (by decide) (fun c_25 => ?_) (fun c_25 => ?_)
  · replace H := H.1 c_25
    refine pr_iconst hC (-1) (by decide +kernel : decode cX12_mark 62 = .ok (.iconst (-1), 1)) rfl ?_
    exact pv_iret hM (by decide +kernel : decode cX12_mark 63 = .ok (.ireturn, 1)) hU H
  replace H := H.2 c_25
  refine pr_aload_n hC (by decide +kernel : decode cX12_mark 28 = .ok (.aload_n 0, 1)) rfl ?_
  refine pr_iload_n hC (by decide +kernel : decode cX12_mark 29 = .ok (.iload_n 1, 1)) rfl ?_
  refine vc_Vi hC hR [.int a1] fv_X12_382 (by decide +kernel : decode cX12_mark 30 = .ok (.invokevirtual 382, 3)) hU (t_X12_isPlayed ho H) ho (by decide) rfl rfl rfl (Nat.le_of_ble_eq_true rfl) (Nat.le_of_ble_eq_true rfl) (Nat.le_refl 0) (Nat.le_refl 0) (fun r_7 U_6 h H hU => ?_)
  refine pr_if_eq hC 62 (by decide +kernel : decode cX12_mark 33 = .ok (.ifCond .eq 29, 3)) (by decide) (fun c_33 => ?_) (fun c_33 => ?_)
  · replace H := H.1 c_33
    refine pr_iconst hC (-1) (by decide +kernel : decode cX12_mark 62 = .ok (.iconst (-1), 1)) rfl ?_
    exact pv_iret hM (by decide +kernel : decode cX12_mark 63 = .ok (.ireturn, 1)) hU H
  replace H := H.2 c_33
  refine pr_aload_n hC (by decide +kernel : decode cX12_mark 36 = .ok (.aload_n 0, 1)) rfl ?_
  refine pu_g1 hC fg_X12_62 (by decide +kernel : decode cX12_mark 37 = .ok (.getfield 62, 3)) hU ho (by decide) rfl (by decide) ?_
  refine pr_iload_n hC (by decide +kernel : decode cX12_mark 40 = .ok (.iload_n 1, 1)) rfl ?_
  refine pr_iload_n hC (by decide +kernel : decode cX12_mark 41 = .ok (.iload_n 2, 1)) rfl ?_
  refine vc_Si hC hR [.int a1, .int a2] fv_X12_360 (by decide +kernel : decode cX12_mark 42 = .ok (.invokestatic 360, 3)) hU (t_X12_at  H) rfl rfl (Nat.le_of_ble_eq_true rfl) (Nat.le_of_ble_eq_true rfl) (Nat.le_refl 0) (Nat.le_refl 0) (fun r_9 U_8 h H hU => ?_)
  refine pu_iald hC (by decide +kernel : decode cX12_mark 45 = .ok (.iaload, 1)) hU ho rfl H.1 ?_
  replace H := H.2
  refine pr_iconst hC (-1) (by decide +kernel : decode cX12_mark 46 = .ok (.iconst (-1), 1)) rfl ?_
  refine pr_icmp_ne hC 62 (by decide +kernel : decode cX12_mark 47 = .ok (.if_icmp .ne 15, 3)) (by decide) (fun c_47 => ?_) (fun c_47 => ?_)
  · replace H := H.2 c_47
    refine pr_iconst hC (-1) (by decide +kernel : decode cX12_mark 62 = .ok (.iconst (-1), 1)) rfl ?_
    exact pv_iret hM (by decide +kernel : decode cX12_mark 63 = .ok (.ireturn, 1)) hU H
  replace H := H.1 c_47
  refine pr_iload_n hC (by decide +kernel : decode cX12_mark 50 = .ok (.iload_n 3, 1)) rfl ?_
  refine pr_i2l hC (by decide +kernel : decode cX12_mark 51 = .ok (.i2l, 1)) ?_
  refine pr_lconst hC (0) (by decide +kernel : decode cX12_mark 52 = .ok (.lconst 0, 1)) rfl ?_
  refine pr_ldc2 hC (100) (by decide +kernel : decode cX12_mark 53 = .ok (.ldc2_w 515, 3)) fk_X12_515 ?_
  refine vc_Si hC hR [.long (Int32.toInt64 a3), .long 0, .long 100] fv_X12_131 (by decide +kernel : decode cX12_mark 56 = .ok (.invokestatic 131, 3)) hU (t_X12_isIn  H) rfl rfl (Nat.le_of_ble_eq_true rfl) (Nat.le_of_ble_eq_true rfl) (Nat.le_refl 0) (Nat.le_refl 0) (fun r_11 U_10 h H hU => ?_)
  refine pr_if_ne hC 64 (by decide +kernel : decode cX12_mark 59 = .ok (.ifCond .ne 5, 3)) (by decide) (fun c_59 => ?_) (fun c_59 => ?_)
  · replace H := H.2 c_59
    refine pr_aload_n hC (by decide +kernel : decode cX12_mark 64 = .ok (.aload_n 0, 1)) rfl ?_
    refine vc_Vv hC hR [] fv_X12_430 (by decide +kernel : decode cX12_mark 65 = .ok (.invokevirtual 430, 3)) hU (t_X12_keeps ho H) ho (by decide) rfl rfl rfl (Nat.le_of_ble_eq_true rfl) (Nat.le_of_ble_eq_true rfl) (Nat.le_refl 0) (Nat.le_refl 0) (fun U_12 h H hU => ?_)
    refine pr_aload_n hC (by decide +kernel : decode cX12_mark 68 = .ok (.aload_n 0, 1)) rfl ?_
    refine pr_iload_n hC (by decide +kernel : decode cX12_mark 69 = .ok (.iload_n 1, 1)) rfl ?_
    refine pr_iload_n hC (by decide +kernel : decode cX12_mark 70 = .ok (.iload_n 2, 1)) rfl ?_
    refine vc_Si hC hR [.int a1, .int a2] fv_X12_360 (by decide +kernel : decode cX12_mark 71 = .ok (.invokestatic 360, 3)) hU (t_X12_at  H) rfl rfl (Nat.le_of_ble_eq_true rfl) (Nat.le_of_ble_eq_true rfl) (Nat.le_refl 0) (Nat.le_refl 0) (fun r_15 U_14 h H hU => ?_)
    refine pr_iload_n hC (by decide +kernel : decode cX12_mark 74 = .ok (.iload_n 3, 1)) rfl ?_
    refine vc_Vv hC hR [.int r_15, .int a3] fv_X12_513 (by decide +kernel : decode cX12_mark 75 = .ok (.invokevirtual 513, 3)) hU (t_X12_marks ho H) ho (by decide) rfl rfl rfl (Nat.le_of_ble_eq_true rfl) (Nat.le_of_ble_eq_true rfl) (Nat.le_refl 0) (Nat.le_refl 0) (fun U_16 h H hU => ?_)
    refine pr_aload_n hC (by decide +kernel : decode cX12_mark 78 = .ok (.aload_n 0, 1)) rfl ?_
    refine pu_g1 hC fg_X12_71 (by decide +kernel : decode cX12_mark 79 = .ok (.getfield 71, 3)) hU ho (by decide) rfl (by decide) ?_
    refine pr_aload_n hC (by decide +kernel : decode cX12_mark 82 = .ok (.aload_n 0, 1)) rfl ?_
    refine pu_g1 hC fg_X12_59 (by decide +kernel : decode cX12_mark 83 = .ok (.getfield 59, 3)) hU ho (by decide) rfl (by decide) ?_
    refine pr_iload_n hC (by decide +kernel : decode cX12_mark 86 = .ok (.iload_n 1, 1)) rfl ?_
    refine pr_iload_n hC (by decide +kernel : decode cX12_mark 87 = .ok (.iload_n 2, 1)) rfl ?_
    refine vc_Si hC hR [.int a1, .int a2] fv_X12_360 (by decide +kernel : decode cX12_mark 88 = .ok (.invokestatic 360, 3)) hU (t_X12_at  H) rfl rfl (Nat.le_of_ble_eq_true rfl) (Nat.le_of_ble_eq_true rfl) (Nat.le_refl 0) (Nat.le_refl 0) (fun r_19 U_18 h H hU => ?_)
    refine pu_iald hC (by decide +kernel : decode cX12_mark 91 = .ok (.iaload, 1)) hU ho rfl H.1 ?_
    replace H := H.2
    refine pu_fald hC (by decide +kernel : decode cX12_mark 92 = .ok (.faload, 1)) hU ho rfl H.1 ?_
    replace H := H.2
    refine pr_f2i hC (by decide +kernel : decode cX12_mark 93 = .ok (.f2i, 1)) ?_
    exact pv_iret hM (by decide +kernel : decode cX12_mark 94 = .ok (.ireturn, 1)) hU H
  replace H := H.1 c_59
  refine pr_iconst hC (-1) (by decide +kernel : decode cX12_mark 62 = .ok (.iconst (-1), 1)) rfl ?_
  exact pv_iret hM (by decide +kernel : decode cX12_mark 63 = .ok (.ireturn, 1)) hU H
def w_X12_isAhead (o : Nat) (a1 : Int32) (a2 : Int32) (U : Um) (post : Int32 → Um → Prop) : Prop :=
  vp_in a1 10 ∧ vp_in a2 10 ∧ ((Op.cmpValue (FP.fcmp (uF U o 34 (Int32.toNatClampNeg a1)) (uF U o 34 (Int32.toNatClampNeg a2))) .l) = 0 → vp_in a1 10 ∧ vp_in a2 10 ∧ ((uA U o 33 (Int32.toNatClampNeg a1)) = (uA U o 33 (Int32.toNatClampNeg a2)) → (a2 ≤ a1 → post 0 U) ∧ (¬ a2 ≤ a1 → post 1 U)) ∧ (¬ (uA U o 33 (Int32.toNatClampNeg a1)) = (uA U o 33 (Int32.toNatClampNeg a2)) → vp_in a1 10 ∧ vp_in a2 10 ∧ ((uA U o 33 (Int32.toNatClampNeg a1)) ≤ (uA U o 33 (Int32.toNatClampNeg a2)) → post 0 U) ∧ (¬ (uA U o 33 (Int32.toNatClampNeg a1)) ≤ (uA U o 33 (Int32.toNatClampNeg a2)) → post 1 U))) ∧ (¬ (Op.cmpValue (FP.fcmp (uF U o 34 (Int32.toNatClampNeg a1)) (uF U o 34 (Int32.toNatClampNeg a2))) .l) = 0 → vp_in a1 10 ∧ vp_in a2 10 ∧ ((Op.cmpValue (FP.fcmp (uF U o 34 (Int32.toNatClampNeg a1)) (uF U o 34 (Int32.toNatClampNeg a2))) .l) ≤ 0 → post 0 U) ∧ (¬ (Op.cmpValue (FP.fcmp (uF U o 34 (Int32.toNatClampNeg a1)) (uF U o 34 (Int32.toNatClampNeg a2))) .l) ≤ 0 → post 1 U))
set_option maxHeartbeats 4000000 in
theorem t_X12_isAhead {l : Launch} {Y : px_Y} {o : Nat} {a1 : Int32} {a2 : Int32} {U : Um} {post : Int32 → Um → Prop} (ho : oc o = 10) (H : w_X12_isAhead o a1 a2 U post) : um l Y 0 yX12_isAhead cX12_isAhead 3 (some (.boolean)) [.ref (Y.2.1 o), .int a1, .int a2] U (pq_i post) := by
  unfold w_X12_isAhead at H
  refine um_of (by decide) (Nat.le_of_ble_eq_true rfl) [some (.ref (Y.2.1 o)), some (.int a1), some (.int a2)] rfl (fun X h0 hh sz hM hU => ?_)
  have hC := hM.1
  have hR := hM.2.2.1
  refine pr_aload_n hC (by decide +kernel : decode cX12_isAhead 0 = .ok (.aload_n 0, 1)) rfl ?_
  refine pu_g1 hC fg_X12_71 (by decide +kernel : decode cX12_isAhead 1 = .ok (.getfield 71, 3)) hU ho (by decide) rfl (by decide) ?_
  refine pr_iload_n hC (by decide +kernel : decode cX12_isAhead 4 = .ok (.iload_n 1, 1)) rfl ?_
  refine pu_fald hC (by decide +kernel : decode cX12_isAhead 5 = .ok (.faload, 1)) hU ho rfl H.1 ?_
  replace H := H.2
  refine pr_aload_n hC (by decide +kernel : decode cX12_isAhead 6 = .ok (.aload_n 0, 1)) rfl ?_
  refine pu_g1 hC fg_X12_71 (by decide +kernel : decode cX12_isAhead 7 = .ok (.getfield 71, 3)) hU ho (by decide) rfl (by decide) ?_
  refine pr_iload_n hC (by decide +kernel : decode cX12_isAhead 10 = .ok (.iload_n 2, 1)) rfl ?_
  refine pu_fald hC (by decide +kernel : decode cX12_isAhead 11 = .ok (.faload, 1)) hU ho rfl H.1 ?_
  replace H := H.2
  refine pr_fcmp hC (by decide +kernel : decode cX12_isAhead 12 = .ok (.fcmp .l, 1)) ?_
  refine pr_if_eq hC 38 (by decide +kernel : decode cX12_isAhead 13 = .ok (.ifCond .eq 25, 3)) (by decide) (fun c_13 => ?_) (fun c_13 => ?_)
  · replace H := H.1 c_13
    refine pr_aload_n hC (by decide +kernel : decode cX12_isAhead 38 = .ok (.aload_n 0, 1)) rfl ?_
    refine pu_g1 hC fg_X12_68 (by decide +kernel : decode cX12_isAhead 39 = .ok (.getfield 68, 3)) hU ho (by decide) rfl (by decide) ?_
    refine pr_iload_n hC (by decide +kernel : decode cX12_isAhead 42 = .ok (.iload_n 1, 1)) rfl ?_
    refine pu_iald hC (by decide +kernel : decode cX12_isAhead 43 = .ok (.iaload, 1)) hU ho rfl H.1 ?_
    replace H := H.2
    refine pr_aload_n hC (by decide +kernel : decode cX12_isAhead 44 = .ok (.aload_n 0, 1)) rfl ?_
    refine pu_g1 hC fg_X12_68 (by decide +kernel : decode cX12_isAhead 45 = .ok (.getfield 68, 3)) hU ho (by decide) rfl (by decide) ?_
    refine pr_iload_n hC (by decide +kernel : decode cX12_isAhead 48 = .ok (.iload_n 2, 1)) rfl ?_
    refine pu_iald hC (by decide +kernel : decode cX12_isAhead 49 = .ok (.iaload, 1)) hU ho rfl H.1 ?_
    replace H := H.2
    refine pr_icmp_eq hC 76 (by decide +kernel : decode cX12_isAhead 50 = .ok (.if_icmp .eq 26, 3)) (by decide) (fun c_50 => ?_) (fun c_50 => ?_)
    · replace H := H.1 c_50
      refine pr_iload_n hC (by decide +kernel : decode cX12_isAhead 76 = .ok (.iload_n 1, 1)) rfl ?_
      refine pr_iload_n hC (by decide +kernel : decode cX12_isAhead 77 = .ok (.iload_n 2, 1)) rfl ?_
      refine pr_icmp_ge hC 85 (by decide +kernel : decode cX12_isAhead 78 = .ok (.if_icmp .ge 7, 3)) (by decide) (fun c_78 => ?_) (fun c_78 => ?_)
      · replace H := H.1 c_78
        refine pr_iconst hC (0) (by decide +kernel : decode cX12_isAhead 85 = .ok (.iconst 0, 1)) rfl ?_
        exact pv_zret hM (by decide +kernel : decode cX12_isAhead 86 = .ok (.ireturn, 1)) (Or.inl rfl) hU H
      replace H := H.2 c_78
      refine pr_iconst hC (1) (by decide +kernel : decode cX12_isAhead 81 = .ok (.iconst 1, 1)) rfl ?_
      refine pr_goto hC 86 (by decide +kernel : decode cX12_isAhead 82 = .ok (.goto 4, 3)) (by decide) ?_
      exact pv_zret hM (by decide +kernel : decode cX12_isAhead 86 = .ok (.ireturn, 1)) (Or.inr rfl) hU H
    replace H := H.2 c_50
    refine pr_aload_n hC (by decide +kernel : decode cX12_isAhead 53 = .ok (.aload_n 0, 1)) rfl ?_
    refine pu_g1 hC fg_X12_68 (by decide +kernel : decode cX12_isAhead 54 = .ok (.getfield 68, 3)) hU ho (by decide) rfl (by decide) ?_
    refine pr_iload_n hC (by decide +kernel : decode cX12_isAhead 57 = .ok (.iload_n 1, 1)) rfl ?_
    refine pu_iald hC (by decide +kernel : decode cX12_isAhead 58 = .ok (.iaload, 1)) hU ho rfl H.1 ?_
    replace H := H.2
    refine pr_aload_n hC (by decide +kernel : decode cX12_isAhead 59 = .ok (.aload_n 0, 1)) rfl ?_
    refine pu_g1 hC fg_X12_68 (by decide +kernel : decode cX12_isAhead 60 = .ok (.getfield 68, 3)) hU ho (by decide) rfl (by decide) ?_
    refine pr_iload_n hC (by decide +kernel : decode cX12_isAhead 63 = .ok (.iload_n 2, 1)) rfl ?_
    refine pu_iald hC (by decide +kernel : decode cX12_isAhead 64 = .ok (.iaload, 1)) hU ho rfl H.1 ?_
    replace H := H.2
    refine pr_icmp_le hC 72 (by decide +kernel : decode cX12_isAhead 65 = .ok (.if_icmp .le 7, 3)) (by decide) (fun c_65 => ?_) (fun c_65 => ?_)
    · replace H := H.1 c_65
      refine pr_iconst hC (0) (by decide +kernel : decode cX12_isAhead 72 = .ok (.iconst 0, 1)) rfl ?_
      refine pr_goto hC 86 (by decide +kernel : decode cX12_isAhead 73 = .ok (.goto 13, 3)) (by decide) ?_
      exact pv_zret hM (by decide +kernel : decode cX12_isAhead 86 = .ok (.ireturn, 1)) (Or.inl rfl) hU H
    replace H := H.2 c_65
    refine pr_iconst hC (1) (by decide +kernel : decode cX12_isAhead 68 = .ok (.iconst 1, 1)) rfl ?_
    refine pr_goto hC 86 (by decide +kernel : decode cX12_isAhead 69 = .ok (.goto 17, 3)) (by decide) ?_
    exact pv_zret hM (by decide +kernel : decode cX12_isAhead 86 = .ok (.ireturn, 1)) (Or.inr rfl) hU H
  replace H := H.2 c_13
  refine pr_aload_n hC (by decide +kernel : decode cX12_isAhead 16 = .ok (.aload_n 0, 1)) rfl ?_
  refine pu_g1 hC fg_X12_71 (by decide +kernel : decode cX12_isAhead 17 = .ok (.getfield 71, 3)) hU ho (by decide) rfl (by decide) ?_
  refine pr_iload_n hC (by decide +kernel : decode cX12_isAhead 20 = .ok (.iload_n 1, 1)) rfl ?_
  refine pu_fald hC (by decide +kernel : decode cX12_isAhead 21 = .ok (.faload, 1)) hU ho rfl H.1 ?_
  replace H := H.2
  refine pr_aload_n hC (by decide +kernel : decode cX12_isAhead 22 = .ok (.aload_n 0, 1)) rfl ?_
  refine pu_g1 hC fg_X12_71 (by decide +kernel : decode cX12_isAhead 23 = .ok (.getfield 71, 3)) hU ho (by decide) rfl (by decide) ?_
  refine pr_iload_n hC (by decide +kernel : decode cX12_isAhead 26 = .ok (.iload_n 2, 1)) rfl ?_
  refine pu_fald hC (by decide +kernel : decode cX12_isAhead 27 = .ok (.faload, 1)) hU ho rfl H.1 ?_
  replace H := H.2
  refine pr_fcmp hC (by decide +kernel : decode cX12_isAhead 28 = .ok (.fcmp .l, 1)) ?_
  refine pr_if_le hC 36 (by decide +kernel : decode cX12_isAhead 29 = .ok (.ifCond .le 7, 3)) (by decide) (fun c_29 => ?_) (fun c_29 => ?_)
  · replace H := H.1 c_29
    refine pr_iconst hC (0) (by decide +kernel : decode cX12_isAhead 36 = .ok (.iconst 0, 1)) rfl ?_
    exact pv_zret hM (by decide +kernel : decode cX12_isAhead 37 = .ok (.ireturn, 1)) (Or.inl rfl) hU H
  replace H := H.2 c_29
  refine pr_iconst hC (1) (by decide +kernel : decode cX12_isAhead 32 = .ok (.iconst 1, 1)) rfl ?_
  refine pr_goto hC 37 (by decide +kernel : decode cX12_isAhead 33 = .ok (.goto 4, 3)) (by decide) ?_
  exact pv_zret hM (by decide +kernel : decode cX12_isAhead 37 = .ok (.ireturn, 1)) (Or.inr rfl) hU H
def w_X12_goesUp (o : Nat) (a1 : Int32) (U : Um) (post : Int32 → Um → Prop) : Prop :=
  vp_in a1 10 ∧ ((5 : Int32) ≤ (uA U o 32 (Int32.toNatClampNeg a1)) → post 0 U) ∧ (¬ (5 : Int32) ≤ (uA U o 32 (Int32.toNatClampNeg a1)) → vp_in a1 10 ∧ ((uA U o 33 (Int32.toNatClampNeg a1)) < 2 → post 0 U) ∧ (¬ (uA U o 33 (Int32.toNatClampNeg a1)) < 2 → vp_in a1 10 ∧ ((Op.cmpValue (FP.fcmp (uF U o 34 (Int32.toNatClampNeg a1)) 1114636288) .l) < 0 → post 0 U) ∧ (¬ (Op.cmpValue (FP.fcmp (uF U o 34 (Int32.toNatClampNeg a1)) 1114636288) .l) < 0 → post 1 U)))
set_option maxHeartbeats 4000000 in
theorem t_X12_goesUp {l : Launch} {Y : px_Y} {o : Nat} {a1 : Int32} {U : Um} {post : Int32 → Um → Prop} (ho : oc o = 10) (H : w_X12_goesUp o a1 U post) : um l Y 0 yX12_goesUp cX12_goesUp 2 (some (.boolean)) [.ref (Y.2.1 o), .int a1] U (pq_i post) := by
  unfold w_X12_goesUp at H
  refine um_of (by decide) (Nat.le_of_ble_eq_true rfl) [some (.ref (Y.2.1 o)), some (.int a1)] rfl (fun X h0 hh sz hM hU => ?_)
  have hC := hM.1
  have hR := hM.2.2.1
  refine pr_aload_n hC (by decide +kernel : decode cX12_goesUp 0 = .ok (.aload_n 0, 1)) rfl ?_
  refine pu_g1 hC fg_X12_65 (by decide +kernel : decode cX12_goesUp 1 = .ok (.getfield 65, 3)) hU ho (by decide) rfl (by decide) ?_
  refine pr_iload_n hC (by decide +kernel : decode cX12_goesUp 4 = .ok (.iload_n 1, 1)) rfl ?_
  refine pu_iald hC (by decide +kernel : decode cX12_goesUp 5 = .ok (.iaload, 1)) hU ho rfl H.1 ?_
  replace H := H.2
  refine pr_iconst hC (5) (by decide +kernel : decode cX12_goesUp 6 = .ok (.iconst 5, 1)) rfl ?_
  refine pr_icmp_ge hC 37 (by decide +kernel : decode cX12_goesUp 7 = .ok (.if_icmp .ge 30, 3)) (by decide) (fun c_7 => ?_) (fun c_7 => ?_)
  · replace H := H.1 c_7
    refine pr_iconst hC (0) (by decide +kernel : decode cX12_goesUp 37 = .ok (.iconst 0, 1)) rfl ?_
    exact pv_zret hM (by decide +kernel : decode cX12_goesUp 38 = .ok (.ireturn, 1)) (Or.inl rfl) hU H
  replace H := H.2 c_7
  refine pr_aload_n hC (by decide +kernel : decode cX12_goesUp 10 = .ok (.aload_n 0, 1)) rfl ?_
  refine pu_g1 hC fg_X12_68 (by decide +kernel : decode cX12_goesUp 11 = .ok (.getfield 68, 3)) hU ho (by decide) rfl (by decide) ?_
  refine pr_iload_n hC (by decide +kernel : decode cX12_goesUp 14 = .ok (.iload_n 1, 1)) rfl ?_
  refine pu_iald hC (by decide +kernel : decode cX12_goesUp 15 = .ok (.iaload, 1)) hU ho rfl H.1 ?_
  replace H := H.2
  refine pr_iconst hC (2) (by decide +kernel : decode cX12_goesUp 16 = .ok (.iconst 2, 1)) rfl ?_
  refine pr_icmp_lt hC 37 (by decide +kernel : decode cX12_goesUp 17 = .ok (.if_icmp .lt 20, 3)) (by decide) (fun c_17 => ?_) (fun c_17 => ?_)
  · replace H := H.1 c_17
    refine pr_iconst hC (0) (by decide +kernel : decode cX12_goesUp 37 = .ok (.iconst 0, 1)) rfl ?_
    exact pv_zret hM (by decide +kernel : decode cX12_goesUp 38 = .ok (.ireturn, 1)) (Or.inl rfl) hU H
  replace H := H.2 c_17
  refine pr_aload_n hC (by decide +kernel : decode cX12_goesUp 20 = .ok (.aload_n 0, 1)) rfl ?_
  refine pu_g1 hC fg_X12_71 (by decide +kernel : decode cX12_goesUp 21 = .ok (.getfield 71, 3)) hU ho (by decide) rfl (by decide) ?_
  refine pr_iload_n hC (by decide +kernel : decode cX12_goesUp 24 = .ok (.iload_n 1, 1)) rfl ?_
  refine pu_fald hC (by decide +kernel : decode cX12_goesUp 25 = .ok (.faload, 1)) hU ho rfl H.1 ?_
  replace H := H.2
  refine pr_ldcwf hC (1114636288) (by decide +kernel : decode cX12_goesUp 26 = .ok (.ldc_w 517, 3)) fk_X12_517 ?_
  refine pr_fcmp hC (by decide +kernel : decode cX12_goesUp 29 = .ok (.fcmp .l, 1)) ?_
  refine pr_if_lt hC 37 (by decide +kernel : decode cX12_goesUp 30 = .ok (.ifCond .lt 7, 3)) (by decide) (fun c_30 => ?_) (fun c_30 => ?_)
  · replace H := H.1 c_30
    refine pr_iconst hC (0) (by decide +kernel : decode cX12_goesUp 37 = .ok (.iconst 0, 1)) rfl ?_
    exact pv_zret hM (by decide +kernel : decode cX12_goesUp 38 = .ok (.ireturn, 1)) (Or.inl rfl) hU H
  replace H := H.2 c_30
  refine pr_iconst hC (1) (by decide +kernel : decode cX12_goesUp 33 = .ok (.iconst 1, 1)) rfl ?_
  refine pr_goto hC 38 (by decide +kernel : decode cX12_goesUp 34 = .ok (.goto 4, 3)) (by decide) ?_
  exact pv_zret hM (by decide +kernel : decode cX12_goesUp 38 = .ok (.ireturn, 1)) (Or.inr rfl) hU H
def w_X12_goesDown (o : Nat) (a1 : Int32) (U : Um) (post : Int32 → Um → Prop) : Prop :=
  vp_in a1 10 ∧ ((uA U o 32 (Int32.toNatClampNeg a1)) ≤ 1 → post 0 U) ∧ (¬ (uA U o 32 (Int32.toNatClampNeg a1)) ≤ 1 → vp_in a1 10 ∧ ((uA U o 33 (Int32.toNatClampNeg a1)) < 2 → post 0 U) ∧ (¬ (uA U o 33 (Int32.toNatClampNeg a1)) < 2 → vp_in a1 10 ∧ ((0 : Int32) ≤ (Op.cmpValue (FP.fcmp (uF U o 34 (Int32.toNatClampNeg a1)) 1109393408) .g) → post 0 U) ∧ (¬ (0 : Int32) ≤ (Op.cmpValue (FP.fcmp (uF U o 34 (Int32.toNatClampNeg a1)) 1109393408) .g) → post 1 U)))
set_option maxHeartbeats 4000000 in
theorem t_X12_goesDown {l : Launch} {Y : px_Y} {o : Nat} {a1 : Int32} {U : Um} {post : Int32 → Um → Prop} (ho : oc o = 10) (H : w_X12_goesDown o a1 U post) : um l Y 0 yX12_goesDown cX12_goesDown 2 (some (.boolean)) [.ref (Y.2.1 o), .int a1] U (pq_i post) := by
  unfold w_X12_goesDown at H
  refine um_of (by decide) (Nat.le_of_ble_eq_true rfl) [some (.ref (Y.2.1 o)), some (.int a1)] rfl (fun X h0 hh sz hM hU => ?_)
  have hC := hM.1
  have hR := hM.2.2.1
  refine pr_aload_n hC (by decide +kernel : decode cX12_goesDown 0 = .ok (.aload_n 0, 1)) rfl ?_
  refine pu_g1 hC fg_X12_65 (by decide +kernel : decode cX12_goesDown 1 = .ok (.getfield 65, 3)) hU ho (by decide) rfl (by decide) ?_
  refine pr_iload_n hC (by decide +kernel : decode cX12_goesDown 4 = .ok (.iload_n 1, 1)) rfl ?_
  refine pu_iald hC (by decide +kernel : decode cX12_goesDown 5 = .ok (.iaload, 1)) hU ho rfl H.1 ?_
  replace H := H.2
  refine pr_iconst hC (1) (by decide +kernel : decode cX12_goesDown 6 = .ok (.iconst 1, 1)) rfl ?_
  refine pr_icmp_le hC 37 (by decide +kernel : decode cX12_goesDown 7 = .ok (.if_icmp .le 30, 3)) (by decide) (fun c_7 => ?_) (fun c_7 => ?_)
  · replace H := H.1 c_7
    refine pr_iconst hC (0) (by decide +kernel : decode cX12_goesDown 37 = .ok (.iconst 0, 1)) rfl ?_
    exact pv_zret hM (by decide +kernel : decode cX12_goesDown 38 = .ok (.ireturn, 1)) (Or.inl rfl) hU H
  replace H := H.2 c_7
  refine pr_aload_n hC (by decide +kernel : decode cX12_goesDown 10 = .ok (.aload_n 0, 1)) rfl ?_
  refine pu_g1 hC fg_X12_68 (by decide +kernel : decode cX12_goesDown 11 = .ok (.getfield 68, 3)) hU ho (by decide) rfl (by decide) ?_
  refine pr_iload_n hC (by decide +kernel : decode cX12_goesDown 14 = .ok (.iload_n 1, 1)) rfl ?_
  refine pu_iald hC (by decide +kernel : decode cX12_goesDown 15 = .ok (.iaload, 1)) hU ho rfl H.1 ?_
  replace H := H.2
  refine pr_iconst hC (2) (by decide +kernel : decode cX12_goesDown 16 = .ok (.iconst 2, 1)) rfl ?_
  refine pr_icmp_lt hC 37 (by decide +kernel : decode cX12_goesDown 17 = .ok (.if_icmp .lt 20, 3)) (by decide) (fun c_17 => ?_) (fun c_17 => ?_)
  · replace H := H.1 c_17
    refine pr_iconst hC (0) (by decide +kernel : decode cX12_goesDown 37 = .ok (.iconst 0, 1)) rfl ?_
    exact pv_zret hM (by decide +kernel : decode cX12_goesDown 38 = .ok (.ireturn, 1)) (Or.inl rfl) hU H
  replace H := H.2 c_17
  refine pr_aload_n hC (by decide +kernel : decode cX12_goesDown 20 = .ok (.aload_n 0, 1)) rfl ?_
  refine pu_g1 hC fg_X12_71 (by decide +kernel : decode cX12_goesDown 21 = .ok (.getfield 71, 3)) hU ho (by decide) rfl (by decide) ?_
  refine pr_iload_n hC (by decide +kernel : decode cX12_goesDown 24 = .ok (.iload_n 1, 1)) rfl ?_
  refine pu_fald hC (by decide +kernel : decode cX12_goesDown 25 = .ok (.faload, 1)) hU ho rfl H.1 ?_
  replace H := H.2
  refine pr_ldcwf hC (1109393408) (by decide +kernel : decode cX12_goesDown 26 = .ok (.ldc_w 518, 3)) fk_X12_518 ?_
  refine pr_fcmp hC (by decide +kernel : decode cX12_goesDown 29 = .ok (.fcmp .g, 1)) ?_
  refine pr_if_ge hC 37 (by decide +kernel : decode cX12_goesDown 30 = .ok (.ifCond .ge 7, 3)) (by decide) (fun c_30 => ?_) (fun c_30 => ?_)
  · replace H := H.1 c_30
    refine pr_iconst hC (0) (by decide +kernel : decode cX12_goesDown 37 = .ok (.iconst 0, 1)) rfl ?_
    exact pv_zret hM (by decide +kernel : decode cX12_goesDown 38 = .ok (.ireturn, 1)) (Or.inl rfl) hU H
  replace H := H.2 c_30
  refine pr_iconst hC (1) (by decide +kernel : decode cX12_goesDown 33 = .ok (.iconst 1, 1)) rfl ?_
  refine pr_goto hC 38 (by decide +kernel : decode cX12_goesDown 34 = .ok (.goto 4, 3)) (by decide) ?_
  exact pv_zret hM (by decide +kernel : decode cX12_goesDown 38 = .ok (.ireturn, 1)) (Or.inr rfl) hU H
def b_X12_review_L60 (o0 : Nat) (x1 : Int32) (x2 : Int32) (x3 : Int32) (x4 : Int32) (post : Int32 → Um → Prop) (k_170 : Int32 → Int32 → Um → Prop) (rec_ : Int32 → Int32 → Int32 → Um → Prop) (x5 : Int32) (x6 : Int32) (x7 : Int32) (U : Um) : Prop :=
  vp_in 2 14 ∧ ((uA U o0 11 (Int32.toNatClampNeg 2)) ≤ x7 → k_170 x5 x6 U) ∧ (¬ (uA U o0 11 (Int32.toNatClampNeg 2)) ≤ x7 → (x7 = x4 → ∀ (x7_8 : Int32), x7_8 = x7 + 1 → rec_ x5 x6 x7_8 U) ∧ (¬ x7 = x4 → vp_in x7 10 ∧ vp_in x4 10 ∧ ((uA U o0 32 (Int32.toNatClampNeg x7)) = (uA U o0 32 (Int32.toNatClampNeg x4)) → w_X12_goesUp o0 x7 U (fun r_10 U_9 => (∀ K_11 : Int32 → Um → Prop, (∀ (xs_12 : Int32) (U_13 : Um), (w_X12_one xs_12 U_13 (fun r_15 U_14 => ∀ (x5_16 : Int32), x5_16 = x5 + r_15 → w_X12_goesDown o0 x7 U_14 (fun r_18 U_17 => (∀ K_19 : Int32 → Um → Prop, (∀ (xs_20 : Int32) (U_21 : Um), (w_X12_one xs_20 U_21 (fun r_23 U_22 => ∀ (x6_24 : Int32), x6_24 = x6 + r_23 → ∀ (x7_25 : Int32), x7_25 = x7 + 1 → rec_ x5_16 x6_24 x7_25 U_22)) → K_19 xs_20 U_21) → (r_18 = 0 → K_19 0 U_17) ∧ (¬ r_18 = 0 → w_X12_isAhead o0 x4 x7 U_17 (fun r_27 U_26 => (r_27 = 0 → K_19 0 U_26) ∧ (¬ r_27 = 0 → K_19 1 U_26))))))) → K_11 xs_12 U_13) → (r_10 = 0 → K_11 0 U_9) ∧ (¬ r_10 = 0 → w_X12_isAhead o0 x7 x4 U_9 (fun r_29 U_28 => (r_29 = 0 → K_11 0 U_28) ∧ (¬ r_29 = 0 → K_11 1 U_28)))))) ∧ (¬ (uA U o0 32 (Int32.toNatClampNeg x7)) = (uA U o0 32 (Int32.toNatClampNeg x4)) → ∀ (x7_30 : Int32), x7_30 = x7 + 1 → rec_ x5 x6 x7_30 U)))
def w_X12_review_L60 (o0 : Nat) (x1 : Int32) (x2 : Int32) (x3 : Int32) (x4 : Int32) (post : Int32 → Um → Prop) (k_170 : Int32 → Int32 → Um → Prop) (n_ : Nat) : Int32 → Int32 → Int32 → Um → Prop := Nat.rec (motive := fun _ => Int32 → Int32 → Int32 → Um → Prop) (fun _ _ _ _ => False) (fun _ ih => b_X12_review_L60 o0 x1 x2 x3 x4 post k_170 ih) n_
def b_X12_review_L40 (o0 : Nat) (x1 : Int32) (x2 : Int32) (post : Int32 → Um → Prop) (k_273 : Int32 → Um → Prop) (rec_ : Int32 → Int32 → Um → Prop) (x3 : Int32) (x4 : Int32) (U : Um) : Prop :=
  vp_in 2 14 ∧ ((uA U o0 11 (Int32.toNatClampNeg 2)) ≤ x4 → k_273 x3 U) ∧ (¬ (uA U o0 11 (Int32.toNatClampNeg 2)) ≤ x4 → (∃ n_52, w_X12_review_L60 o0 x1 x2 x3 x4 post (fun x5_31 x6_32 U_33 => vp_in x4 10 ∧ vp_in x4 10 ∧ ∀ (U_34 : Um), U_34 = sA U_33 o0 49 (va_up (uA U_33 o0 49) (Int32.toNatClampNeg x4) (uA U_33 o0 32 (Int32.toNatClampNeg x4))) → w_X12_goesUp o0 x4 U_34 (fun r_36 U_35 => (∀ K_37 : Um → Prop, (∀ (U_38 : Um), (vp_in x4 10 ∧ vp_in x4 10 ∧ ∀ (xs_39 : Int32), xs_39 = (if (uA U_38 o0 49 (Int32.toNatClampNeg x4)) = (uA U_38 o0 32 (Int32.toNatClampNeg x4)) then 0 else 1) → w_X12_one xs_39 U_38 (fun r_41 U_40 => ∀ (x3_42 : Int32), x3_42 = x3 + r_41 → ∀ (x4_43 : Int32), x4_43 = x4 + 1 → rec_ x3_42 x4_43 U_40)) → K_37 U_38) → (r_36 = 0 → w_X12_goesDown o0 x4 U_35 (fun r_46 U_45 => (r_46 = 0 → K_37 U_45) ∧ (¬ r_46 = 0 → (x2 ≤ x6_32 → K_37 U_45) ∧ (¬ x2 ≤ x6_32 → vp_in x4 10 ∧ vp_in x4 10 ∧ ∀ (U_47 : Um), U_47 = sA U_45 o0 49 (va_up (uA U_45 o0 49) (Int32.toNatClampNeg x4) ((uA U_45 o0 49 (Int32.toNatClampNeg x4)) - 1)) → K_37 U_47)))) ∧ (¬ r_36 = 0 → (x1 ≤ x5_31 → w_X12_goesDown o0 x4 U_35 (fun r_49 U_48 => (r_49 = 0 → K_37 U_48) ∧ (¬ r_49 = 0 → (x2 ≤ x6_32 → K_37 U_48) ∧ (¬ x2 ≤ x6_32 → vp_in x4 10 ∧ vp_in x4 10 ∧ ∀ (U_50 : Um), U_50 = sA U_48 o0 49 (va_up (uA U_48 o0 49) (Int32.toNatClampNeg x4) ((uA U_48 o0 49 (Int32.toNatClampNeg x4)) - 1)) → K_37 U_50)))) ∧ (¬ x1 ≤ x5_31 → vp_in x4 10 ∧ vp_in x4 10 ∧ ∀ (U_51 : Um), U_51 = sA U_35 o0 49 (va_up (uA U_35 o0 49) (Int32.toNatClampNeg x4) ((uA U_35 o0 49 (Int32.toNatClampNeg x4)) + 1)) → K_37 U_51))))) n_52 0 0 0 U))
def w_X12_review_L40 (o0 : Nat) (x1 : Int32) (x2 : Int32) (post : Int32 → Um → Prop) (k_273 : Int32 → Um → Prop) (n_ : Nat) : Int32 → Int32 → Um → Prop := Nat.rec (motive := fun _ => Int32 → Int32 → Um → Prop) (fun _ _ _ => False) (fun _ ih => b_X12_review_L40 o0 x1 x2 post k_273 ih) n_
def b_X12_review_L276 (o0 : Nat) (x3 : Int32) (post : Int32 → Um → Prop) (k_315 : Um → Prop) (rec_ : Int32 → Um → Prop) (x4 : Int32) (U : Um) : Prop :=
  vp_in 2 14 ∧ ((uA U o0 11 (Int32.toNatClampNeg 2)) ≤ x4 → k_315 U) ∧ (¬ (uA U o0 11 (Int32.toNatClampNeg 2)) ≤ x4 → vp_in x4 10 ∧ vp_in x4 10 ∧ ∀ (U_55 : Um), U_55 = sA U o0 32 (va_up (uA U o0 32) (Int32.toNatClampNeg x4) (uA U o0 49 (Int32.toNatClampNeg x4))) → vp_in x4 10 ∧ ∀ (U_56 : Um), U_56 = sA U_55 o0 33 (va_up (uA U_55 o0 33) (Int32.toNatClampNeg x4) 0) → ∀ (x4_57 : Int32), x4_57 = x4 + 1 → rec_ x4_57 U_56)
def w_X12_review_L276 (o0 : Nat) (x3 : Int32) (post : Int32 → Um → Prop) (k_315 : Um → Prop) (n_ : Nat) : Int32 → Um → Prop := Nat.rec (motive := fun _ => Int32 → Um → Prop) (fun _ _ => False) (fun _ ih => b_X12_review_L276 o0 x3 post k_315 ih) n_
def w_X12_review (o : Nat) (a1 : Int32) (a2 : Int32) (U : Um) (post : Int32 → Um → Prop) : Prop :=
  ∀ (U_1 : Um), U_1 = sI U o 0 0 → w_X12_isIn (Int32.toInt64 a1) 0 9 U_1 (fun r_3 U_2 => (r_3 = 0 → post (-1) U_2) ∧ (¬ r_3 = 0 → w_X12_isIn (Int32.toInt64 a2) 0 9 U_2 (fun r_5 U_4 => (r_5 = 0 → post (-1) U_4) ∧ (¬ r_5 = 0 → w_X12_keeps o U_4 (fun U_6 => (∃ n_60, w_X12_review_L40 o a1 a2 post (fun x3_53 U_54 => (∃ n_59, w_X12_review_L276 o x3_53 post (fun U_58 => post x3_53 U_58) n_59 0 U_54)) n_60 0 0 U_6))))))
set_option maxHeartbeats 4000000 in
theorem tl_X12_review_L60 {l : Launch} {Y : px_Y} {X : px_X} {h0 hh : pe_H} {sz : Nat} (o0 : Nat) (x1 : Int32) (x2 : Int32) (x3 : Int32) (x4 : Int32) (post : Int32 → Um → Prop) (k_170 : Int32 → Int32 → Um → Prop) (ho0 : oc o0 = 10)  (hC : px_C X Y.1 (pm_A hh sz) cX12_review RX12 8) (hM : px_M l X Y.1 hh sz yX12_review cX12_review 8 (some (.int)) 1 0 0) (hR : X.2.2.2.1 = pm_rm 1 0 0) (hk_170 : ∀ (y5 : Int32) (y6 : Int32) (U : Um) (h : pe_H), k_170 y5 y6 U → rF Y h0 U h → pw X Y.1 (pm_A hh sz) (pm_E X Y.1 hh sz 0 0 (pm_P Y h0 sz (pq_i post))) 170 [some (.ref (Y.2.1 o0)), some (.int x1), some (.int x2), some (.int x3), some (.int x4), some (.int y5), some (.int y6), none] [] h sz 0 0) : ∀ (n_ : Nat) (x5 : Int32) (x6 : Int32) (x7 : Int32) (U : Um) (h : pe_H), rF Y h0 U h → w_X12_review_L60 o0 x1 x2 x3 x4 post k_170 n_ x5 x6 x7 U → pw X Y.1 (pm_A hh sz) (pm_E X Y.1 hh sz 0 0 (pm_P Y h0 sz (pq_i post))) 60 [some (.ref (Y.2.1 o0)), some (.int x1), some (.int x2), some (.int x3), some (.int x4), some (.int x5), some (.int x6), some (.int x7)] [] h sz 0 0 := by
  intro n_
  induction n_ with
  | zero => intro x5 x6 x7 U h hU H; exact False.elim H
  | succ n_ ih =>
    intro x5 x6 x7 U h hU H
    replace H : b_X12_review_L60 o0 x1 x2 x3 x4 post k_170 (w_X12_review_L60 o0 x1 x2 x3 x4 post k_170 n_) x5 x6 x7 U := H
    unfold b_X12_review_L60 at H
    refine pr_iload hC (by decide +kernel : decode cX12_review 60 = .ok (.iload 7, 2)) rfl ?_
    refine pr_aload_n hC (by decide +kernel : decode cX12_review 62 = .ok (.aload_n 0, 1)) rfl ?_
    refine pu_g1 hC fg_X12_43 (by decide +kernel : decode cX12_review 63 = .ok (.getfield 43, 3)) hU ho0 (by decide) rfl (by decide) ?_
    refine pr_iconst hC (2) (by decide +kernel : decode cX12_review 66 = .ok (.iconst 2, 1)) rfl ?_
    refine pu_iald hC (by decide +kernel : decode cX12_review 67 = .ok (.iaload, 1)) hU ho0 rfl H.1 ?_
    replace H := H.2
    refine pr_icmp_ge hC 170 (by decide +kernel : decode cX12_review 68 = .ok (.if_icmp .ge 102, 3)) (by decide) (fun c_68 => ?_) (fun c_68 => ?_)
    · replace H := H.1 c_68
      exact pv_sub [some (.ref (Y.2.1 o0)), some (.int x1), some (.int x2), some (.int x3), some (.int x4), some (.int x5), some (.int x6), none] (And.intro rfl (And.intro rfl (And.intro rfl (And.intro rfl (And.intro rfl (And.intro rfl (And.intro rfl trivial))))))) (hk_170 _ _ U h H hU)
    replace H := H.2 c_68
    refine pr_iload hC (by decide +kernel : decode cX12_review 71 = .ok (.iload 7, 2)) rfl ?_
    refine pr_iload hC (by decide +kernel : decode cX12_review 73 = .ok (.iload 4, 2)) rfl ?_
    refine pr_icmp_eq hC 164 (by decide +kernel : decode cX12_review 75 = .ok (.if_icmp .eq 89, 3)) (by decide) (fun c_75 => ?_) (fun c_75 => ?_)
    · replace H := H.1 c_75
      refine pv_iinc hC (v := x7 + 1) (by decide +kernel : decode cX12_review 164 = .ok (.iinc 7 1, 3)) rfl (by decide) rfl rfl (fun x7_8 e_x7_8 => ?_)
      replace H := H x7_8 e_x7_8
      refine pr_goto hC 60 (by decide +kernel : decode cX12_review 167 = .ok (.goto (-107), 3)) (by decide) ?_
      exact pv_sub [some (.ref (Y.2.1 o0)), some (.int x1), some (.int x2), some (.int x3), some (.int x4), some (.int x5), some (.int x6), some (.int x7_8)] (And.intro rfl (And.intro rfl (And.intro rfl (And.intro rfl (And.intro rfl (And.intro rfl (And.intro rfl (And.intro rfl trivial)))))))) (ih _ _ _ U h hU H)
    replace H := H.2 c_75
    refine pr_aload_n hC (by decide +kernel : decode cX12_review 78 = .ok (.aload_n 0, 1)) rfl ?_
    refine pu_g1 hC fg_X12_65 (by decide +kernel : decode cX12_review 79 = .ok (.getfield 65, 3)) hU ho0 (by decide) rfl (by decide) ?_
    refine pr_iload hC (by decide +kernel : decode cX12_review 82 = .ok (.iload 7, 2)) rfl ?_
    refine pu_iald hC (by decide +kernel : decode cX12_review 84 = .ok (.iaload, 1)) hU ho0 rfl H.1 ?_
    replace H := H.2
    refine pr_aload_n hC (by decide +kernel : decode cX12_review 85 = .ok (.aload_n 0, 1)) rfl ?_
    refine pu_g1 hC fg_X12_65 (by decide +kernel : decode cX12_review 86 = .ok (.getfield 65, 3)) hU ho0 (by decide) rfl (by decide) ?_
    refine pr_iload hC (by decide +kernel : decode cX12_review 89 = .ok (.iload 4, 2)) rfl ?_
    refine pu_iald hC (by decide +kernel : decode cX12_review 91 = .ok (.iaload, 1)) hU ho0 rfl H.1 ?_
    replace H := H.2
    refine pr_icmp_eq hC 98 (by decide +kernel : decode cX12_review 92 = .ok (.if_icmp .eq 6, 3)) (by decide) (fun c_92 => ?_) (fun c_92 => ?_)
    · replace H := H.1 c_92
      refine pr_iload hC (by decide +kernel : decode cX12_review 98 = .ok (.iload 5, 2)) rfl ?_
      refine pr_aload_n hC (by decide +kernel : decode cX12_review 100 = .ok (.aload_n 0, 1)) rfl ?_
      refine pr_iload hC (by decide +kernel : decode cX12_review 101 = .ok (.iload 7, 2)) rfl ?_
      refine vc_Vi hC hR [.int x7] fv_X12_521 (by decide +kernel : decode cX12_review 103 = .ok (.invokevirtual 521, 3)) hU (t_X12_goesUp ho0 H) ho0 (by decide) rfl rfl rfl (Nat.le_of_ble_eq_true rfl) (Nat.le_of_ble_eq_true rfl) (Nat.le_refl 0) (Nat.le_refl 0) (fun r_10 U_9 h H hU => ?_)
      replace H := H (fun xs_12 U_13 => ∀ h : pe_H, rF Y h0 U_13 h → pw X Y.1 (pm_A hh sz) (pm_E X Y.1 hh sz 0 0 (pm_P Y h0 sz (pq_i post))) 125 [some (.ref (Y.2.1 o0)), some (.int x1), some (.int x2), some (.int x3), some (.int x4), none, some (.int x6), some (.int x7)] [.int xs_12, .int x5] h sz 0 0) (by
        intro xs_12 U_13 H h hU
        refine vc_Si hC hR [.int xs_12] fv_X12_357 (by decide +kernel : decode cX12_review 125 = .ok (.invokestatic 357, 3)) hU (t_X12_one  H) rfl rfl (Nat.le_of_ble_eq_true rfl) (Nat.le_of_ble_eq_true rfl) (Nat.le_refl 0) (Nat.le_refl 0) (fun r_15 U_14 h H hU => ?_)
        refine pr_iadd hC (by decide +kernel : decode cX12_review 128 = .ok (.iadd, 1)) ?_
        refine pv_topi (fun x5_16 e_x5_16 => ?_)
        replace H := H x5_16 e_x5_16
        refine pr_istore hC (by decide +kernel : decode cX12_review 129 = .ok (.istore 5, 2)) (by decide) rfl ?_
        refine pr_iload hC (by decide +kernel : decode cX12_review 131 = .ok (.iload 6, 2)) rfl ?_
        refine pr_aload_n hC (by decide +kernel : decode cX12_review 133 = .ok (.aload_n 0, 1)) rfl ?_
        refine pr_iload hC (by decide +kernel : decode cX12_review 134 = .ok (.iload 7, 2)) rfl ?_
        refine vc_Vi hC hR [.int x7] fv_X12_527 (by decide +kernel : decode cX12_review 136 = .ok (.invokevirtual 527, 3)) hU (t_X12_goesDown ho0 H) ho0 (by decide) rfl rfl rfl (Nat.le_of_ble_eq_true rfl) (Nat.le_of_ble_eq_true rfl) (Nat.le_refl 0) (Nat.le_refl 0) (fun r_18 U_17 h H hU => ?_)
        replace H := H (fun xs_20 U_21 => ∀ h : pe_H, rF Y h0 U_21 h → pw X Y.1 (pm_A hh sz) (pm_E X Y.1 hh sz 0 0 (pm_P Y h0 sz (pq_i post))) 158 [some (.ref (Y.2.1 o0)), some (.int x1), some (.int x2), some (.int x3), some (.int x4), some (.int x5_16), none, some (.int x7)] [.int xs_20, .int x6] h sz 0 0) (by
          intro xs_20 U_21 H h hU
          refine vc_Si hC hR [.int xs_20] fv_X12_357 (by decide +kernel : decode cX12_review 158 = .ok (.invokestatic 357, 3)) hU (t_X12_one  H) rfl rfl (Nat.le_of_ble_eq_true rfl) (Nat.le_of_ble_eq_true rfl) (Nat.le_refl 0) (Nat.le_refl 0) (fun r_23 U_22 h H hU => ?_)
          refine pr_iadd hC (by decide +kernel : decode cX12_review 161 = .ok (.iadd, 1)) ?_
          refine pv_topi (fun x6_24 e_x6_24 => ?_)
          replace H := H x6_24 e_x6_24
          refine pr_istore hC (by decide +kernel : decode cX12_review 162 = .ok (.istore 6, 2)) (by decide) rfl ?_
          refine pv_iinc hC (v := x7 + 1) (by decide +kernel : decode cX12_review 164 = .ok (.iinc 7 1, 3)) rfl (by decide) rfl rfl (fun x7_25 e_x7_25 => ?_)
          replace H := H x7_25 e_x7_25
          refine pr_goto hC 60 (by decide +kernel : decode cX12_review 167 = .ok (.goto (-107), 3)) (by decide) ?_
          exact pv_sub [some (.ref (Y.2.1 o0)), some (.int x1), some (.int x2), some (.int x3), some (.int x4), some (.int x5_16), some (.int x6_24), some (.int x7_25)] (And.intro rfl (And.intro rfl (And.intro rfl (And.intro rfl (And.intro rfl (And.intro rfl (And.intro rfl (And.intro rfl trivial)))))))) (ih _ _ _ U_22 h hU H))
        refine pr_if_eq hC 157 (by decide +kernel : decode cX12_review 139 = .ok (.ifCond .eq 18, 3)) (by decide) (fun c_139 => ?_) (fun c_139 => ?_)
        · replace H := H.1 c_139
          refine pr_iconst hC (0) (by decide +kernel : decode cX12_review 157 = .ok (.iconst 0, 1)) rfl ?_
          exact pv_sub [some (.ref (Y.2.1 o0)), some (.int x1), some (.int x2), some (.int x3), some (.int x4), some (.int x5_16), none, some (.int x7)] (And.intro rfl (And.intro rfl (And.intro rfl (And.intro rfl (And.intro rfl (And.intro rfl (And.intro rfl trivial))))))) (H h hU)
        replace H := H.2 c_139
        refine pr_aload_n hC (by decide +kernel : decode cX12_review 142 = .ok (.aload_n 0, 1)) rfl ?_
        refine pr_iload hC (by decide +kernel : decode cX12_review 143 = .ok (.iload 4, 2)) rfl ?_
        refine pr_iload hC (by decide +kernel : decode cX12_review 145 = .ok (.iload 7, 2)) rfl ?_
        refine vc_Vi hC hR [.int x4, .int x7] fv_X12_524 (by decide +kernel : decode cX12_review 147 = .ok (.invokevirtual 524, 3)) hU (t_X12_isAhead ho0 H) ho0 (by decide) rfl rfl rfl (Nat.le_of_ble_eq_true rfl) (Nat.le_of_ble_eq_true rfl) (Nat.le_refl 0) (Nat.le_refl 0) (fun r_27 U_26 h H hU => ?_)
        refine pr_if_eq hC 157 (by decide +kernel : decode cX12_review 150 = .ok (.ifCond .eq 7, 3)) (by decide) (fun c_150 => ?_) (fun c_150 => ?_)
        · replace H := H.1 c_150
          refine pr_iconst hC (0) (by decide +kernel : decode cX12_review 157 = .ok (.iconst 0, 1)) rfl ?_
          exact pv_sub [some (.ref (Y.2.1 o0)), some (.int x1), some (.int x2), some (.int x3), some (.int x4), some (.int x5_16), none, some (.int x7)] (And.intro rfl (And.intro rfl (And.intro rfl (And.intro rfl (And.intro rfl (And.intro rfl (And.intro rfl trivial))))))) (H h hU)
        replace H := H.2 c_150
        refine pr_iconst hC (1) (by decide +kernel : decode cX12_review 153 = .ok (.iconst 1, 1)) rfl ?_
        refine pr_goto hC 158 (by decide +kernel : decode cX12_review 154 = .ok (.goto 4, 3)) (by decide) ?_
        exact pv_sub [some (.ref (Y.2.1 o0)), some (.int x1), some (.int x2), some (.int x3), some (.int x4), some (.int x5_16), none, some (.int x7)] (And.intro rfl (And.intro rfl (And.intro rfl (And.intro rfl (And.intro rfl (And.intro rfl (And.intro rfl trivial))))))) (H h hU))
      refine pr_if_eq hC 124 (by decide +kernel : decode cX12_review 106 = .ok (.ifCond .eq 18, 3)) (by decide) (fun c_106 => ?_) (fun c_106 => ?_)
      · replace H := H.1 c_106
        refine pr_iconst hC (0) (by decide +kernel : decode cX12_review 124 = .ok (.iconst 0, 1)) rfl ?_
        exact pv_sub [some (.ref (Y.2.1 o0)), some (.int x1), some (.int x2), some (.int x3), some (.int x4), none, some (.int x6), some (.int x7)] (And.intro rfl (And.intro rfl (And.intro rfl (And.intro rfl (And.intro rfl (And.intro rfl (And.intro rfl trivial))))))) (H h hU)
      replace H := H.2 c_106
      refine pr_aload_n hC (by decide +kernel : decode cX12_review 109 = .ok (.aload_n 0, 1)) rfl ?_
      refine pr_iload hC (by decide +kernel : decode cX12_review 110 = .ok (.iload 7, 2)) rfl ?_
      refine pr_iload hC (by decide +kernel : decode cX12_review 112 = .ok (.iload 4, 2)) rfl ?_
      refine vc_Vi hC hR [.int x7, .int x4] fv_X12_524 (by decide +kernel : decode cX12_review 114 = .ok (.invokevirtual 524, 3)) hU (t_X12_isAhead ho0 H) ho0 (by decide) rfl rfl rfl (Nat.le_of_ble_eq_true rfl) (Nat.le_of_ble_eq_true rfl) (Nat.le_refl 0) (Nat.le_refl 0) (fun r_29 U_28 h H hU => ?_)
      refine pr_if_eq hC 124 (by decide +kernel : decode cX12_review 117 = .ok (.ifCond .eq 7, 3)) (by decide) (fun c_117 => ?_) (fun c_117 => ?_)
      · replace H := H.1 c_117
        refine pr_iconst hC (0) (by decide +kernel : decode cX12_review 124 = .ok (.iconst 0, 1)) rfl ?_
        exact pv_sub [some (.ref (Y.2.1 o0)), some (.int x1), some (.int x2), some (.int x3), some (.int x4), none, some (.int x6), some (.int x7)] (And.intro rfl (And.intro rfl (And.intro rfl (And.intro rfl (And.intro rfl (And.intro rfl (And.intro rfl trivial))))))) (H h hU)
      replace H := H.2 c_117
      refine pr_iconst hC (1) (by decide +kernel : decode cX12_review 120 = .ok (.iconst 1, 1)) rfl ?_
      refine pr_goto hC 125 (by decide +kernel : decode cX12_review 121 = .ok (.goto 4, 3)) (by decide) ?_
      exact pv_sub [some (.ref (Y.2.1 o0)), some (.int x1), some (.int x2), some (.int x3), some (.int x4), none, some (.int x6), some (.int x7)] (And.intro rfl (And.intro rfl (And.intro rfl (And.intro rfl (And.intro rfl (And.intro rfl (And.intro rfl trivial))))))) (H h hU)
    replace H := H.2 c_92
    refine pr_goto hC 164 (by decide +kernel : decode cX12_review 95 = .ok (.goto 69, 3)) (by decide) ?_
    refine pv_iinc hC (v := x7 + 1) (by decide +kernel : decode cX12_review 164 = .ok (.iinc 7 1, 3)) rfl (by decide) rfl rfl (fun x7_30 e_x7_30 => ?_)
    replace H := H x7_30 e_x7_30
    refine pr_goto hC 60 (by decide +kernel : decode cX12_review 167 = .ok (.goto (-107), 3)) (by decide) ?_
    exact pv_sub [some (.ref (Y.2.1 o0)), some (.int x1), some (.int x2), some (.int x3), some (.int x4), some (.int x5), some (.int x6), some (.int x7_30)] (And.intro rfl (And.intro rfl (And.intro rfl (And.intro rfl (And.intro rfl (And.intro rfl (And.intro rfl (And.intro rfl trivial)))))))) (ih _ _ _ U h hU H)
set_option maxHeartbeats 4000000 in
theorem tl_X12_review_L40 {l : Launch} {Y : px_Y} {X : px_X} {h0 hh : pe_H} {sz : Nat} (o0 : Nat) (x1 : Int32) (x2 : Int32) (post : Int32 → Um → Prop) (k_273 : Int32 → Um → Prop) (ho0 : oc o0 = 10)  (hC : px_C X Y.1 (pm_A hh sz) cX12_review RX12 8) (hM : px_M l X Y.1 hh sz yX12_review cX12_review 8 (some (.int)) 1 0 0) (hR : X.2.2.2.1 = pm_rm 1 0 0) (hk_273 : ∀ (y3 : Int32) (U : Um) (h : pe_H), k_273 y3 U → rF Y h0 U h → pw X Y.1 (pm_A hh sz) (pm_E X Y.1 hh sz 0 0 (pm_P Y h0 sz (pq_i post))) 273 [some (.ref (Y.2.1 o0)), none, none, some (.int y3), none, none, none, none] [] h sz 0 0) : ∀ (n_ : Nat) (x3 : Int32) (x4 : Int32) (U : Um) (h : pe_H), rF Y h0 U h → w_X12_review_L40 o0 x1 x2 post k_273 n_ x3 x4 U → pw X Y.1 (pm_A hh sz) (pm_E X Y.1 hh sz 0 0 (pm_P Y h0 sz (pq_i post))) 40 [some (.ref (Y.2.1 o0)), some (.int x1), some (.int x2), some (.int x3), some (.int x4), none, none, none] [] h sz 0 0 := by
  intro n_
  induction n_ with
  | zero => intro x3 x4 U h hU H; exact False.elim H
  | succ n_ ih =>
    intro x3 x4 U h hU H
    replace H : b_X12_review_L40 o0 x1 x2 post k_273 (w_X12_review_L40 o0 x1 x2 post k_273 n_) x3 x4 U := H
    unfold b_X12_review_L40 at H
    refine pr_iload hC (by decide +kernel : decode cX12_review 40 = .ok (.iload 4, 2)) rfl ?_
    refine pr_aload_n hC (by decide +kernel : decode cX12_review 42 = .ok (.aload_n 0, 1)) rfl ?_
    refine pu_g1 hC fg_X12_43 (by decide +kernel : decode cX12_review 43 = .ok (.getfield 43, 3)) hU ho0 (by decide) rfl (by decide) ?_
    refine pr_iconst hC (2) (by decide +kernel : decode cX12_review 46 = .ok (.iconst 2, 1)) rfl ?_
    refine pu_iald hC (by decide +kernel : decode cX12_review 47 = .ok (.iaload, 1)) hU ho0 rfl H.1 ?_
    replace H := H.2
    refine pr_icmp_ge hC 273 (by decide +kernel : decode cX12_review 48 = .ok (.if_icmp .ge 225, 3)) (by decide) (fun c_48 => ?_) (fun c_48 => ?_)
    · replace H := H.1 c_48
      exact pv_sub [some (.ref (Y.2.1 o0)), none, none, some (.int x3), none, none, none, none] (And.intro rfl (And.intro rfl trivial)) (hk_273 _ U h H hU)
    replace H := H.2 c_48
    refine pr_iconst hC (0) (by decide +kernel : decode cX12_review 51 = .ok (.iconst 0, 1)) rfl ?_
    refine pr_istore hC (by decide +kernel : decode cX12_review 52 = .ok (.istore 5, 2)) (by decide) rfl ?_
    refine pr_iconst hC (0) (by decide +kernel : decode cX12_review 54 = .ok (.iconst 0, 1)) rfl ?_
    refine pr_istore hC (by decide +kernel : decode cX12_review 55 = .ok (.istore 6, 2)) (by decide) rfl ?_
    refine pr_iconst hC (0) (by decide +kernel : decode cX12_review 57 = .ok (.iconst 0, 1)) rfl ?_
    refine pr_istore hC (by decide +kernel : decode cX12_review 58 = .ok (.istore 7, 2)) (by decide) rfl ?_
    obtain ⟨n_52, H⟩ := H
    refine pv_sub [some (.ref (Y.2.1 o0)), some (.int x1), some (.int x2), some (.int x3), some (.int x4), some (.int 0), some (.int 0), some (.int 0)] (And.intro rfl (And.intro rfl (And.intro rfl (And.intro rfl (And.intro rfl (And.intro rfl (And.intro rfl (And.intro rfl trivial)))))))) ?_
    refine tl_X12_review_L60 _ _ _ _ _ _ _ ho0 hC hM hR (fun x5_31 x6_32 U_33 h H hU => ?_) n_52 _ _ _ U h hU H
    refine pr_aload_n hC (by decide +kernel : decode cX12_review 170 = .ok (.aload_n 0, 1)) rfl ?_
    refine pu_g1 hC fg_X12_105 (by decide +kernel : decode cX12_review 171 = .ok (.getfield 105, 3)) hU ho0 (by decide) rfl (by decide) ?_
    refine pr_iload hC (by decide +kernel : decode cX12_review 174 = .ok (.iload 4, 2)) rfl ?_
    refine pr_aload_n hC (by decide +kernel : decode cX12_review 176 = .ok (.aload_n 0, 1)) rfl ?_
    refine pu_g1 hC fg_X12_65 (by decide +kernel : decode cX12_review 177 = .ok (.getfield 65, 3)) hU ho0 (by decide) rfl (by decide) ?_
    refine pr_iload hC (by decide +kernel : decode cX12_review 180 = .ok (.iload 4, 2)) rfl ?_
    refine pu_iald hC (by decide +kernel : decode cX12_review 182 = .ok (.iaload, 1)) hU ho0 rfl H.1 ?_
    replace H := H.2
    refine pv_iast hC (by decide +kernel : decode cX12_review 183 = .ok (.iastore, 1)) hU ho0 rfl H.1 (fun U_34 h e_U_34 hU => ?_)
    replace H := H.2 U_34 e_U_34
    refine pr_aload_n hC (by decide +kernel : decode cX12_review 184 = .ok (.aload_n 0, 1)) rfl ?_
    refine pr_iload hC (by decide +kernel : decode cX12_review 185 = .ok (.iload 4, 2)) rfl ?_
    refine vc_Vi hC hR [.int x4] fv_X12_521 (by decide +kernel : decode cX12_review 187 = .ok (.invokevirtual 521, 3)) hU (t_X12_goesUp ho0 H) ho0 (by decide) rfl rfl rfl (Nat.le_of_ble_eq_true rfl) (Nat.le_of_ble_eq_true rfl) (Nat.le_refl 0) (Nat.le_refl 0) (fun r_36 U_35 h H hU => ?_)
    replace H := H (fun U_38 => ∀ h : pe_H, rF Y h0 U_38 h → pw X Y.1 (pm_A hh sz) (pm_E X Y.1 hh sz 0 0 (pm_P Y h0 sz (pq_i post))) 239 [some (.ref (Y.2.1 o0)), some (.int x1), some (.int x2), some (.int x3), some (.int x4), none, none, none] [] h sz 0 0) (by
      intro U_38 H h hU
      refine pr_iload_n hC (by decide +kernel : decode cX12_review 239 = .ok (.iload_n 3, 1)) rfl ?_
      refine pr_aload_n hC (by decide +kernel : decode cX12_review 240 = .ok (.aload_n 0, 1)) rfl ?_
      refine pu_g1 hC fg_X12_105 (by decide +kernel : decode cX12_review 241 = .ok (.getfield 105, 3)) hU ho0 (by decide) rfl (by decide) ?_
      refine pr_iload hC (by decide +kernel : decode cX12_review 244 = .ok (.iload 4, 2)) rfl ?_
      refine pu_iald hC (by decide +kernel : decode cX12_review 246 = .ok (.iaload, 1)) hU ho0 rfl H.1 ?_
      replace H := H.2
      refine pr_aload_n hC (by decide +kernel : decode cX12_review 247 = .ok (.aload_n 0, 1)) rfl ?_
      refine pu_g1 hC fg_X12_65 (by decide +kernel : decode cX12_review 248 = .ok (.getfield 65, 3)) hU ho0 (by decide) rfl (by decide) ?_
      refine pr_iload hC (by decide +kernel : decode cX12_review 251 = .ok (.iload 4, 2)) rfl ?_
      refine pu_iald hC (by decide +kernel : decode cX12_review 253 = .ok (.iaload, 1)) hU ho0 rfl H.1 ?_
      replace H := H.2
      have HJ_44 : ∀ (xs_39 : Int32), xs_39 = (if (uA U_38 o0 49 (Int32.toNatClampNeg x4)) = (uA U_38 o0 32 (Int32.toNatClampNeg x4)) then 0 else 1) → pw X Y.1 (pm_A hh sz) (pm_E X Y.1 hh sz 0 0 (pm_P Y h0 sz (pq_i post))) 262 [some (.ref (Y.2.1 o0)), some (.int x1), some (.int x2), none, some (.int x4), none, none, none] [.int xs_39, .int x3] h sz 0 0 := by
        intro xs_39 e_xs_39
        replace H := H xs_39 e_xs_39
        refine vc_Si hC hR [.int xs_39] fv_X12_357 (by decide +kernel : decode cX12_review 262 = .ok (.invokestatic 357, 3)) hU (t_X12_one  H) rfl rfl (Nat.le_of_ble_eq_true rfl) (Nat.le_of_ble_eq_true rfl) (Nat.le_refl 0) (Nat.le_refl 0) (fun r_41 U_40 h H hU => ?_)
        refine pr_iadd hC (by decide +kernel : decode cX12_review 265 = .ok (.iadd, 1)) ?_
        refine pv_topi (fun x3_42 e_x3_42 => ?_)
        replace H := H x3_42 e_x3_42
        refine pr_istore_n hC (by decide +kernel : decode cX12_review 266 = .ok (.istore_n 3, 1)) (by decide) rfl ?_
        refine pv_iinc hC (v := x4 + 1) (by decide +kernel : decode cX12_review 267 = .ok (.iinc 4 1, 3)) rfl (by decide) rfl rfl (fun x4_43 e_x4_43 => ?_)
        replace H := H x4_43 e_x4_43
        refine pr_goto hC 40 (by decide +kernel : decode cX12_review 270 = .ok (.goto (-230), 3)) (by decide) ?_
        exact pv_sub [some (.ref (Y.2.1 o0)), some (.int x1), some (.int x2), some (.int x3_42), some (.int x4_43), none, none, none] (And.intro rfl (And.intro rfl (And.intro rfl (And.intro rfl (And.intro rfl trivial))))) (ih _ _ U_40 h hU H)
      replace H := trivial
      refine pr_icmp_eq hC 261 (by decide +kernel : decode cX12_review 254 = .ok (.if_icmp .eq 7, 3)) (by decide) (fun c_254 => ?_) (fun c_254 => ?_)
      · skip
        refine pr_iconst hC (0) (by decide +kernel : decode cX12_review 261 = .ok (.iconst 0, 1)) rfl ?_
        exact pv_sub [some (.ref (Y.2.1 o0)), some (.int x1), some (.int x2), none, some (.int x4), none, none, none] (And.intro rfl (And.intro rfl (And.intro rfl (And.intro rfl trivial)))) (HJ_44 _ (if_pos c_254).symm)
      skip
      refine pr_iconst hC (1) (by decide +kernel : decode cX12_review 257 = .ok (.iconst 1, 1)) rfl ?_
      refine pr_goto hC 262 (by decide +kernel : decode cX12_review 258 = .ok (.goto 4, 3)) (by decide) ?_
      exact pv_sub [some (.ref (Y.2.1 o0)), some (.int x1), some (.int x2), none, some (.int x4), none, none, none] (And.intro rfl (And.intro rfl (And.intro rfl (And.intro rfl trivial)))) (HJ_44 _ (if_neg c_254).symm))
    refine pr_if_eq hC 213 (by decide +kernel : decode cX12_review 190 = .ok (.ifCond .eq 23, 3)) (by decide) (fun c_190 => ?_) (fun c_190 => ?_)
    · replace H := H.1 c_190
      refine pr_aload_n hC (by decide +kernel : decode cX12_review 213 = .ok (.aload_n 0, 1)) rfl ?_
      refine pr_iload hC (by decide +kernel : decode cX12_review 214 = .ok (.iload 4, 2)) rfl ?_
      refine vc_Vi hC hR [.int x4] fv_X12_527 (by decide +kernel : decode cX12_review 216 = .ok (.invokevirtual 527, 3)) hU (t_X12_goesDown ho0 H) ho0 (by decide) rfl rfl rfl (Nat.le_of_ble_eq_true rfl) (Nat.le_of_ble_eq_true rfl) (Nat.le_refl 0) (Nat.le_refl 0) (fun r_46 U_45 h H hU => ?_)
      refine pr_if_eq hC 239 (by decide +kernel : decode cX12_review 219 = .ok (.ifCond .eq 20, 3)) (by decide) (fun c_219 => ?_) (fun c_219 => ?_)
      · replace H := H.1 c_219
        exact pv_sub [some (.ref (Y.2.1 o0)), some (.int x1), some (.int x2), some (.int x3), some (.int x4), none, none, none] (And.intro rfl (And.intro rfl (And.intro rfl (And.intro rfl (And.intro rfl trivial))))) (H h hU)
      replace H := H.2 c_219
      refine pr_iload hC (by decide +kernel : decode cX12_review 222 = .ok (.iload 6, 2)) rfl ?_
      refine pr_iload_n hC (by decide +kernel : decode cX12_review 224 = .ok (.iload_n 2, 1)) rfl ?_
      refine pr_icmp_ge hC 239 (by decide +kernel : decode cX12_review 225 = .ok (.if_icmp .ge 14, 3)) (by decide) (fun c_225 => ?_) (fun c_225 => ?_)
      · replace H := H.1 c_225
        exact pv_sub [some (.ref (Y.2.1 o0)), some (.int x1), some (.int x2), some (.int x3), some (.int x4), none, none, none] (And.intro rfl (And.intro rfl (And.intro rfl (And.intro rfl (And.intro rfl trivial))))) (H h hU)
      replace H := H.2 c_225
      refine pr_aload_n hC (by decide +kernel : decode cX12_review 228 = .ok (.aload_n 0, 1)) rfl ?_
      refine pu_g1 hC fg_X12_105 (by decide +kernel : decode cX12_review 229 = .ok (.getfield 105, 3)) hU ho0 (by decide) rfl (by decide) ?_
      refine pr_iload hC (by decide +kernel : decode cX12_review 232 = .ok (.iload 4, 2)) rfl ?_
      refine pr_dup2 hC (by decide +kernel : decode cX12_review 234 = .ok (.dup2, 1)) rfl rfl ?_
      refine pu_iald hC (by decide +kernel : decode cX12_review 235 = .ok (.iaload, 1)) hU ho0 rfl H.1 ?_
      replace H := H.2
      refine pr_iconst hC (1) (by decide +kernel : decode cX12_review 236 = .ok (.iconst 1, 1)) rfl ?_
      refine pr_isub hC (by decide +kernel : decode cX12_review 237 = .ok (.isub, 1)) ?_
      refine pv_iast hC (by decide +kernel : decode cX12_review 238 = .ok (.iastore, 1)) hU ho0 rfl H.1 (fun U_47 h e_U_47 hU => ?_)
      replace H := H.2 U_47 e_U_47
      exact pv_sub [some (.ref (Y.2.1 o0)), some (.int x1), some (.int x2), some (.int x3), some (.int x4), none, none, none] (And.intro rfl (And.intro rfl (And.intro rfl (And.intro rfl (And.intro rfl trivial))))) (H h hU)
    replace H := H.2 c_190
    refine pr_iload hC (by decide +kernel : decode cX12_review 193 = .ok (.iload 5, 2)) rfl ?_
    refine pr_iload_n hC (by decide +kernel : decode cX12_review 195 = .ok (.iload_n 1, 1)) rfl ?_
    refine pr_icmp_ge hC 213 (by decide +kernel : decode cX12_review 196 = .ok (.if_icmp .ge 17, 3)) (by decide) (fun c_196 => ?_) (fun c_196 => ?_)
    · replace H := H.1 c_196
      refine pr_aload_n hC (by decide +kernel : decode cX12_review 213 = .ok (.aload_n 0, 1)) rfl ?_
      refine pr_iload hC (by decide +kernel : decode cX12_review 214 = .ok (.iload 4, 2)) rfl ?_
      refine vc_Vi hC hR [.int x4] fv_X12_527 (by decide +kernel : decode cX12_review 216 = .ok (.invokevirtual 527, 3)) hU (t_X12_goesDown ho0 H) ho0 (by decide) rfl rfl rfl (Nat.le_of_ble_eq_true rfl) (Nat.le_of_ble_eq_true rfl) (Nat.le_refl 0) (Nat.le_refl 0) (fun r_49 U_48 h H hU => ?_)
      refine pr_if_eq hC 239 (by decide +kernel : decode cX12_review 219 = .ok (.ifCond .eq 20, 3)) (by decide) (fun c_219 => ?_) (fun c_219 => ?_)
      · replace H := H.1 c_219
        exact pv_sub [some (.ref (Y.2.1 o0)), some (.int x1), some (.int x2), some (.int x3), some (.int x4), none, none, none] (And.intro rfl (And.intro rfl (And.intro rfl (And.intro rfl (And.intro rfl trivial))))) (H h hU)
      replace H := H.2 c_219
      refine pr_iload hC (by decide +kernel : decode cX12_review 222 = .ok (.iload 6, 2)) rfl ?_
      refine pr_iload_n hC (by decide +kernel : decode cX12_review 224 = .ok (.iload_n 2, 1)) rfl ?_
      refine pr_icmp_ge hC 239 (by decide +kernel : decode cX12_review 225 = .ok (.if_icmp .ge 14, 3)) (by decide) (fun c_225 => ?_) (fun c_225 => ?_)
      · replace H := H.1 c_225
        exact pv_sub [some (.ref (Y.2.1 o0)), some (.int x1), some (.int x2), some (.int x3), some (.int x4), none, none, none] (And.intro rfl (And.intro rfl (And.intro rfl (And.intro rfl (And.intro rfl trivial))))) (H h hU)
      replace H := H.2 c_225
      refine pr_aload_n hC (by decide +kernel : decode cX12_review 228 = .ok (.aload_n 0, 1)) rfl ?_
      refine pu_g1 hC fg_X12_105 (by decide +kernel : decode cX12_review 229 = .ok (.getfield 105, 3)) hU ho0 (by decide) rfl (by decide) ?_
      refine pr_iload hC (by decide +kernel : decode cX12_review 232 = .ok (.iload 4, 2)) rfl ?_
      refine pr_dup2 hC (by decide +kernel : decode cX12_review 234 = .ok (.dup2, 1)) rfl rfl ?_
      refine pu_iald hC (by decide +kernel : decode cX12_review 235 = .ok (.iaload, 1)) hU ho0 rfl H.1 ?_
      replace H := H.2
      refine pr_iconst hC (1) (by decide +kernel : decode cX12_review 236 = .ok (.iconst 1, 1)) rfl ?_
      refine pr_isub hC (by decide +kernel : decode cX12_review 237 = .ok (.isub, 1)) ?_
      refine pv_iast hC (by decide +kernel : decode cX12_review 238 = .ok (.iastore, 1)) hU ho0 rfl H.1 (fun U_50 h e_U_50 hU => ?_)
      replace H := H.2 U_50 e_U_50
      exact pv_sub [some (.ref (Y.2.1 o0)), some (.int x1), some (.int x2), some (.int x3), some (.int x4), none, none, none] (And.intro rfl (And.intro rfl (And.intro rfl (And.intro rfl (And.intro rfl trivial))))) (H h hU)
    replace H := H.2 c_196
    refine pr_aload_n hC (by decide +kernel : decode cX12_review 199 = .ok (.aload_n 0, 1)) rfl ?_
    refine pu_g1 hC fg_X12_105 (by decide +kernel : decode cX12_review 200 = .ok (.getfield 105, 3)) hU ho0 (by decide) rfl (by decide) ?_
    refine pr_iload hC (by decide +kernel : decode cX12_review 203 = .ok (.iload 4, 2)) rfl ?_
    refine pr_dup2 hC (by decide +kernel : decode cX12_review 205 = .ok (.dup2, 1)) rfl rfl ?_
    refine pu_iald hC (by decide +kernel : decode cX12_review 206 = .ok (.iaload, 1)) hU ho0 rfl H.1 ?_
    replace H := H.2
    refine pr_iconst hC (1) (by decide +kernel : decode cX12_review 207 = .ok (.iconst 1, 1)) rfl ?_
    refine pr_iadd hC (by decide +kernel : decode cX12_review 208 = .ok (.iadd, 1)) ?_
    refine pv_iast hC (by decide +kernel : decode cX12_review 209 = .ok (.iastore, 1)) hU ho0 rfl H.1 (fun U_51 h e_U_51 hU => ?_)
    replace H := H.2 U_51 e_U_51
    refine pr_goto hC 239 (by decide +kernel : decode cX12_review 210 = .ok (.goto 29, 3)) (by decide) ?_
    exact pv_sub [some (.ref (Y.2.1 o0)), some (.int x1), some (.int x2), some (.int x3), some (.int x4), none, none, none] (And.intro rfl (And.intro rfl (And.intro rfl (And.intro rfl (And.intro rfl trivial))))) (H h hU)
set_option maxHeartbeats 4000000 in
theorem tl_X12_review_L276 {l : Launch} {Y : px_Y} {X : px_X} {h0 hh : pe_H} {sz : Nat} (o0 : Nat) (x3 : Int32) (post : Int32 → Um → Prop) (k_315 : Um → Prop) (ho0 : oc o0 = 10)  (hC : px_C X Y.1 (pm_A hh sz) cX12_review RX12 8) (hM : px_M l X Y.1 hh sz yX12_review cX12_review 8 (some (.int)) 1 0 0) (hR : X.2.2.2.1 = pm_rm 1 0 0) (hk_315 : ∀ (U : Um) (h : pe_H), k_315 U → rF Y h0 U h → pw X Y.1 (pm_A hh sz) (pm_E X Y.1 hh sz 0 0 (pm_P Y h0 sz (pq_i post))) 315 [none, none, none, some (.int x3), none, none, none, none] [] h sz 0 0) : ∀ (n_ : Nat) (x4 : Int32) (U : Um) (h : pe_H), rF Y h0 U h → w_X12_review_L276 o0 x3 post k_315 n_ x4 U → pw X Y.1 (pm_A hh sz) (pm_E X Y.1 hh sz 0 0 (pm_P Y h0 sz (pq_i post))) 276 [some (.ref (Y.2.1 o0)), none, none, some (.int x3), some (.int x4), none, none, none] [] h sz 0 0 := by
  intro n_
  induction n_ with
  | zero => intro x4 U h hU H; exact False.elim H
  | succ n_ ih =>
    intro x4 U h hU H
    replace H : b_X12_review_L276 o0 x3 post k_315 (w_X12_review_L276 o0 x3 post k_315 n_) x4 U := H
    unfold b_X12_review_L276 at H
    refine pr_iload hC (by decide +kernel : decode cX12_review 276 = .ok (.iload 4, 2)) rfl ?_
    refine pr_aload_n hC (by decide +kernel : decode cX12_review 278 = .ok (.aload_n 0, 1)) rfl ?_
    refine pu_g1 hC fg_X12_43 (by decide +kernel : decode cX12_review 279 = .ok (.getfield 43, 3)) hU ho0 (by decide) rfl (by decide) ?_
    refine pr_iconst hC (2) (by decide +kernel : decode cX12_review 282 = .ok (.iconst 2, 1)) rfl ?_
    refine pu_iald hC (by decide +kernel : decode cX12_review 283 = .ok (.iaload, 1)) hU ho0 rfl H.1 ?_
    replace H := H.2
    refine pr_icmp_ge hC 315 (by decide +kernel : decode cX12_review 284 = .ok (.if_icmp .ge 31, 3)) (by decide) (fun c_284 => ?_) (fun c_284 => ?_)
    · replace H := H.1 c_284
      exact pv_sub [none, none, none, some (.int x3), none, none, none, none] (And.intro rfl trivial) (hk_315 U h H hU)
    replace H := H.2 c_284
    refine pr_aload_n hC (by decide +kernel : decode cX12_review 287 = .ok (.aload_n 0, 1)) rfl ?_
    refine pu_g1 hC fg_X12_65 (by decide +kernel : decode cX12_review 288 = .ok (.getfield 65, 3)) hU ho0 (by decide) rfl (by decide) ?_
    refine pr_iload hC (by decide +kernel : decode cX12_review 291 = .ok (.iload 4, 2)) rfl ?_
    refine pr_aload_n hC (by decide +kernel : decode cX12_review 293 = .ok (.aload_n 0, 1)) rfl ?_
    refine pu_g1 hC fg_X12_105 (by decide +kernel : decode cX12_review 294 = .ok (.getfield 105, 3)) hU ho0 (by decide) rfl (by decide) ?_
    refine pr_iload hC (by decide +kernel : decode cX12_review 297 = .ok (.iload 4, 2)) rfl ?_
    refine pu_iald hC (by decide +kernel : decode cX12_review 299 = .ok (.iaload, 1)) hU ho0 rfl H.1 ?_
    replace H := H.2
    refine pv_iast hC (by decide +kernel : decode cX12_review 300 = .ok (.iastore, 1)) hU ho0 rfl H.1 (fun U_55 h e_U_55 hU => ?_)
    replace H := H.2 U_55 e_U_55
    refine pr_aload_n hC (by decide +kernel : decode cX12_review 301 = .ok (.aload_n 0, 1)) rfl ?_
    refine pu_g1 hC fg_X12_68 (by decide +kernel : decode cX12_review 302 = .ok (.getfield 68, 3)) hU ho0 (by decide) rfl (by decide) ?_
    refine pr_iload hC (by decide +kernel : decode cX12_review 305 = .ok (.iload 4, 2)) rfl ?_
    refine pr_iconst hC (0) (by decide +kernel : decode cX12_review 307 = .ok (.iconst 0, 1)) rfl ?_
    refine pv_iast hC (by decide +kernel : decode cX12_review 308 = .ok (.iastore, 1)) hU ho0 rfl H.1 (fun U_56 h e_U_56 hU => ?_)
    replace H := H.2 U_56 e_U_56
    refine pv_iinc hC (v := x4 + 1) (by decide +kernel : decode cX12_review 309 = .ok (.iinc 4 1, 3)) rfl (by decide) rfl rfl (fun x4_57 e_x4_57 => ?_)
    replace H := H x4_57 e_x4_57
    refine pr_goto hC 276 (by decide +kernel : decode cX12_review 312 = .ok (.goto (-36), 3)) (by decide) ?_
    exact pv_sub [some (.ref (Y.2.1 o0)), none, none, some (.int x3), some (.int x4_57), none, none, none] (And.intro rfl (And.intro rfl (And.intro rfl trivial))) (ih _ U_56 h hU H)
set_option maxHeartbeats 4000000 in
theorem t_X12_review {l : Launch} {Y : px_Y} {o : Nat} {a1 : Int32} {a2 : Int32} {U : Um} {post : Int32 → Um → Prop} (ho : oc o = 10) (H : w_X12_review o a1 a2 U post) : um l Y 1 yX12_review cX12_review 8 (some (.int)) [.ref (Y.2.1 o), .int a1, .int a2] U (pq_i post) := by
  unfold w_X12_review at H
  refine um_of (by decide) (Nat.le_of_ble_eq_true rfl) [some (.ref (Y.2.1 o)), some (.int a1), some (.int a2), none, none, none, none, none] rfl (fun X h0 hh sz hM hU => ?_)
  have hC := hM.1
  have hR := hM.2.2.1
  refine pr_aload_n hC (by decide +kernel : decode cX12_review 0 = .ok (.aload_n 0, 1)) rfl ?_
  refine pr_iconst hC (0) (by decide +kernel : decode cX12_review 1 = .ok (.iconst 0, 1)) rfl ?_
  refine pv_p0 hC fp_X12_121 (by decide +kernel : decode cX12_review 2 = .ok (.putfield 121, 3)) hU ho (by decide) rfl rfl rfl rfl (fun U_1 h e_U_1 hU => ?_)
  replace H := H U_1 e_U_1
  refine pr_iload_n hC (by decide +kernel : decode cX12_review 5 = .ok (.iload_n 1, 1)) rfl ?_
  refine pr_i2l hC (by decide +kernel : decode cX12_review 6 = .ok (.i2l, 1)) ?_
  refine pr_lconst hC (0) (by decide +kernel : decode cX12_review 7 = .ok (.lconst 0, 1)) rfl ?_
  refine pr_ldc2 hC (9) (by decide +kernel : decode cX12_review 8 = .ok (.ldc2_w 519, 3)) fk_X12_519 ?_
  refine vc_Si hC hR [.long (Int32.toInt64 a1), .long 0, .long 9] fv_X12_131 (by decide +kernel : decode cX12_review 11 = .ok (.invokestatic 131, 3)) hU (t_X12_isIn  H) rfl rfl (Nat.le_of_ble_eq_true rfl) (Nat.le_of_ble_eq_true rfl) (Nat.le_refl 0) (Nat.le_refl 0) (fun r_3 U_2 h H hU => ?_)
  refine pr_if_eq hC 29 (by decide +kernel : decode cX12_review 14 = .ok (.ifCond .eq 15, 3)) (by decide) (fun c_14 => ?_) (fun c_14 => ?_)
  · replace H := H.1 c_14
    refine pr_iconst hC (-1) (by decide +kernel : decode cX12_review 29 = .ok (.iconst (-1), 1)) rfl ?_
    exact pv_iret hM (by decide +kernel : decode cX12_review 30 = .ok (.ireturn, 1)) hU H
  replace H := H.2 c_14
  refine pr_iload_n hC (by decide +kernel : decode cX12_review 17 = .ok (.iload_n 2, 1)) rfl ?_
  refine pr_i2l hC (by decide +kernel : decode cX12_review 18 = .ok (.i2l, 1)) ?_
  refine pr_lconst hC (0) (by decide +kernel : decode cX12_review 19 = .ok (.lconst 0, 1)) rfl ?_
  refine pr_ldc2 hC (9) (by decide +kernel : decode cX12_review 20 = .ok (.ldc2_w 519, 3)) fk_X12_519 ?_
  refine vc_Si hC hR [.long (Int32.toInt64 a2), .long 0, .long 9] fv_X12_131 (by decide +kernel : decode cX12_review 23 = .ok (.invokestatic 131, 3)) hU (t_X12_isIn  H) rfl rfl (Nat.le_of_ble_eq_true rfl) (Nat.le_of_ble_eq_true rfl) (Nat.le_refl 0) (Nat.le_refl 0) (fun r_5 U_4 h H hU => ?_)
  refine pr_if_ne hC 31 (by decide +kernel : decode cX12_review 26 = .ok (.ifCond .ne 5, 3)) (by decide) (fun c_26 => ?_) (fun c_26 => ?_)
  · replace H := H.2 c_26
    refine pr_aload_n hC (by decide +kernel : decode cX12_review 31 = .ok (.aload_n 0, 1)) rfl ?_
    refine vc_Vv hC hR [] fv_X12_430 (by decide +kernel : decode cX12_review 32 = .ok (.invokevirtual 430, 3)) hU (t_X12_keeps ho H) ho (by decide) rfl rfl rfl (Nat.le_of_ble_eq_true rfl) (Nat.le_of_ble_eq_true rfl) (Nat.le_refl 0) (Nat.le_refl 0) (fun U_6 h H hU => ?_)
    refine pr_iconst hC (0) (by decide +kernel : decode cX12_review 35 = .ok (.iconst 0, 1)) rfl ?_
    refine pr_istore_n hC (by decide +kernel : decode cX12_review 36 = .ok (.istore_n 3, 1)) (by decide) rfl ?_
    refine pr_iconst hC (0) (by decide +kernel : decode cX12_review 37 = .ok (.iconst 0, 1)) rfl ?_
    refine pr_istore hC (by decide +kernel : decode cX12_review 38 = .ok (.istore 4, 2)) (by decide) rfl ?_
    obtain ⟨n_60, H⟩ := H
    refine pv_sub [some (.ref (Y.2.1 o)), some (.int a1), some (.int a2), some (.int 0), some (.int 0), none, none, none] (And.intro rfl (And.intro rfl (And.intro rfl (And.intro rfl (And.intro rfl trivial))))) ?_
    refine tl_X12_review_L40 _ _ _ _ _ ho hC hM hR (fun x3_53 U_54 h H hU => ?_) n_60 _ _ U_6 h hU H
    refine pr_iconst hC (0) (by decide +kernel : decode cX12_review 273 = .ok (.iconst 0, 1)) rfl ?_
    refine pr_istore hC (by decide +kernel : decode cX12_review 274 = .ok (.istore 4, 2)) (by decide) rfl ?_
    obtain ⟨n_59, H⟩ := H
    refine pv_sub [some (.ref (Y.2.1 o)), none, none, some (.int x3_53), some (.int 0), none, none, none] (And.intro rfl (And.intro rfl (And.intro rfl trivial))) ?_
    refine tl_X12_review_L276 _ _ _ _ ho hC hM hR (fun U_58 h H hU => ?_) n_59 _ U_54 h hU H
    refine pr_iload_n hC (by decide +kernel : decode cX12_review 315 = .ok (.iload_n 3, 1)) rfl ?_
    exact pv_iret hM (by decide +kernel : decode cX12_review 316 = .ok (.ireturn, 1)) hU H
  replace H := H.1 c_26
  refine pr_iconst hC (-1) (by decide +kernel : decode cX12_review 29 = .ok (.iconst (-1), 1)) rfl ?_
  exact pv_iret hM (by decide +kernel : decode cX12_review 30 = .ok (.ireturn, 1)) hU H
def b_X12_rank_L22 (o0 : Nat) (x1 : Int32) (x2 : Int32) (post : Int32 → Um → Prop) (k_66 : Int32 → Um → Prop) (rec_ : Int32 → Int32 → Um → Prop) (x3 : Int32) (x4 : Int32) (U : Um) : Prop :=
  vp_in 2 14 ∧ ((uA U o0 11 (Int32.toNatClampNeg 2)) ≤ x4 → k_66 x3 U) ∧ (¬ (uA U o0 11 (Int32.toNatClampNeg 2)) ≤ x4 → (∀ K_2 : Int32 → Um → Prop, (∀ (xs_3 : Int32) (U_4 : Um), (w_X12_one xs_3 U_4 (fun r_6 U_5 => ∀ (x3_7 : Int32), x3_7 = x3 + r_6 → ∀ (x4_8 : Int32), x4_8 = x4 + 1 → rec_ x3_7 x4_8 U_5)) → K_2 xs_3 U_4) → (x4 = x2 → K_2 0 U) ∧ (¬ x4 = x2 → w_X12_isAhead o0 x4 x2 U (fun r_10 U_9 => (r_10 = 0 → K_2 0 U_9) ∧ (¬ r_10 = 0 → K_2 1 U_9)))))
def w_X12_rank_L22 (o0 : Nat) (x1 : Int32) (x2 : Int32) (post : Int32 → Um → Prop) (k_66 : Int32 → Um → Prop) (n_ : Nat) : Int32 → Int32 → Um → Prop := Nat.rec (motive := fun _ => Int32 → Int32 → Um → Prop) (fun _ _ _ => False) (fun _ ih => b_X12_rank_L22 o0 x1 x2 post k_66 ih) n_
def b_X12_rank_L7 (o0 : Nat) (x1 : Int32) (post : Int32 → Um → Prop) (k_79 : Um → Prop) (rec_ : Int32 → Um → Prop) (x2 : Int32) (U : Um) : Prop :=
  vp_in 2 14 ∧ ((uA U o0 11 (Int32.toNatClampNeg 2)) ≤ x2 → k_79 U) ∧ (¬ (uA U o0 11 (Int32.toNatClampNeg 2)) ≤ x2 → (∃ n_14, w_X12_rank_L22 o0 x1 x2 post (fun x3_11 U_12 => (x3_11 = x1 → post x2 U_12) ∧ (¬ x3_11 = x1 → ∀ (x2_13 : Int32), x2_13 = x2 + 1 → rec_ x2_13 U_12)) n_14 0 0 U))
def w_X12_rank_L7 (o0 : Nat) (x1 : Int32) (post : Int32 → Um → Prop) (k_79 : Um → Prop) (n_ : Nat) : Int32 → Um → Prop := Nat.rec (motive := fun _ => Int32 → Um → Prop) (fun _ _ => False) (fun _ ih => b_X12_rank_L7 o0 x1 post k_79 ih) n_
def w_X12_rank (o : Nat) (a1 : Int32) (U : Um) (post : Int32 → Um → Prop) : Prop :=
  ∀ (U_1 : Um), U_1 = sI U o 0 0 → (∃ n_16, w_X12_rank_L7 o a1 post (fun U_15 => post (-1) U_15) n_16 0 U_1)
set_option maxHeartbeats 4000000 in
theorem tl_X12_rank_L22 {l : Launch} {Y : px_Y} {X : px_X} {h0 hh : pe_H} {sz : Nat} (o0 : Nat) (x1 : Int32) (x2 : Int32) (post : Int32 → Um → Prop) (k_66 : Int32 → Um → Prop) (ho0 : oc o0 = 10)  (hC : px_C X Y.1 (pm_A hh sz) cX12_rank RX12 5) (hM : px_M l X Y.1 hh sz yX12_rank cX12_rank 5 (some (.int)) 1 0 0) (hR : X.2.2.2.1 = pm_rm 1 0 0) (hk_66 : ∀ (y3 : Int32) (U : Um) (h : pe_H), k_66 y3 U → rF Y h0 U h → pw X Y.1 (pm_A hh sz) (pm_E X Y.1 hh sz 0 0 (pm_P Y h0 sz (pq_i post))) 66 [some (.ref (Y.2.1 o0)), some (.int x1), some (.int x2), some (.int y3), none] [] h sz 0 0) : ∀ (n_ : Nat) (x3 : Int32) (x4 : Int32) (U : Um) (h : pe_H), rF Y h0 U h → w_X12_rank_L22 o0 x1 x2 post k_66 n_ x3 x4 U → pw X Y.1 (pm_A hh sz) (pm_E X Y.1 hh sz 0 0 (pm_P Y h0 sz (pq_i post))) 22 [some (.ref (Y.2.1 o0)), some (.int x1), some (.int x2), some (.int x3), some (.int x4)] [] h sz 0 0 := by
  intro n_
  induction n_ with
  | zero => intro x3 x4 U h hU H; exact False.elim H
  | succ n_ ih =>
    intro x3 x4 U h hU H
    replace H : b_X12_rank_L22 o0 x1 x2 post k_66 (w_X12_rank_L22 o0 x1 x2 post k_66 n_) x3 x4 U := H
    unfold b_X12_rank_L22 at H
    refine pr_iload hC (by decide +kernel : decode cX12_rank 22 = .ok (.iload 4, 2)) rfl ?_
    refine pr_aload_n hC (by decide +kernel : decode cX12_rank 24 = .ok (.aload_n 0, 1)) rfl ?_
    refine pu_g1 hC fg_X12_43 (by decide +kernel : decode cX12_rank 25 = .ok (.getfield 43, 3)) hU ho0 (by decide) rfl (by decide) ?_
    refine pr_iconst hC (2) (by decide +kernel : decode cX12_rank 28 = .ok (.iconst 2, 1)) rfl ?_
    refine pu_iald hC (by decide +kernel : decode cX12_rank 29 = .ok (.iaload, 1)) hU ho0 rfl H.1 ?_
    replace H := H.2
    refine pr_icmp_ge hC 66 (by decide +kernel : decode cX12_rank 30 = .ok (.if_icmp .ge 36, 3)) (by decide) (fun c_30 => ?_) (fun c_30 => ?_)
    · replace H := H.1 c_30
      exact pv_sub [some (.ref (Y.2.1 o0)), some (.int x1), some (.int x2), some (.int x3), none] (And.intro rfl (And.intro rfl (And.intro rfl (And.intro rfl trivial)))) (hk_66 _ U h H hU)
    replace H := H.2 c_30
    refine pr_iload_n hC (by decide +kernel : decode cX12_rank 33 = .ok (.iload_n 3, 1)) rfl ?_
    refine pr_iload hC (by decide +kernel : decode cX12_rank 34 = .ok (.iload 4, 2)) rfl ?_
    refine pr_iload_n hC (by decide +kernel : decode cX12_rank 36 = .ok (.iload_n 2, 1)) rfl ?_
    replace H := H (fun xs_3 U_4 => ∀ h : pe_H, rF Y h0 U_4 h → pw X Y.1 (pm_A hh sz) (pm_E X Y.1 hh sz 0 0 (pm_P Y h0 sz (pq_i post))) 55 [some (.ref (Y.2.1 o0)), some (.int x1), some (.int x2), none, some (.int x4)] [.int xs_3, .int x3] h sz 0 0) (by
      intro xs_3 U_4 H h hU
      refine vc_Si hC hR [.int xs_3] fv_X12_357 (by decide +kernel : decode cX12_rank 55 = .ok (.invokestatic 357, 3)) hU (t_X12_one  H) rfl rfl (Nat.le_of_ble_eq_true rfl) (Nat.le_of_ble_eq_true rfl) (Nat.le_refl 0) (Nat.le_refl 0) (fun r_6 U_5 h H hU => ?_)
      refine pr_iadd hC (by decide +kernel : decode cX12_rank 58 = .ok (.iadd, 1)) ?_
      refine pv_topi (fun x3_7 e_x3_7 => ?_)
      replace H := H x3_7 e_x3_7
      refine pr_istore_n hC (by decide +kernel : decode cX12_rank 59 = .ok (.istore_n 3, 1)) (by decide) rfl ?_
      refine pv_iinc hC (v := x4 + 1) (by decide +kernel : decode cX12_rank 60 = .ok (.iinc 4 1, 3)) rfl (by decide) rfl rfl (fun x4_8 e_x4_8 => ?_)
      replace H := H x4_8 e_x4_8
      refine pr_goto hC 22 (by decide +kernel : decode cX12_rank 63 = .ok (.goto (-41), 3)) (by decide) ?_
      exact pv_sub [some (.ref (Y.2.1 o0)), some (.int x1), some (.int x2), some (.int x3_7), some (.int x4_8)] (And.intro rfl (And.intro rfl (And.intro rfl (And.intro rfl (And.intro rfl trivial))))) (ih _ _ U_5 h hU H))
    refine pr_icmp_eq hC 54 (by decide +kernel : decode cX12_rank 37 = .ok (.if_icmp .eq 17, 3)) (by decide) (fun c_37 => ?_) (fun c_37 => ?_)
    · replace H := H.1 c_37
      refine pr_iconst hC (0) (by decide +kernel : decode cX12_rank 54 = .ok (.iconst 0, 1)) rfl ?_
      exact pv_sub [some (.ref (Y.2.1 o0)), some (.int x1), some (.int x2), none, some (.int x4)] (And.intro rfl (And.intro rfl (And.intro rfl (And.intro rfl trivial)))) (H h hU)
    replace H := H.2 c_37
    refine pr_aload_n hC (by decide +kernel : decode cX12_rank 40 = .ok (.aload_n 0, 1)) rfl ?_
    refine pr_iload hC (by decide +kernel : decode cX12_rank 41 = .ok (.iload 4, 2)) rfl ?_
    refine pr_iload_n hC (by decide +kernel : decode cX12_rank 43 = .ok (.iload_n 2, 1)) rfl ?_
    refine vc_Vi hC hR [.int x4, .int x2] fv_X12_524 (by decide +kernel : decode cX12_rank 44 = .ok (.invokevirtual 524, 3)) hU (t_X12_isAhead ho0 H) ho0 (by decide) rfl rfl rfl (Nat.le_of_ble_eq_true rfl) (Nat.le_of_ble_eq_true rfl) (Nat.le_refl 0) (Nat.le_refl 0) (fun r_10 U_9 h H hU => ?_)
    refine pr_if_eq hC 54 (by decide +kernel : decode cX12_rank 47 = .ok (.ifCond .eq 7, 3)) (by decide) (fun c_47 => ?_) (fun c_47 => ?_)
    · replace H := H.1 c_47
      refine pr_iconst hC (0) (by decide +kernel : decode cX12_rank 54 = .ok (.iconst 0, 1)) rfl ?_
      exact pv_sub [some (.ref (Y.2.1 o0)), some (.int x1), some (.int x2), none, some (.int x4)] (And.intro rfl (And.intro rfl (And.intro rfl (And.intro rfl trivial)))) (H h hU)
    replace H := H.2 c_47
    refine pr_iconst hC (1) (by decide +kernel : decode cX12_rank 50 = .ok (.iconst 1, 1)) rfl ?_
    refine pr_goto hC 55 (by decide +kernel : decode cX12_rank 51 = .ok (.goto 4, 3)) (by decide) ?_
    exact pv_sub [some (.ref (Y.2.1 o0)), some (.int x1), some (.int x2), none, some (.int x4)] (And.intro rfl (And.intro rfl (And.intro rfl (And.intro rfl trivial)))) (H h hU)
set_option maxHeartbeats 4000000 in
theorem tl_X12_rank_L7 {l : Launch} {Y : px_Y} {X : px_X} {h0 hh : pe_H} {sz : Nat} (o0 : Nat) (x1 : Int32) (post : Int32 → Um → Prop) (k_79 : Um → Prop) (ho0 : oc o0 = 10)  (hC : px_C X Y.1 (pm_A hh sz) cX12_rank RX12 5) (hM : px_M l X Y.1 hh sz yX12_rank cX12_rank 5 (some (.int)) 1 0 0) (hR : X.2.2.2.1 = pm_rm 1 0 0) (hk_79 : ∀ (U : Um) (h : pe_H), k_79 U → rF Y h0 U h → pw X Y.1 (pm_A hh sz) (pm_E X Y.1 hh sz 0 0 (pm_P Y h0 sz (pq_i post))) 79 [none, none, none, none, none] [] h sz 0 0) : ∀ (n_ : Nat) (x2 : Int32) (U : Um) (h : pe_H), rF Y h0 U h → w_X12_rank_L7 o0 x1 post k_79 n_ x2 U → pw X Y.1 (pm_A hh sz) (pm_E X Y.1 hh sz 0 0 (pm_P Y h0 sz (pq_i post))) 7 [some (.ref (Y.2.1 o0)), some (.int x1), some (.int x2), none, none] [] h sz 0 0 := by
  intro n_
  induction n_ with
  | zero => intro x2 U h hU H; exact False.elim H
  | succ n_ ih =>
    intro x2 U h hU H
    replace H : b_X12_rank_L7 o0 x1 post k_79 (w_X12_rank_L7 o0 x1 post k_79 n_) x2 U := H
    unfold b_X12_rank_L7 at H
    refine pr_iload_n hC (by decide +kernel : decode cX12_rank 7 = .ok (.iload_n 2, 1)) rfl ?_
    refine pr_aload_n hC (by decide +kernel : decode cX12_rank 8 = .ok (.aload_n 0, 1)) rfl ?_
    refine pu_g1 hC fg_X12_43 (by decide +kernel : decode cX12_rank 9 = .ok (.getfield 43, 3)) hU ho0 (by decide) rfl (by decide) ?_
    refine pr_iconst hC (2) (by decide +kernel : decode cX12_rank 12 = .ok (.iconst 2, 1)) rfl ?_
    refine pu_iald hC (by decide +kernel : decode cX12_rank 13 = .ok (.iaload, 1)) hU ho0 rfl H.1 ?_
    replace H := H.2
    refine pr_icmp_ge hC 79 (by decide +kernel : decode cX12_rank 14 = .ok (.if_icmp .ge 65, 3)) (by decide) (fun c_14 => ?_) (fun c_14 => ?_)
    · replace H := H.1 c_14
      exact pv_sub [none, none, none, none, none] (trivial) (hk_79 U h H hU)
    replace H := H.2 c_14
    refine pr_iconst hC (0) (by decide +kernel : decode cX12_rank 17 = .ok (.iconst 0, 1)) rfl ?_
    refine pr_istore_n hC (by decide +kernel : decode cX12_rank 18 = .ok (.istore_n 3, 1)) (by decide) rfl ?_
    refine pr_iconst hC (0) (by decide +kernel : decode cX12_rank 19 = .ok (.iconst 0, 1)) rfl ?_
    refine pr_istore hC (by decide +kernel : decode cX12_rank 20 = .ok (.istore 4, 2)) (by decide) rfl ?_
    obtain ⟨n_14, H⟩ := H
    refine pv_sub [some (.ref (Y.2.1 o0)), some (.int x1), some (.int x2), some (.int 0), some (.int 0)] (And.intro rfl (And.intro rfl (And.intro rfl (And.intro rfl (And.intro rfl trivial))))) ?_
    refine tl_X12_rank_L22 _ _ _ _ _ ho0 hC hM hR (fun x3_11 U_12 h H hU => ?_) n_14 _ _ U h hU H
    refine pr_iload_n hC (by decide +kernel : decode cX12_rank 66 = .ok (.iload_n 3, 1)) rfl ?_
    refine pr_iload_n hC (by decide +kernel : decode cX12_rank 67 = .ok (.iload_n 1, 1)) rfl ?_
    refine pr_icmp_ne hC 73 (by decide +kernel : decode cX12_rank 68 = .ok (.if_icmp .ne 5, 3)) (by decide) (fun c_68 => ?_) (fun c_68 => ?_)
    · replace H := H.2 c_68
      refine pv_iinc hC (v := x2 + 1) (by decide +kernel : decode cX12_rank 73 = .ok (.iinc 2 1, 3)) rfl (by decide) rfl rfl (fun x2_13 e_x2_13 => ?_)
      replace H := H x2_13 e_x2_13
      refine pr_goto hC 7 (by decide +kernel : decode cX12_rank 76 = .ok (.goto (-69), 3)) (by decide) ?_
      exact pv_sub [some (.ref (Y.2.1 o0)), some (.int x1), some (.int x2_13), none, none] (And.intro rfl (And.intro rfl (And.intro rfl trivial))) (ih _ U_12 h hU H)
    replace H := H.1 c_68
    refine pr_iload_n hC (by decide +kernel : decode cX12_rank 71 = .ok (.iload_n 2, 1)) rfl ?_
    exact pv_iret hM (by decide +kernel : decode cX12_rank 72 = .ok (.ireturn, 1)) hU H
set_option maxHeartbeats 4000000 in
theorem t_X12_rank {l : Launch} {Y : px_Y} {o : Nat} {a1 : Int32} {U : Um} {post : Int32 → Um → Prop} (ho : oc o = 10) (H : w_X12_rank o a1 U post) : um l Y 1 yX12_rank cX12_rank 5 (some (.int)) [.ref (Y.2.1 o), .int a1] U (pq_i post) := by
  unfold w_X12_rank at H
  refine um_of (by decide) (Nat.le_of_ble_eq_true rfl) [some (.ref (Y.2.1 o)), some (.int a1), none, none, none] rfl (fun X h0 hh sz hM hU => ?_)
  have hC := hM.1
  have hR := hM.2.2.1
  refine pr_aload_n hC (by decide +kernel : decode cX12_rank 0 = .ok (.aload_n 0, 1)) rfl ?_
  refine pr_iconst hC (0) (by decide +kernel : decode cX12_rank 1 = .ok (.iconst 0, 1)) rfl ?_
  refine pv_p0 hC fp_X12_121 (by decide +kernel : decode cX12_rank 2 = .ok (.putfield 121, 3)) hU ho (by decide) rfl rfl rfl rfl (fun U_1 h e_U_1 hU => ?_)
  replace H := H U_1 e_U_1
  refine pr_iconst hC (0) (by decide +kernel : decode cX12_rank 5 = .ok (.iconst 0, 1)) rfl ?_
  refine pr_istore_n hC (by decide +kernel : decode cX12_rank 6 = .ok (.istore_n 2, 1)) (by decide) rfl ?_
  obtain ⟨n_16, H⟩ := H
  refine pv_sub [some (.ref (Y.2.1 o)), some (.int a1), some (.int 0), none, none] (And.intro rfl (And.intro rfl (And.intro rfl trivial))) ?_
  refine tl_X12_rank_L7 _ _ _ _ ho hC hM hR (fun U_15 h H hU => ?_) n_16 _ U_1 h hU H
  refine pr_iconst hC (-1) (by decide +kernel : decode cX12_rank 79 = .ok (.iconst (-1), 1)) rfl ?_
  exact pv_iret hM (by decide +kernel : decode cX12_rank 80 = .ok (.ireturn, 1)) hU H
def w_X12_isPlace (o : Nat) (a1 : Int32) (a2 : Int32) (U : Um) (post : Int32 → Um → Prop) : Prop :=
  w_X12_isIn (Int32.toInt64 a1) 0 2 U (fun r_2 U_1 => (r_2 = 0 → post 0 U_1) ∧ (¬ r_2 = 0 → vp_in a1 3 ∧ w_X12_isIn (Int32.toInt64 a2) 0 (Int32.toInt64 ((uA U_1 o 50 (Int32.toNatClampNeg a1)) - 1)) U_1 (fun r_4 U_3 => (r_4 = 0 → post 0 U_3) ∧ (¬ r_4 = 0 → post 1 U_3))))
set_option maxHeartbeats 4000000 in
theorem t_X12_isPlace {l : Launch} {Y : px_Y} {o : Nat} {a1 : Int32} {a2 : Int32} {U : Um} {post : Int32 → Um → Prop} (ho : oc o = 10) (H : w_X12_isPlace o a1 a2 U post) : um l Y 1 yX12_isPlace cX12_isPlace 3 (some (.boolean)) [.ref (Y.2.1 o), .int a1, .int a2] U (pq_i post) := by
  unfold w_X12_isPlace at H
  refine um_of (by decide) (Nat.le_of_ble_eq_true rfl) [some (.ref (Y.2.1 o)), some (.int a1), some (.int a2)] rfl (fun X h0 hh sz hM hU => ?_)
  have hC := hM.1
  have hR := hM.2.2.1
  refine pr_iload_n hC (by decide +kernel : decode cX12_isPlace 0 = .ok (.iload_n 1, 1)) rfl ?_
  refine pr_i2l hC (by decide +kernel : decode cX12_isPlace 1 = .ok (.i2l, 1)) ?_
  refine pr_lconst hC (0) (by decide +kernel : decode cX12_isPlace 2 = .ok (.lconst 0, 1)) rfl ?_
  refine pr_ldc2 hC (2) (by decide +kernel : decode cX12_isPlace 3 = .ok (.ldc2_w 362, 3)) fk_X12_362 ?_
  refine vc_Si hC hR [.long (Int32.toInt64 a1), .long 0, .long 2] fv_X12_131 (by decide +kernel : decode cX12_isPlace 6 = .ok (.invokestatic 131, 3)) hU (t_X12_isIn  H) rfl rfl (Nat.le_of_ble_eq_true rfl) (Nat.le_of_ble_eq_true rfl) (Nat.le_refl 0) (Nat.le_refl 0) (fun r_2 U_1 h H hU => ?_)
  refine pr_if_eq hC 34 (by decide +kernel : decode cX12_isPlace 9 = .ok (.ifCond .eq 25, 3)) (by decide) (fun c_9 => ?_) (fun c_9 => ?_)
  · replace H := H.1 c_9
    refine pr_iconst hC (0) (by decide +kernel : decode cX12_isPlace 34 = .ok (.iconst 0, 1)) rfl ?_
    exact pv_zret hM (by decide +kernel : decode cX12_isPlace 35 = .ok (.ireturn, 1)) (Or.inl rfl) hU H
  replace H := H.2 c_9
  refine pr_iload_n hC (by decide +kernel : decode cX12_isPlace 12 = .ok (.iload_n 2, 1)) rfl ?_
  refine pr_i2l hC (by decide +kernel : decode cX12_isPlace 13 = .ok (.i2l, 1)) ?_
  refine pr_lconst hC (0) (by decide +kernel : decode cX12_isPlace 14 = .ok (.lconst 0, 1)) rfl ?_
  refine pr_aload_n hC (by decide +kernel : decode cX12_isPlace 15 = .ok (.aload_n 0, 1)) rfl ?_
  refine pu_g1 hC fg_X12_108 (by decide +kernel : decode cX12_isPlace 16 = .ok (.getfield 108, 3)) hU ho (by decide) rfl (by decide) ?_
  refine pr_iload_n hC (by decide +kernel : decode cX12_isPlace 19 = .ok (.iload_n 1, 1)) rfl ?_
  refine pu_iald hC (by decide +kernel : decode cX12_isPlace 20 = .ok (.iaload, 1)) hU ho rfl H.1 ?_
  replace H := H.2
  refine pr_iconst hC (1) (by decide +kernel : decode cX12_isPlace 21 = .ok (.iconst 1, 1)) rfl ?_
  refine pr_isub hC (by decide +kernel : decode cX12_isPlace 22 = .ok (.isub, 1)) ?_
  refine pr_i2l hC (by decide +kernel : decode cX12_isPlace 23 = .ok (.i2l, 1)) ?_
  refine vc_Si hC hR [.long (Int32.toInt64 a2), .long 0, .long (Int32.toInt64 ((uA U_1 o 50 (Int32.toNatClampNeg a1)) - 1))] fv_X12_131 (by decide +kernel : decode cX12_isPlace 24 = .ok (.invokestatic 131, 3)) hU (t_X12_isIn  H) rfl rfl (Nat.le_of_ble_eq_true rfl) (Nat.le_of_ble_eq_true rfl) (Nat.le_refl 0) (Nat.le_refl 0) (fun r_4 U_3 h H hU => ?_)
  refine pr_if_eq hC 34 (by decide +kernel : decode cX12_isPlace 27 = .ok (.ifCond .eq 7, 3)) (by decide) (fun c_27 => ?_) (fun c_27 => ?_)
  · replace H := H.1 c_27
    refine pr_iconst hC (0) (by decide +kernel : decode cX12_isPlace 34 = .ok (.iconst 0, 1)) rfl ?_
    exact pv_zret hM (by decide +kernel : decode cX12_isPlace 35 = .ok (.ireturn, 1)) (Or.inl rfl) hU H
  replace H := H.2 c_27
  refine pr_iconst hC (1) (by decide +kernel : decode cX12_isPlace 30 = .ok (.iconst 1, 1)) rfl ?_
  refine pr_goto hC 35 (by decide +kernel : decode cX12_isPlace 31 = .ok (.goto 4, 3)) (by decide) ?_
  exact pv_zret hM (by decide +kernel : decode cX12_isPlace 35 = .ok (.ireturn, 1)) (Or.inr rfl) hU H
def b_X12_shelf_L78 (o0 : Nat) (x1 : Int32) (x3 : Int32) (post : Int32 → Um → Prop) (k_104 : Um → Prop) (rec_ : Int32 → Um → Prop) (x4 : Int32) (U : Um) : Prop :=
  ((20 : Int32) ≤ x4 → k_104 U) ∧ (¬ (20 : Int32) ≤ x4 → vp_in ((20 * x1) + x4) 60 ∧ ∀ (U_8 : Um), U_8 = sA U o0 53 (va_up (uA U o0 53) (Int32.toNatClampNeg ((20 * x1) + x4)) 0) → ∀ (x4_9 : Int32), x4_9 = x4 + 1 → rec_ x4_9 U_8)
def w_X12_shelf_L78 (o0 : Nat) (x1 : Int32) (x3 : Int32) (post : Int32 → Um → Prop) (k_104 : Um → Prop) (n_ : Nat) : Int32 → Um → Prop := Nat.rec (motive := fun _ => Int32 → Um → Prop) (fun _ _ => False) (fun _ ih => b_X12_shelf_L78 o0 x1 x3 post k_104 ih) n_
def w_X12_shelf (o : Nat) (a1 : Int32) (a2 : Int32) (a3 : Int32) (U : Um) (post : Int32 → Um → Prop) : Prop :=
  ∀ (U_1 : Um), U_1 = sI U o 0 0 → w_X12_isIn (Int32.toInt64 a1) 0 2 U_1 (fun r_3 U_2 => (∀ K_4 : Um → Prop, (∀ (U_5 : Um), (((uI U_5 o 0) = 0 → vp_in a1 3 ∧ ∀ (U_6 : Um), U_6 = sA U_5 o 51 (va_up (uA U_5 o 51) (Int32.toNatClampNeg a1) a2) → vp_in a1 3 ∧ ∀ (U_7 : Um), U_7 = sA U_6 o 50 (va_up (uA U_6 o 50) (Int32.toNatClampNeg a1) a3) → (∃ n_11, w_X12_shelf_L78 o a1 a3 post (fun U_10 => post a3 U_10) n_11 0 U_7)) ∧ (¬ (uI U_5 o 0) = 0 → post 0 U_5)) → K_4 U_5) → (r_3 = 0 → ∀ (U_12 : Um), U_12 = sI U_2 o 0 1 → K_4 U_12) ∧ (¬ r_3 = 0 → w_X12_isIn (Int32.toInt64 a2) 0 1 U_2 (fun r_14 U_13 => (r_14 = 0 → ∀ (U_15 : Um), U_15 = sI U_13 o 0 2 → K_4 U_15) ∧ (¬ r_14 = 0 → w_X12_isIn (Int32.toInt64 a3) 0 20 U_13 (fun r_17 U_16 => (r_17 = 0 → ∀ (U_18 : Um), U_18 = sI U_16 o 0 2 → K_4 U_18) ∧ (¬ r_17 = 0 → K_4 U_16)))))))
set_option maxHeartbeats 4000000 in
theorem tl_X12_shelf_L78 {l : Launch} {Y : px_Y} {X : px_X} {h0 hh : pe_H} {sz : Nat} (o0 : Nat) (x1 : Int32) (x3 : Int32) (post : Int32 → Um → Prop) (k_104 : Um → Prop) (ho0 : oc o0 = 10)  (hC : px_C X Y.1 (pm_A hh sz) cX12_shelf RX12 5) (hM : px_M l X Y.1 hh sz yX12_shelf cX12_shelf 5 (some (.int)) 1 0 0) (hR : X.2.2.2.1 = pm_rm 1 0 0) (hk_104 : ∀ (U : Um) (h : pe_H), k_104 U → rF Y h0 U h → pw X Y.1 (pm_A hh sz) (pm_E X Y.1 hh sz 0 0 (pm_P Y h0 sz (pq_i post))) 104 [none, none, none, some (.int x3), none] [] h sz 0 0) : ∀ (n_ : Nat) (x4 : Int32) (U : Um) (h : pe_H), rF Y h0 U h → w_X12_shelf_L78 o0 x1 x3 post k_104 n_ x4 U → pw X Y.1 (pm_A hh sz) (pm_E X Y.1 hh sz 0 0 (pm_P Y h0 sz (pq_i post))) 78 [some (.ref (Y.2.1 o0)), some (.int x1), none, some (.int x3), some (.int x4)] [] h sz 0 0 := by
  intro n_
  induction n_ with
  | zero => intro x4 U h hU H; exact False.elim H
  | succ n_ ih =>
    intro x4 U h hU H
    replace H : b_X12_shelf_L78 o0 x1 x3 post k_104 (w_X12_shelf_L78 o0 x1 x3 post k_104 n_) x4 U := H
    unfold b_X12_shelf_L78 at H
    refine pr_iload hC (by decide +kernel : decode cX12_shelf 78 = .ok (.iload 4, 2)) rfl ?_
    refine pr_bipush hC (20) (by decide +kernel : decode cX12_shelf 80 = .ok (.bipush 20, 2)) rfl ?_
    refine pr_icmp_ge hC 104 (by decide +kernel : decode cX12_shelf 82 = .ok (.if_icmp .ge 22, 3)) (by decide) (fun c_82 => ?_) (fun c_82 => ?_)
    · replace H := H.1 c_82
      exact pv_sub [none, none, none, some (.int x3), none] (And.intro rfl trivial) (hk_104 U h H hU)
    replace H := H.2 c_82
    refine pr_aload_n hC (by decide +kernel : decode cX12_shelf 85 = .ok (.aload_n 0, 1)) rfl ?_
    refine pu_g1 hC fg_X12_117 (by decide +kernel : decode cX12_shelf 86 = .ok (.getfield 117, 3)) hU ho0 (by decide) rfl (by decide) ?_
    refine pr_bipush hC (20) (by decide +kernel : decode cX12_shelf 89 = .ok (.bipush 20, 2)) rfl ?_
    refine pr_iload_n hC (by decide +kernel : decode cX12_shelf 91 = .ok (.iload_n 1, 1)) rfl ?_
    refine pr_imul hC (by decide +kernel : decode cX12_shelf 92 = .ok (.imul, 1)) ?_
    refine pr_iload hC (by decide +kernel : decode cX12_shelf 93 = .ok (.iload 4, 2)) rfl ?_
    refine pr_iadd hC (by decide +kernel : decode cX12_shelf 95 = .ok (.iadd, 1)) ?_
    refine pr_iconst hC (0) (by decide +kernel : decode cX12_shelf 96 = .ok (.iconst 0, 1)) rfl ?_
    refine pv_zast hC rfl (by decide +kernel : decode cX12_shelf 97 = .ok (.bastore, 1)) hU ho0 rfl H.1 (fun U_8 h e_U_8 hU => ?_)
    replace H := H.2 U_8 e_U_8
    refine pv_iinc hC (v := x4 + 1) (by decide +kernel : decode cX12_shelf 98 = .ok (.iinc 4 1, 3)) rfl (by decide) rfl rfl (fun x4_9 e_x4_9 => ?_)
    replace H := H x4_9 e_x4_9
    refine pr_goto hC 78 (by decide +kernel : decode cX12_shelf 101 = .ok (.goto (-23), 3)) (by decide) ?_
    exact pv_sub [some (.ref (Y.2.1 o0)), some (.int x1), none, some (.int x3), some (.int x4_9)] (And.intro rfl (And.intro rfl (And.intro rfl (And.intro rfl trivial)))) (ih _ U_8 h hU H)
set_option maxHeartbeats 4000000 in
theorem t_X12_shelf {l : Launch} {Y : px_Y} {o : Nat} {a1 : Int32} {a2 : Int32} {a3 : Int32} {U : Um} {post : Int32 → Um → Prop} (ho : oc o = 10) (H : w_X12_shelf o a1 a2 a3 U post) : um l Y 1 yX12_shelf cX12_shelf 5 (some (.int)) [.ref (Y.2.1 o), .int a1, .int a2, .int a3] U (pq_i post) := by
  unfold w_X12_shelf at H
  refine um_of (by decide) (Nat.le_of_ble_eq_true rfl) [some (.ref (Y.2.1 o)), some (.int a1), some (.int a2), some (.int a3), none] rfl (fun X h0 hh sz hM hU => ?_)
  have hC := hM.1
  have hR := hM.2.2.1
  refine pr_aload_n hC (by decide +kernel : decode cX12_shelf 0 = .ok (.aload_n 0, 1)) rfl ?_
  refine pr_iconst hC (0) (by decide +kernel : decode cX12_shelf 1 = .ok (.iconst 0, 1)) rfl ?_
  refine pv_p0 hC fp_X12_121 (by decide +kernel : decode cX12_shelf 2 = .ok (.putfield 121, 3)) hU ho (by decide) rfl rfl rfl rfl (fun U_1 h e_U_1 hU => ?_)
  replace H := H U_1 e_U_1
  refine pr_iload_n hC (by decide +kernel : decode cX12_shelf 5 = .ok (.iload_n 1, 1)) rfl ?_
  refine pr_i2l hC (by decide +kernel : decode cX12_shelf 6 = .ok (.i2l, 1)) ?_
  refine pr_lconst hC (0) (by decide +kernel : decode cX12_shelf 7 = .ok (.lconst 0, 1)) rfl ?_
  refine pr_ldc2 hC (2) (by decide +kernel : decode cX12_shelf 8 = .ok (.ldc2_w 362, 3)) fk_X12_362 ?_
  refine vc_Si hC hR [.long (Int32.toInt64 a1), .long 0, .long 2] fv_X12_131 (by decide +kernel : decode cX12_shelf 11 = .ok (.invokestatic 131, 3)) hU (t_X12_isIn  H) rfl rfl (Nat.le_of_ble_eq_true rfl) (Nat.le_of_ble_eq_true rfl) (Nat.le_refl 0) (Nat.le_refl 0) (fun r_3 U_2 h H hU => ?_)
  replace H := H (fun U_5 => ∀ h : pe_H, rF Y h0 U_5 h → pw X Y.1 (pm_A hh sz) (pm_E X Y.1 hh sz 0 0 (pm_P Y h0 sz (pq_i post))) 52 [some (.ref (Y.2.1 o)), some (.int a1), some (.int a2), some (.int a3), none] [] h sz 0 0) (by
    intro U_5 H h hU
    refine pr_aload_n hC (by decide +kernel : decode cX12_shelf 52 = .ok (.aload_n 0, 1)) rfl ?_
    refine pu_g0 hC fg_X12_121 (by decide +kernel : decode cX12_shelf 53 = .ok (.getfield 121, 3)) hU ho (by decide) rfl rfl ?_
    refine pr_if_eq hC 61 (by decide +kernel : decode cX12_shelf 56 = .ok (.ifCond .eq 5, 3)) (by decide) (fun c_56 => ?_) (fun c_56 => ?_)
    · replace H := H.1 c_56
      refine pr_aload_n hC (by decide +kernel : decode cX12_shelf 61 = .ok (.aload_n 0, 1)) rfl ?_
      refine pu_g1 hC fg_X12_111 (by decide +kernel : decode cX12_shelf 62 = .ok (.getfield 111, 3)) hU ho (by decide) rfl (by decide) ?_
      refine pr_iload_n hC (by decide +kernel : decode cX12_shelf 65 = .ok (.iload_n 1, 1)) rfl ?_
      refine pr_iload_n hC (by decide +kernel : decode cX12_shelf 66 = .ok (.iload_n 2, 1)) rfl ?_
      refine pv_iast hC (by decide +kernel : decode cX12_shelf 67 = .ok (.iastore, 1)) hU ho rfl H.1 (fun U_6 h e_U_6 hU => ?_)
      replace H := H.2 U_6 e_U_6
      refine pr_aload_n hC (by decide +kernel : decode cX12_shelf 68 = .ok (.aload_n 0, 1)) rfl ?_
      refine pu_g1 hC fg_X12_108 (by decide +kernel : decode cX12_shelf 69 = .ok (.getfield 108, 3)) hU ho (by decide) rfl (by decide) ?_
      refine pr_iload_n hC (by decide +kernel : decode cX12_shelf 72 = .ok (.iload_n 1, 1)) rfl ?_
      refine pr_iload_n hC (by decide +kernel : decode cX12_shelf 73 = .ok (.iload_n 3, 1)) rfl ?_
      refine pv_iast hC (by decide +kernel : decode cX12_shelf 74 = .ok (.iastore, 1)) hU ho rfl H.1 (fun U_7 h e_U_7 hU => ?_)
      replace H := H.2 U_7 e_U_7
      refine pr_iconst hC (0) (by decide +kernel : decode cX12_shelf 75 = .ok (.iconst 0, 1)) rfl ?_
      refine pr_istore hC (by decide +kernel : decode cX12_shelf 76 = .ok (.istore 4, 2)) (by decide) rfl ?_
      obtain ⟨n_11, H⟩ := H
      refine pv_sub [some (.ref (Y.2.1 o)), some (.int a1), none, some (.int a3), some (.int 0)] (And.intro rfl (And.intro rfl (And.intro rfl (And.intro rfl trivial)))) ?_
      refine tl_X12_shelf_L78 _ _ _ _ _ ho hC hM hR (fun U_10 h H hU => ?_) n_11 _ U_7 h hU H
      refine pr_iload_n hC (by decide +kernel : decode cX12_shelf 104 = .ok (.iload_n 3, 1)) rfl ?_
      exact pv_iret hM (by decide +kernel : decode cX12_shelf 105 = .ok (.ireturn, 1)) hU H
    replace H := H.2 c_56
    refine pr_iconst hC (0) (by decide +kernel : decode cX12_shelf 59 = .ok (.iconst 0, 1)) rfl ?_
    exact pv_iret hM (by decide +kernel : decode cX12_shelf 60 = .ok (.ireturn, 1)) hU H)
  refine pr_if_ne hC 25 (by decide +kernel : decode cX12_shelf 14 = .ok (.ifCond .ne 11, 3)) (by decide) (fun c_14 => ?_) (fun c_14 => ?_)
  · replace H := H.2 c_14
    refine pr_iload_n hC (by decide +kernel : decode cX12_shelf 25 = .ok (.iload_n 2, 1)) rfl ?_
    refine pr_i2l hC (by decide +kernel : decode cX12_shelf 26 = .ok (.i2l, 1)) ?_
    refine pr_lconst hC (0) (by decide +kernel : decode cX12_shelf 27 = .ok (.lconst 0, 1)) rfl ?_
    refine pr_lconst hC (1) (by decide +kernel : decode cX12_shelf 28 = .ok (.lconst 1, 1)) rfl ?_
    refine vc_Si hC hR [.long (Int32.toInt64 a2), .long 0, .long 1] fv_X12_131 (by decide +kernel : decode cX12_shelf 29 = .ok (.invokestatic 131, 3)) hU (t_X12_isIn  H) rfl rfl (Nat.le_of_ble_eq_true rfl) (Nat.le_of_ble_eq_true rfl) (Nat.le_refl 0) (Nat.le_refl 0) (fun r_14 U_13 h H hU => ?_)
    refine pr_if_eq hC 47 (by decide +kernel : decode cX12_shelf 32 = .ok (.ifCond .eq 15, 3)) (by decide) (fun c_32 => ?_) (fun c_32 => ?_)
    · replace H := H.1 c_32
      refine pr_aload_n hC (by decide +kernel : decode cX12_shelf 47 = .ok (.aload_n 0, 1)) rfl ?_
      refine pr_iconst hC (2) (by decide +kernel : decode cX12_shelf 48 = .ok (.iconst 2, 1)) rfl ?_
      refine pv_p0 hC fp_X12_121 (by decide +kernel : decode cX12_shelf 49 = .ok (.putfield 121, 3)) hU ho (by decide) rfl rfl rfl rfl (fun U_15 h e_U_15 hU => ?_)
      replace H := H U_15 e_U_15
      exact pv_sub [some (.ref (Y.2.1 o)), some (.int a1), some (.int a2), some (.int a3), none] (And.intro rfl (And.intro rfl (And.intro rfl (And.intro rfl trivial)))) (H h hU)
    replace H := H.2 c_32
    refine pr_iload_n hC (by decide +kernel : decode cX12_shelf 35 = .ok (.iload_n 3, 1)) rfl ?_
    refine pr_i2l hC (by decide +kernel : decode cX12_shelf 36 = .ok (.i2l, 1)) ?_
    refine pr_lconst hC (0) (by decide +kernel : decode cX12_shelf 37 = .ok (.lconst 0, 1)) rfl ?_
    refine pr_ldc2 hC (20) (by decide +kernel : decode cX12_shelf 38 = .ok (.ldc2_w 530, 3)) fk_X12_530 ?_
    refine vc_Si hC hR [.long (Int32.toInt64 a3), .long 0, .long 20] fv_X12_131 (by decide +kernel : decode cX12_shelf 41 = .ok (.invokestatic 131, 3)) hU (t_X12_isIn  H) rfl rfl (Nat.le_of_ble_eq_true rfl) (Nat.le_of_ble_eq_true rfl) (Nat.le_refl 0) (Nat.le_refl 0) (fun r_17 U_16 h H hU => ?_)
    refine pr_if_ne hC 52 (by decide +kernel : decode cX12_shelf 44 = .ok (.ifCond .ne 8, 3)) (by decide) (fun c_44 => ?_) (fun c_44 => ?_)
    · replace H := H.2 c_44
      exact pv_sub [some (.ref (Y.2.1 o)), some (.int a1), some (.int a2), some (.int a3), none] (And.intro rfl (And.intro rfl (And.intro rfl (And.intro rfl trivial)))) (H h hU)
    replace H := H.1 c_44
    refine pr_aload_n hC (by decide +kernel : decode cX12_shelf 47 = .ok (.aload_n 0, 1)) rfl ?_
    refine pr_iconst hC (2) (by decide +kernel : decode cX12_shelf 48 = .ok (.iconst 2, 1)) rfl ?_
    refine pv_p0 hC fp_X12_121 (by decide +kernel : decode cX12_shelf 49 = .ok (.putfield 121, 3)) hU ho (by decide) rfl rfl rfl rfl (fun U_18 h e_U_18 hU => ?_)
    replace H := H U_18 e_U_18
    exact pv_sub [some (.ref (Y.2.1 o)), some (.int a1), some (.int a2), some (.int a3), none] (And.intro rfl (And.intro rfl (And.intro rfl (And.intro rfl trivial)))) (H h hU)
  replace H := H.1 c_14
  refine pr_aload_n hC (by decide +kernel : decode cX12_shelf 17 = .ok (.aload_n 0, 1)) rfl ?_
  refine pr_iconst hC (1) (by decide +kernel : decode cX12_shelf 18 = .ok (.iconst 1, 1)) rfl ?_
  refine pv_p0 hC fp_X12_121 (by decide +kernel : decode cX12_shelf 19 = .ok (.putfield 121, 3)) hU ho (by decide) rfl rfl rfl rfl (fun U_12 h e_U_12 hU => ?_)
  replace H := H U_12 e_U_12
  refine pr_goto hC 52 (by decide +kernel : decode cX12_shelf 22 = .ok (.goto 30, 3)) (by decide) ?_
  exact pv_sub [some (.ref (Y.2.1 o)), some (.int a1), some (.int a2), some (.int a3), none] (And.intro rfl (And.intro rfl (And.intro rfl (And.intro rfl trivial)))) (H h hU)
def w_X12_lay (o : Nat) (a1 : Int32) (a2 : Int32) (a3 : Int32) (a4 : Int32) (U : Um) (post : Int32 → Um → Prop) : Prop :=
  ∀ (U_1 : Um), U_1 = sI U o 0 0 → w_X12_isPlace o a1 a2 U_1 (fun r_3 U_2 => (r_3 = 0 → ∀ (U_4 : Um), U_4 = sI U_2 o 0 1 → post 0 U_4) ∧ (¬ r_3 = 0 → w_X12_isOne o a3 U_2 (fun r_6 U_5 => (r_6 = 0 → ∀ (U_7 : Um), U_7 = sI U_5 o 0 1 → post 0 U_7) ∧ (¬ r_6 = 0 → vp_in a1 3 ∧ w_X12_one a4 U_5 (fun r_9 U_8 => ((uA U_5 o 51 (Int32.toNatClampNeg a1)) = r_9 → (∀ K_10 : Int64 → Um → Prop, (∀ (xs_11 : Int64) (U_12 : Um), (vp_in ((20 * a1) + a2) 60 ∧ ∀ (U_13 : Um), U_13 = sJ U_12 o 52 (va_up (uJ U_12 o 52) (Int32.toNatClampNeg ((20 * a1) + a2)) xs_11) → vp_in ((20 * a1) + a2) 60 ∧ ∀ (U_14 : Um), U_14 = sA U_13 o 53 (va_up (uA U_13 o 53) (Int32.toNatClampNeg ((20 * a1) + a2)) 1) → post 1 U_14) → K_10 xs_11 U_12) → (a4 = 0 → vp_in a3 10 ∧ w_X12_bitsOf (uF U_8 o 34 (Int32.toNatClampNeg a3)) U_8 (fun r_16 U_15 => K_10 (Int32.toInt64 r_16) U_15)) ∧ (¬ a4 = 0 → vp_in a3 20 ∧ K_10 (uJ U_8 o 5 (Int32.toNatClampNeg a3)) U_8))) ∧ (¬ (uA U_5 o 51 (Int32.toNatClampNeg a1)) = r_9 → post 0 U_8))))))
set_option maxHeartbeats 4000000 in
theorem t_X12_lay {l : Launch} {Y : px_Y} {o : Nat} {a1 : Int32} {a2 : Int32} {a3 : Int32} {a4 : Int32} {U : Um} {post : Int32 → Um → Prop} (ho : oc o = 10) (H : w_X12_lay o a1 a2 a3 a4 U post) : um l Y 2 yX12_lay cX12_lay 5 (some (.boolean)) [.ref (Y.2.1 o), .int a1, .int a2, .int a3, .int a4] U (pq_i post) := by
  unfold w_X12_lay at H
  refine um_of (by decide) (Nat.le_of_ble_eq_true rfl) [some (.ref (Y.2.1 o)), some (.int a1), some (.int a2), some (.int a3), some (.int a4)] rfl (fun X h0 hh sz hM hU => ?_)
  have hC := hM.1
  have hR := hM.2.2.1
  refine pr_aload_n hC (by decide +kernel : decode cX12_lay 0 = .ok (.aload_n 0, 1)) rfl ?_
  refine pr_iconst hC (0) (by decide +kernel : decode cX12_lay 1 = .ok (.iconst 0, 1)) rfl ?_
  refine pv_p0 hC fp_X12_121 (by decide +kernel : decode cX12_lay 2 = .ok (.putfield 121, 3)) hU ho (by decide) rfl rfl rfl rfl (fun U_1 h e_U_1 hU => ?_)
  replace H := H U_1 e_U_1
  refine pr_aload_n hC (by decide +kernel : decode cX12_lay 5 = .ok (.aload_n 0, 1)) rfl ?_
  refine pr_iload_n hC (by decide +kernel : decode cX12_lay 6 = .ok (.iload_n 1, 1)) rfl ?_
  refine pr_iload_n hC (by decide +kernel : decode cX12_lay 7 = .ok (.iload_n 2, 1)) rfl ?_
  refine vc_Vi hC hR [.int a1, .int a2] fv_X12_532 (by decide +kernel : decode cX12_lay 8 = .ok (.invokevirtual 532, 3)) hU (t_X12_isPlace ho H) ho (by decide) rfl rfl rfl (Nat.le_of_ble_eq_true rfl) (Nat.le_of_ble_eq_true rfl) (Nat.le_refl 0) (Nat.le_refl 0) (fun r_3 U_2 h H hU => ?_)
  refine pr_if_eq hC 22 (by decide +kernel : decode cX12_lay 11 = .ok (.ifCond .eq 11, 3)) (by decide) (fun c_11 => ?_) (fun c_11 => ?_)
  · replace H := H.1 c_11
    refine pr_aload_n hC (by decide +kernel : decode cX12_lay 22 = .ok (.aload_n 0, 1)) rfl ?_
    refine pr_iconst hC (1) (by decide +kernel : decode cX12_lay 23 = .ok (.iconst 1, 1)) rfl ?_
    refine pv_p0 hC fp_X12_121 (by decide +kernel : decode cX12_lay 24 = .ok (.putfield 121, 3)) hU ho (by decide) rfl rfl rfl rfl (fun U_4 h e_U_4 hU => ?_)
    replace H := H U_4 e_U_4
    refine pr_iconst hC (0) (by decide +kernel : decode cX12_lay 27 = .ok (.iconst 0, 1)) rfl ?_
    exact pv_zret hM (by decide +kernel : decode cX12_lay 28 = .ok (.ireturn, 1)) (Or.inl rfl) hU H
  replace H := H.2 c_11
  refine pr_aload_n hC (by decide +kernel : decode cX12_lay 14 = .ok (.aload_n 0, 1)) rfl ?_
  refine pr_iload_n hC (by decide +kernel : decode cX12_lay 15 = .ok (.iload_n 3, 1)) rfl ?_
  refine vc_Vi hC hR [.int a3] fv_X12_368 (by decide +kernel : decode cX12_lay 16 = .ok (.invokevirtual 368, 3)) hU (t_X12_isOne ho H) ho (by decide) rfl rfl rfl (Nat.le_of_ble_eq_true rfl) (Nat.le_of_ble_eq_true rfl) (Nat.le_refl 0) (Nat.le_refl 0) (fun r_6 U_5 h H hU => ?_)
  refine pr_if_ne hC 29 (by decide +kernel : decode cX12_lay 19 = .ok (.ifCond .ne 10, 3)) (by decide) (fun c_19 => ?_) (fun c_19 => ?_)
  · replace H := H.2 c_19
    refine pr_aload_n hC (by decide +kernel : decode cX12_lay 29 = .ok (.aload_n 0, 1)) rfl ?_
    refine pu_g1 hC fg_X12_111 (by decide +kernel : decode cX12_lay 30 = .ok (.getfield 111, 3)) hU ho (by decide) rfl (by decide) ?_
    refine pr_iload_n hC (by decide +kernel : decode cX12_lay 33 = .ok (.iload_n 1, 1)) rfl ?_
    refine pu_iald hC (by decide +kernel : decode cX12_lay 34 = .ok (.iaload, 1)) hU ho rfl H.1 ?_
    replace H := H.2
    refine pr_iload hC (by decide +kernel : decode cX12_lay 35 = .ok (.iload 4, 2)) rfl ?_
    refine vc_Si hC hR [.int a4] fv_X12_357 (by decide +kernel : decode cX12_lay 37 = .ok (.invokestatic 357, 3)) hU (t_X12_one  H) rfl rfl (Nat.le_of_ble_eq_true rfl) (Nat.le_of_ble_eq_true rfl) (Nat.le_refl 0) (Nat.le_refl 0) (fun r_9 U_8 h H hU => ?_)
    refine pr_icmp_eq hC 45 (by decide +kernel : decode cX12_lay 40 = .ok (.if_icmp .eq 5, 3)) (by decide) (fun c_40 => ?_) (fun c_40 => ?_)
    · replace H := H.1 c_40
      refine pr_aload_n hC (by decide +kernel : decode cX12_lay 45 = .ok (.aload_n 0, 1)) rfl ?_
      refine pu_g1 hC fg_X12_114 (by decide +kernel : decode cX12_lay 46 = .ok (.getfield 114, 3)) hU ho (by decide) rfl (by decide) ?_
      refine pr_bipush hC (20) (by decide +kernel : decode cX12_lay 49 = .ok (.bipush 20, 2)) rfl ?_
      refine pr_iload_n hC (by decide +kernel : decode cX12_lay 51 = .ok (.iload_n 1, 1)) rfl ?_
      refine pr_imul hC (by decide +kernel : decode cX12_lay 52 = .ok (.imul, 1)) ?_
      refine pr_iload_n hC (by decide +kernel : decode cX12_lay 53 = .ok (.iload_n 2, 1)) rfl ?_
      refine pr_iadd hC (by decide +kernel : decode cX12_lay 54 = .ok (.iadd, 1)) ?_
      refine pr_iload hC (by decide +kernel : decode cX12_lay 55 = .ok (.iload 4, 2)) rfl ?_
      replace H := H (fun xs_11 U_12 => ∀ h : pe_H, rF Y h0 U_12 h → pw X Y.1 (pm_A hh sz) (pm_E X Y.1 hh sz 0 0 (pm_P Y h0 sz (pq_i post))) 79 [some (.ref (Y.2.1 o)), some (.int a1), some (.int a2), none, none] [.long xs_11, .int ((20 * a1) + a2), .ref (Y.2.2 o 52)] h sz 0 0) (by
        intro xs_11 U_12 H h hU
        refine pv_last hC (by decide +kernel : decode cX12_lay 79 = .ok (.lastore, 1)) hU ho rfl H.1 (fun U_13 h e_U_13 hU => ?_)
        replace H := H.2 U_13 e_U_13
        refine pr_aload_n hC (by decide +kernel : decode cX12_lay 80 = .ok (.aload_n 0, 1)) rfl ?_
        refine pu_g1 hC fg_X12_117 (by decide +kernel : decode cX12_lay 81 = .ok (.getfield 117, 3)) hU ho (by decide) rfl (by decide) ?_
        refine pr_bipush hC (20) (by decide +kernel : decode cX12_lay 84 = .ok (.bipush 20, 2)) rfl ?_
        refine pr_iload_n hC (by decide +kernel : decode cX12_lay 86 = .ok (.iload_n 1, 1)) rfl ?_
        refine pr_imul hC (by decide +kernel : decode cX12_lay 87 = .ok (.imul, 1)) ?_
        refine pr_iload_n hC (by decide +kernel : decode cX12_lay 88 = .ok (.iload_n 2, 1)) rfl ?_
        refine pr_iadd hC (by decide +kernel : decode cX12_lay 89 = .ok (.iadd, 1)) ?_
        refine pr_iconst hC (1) (by decide +kernel : decode cX12_lay 90 = .ok (.iconst 1, 1)) rfl ?_
        refine pv_zast hC rfl (by decide +kernel : decode cX12_lay 91 = .ok (.bastore, 1)) hU ho rfl H.1 (fun U_14 h e_U_14 hU => ?_)
        replace H := H.2 U_14 e_U_14
        refine pr_iconst hC (1) (by decide +kernel : decode cX12_lay 92 = .ok (.iconst 1, 1)) rfl ?_
        exact pv_zret hM (by decide +kernel : decode cX12_lay 93 = .ok (.ireturn, 1)) (Or.inr rfl) hU H)
      refine pr_if_eq hC 69 (by decide +kernel : decode cX12_lay 57 = .ok (.ifCond .eq 12, 3)) (by decide) (fun c_57 => ?_) (fun c_57 => ?_)
      · replace H := H.1 c_57
        refine pr_aload_n hC (by decide +kernel : decode cX12_lay 69 = .ok (.aload_n 0, 1)) rfl ?_
        refine pu_g1 hC fg_X12_71 (by decide +kernel : decode cX12_lay 70 = .ok (.getfield 71, 3)) hU ho (by decide) rfl (by decide) ?_
        refine pr_iload_n hC (by decide +kernel : decode cX12_lay 73 = .ok (.iload_n 3, 1)) rfl ?_
        refine pu_fald hC (by decide +kernel : decode cX12_lay 74 = .ok (.faload, 1)) hU ho rfl H.1 ?_
        replace H := H.2
        refine vc_Si hC hR [.float (uF U_8 o 34 (Int32.toNatClampNeg a3))] fv_X12_374 (by decide +kernel : decode cX12_lay 75 = .ok (.invokestatic 374, 3)) hU (t_X12_bitsOf  H) rfl rfl (Nat.le_of_ble_eq_true rfl) (Nat.le_of_ble_eq_true rfl) (Nat.le_refl 0) (Nat.le_refl 0) (fun r_16 U_15 h H hU => ?_)
        refine pr_i2l hC (by decide +kernel : decode cX12_lay 78 = .ok (.i2l, 1)) ?_
        exact pv_sub [some (.ref (Y.2.1 o)), some (.int a1), some (.int a2), none, none] (And.intro rfl (And.intro rfl (And.intro rfl trivial))) (H h hU)
      replace H := H.2 c_57
      refine pr_aload_n hC (by decide +kernel : decode cX12_lay 60 = .ok (.aload_n 0, 1)) rfl ?_
      refine pu_g1 hC fg_X12_25 (by decide +kernel : decode cX12_lay 61 = .ok (.getfield 25, 3)) hU ho (by decide) rfl (by decide) ?_
      refine pr_iload_n hC (by decide +kernel : decode cX12_lay 64 = .ok (.iload_n 3, 1)) rfl ?_
      refine pu_lald hC (by decide +kernel : decode cX12_lay 65 = .ok (.laload, 1)) hU ho rfl H.1 ?_
      replace H := H.2
      refine pr_goto hC 79 (by decide +kernel : decode cX12_lay 66 = .ok (.goto 13, 3)) (by decide) ?_
      exact pv_sub [some (.ref (Y.2.1 o)), some (.int a1), some (.int a2), none, none] (And.intro rfl (And.intro rfl (And.intro rfl trivial))) (H h hU)
    replace H := H.2 c_40
    refine pr_iconst hC (0) (by decide +kernel : decode cX12_lay 43 = .ok (.iconst 0, 1)) rfl ?_
    exact pv_zret hM (by decide +kernel : decode cX12_lay 44 = .ok (.ireturn, 1)) (Or.inl rfl) hU H
  replace H := H.1 c_19
  refine pr_aload_n hC (by decide +kernel : decode cX12_lay 22 = .ok (.aload_n 0, 1)) rfl ?_
  refine pr_iconst hC (1) (by decide +kernel : decode cX12_lay 23 = .ok (.iconst 1, 1)) rfl ?_
  refine pv_p0 hC fp_X12_121 (by decide +kernel : decode cX12_lay 24 = .ok (.putfield 121, 3)) hU ho (by decide) rfl rfl rfl rfl (fun U_7 h e_U_7 hU => ?_)
  replace H := H U_7 e_U_7
  refine pr_iconst hC (0) (by decide +kernel : decode cX12_lay 27 = .ok (.iconst 0, 1)) rfl ?_
  exact pv_zret hM (by decide +kernel : decode cX12_lay 28 = .ok (.ireturn, 1)) (Or.inl rfl) hU H
def w_X12_look (o : Nat) (a1 : Int32) (a2 : Int32) (U : Um) (post : Int64 → Um → Prop) : Prop :=
  ∀ (U_1 : Um), U_1 = sI U o 0 0 → w_X12_isPlace o a1 a2 U_1 (fun r_3 U_2 => (r_3 = 0 → ∀ (U_4 : Um), U_4 = sI U_2 o 0 1 → post 0 U_4) ∧ (¬ r_3 = 0 → vp_in ((20 * a1) + a2) 60 ∧ ((uA U_2 o 53 (Int32.toNatClampNeg ((20 * a1) + a2))) = 0 → post (-1) U_2) ∧ (¬ (uA U_2 o 53 (Int32.toNatClampNeg ((20 * a1) + a2))) = 0 → vp_in ((20 * a1) + a2) 60 ∧ post (uJ U_2 o 52 (Int32.toNatClampNeg ((20 * a1) + a2))) U_2)))
set_option maxHeartbeats 4000000 in
theorem t_X12_look {l : Launch} {Y : px_Y} {o : Nat} {a1 : Int32} {a2 : Int32} {U : Um} {post : Int64 → Um → Prop} (ho : oc o = 10) (H : w_X12_look o a1 a2 U post) : um l Y 2 yX12_look cX12_look 3 (some (.long)) [.ref (Y.2.1 o), .int a1, .int a2] U (pq_l post) := by
  unfold w_X12_look at H
  refine um_of (by decide) (Nat.le_of_ble_eq_true rfl) [some (.ref (Y.2.1 o)), some (.int a1), some (.int a2)] rfl (fun X h0 hh sz hM hU => ?_)
  have hC := hM.1
  have hR := hM.2.2.1
  refine pr_aload_n hC (by decide +kernel : decode cX12_look 0 = .ok (.aload_n 0, 1)) rfl ?_
  refine pr_iconst hC (0) (by decide +kernel : decode cX12_look 1 = .ok (.iconst 0, 1)) rfl ?_
  refine pv_p0 hC fp_X12_121 (by decide +kernel : decode cX12_look 2 = .ok (.putfield 121, 3)) hU ho (by decide) rfl rfl rfl rfl (fun U_1 h e_U_1 hU => ?_)
  replace H := H U_1 e_U_1
  refine pr_aload_n hC (by decide +kernel : decode cX12_look 5 = .ok (.aload_n 0, 1)) rfl ?_
  refine pr_iload_n hC (by decide +kernel : decode cX12_look 6 = .ok (.iload_n 1, 1)) rfl ?_
  refine pr_iload_n hC (by decide +kernel : decode cX12_look 7 = .ok (.iload_n 2, 1)) rfl ?_
  refine vc_Vi hC hR [.int a1, .int a2] fv_X12_532 (by decide +kernel : decode cX12_look 8 = .ok (.invokevirtual 532, 3)) hU (t_X12_isPlace ho H) ho (by decide) rfl rfl rfl (Nat.le_of_ble_eq_true rfl) (Nat.le_of_ble_eq_true rfl) (Nat.le_refl 0) (Nat.le_refl 0) (fun r_3 U_2 h H hU => ?_)
  refine pr_if_ne hC 21 (by decide +kernel : decode cX12_look 11 = .ok (.ifCond .ne 10, 3)) (by decide) (fun c_11 => ?_) (fun c_11 => ?_)
  · replace H := H.2 c_11
    refine pr_aload_n hC (by decide +kernel : decode cX12_look 21 = .ok (.aload_n 0, 1)) rfl ?_
    refine pu_g1 hC fg_X12_117 (by decide +kernel : decode cX12_look 22 = .ok (.getfield 117, 3)) hU ho (by decide) rfl (by decide) ?_
    refine pr_bipush hC (20) (by decide +kernel : decode cX12_look 25 = .ok (.bipush 20, 2)) rfl ?_
    refine pr_iload_n hC (by decide +kernel : decode cX12_look 27 = .ok (.iload_n 1, 1)) rfl ?_
    refine pr_imul hC (by decide +kernel : decode cX12_look 28 = .ok (.imul, 1)) ?_
    refine pr_iload_n hC (by decide +kernel : decode cX12_look 29 = .ok (.iload_n 2, 1)) rfl ?_
    refine pr_iadd hC (by decide +kernel : decode cX12_look 30 = .ok (.iadd, 1)) ?_
    refine pu_zald hC (by decide +kernel : decode cX12_look 31 = .ok (.baload, 1)) hU ho rfl H.1 ?_
    replace H := H.2
    refine pr_if_eq hC 49 (by decide +kernel : decode cX12_look 32 = .ok (.ifCond .eq 17, 3)) (by decide) (fun c_32 => ?_) (fun c_32 => ?_)
    · replace H := H.1 c_32
      refine pr_ldc2 hC (-1) (by decide +kernel : decode cX12_look 49 = .ok (.ldc2_w 535, 3)) fk_X12_535 ?_
      exact pv_lret hM (by decide +kernel : decode cX12_look 52 = .ok (.lreturn, 1)) hU H
    replace H := H.2 c_32
    refine pr_aload_n hC (by decide +kernel : decode cX12_look 35 = .ok (.aload_n 0, 1)) rfl ?_
    refine pu_g1 hC fg_X12_114 (by decide +kernel : decode cX12_look 36 = .ok (.getfield 114, 3)) hU ho (by decide) rfl (by decide) ?_
    refine pr_bipush hC (20) (by decide +kernel : decode cX12_look 39 = .ok (.bipush 20, 2)) rfl ?_
    refine pr_iload_n hC (by decide +kernel : decode cX12_look 41 = .ok (.iload_n 1, 1)) rfl ?_
    refine pr_imul hC (by decide +kernel : decode cX12_look 42 = .ok (.imul, 1)) ?_
    refine pr_iload_n hC (by decide +kernel : decode cX12_look 43 = .ok (.iload_n 2, 1)) rfl ?_
    refine pr_iadd hC (by decide +kernel : decode cX12_look 44 = .ok (.iadd, 1)) ?_
    refine pu_lald hC (by decide +kernel : decode cX12_look 45 = .ok (.laload, 1)) hU ho rfl H.1 ?_
    replace H := H.2
    refine pr_goto hC 52 (by decide +kernel : decode cX12_look 46 = .ok (.goto 6, 3)) (by decide) ?_
    exact pv_lret hM (by decide +kernel : decode cX12_look 52 = .ok (.lreturn, 1)) hU H
  replace H := H.1 c_11
  refine pr_aload_n hC (by decide +kernel : decode cX12_look 14 = .ok (.aload_n 0, 1)) rfl ?_
  refine pr_iconst hC (1) (by decide +kernel : decode cX12_look 15 = .ok (.iconst 1, 1)) rfl ?_
  refine pv_p0 hC fp_X12_121 (by decide +kernel : decode cX12_look 16 = .ok (.putfield 121, 3)) hU ho (by decide) rfl rfl rfl rfl (fun U_4 h e_U_4 hU => ?_)
  replace H := H U_4 e_U_4
  refine pr_lconst hC (0) (by decide +kernel : decode cX12_look 19 = .ok (.lconst 0, 1)) rfl ?_
  exact pv_lret hM (by decide +kernel : decode cX12_look 20 = .ok (.lreturn, 1)) hU H
