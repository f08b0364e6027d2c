def b_X12_readOff_L75 (o0 : Nat) (x1 : Int32) (x3 : Int32) (post : Int32 → Um → Prop) (k_100 : Um → Prop) (rec_ : Int32 → Um → Prop) (x4 : Int32) (U : Um) : Prop :=
  (x3 < x4 → k_100 U) ∧ (¬ x3 < x4 → vp_in x1 20 ∧ vp_in x1 20 ∧ ∀ (U_15 : Um), U_15 = sA U o0 8 (va_up (uA U o0 8) (Int32.toNatClampNeg x1) ((uA U o0 8 (Int32.toNatClampNeg x1)) ||| ((1 : Int32) <<< (x4 &&& 31)))) → ∀ (x4_16 : Int32), x4_16 = x4 + 1 → rec_ x4_16 U_15)
def w_X12_readOff_L75 (o0 : Nat) (x1 : Int32) (x3 : Int32) (post : Int32 → Um → Prop) (k_100 : Um → Prop) (n_ : Nat) : Int32 → Um → Prop := Nat.rec (motive := fun _ => Int32 → Um → Prop) (fun _ _ => False) (fun _ ih => b_X12_readOff_L75 o0 x1 x3 post k_100 ih) n_
def w_X12_readOff (o : Nat) (U : Um) (post : Int32 → Um → Prop) : Prop :=
  w_X12_next o U (fun U_1 => w_X12_readOne o 2 U_1 (fun r_4 U_3 => (r_4 = 0 → post 0 U_3) ∧ (¬ r_4 = 0 → ∀ (x1_5 : Int32), x1_5 = 10 + (uI U_3 o 28) → w_X12_readNumber o 0 6 U_3 (fun r_7 U_6 => (r_7 = 0 → post 0 U_6) ∧ (¬ r_7 = 0 → ∀ (x2_8 : Int32), x2_8 = uI U_6 o 28 → ∀ (x3_9 : Int32), x3_9 = uI U_6 o 28 → w_X12_isWord o 7 U_6 (fun r_11 U_10 => (∀ K_12 : Int32 → Um → Prop, (∀ (x3_13 : Int32) (U_14 : Um), ((∃ n_18, w_X12_readOff_L75 o x1_5 x3_13 post (fun U_17 => post 1 U_17) n_18 x2_8 U_14)) → K_12 x3_13 U_14) → (r_11 = 0 → K_12 x3_9 U_10) ∧ (¬ r_11 = 0 → w_X12_readAfter o 7 x2_8 6 U_10 (fun r_20 U_19 => (r_20 = 0 → post 0 U_19) ∧ (¬ r_20 = 0 → ∀ (x3_21 : Int32), x3_21 = uI U_19 o 28 → K_12 x3_21 U_19))))))))))
set_option maxHeartbeats 4000000 in
theorem tl_X12_readOff_L75 {l : Launch} {Y : px_Y} {X : px_X} {h0 hh : pe_H} {sz : Nat} (o0 : Nat) (x1 : Int32) (x3 : Int32) (post : Int32 → Um → Prop) (k_100 : Um → Prop) (ho0 : oc o0 = 10)  (hC : px_C X Y.1 (pm_A hh sz) cX12_readOff RX12 5) (hM : px_M l X Y.1 hh sz yX12_readOff cX12_readOff 5 (some (.boolean)) 10 0 0) (hR : X.2.2.2.1 = pm_rm 10 0 0) (hk_100 : ∀ (U : Um) (h : pe_H), k_100 U → rF Y h0 U h → pw X Y.1 (pm_A hh sz) (pm_E X Y.1 hh sz 0 0 (pm_P Y h0 sz (pq_i post))) 100 [none, none, none, none, none] [] h sz 0 0) : ∀ (n_ : Nat) (x4 : Int32) (U : Um) (h : pe_H), rF Y h0 U h → w_X12_readOff_L75 o0 x1 x3 post k_100 n_ x4 U → pw X Y.1 (pm_A hh sz) (pm_E X Y.1 hh sz 0 0 (pm_P Y h0 sz (pq_i post))) 75 [some (.ref (Y.2.1 o0)), some (.int x1), none, some (.int x3), some (.int x4)] [] h sz 0 0 := by
  intro n_
  induction n_ with
  | zero => intro x4 U h hU H; exact False.elim H
  | succ n_ ih =>
    intro x4 U h hU H
    replace H : b_X12_readOff_L75 o0 x1 x3 post k_100 (w_X12_readOff_L75 o0 x1 x3 post k_100 n_) x4 U := H
    unfold b_X12_readOff_L75 at H
    refine pr_iload hC (by decide +kernel : decode cX12_readOff 75 = .ok (.iload 4, 2)) rfl ?_
    refine pr_iload_n hC (by decide +kernel : decode cX12_readOff 77 = .ok (.iload_n 3, 1)) rfl ?_
    refine pr_icmp_gt hC 100 (by decide +kernel : decode cX12_readOff 78 = .ok (.if_icmp .gt 22, 3)) (by decide) (fun c_78 => ?_) (fun c_78 => ?_)
    · replace H := H.1 c_78
      exact pv_sub [none, none, none, none, none] (trivial) (hk_100 U h H hU)
    replace H := H.2 c_78
    refine pr_aload_n hC (by decide +kernel : decode cX12_readOff 81 = .ok (.aload_n 0, 1)) rfl ?_
    refine pu_g1 hC fg_X12_34 (by decide +kernel : decode cX12_readOff 82 = .ok (.getfield 34, 3)) hU ho0 (by decide) rfl (by decide) ?_
    refine pr_iload_n hC (by decide +kernel : decode cX12_readOff 85 = .ok (.iload_n 1, 1)) rfl ?_
    refine pr_dup2 hC (by decide +kernel : decode cX12_readOff 86 = .ok (.dup2, 1)) rfl rfl ?_
    refine pu_iald hC (by decide +kernel : decode cX12_readOff 87 = .ok (.iaload, 1)) hU ho0 rfl H.1 ?_
    replace H := H.2
    refine pr_iconst hC (1) (by decide +kernel : decode cX12_readOff 88 = .ok (.iconst 1, 1)) rfl ?_
    refine pr_iload hC (by decide +kernel : decode cX12_readOff 89 = .ok (.iload 4, 2)) rfl ?_
    refine pr_ishl hC (by decide +kernel : decode cX12_readOff 91 = .ok (.ishl, 1)) ?_
    refine pr_ior hC (by decide +kernel : decode cX12_readOff 92 = .ok (.ior, 1)) ?_
    refine pv_iast hC (by decide +kernel : decode cX12_readOff 93 = .ok (.iastore, 1)) hU ho0 rfl H.1 (fun U_15 h e_U_15 hU => ?_)
    replace H := H.2 U_15 e_U_15
    refine pv_iinc hC (v := x4 + 1) (by decide +kernel : decode cX12_readOff 94 = .ok (.iinc 4 1, 3)) rfl (by decide) rfl rfl (fun x4_16 e_x4_16 => ?_)
    replace H := H x4_16 e_x4_16
    refine pr_goto hC 75 (by decide +kernel : decode cX12_readOff 97 = .ok (.goto (-22), 3)) (by decide) ?_
    exact pv_sub [some (.ref (Y.2.1 o0)), some (.int x1), none, some (.int x3), some (.int x4_16)] (And.intro rfl (And.intro rfl (And.intro rfl (And.intro rfl trivial)))) (ih _ U_15 h hU H)
set_option maxHeartbeats 4000000 in
theorem t_X12_readOff {l : Launch} {Y : px_Y} {o : Nat} {U : Um} {post : Int32 → Um → Prop} (ho : oc o = 10) (H : w_X12_readOff o U post) : um l Y 10 yX12_readOff cX12_readOff 5 (some (.boolean)) [.ref (Y.2.1 o)] U (pq_i post) := by
  unfold w_X12_readOff at H
  refine um_of (by decide) (Nat.le_of_ble_eq_true rfl) [some (.ref (Y.2.1 o)), none, none, none, none] rfl (fun X h0 hh sz hM hU => ?_)
  have hC := hM.1
  have hR := hM.2.2.1
  refine pr_aload_n hC (by decide +kernel : decode cX12_readOff 0 = .ok (.aload_n 0, 1)) rfl ?_
  refine vc_Vv hC hR [] fv_X12_242 (by decide +kernel : decode cX12_readOff 1 = .ok (.invokevirtual 242, 3)) hU (t_X12_next ho H) ho (by decide) rfl rfl rfl (Nat.le_of_ble_eq_true rfl) (Nat.le_of_ble_eq_true rfl) (Nat.le_refl 0) (Nat.le_refl 0) (fun U_1 h H hU => ?_)
  refine pr_aload_n hC (by decide +kernel : decode cX12_readOff 4 = .ok (.aload_n 0, 1)) rfl ?_
  refine pr_iconst hC (2) (by decide +kernel : decode cX12_readOff 5 = .ok (.iconst 2, 1)) rfl ?_
  refine vc_Vi hC hR [.int 2] fv_X12_271 (by decide +kernel : decode cX12_readOff 6 = .ok (.invokevirtual 271, 3)) hU (t_X12_readOne ho H) ho (by decide) rfl rfl rfl (Nat.le_of_ble_eq_true rfl) (Nat.le_of_ble_eq_true rfl) (Nat.le_refl 0) (Nat.le_refl 0) (fun r_4 U_3 h H hU => ?_)
  refine pr_if_ne hC 14 (by decide +kernel : decode cX12_readOff 9 = .ok (.ifCond .ne 5, 3)) (by decide) (fun c_9 => ?_) (fun c_9 => ?_)
  · replace H := H.2 c_9
    refine pr_bipush hC (10) (by decide +kernel : decode cX12_readOff 14 = .ok (.bipush 10, 2)) rfl ?_
    refine pr_aload_n hC (by decide +kernel : decode cX12_readOff 16 = .ok (.aload_n 0, 1)) rfl ?_
    refine pu_g0 hC fg_X12_245 (by decide +kernel : decode cX12_readOff 17 = .ok (.getfield 245, 3)) hU ho (by decide) rfl rfl ?_
    refine pr_iadd hC (by decide +kernel : decode cX12_readOff 20 = .ok (.iadd, 1)) ?_
    refine pv_topi (fun x1_5 e_x1_5 => ?_)
    replace H := H x1_5 e_x1_5
    refine pr_istore_n hC (by decide +kernel : decode cX12_readOff 21 = .ok (.istore_n 1, 1)) (by decide) rfl ?_
    refine pr_aload_n hC (by decide +kernel : decode cX12_readOff 22 = .ok (.aload_n 0, 1)) rfl ?_
    refine pr_iconst hC (0) (by decide +kernel : decode cX12_readOff 23 = .ok (.iconst 0, 1)) rfl ?_
    refine pr_bipush hC (6) (by decide +kernel : decode cX12_readOff 24 = .ok (.bipush 6, 2)) rfl ?_
    refine vc_Vi hC hR [.int 0, .int 6] fv_X12_251 (by decide +kernel : decode cX12_readOff 26 = .ok (.invokevirtual 251, 3)) hU (t_X12_readNumber ho H) ho (by decide) rfl rfl rfl (Nat.le_of_ble_eq_true rfl) (Nat.le_of_ble_eq_true rfl) (Nat.le_refl 0) (Nat.le_refl 0) (fun r_7 U_6 h H hU => ?_)
    refine pr_if_ne hC 34 (by decide +kernel : decode cX12_readOff 29 = .ok (.ifCond .ne 5, 3)) (by decide) (fun c_29 => ?_) (fun c_29 => ?_)
    · replace H := H.2 c_29
      refine pr_aload_n hC (by decide +kernel : decode cX12_readOff 34 = .ok (.aload_n 0, 1)) rfl ?_
      refine pu_g0 hC fg_X12_245 (by decide +kernel : decode cX12_readOff 35 = .ok (.getfield 245, 3)) hU ho (by decide) rfl rfl ?_
      refine pv_topi (fun x2_8 e_x2_8 => ?_)
      replace H := H x2_8 e_x2_8
      refine pr_istore_n hC (by decide +kernel : decode cX12_readOff 38 = .ok (.istore_n 2, 1)) (by decide) rfl ?_
      refine pr_aload_n hC (by decide +kernel : decode cX12_readOff 39 = .ok (.aload_n 0, 1)) rfl ?_
      refine pu_g0 hC fg_X12_245 (by decide +kernel : decode cX12_readOff 40 = .ok (.getfield 245, 3)) hU ho (by decide) rfl rfl ?_
      refine pv_topi (fun x3_9 e_x3_9 => ?_)
      replace H := H x3_9 e_x3_9
      refine pr_istore_n hC (by decide +kernel : decode cX12_readOff 43 = .ok (.istore_n 3, 1)) (by decide) rfl ?_
      refine pr_aload_n hC (by decide +kernel : decode cX12_readOff 44 = .ok (.aload_n 0, 1)) rfl ?_
      refine pr_ldcs hC ss_X12_206 (by decide +kernel : decode cX12_readOff 45 = .ok (.ldc 206, 2)) ?_
      refine vc_Vi hC hR [.ref (Y.1.2.2 (200 + 7))] fv_X12_192 (by decide +kernel : decode cX12_readOff 47 = .ok (.invokevirtual 192, 3)) hU (t_X12_isWord ho (by decide) H) ho (by decide) rfl rfl rfl (Nat.le_of_ble_eq_true rfl) (Nat.le_of_ble_eq_true rfl) (Nat.le_refl 0) (Nat.le_refl 0) (fun r_11 U_10 h H hU => ?_)
      replace H := H (fun x3_13 U_14 => ∀ h : pe_H, rF Y h0 U_14 h → pw X Y.1 (pm_A hh sz) (pm_E X Y.1 hh sz 0 0 (pm_P Y h0 sz (pq_i post))) 72 [some (.ref (Y.2.1 o)), some (.int x1_5), some (.int x2_8), some (.int x3_13), none] [] h sz 0 0) (by
        intro x3_13 U_14 H h hU
        refine pr_iload_n hC (by decide +kernel : decode cX12_readOff 72 = .ok (.iload_n 2, 1)) rfl ?_
        refine pr_istore hC (by decide +kernel : decode cX12_readOff 73 = .ok (.istore 4, 2)) (by decide) rfl ?_
        obtain ⟨n_18, H⟩ := H
        refine pv_sub [some (.ref (Y.2.1 o)), some (.int x1_5), none, some (.int x3_13), some (.int x2_8)] (And.intro rfl (And.intro rfl (And.intro rfl (And.intro rfl trivial)))) ?_
        refine tl_X12_readOff_L75 _ _ _ _ _ ho hC hM hR (fun U_17 h H hU => ?_) n_18 _ U_14 h hU H
        refine pr_iconst hC (1) (by decide +kernel : decode cX12_readOff 100 = .ok (.iconst 1, 1)) rfl ?_
        exact pv_zret hM (by decide +kernel : decode cX12_readOff 101 = .ok (.ireturn, 1)) (Or.inr rfl) hU H)
      refine pr_if_eq hC 72 (by decide +kernel : decode cX12_readOff 50 = .ok (.ifCond .eq 22, 3)) (by decide) (fun c_50 => ?_) (fun c_50 => ?_)
      · replace H := H.1 c_50
        exact pv_sub [some (.ref (Y.2.1 o)), some (.int x1_5), some (.int x2_8), some (.int x3_9), none] (And.intro rfl (And.intro rfl (And.intro rfl (And.intro rfl trivial)))) (H h hU)
      replace H := H.2 c_50
      refine pr_aload_n hC (by decide +kernel : decode cX12_readOff 53 = .ok (.aload_n 0, 1)) rfl ?_
      refine pr_ldcs hC ss_X12_206 (by decide +kernel : decode cX12_readOff 54 = .ok (.ldc 206, 2)) ?_
      refine pr_iload_n hC (by decide +kernel : decode cX12_readOff 56 = .ok (.iload_n 2, 1)) rfl ?_
      refine pr_bipush hC (6) (by decide +kernel : decode cX12_readOff 57 = .ok (.bipush 6, 2)) rfl ?_
      refine vc_Vi hC hR [.ref (Y.1.2.2 (200 + 7)), .int x2_8, .int 6] fv_X12_274 (by decide +kernel : decode cX12_readOff 59 = .ok (.invokevirtual 274, 3)) hU (t_X12_readAfter ho (by decide) H) ho (by decide) rfl rfl rfl (Nat.le_of_ble_eq_true rfl) (Nat.le_of_ble_eq_true rfl) (Nat.le_refl 0) (Nat.le_refl 0) (fun r_20 U_19 h H hU => ?_)
      refine pr_if_ne hC 67 (by decide +kernel : decode cX12_readOff 62 = .ok (.ifCond .ne 5, 3)) (by decide) (fun c_62 => ?_) (fun c_62 => ?_)
      · replace H := H.2 c_62
        refine pr_aload_n hC (by decide +kernel : decode cX12_readOff 67 = .ok (.aload_n 0, 1)) rfl ?_
        refine pu_g0 hC fg_X12_245 (by decide +kernel : decode cX12_readOff 68 = .ok (.getfield 245, 3)) hU ho (by decide) rfl rfl ?_
        refine pv_topi (fun x3_21 e_x3_21 => ?_)
        replace H := H x3_21 e_x3_21
        refine pr_istore_n hC (by decide +kernel : decode cX12_readOff 71 = .ok (.istore_n 3, 1)) (by decide) rfl ?_
        exact pv_sub [some (.ref (Y.2.1 o)), some (.int x1_5), some (.int x2_8), some (.int x3_21), none] (And.intro rfl (And.intro rfl (And.intro rfl (And.intro rfl trivial)))) (H h hU)
      replace H := H.1 c_62
      refine pr_iconst hC (0) (by decide +kernel : decode cX12_readOff 65 = .ok (.iconst 0, 1)) rfl ?_
      exact pv_zret hM (by decide +kernel : decode cX12_readOff 66 = .ok (.ireturn, 1)) (Or.inl rfl) hU H
    replace H := H.1 c_29
    refine pr_iconst hC (0) (by decide +kernel : decode cX12_readOff 32 = .ok (.iconst 0, 1)) rfl ?_
    exact pv_zret hM (by decide +kernel : decode cX12_readOff 33 = .ok (.ireturn, 1)) (Or.inl rfl) hU H
  replace H := H.1 c_9
  refine pr_iconst hC (0) (by decide +kernel : decode cX12_readOff 12 = .ok (.iconst 0, 1)) rfl ?_
  exact pv_zret hM (by decide +kernel : decode cX12_readOff 13 = .ok (.ireturn, 1)) (Or.inl rfl) hU H
def w_X12_readGame (o : Nat) (U : Um) (post : Int32 → Um → Prop) : Prop :=
  w_X12_isFull o 3 16 U (fun r_2 U_1 => (r_2 = 0 → vp_in 10 14 ∧ ∀ (x1_3 : Int32), x1_3 = 8 * (16 + (uA U_1 o 11 (Int32.toNatClampNeg 10))) → w_X12_next o U_1 (fun U_4 => w_X12_readOne o 1 U_4 (fun r_7 U_6 => (r_7 = 0 → post 0 U_6) ∧ (¬ r_7 = 0 → vp_in (x1_3 + 0) 256 ∧ ∀ (U_8 : Um), U_8 = sA U_6 o 10 (va_up (uA U_6 o 10) (Int32.toNatClampNeg (x1_3 + 0)) (uI U_6 o 28)) → w_X12_comesTo o 1 U_8 (fun r_10 U_9 => (r_10 = 0 → post 0 U_9) ∧ (¬ r_10 = 0 → vp_in (x1_3 + 0) 256 ∧ ((uI U_9 o 28) = (uA U_9 o 10 (Int32.toNatClampNeg (x1_3 + 0))) → w_X12_fails o 3 U_9 (fun r_12 U_11 => (r_12 = 0 ∨ r_12 = 1) ∧ post r_12 U_11)) ∧ (¬ (uI U_9 o 28) = (uA U_9 o 10 (Int32.toNatClampNeg (x1_3 + 0))) → vp_in (x1_3 + 1) 256 ∧ ∀ (U_13 : Um), U_13 = sA U_9 o 10 (va_up (uA U_9 o 10) (Int32.toNatClampNeg (x1_3 + 1)) (uI U_9 o 28)) → w_X12_next o U_13 (fun U_14 => w_X12_takes o 4 U_14 (fun r_17 U_16 => (r_17 = 0 → post 0 U_16) ∧ (¬ r_17 = 0 → w_X12_readOne o 0 U_16 (fun r_19 U_18 => (r_19 = 0 → post 0 U_18) ∧ (¬ r_19 = 0 → vp_in (x1_3 + 2) 256 ∧ ∀ (U_20 : Um), U_20 = sA U_18 o 10 (va_up (uA U_18 o 10) (Int32.toNatClampNeg (x1_3 + 2)) (uI U_18 o 28)) → w_X12_readAfter o 9 0 6 U_20 (fun r_22 U_21 => (r_22 = 0 → post 0 U_21) ∧ (¬ r_22 = 0 → vp_in (x1_3 + 3) 256 ∧ ∀ (U_23 : Um), U_23 = sA U_21 o 10 (va_up (uA U_21 o 10) (Int32.toNatClampNeg (x1_3 + 3)) (uI U_21 o 28)) → w_X12_readNumber o 0 1299 U_23 (fun r_25 U_24 => (r_25 = 0 → post 0 U_24) ∧ (¬ r_25 = 0 → vp_in (x1_3 + 4) 256 ∧ ∀ (U_26 : Um), U_26 = sA U_24 o 10 (va_up (uA U_24 o 10) (Int32.toNatClampNeg (x1_3 + 4)) (uI U_24 o 28)) → w_X12_readAfter o 10 10 140 U_26 (fun r_28 U_27 => (r_28 = 0 → post 0 U_27) ∧ (¬ r_28 = 0 → vp_in (x1_3 + 5) 256 ∧ ∀ (U_29 : Um), U_29 = sA U_27 o 10 (va_up (uA U_27 o 10) (Int32.toNatClampNeg (x1_3 + 5)) (uI U_27 o 28)) → w_X12_readAfter o 11 1 5 U_29 (fun r_31 U_30 => (r_31 = 0 → post 0 U_30) ∧ (¬ r_31 = 0 → vp_in (x1_3 + 6) 256 ∧ ∀ (U_32 : Um), U_32 = sA U_30 o 10 (va_up (uA U_30 o 10) (Int32.toNatClampNeg (x1_3 + 6)) (uI U_30 o 28)) → vp_in (x1_3 + 7) 256 ∧ ∀ (U_33 : Um), U_33 = sA U_32 o 10 (va_up (uA U_32 o 10) (Int32.toNatClampNeg (x1_3 + 7)) 1) → w_X12_isWord o 12 U_33 (fun r_35 U_34 => (∀ K_36 : Um → Prop, (∀ (U_37 : Um), (vp_in 10 14 ∧ vp_in 10 14 ∧ ∀ (U_38 : Um), U_38 = sA U_37 o 11 (va_up (uA U_37 o 11) (Int32.toNatClampNeg 10) ((uA U_37 o 11 (Int32.toNatClampNeg 10)) + 1)) → post 1 U_38) → K_36 U_37) → (r_35 = 0 → K_36 U_34) ∧ (¬ r_35 = 0 → w_X12_readAfter o 12 1 3 U_34 (fun r_40 U_39 => (r_40 = 0 → post 0 U_39) ∧ (¬ r_40 = 0 → vp_in (x1_3 + 7) 256 ∧ ∀ (U_41 : Um), U_41 = sA U_39 o 10 (va_up (uA U_39 o 10) (Int32.toNatClampNeg (x1_3 + 7)) (uI U_39 o 28)) → K_36 U_41))))))))))))))))))))))))) ∧ (¬ r_2 = 0 → post 0 U_1))
set_option maxHeartbeats 4000000 in
theorem t_X12_readGame {l : Launch} {Y : px_Y} {o : Nat} {U : Um} {post : Int32 → Um → Prop} (ho : oc o = 10) (H : w_X12_readGame o U post) : um l Y 10 yX12_readGame cX12_readGame 2 (some (.boolean)) [.ref (Y.2.1 o)] U (pq_i post) := by
  unfold w_X12_readGame at H
  refine um_of (by decide) (Nat.le_of_ble_eq_true rfl) [some (.ref (Y.2.1 o)), none] rfl (fun X h0 hh sz hM hU => ?_)
  have hC := hM.1
  have hR := hM.2.2.1
  refine pr_aload_n hC (by decide +kernel : decode cX12_readGame 0 = .ok (.aload_n 0, 1)) rfl ?_
  refine pr_iconst hC (3) (by decide +kernel : decode cX12_readGame 1 = .ok (.iconst 3, 1)) rfl ?_
  refine pr_bipush hC (16) (by decide +kernel : decode cX12_readGame 2 = .ok (.bipush 16, 2)) rfl ?_
  refine vc_Vi hC hR [.int 3, .int 16] fv_X12_265 (by decide +kernel : decode cX12_readGame 4 = .ok (.invokevirtual 265, 3)) hU (t_X12_isFull ho H) ho (by decide) rfl rfl rfl (Nat.le_of_ble_eq_true rfl) (Nat.le_of_ble_eq_true rfl) (Nat.le_refl 0) (Nat.le_refl 0) (fun r_2 U_1 h H hU => ?_)
  refine pr_if_eq hC 12 (by decide +kernel : decode cX12_readGame 7 = .ok (.ifCond .eq 5, 3)) (by decide) (fun c_7 => ?_) (fun c_7 => ?_)
  · replace H := H.1 c_7
    refine pr_bipush hC (8) (by decide +kernel : decode cX12_readGame 12 = .ok (.bipush 8, 2)) rfl ?_
    refine pr_bipush hC (16) (by decide +kernel : decode cX12_readGame 14 = .ok (.bipush 16, 2)) rfl ?_
    refine pr_aload_n hC (by decide +kernel : decode cX12_readGame 16 = .ok (.aload_n 0, 1)) rfl ?_
    refine pu_g1 hC fg_X12_43 (by decide +kernel : decode cX12_readGame 17 = .ok (.getfield 43, 3)) hU ho (by decide) rfl (by decide) ?_
    refine pr_bipush hC (10) (by decide +kernel : decode cX12_readGame 20 = .ok (.bipush 10, 2)) rfl ?_
    refine pu_iald hC (by decide +kernel : decode cX12_readGame 22 = .ok (.iaload, 1)) hU ho rfl H.1 ?_
    replace H := H.2
    refine pr_iadd hC (by decide +kernel : decode cX12_readGame 23 = .ok (.iadd, 1)) ?_
    refine pr_imul hC (by decide +kernel : decode cX12_readGame 24 = .ok (.imul, 1)) ?_
    refine pv_topi (fun x1_3 e_x1_3 => ?_)
    replace H := H x1_3 e_x1_3
    refine pr_istore_n hC (by decide +kernel : decode cX12_readGame 25 = .ok (.istore_n 1, 1)) (by decide) rfl ?_
    refine pr_aload_n hC (by decide +kernel : decode cX12_readGame 26 = .ok (.aload_n 0, 1)) rfl ?_
    refine vc_Vv hC hR [] fv_X12_242 (by decide +kernel : decode cX12_readGame 27 = .ok (.invokevirtual 242, 3)) hU (t_X12_next ho H) ho (by decide) rfl rfl rfl (Nat.le_of_ble_eq_true rfl) (Nat.le_of_ble_eq_true rfl) (Nat.le_refl 0) (Nat.le_refl 0) (fun U_4 h H hU => ?_)
    refine pr_aload_n hC (by decide +kernel : decode cX12_readGame 30 = .ok (.aload_n 0, 1)) rfl ?_
    refine pr_iconst hC (1) (by decide +kernel : decode cX12_readGame 31 = .ok (.iconst 1, 1)) rfl ?_
    refine vc_Vi hC hR [.int 1] fv_X12_271 (by decide +kernel : decode cX12_readGame 32 = .ok (.invokevirtual 271, 3)) hU (t_X12_readOne ho H) ho (by decide) rfl rfl rfl (Nat.le_of_ble_eq_true rfl) (Nat.le_of_ble_eq_true rfl) (Nat.le_refl 0) (Nat.le_refl 0) (fun r_7 U_6 h H hU => ?_)
    refine pr_if_ne hC 40 (by decide +kernel : decode cX12_readGame 35 = .ok (.ifCond .ne 5, 3)) (by decide) (fun c_35 => ?_) (fun c_35 => ?_)
    · replace H := H.2 c_35
      refine pr_aload_n hC (by decide +kernel : decode cX12_readGame 40 = .ok (.aload_n 0, 1)) rfl ?_
      refine pu_g1 hC fg_X12_40 (by decide +kernel : decode cX12_readGame 41 = .ok (.getfield 40, 3)) hU ho (by decide) rfl (by decide) ?_
      refine pr_iload_n hC (by decide +kernel : decode cX12_readGame 44 = .ok (.iload_n 1, 1)) rfl ?_
      refine pr_iconst hC (0) (by decide +kernel : decode cX12_readGame 45 = .ok (.iconst 0, 1)) rfl ?_
      refine pr_iadd hC (by decide +kernel : decode cX12_readGame 46 = .ok (.iadd, 1)) ?_
      refine pr_aload_n hC (by decide +kernel : decode cX12_readGame 47 = .ok (.aload_n 0, 1)) rfl ?_
      refine pu_g0 hC fg_X12_245 (by decide +kernel : decode cX12_readGame 48 = .ok (.getfield 245, 3)) hU ho (by decide) rfl rfl ?_
      refine pv_iast hC (by decide +kernel : decode cX12_readGame 51 = .ok (.iastore, 1)) hU ho rfl H.1 (fun U_8 h e_U_8 hU => ?_)
      replace H := H.2 U_8 e_U_8
      refine pr_aload_n hC (by decide +kernel : decode cX12_readGame 52 = .ok (.aload_n 0, 1)) rfl ?_
      refine pr_iconst hC (1) (by decide +kernel : decode cX12_readGame 53 = .ok (.iconst 1, 1)) rfl ?_
      refine vc_Vi hC hR [.int 1] fv_X12_262 (by decide +kernel : decode cX12_readGame 54 = .ok (.invokevirtual 262, 3)) hU (t_X12_comesTo ho H) ho (by decide) rfl rfl rfl (Nat.le_of_ble_eq_true rfl) (Nat.le_of_ble_eq_true rfl) (Nat.le_refl 0) (Nat.le_refl 0) (fun r_10 U_9 h H hU => ?_)
      refine pr_if_ne hC 62 (by decide +kernel : decode cX12_readGame 57 = .ok (.ifCond .ne 5, 3)) (by decide) (fun c_57 => ?_) (fun c_57 => ?_)
      · replace H := H.2 c_57
        refine pr_aload_n hC (by decide +kernel : decode cX12_readGame 62 = .ok (.aload_n 0, 1)) rfl ?_
        refine pu_g0 hC fg_X12_245 (by decide +kernel : decode cX12_readGame 63 = .ok (.getfield 245, 3)) hU ho (by decide) rfl rfl ?_
        refine pr_aload_n hC (by decide +kernel : decode cX12_readGame 66 = .ok (.aload_n 0, 1)) rfl ?_
        refine pu_g1 hC fg_X12_40 (by decide +kernel : decode cX12_readGame 67 = .ok (.getfield 40, 3)) hU ho (by decide) rfl (by decide) ?_
        refine pr_iload_n hC (by decide +kernel : decode cX12_readGame 70 = .ok (.iload_n 1, 1)) rfl ?_
        refine pr_iconst hC (0) (by decide +kernel : decode cX12_readGame 71 = .ok (.iconst 0, 1)) rfl ?_
        refine pr_iadd hC (by decide +kernel : decode cX12_readGame 72 = .ok (.iadd, 1)) ?_
        refine pu_iald hC (by decide +kernel : decode cX12_readGame 73 = .ok (.iaload, 1)) hU ho rfl H.1 ?_
        replace H := H.2
        refine pr_icmp_ne hC 83 (by decide +kernel : decode cX12_readGame 74 = .ok (.if_icmp .ne 9, 3)) (by decide) (fun c_74 => ?_) (fun c_74 => ?_)
        · replace H := H.2 c_74
          refine pr_aload_n hC (by decide +kernel : decode cX12_readGame 83 = .ok (.aload_n 0, 1)) rfl ?_
          refine pu_g1 hC fg_X12_40 (by decide +kernel : decode cX12_readGame 84 = .ok (.getfield 40, 3)) hU ho (by decide) rfl (by decide) ?_
          refine pr_iload_n hC (by decide +kernel : decode cX12_readGame 87 = .ok (.iload_n 1, 1)) rfl ?_
          refine pr_iconst hC (1) (by decide +kernel : decode cX12_readGame 88 = .ok (.iconst 1, 1)) rfl ?_
          refine pr_iadd hC (by decide +kernel : decode cX12_readGame 89 = .ok (.iadd, 1)) ?_
          refine pr_aload_n hC (by decide +kernel : decode cX12_readGame 90 = .ok (.aload_n 0, 1)) rfl ?_
          refine pu_g0 hC fg_X12_245 (by decide +kernel : decode cX12_readGame 91 = .ok (.getfield 245, 3)) hU ho (by decide) rfl rfl ?_
          refine pv_iast hC (by decide +kernel : decode cX12_readGame 94 = .ok (.iastore, 1)) hU ho rfl H.1 (fun U_13 h e_U_13 hU => ?_)
          replace H := H.2 U_13 e_U_13
          refine pr_aload_n hC (by decide +kernel : decode cX12_readGame 95 = .ok (.aload_n 0, 1)) rfl ?_
          refine vc_Vv hC hR [] fv_X12_242 (by decide +kernel : decode cX12_readGame 96 = .ok (.invokevirtual 242, 3)) hU (t_X12_next ho H) ho (by decide) rfl rfl rfl (Nat.le_of_ble_eq_true rfl) (Nat.le_of_ble_eq_true rfl) (Nat.le_refl 0) (Nat.le_refl 0) (fun U_14 h H hU => ?_)
          refine pr_aload_n hC (by decide +kernel : decode cX12_readGame 99 = .ok (.aload_n 0, 1)) rfl ?_
          refine pr_ldcs hC ss_X12_201 (by decide +kernel : decode cX12_readGame 100 = .ok (.ldc 201, 2)) ?_
          refine vc_Vi hC hR [.ref (Y.1.2.2 (200 + 4))] fv_X12_248 (by decide +kernel : decode cX12_readGame 102 = .ok (.invokevirtual 248, 3)) hU (t_X12_takes ho (by decide) H) ho (by decide) rfl rfl rfl (Nat.le_of_ble_eq_true rfl) (Nat.le_of_ble_eq_true rfl) (Nat.le_refl 0) (Nat.le_refl 0) (fun r_17 U_16 h H hU => ?_)
          refine pr_if_eq hC 116 (by decide +kernel : decode cX12_readGame 105 = .ok (.ifCond .eq 11, 3)) (by decide) (fun c_105 => ?_) (fun c_105 => ?_)
          · replace H := H.1 c_105
            refine pr_iconst hC (0) (by decide +kernel : decode cX12_readGame 116 = .ok (.iconst 0, 1)) rfl ?_
            exact pv_zret hM (by decide +kernel : decode cX12_readGame 117 = .ok (.ireturn, 1)) (Or.inl rfl) hU H
          replace H := H.2 c_105
          refine pr_aload_n hC (by decide +kernel : decode cX12_readGame 108 = .ok (.aload_n 0, 1)) rfl ?_
          refine pr_iconst hC (0) (by decide +kernel : decode cX12_readGame 109 = .ok (.iconst 0, 1)) rfl ?_
          refine vc_Vi hC hR [.int 0] fv_X12_271 (by decide +kernel : decode cX12_readGame 110 = .ok (.invokevirtual 271, 3)) hU (t_X12_readOne ho H) ho (by decide) rfl rfl rfl (Nat.le_of_ble_eq_true rfl) (Nat.le_of_ble_eq_true rfl) (Nat.le_refl 0) (Nat.le_refl 0) (fun r_19 U_18 h H hU => ?_)
          refine pr_if_ne hC 118 (by decide +kernel : decode cX12_readGame 113 = .ok (.ifCond .ne 5, 3)) (by decide) (fun c_113 => ?_) (fun c_113 => ?_)
          · replace H := H.2 c_113
            refine pr_aload_n hC (by decide +kernel : decode cX12_readGame 118 = .ok (.aload_n 0, 1)) rfl ?_
            refine pu_g1 hC fg_X12_40 (by decide +kernel : decode cX12_readGame 119 = .ok (.getfield 40, 3)) hU ho (by decide) rfl (by decide) ?_
            refine pr_iload_n hC (by decide +kernel : decode cX12_readGame 122 = .ok (.iload_n 1, 1)) rfl ?_
            refine pr_iconst hC (2) (by decide +kernel : decode cX12_readGame 123 = .ok (.iconst 2, 1)) rfl ?_
            refine pr_iadd hC (by decide +kernel : decode cX12_readGame 124 = .ok (.iadd, 1)) ?_
            refine pr_aload_n hC (by decide +kernel : decode cX12_readGame 125 = .ok (.aload_n 0, 1)) rfl ?_
            refine pu_g0 hC fg_X12_245 (by decide +kernel : decode cX12_readGame 126 = .ok (.getfield 245, 3)) hU ho (by decide) rfl rfl ?_
            refine pv_iast hC (by decide +kernel : decode cX12_readGame 129 = .ok (.iastore, 1)) hU ho rfl H.1 (fun U_20 h e_U_20 hU => ?_)
            replace H := H.2 U_20 e_U_20
            refine pr_aload_n hC (by decide +kernel : decode cX12_readGame 130 = .ok (.aload_n 0, 1)) rfl ?_
            refine pr_ldcs hC ss_X12_208 (by decide +kernel : decode cX12_readGame 131 = .ok (.ldc 208, 2)) ?_
            refine pr_iconst hC (0) (by decide +kernel : decode cX12_readGame 133 = .ok (.iconst 0, 1)) rfl ?_
            refine pr_bipush hC (6) (by decide +kernel : decode cX12_readGame 134 = .ok (.bipush 6, 2)) rfl ?_
            refine vc_Vi hC hR [.ref (Y.1.2.2 (200 + 9)), .int 0, .int 6] fv_X12_274 (by decide +kernel : decode cX12_readGame 136 = .ok (.invokevirtual 274, 3)) hU (t_X12_readAfter ho (by decide) H) ho (by decide) rfl rfl rfl (Nat.le_of_ble_eq_true rfl) (Nat.le_of_ble_eq_true rfl) (Nat.le_refl 0) (Nat.le_refl 0) (fun r_22 U_21 h H hU => ?_)
            refine pr_if_ne hC 144 (by decide +kernel : decode cX12_readGame 139 = .ok (.ifCond .ne 5, 3)) (by decide) (fun c_139 => ?_) (fun c_139 => ?_)
            · replace H := H.2 c_139
              refine pr_aload_n hC (by decide +kernel : decode cX12_readGame 144 = .ok (.aload_n 0, 1)) rfl ?_
              refine pu_g1 hC fg_X12_40 (by decide +kernel : decode cX12_readGame 145 = .ok (.getfield 40, 3)) hU ho (by decide) rfl (by decide) ?_
              refine pr_iload_n hC (by decide +kernel : decode cX12_readGame 148 = .ok (.iload_n 1, 1)) rfl ?_
              refine pr_iconst hC (3) (by decide +kernel : decode cX12_readGame 149 = .ok (.iconst 3, 1)) rfl ?_
              refine pr_iadd hC (by decide +kernel : decode cX12_readGame 150 = .ok (.iadd, 1)) ?_
              refine pr_aload_n hC (by decide +kernel : decode cX12_readGame 151 = .ok (.aload_n 0, 1)) rfl ?_
              refine pu_g0 hC fg_X12_245 (by decide +kernel : decode cX12_readGame 152 = .ok (.getfield 245, 3)) hU ho (by decide) rfl rfl ?_
              refine pv_iast hC (by decide +kernel : decode cX12_readGame 155 = .ok (.iastore, 1)) hU ho rfl H.1 (fun U_23 h e_U_23 hU => ?_)
              replace H := H.2 U_23 e_U_23
              refine pr_aload_n hC (by decide +kernel : decode cX12_readGame 156 = .ok (.aload_n 0, 1)) rfl ?_
              refine pr_iconst hC (0) (by decide +kernel : decode cX12_readGame 157 = .ok (.iconst 0, 1)) rfl ?_
              refine pr_sipush hC (1299) (by decide +kernel : decode cX12_readGame 158 = .ok (.sipush 1299, 3)) rfl ?_
              refine vc_Vi hC hR [.int 0, .int 1299] fv_X12_251 (by decide +kernel : decode cX12_readGame 161 = .ok (.invokevirtual 251, 3)) hU (t_X12_readNumber ho H) ho (by decide) rfl rfl rfl (Nat.le_of_ble_eq_true rfl) (Nat.le_of_ble_eq_true rfl) (Nat.le_refl 0) (Nat.le_refl 0) (fun r_25 U_24 h H hU => ?_)
              refine pr_if_ne hC 169 (by decide +kernel : decode cX12_readGame 164 = .ok (.ifCond .ne 5, 3)) (by decide) (fun c_164 => ?_) (fun c_164 => ?_)
              · replace H := H.2 c_164
                refine pr_aload_n hC (by decide +kernel : decode cX12_readGame 169 = .ok (.aload_n 0, 1)) rfl ?_
                refine pu_g1 hC fg_X12_40 (by decide +kernel : decode cX12_readGame 170 = .ok (.getfield 40, 3)) hU ho (by decide) rfl (by decide) ?_
                refine pr_iload_n hC (by decide +kernel : decode cX12_readGame 173 = .ok (.iload_n 1, 1)) rfl ?_
                refine pr_iconst hC (4) (by decide +kernel : decode cX12_readGame 174 = .ok (.iconst 4, 1)) rfl ?_
                refine pr_iadd hC (by decide +kernel : decode cX12_readGame 175 = .ok (.iadd, 1)) ?_
                refine pr_aload_n hC (by decide +kernel : decode cX12_readGame 176 = .ok (.aload_n 0, 1)) rfl ?_
                refine pu_g0 hC fg_X12_245 (by decide +kernel : decode cX12_readGame 177 = .ok (.getfield 245, 3)) hU ho (by decide) rfl rfl ?_
                refine pv_iast hC (by decide +kernel : decode cX12_readGame 180 = .ok (.iastore, 1)) hU ho rfl H.1 (fun U_26 h e_U_26 hU => ?_)
                replace H := H.2 U_26 e_U_26
                refine pr_aload_n hC (by decide +kernel : decode cX12_readGame 181 = .ok (.aload_n 0, 1)) rfl ?_
                refine pr_ldcs hC ss_X12_210 (by decide +kernel : decode cX12_readGame 182 = .ok (.ldc 210, 2)) ?_
                refine pr_bipush hC (10) (by decide +kernel : decode cX12_readGame 184 = .ok (.bipush 10, 2)) rfl ?_
                refine pr_sipush hC (140) (by decide +kernel : decode cX12_readGame 186 = .ok (.sipush 140, 3)) rfl ?_
                refine vc_Vi hC hR [.ref (Y.1.2.2 (200 + 10)), .int 10, .int 140] fv_X12_274 (by decide +kernel : decode cX12_readGame 189 = .ok (.invokevirtual 274, 3)) hU (t_X12_readAfter ho (by decide) H) ho (by decide) rfl rfl rfl (Nat.le_of_ble_eq_true rfl) (Nat.le_of_ble_eq_true rfl) (Nat.le_refl 0) (Nat.le_refl 0) (fun r_28 U_27 h H hU => ?_)
                refine pr_if_ne hC 197 (by decide +kernel : decode cX12_readGame 192 = .ok (.ifCond .ne 5, 3)) (by decide) (fun c_192 => ?_) (fun c_192 => ?_)
                · replace H := H.2 c_192
                  refine pr_aload_n hC (by decide +kernel : decode cX12_readGame 197 = .ok (.aload_n 0, 1)) rfl ?_
                  refine pu_g1 hC fg_X12_40 (by decide +kernel : decode cX12_readGame 198 = .ok (.getfield 40, 3)) hU ho (by decide) rfl (by decide) ?_
                  refine pr_iload_n hC (by decide +kernel : decode cX12_readGame 201 = .ok (.iload_n 1, 1)) rfl ?_
                  refine pr_iconst hC (5) (by decide +kernel : decode cX12_readGame 202 = .ok (.iconst 5, 1)) rfl ?_
                  refine pr_iadd hC (by decide +kernel : decode cX12_readGame 203 = .ok (.iadd, 1)) ?_
                  refine pr_aload_n hC (by decide +kernel : decode cX12_readGame 204 = .ok (.aload_n 0, 1)) rfl ?_
                  refine pu_g0 hC fg_X12_245 (by decide +kernel : decode cX12_readGame 205 = .ok (.getfield 245, 3)) hU ho (by decide) rfl rfl ?_
                  refine pv_iast hC (by decide +kernel : decode cX12_readGame 208 = .ok (.iastore, 1)) hU ho rfl H.1 (fun U_29 h e_U_29 hU => ?_)
                  replace H := H.2 U_29 e_U_29
                  refine pr_aload_n hC (by decide +kernel : decode cX12_readGame 209 = .ok (.aload_n 0, 1)) rfl ?_
                  refine pr_ldcs hC ss_X12_212 (by decide +kernel : decode cX12_readGame 210 = .ok (.ldc 212, 2)) ?_
                  refine pr_iconst hC (1) (by decide +kernel : decode cX12_readGame 212 = .ok (.iconst 1, 1)) rfl ?_
                  refine pr_iconst hC (5) (by decide +kernel : decode cX12_readGame 213 = .ok (.iconst 5, 1)) rfl ?_
                  refine vc_Vi hC hR [.ref (Y.1.2.2 (200 + 11)), .int 1, .int 5] fv_X12_274 (by decide +kernel : decode cX12_readGame 214 = .ok (.invokevirtual 274, 3)) hU (t_X12_readAfter ho (by decide) H) ho (by decide) rfl rfl rfl (Nat.le_of_ble_eq_true rfl) (Nat.le_of_ble_eq_true rfl) (Nat.le_refl 0) (Nat.le_refl 0) (fun r_31 U_30 h H hU => ?_)
                  refine pr_if_ne hC 222 (by decide +kernel : decode cX12_readGame 217 = .ok (.ifCond .ne 5, 3)) (by decide) (fun c_217 => ?_) (fun c_217 => ?_)
                  · replace H := H.2 c_217
                    refine pr_aload_n hC (by decide +kernel : decode cX12_readGame 222 = .ok (.aload_n 0, 1)) rfl ?_
                    refine pu_g1 hC fg_X12_40 (by decide +kernel : decode cX12_readGame 223 = .ok (.getfield 40, 3)) hU ho (by decide) rfl (by decide) ?_
                    refine pr_iload_n hC (by decide +kernel : decode cX12_readGame 226 = .ok (.iload_n 1, 1)) rfl ?_
                    refine pr_bipush hC (6) (by decide +kernel : decode cX12_readGame 227 = .ok (.bipush 6, 2)) rfl ?_
                    refine pr_iadd hC (by decide +kernel : decode cX12_readGame 229 = .ok (.iadd, 1)) ?_
                    refine pr_aload_n hC (by decide +kernel : decode cX12_readGame 230 = .ok (.aload_n 0, 1)) rfl ?_
                    refine pu_g0 hC fg_X12_245 (by decide +kernel : decode cX12_readGame 231 = .ok (.getfield 245, 3)) hU ho (by decide) rfl rfl ?_
                    refine pv_iast hC (by decide +kernel : decode cX12_readGame 234 = .ok (.iastore, 1)) hU ho rfl H.1 (fun U_32 h e_U_32 hU => ?_)
                    replace H := H.2 U_32 e_U_32
                    refine pr_aload_n hC (by decide +kernel : decode cX12_readGame 235 = .ok (.aload_n 0, 1)) rfl ?_
                    refine pu_g1 hC fg_X12_40 (by decide +kernel : decode cX12_readGame 236 = .ok (.getfield 40, 3)) hU ho (by decide) rfl (by decide) ?_
                    refine pr_iload_n hC (by decide +kernel : decode cX12_readGame 239 = .ok (.iload_n 1, 1)) rfl ?_
                    refine pr_bipush hC (7) (by decide +kernel : decode cX12_readGame 240 = .ok (.bipush 7, 2)) rfl ?_
                    refine pr_iadd hC (by decide +kernel : decode cX12_readGame 242 = .ok (.iadd, 1)) ?_
                    refine pr_iconst hC (1) (by decide +kernel : decode cX12_readGame 243 = .ok (.iconst 1, 1)) rfl ?_
                    refine pv_iast hC (by decide +kernel : decode cX12_readGame 244 = .ok (.iastore, 1)) hU ho rfl H.1 (fun U_33 h e_U_33 hU => ?_)
                    replace H := H.2 U_33 e_U_33
                    refine pr_aload_n hC (by decide +kernel : decode cX12_readGame 245 = .ok (.aload_n 0, 1)) rfl ?_
                    refine pr_ldcs hC ss_X12_213 (by decide +kernel : decode cX12_readGame 246 = .ok (.ldc 213, 2)) ?_
                    refine vc_Vi hC hR [.ref (Y.1.2.2 (200 + 12))] fv_X12_192 (by decide +kernel : decode cX12_readGame 248 = .ok (.invokevirtual 192, 3)) hU (t_X12_isWord ho (by decide) H) ho (by decide) rfl rfl rfl (Nat.le_of_ble_eq_true rfl) (Nat.le_of_ble_eq_true rfl) (Nat.le_refl 0) (Nat.le_refl 0) (fun r_35 U_34 h H hU => ?_)
                    replace H := H (fun U_37 => ∀ h : pe_H, rF Y h0 U_37 h → pw X Y.1 (pm_A hh sz) (pm_E X Y.1 hh sz 0 0 (pm_P Y h0 sz (pq_i post))) 280 [some (.ref (Y.2.1 o)), none] [] h sz 0 0) (by
                      intro U_37 H h hU
                      refine pr_aload_n hC (by decide +kernel : decode cX12_readGame 280 = .ok (.aload_n 0, 1)) rfl ?_
                      refine pu_g1 hC fg_X12_43 (by decide +kernel : decode cX12_readGame 281 = .ok (.getfield 43, 3)) hU ho (by decide) rfl (by decide) ?_
                      refine pr_bipush hC (10) (by decide +kernel : decode cX12_readGame 284 = .ok (.bipush 10, 2)) rfl ?_
                      refine pr_dup2 hC (by decide +kernel : decode cX12_readGame 286 = .ok (.dup2, 1)) rfl rfl ?_
                      refine pu_iald hC (by decide +kernel : decode cX12_readGame 287 = .ok (.iaload, 1)) hU ho rfl H.1 ?_
                      replace H := H.2
                      refine pr_iconst hC (1) (by decide +kernel : decode cX12_readGame 288 = .ok (.iconst 1, 1)) rfl ?_
                      refine pr_iadd hC (by decide +kernel : decode cX12_readGame 289 = .ok (.iadd, 1)) ?_
                      refine pv_iast hC (by decide +kernel : decode cX12_readGame 290 = .ok (.iastore, 1)) hU ho rfl H.1 (fun U_38 h e_U_38 hU => ?_)
                      replace H := H.2 U_38 e_U_38
                      refine pr_iconst hC (1) (by decide +kernel : decode cX12_readGame 291 = .ok (.iconst 1, 1)) rfl ?_
                      exact pv_zret hM (by decide +kernel : decode cX12_readGame 292 = .ok (.ireturn, 1)) (Or.inr rfl) hU H)
                    refine pr_if_eq hC 280 (by decide +kernel : decode cX12_readGame 251 = .ok (.ifCond .eq 29, 3)) (by decide) (fun c_251 => ?_) (fun c_251 => ?_)
                    · replace H := H.1 c_251
                      exact pv_sub [some (.ref (Y.2.1 o)), none] (And.intro rfl trivial) (H h hU)
                    replace H := H.2 c_251
                    refine pr_aload_n hC (by decide +kernel : decode cX12_readGame 254 = .ok (.aload_n 0, 1)) rfl ?_
                    refine pr_ldcs hC ss_X12_213 (by decide +kernel : decode cX12_readGame 255 = .ok (.ldc 213, 2)) ?_
                    refine pr_iconst hC (1) (by decide +kernel : decode cX12_readGame 257 = .ok (.iconst 1, 1)) rfl ?_
                    refine pr_iconst hC (3) (by decide +kernel : decode cX12_readGame 258 = .ok (.iconst 3, 1)) rfl ?_
                    refine vc_Vi hC hR [.ref (Y.1.2.2 (200 + 12)), .int 1, .int 3] fv_X12_274 (by decide +kernel : decode cX12_readGame 259 = .ok (.invokevirtual 274, 3)) hU (t_X12_readAfter ho (by decide) H) ho (by decide) rfl rfl rfl (Nat.le_of_ble_eq_true rfl) (Nat.le_of_ble_eq_true rfl) (Nat.le_refl 0) (Nat.le_refl 0) (fun r_40 U_39 h H hU => ?_)
                    refine pr_if_ne hC 267 (by decide +kernel : decode cX12_readGame 262 = .ok (.ifCond .ne 5, 3)) (by decide) (fun c_262 => ?_) (fun c_262 => ?_)
                    · replace H := H.2 c_262
                      refine pr_aload_n hC (by decide +kernel : decode cX12_readGame 267 = .ok (.aload_n 0, 1)) rfl ?_
                      refine pu_g1 hC fg_X12_40 (by decide +kernel : decode cX12_readGame 268 = .ok (.getfield 40, 3)) hU ho (by decide) rfl (by decide) ?_
                      refine pr_iload_n hC (by decide +kernel : decode cX12_readGame 271 = .ok (.iload_n 1, 1)) rfl ?_
                      refine pr_bipush hC (7) (by decide +kernel : decode cX12_readGame 272 = .ok (.bipush 7, 2)) rfl ?_
                      refine pr_iadd hC (by decide +kernel : decode cX12_readGame 274 = .ok (.iadd, 1)) ?_
                      refine pr_aload_n hC (by decide +kernel : decode cX12_readGame 275 = .ok (.aload_n 0, 1)) rfl ?_
                      refine pu_g0 hC fg_X12_245 (by decide +kernel : decode cX12_readGame 276 = .ok (.getfield 245, 3)) hU ho (by decide) rfl rfl ?_
                      refine pv_iast hC (by decide +kernel : decode cX12_readGame 279 = .ok (.iastore, 1)) hU ho rfl H.1 (fun U_41 h e_U_41 hU => ?_)
                      replace H := H.2 U_41 e_U_41
                      exact pv_sub [some (.ref (Y.2.1 o)), none] (And.intro rfl trivial) (H h hU)
                    replace H := H.1 c_262
                    refine pr_iconst hC (0) (by decide +kernel : decode cX12_readGame 265 = .ok (.iconst 0, 1)) rfl ?_
                    exact pv_zret hM (by decide +kernel : decode cX12_readGame 266 = .ok (.ireturn, 1)) (Or.inl rfl) hU H
                  replace H := H.1 c_217
                  refine pr_iconst hC (0) (by decide +kernel : decode cX12_readGame 220 = .ok (.iconst 0, 1)) rfl ?_
                  exact pv_zret hM (by decide +kernel : decode cX12_readGame 221 = .ok (.ireturn, 1)) (Or.inl rfl) hU H
                replace H := H.1 c_192
                refine pr_iconst hC (0) (by decide +kernel : decode cX12_readGame 195 = .ok (.iconst 0, 1)) rfl ?_
                exact pv_zret hM (by decide +kernel : decode cX12_readGame 196 = .ok (.ireturn, 1)) (Or.inl rfl) hU H
              replace H := H.1 c_164
              refine pr_iconst hC (0) (by decide +kernel : decode cX12_readGame 167 = .ok (.iconst 0, 1)) rfl ?_
              exact pv_zret hM (by decide +kernel : decode cX12_readGame 168 = .ok (.ireturn, 1)) (Or.inl rfl) hU H
            replace H := H.1 c_139
            refine pr_iconst hC (0) (by decide +kernel : decode cX12_readGame 142 = .ok (.iconst 0, 1)) rfl ?_
            exact pv_zret hM (by decide +kernel : decode cX12_readGame 143 = .ok (.ireturn, 1)) (Or.inl rfl) hU H
          replace H := H.1 c_113
          refine pr_iconst hC (0) (by decide +kernel : decode cX12_readGame 116 = .ok (.iconst 0, 1)) rfl ?_
          exact pv_zret hM (by decide +kernel : decode cX12_readGame 117 = .ok (.ireturn, 1)) (Or.inl rfl) hU H
        replace H := H.1 c_74
        refine pr_aload_n hC (by decide +kernel : decode cX12_readGame 77 = .ok (.aload_n 0, 1)) rfl ?_
        refine pr_iconst hC (3) (by decide +kernel : decode cX12_readGame 78 = .ok (.iconst 3, 1)) rfl ?_
        refine vc_Vi hC hR [.int 3] fv_X12_238 (by decide +kernel : decode cX12_readGame 79 = .ok (.invokevirtual 238, 3)) hU (t_X12_fails ho H) ho (by decide) rfl rfl rfl (Nat.le_of_ble_eq_true rfl) (Nat.le_of_ble_eq_true rfl) (Nat.le_refl 0) (Nat.le_refl 0) (fun r_12 U_11 h H hU => ?_)
        exact pv_zret hM (by decide +kernel : decode cX12_readGame 82 = .ok (.ireturn, 1)) H.1 hU H.2
      replace H := H.1 c_57
      refine pr_iconst hC (0) (by decide +kernel : decode cX12_readGame 60 = .ok (.iconst 0, 1)) rfl ?_
      exact pv_zret hM (by decide +kernel : decode cX12_readGame 61 = .ok (.ireturn, 1)) (Or.inl rfl) hU H
    replace H := H.1 c_35
    refine pr_iconst hC (0) (by decide +kernel : decode cX12_readGame 38 = .ok (.iconst 0, 1)) rfl ?_
    exact pv_zret hM (by decide +kernel : decode cX12_readGame 39 = .ok (.ireturn, 1)) (Or.inl rfl) hU H
  replace H := H.2 c_7
  refine pr_iconst hC (0) (by decide +kernel : decode cX12_readGame 10 = .ok (.iconst 0, 1)) rfl ?_
  exact pv_zret hM (by decide +kernel : decode cX12_readGame 11 = .ok (.ireturn, 1)) (Or.inl rfl) hU H
def w_X12_readKept (o : Nat) (a1 : Int32) (a2 : Int32) (a3 : Int32) (U : Um) (post : Int32 → Um → Prop) : Prop :=
  w_X12_next o U (fun U_1 => w_X12_readNumber o a2 a3 U_1 (fun r_4 U_3 => (r_4 = 0 → post 0 U_3) ∧ (¬ r_4 = 0 → vp_in (7 + a1) 14 ∧ ∀ (U_5 : Um), U_5 = sA U_3 o 11 (va_up (uA U_3 o 11) (Int32.toNatClampNeg (7 + a1)) (uI U_3 o 28)) → post 1 U_5)))
set_option maxHeartbeats 4000000 in
theorem t_X12_readKept {l : Launch} {Y : px_Y} {o : Nat} {a1 : Int32} {a2 : Int32} {a3 : Int32} {U : Um} {post : Int32 → Um → Prop} (ho : oc o = 10) (H : w_X12_readKept o a1 a2 a3 U post) : um l Y 3 yX12_readKept cX12_readKept 4 (some (.boolean)) [.ref (Y.2.1 o), .int a1, .int a2, .int a3] U (pq_i post) := by
  unfold w_X12_readKept at H
  refine um_of (by decide) (Nat.le_of_ble_eq_true rfl) [some (.ref (Y.2.1 o)), some (.int a1), some (.int a2), some (.int a3)] rfl (fun X h0 hh sz hM hU => ?_)
  have hC := hM.1
  have hR := hM.2.2.1
  refine pr_aload_n hC (by decide +kernel : decode cX12_readKept 0 = .ok (.aload_n 0, 1)) rfl ?_
  refine vc_Vv hC hR [] fv_X12_242 (by decide +kernel : decode cX12_readKept 1 = .ok (.invokevirtual 242, 3)) hU (t_X12_next ho H) ho (by decide) rfl rfl rfl (Nat.le_of_ble_eq_true rfl) (Nat.le_of_ble_eq_true rfl) (Nat.le_refl 0) (Nat.le_refl 0) (fun U_1 h H hU => ?_)
  refine pr_aload_n hC (by decide +kernel : decode cX12_readKept 4 = .ok (.aload_n 0, 1)) rfl ?_
  refine pr_iload_n hC (by decide +kernel : decode cX12_readKept 5 = .ok (.iload_n 2, 1)) rfl ?_
  refine pr_iload_n hC (by decide +kernel : decode cX12_readKept 6 = .ok (.iload_n 3, 1)) rfl ?_
  refine vc_Vi hC hR [.int a2, .int a3] fv_X12_251 (by decide +kernel : decode cX12_readKept 7 = .ok (.invokevirtual 251, 3)) hU (t_X12_readNumber ho H) ho (by decide) rfl rfl rfl (Nat.le_of_ble_eq_true rfl) (Nat.le_of_ble_eq_true rfl) (Nat.le_refl 0) (Nat.le_refl 0) (fun r_4 U_3 h H hU => ?_)
  refine pr_if_ne hC 15 (by decide +kernel : decode cX12_readKept 10 = .ok (.ifCond .ne 5, 3)) (by decide) (fun c_10 => ?_) (fun c_10 => ?_)
  · replace H := H.2 c_10
    refine pr_aload_n hC (by decide +kernel : decode cX12_readKept 15 = .ok (.aload_n 0, 1)) rfl ?_
    refine pu_g1 hC fg_X12_43 (by decide +kernel : decode cX12_readKept 16 = .ok (.getfield 43, 3)) hU ho (by decide) rfl (by decide) ?_
    refine pr_bipush hC (7) (by decide +kernel : decode cX12_readKept 19 = .ok (.bipush 7, 2)) rfl ?_
    refine pr_iload_n hC (by decide +kernel : decode cX12_readKept 21 = .ok (.iload_n 1, 1)) rfl ?_
    refine pr_iadd hC (by decide +kernel : decode cX12_readKept 22 = .ok (.iadd, 1)) ?_
    refine pr_aload_n hC (by decide +kernel : decode cX12_readKept 23 = .ok (.aload_n 0, 1)) rfl ?_
    refine pu_g0 hC fg_X12_245 (by decide +kernel : decode cX12_readKept 24 = .ok (.getfield 245, 3)) hU ho (by decide) rfl rfl ?_
    refine pv_iast hC (by decide +kernel : decode cX12_readKept 27 = .ok (.iastore, 1)) hU ho rfl H.1 (fun U_5 h e_U_5 hU => ?_)
    replace H := H.2 U_5 e_U_5
    refine pr_iconst hC (1) (by decide +kernel : decode cX12_readKept 28 = .ok (.iconst 1, 1)) rfl ?_
    exact pv_zret hM (by decide +kernel : decode cX12_readKept 29 = .ok (.ireturn, 1)) (Or.inr rfl) hU H
  replace H := H.1 c_10
  refine pr_iconst hC (0) (by decide +kernel : decode cX12_readKept 13 = .ok (.iconst 0, 1)) rfl ?_
  exact pv_zret hM (by decide +kernel : decode cX12_readKept 14 = .ok (.ireturn, 1)) (Or.inl rfl) hU H
def w_X12_puts (o : Nat) (a1 : Int32) (a2 : Int32) (U : Um) (post : Um → Prop) : Prop :=
  vp_in (1300 + (uI U o 15)) 2600 ∧ ∀ (U_1 : Um), U_1 = sA U o 13 (va_up (uA U o 13) (Int32.toNatClampNeg (1300 + (uI U o 15))) a1) → vp_in (1300 + (uI U_1 o 15)) 2600 ∧ ∀ (U_2 : Um), U_2 = sA U_1 o 12 (va_up (uA U_1 o 12) (Int32.toNatClampNeg (1300 + (uI U_1 o 15))) a2) → ∀ (U_3 : Um), U_3 = sI U_2 o 15 ((uI U_2 o 15) + 1) → post U_3
set_option maxHeartbeats 4000000 in
theorem t_X12_puts {l : Launch} {Y : px_Y} {o : Nat} {a1 : Int32} {a2 : Int32} {U : Um} {post : Um → Prop} (ho : oc o = 10) (H : w_X12_puts o a1 a2 U post) : um l Y 0 yX12_puts cX12_puts 3 none [.ref (Y.2.1 o), .int a1, .int a2] U (pq_v post) := by
  unfold w_X12_puts at H
  refine um_of (by decide) (Nat.le_of_ble_eq_true rfl) [some (.ref (Y.2.1 o)), some (.int a1), some (.int a2)] rfl (fun X h0 hh sz hM hU => ?_)
  have hC := hM.1
  have hR := hM.2.2.1
  refine pr_aload_n hC (by decide +kernel : decode cX12_puts 0 = .ok (.aload_n 0, 1)) rfl ?_
  refine pu_g1 hC fg_X12_49 (by decide +kernel : decode cX12_puts 1 = .ok (.getfield 49, 3)) hU ho (by decide) rfl (by decide) ?_
  refine pr_sipush hC (1300) (by decide +kernel : decode cX12_puts 4 = .ok (.sipush 1300, 3)) rfl ?_
  refine pr_aload_n hC (by decide +kernel : decode cX12_puts 7 = .ok (.aload_n 0, 1)) rfl ?_
  refine pu_g0 hC fg_X12_278 (by decide +kernel : decode cX12_puts 8 = .ok (.getfield 278, 3)) hU ho (by decide) rfl rfl ?_
  refine pr_iadd hC (by decide +kernel : decode cX12_puts 11 = .ok (.iadd, 1)) ?_
  refine pr_iload_n hC (by decide +kernel : decode cX12_puts 12 = .ok (.iload_n 1, 1)) rfl ?_
  refine pv_iast hC (by decide +kernel : decode cX12_puts 13 = .ok (.iastore, 1)) hU ho rfl H.1 (fun U_1 h e_U_1 hU => ?_)
  replace H := H.2 U_1 e_U_1
  refine pr_aload_n hC (by decide +kernel : decode cX12_puts 14 = .ok (.aload_n 0, 1)) rfl ?_
  refine pu_g1 hC fg_X12_46 (by decide +kernel : decode cX12_puts 15 = .ok (.getfield 46, 3)) hU ho (by decide) rfl (by decide) ?_
  refine pr_sipush hC (1300) (by decide +kernel : decode cX12_puts 18 = .ok (.sipush 1300, 3)) rfl ?_
  refine pr_aload_n hC (by decide +kernel : decode cX12_puts 21 = .ok (.aload_n 0, 1)) rfl ?_
  refine pu_g0 hC fg_X12_278 (by decide +kernel : decode cX12_puts 22 = .ok (.getfield 278, 3)) hU ho (by decide) rfl rfl ?_
  refine pr_iadd hC (by decide +kernel : decode cX12_puts 25 = .ok (.iadd, 1)) ?_
  refine pr_iload_n hC (by decide +kernel : decode cX12_puts 26 = .ok (.iload_n 2, 1)) rfl ?_
  refine pv_iast hC (by decide +kernel : decode cX12_puts 27 = .ok (.iastore, 1)) hU ho rfl H.1 (fun U_2 h e_U_2 hU => ?_)
  replace H := H.2 U_2 e_U_2
  refine pr_aload_n hC (by decide +kernel : decode cX12_puts 28 = .ok (.aload_n 0, 1)) rfl ?_
  refine pr_dup hC (by decide +kernel : decode cX12_puts 29 = .ok (.dup, 1)) rfl ?_
  refine pu_g0 hC fg_X12_278 (by decide +kernel : decode cX12_puts 30 = .ok (.getfield 278, 3)) hU ho (by decide) rfl rfl ?_
  refine pr_iconst hC (1) (by decide +kernel : decode cX12_puts 33 = .ok (.iconst 1, 1)) rfl ?_
  refine pr_iadd hC (by decide +kernel : decode cX12_puts 34 = .ok (.iadd, 1)) ?_
  refine pv_p0 hC fp_X12_278 (by decide +kernel : decode cX12_puts 35 = .ok (.putfield 278, 3)) hU ho (by decide) rfl rfl rfl rfl (fun U_3 h e_U_3 hU => ?_)
  replace H := H U_3 e_U_3
  exact pv_vret hM (by decide +kernel : decode cX12_puts 38 = .ok (.return_, 1)) hU H
def w_X12_wordHere (o : Nat) (U : Um) (post : Int32 → Um → Prop) : Prop :=
  w_X12_isWord o 11 U (fun r_2 U_1 => (r_2 = 0 → w_X12_isWord o 16 U_1 (fun r_4 U_3 => (r_4 = 0 → w_X12_isWord o 17 U_3 (fun r_6 U_5 => (r_6 = 0 → w_X12_isWord o 18 U_5 (fun r_8 U_7 => (r_8 = 0 → w_X12_isWord o 19 U_7 (fun r_10 U_9 => (r_10 = 0 → w_X12_isWord o 20 U_9 (fun r_12 U_11 => (r_12 = 0 → w_X12_isWord o 21 U_11 (fun r_14 U_13 => (r_14 = 0 → w_X12_isWord o 22 U_13 (fun r_16 U_15 => (r_16 = 0 → post (-1) U_15) ∧ (¬ r_16 = 0 → post 7 U_15))) ∧ (¬ r_14 = 0 → post 6 U_13))) ∧ (¬ r_12 = 0 → post 5 U_11))) ∧ (¬ r_10 = 0 → post 4 U_9))) ∧ (¬ r_8 = 0 → post 3 U_7))) ∧ (¬ r_6 = 0 → post 2 U_5))) ∧ (¬ r_4 = 0 → post 1 U_3))) ∧ (¬ r_2 = 0 → post 0 U_1))
set_option maxHeartbeats 4000000 in
theorem t_X12_wordHere {l : Launch} {Y : px_Y} {o : Nat} {U : Um} {post : Int32 → Um → Prop} (ho : oc o = 10) (H : w_X12_wordHere o U post) : um l Y 6 yX12_wordHere cX12_wordHere 1 (some (.int)) [.ref (Y.2.1 o)] U (pq_i post) := by
  unfold w_X12_wordHere at H
  refine um_of (by decide) (Nat.le_of_ble_eq_true rfl) [some (.ref (Y.2.1 o))] rfl (fun X h0 hh sz hM hU => ?_)
  have hC := hM.1
  have hR := hM.2.2.1
  refine pr_aload_n hC (by decide +kernel : decode cX12_wordHere 0 = .ok (.aload_n 0, 1)) rfl ?_
  refine pr_ldcs hC ss_X12_212 (by decide +kernel : decode cX12_wordHere 1 = .ok (.ldc 212, 2)) ?_
  refine vc_Vi hC hR [.ref (Y.1.2.2 (200 + 11))] fv_X12_192 (by decide +kernel : decode cX12_wordHere 3 = .ok (.invokevirtual 192, 3)) hU (t_X12_isWord ho (by decide) H) ho (by decide) rfl rfl rfl (Nat.le_of_ble_eq_true rfl) (Nat.le_of_ble_eq_true rfl) (Nat.le_refl 0) (Nat.le_refl 0) (fun r_2 U_1 h H hU => ?_)
  refine pr_if_eq hC 13 (by decide +kernel : decode cX12_wordHere 6 = .ok (.ifCond .eq 7, 3)) (by decide) (fun c_6 => ?_) (fun c_6 => ?_)
  · replace H := H.1 c_6
    refine pr_aload_n hC (by decide +kernel : decode cX12_wordHere 13 = .ok (.aload_n 0, 1)) rfl ?_
    refine pr_ldcs hC ss_X12_221 (by decide +kernel : decode cX12_wordHere 14 = .ok (.ldc 221, 2)) ?_
    refine vc_Vi hC hR [.ref (Y.1.2.2 (200 + 16))] fv_X12_192 (by decide +kernel : decode cX12_wordHere 16 = .ok (.invokevirtual 192, 3)) hU (t_X12_isWord ho (by decide) H) ho (by decide) rfl rfl rfl (Nat.le_of_ble_eq_true rfl) (Nat.le_of_ble_eq_true rfl) (Nat.le_refl 0) (Nat.le_refl 0) (fun r_4 U_3 h H hU => ?_)
    refine pr_if_eq hC 26 (by decide +kernel : decode cX12_wordHere 19 = .ok (.ifCond .eq 7, 3)) (by decide) (fun c_19 => ?_) (fun c_19 => ?_)
    · replace H := H.1 c_19
      refine pr_aload_n hC (by decide +kernel : decode cX12_wordHere 26 = .ok (.aload_n 0, 1)) rfl ?_
      refine pr_ldcs hC ss_X12_223 (by decide +kernel : decode cX12_wordHere 27 = .ok (.ldc 223, 2)) ?_
      refine vc_Vi hC hR [.ref (Y.1.2.2 (200 + 17))] fv_X12_192 (by decide +kernel : decode cX12_wordHere 29 = .ok (.invokevirtual 192, 3)) hU (t_X12_isWord ho (by decide) H) ho (by decide) rfl rfl rfl (Nat.le_of_ble_eq_true rfl) (Nat.le_of_ble_eq_true rfl) (Nat.le_refl 0) (Nat.le_refl 0) (fun r_6 U_5 h H hU => ?_)
      refine pr_if_eq hC 39 (by decide +kernel : decode cX12_wordHere 32 = .ok (.ifCond .eq 7, 3)) (by decide) (fun c_32 => ?_) (fun c_32 => ?_)
      · replace H := H.1 c_32
        refine pr_aload_n hC (by decide +kernel : decode cX12_wordHere 39 = .ok (.aload_n 0, 1)) rfl ?_
        refine pr_ldcs hC ss_X12_225 (by decide +kernel : decode cX12_wordHere 40 = .ok (.ldc 225, 2)) ?_
        refine vc_Vi hC hR [.ref (Y.1.2.2 (200 + 18))] fv_X12_192 (by decide +kernel : decode cX12_wordHere 42 = .ok (.invokevirtual 192, 3)) hU (t_X12_isWord ho (by decide) H) ho (by decide) rfl rfl rfl (Nat.le_of_ble_eq_true rfl) (Nat.le_of_ble_eq_true rfl) (Nat.le_refl 0) (Nat.le_refl 0) (fun r_8 U_7 h H hU => ?_)
        refine pr_if_eq hC 52 (by decide +kernel : decode cX12_wordHere 45 = .ok (.ifCond .eq 7, 3)) (by decide) (fun c_45 => ?_) (fun c_45 => ?_)
        · replace H := H.1 c_45
          refine pr_aload_n hC (by decide +kernel : decode cX12_wordHere 52 = .ok (.aload_n 0, 1)) rfl ?_
          refine pr_ldcs hC ss_X12_227 (by decide +kernel : decode cX12_wordHere 53 = .ok (.ldc 227, 2)) ?_
          refine vc_Vi hC hR [.ref (Y.1.2.2 (200 + 19))] fv_X12_192 (by decide +kernel : decode cX12_wordHere 55 = .ok (.invokevirtual 192, 3)) hU (t_X12_isWord ho (by decide) H) ho (by decide) rfl rfl rfl (Nat.le_of_ble_eq_true rfl) (Nat.le_of_ble_eq_true rfl) (Nat.le_refl 0) (Nat.le_refl 0) (fun r_10 U_9 h H hU => ?_)
          refine pr_if_eq hC 65 (by decide +kernel : decode cX12_wordHere 58 = .ok (.ifCond .eq 7, 3)) (by decide) (fun c_58 => ?_) (fun c_58 => ?_)
          · replace H := H.1 c_58
            refine pr_aload_n hC (by decide +kernel : decode cX12_wordHere 65 = .ok (.aload_n 0, 1)) rfl ?_
            refine pr_ldcs hC ss_X12_229 (by decide +kernel : decode cX12_wordHere 66 = .ok (.ldc 229, 2)) ?_
            refine vc_Vi hC hR [.ref (Y.1.2.2 (200 + 20))] fv_X12_192 (by decide +kernel : decode cX12_wordHere 68 = .ok (.invokevirtual 192, 3)) hU (t_X12_isWord ho (by decide) H) ho (by decide) rfl rfl rfl (Nat.le_of_ble_eq_true rfl) (Nat.le_of_ble_eq_true rfl) (Nat.le_refl 0) (Nat.le_refl 0) (fun r_12 U_11 h H hU => ?_)
            refine pr_if_eq hC 78 (by decide +kernel : decode cX12_wordHere 71 = .ok (.ifCond .eq 7, 3)) (by decide) (fun c_71 => ?_) (fun c_71 => ?_)
            · replace H := H.1 c_71
              refine pr_aload_n hC (by decide +kernel : decode cX12_wordHere 78 = .ok (.aload_n 0, 1)) rfl ?_
              refine pr_ldcs hC ss_X12_231 (by decide +kernel : decode cX12_wordHere 79 = .ok (.ldc 231, 2)) ?_
              refine vc_Vi hC hR [.ref (Y.1.2.2 (200 + 21))] fv_X12_192 (by decide +kernel : decode cX12_wordHere 81 = .ok (.invokevirtual 192, 3)) hU (t_X12_isWord ho (by decide) H) ho (by decide) rfl rfl rfl (Nat.le_of_ble_eq_true rfl) (Nat.le_of_ble_eq_true rfl) (Nat.le_refl 0) (Nat.le_refl 0) (fun r_14 U_13 h H hU => ?_)
              refine pr_if_eq hC 92 (by decide +kernel : decode cX12_wordHere 84 = .ok (.ifCond .eq 8, 3)) (by decide) (fun c_84 => ?_) (fun c_84 => ?_)
              · replace H := H.1 c_84
                refine pr_aload_n hC (by decide +kernel : decode cX12_wordHere 92 = .ok (.aload_n 0, 1)) rfl ?_
                refine pr_ldcs hC ss_X12_233 (by decide +kernel : decode cX12_wordHere 93 = .ok (.ldc 233, 2)) ?_
                refine vc_Vi hC hR [.ref (Y.1.2.2 (200 + 22))] fv_X12_192 (by decide +kernel : decode cX12_wordHere 95 = .ok (.invokevirtual 192, 3)) hU (t_X12_isWord ho (by decide) H) ho (by decide) rfl rfl rfl (Nat.le_of_ble_eq_true rfl) (Nat.le_of_ble_eq_true rfl) (Nat.le_refl 0) (Nat.le_refl 0) (fun r_16 U_15 h H hU => ?_)
                refine pr_if_eq hC 106 (by decide +kernel : decode cX12_wordHere 98 = .ok (.ifCond .eq 8, 3)) (by decide) (fun c_98 => ?_) (fun c_98 => ?_)
                · replace H := H.1 c_98
                  refine pr_iconst hC (-1) (by decide +kernel : decode cX12_wordHere 106 = .ok (.iconst (-1), 1)) rfl ?_
                  exact pv_iret hM (by decide +kernel : decode cX12_wordHere 107 = .ok (.ireturn, 1)) hU H
                replace H := H.2 c_98
                refine pr_bipush hC (7) (by decide +kernel : decode cX12_wordHere 101 = .ok (.bipush 7, 2)) rfl ?_
                refine pr_goto hC 107 (by decide +kernel : decode cX12_wordHere 103 = .ok (.goto 4, 3)) (by decide) ?_
                exact pv_iret hM (by decide +kernel : decode cX12_wordHere 107 = .ok (.ireturn, 1)) hU H
              replace H := H.2 c_84
              refine pr_bipush hC (6) (by decide +kernel : decode cX12_wordHere 87 = .ok (.bipush 6, 2)) rfl ?_
              refine pr_goto hC 107 (by decide +kernel : decode cX12_wordHere 89 = .ok (.goto 18, 3)) (by decide) ?_
              exact pv_iret hM (by decide +kernel : decode cX12_wordHere 107 = .ok (.ireturn, 1)) hU H
            replace H := H.2 c_71
            refine pr_iconst hC (5) (by decide +kernel : decode cX12_wordHere 74 = .ok (.iconst 5, 1)) rfl ?_
            refine pr_goto hC 107 (by decide +kernel : decode cX12_wordHere 75 = .ok (.goto 32, 3)) (by decide) ?_
            exact pv_iret hM (by decide +kernel : decode cX12_wordHere 107 = .ok (.ireturn, 1)) hU H
          replace H := H.2 c_58
          refine pr_iconst hC (4) (by decide +kernel : decode cX12_wordHere 61 = .ok (.iconst 4, 1)) rfl ?_
          refine pr_goto hC 107 (by decide +kernel : decode cX12_wordHere 62 = .ok (.goto 45, 3)) (by decide) ?_
          exact pv_iret hM (by decide +kernel : decode cX12_wordHere 107 = .ok (.ireturn, 1)) hU H
        replace H := H.2 c_45
        refine pr_iconst hC (3) (by decide +kernel : decode cX12_wordHere 48 = .ok (.iconst 3, 1)) rfl ?_
        refine pr_goto hC 107 (by decide +kernel : decode cX12_wordHere 49 = .ok (.goto 58, 3)) (by decide) ?_
        exact pv_iret hM (by decide +kernel : decode cX12_wordHere 107 = .ok (.ireturn, 1)) hU H
      replace H := H.2 c_32
      refine pr_iconst hC (2) (by decide +kernel : decode cX12_wordHere 35 = .ok (.iconst 2, 1)) rfl ?_
      refine pr_goto hC 107 (by decide +kernel : decode cX12_wordHere 36 = .ok (.goto 71, 3)) (by decide) ?_
      exact pv_iret hM (by decide +kernel : decode cX12_wordHere 107 = .ok (.ireturn, 1)) hU H
    replace H := H.2 c_19
    refine pr_iconst hC (1) (by decide +kernel : decode cX12_wordHere 22 = .ok (.iconst 1, 1)) rfl ?_
    refine pr_goto hC 107 (by decide +kernel : decode cX12_wordHere 23 = .ok (.goto 84, 3)) (by decide) ?_
    exact pv_iret hM (by decide +kernel : decode cX12_wordHere 107 = .ok (.ireturn, 1)) hU H
  replace H := H.2 c_6
  refine pr_iconst hC (0) (by decide +kernel : decode cX12_wordHere 9 = .ok (.iconst 0, 1)) rfl ?_
  refine pr_goto hC 107 (by decide +kernel : decode cX12_wordHere 10 = .ok (.goto 97, 3)) (by decide) ?_
  exact pv_iret hM (by decide +kernel : decode cX12_wordHere 107 = .ok (.ireturn, 1)) hU H
def b_X12_readBracket (rec : Nat → Um → (Int32 → Um → Prop) → Prop) (o : Nat) (U : Um) (post : Int32 → Um → Prop) : Prop :=
  w_X12_isSign o 40 U (fun r_2 U_1 => (r_2 = 0 → w_X12_fails o 1 U_1 (fun r_4 U_3 => (r_4 = 0 ∨ r_4 = 1) ∧ post r_4 U_3)) ∧ (¬ r_2 = 0 → ((uI U_1 o 29) = 4 → w_X12_fails o 5 U_1 (fun r_6 U_5 => (r_6 = 0 ∨ r_6 = 1) ∧ post r_6 U_5)) ∧ (¬ (uI U_1 o 29) = 4 → ∀ (U_7 : Um), U_7 = sI U_1 o 29 ((uI U_1 o 29) + 1) → w_X12_next o U_7 (fun U_8 => rec o U_8 (fun r_11 U_10 => (r_11 = 0 → post 0 U_10) ∧ (¬ r_11 = 0 → w_X12_isSign o 41 U_10 (fun r_13 U_12 => (r_13 = 0 → w_X12_fails o 1 U_12 (fun r_15 U_14 => (r_15 = 0 ∨ r_15 = 1) ∧ post r_15 U_14)) ∧ (¬ r_13 = 0 → ∀ (U_16 : Um), U_16 = sI U_12 o 29 ((uI U_12 o 29) - 1) → w_X12_next o U_16 (fun U_17 => post 1 U_17)))))))))
set_option maxHeartbeats 4000000 in
theorem tb_X12_readBracket {l : Launch} {Y : px_Y} {dd : Nat} {rec : Nat → Um → (Int32 → Um → Prop) → Prop} (hrec : ∀ (l : Launch) (o : Nat) (U : Um) (post : Int32 → Um → Prop), oc o = 10 → rec o U post → um l Y dd yX12_readSum cX12_readSum 2 (some (.boolean)) [.ref (Y.2.1 o)] U (pq_i post)) (hD : 5 ≤ dd) {o : Nat} {U : Um} {post : Int32 → Um → Prop} (ho : oc o = 10) (H : b_X12_readBracket rec o U post) : um l Y (dd + 1) yX12_readBracket cX12_readBracket 1 (some (.boolean)) [.ref (Y.2.1 o)] U (pq_i post) := by
  unfold b_X12_readBracket at H
  refine um_of (by decide) (Nat.le_of_ble_eq_true rfl) [some (.ref (Y.2.1 o))] rfl (fun X h0 hh sz hM hU => ?_)
  have hC := hM.1
  have hR := hM.2.2.1
  refine pr_aload_n hC (by decide +kernel : decode cX12_readBracket 0 = .ok (.aload_n 0, 1)) rfl ?_
  refine pr_bipush hC (40) (by decide +kernel : decode cX12_readBracket 1 = .ok (.bipush 40, 2)) rfl ?_
  refine vc_Vi hC hR [.int 40] fv_X12_290 (by decide +kernel : decode cX12_readBracket 3 = .ok (.invokevirtual 290, 3)) hU (t_X12_isSign ho H) ho (by decide) rfl rfl rfl (Nat.le_of_ble_eq_true rfl) (by omega) (Nat.le_refl 0) (Nat.le_refl 0) (fun r_2 U_1 h H hU => ?_)
  refine pr_if_ne hC 15 (by decide +kernel : decode cX12_readBracket 6 = .ok (.ifCond .ne 9, 3)) (by decide) (fun c_6 => ?_) (fun c_6 => ?_)
  · replace H := H.2 c_6
    refine pr_aload_n hC (by decide +kernel : decode cX12_readBracket 15 = .ok (.aload_n 0, 1)) rfl ?_
    refine pu_g0 hC fg_X12_281 (by decide +kernel : decode cX12_readBracket 16 = .ok (.getfield 281, 3)) hU ho (by decide) rfl rfl ?_
    refine pr_iconst hC (4) (by decide +kernel : decode cX12_readBracket 19 = .ok (.iconst 4, 1)) rfl ?_
    refine pr_icmp_ne hC 29 (by decide +kernel : decode cX12_readBracket 20 = .ok (.if_icmp .ne 9, 3)) (by decide) (fun c_20 => ?_) (fun c_20 => ?_)
    · replace H := H.2 c_20
      refine pr_aload_n hC (by decide +kernel : decode cX12_readBracket 29 = .ok (.aload_n 0, 1)) rfl ?_
      refine pr_dup hC (by decide +kernel : decode cX12_readBracket 30 = .ok (.dup, 1)) rfl ?_
      refine pu_g0 hC fg_X12_281 (by decide +kernel : decode cX12_readBracket 31 = .ok (.getfield 281, 3)) hU ho (by decide) rfl rfl ?_
      refine pr_iconst hC (1) (by decide +kernel : decode cX12_readBracket 34 = .ok (.iconst 1, 1)) rfl ?_
      refine pr_iadd hC (by decide +kernel : decode cX12_readBracket 35 = .ok (.iadd, 1)) ?_
      refine pv_p0 hC fp_X12_281 (by decide +kernel : decode cX12_readBracket 36 = .ok (.putfield 281, 3)) hU ho (by decide) rfl rfl rfl rfl (fun U_7 h e_U_7 hU => ?_)
      replace H := H U_7 e_U_7
      refine pr_aload_n hC (by decide +kernel : decode cX12_readBracket 39 = .ok (.aload_n 0, 1)) rfl ?_
      refine vc_Vv hC hR [] fv_X12_242 (by decide +kernel : decode cX12_readBracket 40 = .ok (.invokevirtual 242, 3)) hU (t_X12_next ho H) ho (by decide) rfl rfl rfl (Nat.le_of_ble_eq_true rfl) (by omega) (Nat.le_refl 0) (Nat.le_refl 0) (fun U_8 h H hU => ?_)
      refine pr_aload_n hC (by decide +kernel : decode cX12_readBracket 43 = .ok (.aload_n 0, 1)) rfl ?_
      refine vc_Vi hC hR [] fv_X12_284 (by decide +kernel : decode cX12_readBracket 44 = .ok (.invokevirtual 284, 3)) hU (hrec _ _ _ _ ho H) ho (by decide) rfl rfl rfl (Nat.le_of_ble_eq_true rfl) (by omega) (Nat.le_refl 0) (Nat.le_refl 0) (fun r_11 U_10 h H hU => ?_)
      refine pr_if_ne hC 52 (by decide +kernel : decode cX12_readBracket 47 = .ok (.ifCond .ne 5, 3)) (by decide) (fun c_47 => ?_) (fun c_47 => ?_)
      · replace H := H.2 c_47
        refine pr_aload_n hC (by decide +kernel : decode cX12_readBracket 52 = .ok (.aload_n 0, 1)) rfl ?_
        refine pr_bipush hC (41) (by decide +kernel : decode cX12_readBracket 53 = .ok (.bipush 41, 2)) rfl ?_
        refine vc_Vi hC hR [.int 41] fv_X12_290 (by decide +kernel : decode cX12_readBracket 55 = .ok (.invokevirtual 290, 3)) hU (t_X12_isSign ho H) ho (by decide) rfl rfl rfl (Nat.le_of_ble_eq_true rfl) (by omega) (Nat.le_refl 0) (Nat.le_refl 0) (fun r_13 U_12 h H hU => ?_)
        refine pr_if_ne hC 67 (by decide +kernel : decode cX12_readBracket 58 = .ok (.ifCond .ne 9, 3)) (by decide) (fun c_58 => ?_) (fun c_58 => ?_)
        · replace H := H.2 c_58
          refine pr_aload_n hC (by decide +kernel : decode cX12_readBracket 67 = .ok (.aload_n 0, 1)) rfl ?_
          refine pr_dup hC (by decide +kernel : decode cX12_readBracket 68 = .ok (.dup, 1)) rfl ?_
          refine pu_g0 hC fg_X12_281 (by decide +kernel : decode cX12_readBracket 69 = .ok (.getfield 281, 3)) hU ho (by decide) rfl rfl ?_
          refine pr_iconst hC (1) (by decide +kernel : decode cX12_readBracket 72 = .ok (.iconst 1, 1)) rfl ?_
          refine pr_isub hC (by decide +kernel : decode cX12_readBracket 73 = .ok (.isub, 1)) ?_
          refine pv_p0 hC fp_X12_281 (by decide +kernel : decode cX12_readBracket 74 = .ok (.putfield 281, 3)) hU ho (by decide) rfl rfl rfl rfl (fun U_16 h e_U_16 hU => ?_)
          replace H := H U_16 e_U_16
          refine pr_aload_n hC (by decide +kernel : decode cX12_readBracket 77 = .ok (.aload_n 0, 1)) rfl ?_
          refine vc_Vv hC hR [] fv_X12_242 (by decide +kernel : decode cX12_readBracket 78 = .ok (.invokevirtual 242, 3)) hU (t_X12_next ho H) ho (by decide) rfl rfl rfl (Nat.le_of_ble_eq_true rfl) (by omega) (Nat.le_refl 0) (Nat.le_refl 0) (fun U_17 h H hU => ?_)
          refine pr_iconst hC (1) (by decide +kernel : decode cX12_readBracket 81 = .ok (.iconst 1, 1)) rfl ?_
          exact pv_zret hM (by decide +kernel : decode cX12_readBracket 82 = .ok (.ireturn, 1)) (Or.inr rfl) hU H
        replace H := H.1 c_58
        refine pr_aload_n hC (by decide +kernel : decode cX12_readBracket 61 = .ok (.aload_n 0, 1)) rfl ?_
        refine pr_iconst hC (1) (by decide +kernel : decode cX12_readBracket 62 = .ok (.iconst 1, 1)) rfl ?_
        refine vc_Vi hC hR [.int 1] fv_X12_238 (by decide +kernel : decode cX12_readBracket 63 = .ok (.invokevirtual 238, 3)) hU (t_X12_fails ho H) ho (by decide) rfl rfl rfl (Nat.le_of_ble_eq_true rfl) (by omega) (Nat.le_refl 0) (Nat.le_refl 0) (fun r_15 U_14 h H hU => ?_)
        exact pv_zret hM (by decide +kernel : decode cX12_readBracket 66 = .ok (.ireturn, 1)) H.1 hU H.2
      replace H := H.1 c_47
      refine pr_iconst hC (0) (by decide +kernel : decode cX12_readBracket 50 = .ok (.iconst 0, 1)) rfl ?_
      exact pv_zret hM (by decide +kernel : decode cX12_readBracket 51 = .ok (.ireturn, 1)) (Or.inl rfl) hU H
    replace H := H.1 c_20
    refine pr_aload_n hC (by decide +kernel : decode cX12_readBracket 23 = .ok (.aload_n 0, 1)) rfl ?_
    refine pr_iconst hC (5) (by decide +kernel : decode cX12_readBracket 24 = .ok (.iconst 5, 1)) rfl ?_
    refine vc_Vi hC hR [.int 5] fv_X12_238 (by decide +kernel : decode cX12_readBracket 25 = .ok (.invokevirtual 238, 3)) hU (t_X12_fails ho H) ho (by decide) rfl rfl rfl (Nat.le_of_ble_eq_true rfl) (by omega) (Nat.le_refl 0) (Nat.le_refl 0) (fun r_6 U_5 h H hU => ?_)
    exact pv_zret hM (by decide +kernel : decode cX12_readBracket 28 = .ok (.ireturn, 1)) H.1 hU H.2
  replace H := H.1 c_6
  refine pr_aload_n hC (by decide +kernel : decode cX12_readBracket 9 = .ok (.aload_n 0, 1)) rfl ?_
  refine pr_iconst hC (1) (by decide +kernel : decode cX12_readBracket 10 = .ok (.iconst 1, 1)) rfl ?_
  refine vc_Vi hC hR [.int 1] fv_X12_238 (by decide +kernel : decode cX12_readBracket 11 = .ok (.invokevirtual 238, 3)) hU (t_X12_fails ho H) ho (by decide) rfl rfl rfl (Nat.le_of_ble_eq_true rfl) (by omega) (Nat.le_refl 0) (Nat.le_refl 0) (fun r_4 U_3 h H hU => ?_)
  exact pv_zret hM (by decide +kernel : decode cX12_readBracket 14 = .ok (.ireturn, 1)) H.1 hU H.2
def b_X12_readAtom (rec : Nat → Um → (Int32 → Um → Prop) → Prop) (o : Nat) (U : Um) (post : Int32 → Um → Prop) : Prop :=
  w_X12_wordHere o U (fun r_2 U_1 => (∀ K_3 : Um → Prop, (∀ (U_4 : Um), (w_X12_next o U_4 (fun U_5 => post 1 U_5)) → K_3 U_4) → ((uI U_1 o 22) = 2 → ((4 : Int32) < ((uI U_1 o 24) - (uI U_1 o 23)) → (r_2 = (-1) → b_X12_readBracket rec o U_1 (fun r_8 U_7 => (r_8 = 0 ∨ r_8 = 1) ∧ post r_8 U_7)) ∧ (¬ r_2 = (-1) → w_X12_puts o 1 r_2 U_1 (fun U_9 => K_3 U_9))) ∧ (¬ (4 : Int32) < ((uI U_1 o 24) - (uI U_1 o 23)) → w_X12_puts o 0 (uI U_1 o 26) U_1 (fun U_11 => K_3 U_11))) ∧ (¬ (uI U_1 o 22) = 2 → (r_2 = (-1) → b_X12_readBracket rec o U_1 (fun r_14 U_13 => (r_14 = 0 ∨ r_14 = 1) ∧ post r_14 U_13)) ∧ (¬ r_2 = (-1) → w_X12_puts o 1 r_2 U_1 (fun U_15 => K_3 U_15)))))
set_option maxHeartbeats 4000000 in
theorem tb_X12_readAtom {l : Launch} {Y : px_Y} {dd : Nat} {rec : Nat → Um → (Int32 → Um → Prop) → Prop} (hrec : ∀ (l : Launch) (o : Nat) (U : Um) (post : Int32 → Um → Prop), oc o = 10 → rec o U post → um l Y dd yX12_readSum cX12_readSum 2 (some (.boolean)) [.ref (Y.2.1 o)] U (pq_i post)) (hD : 5 ≤ dd) {o : Nat} {U : Um} {post : Int32 → Um → Prop} (ho : oc o = 10) (H : b_X12_readAtom rec o U post) : um l Y (dd + 2) yX12_readAtom cX12_readAtom 2 (some (.boolean)) [.ref (Y.2.1 o)] U (pq_i post) := by
  unfold b_X12_readAtom at H
  refine um_of (by decide) (Nat.le_of_ble_eq_true rfl) [some (.ref (Y.2.1 o)), none] rfl (fun X h0 hh sz hM hU => ?_)
  have hC := hM.1
  have hR := hM.2.2.1
  refine pr_aload_n hC (by decide +kernel : decode cX12_readAtom 0 = .ok (.aload_n 0, 1)) rfl ?_
  refine vc_Vi hC hR [] fv_X12_300 (by decide +kernel : decode cX12_readAtom 1 = .ok (.invokevirtual 300, 3)) hU (t_X12_wordHere ho H) ho (by decide) rfl rfl rfl (Nat.le_of_ble_eq_true rfl) (by omega) (Nat.le_refl 0) (Nat.le_refl 0) (fun r_2 U_1 h H hU => ?_)
  refine pr_istore_n hC (by decide +kernel : decode cX12_readAtom 4 = .ok (.istore_n 1, 1)) (by decide) rfl ?_
  refine pr_aload_n hC (by decide +kernel : decode cX12_readAtom 5 = .ok (.aload_n 0, 1)) rfl ?_
  refine pu_g0 hC fg_X12_155 (by decide +kernel : decode cX12_readAtom 6 = .ok (.getfield 155, 3)) hU ho (by decide) rfl rfl ?_
  refine pr_iconst hC (2) (by decide +kernel : decode cX12_readAtom 9 = .ok (.iconst 2, 1)) rfl ?_
  replace H := H (fun U_4 => ∀ h : pe_H, rF Y h0 U_4 h → pw X Y.1 (pm_A hh sz) (pm_E X Y.1 hh sz 0 0 (pm_P Y h0 sz (pq_i post))) 57 [some (.ref (Y.2.1 o)), none] [] h sz 0 0) (by
    intro U_4 H h hU
    refine pr_aload_n hC (by decide +kernel : decode cX12_readAtom 57 = .ok (.aload_n 0, 1)) rfl ?_
    refine vc_Vv hC hR [] fv_X12_242 (by decide +kernel : decode cX12_readAtom 58 = .ok (.invokevirtual 242, 3)) hU (t_X12_next ho H) ho (by decide) rfl rfl rfl (Nat.le_of_ble_eq_true rfl) (by omega) (Nat.le_refl 0) (Nat.le_refl 0) (fun U_5 h H hU => ?_)
    refine pr_iconst hC (1) (by decide +kernel : decode cX12_readAtom 61 = .ok (.iconst 1, 1)) rfl ?_
    exact pv_zret hM (by decide +kernel : decode cX12_readAtom 62 = .ok (.ireturn, 1)) (Or.inr rfl) hU H)
  refine pr_icmp_ne hC 38 (by decide +kernel : decode cX12_readAtom 10 = .ok (.if_icmp .ne 28, 3)) (by decide) (fun c_10 => ?_) (fun c_10 => ?_)
  · replace H := H.2 c_10
    refine pr_iload_n hC (by decide +kernel : decode cX12_readAtom 38 = .ok (.iload_n 1, 1)) rfl ?_
    refine pr_iconst hC (-1) (by decide +kernel : decode cX12_readAtom 39 = .ok (.iconst (-1), 1)) rfl ?_
    refine pr_icmp_eq hC 52 (by decide +kernel : decode cX12_readAtom 40 = .ok (.if_icmp .eq 12, 3)) (by decide) (fun c_40 => ?_) (fun c_40 => ?_)
    · replace H := H.1 c_40
      refine pr_aload_n hC (by decide +kernel : decode cX12_readAtom 52 = .ok (.aload_n 0, 1)) rfl ?_
      refine vc_Vi hC hR [] fv_X12_303 (by decide +kernel : decode cX12_readAtom 53 = .ok (.invokevirtual 303, 3)) hU (tb_X12_readBracket hrec hD ho H) ho (by decide) rfl rfl rfl (Nat.le_of_ble_eq_true rfl) (by omega) (Nat.le_refl 0) (Nat.le_refl 0) (fun r_14 U_13 h H hU => ?_)
      exact pv_zret hM (by decide +kernel : decode cX12_readAtom 56 = .ok (.ireturn, 1)) H.1 hU H.2
    replace H := H.2 c_40
    refine pr_aload_n hC (by decide +kernel : decode cX12_readAtom 43 = .ok (.aload_n 0, 1)) rfl ?_
    refine pr_iconst hC (1) (by decide +kernel : decode cX12_readAtom 44 = .ok (.iconst 1, 1)) rfl ?_
    refine pr_iload_n hC (by decide +kernel : decode cX12_readAtom 45 = .ok (.iload_n 1, 1)) rfl ?_
    refine vc_Vv hC hR [.int 1, .int r_2] fv_X12_293 (by decide +kernel : decode cX12_readAtom 46 = .ok (.invokevirtual 293, 3)) hU (t_X12_puts ho H) ho (by decide) rfl rfl rfl (Nat.le_of_ble_eq_true rfl) (by omega) (Nat.le_refl 0) (Nat.le_refl 0) (fun U_15 h H hU => ?_)
    refine pr_goto hC 57 (by decide +kernel : decode cX12_readAtom 49 = .ok (.goto 8, 3)) (by decide) ?_
    exact pv_sub [some (.ref (Y.2.1 o)), none] (And.intro rfl trivial) (H h hU)
  replace H := H.1 c_10
  refine pr_aload_n hC (by decide +kernel : decode cX12_readAtom 13 = .ok (.aload_n 0, 1)) rfl ?_
  refine pu_g0 hC fg_X12_135 (by decide +kernel : decode cX12_readAtom 14 = .ok (.getfield 135, 3)) hU ho (by decide) rfl rfl ?_
  refine pr_aload_n hC (by decide +kernel : decode cX12_readAtom 17 = .ok (.aload_n 0, 1)) rfl ?_
  refine pu_g0 hC fg_X12_142 (by decide +kernel : decode cX12_readAtom 18 = .ok (.getfield 142, 3)) hU ho (by decide) rfl rfl ?_
  refine pr_isub hC (by decide +kernel : decode cX12_readAtom 21 = .ok (.isub, 1)) ?_
  refine pr_iconst hC (4) (by decide +kernel : decode cX12_readAtom 22 = .ok (.iconst 4, 1)) rfl ?_
  refine pr_icmp_gt hC 38 (by decide +kernel : decode cX12_readAtom 23 = .ok (.if_icmp .gt 15, 3)) (by decide) (fun c_23 => ?_) (fun c_23 => ?_)
  · replace H := H.1 c_23
    refine pr_iload_n hC (by decide +kernel : decode cX12_readAtom 38 = .ok (.iload_n 1, 1)) rfl ?_
    refine pr_iconst hC (-1) (by decide +kernel : decode cX12_readAtom 39 = .ok (.iconst (-1), 1)) rfl ?_
    refine pr_icmp_eq hC 52 (by decide +kernel : decode cX12_readAtom 40 = .ok (.if_icmp .eq 12, 3)) (by decide) (fun c_40 => ?_) (fun c_40 => ?_)
    · replace H := H.1 c_40
      refine pr_aload_n hC (by decide +kernel : decode cX12_readAtom 52 = .ok (.aload_n 0, 1)) rfl ?_
      refine vc_Vi hC hR [] fv_X12_303 (by decide +kernel : decode cX12_readAtom 53 = .ok (.invokevirtual 303, 3)) hU (tb_X12_readBracket hrec hD ho H) ho (by decide) rfl rfl rfl (Nat.le_of_ble_eq_true rfl) (by omega) (Nat.le_refl 0) (Nat.le_refl 0) (fun r_8 U_7 h H hU => ?_)
      exact pv_zret hM (by decide +kernel : decode cX12_readAtom 56 = .ok (.ireturn, 1)) H.1 hU H.2
    replace H := H.2 c_40
    refine pr_aload_n hC (by decide +kernel : decode cX12_readAtom 43 = .ok (.aload_n 0, 1)) rfl ?_
    refine pr_iconst hC (1) (by decide +kernel : decode cX12_readAtom 44 = .ok (.iconst 1, 1)) rfl ?_
    refine pr_iload_n hC (by decide +kernel : decode cX12_readAtom 45 = .ok (.iload_n 1, 1)) rfl ?_
    refine vc_Vv hC hR [.int 1, .int r_2] fv_X12_293 (by decide +kernel : decode cX12_readAtom 46 = .ok (.invokevirtual 293, 3)) hU (t_X12_puts ho H) ho (by decide) rfl rfl rfl (Nat.le_of_ble_eq_true rfl) (by omega) (Nat.le_refl 0) (Nat.le_refl 0) (fun U_9 h H hU => ?_)
    refine pr_goto hC 57 (by decide +kernel : decode cX12_readAtom 49 = .ok (.goto 8, 3)) (by decide) ?_
    exact pv_sub [some (.ref (Y.2.1 o)), none] (And.intro rfl trivial) (H h hU)
  replace H := H.2 c_23
  refine pr_aload_n hC (by decide +kernel : decode cX12_readAtom 26 = .ok (.aload_n 0, 1)) rfl ?_
  refine pr_iconst hC (0) (by decide +kernel : decode cX12_readAtom 27 = .ok (.iconst 0, 1)) rfl ?_
  refine pr_aload_n hC (by decide +kernel : decode cX12_readAtom 28 = .ok (.aload_n 0, 1)) rfl ?_
  refine pu_g0 hC fg_X12_149 (by decide +kernel : decode cX12_readAtom 29 = .ok (.getfield 149, 3)) hU ho (by decide) rfl rfl ?_
  refine vc_Vv hC hR [.int 0, .int (uI U_1 o 26)] fv_X12_293 (by decide +kernel : decode cX12_readAtom 32 = .ok (.invokevirtual 293, 3)) hU (t_X12_puts ho H) ho (by decide) rfl rfl rfl (Nat.le_of_ble_eq_true rfl) (by omega) (Nat.le_refl 0) (Nat.le_refl 0) (fun U_11 h H hU => ?_)
  refine pr_goto hC 57 (by decide +kernel : decode cX12_readAtom 35 = .ok (.goto 22, 3)) (by decide) ?_
  exact pv_sub [some (.ref (Y.2.1 o)), none] (And.intro rfl trivial) (H h hU)
def b_X12_readTerm_L9 (rec : Nat → Um → (Int32 → Um → Prop) → Prop) (o0 : Nat) (post : Int32 → Um → Prop) (k_54 : Um → Prop) (rec_ : Um → Prop)  (U : Um) : Prop :=
  w_X12_isSign o0 42 U (fun r_4 U_3 => (∀ K_5 : Um → Prop, (∀ (U_6 : Um), (∀ (x1_7 : Int32), x1_7 = uI U_6 o0 27 → w_X12_next o0 U_6 (fun U_8 => b_X12_readAtom rec o0 U_8 (fun r_11 U_10 => (r_11 = 0 → post 0 U_10) ∧ (¬ r_11 = 0 → w_X12_puts o0 x1_7 0 U_10 (fun U_12 => rec_ U_12))))) → K_5 U_6) → (r_4 = 0 → w_X12_isSign o0 47 U_3 (fun r_15 U_14 => (r_15 = 0 → k_54 U_14) ∧ (¬ r_15 = 0 → K_5 U_14))) ∧ (¬ r_4 = 0 → K_5 U_3)))
def w_X12_readTerm_L9 (rec : Nat → Um → (Int32 → Um → Prop) → Prop) (o0 : Nat) (post : Int32 → Um → Prop) (k_54 : Um → Prop) (n_ : Nat) : Um → Prop := Nat.rec (motive := fun _ => Um → Prop) (fun _ => False) (fun _ ih => b_X12_readTerm_L9 rec o0 post k_54 ih) n_
def b_X12_readTerm (rec : Nat → Um → (Int32 → Um → Prop) → Prop) (o : Nat) (U : Um) (post : Int32 → Um → Prop) : Prop :=
  b_X12_readAtom rec o U (fun r_2 U_1 => (r_2 = 0 → post 0 U_1) ∧ (¬ r_2 = 0 → (∃ n_17, w_X12_readTerm_L9 rec o post (fun U_16 => post 1 U_16) n_17  U_1)))
set_option maxHeartbeats 4000000 in
theorem tl_X12_readTerm_L9 {l : Launch} {Y : px_Y} {X : px_X} {h0 hh : pe_H} {sz : Nat} {dd : Nat} (rec : Nat → Um → (Int32 → Um → Prop) → Prop) (o0 : Nat) (post : Int32 → Um → Prop) (k_54 : Um → Prop) (ho0 : oc o0 = 10) (hrec : ∀ (l : Launch) (o : Nat) (U : Um) (post : Int32 → Um → Prop), oc o = 10 → rec o U post → um l Y dd yX12_readSum cX12_readSum 2 (some (.boolean)) [.ref (Y.2.1 o)] U (pq_i post)) (hD : 5 ≤ dd) (hC : px_C X Y.1 (pm_A hh sz) cX12_readTerm RX12 2) (hM : px_M l X Y.1 hh sz yX12_readTerm cX12_readTerm 2 (some (.boolean)) (dd + 3) 0 0) (hR : X.2.2.2.1 = pm_rm (dd + 3) 0 0) (hk_54 : ∀ (U : Um) (h : pe_H), k_54 U → rF Y h0 U h → pw X Y.1 (pm_A hh sz) (pm_E X Y.1 hh sz 0 0 (pm_P Y h0 sz (pq_i post))) 54 [none, none] [] h sz 0 0) : ∀ (n_ : Nat)  (U : Um) (h : pe_H), rF Y h0 U h → w_X12_readTerm_L9 rec o0 post k_54 n_  U → pw X Y.1 (pm_A hh sz) (pm_E X Y.1 hh sz 0 0 (pm_P Y h0 sz (pq_i post))) 9 [some (.ref (Y.2.1 o0)), none] [] h sz 0 0 := by
  intro n_
  induction n_ with
  | zero => intro  U h hU H; exact False.elim H
  | succ n_ ih =>
    intro  U h hU H
    replace H : b_X12_readTerm_L9 rec o0 post k_54 (w_X12_readTerm_L9 rec o0 post k_54 n_)  U := H
    unfold b_X12_readTerm_L9 at H
    refine pr_aload_n hC (by decide +kernel : decode cX12_readTerm 9 = .ok (.aload_n 0, 1)) rfl ?_
    refine pr_bipush hC (42) (by decide +kernel : decode cX12_readTerm 10 = .ok (.bipush 42, 2)) rfl ?_
    refine vc_Vi hC hR [.int 42] fv_X12_290 (by decide +kernel : decode cX12_readTerm 12 = .ok (.invokevirtual 290, 3)) hU (t_X12_isSign ho0 H) ho0 (by decide) rfl rfl rfl (Nat.le_of_ble_eq_true rfl) (by omega) (Nat.le_refl 0) (Nat.le_refl 0) (fun r_4 U_3 h H hU => ?_)
    replace H := H (fun U_6 => ∀ h : pe_H, rF Y h0 U_6 h → pw X Y.1 (pm_A hh sz) (pm_E X Y.1 hh sz 0 0 (pm_P Y h0 sz (pq_i post))) 27 [some (.ref (Y.2.1 o0)), none] [] h sz 0 0) (by
      intro U_6 H h hU
      refine pr_aload_n hC (by decide +kernel : decode cX12_readTerm 27 = .ok (.aload_n 0, 1)) rfl ?_
      refine pu_g0 hC fg_X12_152 (by decide +kernel : decode cX12_readTerm 28 = .ok (.getfield 152, 3)) hU ho0 (by decide) rfl rfl ?_
      refine pv_topi (fun x1_7 e_x1_7 => ?_)
      replace H := H x1_7 e_x1_7
      refine pr_istore_n hC (by decide +kernel : decode cX12_readTerm 31 = .ok (.istore_n 1, 1)) (by decide) rfl ?_
      refine pr_aload_n hC (by decide +kernel : decode cX12_readTerm 32 = .ok (.aload_n 0, 1)) rfl ?_
      refine vc_Vv hC hR [] fv_X12_242 (by decide +kernel : decode cX12_readTerm 33 = .ok (.invokevirtual 242, 3)) hU (t_X12_next ho0 H) ho0 (by decide) rfl rfl rfl (Nat.le_of_ble_eq_true rfl) (by omega) (Nat.le_refl 0) (Nat.le_refl 0) (fun U_8 h H hU => ?_)
      refine pr_aload_n hC (by decide +kernel : decode cX12_readTerm 36 = .ok (.aload_n 0, 1)) rfl ?_
      refine vc_Vi hC hR [] fv_X12_297 (by decide +kernel : decode cX12_readTerm 37 = .ok (.invokevirtual 297, 3)) hU (tb_X12_readAtom hrec hD ho0 H) ho0 (by decide) rfl rfl rfl (Nat.le_of_ble_eq_true rfl) (by omega) (Nat.le_refl 0) (Nat.le_refl 0) (fun r_11 U_10 h H hU => ?_)
      refine pr_if_ne hC 45 (by decide +kernel : decode cX12_readTerm 40 = .ok (.ifCond .ne 5, 3)) (by decide) (fun c_40 => ?_) (fun c_40 => ?_)
      · replace H := H.2 c_40
        refine pr_aload_n hC (by decide +kernel : decode cX12_readTerm 45 = .ok (.aload_n 0, 1)) rfl ?_
        refine pr_iload_n hC (by decide +kernel : decode cX12_readTerm 46 = .ok (.iload_n 1, 1)) rfl ?_
        refine pr_iconst hC (0) (by decide +kernel : decode cX12_readTerm 47 = .ok (.iconst 0, 1)) rfl ?_
        refine vc_Vv hC hR [.int x1_7, .int 0] fv_X12_293 (by decide +kernel : decode cX12_readTerm 48 = .ok (.invokevirtual 293, 3)) hU (t_X12_puts ho0 H) ho0 (by decide) rfl rfl rfl (Nat.le_of_ble_eq_true rfl) (by omega) (Nat.le_refl 0) (Nat.le_refl 0) (fun U_12 h H hU => ?_)
        refine pr_goto hC 9 (by decide +kernel : decode cX12_readTerm 51 = .ok (.goto (-42), 3)) (by decide) ?_
        exact pv_sub [some (.ref (Y.2.1 o0)), none] (And.intro rfl trivial) (ih U_12 h hU H)
      replace H := H.1 c_40
      refine pr_iconst hC (0) (by decide +kernel : decode cX12_readTerm 43 = .ok (.iconst 0, 1)) rfl ?_
      exact pv_zret hM (by decide +kernel : decode cX12_readTerm 44 = .ok (.ireturn, 1)) (Or.inl rfl) hU H)
    refine pr_if_ne hC 27 (by decide +kernel : decode cX12_readTerm 15 = .ok (.ifCond .ne 12, 3)) (by decide) (fun c_15 => ?_) (fun c_15 => ?_)
    · replace H := H.2 c_15
      exact pv_sub [some (.ref (Y.2.1 o0)), none] (And.intro rfl trivial) (H h hU)
    replace H := H.1 c_15
    refine pr_aload_n hC (by decide +kernel : decode cX12_readTerm 18 = .ok (.aload_n 0, 1)) rfl ?_
    refine pr_bipush hC (47) (by decide +kernel : decode cX12_readTerm 19 = .ok (.bipush 47, 2)) rfl ?_
    refine vc_Vi hC hR [.int 47] fv_X12_290 (by decide +kernel : decode cX12_readTerm 21 = .ok (.invokevirtual 290, 3)) hU (t_X12_isSign ho0 H) ho0 (by decide) rfl rfl rfl (Nat.le_of_ble_eq_true rfl) (by omega) (Nat.le_refl 0) (Nat.le_refl 0) (fun r_15 U_14 h H hU => ?_)
    refine pr_if_eq hC 54 (by decide +kernel : decode cX12_readTerm 24 = .ok (.ifCond .eq 30, 3)) (by decide) (fun c_24 => ?_) (fun c_24 => ?_)
    · replace H := H.1 c_24
      exact pv_sub [none, none] (trivial) (hk_54 U_14 h H hU)
    replace H := H.2 c_24
    exact pv_sub [some (.ref (Y.2.1 o0)), none] (And.intro rfl trivial) (H h hU)
set_option maxHeartbeats 4000000 in
theorem tb_X12_readTerm {l : Launch} {Y : px_Y} {dd : Nat} {rec : Nat → Um → (Int32 → Um → Prop) → Prop} (hrec : ∀ (l : Launch) (o : Nat) (U : Um) (post : Int32 → Um → Prop), oc o = 10 → rec o U post → um l Y dd yX12_readSum cX12_readSum 2 (some (.boolean)) [.ref (Y.2.1 o)] U (pq_i post)) (hD : 5 ≤ dd) {o : Nat} {U : Um} {post : Int32 → Um → Prop} (ho : oc o = 10) (H : b_X12_readTerm rec o U post) : um l Y (dd + 3) yX12_readTerm cX12_readTerm 2 (some (.boolean)) [.ref (Y.2.1 o)] U (pq_i post) := by
  unfold b_X12_readTerm at H
  refine um_of (by decide) (Nat.le_of_ble_eq_true rfl) [some (.ref (Y.2.1 o)), none] rfl (fun X h0 hh sz hM hU => ?_)
  have hC := hM.1
  have hR := hM.2.2.1
  refine pr_aload_n hC (by decide +kernel : decode cX12_readTerm 0 = .ok (.aload_n 0, 1)) rfl ?_
  refine vc_Vi hC hR [] fv_X12_297 (by decide +kernel : decode cX12_readTerm 1 = .ok (.invokevirtual 297, 3)) hU (tb_X12_readAtom hrec hD ho H) ho (by decide) rfl rfl rfl (Nat.le_of_ble_eq_true rfl) (by omega) (Nat.le_refl 0) (Nat.le_refl 0) (fun r_2 U_1 h H hU => ?_)
  refine pr_if_ne hC 9 (by decide +kernel : decode cX12_readTerm 4 = .ok (.ifCond .ne 5, 3)) (by decide) (fun c_4 => ?_) (fun c_4 => ?_)
  · replace H := H.2 c_4
    obtain ⟨n_17, H⟩ := H
    refine pv_sub [some (.ref (Y.2.1 o)), none] (And.intro rfl trivial) ?_
    refine tl_X12_readTerm_L9 _ _ _ _ ho hrec hD hC hM hR (fun U_16 h H hU => ?_) n_17 U_1 h hU H
    refine pr_iconst hC (1) (by decide +kernel : decode cX12_readTerm 54 = .ok (.iconst 1, 1)) rfl ?_
    exact pv_zret hM (by decide +kernel : decode cX12_readTerm 55 = .ok (.ireturn, 1)) (Or.inr rfl) hU H
  replace H := H.1 c_4
  refine pr_iconst hC (0) (by decide +kernel : decode cX12_readTerm 7 = .ok (.iconst 0, 1)) rfl ?_
  exact pv_zret hM (by decide +kernel : decode cX12_readTerm 8 = .ok (.ireturn, 1)) (Or.inl rfl) hU H
def b_X12_readSum_L9 (rec : Nat → Um → (Int32 → Um → Prop) → Prop) (o0 : Nat) (post : Int32 → Um → Prop) (k_54 : Um → Prop) (rec_ : Um → Prop)  (U : Um) : Prop :=
  w_X12_isSign o0 43 U (fun r_4 U_3 => (∀ K_5 : Um → Prop, (∀ (U_6 : Um), (∀ (x1_7 : Int32), x1_7 = uI U_6 o0 27 → w_X12_next o0 U_6 (fun U_8 => b_X12_readTerm rec o0 U_8 (fun r_11 U_10 => (r_11 = 0 → post 0 U_10) ∧ (¬ r_11 = 0 → w_X12_puts o0 x1_7 0 U_10 (fun U_12 => rec_ U_12))))) → K_5 U_6) → (r_4 = 0 → w_X12_isSign o0 45 U_3 (fun r_15 U_14 => (r_15 = 0 → k_54 U_14) ∧ (¬ r_15 = 0 → K_5 U_14))) ∧ (¬ r_4 = 0 → K_5 U_3)))
def w_X12_readSum_L9 (rec : Nat → Um → (Int32 → Um → Prop) → Prop) (o0 : Nat) (post : Int32 → Um → Prop) (k_54 : Um → Prop) (n_ : Nat) : Um → Prop := Nat.rec (motive := fun _ => Um → Prop) (fun _ => False) (fun _ ih => b_X12_readSum_L9 rec o0 post k_54 ih) n_
def b_X12_readSum (rec : Nat → Um → (Int32 → Um → Prop) → Prop) (o : Nat) (U : Um) (post : Int32 → Um → Prop) : Prop :=
  b_X12_readTerm rec o U (fun r_2 U_1 => (r_2 = 0 → post 0 U_1) ∧ (¬ r_2 = 0 → (∃ n_17, w_X12_readSum_L9 rec o post (fun U_16 => post 1 U_16) n_17  U_1)))
def w_X12_readSum (n_ : Nat) : Nat → Um → (Int32 → Um → Prop) → Prop := Nat.rec (motive := fun _ => Nat → Um → (Int32 → Um → Prop) → Prop) (fun _ _ _ => False) (fun _ ih => b_X12_readSum ih) n_
set_option maxHeartbeats 4000000 in
theorem tl_X12_readSum_L9 {l : Launch} {Y : px_Y} {X : px_X} {h0 hh : pe_H} {sz : Nat} {dd : Nat} (rec : Nat → Um → (Int32 → Um → Prop) → Prop) (o0 : Nat) (post : Int32 → Um → Prop) (k_54 : Um → Prop) (ho0 : oc o0 = 10) (hrec : ∀ (l : Launch) (o : Nat) (U : Um) (post : Int32 → Um → Prop), oc o = 10 → rec o U post → um l Y dd yX12_readSum cX12_readSum 2 (some (.boolean)) [.ref (Y.2.1 o)] U (pq_i post)) (hD : 5 ≤ dd) (hC : px_C X Y.1 (pm_A hh sz) cX12_readSum RX12 2) (hM : px_M l X Y.1 hh sz yX12_readSum cX12_readSum 2 (some (.boolean)) (dd + 4) 0 0) (hR : X.2.2.2.1 = pm_rm (dd + 4) 0 0) (hk_54 : ∀ (U : Um) (h : pe_H), k_54 U → rF Y h0 U h → pw X Y.1 (pm_A hh sz) (pm_E X Y.1 hh sz 0 0 (pm_P Y h0 sz (pq_i post))) 54 [none, none] [] h sz 0 0) : ∀ (n_ : Nat)  (U : Um) (h : pe_H), rF Y h0 U h → w_X12_readSum_L9 rec o0 post k_54 n_  U → pw X Y.1 (pm_A hh sz) (pm_E X Y.1 hh sz 0 0 (pm_P Y h0 sz (pq_i post))) 9 [some (.ref (Y.2.1 o0)), none] [] h sz 0 0 := by
  intro n_
  induction n_ with
  | zero => intro  U h hU H; exact False.elim H
  | succ n_ ih =>
    intro  U h hU H
    replace H : b_X12_readSum_L9 rec o0 post k_54 (w_X12_readSum_L9 rec o0 post k_54 n_)  U := H
    unfold b_X12_readSum_L9 at H
    refine pr_aload_n hC (by decide +kernel : decode cX12_readSum 9 = .ok (.aload_n 0, 1)) rfl ?_
    refine pr_bipush hC (43) (by decide +kernel : decode cX12_readSum 10 = .ok (.bipush 43, 2)) rfl ?_
    refine vc_Vi hC hR [.int 43] fv_X12_290 (by decide +kernel : decode cX12_readSum 12 = .ok (.invokevirtual 290, 3)) hU (t_X12_isSign ho0 H) ho0 (by decide) rfl rfl rfl (Nat.le_of_ble_eq_true rfl) (by omega) (Nat.le_refl 0) (Nat.le_refl 0) (fun r_4 U_3 h H hU => ?_)
    replace H := H (fun U_6 => ∀ h : pe_H, rF Y h0 U_6 h → pw X Y.1 (pm_A hh sz) (pm_E X Y.1 hh sz 0 0 (pm_P Y h0 sz (pq_i post))) 27 [some (.ref (Y.2.1 o0)), none] [] h sz 0 0) (by
      intro U_6 H h hU
      refine pr_aload_n hC (by decide +kernel : decode cX12_readSum 27 = .ok (.aload_n 0, 1)) rfl ?_
      refine pu_g0 hC fg_X12_152 (by decide +kernel : decode cX12_readSum 28 = .ok (.getfield 152, 3)) hU ho0 (by decide) rfl rfl ?_
      refine pv_topi (fun x1_7 e_x1_7 => ?_)
      replace H := H x1_7 e_x1_7
      refine pr_istore_n hC (by decide +kernel : decode cX12_readSum 31 = .ok (.istore_n 1, 1)) (by decide) rfl ?_
      refine pr_aload_n hC (by decide +kernel : decode cX12_readSum 32 = .ok (.aload_n 0, 1)) rfl ?_
      refine vc_Vv hC hR [] fv_X12_242 (by decide +kernel : decode cX12_readSum 33 = .ok (.invokevirtual 242, 3)) hU (t_X12_next ho0 H) ho0 (by decide) rfl rfl rfl (Nat.le_of_ble_eq_true rfl) (by omega) (Nat.le_refl 0) (Nat.le_refl 0) (fun U_8 h H hU => ?_)
      refine pr_aload_n hC (by decide +kernel : decode cX12_readSum 36 = .ok (.aload_n 0, 1)) rfl ?_
      refine vc_Vi hC hR [] fv_X12_287 (by decide +kernel : decode cX12_readSum 37 = .ok (.invokevirtual 287, 3)) hU (tb_X12_readTerm hrec hD ho0 H) ho0 (by decide) rfl rfl rfl (Nat.le_of_ble_eq_true rfl) (by omega) (Nat.le_refl 0) (Nat.le_refl 0) (fun r_11 U_10 h H hU => ?_)
      refine pr_if_ne hC 45 (by decide +kernel : decode cX12_readSum 40 = .ok (.ifCond .ne 5, 3)) (by decide) (fun c_40 => ?_) (fun c_40 => ?_)
      · replace H := H.2 c_40
        refine pr_aload_n hC (by decide +kernel : decode cX12_readSum 45 = .ok (.aload_n 0, 1)) rfl ?_
        refine pr_iload_n hC (by decide +kernel : decode cX12_readSum 46 = .ok (.iload_n 1, 1)) rfl ?_
        refine pr_iconst hC (0) (by decide +kernel : decode cX12_readSum 47 = .ok (.iconst 0, 1)) rfl ?_
        refine vc_Vv hC hR [.int x1_7, .int 0] fv_X12_293 (by decide +kernel : decode cX12_readSum 48 = .ok (.invokevirtual 293, 3)) hU (t_X12_puts ho0 H) ho0 (by decide) rfl rfl rfl (Nat.le_of_ble_eq_true rfl) (by omega) (Nat.le_refl 0) (Nat.le_refl 0) (fun U_12 h H hU => ?_)
        refine pr_goto hC 9 (by decide +kernel : decode cX12_readSum 51 = .ok (.goto (-42), 3)) (by decide) ?_
        exact pv_sub [some (.ref (Y.2.1 o0)), none] (And.intro rfl trivial) (ih U_12 h hU H)
      replace H := H.1 c_40
      refine pr_iconst hC (0) (by decide +kernel : decode cX12_readSum 43 = .ok (.iconst 0, 1)) rfl ?_
      exact pv_zret hM (by decide +kernel : decode cX12_readSum 44 = .ok (.ireturn, 1)) (Or.inl rfl) hU H)
    refine pr_if_ne hC 27 (by decide +kernel : decode cX12_readSum 15 = .ok (.ifCond .ne 12, 3)) (by decide) (fun c_15 => ?_) (fun c_15 => ?_)
    · replace H := H.2 c_15
      exact pv_sub [some (.ref (Y.2.1 o0)), none] (And.intro rfl trivial) (H h hU)
    replace H := H.1 c_15
    refine pr_aload_n hC (by decide +kernel : decode cX12_readSum 18 = .ok (.aload_n 0, 1)) rfl ?_
    refine pr_bipush hC (45) (by decide +kernel : decode cX12_readSum 19 = .ok (.bipush 45, 2)) rfl ?_
    refine vc_Vi hC hR [.int 45] fv_X12_290 (by decide +kernel : decode cX12_readSum 21 = .ok (.invokevirtual 290, 3)) hU (t_X12_isSign ho0 H) ho0 (by decide) rfl rfl rfl (Nat.le_of_ble_eq_true rfl) (by omega) (Nat.le_refl 0) (Nat.le_refl 0) (fun r_15 U_14 h H hU => ?_)
    refine pr_if_eq hC 54 (by decide +kernel : decode cX12_readSum 24 = .ok (.ifCond .eq 30, 3)) (by decide) (fun c_24 => ?_) (fun c_24 => ?_)
    · replace H := H.1 c_24
      exact pv_sub [none, none] (trivial) (hk_54 U_14 h H hU)
    replace H := H.2 c_24
    exact pv_sub [some (.ref (Y.2.1 o0)), none] (And.intro rfl trivial) (H h hU)
set_option maxHeartbeats 4000000 in
theorem tb_X12_readSum {l : Launch} {Y : px_Y} {dd : Nat} {rec : Nat → Um → (Int32 → Um → Prop) → Prop} (hrec : ∀ (l : Launch) (o : Nat) (U : Um) (post : Int32 → Um → Prop), oc o = 10 → rec o U post → um l Y dd yX12_readSum cX12_readSum 2 (some (.boolean)) [.ref (Y.2.1 o)] U (pq_i post)) (hD : 5 ≤ dd) {o : Nat} {U : Um} {post : Int32 → Um → Prop} (ho : oc o = 10) (H : b_X12_readSum rec o U post) : um l Y (dd + 4) yX12_readSum cX12_readSum 2 (some (.boolean)) [.ref (Y.2.1 o)] U (pq_i post) := by
  unfold b_X12_readSum at H
  refine um_of (by decide) (Nat.le_of_ble_eq_true rfl) [some (.ref (Y.2.1 o)), none] rfl (fun X h0 hh sz hM hU => ?_)
  have hC := hM.1
  have hR := hM.2.2.1
  refine pr_aload_n hC (by decide +kernel : decode cX12_readSum 0 = .ok (.aload_n 0, 1)) rfl ?_
  refine vc_Vi hC hR [] fv_X12_287 (by decide +kernel : decode cX12_readSum 1 = .ok (.invokevirtual 287, 3)) hU (tb_X12_readTerm hrec hD ho H) ho (by decide) rfl rfl rfl (Nat.le_of_ble_eq_true rfl) (by omega) (Nat.le_refl 0) (Nat.le_refl 0) (fun r_2 U_1 h H hU => ?_)
  refine pr_if_ne hC 9 (by decide +kernel : decode cX12_readSum 4 = .ok (.ifCond .ne 5, 3)) (by decide) (fun c_4 => ?_) (fun c_4 => ?_)
  · replace H := H.2 c_4
    obtain ⟨n_17, H⟩ := H
    refine pv_sub [some (.ref (Y.2.1 o)), none] (And.intro rfl trivial) ?_
    refine tl_X12_readSum_L9 _ _ _ _ ho hrec hD hC hM hR (fun U_16 h H hU => ?_) n_17 U_1 h hU H
    refine pr_iconst hC (1) (by decide +kernel : decode cX12_readSum 54 = .ok (.iconst 1, 1)) rfl ?_
    exact pv_zret hM (by decide +kernel : decode cX12_readSum 55 = .ok (.ireturn, 1)) (Or.inr rfl) hU H
  replace H := H.1 c_4
  refine pr_iconst hC (0) (by decide +kernel : decode cX12_readSum 7 = .ok (.iconst 0, 1)) rfl ?_
  exact pv_zret hM (by decide +kernel : decode cX12_readSum 8 = .ok (.ireturn, 1)) (Or.inl rfl) hU H
theorem tn_X12_readSum {l : Launch} {Y : px_Y} : ∀ (n_ : Nat) (o : Nat) (U : Um) (post : Int32 → Um → Prop), oc o = 10 → w_X12_readSum n_ o U post → um l Y (5 + 4 * n_) yX12_readSum cX12_readSum 2 (some (.boolean)) [.ref (Y.2.1 o)] U (pq_i post)
  | 0 => fun _ _ _ _ H => False.elim H
  | n_ + 1 => fun o U post ho H => tb_X12_readSum (fun _ => tn_X12_readSum n_) (Nat.le_add_right _ _) ho H
theorem t_X12_readSum {l : Launch} {Y : px_Y} (n_ : Nat) {o : Nat} {U : Um} {post : Int32 → Um → Prop} (ho : oc o = 10) (H : w_X12_readSum n_ o U post) : um l Y (5 + 4 * n_) yX12_readSum cX12_readSum 2 (some (.boolean)) [.ref (Y.2.1 o)] U (pq_i post) := tn_X12_readSum n_ _ _ _ ho H
def w_X12_readFee (o : Nat) (U : Um) (post : Int32 → Um → Prop) : Prop :=
  vp_in 13 14 ∧ ((uA U o 11 (Int32.toNatClampNeg 13)) = 1 → w_X12_fails o 4 U (fun r_2 U_1 => (r_2 = 0 ∨ r_2 = 1) ∧ post r_2 U_1)) ∧ (¬ (uA U o 11 (Int32.toNatClampNeg 13)) = 1 → vp_in 13 14 ∧ ∀ (U_3 : Um), U_3 = sA U o 11 (va_up (uA U o 11) (Int32.toNatClampNeg 13) 1) → w_X12_next o U_3 (fun U_4 => ∀ (U_6 : Um), U_6 = sI U_4 o 29 0 → w_X12_readSum 5 o U_6 (fun r_8 U_7 => (r_8 = 0 ∨ r_8 = 1) ∧ post r_8 U_7)))
set_option maxHeartbeats 4000000 in
theorem t_X12_readFee {l : Launch} {Y : px_Y} {o : Nat} {U : Um} {post : Int32 → Um → Prop} (ho : oc o = 10) (H : w_X12_readFee o U post) : um l Y 26 yX12_readFee cX12_readFee 1 (some (.boolean)) [.ref (Y.2.1 o)] U (pq_i post) := by
  unfold w_X12_readFee at H
  refine um_of (by decide) (Nat.le_of_ble_eq_true rfl) [some (.ref (Y.2.1 o))] rfl (fun X h0 hh sz hM hU => ?_)
  have hC := hM.1
  have hR := hM.2.2.1
  refine pr_aload_n hC (by decide +kernel : decode cX12_readFee 0 = .ok (.aload_n 0, 1)) rfl ?_
  refine pu_g1 hC fg_X12_43 (by decide +kernel : decode cX12_readFee 1 = .ok (.getfield 43, 3)) hU ho (by decide) rfl (by decide) ?_
  refine pr_bipush hC (13) (by decide +kernel : decode cX12_readFee 4 = .ok (.bipush 13, 2)) rfl ?_
  refine pu_iald hC (by decide +kernel : decode cX12_readFee 6 = .ok (.iaload, 1)) hU ho rfl H.1 ?_
  replace H := H.2
  refine pr_iconst hC (1) (by decide +kernel : decode cX12_readFee 7 = .ok (.iconst 1, 1)) rfl ?_
  refine pr_icmp_ne hC 17 (by decide +kernel : decode cX12_readFee 8 = .ok (.if_icmp .ne 9, 3)) (by decide) (fun c_8 => ?_) (fun c_8 => ?_)
  · replace H := H.2 c_8
    refine pr_aload_n hC (by decide +kernel : decode cX12_readFee 17 = .ok (.aload_n 0, 1)) rfl ?_
    refine pu_g1 hC fg_X12_43 (by decide +kernel : decode cX12_readFee 18 = .ok (.getfield 43, 3)) hU ho (by decide) rfl (by decide) ?_
    refine pr_bipush hC (13) (by decide +kernel : decode cX12_readFee 21 = .ok (.bipush 13, 2)) rfl ?_
    refine pr_iconst hC (1) (by decide +kernel : decode cX12_readFee 23 = .ok (.iconst 1, 1)) rfl ?_
    refine pv_iast hC (by decide +kernel : decode cX12_readFee 24 = .ok (.iastore, 1)) hU ho rfl H.1 (fun U_3 h e_U_3 hU => ?_)
    replace H := H.2 U_3 e_U_3
    refine pr_aload_n hC (by decide +kernel : decode cX12_readFee 25 = .ok (.aload_n 0, 1)) rfl ?_
    refine vc_Vv hC hR [] fv_X12_242 (by decide +kernel : decode cX12_readFee 26 = .ok (.invokevirtual 242, 3)) hU (t_X12_next ho H) ho (by decide) rfl rfl rfl (Nat.le_of_ble_eq_true rfl) (Nat.le_of_ble_eq_true rfl) (Nat.le_refl 0) (Nat.le_refl 0) (fun U_4 h H hU => ?_)
    refine pr_aload_n hC (by decide +kernel : decode cX12_readFee 29 = .ok (.aload_n 0, 1)) rfl ?_
    refine pr_iconst hC (0) (by decide +kernel : decode cX12_readFee 30 = .ok (.iconst 0, 1)) rfl ?_
    refine pv_p0 hC fp_X12_281 (by decide +kernel : decode cX12_readFee 31 = .ok (.putfield 281, 3)) hU ho (by decide) rfl rfl rfl rfl (fun U_6 h e_U_6 hU => ?_)
    replace H := H U_6 e_U_6
    refine pr_aload_n hC (by decide +kernel : decode cX12_readFee 34 = .ok (.aload_n 0, 1)) rfl ?_
    refine vc_Vi hC hR [] fv_X12_284 (by decide +kernel : decode cX12_readFee 35 = .ok (.invokevirtual 284, 3)) hU (t_X12_readSum 5 ho H) ho (by decide) rfl rfl rfl (Nat.le_of_ble_eq_true rfl) (Nat.le_of_ble_eq_true rfl) (Nat.le_refl 0) (Nat.le_refl 0) (fun r_8 U_7 h H hU => ?_)
    exact pv_zret hM (by decide +kernel : decode cX12_readFee 38 = .ok (.ireturn, 1)) H.1 hU H.2
  replace H := H.1 c_8
  refine pr_aload_n hC (by decide +kernel : decode cX12_readFee 11 = .ok (.aload_n 0, 1)) rfl ?_
  refine pr_iconst hC (4) (by decide +kernel : decode cX12_readFee 12 = .ok (.iconst 4, 1)) rfl ?_
  refine vc_Vi hC hR [.int 4] fv_X12_238 (by decide +kernel : decode cX12_readFee 13 = .ok (.invokevirtual 238, 3)) hU (t_X12_fails ho H) ho (by decide) rfl rfl rfl (Nat.le_of_ble_eq_true rfl) (Nat.le_of_ble_eq_true rfl) (Nat.le_refl 0) (Nat.le_refl 0) (fun r_2 U_1 h H hU => ?_)
  exact pv_zret hM (by decide +kernel : decode cX12_readFee 16 = .ok (.ireturn, 1)) H.1 hU H.2
def w_X12_readLine (o : Nat) (U : Um) (post : Int32 → Um → Prop) : Prop :=
  w_X12_isWord o 0 U (fun r_2 U_1 => (∀ K_3 : Int32 → Um → Prop, (∀ (xs_4 : Int32) (U_5 : Um), ((xs_4 = 0 → post 0 U_5) ∧ (¬ xs_4 = 0 → w_X12_isSign o 59 U_5 (fun r_7 U_6 => (r_7 = 0 → w_X12_fails o 1 U_6 (fun r_9 U_8 => (r_9 = 0 ∨ r_9 = 1) ∧ post r_9 U_8)) ∧ (¬ r_7 = 0 → w_X12_next o U_6 (fun U_10 => post 1 U_10))))) → K_3 xs_4 U_5) → (r_2 = 0 → w_X12_isWord o 1 U_1 (fun r_13 U_12 => (r_13 = 0 → w_X12_isWord o 2 U_12 (fun r_15 U_14 => (r_15 = 0 → w_X12_isWord o 3 U_14 (fun r_17 U_16 => (r_17 = 0 → w_X12_isWord o 6 U_16 (fun r_19 U_18 => (r_19 = 0 → w_X12_isWord o 8 U_18 (fun r_21 U_20 => (r_21 = 0 → w_X12_isWord o 13 U_20 (fun r_23 U_22 => (r_23 = 0 → w_X12_isWord o 14 U_22 (fun r_25 U_24 => (r_25 = 0 → w_X12_isWord o 15 U_24 (fun r_27 U_26 => (r_27 = 0 → w_X12_fails o 1 U_26 (fun r_29 U_28 => K_3 r_29 U_28)) ∧ (¬ r_27 = 0 → w_X12_readFee o U_26 (fun r_31 U_30 => K_3 r_31 U_30)))) ∧ (¬ r_25 = 0 → w_X12_readKept o 5 1 4 U_24 (fun r_33 U_32 => K_3 r_33 U_32)))) ∧ (¬ r_23 = 0 → w_X12_readKept o 4 0 120 U_22 (fun r_35 U_34 => K_3 r_35 U_34)))) ∧ (¬ r_21 = 0 → w_X12_readGame o U_20 (fun r_37 U_36 => K_3 r_37 U_36)))) ∧ (¬ r_19 = 0 → w_X12_readOff o U_18 (fun r_39 U_38 => K_3 r_39 U_38)))) ∧ (¬ r_17 = 0 → w_X12_readOfficial o U_16 (fun r_41 U_40 => K_3 r_41 U_40)))) ∧ (¬ r_15 = 0 → w_X12_readClub o U_14 (fun r_43 U_42 => K_3 r_43 U_42)))) ∧ (¬ r_13 = 0 → w_X12_readRoad o U_12 (fun r_45 U_44 => K_3 r_45 U_44)))) ∧ (¬ r_2 = 0 → w_X12_readField o U_1 (fun r_47 U_46 => K_3 r_47 U_46))))
set_option maxHeartbeats 4000000 in
theorem t_X12_readLine {l : Launch} {Y : px_Y} {o : Nat} {U : Um} {post : Int32 → Um → Prop} (ho : oc o = 10) (H : w_X12_readLine o U post) : um l Y 27 yX12_readLine cX12_readLine 2 (some (.boolean)) [.ref (Y.2.1 o)] U (pq_i post) := by
  unfold w_X12_readLine at H
  refine um_of (by decide) (Nat.le_of_ble_eq_true rfl) [some (.ref (Y.2.1 o)), none] rfl (fun X h0 hh sz hM hU => ?_)
  have hC := hM.1
  have hR := hM.2.2.1
  refine pr_aload_n hC (by decide +kernel : decode cX12_readLine 0 = .ok (.aload_n 0, 1)) rfl ?_
  refine pr_ldcs hC ss_X12_190 (by decide +kernel : decode cX12_readLine 1 = .ok (.ldc 190, 2)) ?_
  refine vc_Vi hC hR [.ref (Y.1.2.2 (200 + 0))] fv_X12_192 (by decide +kernel : decode cX12_readLine 3 = .ok (.invokevirtual 192, 3)) hU (t_X12_isWord ho (by decide) H) ho (by decide) rfl rfl rfl (Nat.le_of_ble_eq_true rfl) (Nat.le_of_ble_eq_true rfl) (Nat.le_refl 0) (Nat.le_refl 0) (fun r_2 U_1 h H hU => ?_)
  replace H := H (fun xs_4 U_5 => ∀ h : pe_H, rF Y h0 U_5 h → pw X Y.1 (pm_A hh sz) (pm_E X Y.1 hh sz 0 0 (pm_P Y h0 sz (pq_i post))) 156 [some (.ref (Y.2.1 o)), none] [.int xs_4] h sz 0 0) (by
    intro xs_4 U_5 H h hU
    refine pr_istore_n hC (by decide +kernel : decode cX12_readLine 156 = .ok (.istore_n 1, 1)) (by decide) rfl ?_
    refine pr_iload_n hC (by decide +kernel : decode cX12_readLine 157 = .ok (.iload_n 1, 1)) rfl ?_
    refine pr_if_ne hC 163 (by decide +kernel : decode cX12_readLine 158 = .ok (.ifCond .ne 5, 3)) (by decide) (fun c_158 => ?_) (fun c_158 => ?_)
    · replace H := H.2 c_158
      refine pr_aload_n hC (by decide +kernel : decode cX12_readLine 163 = .ok (.aload_n 0, 1)) rfl ?_
      refine pr_bipush hC (59) (by decide +kernel : decode cX12_readLine 164 = .ok (.bipush 59, 2)) rfl ?_
      refine vc_Vi hC hR [.int 59] fv_X12_290 (by decide +kernel : decode cX12_readLine 166 = .ok (.invokevirtual 290, 3)) hU (t_X12_isSign ho H) ho (by decide) rfl rfl rfl (Nat.le_of_ble_eq_true rfl) (Nat.le_of_ble_eq_true rfl) (Nat.le_refl 0) (Nat.le_refl 0) (fun r_7 U_6 h H hU => ?_)
      refine pr_if_ne hC 178 (by decide +kernel : decode cX12_readLine 169 = .ok (.ifCond .ne 9, 3)) (by decide) (fun c_169 => ?_) (fun c_169 => ?_)
      · replace H := H.2 c_169
        refine pr_aload_n hC (by decide +kernel : decode cX12_readLine 178 = .ok (.aload_n 0, 1)) rfl ?_
        refine vc_Vv hC hR [] fv_X12_242 (by decide +kernel : decode cX12_readLine 179 = .ok (.invokevirtual 242, 3)) hU (t_X12_next ho H) ho (by decide) rfl rfl rfl (Nat.le_of_ble_eq_true rfl) (Nat.le_of_ble_eq_true rfl) (Nat.le_refl 0) (Nat.le_refl 0) (fun U_10 h H hU => ?_)
        refine pr_iconst hC (1) (by decide +kernel : decode cX12_readLine 182 = .ok (.iconst 1, 1)) rfl ?_
        exact pv_zret hM (by decide +kernel : decode cX12_readLine 183 = .ok (.ireturn, 1)) (Or.inr rfl) hU H
      replace H := H.1 c_169
      refine pr_aload_n hC (by decide +kernel : decode cX12_readLine 172 = .ok (.aload_n 0, 1)) rfl ?_
      refine pr_iconst hC (1) (by decide +kernel : decode cX12_readLine 173 = .ok (.iconst 1, 1)) rfl ?_
      refine vc_Vi hC hR [.int 1] fv_X12_238 (by decide +kernel : decode cX12_readLine 174 = .ok (.invokevirtual 238, 3)) hU (t_X12_fails ho H) ho (by decide) rfl rfl rfl (Nat.le_of_ble_eq_true rfl) (Nat.le_of_ble_eq_true rfl) (Nat.le_refl 0) (Nat.le_refl 0) (fun r_9 U_8 h H hU => ?_)
      exact pv_zret hM (by decide +kernel : decode cX12_readLine 177 = .ok (.ireturn, 1)) H.1 hU H.2
    replace H := H.1 c_158
    refine pr_iconst hC (0) (by decide +kernel : decode cX12_readLine 161 = .ok (.iconst 0, 1)) rfl ?_
    exact pv_zret hM (by decide +kernel : decode cX12_readLine 162 = .ok (.ireturn, 1)) (Or.inl rfl) hU H)
  refine pr_if_eq hC 16 (by decide +kernel : decode cX12_readLine 6 = .ok (.ifCond .eq 10, 3)) (by decide) (fun c_6 => ?_) (fun c_6 => ?_)
  · replace H := H.1 c_6
    refine pr_aload_n hC (by decide +kernel : decode cX12_readLine 16 = .ok (.aload_n 0, 1)) rfl ?_
    refine pr_ldcs hC ss_X12_196 (by decide +kernel : decode cX12_readLine 17 = .ok (.ldc 196, 2)) ?_
    refine vc_Vi hC hR [.ref (Y.1.2.2 (200 + 1))] fv_X12_192 (by decide +kernel : decode cX12_readLine 19 = .ok (.invokevirtual 192, 3)) hU (t_X12_isWord ho (by decide) H) ho (by decide) rfl rfl rfl (Nat.le_of_ble_eq_true rfl) (Nat.le_of_ble_eq_true rfl) (Nat.le_refl 0) (Nat.le_refl 0) (fun r_13 U_12 h H hU => ?_)
    refine pr_if_eq hC 32 (by decide +kernel : decode cX12_readLine 22 = .ok (.ifCond .eq 10, 3)) (by decide) (fun c_22 => ?_) (fun c_22 => ?_)
    · replace H := H.1 c_22
      refine pr_aload_n hC (by decide +kernel : decode cX12_readLine 32 = .ok (.aload_n 0, 1)) rfl ?_
      refine pr_ldcs hC ss_X12_197 (by decide +kernel : decode cX12_readLine 33 = .ok (.ldc 197, 2)) ?_
      refine vc_Vi hC hR [.ref (Y.1.2.2 (200 + 2))] fv_X12_192 (by decide +kernel : decode cX12_readLine 35 = .ok (.invokevirtual 192, 3)) hU (t_X12_isWord ho (by decide) H) ho (by decide) rfl rfl rfl (Nat.le_of_ble_eq_true rfl) (Nat.le_of_ble_eq_true rfl) (Nat.le_refl 0) (Nat.le_refl 0) (fun r_15 U_14 h H hU => ?_)
      refine pr_if_eq hC 48 (by decide +kernel : decode cX12_readLine 38 = .ok (.ifCond .eq 10, 3)) (by decide) (fun c_38 => ?_) (fun c_38 => ?_)
      · replace H := H.1 c_38
        refine pr_aload_n hC (by decide +kernel : decode cX12_readLine 48 = .ok (.aload_n 0, 1)) rfl ?_
        refine pr_ldcs hC ss_X12_199 (by decide +kernel : decode cX12_readLine 49 = .ok (.ldc 199, 2)) ?_
        refine vc_Vi hC hR [.ref (Y.1.2.2 (200 + 3))] fv_X12_192 (by decide +kernel : decode cX12_readLine 51 = .ok (.invokevirtual 192, 3)) hU (t_X12_isWord ho (by decide) H) ho (by decide) rfl rfl rfl (Nat.le_of_ble_eq_true rfl) (Nat.le_of_ble_eq_true rfl) (Nat.le_refl 0) (Nat.le_refl 0) (fun r_17 U_16 h H hU => ?_)
        refine pr_if_eq hC 64 (by decide +kernel : decode cX12_readLine 54 = .ok (.ifCond .eq 10, 3)) (by decide) (fun c_54 => ?_) (fun c_54 => ?_)
        · replace H := H.1 c_54
          refine pr_aload_n hC (by decide +kernel : decode cX12_readLine 64 = .ok (.aload_n 0, 1)) rfl ?_
          refine pr_ldcs hC ss_X12_205 (by decide +kernel : decode cX12_readLine 65 = .ok (.ldc 205, 2)) ?_
          refine vc_Vi hC hR [.ref (Y.1.2.2 (200 + 6))] fv_X12_192 (by decide +kernel : decode cX12_readLine 67 = .ok (.invokevirtual 192, 3)) hU (t_X12_isWord ho (by decide) H) ho (by decide) rfl rfl rfl (Nat.le_of_ble_eq_true rfl) (Nat.le_of_ble_eq_true rfl) (Nat.le_refl 0) (Nat.le_refl 0) (fun r_19 U_18 h H hU => ?_)
          refine pr_if_eq hC 80 (by decide +kernel : decode cX12_readLine 70 = .ok (.ifCond .eq 10, 3)) (by decide) (fun c_70 => ?_) (fun c_70 => ?_)
          · replace H := H.1 c_70
            refine pr_aload_n hC (by decide +kernel : decode cX12_readLine 80 = .ok (.aload_n 0, 1)) rfl ?_
            refine pr_ldcs hC ss_X12_207 (by decide +kernel : decode cX12_readLine 81 = .ok (.ldc 207, 2)) ?_
            refine vc_Vi hC hR [.ref (Y.1.2.2 (200 + 8))] fv_X12_192 (by decide +kernel : decode cX12_readLine 83 = .ok (.invokevirtual 192, 3)) hU (t_X12_isWord ho (by decide) H) ho (by decide) rfl rfl rfl (Nat.le_of_ble_eq_true rfl) (Nat.le_of_ble_eq_true rfl) (Nat.le_refl 0) (Nat.le_refl 0) (fun r_21 U_20 h H hU => ?_)
            refine pr_if_eq hC 96 (by decide +kernel : decode cX12_readLine 86 = .ok (.ifCond .eq 10, 3)) (by decide) (fun c_86 => ?_) (fun c_86 => ?_)
            · replace H := H.1 c_86
              refine pr_aload_n hC (by decide +kernel : decode cX12_readLine 96 = .ok (.aload_n 0, 1)) rfl ?_
              refine pr_ldcs hC ss_X12_215 (by decide +kernel : decode cX12_readLine 97 = .ok (.ldc 215, 2)) ?_
              refine vc_Vi hC hR [.ref (Y.1.2.2 (200 + 13))] fv_X12_192 (by decide +kernel : decode cX12_readLine 99 = .ok (.invokevirtual 192, 3)) hU (t_X12_isWord ho (by decide) H) ho (by decide) rfl rfl rfl (Nat.le_of_ble_eq_true rfl) (Nat.le_of_ble_eq_true rfl) (Nat.le_refl 0) (Nat.le_refl 0) (fun r_23 U_22 h H hU => ?_)
              refine pr_if_eq hC 116 (by decide +kernel : decode cX12_readLine 102 = .ok (.ifCond .eq 14, 3)) (by decide) (fun c_102 => ?_) (fun c_102 => ?_)
              · replace H := H.1 c_102
                refine pr_aload_n hC (by decide +kernel : decode cX12_readLine 116 = .ok (.aload_n 0, 1)) rfl ?_
                refine pr_ldcs hC ss_X12_217 (by decide +kernel : decode cX12_readLine 117 = .ok (.ldc 217, 2)) ?_
                refine vc_Vi hC hR [.ref (Y.1.2.2 (200 + 14))] fv_X12_192 (by decide +kernel : decode cX12_readLine 119 = .ok (.invokevirtual 192, 3)) hU (t_X12_isWord ho (by decide) H) ho (by decide) rfl rfl rfl (Nat.le_of_ble_eq_true rfl) (Nat.le_of_ble_eq_true rfl) (Nat.le_refl 0) (Nat.le_refl 0) (fun r_25 U_24 h H hU => ?_)
                refine pr_if_eq hC 135 (by decide +kernel : decode cX12_readLine 122 = .ok (.ifCond .eq 13, 3)) (by decide) (fun c_122 => ?_) (fun c_122 => ?_)
                · replace H := H.1 c_122
                  refine pr_aload_n hC (by decide +kernel : decode cX12_readLine 135 = .ok (.aload_n 0, 1)) rfl ?_
                  refine pr_ldcs hC ss_X12_219 (by decide +kernel : decode cX12_readLine 136 = .ok (.ldc 219, 2)) ?_
                  refine vc_Vi hC hR [.ref (Y.1.2.2 (200 + 15))] fv_X12_192 (by decide +kernel : decode cX12_readLine 138 = .ok (.invokevirtual 192, 3)) hU (t_X12_isWord ho (by decide) H) ho (by decide) rfl rfl rfl (Nat.le_of_ble_eq_true rfl) (Nat.le_of_ble_eq_true rfl) (Nat.le_refl 0) (Nat.le_refl 0) (fun r_27 U_26 h H hU => ?_)
                  refine pr_if_eq hC 151 (by decide +kernel : decode cX12_readLine 141 = .ok (.ifCond .eq 10, 3)) (by decide) (fun c_141 => ?_) (fun c_141 => ?_)
                  · replace H := H.1 c_141
                    refine pr_aload_n hC (by decide +kernel : decode cX12_readLine 151 = .ok (.aload_n 0, 1)) rfl ?_
                    refine pr_iconst hC (1) (by decide +kernel : decode cX12_readLine 152 = .ok (.iconst 1, 1)) rfl ?_
                    refine vc_Vi hC hR [.int 1] fv_X12_238 (by decide +kernel : decode cX12_readLine 153 = .ok (.invokevirtual 238, 3)) hU (t_X12_fails ho H) ho (by decide) rfl rfl rfl (Nat.le_of_ble_eq_true rfl) (Nat.le_of_ble_eq_true rfl) (Nat.le_refl 0) (Nat.le_refl 0) (fun r_29 U_28 h H hU => ?_)
                    exact pv_sub [some (.ref (Y.2.1 o)), none] (And.intro rfl trivial) (H h hU)
                  replace H := H.2 c_141
                  refine pr_aload_n hC (by decide +kernel : decode cX12_readLine 144 = .ok (.aload_n 0, 1)) rfl ?_
                  refine vc_Vi hC hR [] fv_X12_328 (by decide +kernel : decode cX12_readLine 145 = .ok (.invokevirtual 328, 3)) hU (t_X12_readFee ho H) ho (by decide) rfl rfl rfl (Nat.le_of_ble_eq_true rfl) (Nat.le_of_ble_eq_true rfl) (Nat.le_refl 0) (Nat.le_refl 0) (fun r_31 U_30 h H hU => ?_)
                  refine pr_goto hC 156 (by decide +kernel : decode cX12_readLine 148 = .ok (.goto 8, 3)) (by decide) ?_
                  exact pv_sub [some (.ref (Y.2.1 o)), none] (And.intro rfl trivial) (H h hU)
                replace H := H.2 c_122
                refine pr_aload_n hC (by decide +kernel : decode cX12_readLine 125 = .ok (.aload_n 0, 1)) rfl ?_
                refine pr_iconst hC (5) (by decide +kernel : decode cX12_readLine 126 = .ok (.iconst 5, 1)) rfl ?_
                refine pr_iconst hC (1) (by decide +kernel : decode cX12_readLine 127 = .ok (.iconst 1, 1)) rfl ?_
                refine pr_iconst hC (4) (by decide +kernel : decode cX12_readLine 128 = .ok (.iconst 4, 1)) rfl ?_
                refine vc_Vi hC hR [.int 5, .int 1, .int 4] fv_X12_324 (by decide +kernel : decode cX12_readLine 129 = .ok (.invokevirtual 324, 3)) hU (t_X12_readKept ho H) ho (by decide) rfl rfl rfl (Nat.le_of_ble_eq_true rfl) (Nat.le_of_ble_eq_true rfl) (Nat.le_refl 0) (Nat.le_refl 0) (fun r_33 U_32 h H hU => ?_)
                refine pr_goto hC 156 (by decide +kernel : decode cX12_readLine 132 = .ok (.goto 24, 3)) (by decide) ?_
                exact pv_sub [some (.ref (Y.2.1 o)), none] (And.intro rfl trivial) (H h hU)
              replace H := H.2 c_102
              refine pr_aload_n hC (by decide +kernel : decode cX12_readLine 105 = .ok (.aload_n 0, 1)) rfl ?_
              refine pr_iconst hC (4) (by decide +kernel : decode cX12_readLine 106 = .ok (.iconst 4, 1)) rfl ?_
              refine pr_iconst hC (0) (by decide +kernel : decode cX12_readLine 107 = .ok (.iconst 0, 1)) rfl ?_
              refine pr_bipush hC (120) (by decide +kernel : decode cX12_readLine 108 = .ok (.bipush 120, 2)) rfl ?_
              refine vc_Vi hC hR [.int 4, .int 0, .int 120] fv_X12_324 (by decide +kernel : decode cX12_readLine 110 = .ok (.invokevirtual 324, 3)) hU (t_X12_readKept ho H) ho (by decide) rfl rfl rfl (Nat.le_of_ble_eq_true rfl) (Nat.le_of_ble_eq_true rfl) (Nat.le_refl 0) (Nat.le_refl 0) (fun r_35 U_34 h H hU => ?_)
              refine pr_goto hC 156 (by decide +kernel : decode cX12_readLine 113 = .ok (.goto 43, 3)) (by decide) ?_
              exact pv_sub [some (.ref (Y.2.1 o)), none] (And.intro rfl trivial) (H h hU)
            replace H := H.2 c_86
            refine pr_aload_n hC (by decide +kernel : decode cX12_readLine 89 = .ok (.aload_n 0, 1)) rfl ?_
            refine vc_Vi hC hR [] fv_X12_321 (by decide +kernel : decode cX12_readLine 90 = .ok (.invokevirtual 321, 3)) hU (t_X12_readGame ho H) ho (by decide) rfl rfl rfl (Nat.le_of_ble_eq_true rfl) (Nat.le_of_ble_eq_true rfl) (Nat.le_refl 0) (Nat.le_refl 0) (fun r_37 U_36 h H hU => ?_)
            refine pr_goto hC 156 (by decide +kernel : decode cX12_readLine 93 = .ok (.goto 63, 3)) (by decide) ?_
            exact pv_sub [some (.ref (Y.2.1 o)), none] (And.intro rfl trivial) (H h hU)
          replace H := H.2 c_70
          refine pr_aload_n hC (by decide +kernel : decode cX12_readLine 73 = .ok (.aload_n 0, 1)) rfl ?_
          refine vc_Vi hC hR [] fv_X12_318 (by decide +kernel : decode cX12_readLine 74 = .ok (.invokevirtual 318, 3)) hU (t_X12_readOff ho H) ho (by decide) rfl rfl rfl (Nat.le_of_ble_eq_true rfl) (Nat.le_of_ble_eq_true rfl) (Nat.le_refl 0) (Nat.le_refl 0) (fun r_39 U_38 h H hU => ?_)
          refine pr_goto hC 156 (by decide +kernel : decode cX12_readLine 77 = .ok (.goto 79, 3)) (by decide) ?_
          exact pv_sub [some (.ref (Y.2.1 o)), none] (And.intro rfl trivial) (H h hU)
        replace H := H.2 c_54
        refine pr_aload_n hC (by decide +kernel : decode cX12_readLine 57 = .ok (.aload_n 0, 1)) rfl ?_
        refine vc_Vi hC hR [] fv_X12_315 (by decide +kernel : decode cX12_readLine 58 = .ok (.invokevirtual 315, 3)) hU (t_X12_readOfficial ho H) ho (by decide) rfl rfl rfl (Nat.le_of_ble_eq_true rfl) (Nat.le_of_ble_eq_true rfl) (Nat.le_refl 0) (Nat.le_refl 0) (fun r_41 U_40 h H hU => ?_)
        refine pr_goto hC 156 (by decide +kernel : decode cX12_readLine 61 = .ok (.goto 95, 3)) (by decide) ?_
        exact pv_sub [some (.ref (Y.2.1 o)), none] (And.intro rfl trivial) (H h hU)
      replace H := H.2 c_38
      refine pr_aload_n hC (by decide +kernel : decode cX12_readLine 41 = .ok (.aload_n 0, 1)) rfl ?_
      refine vc_Vi hC hR [] fv_X12_312 (by decide +kernel : decode cX12_readLine 42 = .ok (.invokevirtual 312, 3)) hU (t_X12_readClub ho H) ho (by decide) rfl rfl rfl (Nat.le_of_ble_eq_true rfl) (Nat.le_of_ble_eq_true rfl) (Nat.le_refl 0) (Nat.le_refl 0) (fun r_43 U_42 h H hU => ?_)
      refine pr_goto hC 156 (by decide +kernel : decode cX12_readLine 45 = .ok (.goto 111, 3)) (by decide) ?_
      exact pv_sub [some (.ref (Y.2.1 o)), none] (And.intro rfl trivial) (H h hU)
    replace H := H.2 c_22
    refine pr_aload_n hC (by decide +kernel : decode cX12_readLine 25 = .ok (.aload_n 0, 1)) rfl ?_
    refine vc_Vi hC hR [] fv_X12_309 (by decide +kernel : decode cX12_readLine 26 = .ok (.invokevirtual 309, 3)) hU (t_X12_readRoad ho H) ho (by decide) rfl rfl rfl (Nat.le_of_ble_eq_true rfl) (Nat.le_of_ble_eq_true rfl) (Nat.le_refl 0) (Nat.le_refl 0) (fun r_45 U_44 h H hU => ?_)
    refine pr_goto hC 156 (by decide +kernel : decode cX12_readLine 29 = .ok (.goto 127, 3)) (by decide) ?_
    exact pv_sub [some (.ref (Y.2.1 o)), none] (And.intro rfl trivial) (H h hU)
  replace H := H.2 c_6
  refine pr_aload_n hC (by decide +kernel : decode cX12_readLine 9 = .ok (.aload_n 0, 1)) rfl ?_
  refine vc_Vi hC hR [] fv_X12_306 (by decide +kernel : decode cX12_readLine 10 = .ok (.invokevirtual 306, 3)) hU (t_X12_readField ho H) ho (by decide) rfl rfl rfl (Nat.le_of_ble_eq_true rfl) (Nat.le_of_ble_eq_true rfl) (Nat.le_refl 0) (Nat.le_refl 0) (fun r_47 U_46 h H hU => ?_)
  refine pr_goto hC 156 (by decide +kernel : decode cX12_readLine 13 = .ok (.goto 143, 3)) (by decide) ?_
  exact pv_sub [some (.ref (Y.2.1 o)), none] (And.intro rfl trivial) (H h hU)
def b_X12_laysWays_L10 (o0 : Nat) (x1 : Int32) (post : Um → Prop) (k_71 : Um → Prop) (rec_ : Int32 → Um → Prop) (x2 : Int32) (U : Um) : Prop :=
  ((6 : Int32) ≤ x2 → k_71 U) ∧ (¬ (6 : Int32) ≤ x2 → (x1 = x2 → vp_in ((6 * x1) + x2) 36 ∧ ∀ (U_1 : Um), U_1 = sA U o0 3 (va_up (uA U o0 3) (Int32.toNatClampNeg ((6 * x1) + x2)) 0) → ∀ (x2_2 : Int32), x2_2 = x2 + 1 → rec_ x2_2 U_1) ∧ (¬ x1 = x2 → vp_in ((6 * x1) + x2) 72 ∧ ((uA U o0 2 (Int32.toNatClampNeg ((6 * x1) + x2))) ≤ 0 → vp_in ((6 * x1) + x2) 36 ∧ ∀ (U_3 : Um), U_3 = sA U o0 3 (va_up (uA U o0 3) (Int32.toNatClampNeg ((6 * x1) + x2)) (-1)) → ∀ (x2_4 : Int32), x2_4 = x2 + 1 → rec_ x2_4 U_3) ∧ (¬ (uA U o0 2 (Int32.toNatClampNeg ((6 * x1) + x2))) ≤ 0 → vp_in ((6 * x1) + x2) 72 ∧ vp_in ((6 * x1) + x2) 36 ∧ ∀ (U_5 : Um), U_5 = sA U o0 3 (va_up (uA U o0 3) (Int32.toNatClampNeg ((6 * x1) + x2)) (uA U o0 2 (Int32.toNatClampNeg ((6 * x1) + x2)))) → ∀ (x2_6 : Int32), x2_6 = x2 + 1 → rec_ x2_6 U_5)))
def w_X12_laysWays_L10 (o0 : Nat) (x1 : Int32) (post : Um → Prop) (k_71 : Um → Prop) (n_ : Nat) : Int32 → Um → Prop := Nat.rec (motive := fun _ => Int32 → Um → Prop) (fun _ _ => False) (fun _ ih => b_X12_laysWays_L10 o0 x1 post k_71 ih) n_
def b_X12_laysWays_L2 (o0 : Nat) (post : Um → Prop) (k_77 : Um → Prop) (rec_ : Int32 → Um → Prop) (x1 : Int32) (U : Um) : Prop :=
  ((6 : Int32) ≤ x1 → k_77 U) ∧ (¬ (6 : Int32) ≤ x1 → (∃ n_9, w_X12_laysWays_L10 o0 x1 post (fun U_7 => ∀ (x1_8 : Int32), x1_8 = x1 + 1 → rec_ x1_8 U_7) n_9 0 U))
def w_X12_laysWays_L2 (o0 : Nat) (post : Um → Prop) (k_77 : Um → Prop) (n_ : Nat) : Int32 → Um → Prop := Nat.rec (motive := fun _ => Int32 → Um → Prop) (fun _ _ => False) (fun _ ih => b_X12_laysWays_L2 o0 post k_77 ih) n_
def b_X12_laysWays_L95 (o0 : Nat) (x1 : Int32) (x2 : Int32) (post : Um → Prop) (k_195 : Um → Prop) (rec_ : Int32 → Um → Prop) (x3 : Int32) (U : Um) : Prop :=
  ((6 : Int32) ≤ x3 → k_195 U) ∧ (¬ (6 : Int32) ≤ x3 → vp_in ((6 * x2) + x1) 36 ∧ ∀ (x4_11 : Int32), x4_11 = uA U o0 3 (Int32.toNatClampNeg ((6 * x2) + x1)) → vp_in ((6 * x1) + x3) 36 ∧ ∀ (x5_12 : Int32), x5_12 = uA U o0 3 (Int32.toNatClampNeg ((6 * x1) + x3)) → (x4_11 = (-1) → ∀ (x3_13 : Int32), x3_13 = x3 + 1 → rec_ x3_13 U) ∧ (¬ x4_11 = (-1) → (x5_12 = (-1) → ∀ (x3_14 : Int32), x3_14 = x3 + 1 → rec_ x3_14 U) ∧ (¬ x5_12 = (-1) → vp_in ((6 * x2) + x3) 36 ∧ (∀ K_15 : Prop, ((vp_in ((6 * x2) + x3) 36 ∧ ∀ (U_16 : Um), U_16 = sA U o0 3 (va_up (uA U o0 3) (Int32.toNatClampNeg ((6 * x2) + x3)) (x4_11 + x5_12)) → ∀ (x3_17 : Int32), x3_17 = x3 + 1 → rec_ x3_17 U_16) → K_15 ) → ((uA U o0 3 (Int32.toNatClampNeg ((6 * x2) + x3))) = (-1) → K_15) ∧ (¬ (uA U o0 3 (Int32.toNatClampNeg ((6 * x2) + x3))) = (-1) → vp_in ((6 * x2) + x3) 36 ∧ ((uA U o0 3 (Int32.toNatClampNeg ((6 * x2) + x3))) ≤ (x4_11 + x5_12) → ∀ (x3_18 : Int32), x3_18 = x3 + 1 → rec_ x3_18 U) ∧ (¬ (uA U o0 3 (Int32.toNatClampNeg ((6 * x2) + x3))) ≤ (x4_11 + x5_12) → K_15))))))
def w_X12_laysWays_L95 (o0 : Nat) (x1 : Int32) (x2 : Int32) (post : Um → Prop) (k_195 : Um → Prop) (n_ : Nat) : Int32 → Um → Prop := Nat.rec (motive := fun _ => Int32 → Um → Prop) (fun _ _ => False) (fun _ ih => b_X12_laysWays_L95 o0 x1 x2 post k_195 ih) n_
def b_X12_laysWays_L87 (o0 : Nat) (x1 : Int32) (post : Um → Prop) (k_201 : Um → Prop) (rec_ : Int32 → Um → Prop) (x2 : Int32) (U : Um) : Prop :=
  ((6 : Int32) ≤ x2 → k_201 U) ∧ (¬ (6 : Int32) ≤ x2 → (∃ n_21, w_X12_laysWays_L95 o0 x1 x2 post (fun U_19 => ∀ (x2_20 : Int32), x2_20 = x2 + 1 → rec_ x2_20 U_19) n_21 0 U))
def w_X12_laysWays_L87 (o0 : Nat) (x1 : Int32) (post : Um → Prop) (k_201 : Um → Prop) (n_ : Nat) : Int32 → Um → Prop := Nat.rec (motive := fun _ => Int32 → Um → Prop) (fun _ _ => False) (fun _ ih => b_X12_laysWays_L87 o0 x1 post k_201 ih) n_
def b_X12_laysWays_L79 (o0 : Nat) (post : Um → Prop) (k_207 : Um → Prop) (rec_ : Int32 → Um → Prop) (x1 : Int32) (U : Um) : Prop :=
  ((6 : Int32) ≤ x1 → k_207 U) ∧ (¬ (6 : Int32) ≤ x1 → (∃ n_24, w_X12_laysWays_L87 o0 x1 post (fun U_22 => ∀ (x1_23 : Int32), x1_23 = x1 + 1 → rec_ x1_23 U_22) n_24 0 U))
def w_X12_laysWays_L79 (o0 : Nat) (post : Um → Prop) (k_207 : Um → Prop) (n_ : Nat) : Int32 → Um → Prop := Nat.rec (motive := fun _ => Int32 → Um → Prop) (fun _ _ => False) (fun _ ih => b_X12_laysWays_L79 o0 post k_207 ih) n_
def w_X12_laysWays (o : Nat) (U : Um) (post : Um → Prop) : Prop :=
  (∃ n_27, w_X12_laysWays_L2 o post (fun U_10 => (∃ n_26, w_X12_laysWays_L79 o post (fun U_25 => post U_25) n_26 0 U_10)) n_27 0 U)
set_option maxHeartbeats 4000000 in
theorem tl_X12_laysWays_L10 {l : Launch} {Y : px_Y} {X : px_X} {h0 hh : pe_H} {sz : Nat} (o0 : Nat) (x1 : Int32) (post : Um → Prop) (k_71 : Um → Prop) (ho0 : oc o0 = 10)  (hC : px_C X Y.1 (pm_A hh sz) cX12_laysWays RX12 6) (hM : px_M l X Y.1 hh sz yX12_laysWays cX12_laysWays 6 none 0 0 0) (hR : X.2.2.2.1 = pm_rm 0 0 0) (hk_71 : ∀ (U : Um) (h : pe_H), k_71 U → rF Y h0 U h → pw X Y.1 (pm_A hh sz) (pm_E X Y.1 hh sz 0 0 (pm_P Y h0 sz (pq_v post))) 71 [some (.ref (Y.2.1 o0)), some (.int x1), none, none, none, none] [] h sz 0 0) : ∀ (n_ : Nat) (x2 : Int32) (U : Um) (h : pe_H), rF Y h0 U h → w_X12_laysWays_L10 o0 x1 post k_71 n_ x2 U → pw X Y.1 (pm_A hh sz) (pm_E X Y.1 hh sz 0 0 (pm_P Y h0 sz (pq_v post))) 10 [some (.ref (Y.2.1 o0)), some (.int x1), some (.int x2), none, none, none] [] h sz 0 0 := by
  intro n_
  induction n_ with
  | zero => intro x2 U h hU H; exact False.elim H
  | succ n_ ih =>
    intro x2 U h hU H
    replace H : b_X12_laysWays_L10 o0 x1 post k_71 (w_X12_laysWays_L10 o0 x1 post k_71 n_) x2 U := H
    unfold b_X12_laysWays_L10 at H
    refine pr_iload_n hC (by decide +kernel : decode cX12_laysWays 10 = .ok (.iload_n 2, 1)) rfl ?_
    refine pr_bipush hC (6) (by decide +kernel : decode cX12_laysWays 11 = .ok (.bipush 6, 2)) rfl ?_
    refine pr_icmp_ge hC 71 (by decide +kernel : decode cX12_laysWays 13 = .ok (.if_icmp .ge 58, 3)) (by decide) (fun c_13 => ?_) (fun c_13 => ?_)
    · replace H := H.1 c_13
      exact pv_sub [some (.ref (Y.2.1 o0)), some (.int x1), none, none, none, none] (And.intro rfl (And.intro rfl trivial)) (hk_71 U h H hU)
    replace H := H.2 c_13
    refine pr_aload_n hC (by decide +kernel : decode cX12_laysWays 16 = .ok (.aload_n 0, 1)) rfl ?_
    refine pu_g1 hC fg_X12_19 (by decide +kernel : decode cX12_laysWays 17 = .ok (.getfield 19, 3)) hU ho0 (by decide) rfl (by decide) ?_
    refine pr_bipush hC (6) (by decide +kernel : decode cX12_laysWays 20 = .ok (.bipush 6, 2)) rfl ?_
    refine pr_iload_n hC (by decide +kernel : decode cX12_laysWays 22 = .ok (.iload_n 1, 1)) rfl ?_
    refine pr_imul hC (by decide +kernel : decode cX12_laysWays 23 = .ok (.imul, 1)) ?_
    refine pr_iload_n hC (by decide +kernel : decode cX12_laysWays 24 = .ok (.iload_n 2, 1)) rfl ?_
    refine pr_iadd hC (by decide +kernel : decode cX12_laysWays 25 = .ok (.iadd, 1)) ?_
    refine pr_iload_n hC (by decide +kernel : decode cX12_laysWays 26 = .ok (.iload_n 1, 1)) rfl ?_
    refine pr_iload_n hC (by decide +kernel : decode cX12_laysWays 27 = .ok (.iload_n 2, 1)) rfl ?_
    refine pr_icmp_ne hC 35 (by decide +kernel : decode cX12_laysWays 28 = .ok (.if_icmp .ne 7, 3)) (by decide) (fun c_28 => ?_) (fun c_28 => ?_)
    · replace H := H.2 c_28
      refine pr_aload_n hC (by decide +kernel : decode cX12_laysWays 35 = .ok (.aload_n 0, 1)) rfl ?_
      refine pu_g1 hC fg_X12_15 (by decide +kernel : decode cX12_laysWays 36 = .ok (.getfield 15, 3)) hU ho0 (by decide) rfl (by decide) ?_
      refine pr_bipush hC (6) (by decide +kernel : decode cX12_laysWays 39 = .ok (.bipush 6, 2)) rfl ?_
      refine pr_iload_n hC (by decide +kernel : decode cX12_laysWays 41 = .ok (.iload_n 1, 1)) rfl ?_
      refine pr_imul hC (by decide +kernel : decode cX12_laysWays 42 = .ok (.imul, 1)) ?_
      refine pr_iload_n hC (by decide +kernel : decode cX12_laysWays 43 = .ok (.iload_n 2, 1)) rfl ?_
      refine pr_iadd hC (by decide +kernel : decode cX12_laysWays 44 = .ok (.iadd, 1)) ?_
      refine pu_iald hC (by decide +kernel : decode cX12_laysWays 45 = .ok (.iaload, 1)) hU ho0 rfl H.1 ?_
      replace H := H.2
      refine pr_if_le hC 63 (by decide +kernel : decode cX12_laysWays 46 = .ok (.ifCond .le 17, 3)) (by decide) (fun c_46 => ?_) (fun c_46 => ?_)
      · replace H := H.1 c_46
        refine pr_iconst hC (-1) (by decide +kernel : decode cX12_laysWays 63 = .ok (.iconst (-1), 1)) rfl ?_
        refine pv_iast hC (by decide +kernel : decode cX12_laysWays 64 = .ok (.iastore, 1)) hU ho0 rfl H.1 (fun U_3 h e_U_3 hU => ?_)
        replace H := H.2 U_3 e_U_3
        refine pv_iinc hC (v := x2 + 1) (by decide +kernel : decode cX12_laysWays 65 = .ok (.iinc 2 1, 3)) rfl (by decide) rfl rfl (fun x2_4 e_x2_4 => ?_)
        replace H := H x2_4 e_x2_4
        refine pr_goto hC 10 (by decide +kernel : decode cX12_laysWays 68 = .ok (.goto (-58), 3)) (by decide) ?_
        exact pv_sub [some (.ref (Y.2.1 o0)), some (.int x1), some (.int x2_4), none, none, none] (And.intro rfl (And.intro rfl (And.intro rfl trivial))) (ih _ U_3 h hU H)
      replace H := H.2 c_46
      refine pr_aload_n hC (by decide +kernel : decode cX12_laysWays 49 = .ok (.aload_n 0, 1)) rfl ?_
      refine pu_g1 hC fg_X12_15 (by decide +kernel : decode cX12_laysWays 50 = .ok (.getfield 15, 3)) hU ho0 (by decide) rfl (by decide) ?_
      refine pr_bipush hC (6) (by decide +kernel : decode cX12_laysWays 53 = .ok (.bipush 6, 2)) rfl ?_
      refine pr_iload_n hC (by decide +kernel : decode cX12_laysWays 55 = .ok (.iload_n 1, 1)) rfl ?_
      refine pr_imul hC (by decide +kernel : decode cX12_laysWays 56 = .ok (.imul, 1)) ?_
      refine pr_iload_n hC (by decide +kernel : decode cX12_laysWays 57 = .ok (.iload_n 2, 1)) rfl ?_
      refine pr_iadd hC (by decide +kernel : decode cX12_laysWays 58 = .ok (.iadd, 1)) ?_
      refine pu_iald hC (by decide +kernel : decode cX12_laysWays 59 = .ok (.iaload, 1)) hU ho0 rfl H.1 ?_
      replace H := H.2
      refine pr_goto hC 64 (by decide +kernel : decode cX12_laysWays 60 = .ok (.goto 4, 3)) (by decide) ?_
      refine pv_iast hC (by decide +kernel : decode cX12_laysWays 64 = .ok (.iastore, 1)) hU ho0 rfl H.1 (fun U_5 h e_U_5 hU => ?_)
      replace H := H.2 U_5 e_U_5
      refine pv_iinc hC (v := x2 + 1) (by decide +kernel : decode cX12_laysWays 65 = .ok (.iinc 2 1, 3)) rfl (by decide) rfl rfl (fun x2_6 e_x2_6 => ?_)
      replace H := H x2_6 e_x2_6
      refine pr_goto hC 10 (by decide +kernel : decode cX12_laysWays 68 = .ok (.goto (-58), 3)) (by decide) ?_
      exact pv_sub [some (.ref (Y.2.1 o0)), some (.int x1), some (.int x2_6), none, none, none] (And.intro rfl (And.intro rfl (And.intro rfl trivial))) (ih _ U_5 h hU H)
    replace H := H.1 c_28
    refine pr_iconst hC (0) (by decide +kernel : decode cX12_laysWays 31 = .ok (.iconst 0, 1)) rfl ?_
    refine pr_goto hC 64 (by decide +kernel : decode cX12_laysWays 32 = .ok (.goto 32, 3)) (by decide) ?_
    refine pv_iast hC (by decide +kernel : decode cX12_laysWays 64 = .ok (.iastore, 1)) hU ho0 rfl H.1 (fun U_1 h e_U_1 hU => ?_)
    replace H := H.2 U_1 e_U_1
    refine pv_iinc hC (v := x2 + 1) (by decide +kernel : decode cX12_laysWays 65 = .ok (.iinc 2 1, 3)) rfl (by decide) rfl rfl (fun x2_2 e_x2_2 => ?_)
    replace H := H x2_2 e_x2_2
    refine pr_goto hC 10 (by decide +kernel : decode cX12_laysWays 68 = .ok (.goto (-58), 3)) (by decide) ?_
    exact pv_sub [some (.ref (Y.2.1 o0)), some (.int x1), some (.int x2_2), none, none, none] (And.intro rfl (And.intro rfl (And.intro rfl trivial))) (ih _ U_1 h hU H)
set_option maxHeartbeats 4000000 in
theorem tl_X12_laysWays_L2 {l : Launch} {Y : px_Y} {X : px_X} {h0 hh : pe_H} {sz : Nat} (o0 : Nat) (post : Um → Prop) (k_77 : Um → Prop) (ho0 : oc o0 = 10)  (hC : px_C X Y.1 (pm_A hh sz) cX12_laysWays RX12 6) (hM : px_M l X Y.1 hh sz yX12_laysWays cX12_laysWays 6 none 0 0 0) (hR : X.2.2.2.1 = pm_rm 0 0 0) (hk_77 : ∀ (U : Um) (h : pe_H), k_77 U → rF Y h0 U h → pw X Y.1 (pm_A hh sz) (pm_E X Y.1 hh sz 0 0 (pm_P Y h0 sz (pq_v post))) 77 [some (.ref (Y.2.1 o0)), none, none, none, none, none] [] h sz 0 0) : ∀ (n_ : Nat) (x1 : Int32) (U : Um) (h : pe_H), rF Y h0 U h → w_X12_laysWays_L2 o0 post k_77 n_ x1 U → pw X Y.1 (pm_A hh sz) (pm_E X Y.1 hh sz 0 0 (pm_P Y h0 sz (pq_v post))) 2 [some (.ref (Y.2.1 o0)), some (.int x1), none, none, none, none] [] h sz 0 0 := by
  intro n_
  induction n_ with
  | zero => intro x1 U h hU H; exact False.elim H
  | succ n_ ih =>
    intro x1 U h hU H
    replace H : b_X12_laysWays_L2 o0 post k_77 (w_X12_laysWays_L2 o0 post k_77 n_) x1 U := H
    unfold b_X12_laysWays_L2 at H
    refine pr_iload_n hC (by decide +kernel : decode cX12_laysWays 2 = .ok (.iload_n 1, 1)) rfl ?_
    refine pr_bipush hC (6) (by decide +kernel : decode cX12_laysWays 3 = .ok (.bipush 6, 2)) rfl ?_
    refine pr_icmp_ge hC 77 (by decide +kernel : decode cX12_laysWays 5 = .ok (.if_icmp .ge 72, 3)) (by decide) (fun c_5 => ?_) (fun c_5 => ?_)
    · replace H := H.1 c_5
      exact pv_sub [some (.ref (Y.2.1 o0)), none, none, none, none, none] (And.intro rfl trivial) (hk_77 U h H hU)
    replace H := H.2 c_5
    refine pr_iconst hC (0) (by decide +kernel : decode cX12_laysWays 8 = .ok (.iconst 0, 1)) rfl ?_
    refine pr_istore_n hC (by decide +kernel : decode cX12_laysWays 9 = .ok (.istore_n 2, 1)) (by decide) rfl ?_
    obtain ⟨n_9, H⟩ := H
    refine pv_sub [some (.ref (Y.2.1 o0)), some (.int x1), some (.int 0), none, none, none] (And.intro rfl (And.intro rfl (And.intro rfl trivial))) ?_
    refine tl_X12_laysWays_L10 _ _ _ _ ho0 hC hM hR (fun U_7 h H hU => ?_) n_9 _ U h hU H
    refine pv_iinc hC (v := x1 + 1) (by decide +kernel : decode cX12_laysWays 71 = .ok (.iinc 1 1, 3)) rfl (by decide) rfl rfl (fun x1_8 e_x1_8 => ?_)
    replace H := H x1_8 e_x1_8
    refine pr_goto hC 2 (by decide +kernel : decode cX12_laysWays 74 = .ok (.goto (-72), 3)) (by decide) ?_
    exact pv_sub [some (.ref (Y.2.1 o0)), some (.int x1_8), none, none, none, none] (And.intro rfl (And.intro rfl trivial)) (ih _ U_7 h hU H)
set_option maxHeartbeats 4000000 in
theorem tl_X12_laysWays_L95 {l : Launch} {Y : px_Y} {X : px_X} {h0 hh : pe_H} {sz : Nat} (o0 : Nat) (x1 : Int32) (x2 : Int32) (post : Um → Prop) (k_195 : Um → Prop) (ho0 : oc o0 = 10)  (hC : px_C X Y.1 (pm_A hh sz) cX12_laysWays RX12 6) (hM : px_M l X Y.1 hh sz yX12_laysWays cX12_laysWays 6 none 0 0 0) (hR : X.2.2.2.1 = pm_rm 0 0 0) (hk_195 : ∀ (U : Um) (h : pe_H), k_195 U → rF Y h0 U h → pw X Y.1 (pm_A hh sz) (pm_E X Y.1 hh sz 0 0 (pm_P Y h0 sz (pq_v post))) 195 [some (.ref (Y.2.1 o0)), some (.int x1), some (.int x2), none, none, none] [] h sz 0 0) : ∀ (n_ : Nat) (x3 : Int32) (U : Um) (h : pe_H), rF Y h0 U h → w_X12_laysWays_L95 o0 x1 x2 post k_195 n_ x3 U → pw X Y.1 (pm_A hh sz) (pm_E X Y.1 hh sz 0 0 (pm_P Y h0 sz (pq_v post))) 95 [some (.ref (Y.2.1 o0)), some (.int x1), some (.int x2), some (.int x3), none, none] [] h sz 0 0 := by
  intro n_
  induction n_ with
  | zero => intro x3 U h hU H; exact False.elim H
  | succ n_ ih =>
    intro x3 U h hU H
    replace H : b_X12_laysWays_L95 o0 x1 x2 post k_195 (w_X12_laysWays_L95 o0 x1 x2 post k_195 n_) x3 U := H
    unfold b_X12_laysWays_L95 at H
    refine pr_iload_n hC (by decide +kernel : decode cX12_laysWays 95 = .ok (.iload_n 3, 1)) rfl ?_
    refine pr_bipush hC (6) (by decide +kernel : decode cX12_laysWays 96 = .ok (.bipush 6, 2)) rfl ?_
    refine pr_icmp_ge hC 195 (by decide +kernel : decode cX12_laysWays 98 = .ok (.if_icmp .ge 97, 3)) (by decide) (fun c_98 => ?_) (fun c_98 => ?_)
    · replace H := H.1 c_98
      exact pv_sub [some (.ref (Y.2.1 o0)), some (.int x1), some (.int x2), none, none, none] (And.intro rfl (And.intro rfl (And.intro rfl trivial))) (hk_195 U h H hU)
    replace H := H.2 c_98
    refine pr_aload_n hC (by decide +kernel : decode cX12_laysWays 101 = .ok (.aload_n 0, 1)) rfl ?_
    refine pu_g1 hC fg_X12_19 (by decide +kernel : decode cX12_laysWays 102 = .ok (.getfield 19, 3)) hU ho0 (by decide) rfl (by decide) ?_
    refine pr_bipush hC (6) (by decide +kernel : decode cX12_laysWays 105 = .ok (.bipush 6, 2)) rfl ?_
    refine pr_iload_n hC (by decide +kernel : decode cX12_laysWays 107 = .ok (.iload_n 2, 1)) rfl ?_
    refine pr_imul hC (by decide +kernel : decode cX12_laysWays 108 = .ok (.imul, 1)) ?_
    refine pr_iload_n hC (by decide +kernel : decode cX12_laysWays 109 = .ok (.iload_n 1, 1)) rfl ?_
    refine pr_iadd hC (by decide +kernel : decode cX12_laysWays 110 = .ok (.iadd, 1)) ?_
    refine pu_iald hC (by decide +kernel : decode cX12_laysWays 111 = .ok (.iaload, 1)) hU ho0 rfl H.1 ?_
    replace H := H.2
    refine pv_topi (fun x4_11 e_x4_11 => ?_)
    replace H := H x4_11 e_x4_11
    refine pr_istore hC (by decide +kernel : decode cX12_laysWays 112 = .ok (.istore 4, 2)) (by decide) rfl ?_
    refine pr_aload_n hC (by decide +kernel : decode cX12_laysWays 114 = .ok (.aload_n 0, 1)) rfl ?_
    refine pu_g1 hC fg_X12_19 (by decide +kernel : decode cX12_laysWays 115 = .ok (.getfield 19, 3)) hU ho0 (by decide) rfl (by decide) ?_
    refine pr_bipush hC (6) (by decide +kernel : decode cX12_laysWays 118 = .ok (.bipush 6, 2)) rfl ?_
    refine pr_iload_n hC (by decide +kernel : decode cX12_laysWays 120 = .ok (.iload_n 1, 1)) rfl ?_
    refine pr_imul hC (by decide +kernel : decode cX12_laysWays 121 = .ok (.imul, 1)) ?_
    refine pr_iload_n hC (by decide +kernel : decode cX12_laysWays 122 = .ok (.iload_n 3, 1)) rfl ?_
    refine pr_iadd hC (by decide +kernel : decode cX12_laysWays 123 = .ok (.iadd, 1)) ?_
    refine pu_iald hC (by decide +kernel : decode cX12_laysWays 124 = .ok (.iaload, 1)) hU ho0 rfl H.1 ?_
    replace H := H.2
    refine pv_topi (fun x5_12 e_x5_12 => ?_)
    replace H := H x5_12 e_x5_12
    refine pr_istore hC (by decide +kernel : decode cX12_laysWays 125 = .ok (.istore 5, 2)) (by decide) rfl ?_
    refine pr_iload hC (by decide +kernel : decode cX12_laysWays 127 = .ok (.iload 4, 2)) rfl ?_
    refine pr_iconst hC (-1) (by decide +kernel : decode cX12_laysWays 129 = .ok (.iconst (-1), 1)) rfl ?_
    refine pr_icmp_eq hC 189 (by decide +kernel : decode cX12_laysWays 130 = .ok (.if_icmp .eq 59, 3)) (by decide) (fun c_130 => ?_) (fun c_130 => ?_)
    · replace H := H.1 c_130
      refine pv_iinc hC (v := x3 + 1) (by decide +kernel : decode cX12_laysWays 189 = .ok (.iinc 3 1, 3)) rfl (by decide) rfl rfl (fun x3_13 e_x3_13 => ?_)
      replace H := H x3_13 e_x3_13
      refine pr_goto hC 95 (by decide +kernel : decode cX12_laysWays 192 = .ok (.goto (-97), 3)) (by decide) ?_
      exact pv_sub [some (.ref (Y.2.1 o0)), some (.int x1), some (.int x2), some (.int x3_13), none, none] (And.intro rfl (And.intro rfl (And.intro rfl (And.intro rfl trivial)))) (ih _ U h hU H)
    replace H := H.2 c_130
    refine pr_iload hC (by decide +kernel : decode cX12_laysWays 133 = .ok (.iload 5, 2)) rfl ?_
    refine pr_iconst hC (-1) (by decide +kernel : decode cX12_laysWays 135 = .ok (.iconst (-1), 1)) rfl ?_
    refine pr_icmp_eq hC 189 (by decide +kernel : decode cX12_laysWays 136 = .ok (.if_icmp .eq 53, 3)) (by decide) (fun c_136 => ?_) (fun c_136 => ?_)
    · replace H := H.1 c_136
      refine pv_iinc hC (v := x3 + 1) (by decide +kernel : decode cX12_laysWays 189 = .ok (.iinc 3 1, 3)) rfl (by decide) rfl rfl (fun x3_14 e_x3_14 => ?_)
      replace H := H x3_14 e_x3_14
      refine pr_goto hC 95 (by decide +kernel : decode cX12_laysWays 192 = .ok (.goto (-97), 3)) (by decide) ?_
      exact pv_sub [some (.ref (Y.2.1 o0)), some (.int x1), some (.int x2), some (.int x3_14), none, none] (And.intro rfl (And.intro rfl (And.intro rfl (And.intro rfl trivial)))) (ih _ U h hU H)
    replace H := H.2 c_136
    refine pr_aload_n hC (by decide +kernel : decode cX12_laysWays 139 = .ok (.aload_n 0, 1)) rfl ?_
    refine pu_g1 hC fg_X12_19 (by decide +kernel : decode cX12_laysWays 140 = .ok (.getfield 19, 3)) hU ho0 (by decide) rfl (by decide) ?_
    refine pr_bipush hC (6) (by decide +kernel : decode cX12_laysWays 143 = .ok (.bipush 6, 2)) rfl ?_
    refine pr_iload_n hC (by decide +kernel : decode cX12_laysWays 145 = .ok (.iload_n 2, 1)) rfl ?_
    refine pr_imul hC (by decide +kernel : decode cX12_laysWays 146 = .ok (.imul, 1)) ?_
    refine pr_iload_n hC (by decide +kernel : decode cX12_laysWays 147 = .ok (.iload_n 3, 1)) rfl ?_
    refine pr_iadd hC (by decide +kernel : decode cX12_laysWays 148 = .ok (.iadd, 1)) ?_
    refine pu_iald hC (by decide +kernel : decode cX12_laysWays 149 = .ok (.iaload, 1)) hU ho0 rfl H.1 ?_
    replace H := H.2
    refine pr_iconst hC (-1) (by decide +kernel : decode cX12_laysWays 150 = .ok (.iconst (-1), 1)) rfl ?_
    replace H := H (pw X Y.1 (pm_A hh sz) (pm_E X Y.1 hh sz 0 0 (pm_P Y h0 sz (pq_v post))) 173 [some (.ref (Y.2.1 o0)), some (.int x1), some (.int x2), some (.int x3), some (.int x4_11), some (.int x5_12)] [] h sz 0 0) (by
      intro  H
      refine pr_aload_n hC (by decide +kernel : decode cX12_laysWays 173 = .ok (.aload_n 0, 1)) rfl ?_
      refine pu_g1 hC fg_X12_19 (by decide +kernel : decode cX12_laysWays 174 = .ok (.getfield 19, 3)) hU ho0 (by decide) rfl (by decide) ?_
      refine pr_bipush hC (6) (by decide +kernel : decode cX12_laysWays 177 = .ok (.bipush 6, 2)) rfl ?_
      refine pr_iload_n hC (by decide +kernel : decode cX12_laysWays 179 = .ok (.iload_n 2, 1)) rfl ?_
      refine pr_imul hC (by decide +kernel : decode cX12_laysWays 180 = .ok (.imul, 1)) ?_
      refine pr_iload_n hC (by decide +kernel : decode cX12_laysWays 181 = .ok (.iload_n 3, 1)) rfl ?_
      refine pr_iadd hC (by decide +kernel : decode cX12_laysWays 182 = .ok (.iadd, 1)) ?_
      refine pr_iload hC (by decide +kernel : decode cX12_laysWays 183 = .ok (.iload 4, 2)) rfl ?_
      refine pr_iload hC (by decide +kernel : decode cX12_laysWays 185 = .ok (.iload 5, 2)) rfl ?_
      refine pr_iadd hC (by decide +kernel : decode cX12_laysWays 187 = .ok (.iadd, 1)) ?_
      refine pv_iast hC (by decide +kernel : decode cX12_laysWays 188 = .ok (.iastore, 1)) hU ho0 rfl H.1 (fun U_16 h e_U_16 hU => ?_)
      replace H := H.2 U_16 e_U_16
      refine pv_iinc hC (v := x3 + 1) (by decide +kernel : decode cX12_laysWays 189 = .ok (.iinc 3 1, 3)) rfl (by decide) rfl rfl (fun x3_17 e_x3_17 => ?_)
      replace H := H x3_17 e_x3_17
      refine pr_goto hC 95 (by decide +kernel : decode cX12_laysWays 192 = .ok (.goto (-97), 3)) (by decide) ?_
      exact pv_sub [some (.ref (Y.2.1 o0)), some (.int x1), some (.int x2), some (.int x3_17), none, none] (And.intro rfl (And.intro rfl (And.intro rfl (And.intro rfl trivial)))) (ih _ U_16 h hU H))
    refine pr_icmp_eq hC 173 (by decide +kernel : decode cX12_laysWays 151 = .ok (.if_icmp .eq 22, 3)) (by decide) (fun c_151 => ?_) (fun c_151 => ?_)
    · replace H := H.1 c_151
      exact pv_sub [some (.ref (Y.2.1 o0)), some (.int x1), some (.int x2), some (.int x3), some (.int x4_11), some (.int x5_12)] (And.intro rfl (And.intro rfl (And.intro rfl (And.intro rfl (And.intro rfl (And.intro rfl trivial)))))) (H )
    replace H := H.2 c_151
    refine pr_iload hC (by decide +kernel : decode cX12_laysWays 154 = .ok (.iload 4, 2)) rfl ?_
    refine pr_iload hC (by decide +kernel : decode cX12_laysWays 156 = .ok (.iload 5, 2)) rfl ?_
    refine pr_iadd hC (by decide +kernel : decode cX12_laysWays 158 = .ok (.iadd, 1)) ?_
    refine pr_aload_n hC (by decide +kernel : decode cX12_laysWays 159 = .ok (.aload_n 0, 1)) rfl ?_
    refine pu_g1 hC fg_X12_19 (by decide +kernel : decode cX12_laysWays 160 = .ok (.getfield 19, 3)) hU ho0 (by decide) rfl (by decide) ?_
    refine pr_bipush hC (6) (by decide +kernel : decode cX12_laysWays 163 = .ok (.bipush 6, 2)) rfl ?_
    refine pr_iload_n hC (by decide +kernel : decode cX12_laysWays 165 = .ok (.iload_n 2, 1)) rfl ?_
    refine pr_imul hC (by decide +kernel : decode cX12_laysWays 166 = .ok (.imul, 1)) ?_
    refine pr_iload_n hC (by decide +kernel : decode cX12_laysWays 167 = .ok (.iload_n 3, 1)) rfl ?_
    refine pr_iadd hC (by decide +kernel : decode cX12_laysWays 168 = .ok (.iadd, 1)) ?_
    refine pu_iald hC (by decide +kernel : decode cX12_laysWays 169 = .ok (.iaload, 1)) hU ho0 rfl H.1 ?_
    replace H := H.2
    refine pr_icmp_ge hC 189 (by decide +kernel : decode cX12_laysWays 170 = .ok (.if_icmp .ge 19, 3)) (by decide) (fun c_170 => ?_) (fun c_170 => ?_)
    · replace H := H.1 c_170
      refine pv_iinc hC (v := x3 + 1) (by decide +kernel : decode cX12_laysWays 189 = .ok (.iinc 3 1, 3)) rfl (by decide) rfl rfl (fun x3_18 e_x3_18 => ?_)
      replace H := H x3_18 e_x3_18
      refine pr_goto hC 95 (by decide +kernel : decode cX12_laysWays 192 = .ok (.goto (-97), 3)) (by decide) ?_
      exact pv_sub [some (.ref (Y.2.1 o0)), some (.int x1), some (.int x2), some (.int x3_18), none, none] (And.intro rfl (And.intro rfl (And.intro rfl (And.intro rfl trivial)))) (ih _ U h hU H)
    replace H := H.2 c_170
    exact pv_sub [some (.ref (Y.2.1 o0)), some (.int x1), some (.int x2), some (.int x3), some (.int x4_11), some (.int x5_12)] (And.intro rfl (And.intro rfl (And.intro rfl (And.intro rfl (And.intro rfl (And.intro rfl trivial)))))) (H )
set_option maxHeartbeats 4000000 in
theorem tl_X12_laysWays_L87 {l : Launch} {Y : px_Y} {X : px_X} {h0 hh : pe_H} {sz : Nat} (o0 : Nat) (x1 : Int32) (post : Um → Prop) (k_201 : Um → Prop) (ho0 : oc o0 = 10)  (hC : px_C X Y.1 (pm_A hh sz) cX12_laysWays RX12 6) (hM : px_M l X Y.1 hh sz yX12_laysWays cX12_laysWays 6 none 0 0 0) (hR : X.2.2.2.1 = pm_rm 0 0 0) (hk_201 : ∀ (U : Um) (h : pe_H), k_201 U → rF Y h0 U h → pw X Y.1 (pm_A hh sz) (pm_E X Y.1 hh sz 0 0 (pm_P Y h0 sz (pq_v post))) 201 [some (.ref (Y.2.1 o0)), some (.int x1), none, none, none, none] [] h sz 0 0) : ∀ (n_ : Nat) (x2 : Int32) (U : Um) (h : pe_H), rF Y h0 U h → w_X12_laysWays_L87 o0 x1 post k_201 n_ x2 U → pw X Y.1 (pm_A hh sz) (pm_E X Y.1 hh sz 0 0 (pm_P Y h0 sz (pq_v post))) 87 [some (.ref (Y.2.1 o0)), some (.int x1), some (.int x2), none, none, none] [] h sz 0 0 := by
  intro n_
  induction n_ with
  | zero => intro x2 U h hU H; exact False.elim H
  | succ n_ ih =>
    intro x2 U h hU H
    replace H : b_X12_laysWays_L87 o0 x1 post k_201 (w_X12_laysWays_L87 o0 x1 post k_201 n_) x2 U := H
    unfold b_X12_laysWays_L87 at H
    refine pr_iload_n hC (by decide +kernel : decode cX12_laysWays 87 = .ok (.iload_n 2, 1)) rfl ?_
    refine pr_bipush hC (6) (by decide +kernel : decode cX12_laysWays 88 = .ok (.bipush 6, 2)) rfl ?_
    refine pr_icmp_ge hC 201 (by decide +kernel : decode cX12_laysWays 90 = .ok (.if_icmp .ge 111, 3)) (by decide) (fun c_90 => ?_) (fun c_90 => ?_)
    · replace H := H.1 c_90
      exact pv_sub [some (.ref (Y.2.1 o0)), some (.int x1), none, none, none, none] (And.intro rfl (And.intro rfl trivial)) (hk_201 U h H hU)
    replace H := H.2 c_90
    refine pr_iconst hC (0) (by decide +kernel : decode cX12_laysWays 93 = .ok (.iconst 0, 1)) rfl ?_
    refine pr_istore_n hC (by decide +kernel : decode cX12_laysWays 94 = .ok (.istore_n 3, 1)) (by decide) rfl ?_
    obtain ⟨n_21, H⟩ := H
    refine pv_sub [some (.ref (Y.2.1 o0)), some (.int x1), some (.int x2), some (.int 0), none, none] (And.intro rfl (And.intro rfl (And.intro rfl (And.intro rfl trivial)))) ?_
    refine tl_X12_laysWays_L95 _ _ _ _ _ ho0 hC hM hR (fun U_19 h H hU => ?_) n_21 _ U h hU H
    refine pv_iinc hC (v := x2 + 1) (by decide +kernel : decode cX12_laysWays 195 = .ok (.iinc 2 1, 3)) rfl (by decide) rfl rfl (fun x2_20 e_x2_20 => ?_)
    replace H := H x2_20 e_x2_20
    refine pr_goto hC 87 (by decide +kernel : decode cX12_laysWays 198 = .ok (.goto (-111), 3)) (by decide) ?_
    exact pv_sub [some (.ref (Y.2.1 o0)), some (.int x1), some (.int x2_20), none, none, none] (And.intro rfl (And.intro rfl (And.intro rfl trivial))) (ih _ U_19 h hU H)
set_option maxHeartbeats 4000000 in
theorem tl_X12_laysWays_L79 {l : Launch} {Y : px_Y} {X : px_X} {h0 hh : pe_H} {sz : Nat} (o0 : Nat) (post : Um → Prop) (k_207 : Um → Prop) (ho0 : oc o0 = 10)  (hC : px_C X Y.1 (pm_A hh sz) cX12_laysWays RX12 6) (hM : px_M l X Y.1 hh sz yX12_laysWays cX12_laysWays 6 none 0 0 0) (hR : X.2.2.2.1 = pm_rm 0 0 0) (hk_207 : ∀ (U : Um) (h : pe_H), k_207 U → rF Y h0 U h → pw X Y.1 (pm_A hh sz) (pm_E X Y.1 hh sz 0 0 (pm_P Y h0 sz (pq_v post))) 207 [none, none, none, none, none, none] [] h sz 0 0) : ∀ (n_ : Nat) (x1 : Int32) (U : Um) (h : pe_H), rF Y h0 U h → w_X12_laysWays_L79 o0 post k_207 n_ x1 U → pw X Y.1 (pm_A hh sz) (pm_E X Y.1 hh sz 0 0 (pm_P Y h0 sz (pq_v post))) 79 [some (.ref (Y.2.1 o0)), some (.int x1), none, none, none, none] [] h sz 0 0 := by
  intro n_
  induction n_ with
  | zero => intro x1 U h hU H; exact False.elim H
  | succ n_ ih =>
    intro x1 U h hU H
    replace H : b_X12_laysWays_L79 o0 post k_207 (w_X12_laysWays_L79 o0 post k_207 n_) x1 U := H
    unfold b_X12_laysWays_L79 at H
    refine pr_iload_n hC (by decide +kernel : decode cX12_laysWays 79 = .ok (.iload_n 1, 1)) rfl ?_
    refine pr_bipush hC (6) (by decide +kernel : decode cX12_laysWays 80 = .ok (.bipush 6, 2)) rfl ?_
    refine pr_icmp_ge hC 207 (by decide +kernel : decode cX12_laysWays 82 = .ok (.if_icmp .ge 125, 3)) (by decide) (fun c_82 => ?_) (fun c_82 => ?_)
    · replace H := H.1 c_82
      exact pv_sub [none, none, none, none, none, none] (trivial) (hk_207 U h H hU)
    replace H := H.2 c_82
    refine pr_iconst hC (0) (by decide +kernel : decode cX12_laysWays 85 = .ok (.iconst 0, 1)) rfl ?_
    refine pr_istore_n hC (by decide +kernel : decode cX12_laysWays 86 = .ok (.istore_n 2, 1)) (by decide) rfl ?_
    obtain ⟨n_24, H⟩ := H
    refine pv_sub [some (.ref (Y.2.1 o0)), some (.int x1), some (.int 0), none, none, none] (And.intro rfl (And.intro rfl (And.intro rfl trivial))) ?_
    refine tl_X12_laysWays_L87 _ _ _ _ ho0 hC hM hR (fun U_22 h H hU => ?_) n_24 _ U h hU H
    refine pv_iinc hC (v := x1 + 1) (by decide +kernel : decode cX12_laysWays 201 = .ok (.iinc 1 1, 3)) rfl (by decide) rfl rfl (fun x1_23 e_x1_23 => ?_)
    replace H := H x1_23 e_x1_23
    refine pr_goto hC 79 (by decide +kernel : decode cX12_laysWays 204 = .ok (.goto (-125), 3)) (by decide) ?_
    exact pv_sub [some (.ref (Y.2.1 o0)), some (.int x1_23), none, none, none, none] (And.intro rfl (And.intro rfl trivial)) (ih _ U_22 h hU H)
set_option maxHeartbeats 4000000 in
theorem t_X12_laysWays {l : Launch} {Y : px_Y} {o : Nat} {U : Um} {post : Um → Prop} (ho : oc o = 10) (H : w_X12_laysWays o U post) : um l Y 0 yX12_laysWays cX12_laysWays 6 none [.ref (Y.2.1 o)] U (pq_v post) := by
  unfold w_X12_laysWays at H
  refine um_of (by decide) (Nat.le_of_ble_eq_true rfl) [some (.ref (Y.2.1 o)), none, none, none, none, none] rfl (fun X h0 hh sz hM hU => ?_)
  have hC := hM.1
  have hR := hM.2.2.1
  refine pr_iconst hC (0) (by decide +kernel : decode cX12_laysWays 0 = .ok (.iconst 0, 1)) rfl ?_
  refine pr_istore_n hC (by decide +kernel : decode cX12_laysWays 1 = .ok (.istore_n 1, 1)) (by decide) rfl ?_
  obtain ⟨n_27, H⟩ := H
  refine pv_sub [some (.ref (Y.2.1 o)), some (.int 0), none, none, none, none] (And.intro rfl (And.intro rfl trivial)) ?_
  refine tl_X12_laysWays_L2 _ _ _ ho hC hM hR (fun U_10 h H hU => ?_) n_27 _ U hh hU H
  refine pr_iconst hC (0) (by decide +kernel : decode cX12_laysWays 77 = .ok (.iconst 0, 1)) rfl ?_
  refine pr_istore_n hC (by decide +kernel : decode cX12_laysWays 78 = .ok (.istore_n 1, 1)) (by decide) rfl ?_
  obtain ⟨n_26, H⟩ := H
  refine pv_sub [some (.ref (Y.2.1 o)), some (.int 0), none, none, none, none] (And.intro rfl (And.intro rfl trivial)) ?_
  refine tl_X12_laysWays_L79 _ _ _ ho hC hM hR (fun U_25 h H hU => ?_) n_26 _ U_10 h hU H
  exact pv_vret hM (by decide +kernel : decode cX12_laysWays 207 = .ok (.return_, 1)) hU H
def b_X12_takesOver_L2 (o0 : Nat) (post : Um → Prop) (k_29 : Um → Prop) (rec_ : Int32 → Um → Prop) (x1 : Int32) (U : Um) : Prop :=
  ((7 : Int32) ≤ x1 → k_29 U) ∧ (¬ (7 : Int32) ≤ x1 → vp_in (7 + x1) 14 ∧ vp_in x1 14 ∧ ∀ (U_1 : Um), U_1 = sA U o0 11 (va_up (uA U o0 11) (Int32.toNatClampNeg x1) (uA U o0 11 (Int32.toNatClampNeg (7 + x1)))) → ∀ (x1_2 : Int32), x1_2 = x1 + 1 → rec_ x1_2 U_1)
def w_X12_takesOver_L2 (o0 : Nat) (post : Um → Prop) (k_29 : Um → Prop) (n_ : Nat) : Int32 → Um → Prop := Nat.rec (motive := fun _ => Int32 → Um → Prop) (fun _ _ => False) (fun _ ih => b_X12_takesOver_L2 o0 post k_29 ih) n_
def b_X12_takesOver_L31 (o0 : Nat) (post : Um → Prop) (k_58 : Um → Prop) (rec_ : Int32 → Um → Prop) (x1 : Int32) (U : Um) : Prop :=
  ((6 : Int32) ≤ x1 → k_58 U) ∧ (¬ (6 : Int32) ≤ x1 → vp_in (6 + x1) 12 ∧ vp_in x1 12 ∧ ∀ (U_4 : Um), U_4 = sJ U o0 1 (va_up (uJ U o0 1) (Int32.toNatClampNeg x1) (uJ U o0 1 (Int32.toNatClampNeg (6 + x1)))) → ∀ (x1_5 : Int32), x1_5 = x1 + 1 → rec_ x1_5 U_4)
def w_X12_takesOver_L31 (o0 : Nat) (post : Um → Prop) (k_58 : Um → Prop) (n_ : Nat) : Int32 → Um → Prop := Nat.rec (motive := fun _ => Int32 → Um → Prop) (fun _ _ => False) (fun _ ih => b_X12_takesOver_L31 o0 post k_58 ih) n_
def b_X12_takesOver_L60 (o0 : Nat) (post : Um → Prop) (k_87 : Um → Prop) (rec_ : Int32 → Um → Prop) (x1 : Int32) (U : Um) : Prop :=
  ((36 : Int32) ≤ x1 → k_87 U) ∧ (¬ (36 : Int32) ≤ x1 → vp_in (36 + x1) 72 ∧ vp_in x1 72 ∧ ∀ (U_7 : Um), U_7 = sA U o0 2 (va_up (uA U o0 2) (Int32.toNatClampNeg x1) (uA U o0 2 (Int32.toNatClampNeg (36 + x1)))) → ∀ (x1_8 : Int32), x1_8 = x1 + 1 → rec_ x1_8 U_7)
def w_X12_takesOver_L60 (o0 : Nat) (post : Um → Prop) (k_87 : Um → Prop) (n_ : Nat) : Int32 → Um → Prop := Nat.rec (motive := fun _ => Int32 → Um → Prop) (fun _ _ => False) (fun _ ih => b_X12_takesOver_L60 o0 post k_87 ih) n_
def b_X12_takesOver_L89 (o0 : Nat) (post : Um → Prop) (k_116 : Um → Prop) (rec_ : Int32 → Um → Prop) (x1 : Int32) (U : Um) : Prop :=
  ((8 : Int32) ≤ x1 → k_116 U) ∧ (¬ (8 : Int32) ≤ x1 → vp_in (8 + x1) 16 ∧ vp_in x1 16 ∧ ∀ (U_10 : Um), U_10 = sJ U o0 4 (va_up (uJ U o0 4) (Int32.toNatClampNeg x1) (uJ U o0 4 (Int32.toNatClampNeg (8 + x1)))) → ∀ (x1_11 : Int32), x1_11 = x1 + 1 → rec_ x1_11 U_10)
def w_X12_takesOver_L89 (o0 : Nat) (post : Um → Prop) (k_116 : Um → Prop) (n_ : Nat) : Int32 → Um → Prop := Nat.rec (motive := fun _ => Int32 → Um → Prop) (fun _ _ => False) (fun _ ih => b_X12_takesOver_L89 o0 post k_116 ih) n_
def b_X12_takesOver_L118 (o0 : Nat) (post : Um → Prop) (k_147 : Um → Prop) (rec_ : Int32 → Um → Prop) (x1 : Int32) (U : Um) : Prop :=
  ((128 : Int32) ≤ x1 → k_147 U) ∧ (¬ (128 : Int32) ≤ x1 → vp_in (128 + x1) 256 ∧ vp_in x1 256 ∧ ∀ (U_13 : Um), U_13 = sA U o0 10 (va_up (uA U o0 10) (Int32.toNatClampNeg x1) (uA U o0 10 (Int32.toNatClampNeg (128 + x1)))) → ∀ (x1_14 : Int32), x1_14 = x1 + 1 → rec_ x1_14 U_13)
def w_X12_takesOver_L118 (o0 : Nat) (post : Um → Prop) (k_147 : Um → Prop) (n_ : Nat) : Int32 → Um → Prop := Nat.rec (motive := fun _ => Int32 → Um → Prop) (fun _ _ => False) (fun _ ih => b_X12_takesOver_L118 o0 post k_147 ih) n_
def b_X12_takesOver_L157 (o0 : Nat) (post : Um → Prop) (k_203 : Um → Prop) (rec_ : Int32 → Um → Prop) (x1 : Int32) (U : Um) : Prop :=
  ((uI U o0 14) ≤ x1 → k_203 U) ∧ (¬ (uI U o0 14) ≤ x1 → vp_in (1300 + x1) 2600 ∧ vp_in x1 2600 ∧ ∀ (U_17 : Um), U_17 = sA U o0 12 (va_up (uA U o0 12) (Int32.toNatClampNeg x1) (uA U o0 12 (Int32.toNatClampNeg (1300 + x1)))) → vp_in (1300 + x1) 2600 ∧ vp_in x1 2600 ∧ ∀ (U_18 : Um), U_18 = sA U_17 o0 13 (va_up (uA U_17 o0 13) (Int32.toNatClampNeg x1) (uA U_17 o0 13 (Int32.toNatClampNeg (1300 + x1)))) → ∀ (x1_19 : Int32), x1_19 = x1 + 1 → rec_ x1_19 U_18)
def w_X12_takesOver_L157 (o0 : Nat) (post : Um → Prop) (k_203 : Um → Prop) (n_ : Nat) : Int32 → Um → Prop := Nat.rec (motive := fun _ => Int32 → Um → Prop) (fun _ _ => False) (fun _ ih => b_X12_takesOver_L157 o0 post k_203 ih) n_
def b_X12_takesOver_L205 (o0 : Nat) (post : Um → Prop) (k_308 : Um → Prop) (rec_ : Int32 → Um → Prop) (x1 : Int32) (U : Um) : Prop :=
  ((10 : Int32) ≤ x1 → k_308 U) ∧ (¬ (10 : Int32) ≤ x1 → vp_in (10 + x1) 20 ∧ vp_in x1 20 ∧ ∀ (U_21 : Um), U_21 = sJ U o0 5 (va_up (uJ U o0 5) (Int32.toNatClampNeg x1) (uJ U o0 5 (Int32.toNatClampNeg (10 + x1)))) → vp_in (10 + x1) 20 ∧ vp_in x1 20 ∧ ∀ (U_22 : Um), U_22 = sA U_21 o0 6 (va_up (uA U_21 o0 6) (Int32.toNatClampNeg x1) (uA U_21 o0 6 (Int32.toNatClampNeg (10 + x1)))) → vp_in (10 + x1) 20 ∧ vp_in x1 20 ∧ ∀ (U_23 : Um), U_23 = sA U_22 o0 7 (va_up (uA U_22 o0 7) (Int32.toNatClampNeg x1) (uA U_22 o0 7 (Int32.toNatClampNeg (10 + x1)))) → vp_in (10 + x1) 20 ∧ vp_in x1 20 ∧ ∀ (U_24 : Um), U_24 = sA U_23 o0 8 (va_up (uA U_23 o0 8) (Int32.toNatClampNeg x1) (uA U_23 o0 8 (Int32.toNatClampNeg (10 + x1)))) → vp_in (10 + x1) 20 ∧ vp_in x1 10 ∧ ∀ (U_25 : Um), U_25 = sA U_24 o0 32 (va_up (uA U_24 o0 32) (Int32.toNatClampNeg x1) (uA U_24 o0 9 (Int32.toNatClampNeg (10 + x1)))) → vp_in x1 10 ∧ ∀ (U_26 : Um), U_26 = sA U_25 o0 33 (va_up (uA U_25 o0 33) (Int32.toNatClampNeg x1) 0) → vp_in x1 10 ∧ ∀ (U_27 : Um), U_27 = sF U_26 o0 34 (va_up (uF U_26 o0 34) (Int32.toNatClampNeg x1) 1112014848) → ∀ (x1_28 : Int32), x1_28 = x1 + 1 → rec_ x1_28 U_27)
def w_X12_takesOver_L205 (o0 : Nat) (post : Um → Prop) (k_308 : Um → Prop) (n_ : Nat) : Int32 → Um → Prop := Nat.rec (motive := fun _ => Int32 → Um → Prop) (fun _ _ => False) (fun _ ih => b_X12_takesOver_L205 o0 post k_308 ih) n_
def b_X12_takesOver_L310 (o0 : Nat) (post : Um → Prop) (k_336 : Um → Prop) (rec_ : Int32 → Um → Prop) (x1 : Int32) (U : Um) : Prop :=
  ((48 : Int32) ≤ x1 → k_336 U) ∧ (¬ (48 : Int32) ≤ x1 → vp_in x1 48 ∧ ∀ (U_30 : Um), U_30 = sA U o0 30 (va_up (uA U o0 30) (Int32.toNatClampNeg x1) (-1)) → vp_in x1 48 ∧ ∀ (U_31 : Um), U_31 = sA U_30 o0 31 (va_up (uA U_30 o0 31) (Int32.toNatClampNeg x1) (-1)) → ∀ (x1_32 : Int32), x1_32 = x1 + 1 → rec_ x1_32 U_31)
def w_X12_takesOver_L310 (o0 : Nat) (post : Um → Prop) (k_336 : Um → Prop) (n_ : Nat) : Int32 → Um → Prop := Nat.rec (motive := fun _ => Int32 → Um → Prop) (fun _ _ => False) (fun _ ih => b_X12_takesOver_L310 o0 post k_336 ih) n_
def w_X12_takesOver (o : Nat) (U : Um) (post : Um → Prop) : Prop :=
  (∃ n_45, w_X12_takesOver_L2 o post (fun U_3 => (∃ n_44, w_X12_takesOver_L31 o post (fun U_6 => (∃ n_43, w_X12_takesOver_L60 o post (fun U_9 => (∃ n_42, w_X12_takesOver_L89 o post (fun U_12 => (∃ n_41, w_X12_takesOver_L118 o post (fun U_15 => ∀ (U_16 : Um), U_16 = sI U_15 o 14 (uI U_15 o 15) → (∃ n_40, w_X12_takesOver_L157 o post (fun U_20 => (∃ n_39, w_X12_takesOver_L205 o post (fun U_29 => (∃ n_38, w_X12_takesOver_L310 o post (fun U_33 => ∀ (U_34 : Um), U_34 = sI U_33 o 35 (-1) → ∀ (U_35 : Um), U_35 = sI U_34 o 38 0 → w_X12_laysWays o U_35 (fun U_36 => post U_36)) n_38 0 U_29)) n_39 0 U_20)) n_40 0 U_16)) n_41 0 U_12)) n_42 0 U_9)) n_43 0 U_6)) n_44 0 U_3)) n_45 0 U)
set_option maxHeartbeats 4000000 in
theorem tl_X12_takesOver_L2 {l : Launch} {Y : px_Y} {X : px_X} {h0 hh : pe_H} {sz : Nat} (o0 : Nat) (post : Um → Prop) (k_29 : Um → Prop) (ho0 : oc o0 = 10)  (hC : px_C X Y.1 (pm_A hh sz) cX12_takesOver RX12 2) (hM : px_M l X Y.1 hh sz yX12_takesOver cX12_takesOver 2 none 1 0 0) (hR : X.2.2.2.1 = pm_rm 1 0 0) (hk_29 : ∀ (U : Um) (h : pe_H), k_29 U → rF Y h0 U h → pw X Y.1 (pm_A hh sz) (pm_E X Y.1 hh sz 0 0 (pm_P Y h0 sz (pq_v post))) 29 [some (.ref (Y.2.1 o0)), none] [] h sz 0 0) : ∀ (n_ : Nat) (x1 : Int32) (U : Um) (h : pe_H), rF Y h0 U h → w_X12_takesOver_L2 o0 post k_29 n_ x1 U → pw X Y.1 (pm_A hh sz) (pm_E X Y.1 hh sz 0 0 (pm_P Y h0 sz (pq_v post))) 2 [some (.ref (Y.2.1 o0)), some (.int x1)] [] h sz 0 0 := by
  intro n_
  induction n_ with
  | zero => intro x1 U h hU H; exact False.elim H
  | succ n_ ih =>
    intro x1 U h hU H
    replace H : b_X12_takesOver_L2 o0 post k_29 (w_X12_takesOver_L2 o0 post k_29 n_) x1 U := H
    unfold b_X12_takesOver_L2 at H
    refine pr_iload_n hC (by decide +kernel : decode cX12_takesOver 2 = .ok (.iload_n 1, 1)) rfl ?_
    refine pr_bipush hC (7) (by decide +kernel : decode cX12_takesOver 3 = .ok (.bipush 7, 2)) rfl ?_
    refine pr_icmp_ge hC 29 (by decide +kernel : decode cX12_takesOver 5 = .ok (.if_icmp .ge 24, 3)) (by decide) (fun c_5 => ?_) (fun c_5 => ?_)
    · replace H := H.1 c_5
      exact pv_sub [some (.ref (Y.2.1 o0)), none] (And.intro rfl trivial) (hk_29 U h H hU)
    replace H := H.2 c_5
    refine pr_aload_n hC (by decide +kernel : decode cX12_takesOver 8 = .ok (.aload_n 0, 1)) rfl ?_
    refine pu_g1 hC fg_X12_43 (by decide +kernel : decode cX12_takesOver 9 = .ok (.getfield 43, 3)) hU ho0 (by decide) rfl (by decide) ?_
    refine pr_iload_n hC (by decide +kernel : decode cX12_takesOver 12 = .ok (.iload_n 1, 1)) rfl ?_
    refine pr_aload_n hC (by decide +kernel : decode cX12_takesOver 13 = .ok (.aload_n 0, 1)) rfl ?_
    refine pu_g1 hC fg_X12_43 (by decide +kernel : decode cX12_takesOver 14 = .ok (.getfield 43, 3)) hU ho0 (by decide) rfl (by decide) ?_
    refine pr_bipush hC (7) (by decide +kernel : decode cX12_takesOver 17 = .ok (.bipush 7, 2)) rfl ?_
    refine pr_iload_n hC (by decide +kernel : decode cX12_takesOver 19 = .ok (.iload_n 1, 1)) rfl ?_
    refine pr_iadd hC (by decide +kernel : decode cX12_takesOver 20 = .ok (.iadd, 1)) ?_
    refine pu_iald hC (by decide +kernel : decode cX12_takesOver 21 = .ok (.iaload, 1)) hU ho0 rfl H.1 ?_
    replace H := H.2
    refine pv_iast hC (by decide +kernel : decode cX12_takesOver 22 = .ok (.iastore, 1)) hU ho0 rfl H.1 (fun U_1 h e_U_1 hU => ?_)
    replace H := H.2 U_1 e_U_1
    refine pv_iinc hC (v := x1 + 1) (by decide +kernel : decode cX12_takesOver 23 = .ok (.iinc 1 1, 3)) rfl (by decide) rfl rfl (fun x1_2 e_x1_2 => ?_)
    replace H := H x1_2 e_x1_2
    refine pr_goto hC 2 (by decide +kernel : decode cX12_takesOver 26 = .ok (.goto (-24), 3)) (by decide) ?_
    exact pv_sub [some (.ref (Y.2.1 o0)), some (.int x1_2)] (And.intro rfl (And.intro rfl trivial)) (ih _ U_1 h hU H)
set_option maxHeartbeats 4000000 in
theorem tl_X12_takesOver_L31 {l : Launch} {Y : px_Y} {X : px_X} {h0 hh : pe_H} {sz : Nat} (o0 : Nat) (post : Um → Prop) (k_58 : Um → Prop) (ho0 : oc o0 = 10)  (hC : px_C X Y.1 (pm_A hh sz) cX12_takesOver RX12 2) (hM : px_M l X Y.1 hh sz yX12_takesOver cX12_takesOver 2 none 1 0 0) (hR : X.2.2.2.1 = pm_rm 1 0 0) (hk_58 : ∀ (U : Um) (h : pe_H), k_58 U → rF Y h0 U h → pw X Y.1 (pm_A hh sz) (pm_E X Y.1 hh sz 0 0 (pm_P Y h0 sz (pq_v post))) 58 [some (.ref (Y.2.1 o0)), none] [] h sz 0 0) : ∀ (n_ : Nat) (x1 : Int32) (U : Um) (h : pe_H), rF Y h0 U h → w_X12_takesOver_L31 o0 post k_58 n_ x1 U → pw X Y.1 (pm_A hh sz) (pm_E X Y.1 hh sz 0 0 (pm_P Y h0 sz (pq_v post))) 31 [some (.ref (Y.2.1 o0)), some (.int x1)] [] h sz 0 0 := by
  intro n_
  induction n_ with
  | zero => intro x1 U h hU H; exact False.elim H
  | succ n_ ih =>
    intro x1 U h hU H
    replace H : b_X12_takesOver_L31 o0 post k_58 (w_X12_takesOver_L31 o0 post k_58 n_) x1 U := H
    unfold b_X12_takesOver_L31 at H
    refine pr_iload_n hC (by decide +kernel : decode cX12_takesOver 31 = .ok (.iload_n 1, 1)) rfl ?_
    refine pr_bipush hC (6) (by decide +kernel : decode cX12_takesOver 32 = .ok (.bipush 6, 2)) rfl ?_
    refine pr_icmp_ge hC 58 (by decide +kernel : decode cX12_takesOver 34 = .ok (.if_icmp .ge 24, 3)) (by decide) (fun c_34 => ?_) (fun c_34 => ?_)
    · replace H := H.1 c_34
      exact pv_sub [some (.ref (Y.2.1 o0)), none] (And.intro rfl trivial) (hk_58 U h H hU)
    replace H := H.2 c_34
    refine pr_aload_n hC (by decide +kernel : decode cX12_takesOver 37 = .ok (.aload_n 0, 1)) rfl ?_
    refine pu_g1 hC fg_X12_9 (by decide +kernel : decode cX12_takesOver 38 = .ok (.getfield 9, 3)) hU ho0 (by decide) rfl (by decide) ?_
    refine pr_iload_n hC (by decide +kernel : decode cX12_takesOver 41 = .ok (.iload_n 1, 1)) rfl ?_
    refine pr_aload_n hC (by decide +kernel : decode cX12_takesOver 42 = .ok (.aload_n 0, 1)) rfl ?_
    refine pu_g1 hC fg_X12_9 (by decide +kernel : decode cX12_takesOver 43 = .ok (.getfield 9, 3)) hU ho0 (by decide) rfl (by decide) ?_
    refine pr_bipush hC (6) (by decide +kernel : decode cX12_takesOver 46 = .ok (.bipush 6, 2)) rfl ?_
    refine pr_iload_n hC (by decide +kernel : decode cX12_takesOver 48 = .ok (.iload_n 1, 1)) rfl ?_
    refine pr_iadd hC (by decide +kernel : decode cX12_takesOver 49 = .ok (.iadd, 1)) ?_
    refine pu_lald hC (by decide +kernel : decode cX12_takesOver 50 = .ok (.laload, 1)) hU ho0 rfl H.1 ?_
    replace H := H.2
    refine pv_last hC (by decide +kernel : decode cX12_takesOver 51 = .ok (.lastore, 1)) hU ho0 rfl H.1 (fun U_4 h e_U_4 hU => ?_)
    replace H := H.2 U_4 e_U_4
    refine pv_iinc hC (v := x1 + 1) (by decide +kernel : decode cX12_takesOver 52 = .ok (.iinc 1 1, 3)) rfl (by decide) rfl rfl (fun x1_5 e_x1_5 => ?_)
    replace H := H x1_5 e_x1_5
    refine pr_goto hC 31 (by decide +kernel : decode cX12_takesOver 55 = .ok (.goto (-24), 3)) (by decide) ?_
    exact pv_sub [some (.ref (Y.2.1 o0)), some (.int x1_5)] (And.intro rfl (And.intro rfl trivial)) (ih _ U_4 h hU H)
set_option maxHeartbeats 4000000 in
theorem tl_X12_takesOver_L60 {l : Launch} {Y : px_Y} {X : px_X} {h0 hh : pe_H} {sz : Nat} (o0 : Nat) (post : Um → Prop) (k_87 : Um → Prop) (ho0 : oc o0 = 10)  (hC : px_C X Y.1 (pm_A hh sz) cX12_takesOver RX12 2) (hM : px_M l X Y.1 hh sz yX12_takesOver cX12_takesOver 2 none 1 0 0) (hR : X.2.2.2.1 = pm_rm 1 0 0) (hk_87 : ∀ (U : Um) (h : pe_H), k_87 U → rF Y h0 U h → pw X Y.1 (pm_A hh sz) (pm_E X Y.1 hh sz 0 0 (pm_P Y h0 sz (pq_v post))) 87 [some (.ref (Y.2.1 o0)), none] [] h sz 0 0) : ∀ (n_ : Nat) (x1 : Int32) (U : Um) (h : pe_H), rF Y h0 U h → w_X12_takesOver_L60 o0 post k_87 n_ x1 U → pw X Y.1 (pm_A hh sz) (pm_E X Y.1 hh sz 0 0 (pm_P Y h0 sz (pq_v post))) 60 [some (.ref (Y.2.1 o0)), some (.int x1)] [] h sz 0 0 := by
  intro n_
  induction n_ with
  | zero => intro x1 U h hU H; exact False.elim H
  | succ n_ ih =>
    intro x1 U h hU H
    replace H : b_X12_takesOver_L60 o0 post k_87 (w_X12_takesOver_L60 o0 post k_87 n_) x1 U := H
    unfold b_X12_takesOver_L60 at H
    refine pr_iload_n hC (by decide +kernel : decode cX12_takesOver 60 = .ok (.iload_n 1, 1)) rfl ?_
    refine pr_bipush hC (36) (by decide +kernel : decode cX12_takesOver 61 = .ok (.bipush 36, 2)) rfl ?_
    refine pr_icmp_ge hC 87 (by decide +kernel : decode cX12_takesOver 63 = .ok (.if_icmp .ge 24, 3)) (by decide) (fun c_63 => ?_) (fun c_63 => ?_)
    · replace H := H.1 c_63
      exact pv_sub [some (.ref (Y.2.1 o0)), none] (And.intro rfl trivial) (hk_87 U h H hU)
    replace H := H.2 c_63
    refine pr_aload_n hC (by decide +kernel : decode cX12_takesOver 66 = .ok (.aload_n 0, 1)) rfl ?_
    refine pu_g1 hC fg_X12_15 (by decide +kernel : decode cX12_takesOver 67 = .ok (.getfield 15, 3)) hU ho0 (by decide) rfl (by decide) ?_
    refine pr_iload_n hC (by decide +kernel : decode cX12_takesOver 70 = .ok (.iload_n 1, 1)) rfl ?_
    refine pr_aload_n hC (by decide +kernel : decode cX12_takesOver 71 = .ok (.aload_n 0, 1)) rfl ?_
    refine pu_g1 hC fg_X12_15 (by decide +kernel : decode cX12_takesOver 72 = .ok (.getfield 15, 3)) hU ho0 (by decide) rfl (by decide) ?_
    refine pr_bipush hC (36) (by decide +kernel : decode cX12_takesOver 75 = .ok (.bipush 36, 2)) rfl ?_
    refine pr_iload_n hC (by decide +kernel : decode cX12_takesOver 77 = .ok (.iload_n 1, 1)) rfl ?_
    refine pr_iadd hC (by decide +kernel : decode cX12_takesOver 78 = .ok (.iadd, 1)) ?_
    refine pu_iald hC (by decide +kernel : decode cX12_takesOver 79 = .ok (.iaload, 1)) hU ho0 rfl H.1 ?_
    replace H := H.2
    refine pv_iast hC (by decide +kernel : decode cX12_takesOver 80 = .ok (.iastore, 1)) hU ho0 rfl H.1 (fun U_7 h e_U_7 hU => ?_)
    replace H := H.2 U_7 e_U_7
    refine pv_iinc hC (v := x1 + 1) (by decide +kernel : decode cX12_takesOver 81 = .ok (.iinc 1 1, 3)) rfl (by decide) rfl rfl (fun x1_8 e_x1_8 => ?_)
    replace H := H x1_8 e_x1_8
    refine pr_goto hC 60 (by decide +kernel : decode cX12_takesOver 84 = .ok (.goto (-24), 3)) (by decide) ?_
    exact pv_sub [some (.ref (Y.2.1 o0)), some (.int x1_8)] (And.intro rfl (And.intro rfl trivial)) (ih _ U_7 h hU H)
set_option maxHeartbeats 4000000 in
theorem tl_X12_takesOver_L89 {l : Launch} {Y : px_Y} {X : px_X} {h0 hh : pe_H} {sz : Nat} (o0 : Nat) (post : Um → Prop) (k_116 : Um → Prop) (ho0 : oc o0 = 10)  (hC : px_C X Y.1 (pm_A hh sz) cX12_takesOver RX12 2) (hM : px_M l X Y.1 hh sz yX12_takesOver cX12_takesOver 2 none 1 0 0) (hR : X.2.2.2.1 = pm_rm 1 0 0) (hk_116 : ∀ (U : Um) (h : pe_H), k_116 U → rF Y h0 U h → pw X Y.1 (pm_A hh sz) (pm_E X Y.1 hh sz 0 0 (pm_P Y h0 sz (pq_v post))) 116 [some (.ref (Y.2.1 o0)), none] [] h sz 0 0) : ∀ (n_ : Nat) (x1 : Int32) (U : Um) (h : pe_H), rF Y h0 U h → w_X12_takesOver_L89 o0 post k_116 n_ x1 U → pw X Y.1 (pm_A hh sz) (pm_E X Y.1 hh sz 0 0 (pm_P Y h0 sz (pq_v post))) 89 [some (.ref (Y.2.1 o0)), some (.int x1)] [] h sz 0 0 := by
  intro n_
  induction n_ with
  | zero => intro x1 U h hU H; exact False.elim H
  | succ n_ ih =>
    intro x1 U h hU H
    replace H : b_X12_takesOver_L89 o0 post k_116 (w_X12_takesOver_L89 o0 post k_116 n_) x1 U := H
    unfold b_X12_takesOver_L89 at H
    refine pr_iload_n hC (by decide +kernel : decode cX12_takesOver 89 = .ok (.iload_n 1, 1)) rfl ?_
    refine pr_bipush hC (8) (by decide +kernel : decode cX12_takesOver 90 = .ok (.bipush 8, 2)) rfl ?_
    refine pr_icmp_ge hC 116 (by decide +kernel : decode cX12_takesOver 92 = .ok (.if_icmp .ge 24, 3)) (by decide) (fun c_92 => ?_) (fun c_92 => ?_)
    · replace H := H.1 c_92
      exact pv_sub [some (.ref (Y.2.1 o0)), none] (And.intro rfl trivial) (hk_116 U h H hU)
    replace H := H.2 c_92
    refine pr_aload_n hC (by decide +kernel : decode cX12_takesOver 95 = .ok (.aload_n 0, 1)) rfl ?_
    refine pu_g1 hC fg_X12_22 (by decide +kernel : decode cX12_takesOver 96 = .ok (.getfield 22, 3)) hU ho0 (by decide) rfl (by decide) ?_
    refine pr_iload_n hC (by decide +kernel : decode cX12_takesOver 99 = .ok (.iload_n 1, 1)) rfl ?_
    refine pr_aload_n hC (by decide +kernel : decode cX12_takesOver 100 = .ok (.aload_n 0, 1)) rfl ?_
    refine pu_g1 hC fg_X12_22 (by decide +kernel : decode cX12_takesOver 101 = .ok (.getfield 22, 3)) hU ho0 (by decide) rfl (by decide) ?_
    refine pr_bipush hC (8) (by decide +kernel : decode cX12_takesOver 104 = .ok (.bipush 8, 2)) rfl ?_
    refine pr_iload_n hC (by decide +kernel : decode cX12_takesOver 106 = .ok (.iload_n 1, 1)) rfl ?_
    refine pr_iadd hC (by decide +kernel : decode cX12_takesOver 107 = .ok (.iadd, 1)) ?_
    refine pu_lald hC (by decide +kernel : decode cX12_takesOver 108 = .ok (.laload, 1)) hU ho0 rfl H.1 ?_
    replace H := H.2
    refine pv_last hC (by decide +kernel : decode cX12_takesOver 109 = .ok (.lastore, 1)) hU ho0 rfl H.1 (fun U_10 h e_U_10 hU => ?_)
    replace H := H.2 U_10 e_U_10
    refine pv_iinc hC (v := x1 + 1) (by decide +kernel : decode cX12_takesOver 110 = .ok (.iinc 1 1, 3)) rfl (by decide) rfl rfl (fun x1_11 e_x1_11 => ?_)
    replace H := H x1_11 e_x1_11
    refine pr_goto hC 89 (by decide +kernel : decode cX12_takesOver 113 = .ok (.goto (-24), 3)) (by decide) ?_
    exact pv_sub [some (.ref (Y.2.1 o0)), some (.int x1_11)] (And.intro rfl (And.intro rfl trivial)) (ih _ U_10 h hU H)
set_option maxHeartbeats 4000000 in
theorem tl_X12_takesOver_L118 {l : Launch} {Y : px_Y} {X : px_X} {h0 hh : pe_H} {sz : Nat} (o0 : Nat) (post : Um → Prop) (k_147 : Um → Prop) (ho0 : oc o0 = 10)  (hC : px_C X Y.1 (pm_A hh sz) cX12_takesOver RX12 2) (hM : px_M l X Y.1 hh sz yX12_takesOver cX12_takesOver 2 none 1 0 0) (hR : X.2.2.2.1 = pm_rm 1 0 0) (hk_147 : ∀ (U : Um) (h : pe_H), k_147 U → rF Y h0 U h → pw X Y.1 (pm_A hh sz) (pm_E X Y.1 hh sz 0 0 (pm_P Y h0 sz (pq_v post))) 147 [some (.ref (Y.2.1 o0)), none] [] h sz 0 0) : ∀ (n_ : Nat) (x1 : Int32) (U : Um) (h : pe_H), rF Y h0 U h → w_X12_takesOver_L118 o0 post k_147 n_ x1 U → pw X Y.1 (pm_A hh sz) (pm_E X Y.1 hh sz 0 0 (pm_P Y h0 sz (pq_v post))) 118 [some (.ref (Y.2.1 o0)), some (.int x1)] [] h sz 0 0 := by
  intro n_
  induction n_ with
  | zero => intro x1 U h hU H; exact False.elim H
  | succ n_ ih =>
    intro x1 U h hU H
    replace H : b_X12_takesOver_L118 o0 post k_147 (w_X12_takesOver_L118 o0 post k_147 n_) x1 U := H
    unfold b_X12_takesOver_L118 at H
    refine pr_iload_n hC (by decide +kernel : decode cX12_takesOver 118 = .ok (.iload_n 1, 1)) rfl ?_
    refine pr_sipush hC (128) (by decide +kernel : decode cX12_takesOver 119 = .ok (.sipush 128, 3)) rfl ?_
    refine pr_icmp_ge hC 147 (by decide +kernel : decode cX12_takesOver 122 = .ok (.if_icmp .ge 25, 3)) (by decide) (fun c_122 => ?_) (fun c_122 => ?_)
    · replace H := H.1 c_122
      exact pv_sub [some (.ref (Y.2.1 o0)), none] (And.intro rfl trivial) (hk_147 U h H hU)
    replace H := H.2 c_122
    refine pr_aload_n hC (by decide +kernel : decode cX12_takesOver 125 = .ok (.aload_n 0, 1)) rfl ?_
    refine pu_g1 hC fg_X12_40 (by decide +kernel : decode cX12_takesOver 126 = .ok (.getfield 40, 3)) hU ho0 (by decide) rfl (by decide) ?_
    refine pr_iload_n hC (by decide +kernel : decode cX12_takesOver 129 = .ok (.iload_n 1, 1)) rfl ?_
    refine pr_aload_n hC (by decide +kernel : decode cX12_takesOver 130 = .ok (.aload_n 0, 1)) rfl ?_
    refine pu_g1 hC fg_X12_40 (by decide +kernel : decode cX12_takesOver 131 = .ok (.getfield 40, 3)) hU ho0 (by decide) rfl (by decide) ?_
    refine pr_sipush hC (128) (by decide +kernel : decode cX12_takesOver 134 = .ok (.sipush 128, 3)) rfl ?_
    refine pr_iload_n hC (by decide +kernel : decode cX12_takesOver 137 = .ok (.iload_n 1, 1)) rfl ?_
    refine pr_iadd hC (by decide +kernel : decode cX12_takesOver 138 = .ok (.iadd, 1)) ?_
    refine pu_iald hC (by decide +kernel : decode cX12_takesOver 139 = .ok (.iaload, 1)) hU ho0 rfl H.1 ?_
    replace H := H.2
    refine pv_iast hC (by decide +kernel : decode cX12_takesOver 140 = .ok (.iastore, 1)) hU ho0 rfl H.1 (fun U_13 h e_U_13 hU => ?_)
    replace H := H.2 U_13 e_U_13
    refine pv_iinc hC (v := x1 + 1) (by decide +kernel : decode cX12_takesOver 141 = .ok (.iinc 1 1, 3)) rfl (by decide) rfl rfl (fun x1_14 e_x1_14 => ?_)
    replace H := H x1_14 e_x1_14
    refine pr_goto hC 118 (by decide +kernel : decode cX12_takesOver 144 = .ok (.goto (-26), 3)) (by decide) ?_
    exact pv_sub [some (.ref (Y.2.1 o0)), some (.int x1_14)] (And.intro rfl (And.intro rfl trivial)) (ih _ U_13 h hU H)
set_option maxHeartbeats 4000000 in
theorem tl_X12_takesOver_L157 {l : Launch} {Y : px_Y} {X : px_X} {h0 hh : pe_H} {sz : Nat} (o0 : Nat) (post : Um → Prop) (k_203 : Um → Prop) (ho0 : oc o0 = 10)  (hC : px_C X Y.1 (pm_A hh sz) cX12_takesOver RX12 2) (hM : px_M l X Y.1 hh sz yX12_takesOver cX12_takesOver 2 none 1 0 0) (hR : X.2.2.2.1 = pm_rm 1 0 0) (hk_203 : ∀ (U : Um) (h : pe_H), k_203 U → rF Y h0 U h → pw X Y.1 (pm_A hh sz) (pm_E X Y.1 hh sz 0 0 (pm_P Y h0 sz (pq_v post))) 203 [some (.ref (Y.2.1 o0)), none] [] h sz 0 0) : ∀ (n_ : Nat) (x1 : Int32) (U : Um) (h : pe_H), rF Y h0 U h → w_X12_takesOver_L157 o0 post k_203 n_ x1 U → pw X Y.1 (pm_A hh sz) (pm_E X Y.1 hh sz 0 0 (pm_P Y h0 sz (pq_v post))) 157 [some (.ref (Y.2.1 o0)), some (.int x1)] [] h sz 0 0 := by
  intro n_
  induction n_ with
  | zero => intro x1 U h hU H; exact False.elim H
  | succ n_ ih =>
    intro x1 U h hU H
    replace H : b_X12_takesOver_L157 o0 post k_203 (w_X12_takesOver_L157 o0 post k_203 n_) x1 U := H
    unfold b_X12_takesOver_L157 at H
    refine pr_iload_n hC (by decide +kernel : decode cX12_takesOver 157 = .ok (.iload_n 1, 1)) rfl ?_
    refine pr_aload_n hC (by decide +kernel : decode cX12_takesOver 158 = .ok (.aload_n 0, 1)) rfl ?_
    refine pu_g0 hC fg_X12_340 (by decide +kernel : decode cX12_takesOver 159 = .ok (.getfield 340, 3)) hU ho0 (by decide) rfl rfl ?_
    refine pr_icmp_ge hC 203 (by decide +kernel : decode cX12_takesOver 162 = .ok (.if_icmp .ge 41, 3)) (by decide) (fun c_162 => ?_) (fun c_162 => ?_)
    · replace H := H.1 c_162
      exact pv_sub [some (.ref (Y.2.1 o0)), none] (And.intro rfl trivial) (hk_203 U h H hU)
    replace H := H.2 c_162
    refine pr_aload_n hC (by decide +kernel : decode cX12_takesOver 165 = .ok (.aload_n 0, 1)) rfl ?_
    refine pu_g1 hC fg_X12_46 (by decide +kernel : decode cX12_takesOver 166 = .ok (.getfield 46, 3)) hU ho0 (by decide) rfl (by decide) ?_
    refine pr_iload_n hC (by decide +kernel : decode cX12_takesOver 169 = .ok (.iload_n 1, 1)) rfl ?_
    refine pr_aload_n hC (by decide +kernel : decode cX12_takesOver 170 = .ok (.aload_n 0, 1)) rfl ?_
    refine pu_g1 hC fg_X12_46 (by decide +kernel : decode cX12_takesOver 171 = .ok (.getfield 46, 3)) hU ho0 (by decide) rfl (by decide) ?_
    refine pr_sipush hC (1300) (by decide +kernel : decode cX12_takesOver 174 = .ok (.sipush 1300, 3)) rfl ?_
    refine pr_iload_n hC (by decide +kernel : decode cX12_takesOver 177 = .ok (.iload_n 1, 1)) rfl ?_
    refine pr_iadd hC (by decide +kernel : decode cX12_takesOver 178 = .ok (.iadd, 1)) ?_
    refine pu_iald hC (by decide +kernel : decode cX12_takesOver 179 = .ok (.iaload, 1)) hU ho0 rfl H.1 ?_
    replace H := H.2
    refine pv_iast hC (by decide +kernel : decode cX12_takesOver 180 = .ok (.iastore, 1)) hU ho0 rfl H.1 (fun U_17 h e_U_17 hU => ?_)
    replace H := H.2 U_17 e_U_17
    refine pr_aload_n hC (by decide +kernel : decode cX12_takesOver 181 = .ok (.aload_n 0, 1)) rfl ?_
    refine pu_g1 hC fg_X12_49 (by decide +kernel : decode cX12_takesOver 182 = .ok (.getfield 49, 3)) hU ho0 (by decide) rfl (by decide) ?_
    refine pr_iload_n hC (by decide +kernel : decode cX12_takesOver 185 = .ok (.iload_n 1, 1)) rfl ?_
    refine pr_aload_n hC (by decide +kernel : decode cX12_takesOver 186 = .ok (.aload_n 0, 1)) rfl ?_
    refine pu_g1 hC fg_X12_49 (by decide +kernel : decode cX12_takesOver 187 = .ok (.getfield 49, 3)) hU ho0 (by decide) rfl (by decide) ?_
    refine pr_sipush hC (1300) (by decide +kernel : decode cX12_takesOver 190 = .ok (.sipush 1300, 3)) rfl ?_
    refine pr_iload_n hC (by decide +kernel : decode cX12_takesOver 193 = .ok (.iload_n 1, 1)) rfl ?_
    refine pr_iadd hC (by decide +kernel : decode cX12_takesOver 194 = .ok (.iadd, 1)) ?_
    refine pu_iald hC (by decide +kernel : decode cX12_takesOver 195 = .ok (.iaload, 1)) hU ho0 rfl H.1 ?_
    replace H := H.2
    refine pv_iast hC (by decide +kernel : decode cX12_takesOver 196 = .ok (.iastore, 1)) hU ho0 rfl H.1 (fun U_18 h e_U_18 hU => ?_)
    replace H := H.2 U_18 e_U_18
    refine pv_iinc hC (v := x1 + 1) (by decide +kernel : decode cX12_takesOver 197 = .ok (.iinc 1 1, 3)) rfl (by decide) rfl rfl (fun x1_19 e_x1_19 => ?_)
    replace H := H x1_19 e_x1_19
    refine pr_goto hC 157 (by decide +kernel : decode cX12_takesOver 200 = .ok (.goto (-43), 3)) (by decide) ?_
    exact pv_sub [some (.ref (Y.2.1 o0)), some (.int x1_19)] (And.intro rfl (And.intro rfl trivial)) (ih _ U_18 h hU H)
set_option maxHeartbeats 4000000 in
theorem tl_X12_takesOver_L205 {l : Launch} {Y : px_Y} {X : px_X} {h0 hh : pe_H} {sz : Nat} (o0 : Nat) (post : Um → Prop) (k_308 : Um → Prop) (ho0 : oc o0 = 10)  (hC : px_C X Y.1 (pm_A hh sz) cX12_takesOver RX12 2) (hM : px_M l X Y.1 hh sz yX12_takesOver cX12_takesOver 2 none 1 0 0) (hR : X.2.2.2.1 = pm_rm 1 0 0) (hk_308 : ∀ (U : Um) (h : pe_H), k_308 U → rF Y h0 U h → pw X Y.1 (pm_A hh sz) (pm_E X Y.1 hh sz 0 0 (pm_P Y h0 sz (pq_v post))) 308 [some (.ref (Y.2.1 o0)), none] [] h sz 0 0) : ∀ (n_ : Nat) (x1 : Int32) (U : Um) (h : pe_H), rF Y h0 U h → w_X12_takesOver_L205 o0 post k_308 n_ x1 U → pw X Y.1 (pm_A hh sz) (pm_E X Y.1 hh sz 0 0 (pm_P Y h0 sz (pq_v post))) 205 [some (.ref (Y.2.1 o0)), some (.int x1)] [] h sz 0 0 := by
  intro n_
  induction n_ with
  | zero => intro x1 U h hU H; exact False.elim H
  | succ n_ ih =>
    intro x1 U h hU H
    replace H : b_X12_takesOver_L205 o0 post k_308 (w_X12_takesOver_L205 o0 post k_308 n_) x1 U := H
    unfold b_X12_takesOver_L205 at H
    refine pr_iload_n hC (by decide +kernel : decode cX12_takesOver 205 = .ok (.iload_n 1, 1)) rfl ?_
    refine pr_bipush hC (10) (by decide +kernel : decode cX12_takesOver 206 = .ok (.bipush 10, 2)) rfl ?_
    refine pr_icmp_ge hC 308 (by decide +kernel : decode cX12_takesOver 208 = .ok (.if_icmp .ge 100, 3)) (by decide) (fun c_208 => ?_) (fun c_208 => ?_)
    · replace H := H.1 c_208
      exact pv_sub [some (.ref (Y.2.1 o0)), none] (And.intro rfl trivial) (hk_308 U h H hU)
    replace H := H.2 c_208
    refine pr_aload_n hC (by decide +kernel : decode cX12_takesOver 211 = .ok (.aload_n 0, 1)) rfl ?_
    refine pu_g1 hC fg_X12_25 (by decide +kernel : decode cX12_takesOver 212 = .ok (.getfield 25, 3)) hU ho0 (by decide) rfl (by decide) ?_
    refine pr_iload_n hC (by decide +kernel : decode cX12_takesOver 215 = .ok (.iload_n 1, 1)) rfl ?_
    refine pr_aload_n hC (by decide +kernel : decode cX12_takesOver 216 = .ok (.aload_n 0, 1)) rfl ?_
    refine pu_g1 hC fg_X12_25 (by decide +kernel : decode cX12_takesOver 217 = .ok (.getfield 25, 3)) hU ho0 (by decide) rfl (by decide) ?_
    refine pr_bipush hC (10) (by decide +kernel : decode cX12_takesOver 220 = .ok (.bipush 10, 2)) rfl ?_
    refine pr_iload_n hC (by decide +kernel : decode cX12_takesOver 222 = .ok (.iload_n 1, 1)) rfl ?_
    refine pr_iadd hC (by decide +kernel : decode cX12_takesOver 223 = .ok (.iadd, 1)) ?_
    refine pu_lald hC (by decide +kernel : decode cX12_takesOver 224 = .ok (.laload, 1)) hU ho0 rfl H.1 ?_
    replace H := H.2
    refine pv_last hC (by decide +kernel : decode cX12_takesOver 225 = .ok (.lastore, 1)) hU ho0 rfl H.1 (fun U_21 h e_U_21 hU => ?_)
    replace H := H.2 U_21 e_U_21
    refine pr_aload_n hC (by decide +kernel : decode cX12_takesOver 226 = .ok (.aload_n 0, 1)) rfl ?_
    refine pu_g1 hC fg_X12_28 (by decide +kernel : decode cX12_takesOver 227 = .ok (.getfield 28, 3)) hU ho0 (by decide) rfl (by decide) ?_
    refine pr_iload_n hC (by decide +kernel : decode cX12_takesOver 230 = .ok (.iload_n 1, 1)) rfl ?_
    refine pr_aload_n hC (by decide +kernel : decode cX12_takesOver 231 = .ok (.aload_n 0, 1)) rfl ?_
    refine pu_g1 hC fg_X12_28 (by decide +kernel : decode cX12_takesOver 232 = .ok (.getfield 28, 3)) hU ho0 (by decide) rfl (by decide) ?_
    refine pr_bipush hC (10) (by decide +kernel : decode cX12_takesOver 235 = .ok (.bipush 10, 2)) rfl ?_
    refine pr_iload_n hC (by decide +kernel : decode cX12_takesOver 237 = .ok (.iload_n 1, 1)) rfl ?_
    refine pr_iadd hC (by decide +kernel : decode cX12_takesOver 238 = .ok (.iadd, 1)) ?_
    refine pu_iald hC (by decide +kernel : decode cX12_takesOver 239 = .ok (.iaload, 1)) hU ho0 rfl H.1 ?_
    replace H := H.2
    refine pv_iast hC (by decide +kernel : decode cX12_takesOver 240 = .ok (.iastore, 1)) hU ho0 rfl H.1 (fun U_22 h e_U_22 hU => ?_)
    replace H := H.2 U_22 e_U_22
    refine pr_aload_n hC (by decide +kernel : decode cX12_takesOver 241 = .ok (.aload_n 0, 1)) rfl ?_
    refine pu_g1 hC fg_X12_31 (by decide +kernel : decode cX12_takesOver 242 = .ok (.getfield 31, 3)) hU ho0 (by decide) rfl (by decide) ?_
    refine pr_iload_n hC (by decide +kernel : decode cX12_takesOver 245 = .ok (.iload_n 1, 1)) rfl ?_
    refine pr_aload_n hC (by decide +kernel : decode cX12_takesOver 246 = .ok (.aload_n 0, 1)) rfl ?_
    refine pu_g1 hC fg_X12_31 (by decide +kernel : decode cX12_takesOver 247 = .ok (.getfield 31, 3)) hU ho0 (by decide) rfl (by decide) ?_
    refine pr_bipush hC (10) (by decide +kernel : decode cX12_takesOver 250 = .ok (.bipush 10, 2)) rfl ?_
    refine pr_iload_n hC (by decide +kernel : decode cX12_takesOver 252 = .ok (.iload_n 1, 1)) rfl ?_
    refine pr_iadd hC (by decide +kernel : decode cX12_takesOver 253 = .ok (.iadd, 1)) ?_
    refine pu_iald hC (by decide +kernel : decode cX12_takesOver 254 = .ok (.iaload, 1)) hU ho0 rfl H.1 ?_
    replace H := H.2
    refine pv_iast hC (by decide +kernel : decode cX12_takesOver 255 = .ok (.iastore, 1)) hU ho0 rfl H.1 (fun U_23 h e_U_23 hU => ?_)
    replace H := H.2 U_23 e_U_23
    refine pr_aload_n hC (by decide +kernel : decode cX12_takesOver 256 = .ok (.aload_n 0, 1)) rfl ?_
    refine pu_g1 hC fg_X12_34 (by decide +kernel : decode cX12_takesOver 257 = .ok (.getfield 34, 3)) hU ho0 (by decide) rfl (by decide) ?_
    refine pr_iload_n hC (by decide +kernel : decode cX12_takesOver 260 = .ok (.iload_n 1, 1)) rfl ?_
    refine pr_aload_n hC (by decide +kernel : decode cX12_takesOver 261 = .ok (.aload_n 0, 1)) rfl ?_
    refine pu_g1 hC fg_X12_34 (by decide +kernel : decode cX12_takesOver 262 = .ok (.getfield 34, 3)) hU ho0 (by decide) rfl (by decide) ?_
    refine pr_bipush hC (10) (by decide +kernel : decode cX12_takesOver 265 = .ok (.bipush 10, 2)) rfl ?_
    refine pr_iload_n hC (by decide +kernel : decode cX12_takesOver 267 = .ok (.iload_n 1, 1)) rfl ?_
    refine pr_iadd hC (by decide +kernel : decode cX12_takesOver 268 = .ok (.iadd, 1)) ?_
    refine pu_iald hC (by decide +kernel : decode cX12_takesOver 269 = .ok (.iaload, 1)) hU ho0 rfl H.1 ?_
    replace H := H.2
    refine pv_iast hC (by decide +kernel : decode cX12_takesOver 270 = .ok (.iastore, 1)) hU ho0 rfl H.1 (fun U_24 h e_U_24 hU => ?_)
    replace H := H.2 U_24 e_U_24
    refine pr_aload_n hC (by decide +kernel : decode cX12_takesOver 271 = .ok (.aload_n 0, 1)) rfl ?_
    refine pu_g1 hC fg_X12_65 (by decide +kernel : decode cX12_takesOver 272 = .ok (.getfield 65, 3)) hU ho0 (by decide) rfl (by decide) ?_
    refine pr_iload_n hC (by decide +kernel : decode cX12_takesOver 275 = .ok (.iload_n 1, 1)) rfl ?_
    refine pr_aload_n hC (by decide +kernel : decode cX12_takesOver 276 = .ok (.aload_n 0, 1)) rfl ?_
    refine pu_g1 hC fg_X12_37 (by decide +kernel : decode cX12_takesOver 277 = .ok (.getfield 37, 3)) hU ho0 (by decide) rfl (by decide) ?_
    refine pr_bipush hC (10) (by decide +kernel : decode cX12_takesOver 280 = .ok (.bipush 10, 2)) rfl ?_
    refine pr_iload_n hC (by decide +kernel : decode cX12_takesOver 282 = .ok (.iload_n 1, 1)) rfl ?_
    refine pr_iadd hC (by decide +kernel : decode cX12_takesOver 283 = .ok (.iadd, 1)) ?_
    refine pu_iald hC (by decide +kernel : decode cX12_takesOver 284 = .ok (.iaload, 1)) hU ho0 rfl H.1 ?_
    replace H := H.2
    refine pv_iast hC (by decide +kernel : decode cX12_takesOver 285 = .ok (.iastore, 1)) hU ho0 rfl H.1 (fun U_25 h e_U_25 hU => ?_)
    replace H := H.2 U_25 e_U_25
    refine pr_aload_n hC (by decide +kernel : decode cX12_takesOver 286 = .ok (.aload_n 0, 1)) rfl ?_
    refine pu_g1 hC fg_X12_68 (by decide +kernel : decode cX12_takesOver 287 = .ok (.getfield 68, 3)) hU ho0 (by decide) rfl (by decide) ?_
    refine pr_iload_n hC (by decide +kernel : decode cX12_takesOver 290 = .ok (.iload_n 1, 1)) rfl ?_
    refine pr_iconst hC (0) (by decide +kernel : decode cX12_takesOver 291 = .ok (.iconst 0, 1)) rfl ?_
    refine pv_iast hC (by decide +kernel : decode cX12_takesOver 292 = .ok (.iastore, 1)) hU ho0 rfl H.1 (fun U_26 h e_U_26 hU => ?_)
    replace H := H.2 U_26 e_U_26
    refine pr_aload_n hC (by decide +kernel : decode cX12_takesOver 293 = .ok (.aload_n 0, 1)) rfl ?_
    refine pu_g1 hC fg_X12_71 (by decide +kernel : decode cX12_takesOver 294 = .ok (.getfield 71, 3)) hU ho0 (by decide) rfl (by decide) ?_
    refine pr_iload_n hC (by decide +kernel : decode cX12_takesOver 297 = .ok (.iload_n 1, 1)) rfl ?_
    refine pr_ldcwf hC (1112014848) (by decide +kernel : decode cX12_takesOver 298 = .ok (.ldc_w 343, 3)) fk_X12_343 ?_
    refine pv_fast hC (by decide +kernel : decode cX12_takesOver 301 = .ok (.fastore, 1)) hU ho0 rfl H.1 (fun U_27 h e_U_27 hU => ?_)
    replace H := H.2 U_27 e_U_27
    refine pv_iinc hC (v := x1 + 1) (by decide +kernel : decode cX12_takesOver 302 = .ok (.iinc 1 1, 3)) rfl (by decide) rfl rfl (fun x1_28 e_x1_28 => ?_)
    replace H := H x1_28 e_x1_28
    refine pr_goto hC 205 (by decide +kernel : decode cX12_takesOver 305 = .ok (.goto (-100), 3)) (by decide) ?_
    exact pv_sub [some (.ref (Y.2.1 o0)), some (.int x1_28)] (And.intro rfl (And.intro rfl trivial)) (ih _ U_27 h hU H)
set_option maxHeartbeats 4000000 in
theorem tl_X12_takesOver_L310 {l : Launch} {Y : px_Y} {X : px_X} {h0 hh : pe_H} {sz : Nat} (o0 : Nat) (post : Um → Prop) (k_336 : Um → Prop) (ho0 : oc o0 = 10)  (hC : px_C X Y.1 (pm_A hh sz) cX12_takesOver RX12 2) (hM : px_M l X Y.1 hh sz yX12_takesOver cX12_takesOver 2 none 1 0 0) (hR : X.2.2.2.1 = pm_rm 1 0 0) (hk_336 : ∀ (U : Um) (h : pe_H), k_336 U → rF Y h0 U h → pw X Y.1 (pm_A hh sz) (pm_E X Y.1 hh sz 0 0 (pm_P Y h0 sz (pq_v post))) 336 [some (.ref (Y.2.1 o0)), none] [] h sz 0 0) : ∀ (n_ : Nat) (x1 : Int32) (U : Um) (h : pe_H), rF Y h0 U h → w_X12_takesOver_L310 o0 post k_336 n_ x1 U → pw X Y.1 (pm_A hh sz) (pm_E X Y.1 hh sz 0 0 (pm_P Y h0 sz (pq_v post))) 310 [some (.ref (Y.2.1 o0)), some (.int x1)] [] h sz 0 0 := by
  intro n_
  induction n_ with
  | zero => intro x1 U h hU H; exact False.elim H
  | succ n_ ih =>
    intro x1 U h hU H
    replace H : b_X12_takesOver_L310 o0 post k_336 (w_X12_takesOver_L310 o0 post k_336 n_) x1 U := H
    unfold b_X12_takesOver_L310 at H
    refine pr_iload_n hC (by decide +kernel : decode cX12_takesOver 310 = .ok (.iload_n 1, 1)) rfl ?_
    refine pr_bipush hC (48) (by decide +kernel : decode cX12_takesOver 311 = .ok (.bipush 48, 2)) rfl ?_
    refine pr_icmp_ge hC 336 (by decide +kernel : decode cX12_takesOver 313 = .ok (.if_icmp .ge 23, 3)) (by decide) (fun c_313 => ?_) (fun c_313 => ?_)
    · replace H := H.1 c_313
      exact pv_sub [some (.ref (Y.2.1 o0)), none] (And.intro rfl trivial) (hk_336 U h H hU)
    replace H := H.2 c_313
    refine pr_aload_n hC (by decide +kernel : decode cX12_takesOver 316 = .ok (.aload_n 0, 1)) rfl ?_
    refine pu_g1 hC fg_X12_59 (by decide +kernel : decode cX12_takesOver 317 = .ok (.getfield 59, 3)) hU ho0 (by decide) rfl (by decide) ?_
    refine pr_iload_n hC (by decide +kernel : decode cX12_takesOver 320 = .ok (.iload_n 1, 1)) rfl ?_
    refine pr_iconst hC (-1) (by decide +kernel : decode cX12_takesOver 321 = .ok (.iconst (-1), 1)) rfl ?_
    refine pv_iast hC (by decide +kernel : decode cX12_takesOver 322 = .ok (.iastore, 1)) hU ho0 rfl H.1 (fun U_30 h e_U_30 hU => ?_)
    replace H := H.2 U_30 e_U_30
    refine pr_aload_n hC (by decide +kernel : decode cX12_takesOver 323 = .ok (.aload_n 0, 1)) rfl ?_
    refine pu_g1 hC fg_X12_62 (by decide +kernel : decode cX12_takesOver 324 = .ok (.getfield 62, 3)) hU ho0 (by decide) rfl (by decide) ?_
    refine pr_iload_n hC (by decide +kernel : decode cX12_takesOver 327 = .ok (.iload_n 1, 1)) rfl ?_
    refine pr_iconst hC (-1) (by decide +kernel : decode cX12_takesOver 328 = .ok (.iconst (-1), 1)) rfl ?_
    refine pv_iast hC (by decide +kernel : decode cX12_takesOver 329 = .ok (.iastore, 1)) hU ho0 rfl H.1 (fun U_31 h e_U_31 hU => ?_)
    replace H := H.2 U_31 e_U_31
    refine pv_iinc hC (v := x1 + 1) (by decide +kernel : decode cX12_takesOver 330 = .ok (.iinc 1 1, 3)) rfl (by decide) rfl rfl (fun x1_32 e_x1_32 => ?_)
    replace H := H x1_32 e_x1_32
    refine pr_goto hC 310 (by decide +kernel : decode cX12_takesOver 333 = .ok (.goto (-23), 3)) (by decide) ?_
    exact pv_sub [some (.ref (Y.2.1 o0)), some (.int x1_32)] (And.intro rfl (And.intro rfl trivial)) (ih _ U_31 h hU H)
set_option maxHeartbeats 4000000 in
theorem t_X12_takesOver {l : Launch} {Y : px_Y} {o : Nat} {U : Um} {post : Um → Prop} (ho : oc o = 10) (H : w_X12_takesOver o U post) : um l Y 1 yX12_takesOver cX12_takesOver 2 none [.ref (Y.2.1 o)] U (pq_v post) := by
  unfold w_X12_takesOver at H
  refine um_of (by decide) (Nat.le_of_ble_eq_true rfl) [some (.ref (Y.2.1 o)), none] rfl (fun X h0 hh sz hM hU => ?_)
  have hC := hM.1
  have hR := hM.2.2.1
  refine pr_iconst hC (0) (by decide +kernel : decode cX12_takesOver 0 = .ok (.iconst 0, 1)) rfl ?_
  refine pr_istore_n hC (by decide +kernel : decode cX12_takesOver 1 = .ok (.istore_n 1, 1)) (by decide) rfl ?_
  obtain ⟨n_45, H⟩ := H
  refine pv_sub [some (.ref (Y.2.1 o)), some (.int 0)] (And.intro rfl (And.intro rfl trivial)) ?_
  refine tl_X12_takesOver_L2 _ _ _ ho hC hM hR (fun U_3 h H hU => ?_) n_45 _ U hh hU H
  refine pr_iconst hC (0) (by decide +kernel : decode cX12_takesOver 29 = .ok (.iconst 0, 1)) rfl ?_
  refine pr_istore_n hC (by decide +kernel : decode cX12_takesOver 30 = .ok (.istore_n 1, 1)) (by decide) rfl ?_
  obtain ⟨n_44, H⟩ := H
  refine pv_sub [some (.ref (Y.2.1 o)), some (.int 0)] (And.intro rfl (And.intro rfl trivial)) ?_
  refine tl_X12_takesOver_L31 _ _ _ ho hC hM hR (fun U_6 h H hU => ?_) n_44 _ U_3 h hU H
  refine pr_iconst hC (0) (by decide +kernel : decode cX12_takesOver 58 = .ok (.iconst 0, 1)) rfl ?_
  refine pr_istore_n hC (by decide +kernel : decode cX12_takesOver 59 = .ok (.istore_n 1, 1)) (by decide) rfl ?_
  obtain ⟨n_43, H⟩ := H
  refine pv_sub [some (.ref (Y.2.1 o)), some (.int 0)] (And.intro rfl (And.intro rfl trivial)) ?_
  refine tl_X12_takesOver_L60 _ _ _ ho hC hM hR (fun U_9 h H hU => ?_) n_43 _ U_6 h hU H
  refine pr_iconst hC (0) (by decide +kernel : decode cX12_takesOver 87 = .ok (.iconst 0, 1)) rfl ?_
  refine pr_istore_n hC (by decide +kernel : decode cX12_takesOver 88 = .ok (.istore_n 1, 1)) (by decide) rfl ?_
  obtain ⟨n_42, H⟩ := H
  refine pv_sub [some (.ref (Y.2.1 o)), some (.int 0)] (And.intro rfl (And.intro rfl trivial)) ?_
  refine tl_X12_takesOver_L89 _ _ _ ho hC hM hR (fun U_12 h H hU => ?_) n_42 _ U_9 h hU H
  refine pr_iconst hC (0) (by decide +kernel : decode cX12_takesOver 116 = .ok (.iconst 0, 1)) rfl ?_
  refine pr_istore_n hC (by decide +kernel : decode cX12_takesOver 117 = .ok (.istore_n 1, 1)) (by decide) rfl ?_
  obtain ⟨n_41, H⟩ := H
  refine pv_sub [some (.ref (Y.2.1 o)), some (.int 0)] (And.intro rfl (And.intro rfl trivial)) ?_
  refine tl_X12_takesOver_L118 _ _ _ ho hC hM hR (fun U_15 h H hU => ?_) n_41 _ U_12 h hU H
  refine pr_aload_n hC (by decide +kernel : decode cX12_takesOver 147 = .ok (.aload_n 0, 1)) rfl ?_
  refine pr_aload_n hC (by decide +kernel : decode cX12_takesOver 148 = .ok (.aload_n 0, 1)) rfl ?_
  refine pu_g0 hC fg_X12_278 (by decide +kernel : decode cX12_takesOver 149 = .ok (.getfield 278, 3)) hU ho (by decide) rfl rfl ?_
  refine pv_p0 hC fp_X12_340 (by decide +kernel : decode cX12_takesOver 152 = .ok (.putfield 340, 3)) hU ho (by decide) rfl rfl rfl rfl (fun U_16 h e_U_16 hU => ?_)
  replace H := H U_16 e_U_16
  refine pr_iconst hC (0) (by decide +kernel : decode cX12_takesOver 155 = .ok (.iconst 0, 1)) rfl ?_
  refine pr_istore_n hC (by decide +kernel : decode cX12_takesOver 156 = .ok (.istore_n 1, 1)) (by decide) rfl ?_
  obtain ⟨n_40, H⟩ := H
  refine pv_sub [some (.ref (Y.2.1 o)), some (.int 0)] (And.intro rfl (And.intro rfl trivial)) ?_
  refine tl_X12_takesOver_L157 _ _ _ ho hC hM hR (fun U_20 h H hU => ?_) n_40 _ U_16 h hU H
  refine pr_iconst hC (0) (by decide +kernel : decode cX12_takesOver 203 = .ok (.iconst 0, 1)) rfl ?_
  refine pr_istore_n hC (by decide +kernel : decode cX12_takesOver 204 = .ok (.istore_n 1, 1)) (by decide) rfl ?_
  obtain ⟨n_39, H⟩ := H
  refine pv_sub [some (.ref (Y.2.1 o)), some (.int 0)] (And.intro rfl (And.intro rfl trivial)) ?_
  refine tl_X12_takesOver_L205 _ _ _ ho hC hM hR (fun U_29 h H hU => ?_) n_39 _ U_20 h hU H
  refine pr_iconst hC (0) (by decide +kernel : decode cX12_takesOver 308 = .ok (.iconst 0, 1)) rfl ?_
  refine pr_istore_n hC (by decide +kernel : decode cX12_takesOver 309 = .ok (.istore_n 1, 1)) (by decide) rfl ?_
  obtain ⟨n_38, H⟩ := H
  refine pv_sub [some (.ref (Y.2.1 o)), some (.int 0)] (And.intro rfl (And.intro rfl trivial)) ?_
  refine tl_X12_takesOver_L310 _ _ _ ho hC hM hR (fun U_33 h H hU => ?_) n_38 _ U_29 h hU H
  refine pr_aload_n hC (by decide +kernel : decode cX12_takesOver 336 = .ok (.aload_n 0, 1)) rfl ?_
  refine pr_iconst hC (-1) (by decide +kernel : decode cX12_takesOver 337 = .ok (.iconst (-1), 1)) rfl ?_
  refine pv_p0 hC fp_X12_75 (by decide +kernel : decode cX12_takesOver 338 = .ok (.putfield 75, 3)) hU ho (by decide) rfl rfl rfl rfl (fun U_34 h e_U_34 hU => ?_)
  replace H := H U_34 e_U_34
  refine pr_aload_n hC (by decide +kernel : decode cX12_takesOver 341 = .ok (.aload_n 0, 1)) rfl ?_
  refine pr_iconst hC (0) (by decide +kernel : decode cX12_takesOver 342 = .ok (.iconst 0, 1)) rfl ?_
  refine pv_p0 hC fp_X12_344 (by decide +kernel : decode cX12_takesOver 343 = .ok (.putfield 344, 3)) hU ho (by decide) rfl rfl rfl rfl (fun U_35 h e_U_35 hU => ?_)
  replace H := H U_35 e_U_35
  refine pr_aload_n hC (by decide +kernel : decode cX12_takesOver 346 = .ok (.aload_n 0, 1)) rfl ?_
  refine vc_Vv hC hR [] fv_X12_347 (by decide +kernel : decode cX12_takesOver 347 = .ok (.invokevirtual 347, 3)) hU (t_X12_laysWays ho H) ho (by decide) rfl rfl rfl (Nat.le_of_ble_eq_true rfl) (Nat.le_of_ble_eq_true rfl) (Nat.le_refl 0) (Nat.le_refl 0) (fun U_36 h H hU => ?_)
  exact pv_vret hM (by decide +kernel : decode cX12_takesOver 350 = .ok (.return_, 1)) hU H
def b_X12_week_L8 (o0 : Nat) (post : Int32 → Um → Prop) (k_27 : Um → Prop) (rec_ : Int32 → Um → Prop) (x1 : Int32) (U : Um) : Prop :=
  ((14 : Int32) ≤ x1 → k_27 U) ∧ (¬ (14 : Int32) ≤ x1 → vp_in x1 14 ∧ ∀ (U_2 : Um), U_2 = sA U o0 11 (va_up (uA U o0 11) (Int32.toNatClampNeg x1) 0) → ∀ (x1_3 : Int32), x1_3 = x1 + 1 → rec_ x1_3 U_2)
def w_X12_week_L8 (o0 : Nat) (post : Int32 → Um → Prop) (k_27 : Um → Prop) (n_ : Nat) : Int32 → Um → Prop := Nat.rec (motive := fun _ => Int32 → Um → Prop) (fun _ _ => False) (fun _ ih => b_X12_week_L8 o0 post k_27 ih) n_
def b_X12_week_L47 (o0 : Nat) (post : Int32 → Um → Prop) (k_66 : Um → Prop) (rec_ : Int32 → Um → Prop) (x1 : Int32) (U : Um) : Prop :=
  ((72 : Int32) ≤ x1 → k_66 U) ∧ (¬ (72 : Int32) ≤ x1 → vp_in x1 72 ∧ ∀ (U_7 : Um), U_7 = sA U o0 2 (va_up (uA U o0 2) (Int32.toNatClampNeg x1) 0) → ∀ (x1_8 : Int32), x1_8 = x1 + 1 → rec_ x1_8 U_7)
def w_X12_week_L47 (o0 : Nat) (post : Int32 → Um → Prop) (k_66 : Um → Prop) (n_ : Nat) : Int32 → Um → Prop := Nat.rec (motive := fun _ => Int32 → Um → Prop) (fun _ _ => False) (fun _ ih => b_X12_week_L47 o0 post k_66 ih) n_
def b_X12_week_L103 (o0 : Nat) (post : Int32 → Um → Prop) (k_130 : Um → Prop) (rec_ : Int32 → Um → Prop) (x1 : Int32) (U : Um) : Prop :=
  (x1 = 0 → k_130 U) ∧ (¬ x1 = 0 → w_X12_readLine o0 U (fun r_18 U_17 => (r_18 = 0 → rec_ 0 U_17) ∧ (¬ r_18 = 0 → ((uI U_17 o0 22) = 0 → rec_ 0 U_17) ∧ (¬ (uI U_17 o0 22) = 0 → rec_ 1 U_17))))
def w_X12_week_L103 (o0 : Nat) (post : Int32 → Um → Prop) (k_130 : Um → Prop) (n_ : Nat) : Int32 → Um → Prop := Nat.rec (motive := fun _ => Int32 → Um → Prop) (fun _ _ => False) (fun _ ih => b_X12_week_L103 o0 post k_130 ih) n_
def w_X12_week (o : Nat) (U : Um) (post : Int32 → Um → Prop) : Prop :=
  ∀ (U_1 : Um), U_1 = sI U o 0 0 → (∃ n_28, w_X12_week_L8 o post (fun U_4 => vp_in 11 14 ∧ ∀ (U_5 : Um), U_5 = sA U_4 o 11 (va_up (uA U_4 o 11) (Int32.toNatClampNeg 11) 10) → vp_in 12 14 ∧ ∀ (U_6 : Um), U_6 = sA U_5 o 11 (va_up (uA U_5 o 11) (Int32.toNatClampNeg 12) 3) → (∃ n_27, w_X12_week_L47 o post (fun U_9 => ∀ (U_10 : Um), U_10 = sI U_9 o 15 0 → ∀ (U_11 : Um), U_11 = sI U_10 o 24 0 → ∀ (U_12 : Um), U_12 = sI U_11 o 20 0 → ∀ (U_13 : Um), U_13 = sI U_12 o 21 (-1) → w_X12_next o U_13 (fun U_14 => ∀ (xs_16 : Int32), xs_16 = (if (uI U_14 o 22) = 0 then 0 else 1) → (∃ n_25, w_X12_week_L103 o post (fun U_19 => ∀ (U_20 : Um), U_20 = sI U_19 o 17 0 → ∀ (U_21 : Um), U_21 = sI U_20 o 18 (uI U_20 o 20) → ∀ (U_22 : Um), U_22 = sI U_21 o 19 (uI U_21 o 21) → ((uI U_22 o 20) = 0 → w_X12_takesOver o U_22 (fun U_23 => vp_in 3 14 ∧ post (uA U_23 o 11 (Int32.toNatClampNeg 3)) U_23)) ∧ (¬ (uI U_22 o 20) = 0 → post (-1) U_22)) n_25 xs_16 U_14))) n_27 36 U_6)) n_28 7 U_1)
set_option maxHeartbeats 4000000 in
theorem tl_X12_week_L8 {l : Launch} {Y : px_Y} {X : px_X} {h0 hh : pe_H} {sz : Nat} (o0 : Nat) (post : Int32 → Um → Prop) (k_27 : Um → Prop) (ho0 : oc o0 = 10)  (hC : px_C X Y.1 (pm_A hh sz) cX12_week RX12 2) (hM : px_M l X Y.1 hh sz yX12_week cX12_week 2 (some (.int)) 28 0 0) (hR : X.2.2.2.1 = pm_rm 28 0 0) (hk_27 : ∀ (U : Um) (h : pe_H), k_27 U → rF Y h0 U h → pw X Y.1 (pm_A hh sz) (pm_E X Y.1 hh sz 0 0 (pm_P Y h0 sz (pq_i post))) 27 [some (.ref (Y.2.1 o0)), none] [] h sz 0 0) : ∀ (n_ : Nat) (x1 : Int32) (U : Um) (h : pe_H), rF Y h0 U h → w_X12_week_L8 o0 post k_27 n_ x1 U → pw X Y.1 (pm_A hh sz) (pm_E X Y.1 hh sz 0 0 (pm_P Y h0 sz (pq_i post))) 8 [some (.ref (Y.2.1 o0)), some (.int x1)] [] h sz 0 0 := by
  intro n_
  induction n_ with
  | zero => intro x1 U h hU H; exact False.elim H
  | succ n_ ih =>
    intro x1 U h hU H
    replace H : b_X12_week_L8 o0 post k_27 (w_X12_week_L8 o0 post k_27 n_) x1 U := H
    unfold b_X12_week_L8 at H
    refine pr_iload_n hC (by decide +kernel : decode cX12_week 8 = .ok (.iload_n 1, 1)) rfl ?_
    refine pr_bipush hC (14) (by decide +kernel : decode cX12_week 9 = .ok (.bipush 14, 2)) rfl ?_
    refine pr_icmp_ge hC 27 (by decide +kernel : decode cX12_week 11 = .ok (.if_icmp .ge 16, 3)) (by decide) (fun c_11 => ?_) (fun c_11 => ?_)
    · replace H := H.1 c_11
      exact pv_sub [some (.ref (Y.2.1 o0)), none] (And.intro rfl trivial) (hk_27 U h H hU)
    replace H := H.2 c_11
    refine pr_aload_n hC (by decide +kernel : decode cX12_week 14 = .ok (.aload_n 0, 1)) rfl ?_
    refine pu_g1 hC fg_X12_43 (by decide +kernel : decode cX12_week 15 = .ok (.getfield 43, 3)) hU ho0 (by decide) rfl (by decide) ?_
    refine pr_iload_n hC (by decide +kernel : decode cX12_week 18 = .ok (.iload_n 1, 1)) rfl ?_
    refine pr_iconst hC (0) (by decide +kernel : decode cX12_week 19 = .ok (.iconst 0, 1)) rfl ?_
    refine pv_iast hC (by decide +kernel : decode cX12_week 20 = .ok (.iastore, 1)) hU ho0 rfl H.1 (fun U_2 h e_U_2 hU => ?_)
    replace H := H.2 U_2 e_U_2
    refine pv_iinc hC (v := x1 + 1) (by decide +kernel : decode cX12_week 21 = .ok (.iinc 1 1, 3)) rfl (by decide) rfl rfl (fun x1_3 e_x1_3 => ?_)
    replace H := H x1_3 e_x1_3
    refine pr_goto hC 8 (by decide +kernel : decode cX12_week 24 = .ok (.goto (-16), 3)) (by decide) ?_
    exact pv_sub [some (.ref (Y.2.1 o0)), some (.int x1_3)] (And.intro rfl (And.intro rfl trivial)) (ih _ U_2 h hU H)
set_option maxHeartbeats 4000000 in
theorem tl_X12_week_L47 {l : Launch} {Y : px_Y} {X : px_X} {h0 hh : pe_H} {sz : Nat} (o0 : Nat) (post : Int32 → Um → Prop) (k_66 : Um → Prop) (ho0 : oc o0 = 10)  (hC : px_C X Y.1 (pm_A hh sz) cX12_week RX12 2) (hM : px_M l X Y.1 hh sz yX12_week cX12_week 2 (some (.int)) 28 0 0) (hR : X.2.2.2.1 = pm_rm 28 0 0) (hk_66 : ∀ (U : Um) (h : pe_H), k_66 U → rF Y h0 U h → pw X Y.1 (pm_A hh sz) (pm_E X Y.1 hh sz 0 0 (pm_P Y h0 sz (pq_i post))) 66 [some (.ref (Y.2.1 o0)), none] [] h sz 0 0) : ∀ (n_ : Nat) (x1 : Int32) (U : Um) (h : pe_H), rF Y h0 U h → w_X12_week_L47 o0 post k_66 n_ x1 U → pw X Y.1 (pm_A hh sz) (pm_E X Y.1 hh sz 0 0 (pm_P Y h0 sz (pq_i post))) 47 [some (.ref (Y.2.1 o0)), some (.int x1)] [] h sz 0 0 := by
  intro n_
  induction n_ with
  | zero => intro x1 U h hU H; exact False.elim H
  | succ n_ ih =>
    intro x1 U h hU H
    replace H : b_X12_week_L47 o0 post k_66 (w_X12_week_L47 o0 post k_66 n_) x1 U := H
    unfold b_X12_week_L47 at H
    refine pr_iload_n hC (by decide +kernel : decode cX12_week 47 = .ok (.iload_n 1, 1)) rfl ?_
    refine pr_bipush hC (72) (by decide +kernel : decode cX12_week 48 = .ok (.bipush 72, 2)) rfl ?_
    refine pr_icmp_ge hC 66 (by decide +kernel : decode cX12_week 50 = .ok (.if_icmp .ge 16, 3)) (by decide) (fun c_50 => ?_) (fun c_50 => ?_)
    · replace H := H.1 c_50
      exact pv_sub [some (.ref (Y.2.1 o0)), none] (And.intro rfl trivial) (hk_66 U h H hU)
    replace H := H.2 c_50
    refine pr_aload_n hC (by decide +kernel : decode cX12_week 53 = .ok (.aload_n 0, 1)) rfl ?_
    refine pu_g1 hC fg_X12_15 (by decide +kernel : decode cX12_week 54 = .ok (.getfield 15, 3)) hU ho0 (by decide) rfl (by decide) ?_
    refine pr_iload_n hC (by decide +kernel : decode cX12_week 57 = .ok (.iload_n 1, 1)) rfl ?_
    refine pr_iconst hC (0) (by decide +kernel : decode cX12_week 58 = .ok (.iconst 0, 1)) rfl ?_
    refine pv_iast hC (by decide +kernel : decode cX12_week 59 = .ok (.iastore, 1)) hU ho0 rfl H.1 (fun U_7 h e_U_7 hU => ?_)
    replace H := H.2 U_7 e_U_7
    refine pv_iinc hC (v := x1 + 1) (by decide +kernel : decode cX12_week 60 = .ok (.iinc 1 1, 3)) rfl (by decide) rfl rfl (fun x1_8 e_x1_8 => ?_)
    replace H := H x1_8 e_x1_8
    refine pr_goto hC 47 (by decide +kernel : decode cX12_week 63 = .ok (.goto (-16), 3)) (by decide) ?_
    exact pv_sub [some (.ref (Y.2.1 o0)), some (.int x1_8)] (And.intro rfl (And.intro rfl trivial)) (ih _ U_7 h hU H)
set_option maxHeartbeats 4000000 in
theorem tl_X12_week_L103 {l : Launch} {Y : px_Y} {X : px_X} {h0 hh : pe_H} {sz : Nat} (o0 : Nat) (post : Int32 → Um → Prop) (k_130 : Um → Prop) (ho0 : oc o0 = 10)  (hC : px_C X Y.1 (pm_A hh sz) cX12_week RX12 2) (hM : px_M l X Y.1 hh sz yX12_week cX12_week 2 (some (.int)) 28 0 0) (hR : X.2.2.2.1 = pm_rm 28 0 0) (hk_130 : ∀ (U : Um) (h : pe_H), k_130 U → rF Y h0 U h → pw X Y.1 (pm_A hh sz) (pm_E X Y.1 hh sz 0 0 (pm_P Y h0 sz (pq_i post))) 130 [some (.ref (Y.2.1 o0)), none] [] h sz 0 0) : ∀ (n_ : Nat) (x1 : Int32) (U : Um) (h : pe_H), rF Y h0 U h → w_X12_week_L103 o0 post k_130 n_ x1 U → pw X Y.1 (pm_A hh sz) (pm_E X Y.1 hh sz 0 0 (pm_P Y h0 sz (pq_i post))) 103 [some (.ref (Y.2.1 o0)), some (.int x1)] [] h sz 0 0 := by
  intro n_
  induction n_ with
  | zero => intro x1 U h hU H; exact False.elim H
  | succ n_ ih =>
    intro x1 U h hU H
    replace H : b_X12_week_L103 o0 post k_130 (w_X12_week_L103 o0 post k_130 n_) x1 U := H
    unfold b_X12_week_L103 at H
    refine pr_iload_n hC (by decide +kernel : decode cX12_week 103 = .ok (.iload_n 1, 1)) rfl ?_
    refine pr_if_eq hC 130 (by decide +kernel : decode cX12_week 104 = .ok (.ifCond .eq 26, 3)) (by decide) (fun c_104 => ?_) (fun c_104 => ?_)
    · replace H := H.1 c_104
      exact pv_sub [some (.ref (Y.2.1 o0)), none] (And.intro rfl trivial) (hk_130 U h H hU)
    replace H := H.2 c_104
    refine pr_aload_n hC (by decide +kernel : decode cX12_week 107 = .ok (.aload_n 0, 1)) rfl ?_
    refine vc_Vi hC hR [] fv_X12_331 (by decide +kernel : decode cX12_week 108 = .ok (.invokevirtual 331, 3)) hU (t_X12_readLine ho0 H) ho0 (by decide) rfl rfl rfl (Nat.le_of_ble_eq_true rfl) (Nat.le_of_ble_eq_true rfl) (Nat.le_refl 0) (Nat.le_refl 0) (fun r_18 U_17 h H hU => ?_)
    refine pr_if_eq hC 125 (by decide +kernel : decode cX12_week 111 = .ok (.ifCond .eq 14, 3)) (by decide) (fun c_111 => ?_) (fun c_111 => ?_)
    · replace H := H.1 c_111
      refine pr_iconst hC (0) (by decide +kernel : decode cX12_week 125 = .ok (.iconst 0, 1)) rfl ?_
      refine pr_istore_n hC (by decide +kernel : decode cX12_week 126 = .ok (.istore_n 1, 1)) (by decide) rfl ?_
      refine pr_goto hC 103 (by decide +kernel : decode cX12_week 127 = .ok (.goto (-24), 3)) (by decide) ?_
      exact pv_sub [some (.ref (Y.2.1 o0)), some (.int 0)] (And.intro rfl (And.intro rfl trivial)) (ih _ U_17 h hU H)
    replace H := H.2 c_111
    refine pr_aload_n hC (by decide +kernel : decode cX12_week 114 = .ok (.aload_n 0, 1)) rfl ?_
    refine pu_g0 hC fg_X12_155 (by decide +kernel : decode cX12_week 115 = .ok (.getfield 155, 3)) hU ho0 (by decide) rfl rfl ?_
    refine pr_if_eq hC 125 (by decide +kernel : decode cX12_week 118 = .ok (.ifCond .eq 7, 3)) (by decide) (fun c_118 => ?_) (fun c_118 => ?_)
    · replace H := H.1 c_118
      refine pr_iconst hC (0) (by decide +kernel : decode cX12_week 125 = .ok (.iconst 0, 1)) rfl ?_
      refine pr_istore_n hC (by decide +kernel : decode cX12_week 126 = .ok (.istore_n 1, 1)) (by decide) rfl ?_
      refine pr_goto hC 103 (by decide +kernel : decode cX12_week 127 = .ok (.goto (-24), 3)) (by decide) ?_
      exact pv_sub [some (.ref (Y.2.1 o0)), some (.int 0)] (And.intro rfl (And.intro rfl trivial)) (ih _ U_17 h hU H)
    replace H := H.2 c_118
    refine pr_iconst hC (1) (by decide +kernel : decode cX12_week 121 = .ok (.iconst 1, 1)) rfl ?_
    refine pr_goto hC 126 (by decide +kernel : decode cX12_week 122 = .ok (.goto 4, 3)) (by decide) ?_
    refine pr_istore_n hC (by decide +kernel : decode cX12_week 126 = .ok (.istore_n 1, 1)) (by decide) rfl ?_
    refine pr_goto hC 103 (by decide +kernel : decode cX12_week 127 = .ok (.goto (-24), 3)) (by decide) ?_
    exact pv_sub [some (.ref (Y.2.1 o0)), some (.int 1)] (And.intro rfl (And.intro rfl trivial)) (ih _ U_17 h hU H)
set_option maxHeartbeats 4000000 in
theorem t_X12_week {l : Launch} {Y : px_Y} {o : Nat} {U : Um} {post : Int32 → Um → Prop} (ho : oc o = 10) (H : w_X12_week o U post) : um l Y 28 yX12_week cX12_week 2 (some (.int)) [.ref (Y.2.1 o)] U (pq_i post) := by
  unfold w_X12_week at H
  refine um_of (by decide) (Nat.le_of_ble_eq_true rfl) [some (.ref (Y.2.1 o)), none] rfl (fun X h0 hh sz hM hU => ?_)
  have hC := hM.1
  have hR := hM.2.2.1
  refine pr_aload_n hC (by decide +kernel : decode cX12_week 0 = .ok (.aload_n 0, 1)) rfl ?_
  refine pr_iconst hC (0) (by decide +kernel : decode cX12_week 1 = .ok (.iconst 0, 1)) rfl ?_
  refine pv_p0 hC fp_X12_121 (by decide +kernel : decode cX12_week 2 = .ok (.putfield 121, 3)) hU ho (by decide) rfl rfl rfl rfl (fun U_1 h e_U_1 hU => ?_)
  replace H := H U_1 e_U_1
  refine pr_bipush hC (7) (by decide +kernel : decode cX12_week 5 = .ok (.bipush 7, 2)) rfl ?_
  refine pr_istore_n hC (by decide +kernel : decode cX12_week 7 = .ok (.istore_n 1, 1)) (by decide) rfl ?_
  obtain ⟨n_28, H⟩ := H
  refine pv_sub [some (.ref (Y.2.1 o)), some (.int 7)] (And.intro rfl (And.intro rfl trivial)) ?_
  refine tl_X12_week_L8 _ _ _ ho hC hM hR (fun U_4 h H hU => ?_) n_28 _ U_1 h hU H
  refine pr_aload_n hC (by decide +kernel : decode cX12_week 27 = .ok (.aload_n 0, 1)) rfl ?_
  refine pu_g1 hC fg_X12_43 (by decide +kernel : decode cX12_week 28 = .ok (.getfield 43, 3)) hU ho (by decide) rfl (by decide) ?_
  refine pr_bipush hC (11) (by decide +kernel : decode cX12_week 31 = .ok (.bipush 11, 2)) rfl ?_
  refine pr_bipush hC (10) (by decide +kernel : decode cX12_week 33 = .ok (.bipush 10, 2)) rfl ?_
  refine pv_iast hC (by decide +kernel : decode cX12_week 35 = .ok (.iastore, 1)) hU ho rfl H.1 (fun U_5 h e_U_5 hU => ?_)
  replace H := H.2 U_5 e_U_5
  refine pr_aload_n hC (by decide +kernel : decode cX12_week 36 = .ok (.aload_n 0, 1)) rfl ?_
  refine pu_g1 hC fg_X12_43 (by decide +kernel : decode cX12_week 37 = .ok (.getfield 43, 3)) hU ho (by decide) rfl (by decide) ?_
  refine pr_bipush hC (12) (by decide +kernel : decode cX12_week 40 = .ok (.bipush 12, 2)) rfl ?_
  refine pr_iconst hC (3) (by decide +kernel : decode cX12_week 42 = .ok (.iconst 3, 1)) rfl ?_
  refine pv_iast hC (by decide +kernel : decode cX12_week 43 = .ok (.iastore, 1)) hU ho rfl H.1 (fun U_6 h e_U_6 hU => ?_)
  replace H := H.2 U_6 e_U_6
  refine pr_bipush hC (36) (by decide +kernel : decode cX12_week 44 = .ok (.bipush 36, 2)) rfl ?_
  refine pr_istore_n hC (by decide +kernel : decode cX12_week 46 = .ok (.istore_n 1, 1)) (by decide) rfl ?_
  obtain ⟨n_27, H⟩ := H
  refine pv_sub [some (.ref (Y.2.1 o)), some (.int 36)] (And.intro rfl (And.intro rfl trivial)) ?_
  refine tl_X12_week_L47 _ _ _ ho hC hM hR (fun U_9 h H hU => ?_) n_27 _ U_6 h hU H
  refine pr_aload_n hC (by decide +kernel : decode cX12_week 66 = .ok (.aload_n 0, 1)) rfl ?_
  refine pr_iconst hC (0) (by decide +kernel : decode cX12_week 67 = .ok (.iconst 0, 1)) rfl ?_
  refine pv_p0 hC fp_X12_278 (by decide +kernel : decode cX12_week 68 = .ok (.putfield 278, 3)) hU ho (by decide) rfl rfl rfl rfl (fun U_10 h e_U_10 hU => ?_)
  replace H := H U_10 e_U_10
  refine pr_aload_n hC (by decide +kernel : decode cX12_week 71 = .ok (.aload_n 0, 1)) rfl ?_
  refine pr_iconst hC (0) (by decide +kernel : decode cX12_week 72 = .ok (.iconst 0, 1)) rfl ?_
  refine pv_p0 hC fp_X12_135 (by decide +kernel : decode cX12_week 73 = .ok (.putfield 135, 3)) hU ho (by decide) rfl rfl rfl rfl (fun U_11 h e_U_11 hU => ?_)
  replace H := H U_11 e_U_11
  refine pr_aload_n hC (by decide +kernel : decode cX12_week 76 = .ok (.aload_n 0, 1)) rfl ?_
  refine pr_iconst hC (0) (by decide +kernel : decode cX12_week 77 = .ok (.iconst 0, 1)) rfl ?_
  refine pv_p0 hC fp_X12_170 (by decide +kernel : decode cX12_week 78 = .ok (.putfield 170, 3)) hU ho (by decide) rfl rfl rfl rfl (fun U_12 h e_U_12 hU => ?_)
  replace H := H U_12 e_U_12
  refine pr_aload_n hC (by decide +kernel : decode cX12_week 81 = .ok (.aload_n 0, 1)) rfl ?_
  refine pr_iconst hC (-1) (by decide +kernel : decode cX12_week 82 = .ok (.iconst (-1), 1)) rfl ?_
  refine pv_p0 hC fp_X12_173 (by decide +kernel : decode cX12_week 83 = .ok (.putfield 173, 3)) hU ho (by decide) rfl rfl rfl rfl (fun U_13 h e_U_13 hU => ?_)
  replace H := H U_13 e_U_13
  refine pr_aload_n hC (by decide +kernel : decode cX12_week 86 = .ok (.aload_n 0, 1)) rfl ?_
  refine vc_Vv hC hR [] fv_X12_242 (by decide +kernel : decode cX12_week 87 = .ok (.invokevirtual 242, 3)) hU (t_X12_next ho H) ho (by decide) rfl rfl rfl (Nat.le_of_ble_eq_true rfl) (Nat.le_of_ble_eq_true rfl) (Nat.le_refl 0) (Nat.le_refl 0) (fun U_14 h H hU => ?_)
  refine pr_aload_n hC (by decide +kernel : decode cX12_week 90 = .ok (.aload_n 0, 1)) rfl ?_
  refine pu_g0 hC fg_X12_155 (by decide +kernel : decode cX12_week 91 = .ok (.getfield 155, 3)) hU ho (by decide) rfl rfl ?_
  have HJ_26 : ∀ (xs_16 : Int32), xs_16 = (if (uI U_14 o 22) = 0 then 0 else 1) → pw X Y.1 (pm_A hh sz) (pm_E X Y.1 hh sz 0 0 (pm_P Y h0 sz (pq_i post))) 102 [some (.ref (Y.2.1 o)), none] [.int xs_16] h sz 0 0 := by
    intro xs_16 e_xs_16
    replace H := H xs_16 e_xs_16
    refine pr_istore_n hC (by decide +kernel : decode cX12_week 102 = .ok (.istore_n 1, 1)) (by decide) rfl ?_
    obtain ⟨n_25, H⟩ := H
    refine pv_sub [some (.ref (Y.2.1 o)), some (.int xs_16)] (And.intro rfl (And.intro rfl trivial)) ?_
    refine tl_X12_week_L103 _ _ _ ho hC hM hR (fun U_19 h H hU => ?_) n_25 _ U_14 h hU H
    refine pr_aload_n hC (by decide +kernel : decode cX12_week 130 = .ok (.aload_n 0, 1)) rfl ?_
    refine pr_iconst hC (0) (by decide +kernel : decode cX12_week 131 = .ok (.iconst 0, 1)) rfl ?_
    refine pv_p0 hC fp_X12_124 (by decide +kernel : decode cX12_week 132 = .ok (.putfield 124, 3)) hU ho (by decide) rfl rfl rfl rfl (fun U_20 h e_U_20 hU => ?_)
    replace H := H U_20 e_U_20
    refine pr_aload_n hC (by decide +kernel : decode cX12_week 135 = .ok (.aload_n 0, 1)) rfl ?_
    refine pr_aload_n hC (by decide +kernel : decode cX12_week 136 = .ok (.aload_n 0, 1)) rfl ?_
    refine pu_g0 hC fg_X12_170 (by decide +kernel : decode cX12_week 137 = .ok (.getfield 170, 3)) hU ho (by decide) rfl rfl ?_
    refine pv_p0 hC fp_X12_334 (by decide +kernel : decode cX12_week 140 = .ok (.putfield 334, 3)) hU ho (by decide) rfl rfl rfl rfl (fun U_21 h e_U_21 hU => ?_)
    replace H := H U_21 e_U_21
    refine pr_aload_n hC (by decide +kernel : decode cX12_week 143 = .ok (.aload_n 0, 1)) rfl ?_
    refine pr_aload_n hC (by decide +kernel : decode cX12_week 144 = .ok (.aload_n 0, 1)) rfl ?_
    refine pu_g0 hC fg_X12_173 (by decide +kernel : decode cX12_week 145 = .ok (.getfield 173, 3)) hU ho (by decide) rfl rfl ?_
    refine pv_p0 hC fp_X12_55 (by decide +kernel : decode cX12_week 148 = .ok (.putfield 55, 3)) hU ho (by decide) rfl rfl rfl rfl (fun U_22 h e_U_22 hU => ?_)
    replace H := H U_22 e_U_22
    refine pr_aload_n hC (by decide +kernel : decode cX12_week 151 = .ok (.aload_n 0, 1)) rfl ?_
    refine pu_g0 hC fg_X12_170 (by decide +kernel : decode cX12_week 152 = .ok (.getfield 170, 3)) hU ho (by decide) rfl rfl ?_
    refine pr_if_eq hC 160 (by decide +kernel : decode cX12_week 155 = .ok (.ifCond .eq 5, 3)) (by decide) (fun c_155 => ?_) (fun c_155 => ?_)
    · replace H := H.1 c_155
      refine pr_aload_n hC (by decide +kernel : decode cX12_week 160 = .ok (.aload_n 0, 1)) rfl ?_
      refine vc_Vv hC hR [] fv_X12_337 (by decide +kernel : decode cX12_week 161 = .ok (.invokevirtual 337, 3)) hU (t_X12_takesOver ho H) ho (by decide) rfl rfl rfl (Nat.le_of_ble_eq_true rfl) (Nat.le_of_ble_eq_true rfl) (Nat.le_refl 0) (Nat.le_refl 0) (fun U_23 h H hU => ?_)
      refine pr_aload_n hC (by decide +kernel : decode cX12_week 164 = .ok (.aload_n 0, 1)) rfl ?_
      refine pu_g1 hC fg_X12_43 (by decide +kernel : decode cX12_week 165 = .ok (.getfield 43, 3)) hU ho (by decide) rfl (by decide) ?_
      refine pr_iconst hC (3) (by decide +kernel : decode cX12_week 168 = .ok (.iconst 3, 1)) rfl ?_
      refine pu_iald hC (by decide +kernel : decode cX12_week 169 = .ok (.iaload, 1)) hU ho rfl H.1 ?_
      replace H := H.2
      exact pv_iret hM (by decide +kernel : decode cX12_week 170 = .ok (.ireturn, 1)) hU H
    replace H := H.2 c_155
    refine pr_iconst hC (-1) (by decide +kernel : decode cX12_week 158 = .ok (.iconst (-1), 1)) rfl ?_
    exact pv_iret hM (by decide +kernel : decode cX12_week 159 = .ok (.ireturn, 1)) hU H
  replace H := trivial
  refine pr_if_eq hC 101 (by decide +kernel : decode cX12_week 94 = .ok (.ifCond .eq 7, 3)) (by decide) (fun c_94 => ?_) (fun c_94 => ?_)
  · skip
    refine pr_iconst hC (0) (by decide +kernel : decode cX12_week 101 = .ok (.iconst 0, 1)) rfl ?_
    exact pv_sub [some (.ref (Y.2.1 o)), none] (And.intro rfl trivial) (HJ_26 _ (if_pos c_94).symm)
  skip
  refine pr_iconst hC (1) (by decide +kernel : decode cX12_week 97 = .ok (.iconst 1, 1)) rfl ?_
  refine pr_goto hC 102 (by decide +kernel : decode cX12_week 98 = .ok (.goto 4, 3)) (by decide) ?_
  exact pv_sub [some (.ref (Y.2.1 o)), none] (And.intro rfl trivial) (HJ_26 _ (if_neg c_94).symm)
def w_X12_fault (o : Nat) (a1 : Int32) (U : Um) (post : Int32 → Um → Prop) : Prop :=
  ∀ (U_1 : Um), U_1 = sI U o 0 0 → (a1 = 0 → post (uI U_1 o 18) U_1) ∧ (¬ a1 = 0 → (a1 = 1 → post (uI U_1 o 19) U_1) ∧ (¬ a1 = 1 → post (-1) U_1))
set_option maxHeartbeats 4000000 in
theorem t_X12_fault {l : Launch} {Y : px_Y} {o : Nat} {a1 : Int32} {U : Um} {post : Int32 → Um → Prop} (ho : oc o = 10) (H : w_X12_fault o a1 U post) : um l Y 0 yX12_fault cX12_fault 2 (some (.int)) [.ref (Y.2.1 o), .int a1] U (pq_i post) := by
  unfold w_X12_fault at H
  refine um_of (by decide) (Nat.le_of_ble_eq_true rfl) [some (.ref (Y.2.1 o)), some (.int a1)] rfl (fun X h0 hh sz hM hU => ?_)
  have hC := hM.1
  have hR := hM.2.2.1
  refine pr_aload_n hC (by decide +kernel : decode cX12_fault 0 = .ok (.aload_n 0, 1)) rfl ?_
  refine pr_iconst hC (0) (by decide +kernel : decode cX12_fault 1 = .ok (.iconst 0, 1)) rfl ?_
  refine pv_p0 hC fp_X12_121 (by decide +kernel : decode cX12_fault 2 = .ok (.putfield 121, 3)) hU ho (by decide) rfl rfl rfl rfl (fun U_1 h e_U_1 hU => ?_)
  replace H := H U_1 e_U_1
  refine pr_iload_n hC (by decide +kernel : decode cX12_fault 5 = .ok (.iload_n 1, 1)) rfl ?_
  refine pr_if_ne hC 16 (by decide +kernel : decode cX12_fault 6 = .ok (.ifCond .ne 10, 3)) (by decide) (fun c_6 => ?_) (fun c_6 => ?_)
  · replace H := H.2 c_6
    refine pr_iload_n hC (by decide +kernel : decode cX12_fault 16 = .ok (.iload_n 1, 1)) rfl ?_
    refine pr_iconst hC (1) (by decide +kernel : decode cX12_fault 17 = .ok (.iconst 1, 1)) rfl ?_
    refine pr_icmp_ne hC 28 (by decide +kernel : decode cX12_fault 18 = .ok (.if_icmp .ne 10, 3)) (by decide) (fun c_18 => ?_) (fun c_18 => ?_)
    · replace H := H.2 c_18
      refine pr_iconst hC (-1) (by decide +kernel : decode cX12_fault 28 = .ok (.iconst (-1), 1)) rfl ?_
      exact pv_iret hM (by decide +kernel : decode cX12_fault 29 = .ok (.ireturn, 1)) hU H
    replace H := H.1 c_18
    refine pr_aload_n hC (by decide +kernel : decode cX12_fault 21 = .ok (.aload_n 0, 1)) rfl ?_
    refine pu_g0 hC fg_X12_55 (by decide +kernel : decode cX12_fault 22 = .ok (.getfield 55, 3)) hU ho (by decide) rfl rfl ?_
    refine pr_goto hC 29 (by decide +kernel : decode cX12_fault 25 = .ok (.goto 4, 3)) (by decide) ?_
    exact pv_iret hM (by decide +kernel : decode cX12_fault 29 = .ok (.ireturn, 1)) hU H
  replace H := H.1 c_6
  refine pr_aload_n hC (by decide +kernel : decode cX12_fault 9 = .ok (.aload_n 0, 1)) rfl ?_
  refine pu_g0 hC fg_X12_334 (by decide +kernel : decode cX12_fault 10 = .ok (.getfield 334, 3)) hU ho (by decide) rfl rfl ?_
  refine pr_goto hC 29 (by decide +kernel : decode cX12_fault 13 = .ok (.goto 16, 3)) (by decide) ?_
  exact pv_iret hM (by decide +kernel : decode cX12_fault 29 = .ok (.ireturn, 1)) hU H
def b_X12_keeps_L11 (o0 : Nat) (post : Um → Prop) (k_39 : Um → Prop) (rec_ : Int32 → Um → Prop) (x1 : Int32) (U : Um) : Prop :=
  ((819 : Int32) ≤ x1 → k_39 U) ∧ (¬ (819 : Int32) ≤ x1 → vp_in (x1 + 117) 936 ∧ vp_in x1 936 ∧ ∀ (U_1 : Um), U_1 = sA U o0 36 (va_up (uA U o0 36) (Int32.toNatClampNeg x1) (uA U o0 36 (Int32.toNatClampNeg (x1 + 117)))) → ∀ (x1_2 : Int32), x1_2 = x1 + 1 → rec_ x1_2 U_1)
def w_X12_keeps_L11 (o0 : Nat) (post : Um → Prop) (k_39 : Um → Prop) (n_ : Nat) : Int32 → Um → Prop := Nat.rec (motive := fun _ => Int32 → Um → Prop) (fun _ _ => False) (fun _ ih => b_X12_keeps_L11 o0 post k_39 ih) n_
def b_X12_keeps_L41 (o0 : Nat) (post : Um → Prop) (k_68 : Um → Prop) (rec_ : Int32 → Um → Prop) (x1 : Int32) (U : Um) : Prop :=
  ((70 : Int32) ≤ x1 → k_68 U) ∧ (¬ (70 : Int32) ≤ x1 → vp_in (x1 + 10) 80 ∧ vp_in x1 80 ∧ ∀ (U_4 : Um), U_4 = sF U o0 37 (va_up (uF U o0 37) (Int32.toNatClampNeg x1) (uF U o0 37 (Int32.toNatClampNeg (x1 + 10)))) → ∀ (x1_5 : Int32), x1_5 = x1 + 1 → rec_ x1_5 U_4)
def w_X12_keeps_L41 (o0 : Nat) (post : Um → Prop) (k_68 : Um → Prop) (n_ : Nat) : Int32 → Um → Prop := Nat.rec (motive := fun _ => Int32 → Um → Prop) (fun _ _ => False) (fun _ ih => b_X12_keeps_L41 o0 post k_68 ih) n_
def b_X12_keeps_L88 (o0 : Nat) (x1 : Int32) (post : Um → Prop) (k_131 : Um → Prop) (rec_ : Int32 → Um → Prop) (x2 : Int32) (U : Um) : Prop :=
  ((48 : Int32) ≤ x2 → k_131 U) ∧ (¬ (48 : Int32) ≤ x2 → vp_in x2 48 ∧ vp_in (x1 + x2) 936 ∧ ∀ (U_9 : Um), U_9 = sA U o0 36 (va_up (uA U o0 36) (Int32.toNatClampNeg (x1 + x2)) (uA U o0 30 (Int32.toNatClampNeg x2))) → vp_in x2 48 ∧ vp_in ((x1 + 48) + x2) 936 ∧ ∀ (U_10 : Um), U_10 = sA U_9 o0 36 (va_up (uA U_9 o0 36) (Int32.toNatClampNeg ((x1 + 48) + x2)) (uA U_9 o0 31 (Int32.toNatClampNeg x2))) → ∀ (x2_11 : Int32), x2_11 = x2 + 1 → rec_ x2_11 U_10)
def w_X12_keeps_L88 (o0 : Nat) (x1 : Int32) (post : Um → Prop) (k_131 : Um → Prop) (n_ : Nat) : Int32 → Um → Prop := Nat.rec (motive := fun _ => Int32 → Um → Prop) (fun _ _ => False) (fun _ ih => b_X12_keeps_L88 o0 x1 post k_131 ih) n_
def b_X12_keeps_L133 (o0 : Nat) (x1 : Int32) (post : Um → Prop) (k_199 : Um → Prop) (rec_ : Int32 → Um → Prop) (x2 : Int32) (U : Um) : Prop :=
  ((10 : Int32) ≤ x2 → k_199 U) ∧ (¬ (10 : Int32) ≤ x2 → vp_in x2 10 ∧ vp_in ((x1 + 96) + x2) 936 ∧ ∀ (U_13 : Um), U_13 = sA U o0 36 (va_up (uA U o0 36) (Int32.toNatClampNeg ((x1 + 96) + x2)) (uA U o0 32 (Int32.toNatClampNeg x2))) → vp_in x2 10 ∧ vp_in ((x1 + 106) + x2) 936 ∧ ∀ (U_14 : Um), U_14 = sA U_13 o0 36 (va_up (uA U_13 o0 36) (Int32.toNatClampNeg ((x1 + 106) + x2)) (uA U_13 o0 33 (Int32.toNatClampNeg x2))) → vp_in x2 10 ∧ vp_in ((10 * (uI U_14 o0 38)) + x2) 80 ∧ ∀ (U_15 : Um), U_15 = sF U_14 o0 37 (va_up (uF U_14 o0 37) (Int32.toNatClampNeg ((10 * (uI U_14 o0 38)) + x2)) (uF U_14 o0 34 (Int32.toNatClampNeg x2))) → ∀ (x2_16 : Int32), x2_16 = x2 + 1 → rec_ x2_16 U_15)
def w_X12_keeps_L133 (o0 : Nat) (x1 : Int32) (post : Um → Prop) (k_199 : Um → Prop) (n_ : Nat) : Int32 → Um → Prop := Nat.rec (motive := fun _ => Int32 → Um → Prop) (fun _ _ => False) (fun _ ih => b_X12_keeps_L133 o0 x1 post k_199 ih) n_
def w_X12_keeps (o : Nat) (U : Um) (post : Um → Prop) : Prop :=
  ((uI U o 38) = 8 → (∃ n_23, w_X12_keeps_L11 o post (fun U_3 => (∃ n_22, w_X12_keeps_L41 o post (fun U_6 => ∀ (U_7 : Um), U_7 = sI U_6 o 38 ((uI U_6 o 38) - 1) → ∀ (x1_8 : Int32), x1_8 = 117 * (uI U_7 o 38) → (∃ n_21, w_X12_keeps_L88 o x1_8 post (fun U_12 => (∃ n_20, w_X12_keeps_L133 o x1_8 post (fun U_17 => vp_in (x1_8 + 116) 936 ∧ ∀ (U_18 : Um), U_18 = sA U_17 o 36 (va_up (uA U_17 o 36) (Int32.toNatClampNeg (x1_8 + 116)) (uI U_17 o 35)) → ∀ (U_19 : Um), U_19 = sI U_18 o 38 ((uI U_18 o 38) + 1) → post U_19) n_20 0 U_12)) n_21 0 U_7)) n_22 0 U_3)) n_23 0 U)) ∧ (¬ (uI U o 38) = 8 → ∀ (x1_24 : Int32), x1_24 = 117 * (uI U o 38) → (∃ n_30, w_X12_keeps_L88 o x1_24 post (fun U_25 => (∃ n_29, w_X12_keeps_L133 o x1_24 post (fun U_26 => vp_in (x1_24 + 116) 936 ∧ ∀ (U_27 : Um), U_27 = sA U_26 o 36 (va_up (uA U_26 o 36) (Int32.toNatClampNeg (x1_24 + 116)) (uI U_26 o 35)) → ∀ (U_28 : Um), U_28 = sI U_27 o 38 ((uI U_27 o 38) + 1) → post U_28) n_29 0 U_25)) n_30 0 U))
set_option maxHeartbeats 4000000 in
theorem tl_X12_keeps_L11 {l : Launch} {Y : px_Y} {X : px_X} {h0 hh : pe_H} {sz : Nat} (o0 : Nat) (post : Um → Prop) (k_39 : Um → Prop) (ho0 : oc o0 = 10)  (hC : px_C X Y.1 (pm_A hh sz) cX12_keeps RX12 3) (hM : px_M l X Y.1 hh sz yX12_keeps cX12_keeps 3 none 0 0 0) (hR : X.2.2.2.1 = pm_rm 0 0 0) (hk_39 : ∀ (U : Um) (h : pe_H), k_39 U → rF Y h0 U h → pw X Y.1 (pm_A hh sz) (pm_E X Y.1 hh sz 0 0 (pm_P Y h0 sz (pq_v post))) 39 [some (.ref (Y.2.1 o0)), none, none] [] h sz 0 0) : ∀ (n_ : Nat) (x1 : Int32) (U : Um) (h : pe_H), rF Y h0 U h → w_X12_keeps_L11 o0 post k_39 n_ x1 U → pw X Y.1 (pm_A hh sz) (pm_E X Y.1 hh sz 0 0 (pm_P Y h0 sz (pq_v post))) 11 [some (.ref (Y.2.1 o0)), some (.int x1), none] [] h sz 0 0 := by
  intro n_
  induction n_ with
  | zero => intro x1 U h hU H; exact False.elim H
  | succ n_ ih =>
    intro x1 U h hU H
    replace H : b_X12_keeps_L11 o0 post k_39 (w_X12_keeps_L11 o0 post k_39 n_) x1 U := H
    unfold b_X12_keeps_L11 at H
    refine pr_iload_n hC (by decide +kernel : decode cX12_keeps 11 = .ok (.iload_n 1, 1)) rfl ?_
    refine pr_sipush hC (819) (by decide +kernel : decode cX12_keeps 12 = .ok (.sipush 819, 3)) rfl ?_
    refine pr_icmp_ge hC 39 (by decide +kernel : decode cX12_keeps 15 = .ok (.if_icmp .ge 24, 3)) (by decide) (fun c_15 => ?_) (fun c_15 => ?_)
    · replace H := H.1 c_15
      exact pv_sub [some (.ref (Y.2.1 o0)), none, none] (And.intro rfl trivial) (hk_39 U h H hU)
    replace H := H.2 c_15
    refine pr_aload_n hC (by decide +kernel : decode cX12_keeps 18 = .ok (.aload_n 0, 1)) rfl ?_
    refine pu_g1 hC fg_X12_78 (by decide +kernel : decode cX12_keeps 19 = .ok (.getfield 78, 3)) hU ho0 (by decide) rfl (by decide) ?_
    refine pr_iload_n hC (by decide +kernel : decode cX12_keeps 22 = .ok (.iload_n 1, 1)) rfl ?_
    refine pr_aload_n hC (by decide +kernel : decode cX12_keeps 23 = .ok (.aload_n 0, 1)) rfl ?_
    refine pu_g1 hC fg_X12_78 (by decide +kernel : decode cX12_keeps 24 = .ok (.getfield 78, 3)) hU ho0 (by decide) rfl (by decide) ?_
    refine pr_iload_n hC (by decide +kernel : decode cX12_keeps 27 = .ok (.iload_n 1, 1)) rfl ?_
    refine pr_bipush hC (117) (by decide +kernel : decode cX12_keeps 28 = .ok (.bipush 117, 2)) rfl ?_
    refine pr_iadd hC (by decide +kernel : decode cX12_keeps 30 = .ok (.iadd, 1)) ?_
    refine pu_iald hC (by decide +kernel : decode cX12_keeps 31 = .ok (.iaload, 1)) hU ho0 rfl H.1 ?_
    replace H := H.2
    refine pv_iast hC (by decide +kernel : decode cX12_keeps 32 = .ok (.iastore, 1)) hU ho0 rfl H.1 (fun U_1 h e_U_1 hU => ?_)
    replace H := H.2 U_1 e_U_1
    refine pv_iinc hC (v := x1 + 1) (by decide +kernel : decode cX12_keeps 33 = .ok (.iinc 1 1, 3)) rfl (by decide) rfl rfl (fun x1_2 e_x1_2 => ?_)
    replace H := H x1_2 e_x1_2
    refine pr_goto hC 11 (by decide +kernel : decode cX12_keeps 36 = .ok (.goto (-25), 3)) (by decide) ?_
    exact pv_sub [some (.ref (Y.2.1 o0)), some (.int x1_2), none] (And.intro rfl (And.intro rfl trivial)) (ih _ U_1 h hU H)
set_option maxHeartbeats 4000000 in
theorem tl_X12_keeps_L41 {l : Launch} {Y : px_Y} {X : px_X} {h0 hh : pe_H} {sz : Nat} (o0 : Nat) (post : Um → Prop) (k_68 : Um → Prop) (ho0 : oc o0 = 10)  (hC : px_C X Y.1 (pm_A hh sz) cX12_keeps RX12 3) (hM : px_M l X Y.1 hh sz yX12_keeps cX12_keeps 3 none 0 0 0) (hR : X.2.2.2.1 = pm_rm 0 0 0) (hk_68 : ∀ (U : Um) (h : pe_H), k_68 U → rF Y h0 U h → pw X Y.1 (pm_A hh sz) (pm_E X Y.1 hh sz 0 0 (pm_P Y h0 sz (pq_v post))) 68 [some (.ref (Y.2.1 o0)), none, none] [] h sz 0 0) : ∀ (n_ : Nat) (x1 : Int32) (U : Um) (h : pe_H), rF Y h0 U h → w_X12_keeps_L41 o0 post k_68 n_ x1 U → pw X Y.1 (pm_A hh sz) (pm_E X Y.1 hh sz 0 0 (pm_P Y h0 sz (pq_v post))) 41 [some (.ref (Y.2.1 o0)), some (.int x1), none] [] h sz 0 0 := by
  intro n_
  induction n_ with
  | zero => intro x1 U h hU H; exact False.elim H
  | succ n_ ih =>
    intro x1 U h hU H
    replace H : b_X12_keeps_L41 o0 post k_68 (w_X12_keeps_L41 o0 post k_68 n_) x1 U := H
    unfold b_X12_keeps_L41 at H
    refine pr_iload_n hC (by decide +kernel : decode cX12_keeps 41 = .ok (.iload_n 1, 1)) rfl ?_
    refine pr_bipush hC (70) (by decide +kernel : decode cX12_keeps 42 = .ok (.bipush 70, 2)) rfl ?_
    refine pr_icmp_ge hC 68 (by decide +kernel : decode cX12_keeps 44 = .ok (.if_icmp .ge 24, 3)) (by decide) (fun c_44 => ?_) (fun c_44 => ?_)
    · replace H := H.1 c_44
      exact pv_sub [some (.ref (Y.2.1 o0)), none, none] (And.intro rfl trivial) (hk_68 U h H hU)
    replace H := H.2 c_44
    refine pr_aload_n hC (by decide +kernel : decode cX12_keeps 47 = .ok (.aload_n 0, 1)) rfl ?_
    refine pu_g1 hC fg_X12_81 (by decide +kernel : decode cX12_keeps 48 = .ok (.getfield 81, 3)) hU ho0 (by decide) rfl (by decide) ?_
    refine pr_iload_n hC (by decide +kernel : decode cX12_keeps 51 = .ok (.iload_n 1, 1)) rfl ?_
    refine pr_aload_n hC (by decide +kernel : decode cX12_keeps 52 = .ok (.aload_n 0, 1)) rfl ?_
    refine pu_g1 hC fg_X12_81 (by decide +kernel : decode cX12_keeps 53 = .ok (.getfield 81, 3)) hU ho0 (by decide) rfl (by decide) ?_
    refine pr_iload_n hC (by decide +kernel : decode cX12_keeps 56 = .ok (.iload_n 1, 1)) rfl ?_
    refine pr_bipush hC (10) (by decide +kernel : decode cX12_keeps 57 = .ok (.bipush 10, 2)) rfl ?_
    refine pr_iadd hC (by decide +kernel : decode cX12_keeps 59 = .ok (.iadd, 1)) ?_
    refine pu_fald hC (by decide +kernel : decode cX12_keeps 60 = .ok (.faload, 1)) hU ho0 rfl H.1 ?_
    replace H := H.2
    refine pv_fast hC (by decide +kernel : decode cX12_keeps 61 = .ok (.fastore, 1)) hU ho0 rfl H.1 (fun U_4 h e_U_4 hU => ?_)
    replace H := H.2 U_4 e_U_4
    refine pv_iinc hC (v := x1 + 1) (by decide +kernel : decode cX12_keeps 62 = .ok (.iinc 1 1, 3)) rfl (by decide) rfl rfl (fun x1_5 e_x1_5 => ?_)
    replace H := H x1_5 e_x1_5
    refine pr_goto hC 41 (by decide +kernel : decode cX12_keeps 65 = .ok (.goto (-24), 3)) (by decide) ?_
    exact pv_sub [some (.ref (Y.2.1 o0)), some (.int x1_5), none] (And.intro rfl (And.intro rfl trivial)) (ih _ U_4 h hU H)
set_option maxHeartbeats 4000000 in
theorem tl_X12_keeps_L88 {l : Launch} {Y : px_Y} {X : px_X} {h0 hh : pe_H} {sz : Nat} (o0 : Nat) (x1 : Int32) (post : Um → Prop) (k_131 : Um → Prop) (ho0 : oc o0 = 10)  (hC : px_C X Y.1 (pm_A hh sz) cX12_keeps RX12 3) (hM : px_M l X Y.1 hh sz yX12_keeps cX12_keeps 3 none 0 0 0) (hR : X.2.2.2.1 = pm_rm 0 0 0) (hk_131 : ∀ (U : Um) (h : pe_H), k_131 U → rF Y h0 U h → pw X Y.1 (pm_A hh sz) (pm_E X Y.1 hh sz 0 0 (pm_P Y h0 sz (pq_v post))) 131 [some (.ref (Y.2.1 o0)), some (.int x1), none] [] h sz 0 0) : ∀ (n_ : Nat) (x2 : Int32) (U : Um) (h : pe_H), rF Y h0 U h → w_X12_keeps_L88 o0 x1 post k_131 n_ x2 U → pw X Y.1 (pm_A hh sz) (pm_E X Y.1 hh sz 0 0 (pm_P Y h0 sz (pq_v post))) 88 [some (.ref (Y.2.1 o0)), some (.int x1), some (.int x2)] [] h sz 0 0 := by
  intro n_
  induction n_ with
  | zero => intro x2 U h hU H; exact False.elim H
  | succ n_ ih =>
    intro x2 U h hU H
    replace H : b_X12_keeps_L88 o0 x1 post k_131 (w_X12_keeps_L88 o0 x1 post k_131 n_) x2 U := H
    unfold b_X12_keeps_L88 at H
    refine pr_iload_n hC (by decide +kernel : decode cX12_keeps 88 = .ok (.iload_n 2, 1)) rfl ?_
    refine pr_bipush hC (48) (by decide +kernel : decode cX12_keeps 89 = .ok (.bipush 48, 2)) rfl ?_
    refine pr_icmp_ge hC 131 (by decide +kernel : decode cX12_keeps 91 = .ok (.if_icmp .ge 40, 3)) (by decide) (fun c_91 => ?_) (fun c_91 => ?_)
    · replace H := H.1 c_91
      exact pv_sub [some (.ref (Y.2.1 o0)), some (.int x1), none] (And.intro rfl (And.intro rfl trivial)) (hk_131 U h H hU)
    replace H := H.2 c_91
    refine pr_aload_n hC (by decide +kernel : decode cX12_keeps 94 = .ok (.aload_n 0, 1)) rfl ?_
    refine pu_g1 hC fg_X12_78 (by decide +kernel : decode cX12_keeps 95 = .ok (.getfield 78, 3)) hU ho0 (by decide) rfl (by decide) ?_
    refine pr_iload_n hC (by decide +kernel : decode cX12_keeps 98 = .ok (.iload_n 1, 1)) rfl ?_
    refine pr_iload_n hC (by decide +kernel : decode cX12_keeps 99 = .ok (.iload_n 2, 1)) rfl ?_
    refine pr_iadd hC (by decide +kernel : decode cX12_keeps 100 = .ok (.iadd, 1)) ?_
    refine pr_aload_n hC (by decide +kernel : decode cX12_keeps 101 = .ok (.aload_n 0, 1)) rfl ?_
    refine pu_g1 hC fg_X12_59 (by decide +kernel : decode cX12_keeps 102 = .ok (.getfield 59, 3)) hU ho0 (by decide) rfl (by decide) ?_
    refine pr_iload_n hC (by decide +kernel : decode cX12_keeps 105 = .ok (.iload_n 2, 1)) rfl ?_
    refine pu_iald hC (by decide +kernel : decode cX12_keeps 106 = .ok (.iaload, 1)) hU ho0 rfl H.1 ?_
    replace H := H.2
    refine pv_iast hC (by decide +kernel : decode cX12_keeps 107 = .ok (.iastore, 1)) hU ho0 rfl H.1 (fun U_9 h e_U_9 hU => ?_)
    replace H := H.2 U_9 e_U_9
    refine pr_aload_n hC (by decide +kernel : decode cX12_keeps 108 = .ok (.aload_n 0, 1)) rfl ?_
    refine pu_g1 hC fg_X12_78 (by decide +kernel : decode cX12_keeps 109 = .ok (.getfield 78, 3)) hU ho0 (by decide) rfl (by decide) ?_
    refine pr_iload_n hC (by decide +kernel : decode cX12_keeps 112 = .ok (.iload_n 1, 1)) rfl ?_
    refine pr_bipush hC (48) (by decide +kernel : decode cX12_keeps 113 = .ok (.bipush 48, 2)) rfl ?_
    refine pr_iadd hC (by decide +kernel : decode cX12_keeps 115 = .ok (.iadd, 1)) ?_
    refine pr_iload_n hC (by decide +kernel : decode cX12_keeps 116 = .ok (.iload_n 2, 1)) rfl ?_
    refine pr_iadd hC (by decide +kernel : decode cX12_keeps 117 = .ok (.iadd, 1)) ?_
    refine pr_aload_n hC (by decide +kernel : decode cX12_keeps 118 = .ok (.aload_n 0, 1)) rfl ?_
    refine pu_g1 hC fg_X12_62 (by decide +kernel : decode cX12_keeps 119 = .ok (.getfield 62, 3)) hU ho0 (by decide) rfl (by decide) ?_
    refine pr_iload_n hC (by decide +kernel : decode cX12_keeps 122 = .ok (.iload_n 2, 1)) rfl ?_
    refine pu_iald hC (by decide +kernel : decode cX12_keeps 123 = .ok (.iaload, 1)) hU ho0 rfl H.1 ?_
    replace H := H.2
    refine pv_iast hC (by decide +kernel : decode cX12_keeps 124 = .ok (.iastore, 1)) hU ho0 rfl H.1 (fun U_10 h e_U_10 hU => ?_)
    replace H := H.2 U_10 e_U_10
    refine pv_iinc hC (v := x2 + 1) (by decide +kernel : decode cX12_keeps 125 = .ok (.iinc 2 1, 3)) rfl (by decide) rfl rfl (fun x2_11 e_x2_11 => ?_)
    replace H := H x2_11 e_x2_11
    refine pr_goto hC 88 (by decide +kernel : decode cX12_keeps 128 = .ok (.goto (-40), 3)) (by decide) ?_
    exact pv_sub [some (.ref (Y.2.1 o0)), some (.int x1), some (.int x2_11)] (And.intro rfl (And.intro rfl (And.intro rfl trivial))) (ih _ U_10 h hU H)
set_option maxHeartbeats 4000000 in
theorem tl_X12_keeps_L133 {l : Launch} {Y : px_Y} {X : px_X} {h0 hh : pe_H} {sz : Nat} (o0 : Nat) (x1 : Int32) (post : Um → Prop) (k_199 : Um → Prop) (ho0 : oc o0 = 10)  (hC : px_C X Y.1 (pm_A hh sz) cX12_keeps RX12 3) (hM : px_M l X Y.1 hh sz yX12_keeps cX12_keeps 3 none 0 0 0) (hR : X.2.2.2.1 = pm_rm 0 0 0) (hk_199 : ∀ (U : Um) (h : pe_H), k_199 U → rF Y h0 U h → pw X Y.1 (pm_A hh sz) (pm_E X Y.1 hh sz 0 0 (pm_P Y h0 sz (pq_v post))) 199 [some (.ref (Y.2.1 o0)), some (.int x1), none] [] h sz 0 0) : ∀ (n_ : Nat) (x2 : Int32) (U : Um) (h : pe_H), rF Y h0 U h → w_X12_keeps_L133 o0 x1 post k_199 n_ x2 U → pw X Y.1 (pm_A hh sz) (pm_E X Y.1 hh sz 0 0 (pm_P Y h0 sz (pq_v post))) 133 [some (.ref (Y.2.1 o0)), some (.int x1), some (.int x2)] [] h sz 0 0 := by
  intro n_
  induction n_ with
  | zero => intro x2 U h hU H; exact False.elim H
  | succ n_ ih =>
    intro x2 U h hU H
    replace H : b_X12_keeps_L133 o0 x1 post k_199 (w_X12_keeps_L133 o0 x1 post k_199 n_) x2 U := H
    unfold b_X12_keeps_L133 at H
    refine pr_iload_n hC (by decide +kernel : decode cX12_keeps 133 = .ok (.iload_n 2, 1)) rfl ?_
    refine pr_bipush hC (10) (by decide +kernel : decode cX12_keeps 134 = .ok (.bipush 10, 2)) rfl ?_
    refine pr_icmp_ge hC 199 (by decide +kernel : decode cX12_keeps 136 = .ok (.if_icmp .ge 63, 3)) (by decide) (fun c_136 => ?_) (fun c_136 => ?_)
    · replace H := H.1 c_136
      exact pv_sub [some (.ref (Y.2.1 o0)), some (.int x1), none] (And.intro rfl (And.intro rfl trivial)) (hk_199 U h H hU)
    replace H := H.2 c_136
    refine pr_aload_n hC (by decide +kernel : decode cX12_keeps 139 = .ok (.aload_n 0, 1)) rfl ?_
    refine pu_g1 hC fg_X12_78 (by decide +kernel : decode cX12_keeps 140 = .ok (.getfield 78, 3)) hU ho0 (by decide) rfl (by decide) ?_
    refine pr_iload_n hC (by decide +kernel : decode cX12_keeps 143 = .ok (.iload_n 1, 1)) rfl ?_
    refine pr_bipush hC (96) (by decide +kernel : decode cX12_keeps 144 = .ok (.bipush 96, 2)) rfl ?_
    refine pr_iadd hC (by decide +kernel : decode cX12_keeps 146 = .ok (.iadd, 1)) ?_
    refine pr_iload_n hC (by decide +kernel : decode cX12_keeps 147 = .ok (.iload_n 2, 1)) rfl ?_
    refine pr_iadd hC (by decide +kernel : decode cX12_keeps 148 = .ok (.iadd, 1)) ?_
    refine pr_aload_n hC (by decide +kernel : decode cX12_keeps 149 = .ok (.aload_n 0, 1)) rfl ?_
    refine pu_g1 hC fg_X12_65 (by decide +kernel : decode cX12_keeps 150 = .ok (.getfield 65, 3)) hU ho0 (by decide) rfl (by decide) ?_
    refine pr_iload_n hC (by decide +kernel : decode cX12_keeps 153 = .ok (.iload_n 2, 1)) rfl ?_
    refine pu_iald hC (by decide +kernel : decode cX12_keeps 154 = .ok (.iaload, 1)) hU ho0 rfl H.1 ?_
    replace H := H.2
    refine pv_iast hC (by decide +kernel : decode cX12_keeps 155 = .ok (.iastore, 1)) hU ho0 rfl H.1 (fun U_13 h e_U_13 hU => ?_)
    replace H := H.2 U_13 e_U_13
    refine pr_aload_n hC (by decide +kernel : decode cX12_keeps 156 = .ok (.aload_n 0, 1)) rfl ?_
    refine pu_g1 hC fg_X12_78 (by decide +kernel : decode cX12_keeps 157 = .ok (.getfield 78, 3)) hU ho0 (by decide) rfl (by decide) ?_
    refine pr_iload_n hC (by decide +kernel : decode cX12_keeps 160 = .ok (.iload_n 1, 1)) rfl ?_
    refine pr_bipush hC (106) (by decide +kernel : decode cX12_keeps 161 = .ok (.bipush 106, 2)) rfl ?_
    refine pr_iadd hC (by decide +kernel : decode cX12_keeps 163 = .ok (.iadd, 1)) ?_
    refine pr_iload_n hC (by decide +kernel : decode cX12_keeps 164 = .ok (.iload_n 2, 1)) rfl ?_
    refine pr_iadd hC (by decide +kernel : decode cX12_keeps 165 = .ok (.iadd, 1)) ?_
    refine pr_aload_n hC (by decide +kernel : decode cX12_keeps 166 = .ok (.aload_n 0, 1)) rfl ?_
    refine pu_g1 hC fg_X12_68 (by decide +kernel : decode cX12_keeps 167 = .ok (.getfield 68, 3)) hU ho0 (by decide) rfl (by decide) ?_
    refine pr_iload_n hC (by decide +kernel : decode cX12_keeps 170 = .ok (.iload_n 2, 1)) rfl ?_
    refine pu_iald hC (by decide +kernel : decode cX12_keeps 171 = .ok (.iaload, 1)) hU ho0 rfl H.1 ?_
    replace H := H.2
    refine pv_iast hC (by decide +kernel : decode cX12_keeps 172 = .ok (.iastore, 1)) hU ho0 rfl H.1 (fun U_14 h e_U_14 hU => ?_)
    replace H := H.2 U_14 e_U_14
    refine pr_aload_n hC (by decide +kernel : decode cX12_keeps 173 = .ok (.aload_n 0, 1)) rfl ?_
    refine pu_g1 hC fg_X12_81 (by decide +kernel : decode cX12_keeps 174 = .ok (.getfield 81, 3)) hU ho0 (by decide) rfl (by decide) ?_
    refine pr_bipush hC (10) (by decide +kernel : decode cX12_keeps 177 = .ok (.bipush 10, 2)) rfl ?_
    refine pr_aload_n hC (by decide +kernel : decode cX12_keeps 179 = .ok (.aload_n 0, 1)) rfl ?_
    refine pu_g0 hC fg_X12_344 (by decide +kernel : decode cX12_keeps 180 = .ok (.getfield 344, 3)) hU ho0 (by decide) rfl rfl ?_
    refine pr_imul hC (by decide +kernel : decode cX12_keeps 183 = .ok (.imul, 1)) ?_
    refine pr_iload_n hC (by decide +kernel : decode cX12_keeps 184 = .ok (.iload_n 2, 1)) rfl ?_
    refine pr_iadd hC (by decide +kernel : decode cX12_keeps 185 = .ok (.iadd, 1)) ?_
    refine pr_aload_n hC (by decide +kernel : decode cX12_keeps 186 = .ok (.aload_n 0, 1)) rfl ?_
    refine pu_g1 hC fg_X12_71 (by decide +kernel : decode cX12_keeps 187 = .ok (.getfield 71, 3)) hU ho0 (by decide) rfl (by decide) ?_
    refine pr_iload_n hC (by decide +kernel : decode cX12_keeps 190 = .ok (.iload_n 2, 1)) rfl ?_
    refine pu_fald hC (by decide +kernel : decode cX12_keeps 191 = .ok (.faload, 1)) hU ho0 rfl H.1 ?_
    replace H := H.2
    refine pv_fast hC (by decide +kernel : decode cX12_keeps 192 = .ok (.fastore, 1)) hU ho0 rfl H.1 (fun U_15 h e_U_15 hU => ?_)
    replace H := H.2 U_15 e_U_15
    refine pv_iinc hC (v := x2 + 1) (by decide +kernel : decode cX12_keeps 193 = .ok (.iinc 2 1, 3)) rfl (by decide) rfl rfl (fun x2_16 e_x2_16 => ?_)
    replace H := H x2_16 e_x2_16
    refine pr_goto hC 133 (by decide +kernel : decode cX12_keeps 196 = .ok (.goto (-63), 3)) (by decide) ?_
    exact pv_sub [some (.ref (Y.2.1 o0)), some (.int x1), some (.int x2_16)] (And.intro rfl (And.intro rfl (And.intro rfl trivial))) (ih _ U_15 h hU H)
set_option maxHeartbeats 4000000 in
theorem t_X12_keeps {l : Launch} {Y : px_Y} {o : Nat} {U : Um} {post : Um → Prop} (ho : oc o = 10) (H : w_X12_keeps o U post) : um l Y 0 yX12_keeps cX12_keeps 3 none [.ref (Y.2.1 o)] U (pq_v post) := by
  unfold w_X12_keeps at H
  refine um_of (by decide) (Nat.le_of_ble_eq_true rfl) [some (.ref (Y.2.1 o)), none, none] rfl (fun X h0 hh sz hM hU => ?_)
  have hC := hM.1
  have hR := hM.2.2.1
  refine pr_aload_n hC (by decide +kernel : decode cX12_keeps 0 = .ok (.aload_n 0, 1)) rfl ?_
  refine pu_g0 hC fg_X12_344 (by decide +kernel : decode cX12_keeps 1 = .ok (.getfield 344, 3)) hU ho (by decide) rfl rfl ?_
  refine pr_bipush hC (8) (by decide +kernel : decode cX12_keeps 4 = .ok (.bipush 8, 2)) rfl ?_
  refine pr_icmp_ne hC 78 (by decide +kernel : decode cX12_keeps 6 = .ok (.if_icmp .ne 72, 3)) (by decide) (fun c_6 => ?_) (fun c_6 => ?_)
  · replace H := H.2 c_6
    refine pr_bipush hC (117) (by decide +kernel : decode cX12_keeps 78 = .ok (.bipush 117, 2)) rfl ?_
    refine pr_aload_n hC (by decide +kernel : decode cX12_keeps 80 = .ok (.aload_n 0, 1)) rfl ?_
    refine pu_g0 hC fg_X12_344 (by decide +kernel : decode cX12_keeps 81 = .ok (.getfield 344, 3)) hU ho (by decide) rfl rfl ?_
    refine pr_imul hC (by decide +kernel : decode cX12_keeps 84 = .ok (.imul, 1)) ?_
    refine pv_topi (fun x1_24 e_x1_24 => ?_)
    replace H := H x1_24 e_x1_24
    refine pr_istore_n hC (by decide +kernel : decode cX12_keeps 85 = .ok (.istore_n 1, 1)) (by decide) rfl ?_
    refine pr_iconst hC (0) (by decide +kernel : decode cX12_keeps 86 = .ok (.iconst 0, 1)) rfl ?_
    refine pr_istore_n hC (by decide +kernel : decode cX12_keeps 87 = .ok (.istore_n 2, 1)) (by decide) rfl ?_
    obtain ⟨n_30, H⟩ := H
    refine pv_sub [some (.ref (Y.2.1 o)), some (.int x1_24), some (.int 0)] (And.intro rfl (And.intro rfl (And.intro rfl trivial))) ?_
    refine tl_X12_keeps_L88 _ _ _ _ ho hC hM hR (fun U_25 h H hU => ?_) n_30 _ U hh hU H
    refine pr_iconst hC (0) (by decide +kernel : decode cX12_keeps 131 = .ok (.iconst 0, 1)) rfl ?_
    refine pr_istore_n hC (by decide +kernel : decode cX12_keeps 132 = .ok (.istore_n 2, 1)) (by decide) rfl ?_
    obtain ⟨n_29, H⟩ := H
    refine pv_sub [some (.ref (Y.2.1 o)), some (.int x1_24), some (.int 0)] (And.intro rfl (And.intro rfl (And.intro rfl trivial))) ?_
    refine tl_X12_keeps_L133 _ _ _ _ ho hC hM hR (fun U_26 h H hU => ?_) n_29 _ U_25 h hU H
    refine pr_aload_n hC (by decide +kernel : decode cX12_keeps 199 = .ok (.aload_n 0, 1)) rfl ?_
    refine pu_g1 hC fg_X12_78 (by decide +kernel : decode cX12_keeps 200 = .ok (.getfield 78, 3)) hU ho (by decide) rfl (by decide) ?_
    refine pr_iload_n hC (by decide +kernel : decode cX12_keeps 203 = .ok (.iload_n 1, 1)) rfl ?_
    refine pr_bipush hC (116) (by decide +kernel : decode cX12_keeps 204 = .ok (.bipush 116, 2)) rfl ?_
    refine pr_iadd hC (by decide +kernel : decode cX12_keeps 206 = .ok (.iadd, 1)) ?_
    refine pr_aload_n hC (by decide +kernel : decode cX12_keeps 207 = .ok (.aload_n 0, 1)) rfl ?_
    refine pu_g0 hC fg_X12_75 (by decide +kernel : decode cX12_keeps 208 = .ok (.getfield 75, 3)) hU ho (by decide) rfl rfl ?_
    refine pv_iast hC (by decide +kernel : decode cX12_keeps 211 = .ok (.iastore, 1)) hU ho rfl H.1 (fun U_27 h e_U_27 hU => ?_)
    replace H := H.2 U_27 e_U_27
    refine pr_aload_n hC (by decide +kernel : decode cX12_keeps 212 = .ok (.aload_n 0, 1)) rfl ?_
    refine pr_dup hC (by decide +kernel : decode cX12_keeps 213 = .ok (.dup, 1)) rfl ?_
    refine pu_g0 hC fg_X12_344 (by decide +kernel : decode cX12_keeps 214 = .ok (.getfield 344, 3)) hU ho (by decide) rfl rfl ?_
    refine pr_iconst hC (1) (by decide +kernel : decode cX12_keeps 217 = .ok (.iconst 1, 1)) rfl ?_
    refine pr_iadd hC (by decide +kernel : decode cX12_keeps 218 = .ok (.iadd, 1)) ?_
    refine pv_p0 hC fp_X12_344 (by decide +kernel : decode cX12_keeps 219 = .ok (.putfield 344, 3)) hU ho (by decide) rfl rfl rfl rfl (fun U_28 h e_U_28 hU => ?_)
    replace H := H U_28 e_U_28
    exact pv_vret hM (by decide +kernel : decode cX12_keeps 222 = .ok (.return_, 1)) hU H
  replace H := H.1 c_6
  refine pr_iconst hC (0) (by decide +kernel : decode cX12_keeps 9 = .ok (.iconst 0, 1)) rfl ?_
  refine pr_istore_n hC (by decide +kernel : decode cX12_keeps 10 = .ok (.istore_n 1, 1)) (by decide) rfl ?_
  obtain ⟨n_23, H⟩ := H
  refine pv_sub [some (.ref (Y.2.1 o)), some (.int 0), none] (And.intro rfl (And.intro rfl trivial)) ?_
  refine tl_X12_keeps_L11 _ _ _ ho hC hM hR (fun U_3 h H hU => ?_) n_23 _ U hh hU H
  refine pr_iconst hC (0) (by decide +kernel : decode cX12_keeps 39 = .ok (.iconst 0, 1)) rfl ?_
  refine pr_istore_n hC (by decide +kernel : decode cX12_keeps 40 = .ok (.istore_n 1, 1)) (by decide) rfl ?_
  obtain ⟨n_22, H⟩ := H
  refine pv_sub [some (.ref (Y.2.1 o)), some (.int 0), none] (And.intro rfl (And.intro rfl trivial)) ?_
  refine tl_X12_keeps_L41 _ _ _ ho hC hM hR (fun U_6 h H hU => ?_) n_22 _ U_3 h hU H
  refine pr_aload_n hC (by decide +kernel : decode cX12_keeps 68 = .ok (.aload_n 0, 1)) rfl ?_
  refine pr_dup hC (by decide +kernel : decode cX12_keeps 69 = .ok (.dup, 1)) rfl ?_
  refine pu_g0 hC fg_X12_344 (by decide +kernel : decode cX12_keeps 70 = .ok (.getfield 344, 3)) hU ho (by decide) rfl rfl ?_
  refine pr_iconst hC (1) (by decide +kernel : decode cX12_keeps 73 = .ok (.iconst 1, 1)) rfl ?_
  refine pr_isub hC (by decide +kernel : decode cX12_keeps 74 = .ok (.isub, 1)) ?_
  refine pv_p0 hC fp_X12_344 (by decide +kernel : decode cX12_keeps 75 = .ok (.putfield 344, 3)) hU ho (by decide) rfl rfl rfl rfl (fun U_7 h e_U_7 hU => ?_)
  replace H := H U_7 e_U_7
  refine pr_bipush hC (117) (by decide +kernel : decode cX12_keeps 78 = .ok (.bipush 117, 2)) rfl ?_
  refine pr_aload_n hC (by decide +kernel : decode cX12_keeps 80 = .ok (.aload_n 0, 1)) rfl ?_
  refine pu_g0 hC fg_X12_344 (by decide +kernel : decode cX12_keeps 81 = .ok (.getfield 344, 3)) hU ho (by decide) rfl rfl ?_
  refine pr_imul hC (by decide +kernel : decode cX12_keeps 84 = .ok (.imul, 1)) ?_
  refine pv_topi (fun x1_8 e_x1_8 => ?_)
  replace H := H x1_8 e_x1_8
  refine pr_istore_n hC (by decide +kernel : decode cX12_keeps 85 = .ok (.istore_n 1, 1)) (by decide) rfl ?_
  refine pr_iconst hC (0) (by decide +kernel : decode cX12_keeps 86 = .ok (.iconst 0, 1)) rfl ?_
  refine pr_istore_n hC (by decide +kernel : decode cX12_keeps 87 = .ok (.istore_n 2, 1)) (by decide) rfl ?_
  obtain ⟨n_21, H⟩ := H
  refine pv_sub [some (.ref (Y.2.1 o)), some (.int x1_8), some (.int 0)] (And.intro rfl (And.intro rfl (And.intro rfl trivial))) ?_
  refine tl_X12_keeps_L88 _ _ _ _ ho hC hM hR (fun U_12 h H hU => ?_) n_21 _ U_7 h hU H
  refine pr_iconst hC (0) (by decide +kernel : decode cX12_keeps 131 = .ok (.iconst 0, 1)) rfl ?_
  refine pr_istore_n hC (by decide +kernel : decode cX12_keeps 132 = .ok (.istore_n 2, 1)) (by decide) rfl ?_
  obtain ⟨n_20, H⟩ := H
  refine pv_sub [some (.ref (Y.2.1 o)), some (.int x1_8), some (.int 0)] (And.intro rfl (And.intro rfl (And.intro rfl trivial))) ?_
  refine tl_X12_keeps_L133 _ _ _ _ ho hC hM hR (fun U_17 h H hU => ?_) n_20 _ U_12 h hU H
  refine pr_aload_n hC (by decide +kernel : decode cX12_keeps 199 = .ok (.aload_n 0, 1)) rfl ?_
  refine pu_g1 hC fg_X12_78 (by decide +kernel : decode cX12_keeps 200 = .ok (.getfield 78, 3)) hU ho (by decide) rfl (by decide) ?_
  refine pr_iload_n hC (by decide +kernel : decode cX12_keeps 203 = .ok (.iload_n 1, 1)) rfl ?_
  refine pr_bipush hC (116) (by decide +kernel : decode cX12_keeps 204 = .ok (.bipush 116, 2)) rfl ?_
  refine pr_iadd hC (by decide +kernel : decode cX12_keeps 206 = .ok (.iadd, 1)) ?_
  refine pr_aload_n hC (by decide +kernel : decode cX12_keeps 207 = .ok (.aload_n 0, 1)) rfl ?_
  refine pu_g0 hC fg_X12_75 (by decide +kernel : decode cX12_keeps 208 = .ok (.getfield 75, 3)) hU ho (by decide) rfl rfl ?_
  refine pv_iast hC (by decide +kernel : decode cX12_keeps 211 = .ok (.iastore, 1)) hU ho rfl H.1 (fun U_18 h e_U_18 hU => ?_)
  replace H := H.2 U_18 e_U_18
  refine pr_aload_n hC (by decide +kernel : decode cX12_keeps 212 = .ok (.aload_n 0, 1)) rfl ?_
  refine pr_dup hC (by decide +kernel : decode cX12_keeps 213 = .ok (.dup, 1)) rfl ?_
  refine pu_g0 hC fg_X12_344 (by decide +kernel : decode cX12_keeps 214 = .ok (.getfield 344, 3)) hU ho (by decide) rfl rfl ?_
  refine pr_iconst hC (1) (by decide +kernel : decode cX12_keeps 217 = .ok (.iconst 1, 1)) rfl ?_
  refine pr_iadd hC (by decide +kernel : decode cX12_keeps 218 = .ok (.iadd, 1)) ?_
  refine pv_p0 hC fp_X12_344 (by decide +kernel : decode cX12_keeps 219 = .ok (.putfield 344, 3)) hU ho (by decide) rfl rfl rfl rfl (fun U_19 h e_U_19 hU => ?_)
  replace H := H U_19 e_U_19
  exact pv_vret hM (by decide +kernel : decode cX12_keeps 222 = .ok (.return_, 1)) hU H
def b_X12_undo_L34 (o0 : Nat) (x1 : Int32) (post : Int32 → Um → Prop) (k_77 : Um → Prop) (rec_ : Int32 → Um → Prop) (x2 : Int32) (U : Um) : Prop :=
  ((48 : Int32) ≤ x2 → k_77 U) ∧ (¬ (48 : Int32) ≤ x2 → vp_in (x1 + x2) 936 ∧ vp_in x2 48 ∧ ∀ (U_4 : Um), U_4 = sA U o0 30 (va_up (uA U o0 30) (Int32.toNatClampNeg x2) (uA U o0 36 (Int32.toNatClampNeg (x1 + x2)))) → vp_in ((x1 + 48) + x2) 936 ∧ vp_in x2 48 ∧ ∀ (U_5 : Um), U_5 = sA U_4 o0 31 (va_up (uA U_4 o0 31) (Int32.toNatClampNeg x2) (uA U_4 o0 36 (Int32.toNatClampNeg ((x1 + 48) + x2)))) → ∀ (x2_6 : Int32), x2_6 = x2 + 1 → rec_ x2_6 U_5)
def w_X12_undo_L34 (o0 : Nat) (x1 : Int32) (post : Int32 → Um → Prop) (k_77 : Um → Prop) (n_ : Nat) : Int32 → Um → Prop := Nat.rec (motive := fun _ => Int32 → Um → Prop) (fun _ _ => False) (fun _ ih => b_X12_undo_L34 o0 x1 post k_77 ih) n_
def b_X12_undo_L79 (o0 : Nat) (x1 : Int32) (post : Int32 → Um → Prop) (k_145 : Um → Prop) (rec_ : Int32 → Um → Prop) (x2 : Int32) (U : Um) : Prop :=
  ((10 : Int32) ≤ x2 → k_145 U) ∧ (¬ (10 : Int32) ≤ x2 → vp_in ((x1 + 96) + x2) 936 ∧ vp_in x2 10 ∧ ∀ (U_8 : Um), U_8 = sA U o0 32 (va_up (uA U o0 32) (Int32.toNatClampNeg x2) (uA U o0 36 (Int32.toNatClampNeg ((x1 + 96) + x2)))) → vp_in ((x1 + 106) + x2) 936 ∧ vp_in x2 10 ∧ ∀ (U_9 : Um), U_9 = sA U_8 o0 33 (va_up (uA U_8 o0 33) (Int32.toNatClampNeg x2) (uA U_8 o0 36 (Int32.toNatClampNeg ((x1 + 106) + x2)))) → vp_in ((10 * (uI U_9 o0 38)) + x2) 80 ∧ vp_in x2 10 ∧ ∀ (U_10 : Um), U_10 = sF U_9 o0 34 (va_up (uF U_9 o0 34) (Int32.toNatClampNeg x2) (uF U_9 o0 37 (Int32.toNatClampNeg ((10 * (uI U_9 o0 38)) + x2)))) → ∀ (x2_11 : Int32), x2_11 = x2 + 1 → rec_ x2_11 U_10)
def w_X12_undo_L79 (o0 : Nat) (x1 : Int32) (post : Int32 → Um → Prop) (k_145 : Um → Prop) (n_ : Nat) : Int32 → Um → Prop := Nat.rec (motive := fun _ => Int32 → Um → Prop) (fun _ _ => False) (fun _ ih => b_X12_undo_L79 o0 x1 post k_145 ih) n_
def w_X12_undo (o : Nat) (U : Um) (post : Int32 → Um → Prop) : Prop :=
  ∀ (U_1 : Um), U_1 = sI U o 0 0 → ((uI U_1 o 38) = 0 → post (-1) U_1) ∧ (¬ (uI U_1 o 38) = 0 → ∀ (U_2 : Um), U_2 = sI U_1 o 38 ((uI U_1 o 38) - 1) → ∀ (x1_3 : Int32), x1_3 = 117 * (uI U_2 o 38) → (∃ n_15, w_X12_undo_L34 o x1_3 post (fun U_7 => (∃ n_14, w_X12_undo_L79 o x1_3 post (fun U_12 => vp_in (x1_3 + 116) 936 ∧ ∀ (U_13 : Um), U_13 = sI U_12 o 35 (uA U_12 o 36 (Int32.toNatClampNeg (x1_3 + 116))) → post (uI U_13 o 38) U_13) n_14 0 U_7)) n_15 0 U_2))
set_option maxHeartbeats 4000000 in
theorem tl_X12_undo_L34 {l : Launch} {Y : px_Y} {X : px_X} {h0 hh : pe_H} {sz : Nat} (o0 : Nat) (x1 : Int32) (post : Int32 → Um → Prop) (k_77 : Um → Prop) (ho0 : oc o0 = 10)  (hC : px_C X Y.1 (pm_A hh sz) cX12_undo RX12 3) (hM : px_M l X Y.1 hh sz yX12_undo cX12_undo 3 (some (.int)) 0 0 0) (hR : X.2.2.2.1 = pm_rm 0 0 0) (hk_77 : ∀ (U : Um) (h : pe_H), k_77 U → rF Y h0 U h → pw X Y.1 (pm_A hh sz) (pm_E X Y.1 hh sz 0 0 (pm_P Y h0 sz (pq_i post))) 77 [some (.ref (Y.2.1 o0)), some (.int x1), none] [] h sz 0 0) : ∀ (n_ : Nat) (x2 : Int32) (U : Um) (h : pe_H), rF Y h0 U h → w_X12_undo_L34 o0 x1 post k_77 n_ x2 U → pw X Y.1 (pm_A hh sz) (pm_E X Y.1 hh sz 0 0 (pm_P Y h0 sz (pq_i post))) 34 [some (.ref (Y.2.1 o0)), some (.int x1), some (.int x2)] [] h sz 0 0 := by
  intro n_
  induction n_ with
  | zero => intro x2 U h hU H; exact False.elim H
  | succ n_ ih =>
    intro x2 U h hU H
    replace H : b_X12_undo_L34 o0 x1 post k_77 (w_X12_undo_L34 o0 x1 post k_77 n_) x2 U := H
    unfold b_X12_undo_L34 at H
    refine pr_iload_n hC (by decide +kernel : decode cX12_undo 34 = .ok (.iload_n 2, 1)) rfl ?_
    refine pr_bipush hC (48) (by decide +kernel : decode cX12_undo 35 = .ok (.bipush 48, 2)) rfl ?_
    refine pr_icmp_ge hC 77 (by decide +kernel : decode cX12_undo 37 = .ok (.if_icmp .ge 40, 3)) (by decide) (fun c_37 => ?_) (fun c_37 => ?_)
    · replace H := H.1 c_37
      exact pv_sub [some (.ref (Y.2.1 o0)), some (.int x1), none] (And.intro rfl (And.intro rfl trivial)) (hk_77 U h H hU)
    replace H := H.2 c_37
    refine pr_aload_n hC (by decide +kernel : decode cX12_undo 40 = .ok (.aload_n 0, 1)) rfl ?_
    refine pu_g1 hC fg_X12_59 (by decide +kernel : decode cX12_undo 41 = .ok (.getfield 59, 3)) hU ho0 (by decide) rfl (by decide) ?_
    refine pr_iload_n hC (by decide +kernel : decode cX12_undo 44 = .ok (.iload_n 2, 1)) rfl ?_
    refine pr_aload_n hC (by decide +kernel : decode cX12_undo 45 = .ok (.aload_n 0, 1)) rfl ?_
    refine pu_g1 hC fg_X12_78 (by decide +kernel : decode cX12_undo 46 = .ok (.getfield 78, 3)) hU ho0 (by decide) rfl (by decide) ?_
    refine pr_iload_n hC (by decide +kernel : decode cX12_undo 49 = .ok (.iload_n 1, 1)) rfl ?_
    refine pr_iload_n hC (by decide +kernel : decode cX12_undo 50 = .ok (.iload_n 2, 1)) rfl ?_
    refine pr_iadd hC (by decide +kernel : decode cX12_undo 51 = .ok (.iadd, 1)) ?_
    refine pu_iald hC (by decide +kernel : decode cX12_undo 52 = .ok (.iaload, 1)) hU ho0 rfl H.1 ?_
    replace H := H.2
    refine pv_iast hC (by decide +kernel : decode cX12_undo 53 = .ok (.iastore, 1)) hU ho0 rfl H.1 (fun U_4 h e_U_4 hU => ?_)
    replace H := H.2 U_4 e_U_4
    refine pr_aload_n hC (by decide +kernel : decode cX12_undo 54 = .ok (.aload_n 0, 1)) rfl ?_
    refine pu_g1 hC fg_X12_62 (by decide +kernel : decode cX12_undo 55 = .ok (.getfield 62, 3)) hU ho0 (by decide) rfl (by decide) ?_
    refine pr_iload_n hC (by decide +kernel : decode cX12_undo 58 = .ok (.iload_n 2, 1)) rfl ?_
    refine pr_aload_n hC (by decide +kernel : decode cX12_undo 59 = .ok (.aload_n 0, 1)) rfl ?_
    refine pu_g1 hC fg_X12_78 (by decide +kernel : decode cX12_undo 60 = .ok (.getfield 78, 3)) hU ho0 (by decide) rfl (by decide) ?_
    refine pr_iload_n hC (by decide +kernel : decode cX12_undo 63 = .ok (.iload_n 1, 1)) rfl ?_
    refine pr_bipush hC (48) (by decide +kernel : decode cX12_undo 64 = .ok (.bipush 48, 2)) rfl ?_
    refine pr_iadd hC (by decide +kernel : decode cX12_undo 66 = .ok (.iadd, 1)) ?_
    refine pr_iload_n hC (by decide +kernel : decode cX12_undo 67 = .ok (.iload_n 2, 1)) rfl ?_
    refine pr_iadd hC (by decide +kernel : decode cX12_undo 68 = .ok (.iadd, 1)) ?_
    refine pu_iald hC (by decide +kernel : decode cX12_undo 69 = .ok (.iaload, 1)) hU ho0 rfl H.1 ?_
    replace H := H.2
    refine pv_iast hC (by decide +kernel : decode cX12_undo 70 = .ok (.iastore, 1)) hU ho0 rfl H.1 (fun U_5 h e_U_5 hU => ?_)
    replace H := H.2 U_5 e_U_5
    refine pv_iinc hC (v := x2 + 1) (by decide +kernel : decode cX12_undo 71 = .ok (.iinc 2 1, 3)) rfl (by decide) rfl rfl (fun x2_6 e_x2_6 => ?_)
    replace H := H x2_6 e_x2_6
    refine pr_goto hC 34 (by decide +kernel : decode cX12_undo 74 = .ok (.goto (-40), 3)) (by decide) ?_
    exact pv_sub [some (.ref (Y.2.1 o0)), some (.int x1), some (.int x2_6)] (And.intro rfl (And.intro rfl (And.intro rfl trivial))) (ih _ U_5 h hU H)
set_option maxHeartbeats 4000000 in
theorem tl_X12_undo_L79 {l : Launch} {Y : px_Y} {X : px_X} {h0 hh : pe_H} {sz : Nat} (o0 : Nat) (x1 : Int32) (post : Int32 → Um → Prop) (k_145 : Um → Prop) (ho0 : oc o0 = 10)  (hC : px_C X Y.1 (pm_A hh sz) cX12_undo RX12 3) (hM : px_M l X Y.1 hh sz yX12_undo cX12_undo 3 (some (.int)) 0 0 0) (hR : X.2.2.2.1 = pm_rm 0 0 0) (hk_145 : ∀ (U : Um) (h : pe_H), k_145 U → rF Y h0 U h → pw X Y.1 (pm_A hh sz) (pm_E X Y.1 hh sz 0 0 (pm_P Y h0 sz (pq_i post))) 145 [some (.ref (Y.2.1 o0)), some (.int x1), none] [] h sz 0 0) : ∀ (n_ : Nat) (x2 : Int32) (U : Um) (h : pe_H), rF Y h0 U h → w_X12_undo_L79 o0 x1 post k_145 n_ x2 U → pw X Y.1 (pm_A hh sz) (pm_E X Y.1 hh sz 0 0 (pm_P Y h0 sz (pq_i post))) 79 [some (.ref (Y.2.1 o0)), some (.int x1), some (.int x2)] [] h sz 0 0 := by
  intro n_
  induction n_ with
  | zero => intro x2 U h hU H; exact False.elim H
  | succ n_ ih =>
    intro x2 U h hU H
    replace H : b_X12_undo_L79 o0 x1 post k_145 (w_X12_undo_L79 o0 x1 post k_145 n_) x2 U := H
    unfold b_X12_undo_L79 at H
    refine pr_iload_n hC (by decide +kernel : decode cX12_undo 79 = .ok (.iload_n 2, 1)) rfl ?_
    refine pr_bipush hC (10) (by decide +kernel : decode cX12_undo 80 = .ok (.bipush 10, 2)) rfl ?_
    refine pr_icmp_ge hC 145 (by decide +kernel : decode cX12_undo 82 = .ok (.if_icmp .ge 63, 3)) (by decide) (fun c_82 => ?_) (fun c_82 => ?_)
    · replace H := H.1 c_82
      exact pv_sub [some (.ref (Y.2.1 o0)), some (.int x1), none] (And.intro rfl (And.intro rfl trivial)) (hk_145 U h H hU)
    replace H := H.2 c_82
    refine pr_aload_n hC (by decide +kernel : decode cX12_undo 85 = .ok (.aload_n 0, 1)) rfl ?_
    refine pu_g1 hC fg_X12_65 (by decide +kernel : decode cX12_undo 86 = .ok (.getfield 65, 3)) hU ho0 (by decide) rfl (by decide) ?_
    refine pr_iload_n hC (by decide +kernel : decode cX12_undo 89 = .ok (.iload_n 2, 1)) rfl ?_
    refine pr_aload_n hC (by decide +kernel : decode cX12_undo 90 = .ok (.aload_n 0, 1)) rfl ?_
    refine pu_g1 hC fg_X12_78 (by decide +kernel : decode cX12_undo 91 = .ok (.getfield 78, 3)) hU ho0 (by decide) rfl (by decide) ?_
    refine pr_iload_n hC (by decide +kernel : decode cX12_undo 94 = .ok (.iload_n 1, 1)) rfl ?_
    refine pr_bipush hC (96) (by decide +kernel : decode cX12_undo 95 = .ok (.bipush 96, 2)) rfl ?_
    refine pr_iadd hC (by decide +kernel : decode cX12_undo 97 = .ok (.iadd, 1)) ?_
    refine pr_iload_n hC (by decide +kernel : decode cX12_undo 98 = .ok (.iload_n 2, 1)) rfl ?_
    refine pr_iadd hC (by decide +kernel : decode cX12_undo 99 = .ok (.iadd, 1)) ?_
    refine pu_iald hC (by decide +kernel : decode cX12_undo 100 = .ok (.iaload, 1)) hU ho0 rfl H.1 ?_
    replace H := H.2
    refine pv_iast hC (by decide +kernel : decode cX12_undo 101 = .ok (.iastore, 1)) hU ho0 rfl H.1 (fun U_8 h e_U_8 hU => ?_)
    replace H := H.2 U_8 e_U_8
    refine pr_aload_n hC (by decide +kernel : decode cX12_undo 102 = .ok (.aload_n 0, 1)) rfl ?_
    refine pu_g1 hC fg_X12_68 (by decide +kernel : decode cX12_undo 103 = .ok (.getfield 68, 3)) hU ho0 (by decide) rfl (by decide) ?_
    refine pr_iload_n hC (by decide +kernel : decode cX12_undo 106 = .ok (.iload_n 2, 1)) rfl ?_
    refine pr_aload_n hC (by decide +kernel : decode cX12_undo 107 = .ok (.aload_n 0, 1)) rfl ?_
    refine pu_g1 hC fg_X12_78 (by decide +kernel : decode cX12_undo 108 = .ok (.getfield 78, 3)) hU ho0 (by decide) rfl (by decide) ?_
    refine pr_iload_n hC (by decide +kernel : decode cX12_undo 111 = .ok (.iload_n 1, 1)) rfl ?_
    refine pr_bipush hC (106) (by decide +kernel : decode cX12_undo 112 = .ok (.bipush 106, 2)) rfl ?_
    refine pr_iadd hC (by decide +kernel : decode cX12_undo 114 = .ok (.iadd, 1)) ?_
    refine pr_iload_n hC (by decide +kernel : decode cX12_undo 115 = .ok (.iload_n 2, 1)) rfl ?_
    refine pr_iadd hC (by decide +kernel : decode cX12_undo 116 = .ok (.iadd, 1)) ?_
    refine pu_iald hC (by decide +kernel : decode cX12_undo 117 = .ok (.iaload, 1)) hU ho0 rfl H.1 ?_
    replace H := H.2
    refine pv_iast hC (by decide +kernel : decode cX12_undo 118 = .ok (.iastore, 1)) hU ho0 rfl H.1 (fun U_9 h e_U_9 hU => ?_)
    replace H := H.2 U_9 e_U_9
    refine pr_aload_n hC (by decide +kernel : decode cX12_undo 119 = .ok (.aload_n 0, 1)) rfl ?_
    refine pu_g1 hC fg_X12_71 (by decide +kernel : decode cX12_undo 120 = .ok (.getfield 71, 3)) hU ho0 (by decide) rfl (by decide) ?_
    refine pr_iload_n hC (by decide +kernel : decode cX12_undo 123 = .ok (.iload_n 2, 1)) rfl ?_
    refine pr_aload_n hC (by decide +kernel : decode cX12_undo 124 = .ok (.aload_n 0, 1)) rfl ?_
    refine pu_g1 hC fg_X12_81 (by decide +kernel : decode cX12_undo 125 = .ok (.getfield 81, 3)) hU ho0 (by decide) rfl (by decide) ?_
    refine pr_bipush hC (10) (by decide +kernel : decode cX12_undo 128 = .ok (.bipush 10, 2)) rfl ?_
    refine pr_aload_n hC (by decide +kernel : decode cX12_undo 130 = .ok (.aload_n 0, 1)) rfl ?_
    refine pu_g0 hC fg_X12_344 (by decide +kernel : decode cX12_undo 131 = .ok (.getfield 344, 3)) hU ho0 (by decide) rfl rfl ?_
    refine pr_imul hC (by decide +kernel : decode cX12_undo 134 = .ok (.imul, 1)) ?_
    refine pr_iload_n hC (by decide +kernel : decode cX12_undo 135 = .ok (.iload_n 2, 1)) rfl ?_
    refine pr_iadd hC (by decide +kernel : decode cX12_undo 136 = .ok (.iadd, 1)) ?_
    refine pu_fald hC (by decide +kernel : decode cX12_undo 137 = .ok (.faload, 1)) hU ho0 rfl H.1 ?_
    replace H := H.2
    refine pv_fast hC (by decide +kernel : decode cX12_undo 138 = .ok (.fastore, 1)) hU ho0 rfl H.1 (fun U_10 h e_U_10 hU => ?_)
    replace H := H.2 U_10 e_U_10
    refine pv_iinc hC (v := x2 + 1) (by decide +kernel : decode cX12_undo 139 = .ok (.iinc 2 1, 3)) rfl (by decide) rfl rfl (fun x2_11 e_x2_11 => ?_)
    replace H := H x2_11 e_x2_11
    refine pr_goto hC 79 (by decide +kernel : decode cX12_undo 142 = .ok (.goto (-63), 3)) (by decide) ?_
    exact pv_sub [some (.ref (Y.2.1 o0)), some (.int x1), some (.int x2_11)] (And.intro rfl (And.intro rfl (And.intro rfl trivial))) (ih _ U_10 h hU H)
set_option maxHeartbeats 4000000 in
theorem t_X12_undo {l : Launch} {Y : px_Y} {o : Nat} {U : Um} {post : Int32 → Um → Prop} (ho : oc o = 10) (H : w_X12_undo o U post) : um l Y 0 yX12_undo cX12_undo 3 (some (.int)) [.ref (Y.2.1 o)] U (pq_i post) := by
  unfold w_X12_undo at H
  refine um_of (by decide) (Nat.le_of_ble_eq_true rfl) [some (.ref (Y.2.1 o)), none, none] rfl (fun X h0 hh sz hM hU => ?_)
  have hC := hM.1
  have hR := hM.2.2.1
  refine pr_aload_n hC (by decide +kernel : decode cX12_undo 0 = .ok (.aload_n 0, 1)) rfl ?_
  refine pr_iconst hC (0) (by decide +kernel : decode cX12_undo 1 = .ok (.iconst 0, 1)) rfl ?_
  refine pv_p0 hC fp_X12_121 (by decide +kernel : decode cX12_undo 2 = .ok (.putfield 121, 3)) hU ho (by decide) rfl rfl rfl rfl (fun U_1 h e_U_1 hU => ?_)
  replace H := H U_1 e_U_1
  refine pr_aload_n hC (by decide +kernel : decode cX12_undo 5 = .ok (.aload_n 0, 1)) rfl ?_
  refine pu_g0 hC fg_X12_344 (by decide +kernel : decode cX12_undo 6 = .ok (.getfield 344, 3)) hU ho (by decide) rfl rfl ?_
  refine pr_if_ne hC 14 (by decide +kernel : decode cX12_undo 9 = .ok (.ifCond .ne 5, 3)) (by decide) (fun c_9 => ?_) (fun c_9 => ?_)
  · replace H := H.2 c_9
    refine pr_aload_n hC (by decide +kernel : decode cX12_undo 14 = .ok (.aload_n 0, 1)) rfl ?_
    refine pr_dup hC (by decide +kernel : decode cX12_undo 15 = .ok (.dup, 1)) rfl ?_
    refine pu_g0 hC fg_X12_344 (by decide +kernel : decode cX12_undo 16 = .ok (.getfield 344, 3)) hU ho (by decide) rfl rfl ?_
    refine pr_iconst hC (1) (by decide +kernel : decode cX12_undo 19 = .ok (.iconst 1, 1)) rfl ?_
    refine pr_isub hC (by decide +kernel : decode cX12_undo 20 = .ok (.isub, 1)) ?_
    refine pv_p0 hC fp_X12_344 (by decide +kernel : decode cX12_undo 21 = .ok (.putfield 344, 3)) hU ho (by decide) rfl rfl rfl rfl (fun U_2 h e_U_2 hU => ?_)
    replace H := H U_2 e_U_2
    refine pr_bipush hC (117) (by decide +kernel : decode cX12_undo 24 = .ok (.bipush 117, 2)) rfl ?_
    refine pr_aload_n hC (by decide +kernel : decode cX12_undo 26 = .ok (.aload_n 0, 1)) rfl ?_
    refine pu_g0 hC fg_X12_344 (by decide +kernel : decode cX12_undo 27 = .ok (.getfield 344, 3)) hU ho (by decide) rfl rfl ?_
    refine pr_imul hC (by decide +kernel : decode cX12_undo 30 = .ok (.imul, 1)) ?_
    refine pv_topi (fun x1_3 e_x1_3 => ?_)
    replace H := H x1_3 e_x1_3
    refine pr_istore_n hC (by decide +kernel : decode cX12_undo 31 = .ok (.istore_n 1, 1)) (by decide) rfl ?_
    refine pr_iconst hC (0) (by decide +kernel : decode cX12_undo 32 = .ok (.iconst 0, 1)) rfl ?_
    refine pr_istore_n hC (by decide +kernel : decode cX12_undo 33 = .ok (.istore_n 2, 1)) (by decide) rfl ?_
    obtain ⟨n_15, H⟩ := H
    refine pv_sub [some (.ref (Y.2.1 o)), some (.int x1_3), some (.int 0)] (And.intro rfl (And.intro rfl (And.intro rfl trivial))) ?_
    refine tl_X12_undo_L34 _ _ _ _ ho hC hM hR (fun U_7 h H hU => ?_) n_15 _ U_2 h hU H
    refine pr_iconst hC (0) (by decide +kernel : decode cX12_undo 77 = .ok (.iconst 0, 1)) rfl ?_
    refine pr_istore_n hC (by decide +kernel : decode cX12_undo 78 = .ok (.istore_n 2, 1)) (by decide) rfl ?_
    obtain ⟨n_14, H⟩ := H
    refine pv_sub [some (.ref (Y.2.1 o)), some (.int x1_3), some (.int 0)] (And.intro rfl (And.intro rfl (And.intro rfl trivial))) ?_
    refine tl_X12_undo_L79 _ _ _ _ ho hC hM hR (fun U_12 h H hU => ?_) n_14 _ U_7 h hU H
    refine pr_aload_n hC (by decide +kernel : decode cX12_undo 145 = .ok (.aload_n 0, 1)) rfl ?_
    refine pr_aload_n hC (by decide +kernel : decode cX12_undo 146 = .ok (.aload_n 0, 1)) rfl ?_
    refine pu_g1 hC fg_X12_78 (by decide +kernel : decode cX12_undo 147 = .ok (.getfield 78, 3)) hU ho (by decide) rfl (by decide) ?_
    refine pr_iload_n hC (by decide +kernel : decode cX12_undo 150 = .ok (.iload_n 1, 1)) rfl ?_
    refine pr_bipush hC (116) (by decide +kernel : decode cX12_undo 151 = .ok (.bipush 116, 2)) rfl ?_
    refine pr_iadd hC (by decide +kernel : decode cX12_undo 153 = .ok (.iadd, 1)) ?_
    refine pu_iald hC (by decide +kernel : decode cX12_undo 154 = .ok (.iaload, 1)) hU ho rfl H.1 ?_
    replace H := H.2
    refine pv_p0 hC fp_X12_75 (by decide +kernel : decode cX12_undo 155 = .ok (.putfield 75, 3)) hU ho (by decide) rfl rfl rfl rfl (fun U_13 h e_U_13 hU => ?_)
    replace H := H U_13 e_U_13
    refine pr_aload_n hC (by decide +kernel : decode cX12_undo 158 = .ok (.aload_n 0, 1)) rfl ?_
    refine pu_g0 hC fg_X12_344 (by decide +kernel : decode cX12_undo 159 = .ok (.getfield 344, 3)) hU ho (by decide) rfl rfl ?_
    exact pv_iret hM (by decide +kernel : decode cX12_undo 162 = .ok (.ireturn, 1)) hU H
  replace H := H.1 c_9
  refine pr_iconst hC (-1) (by decide +kernel : decode cX12_undo 12 = .ok (.iconst (-1), 1)) rfl ?_
  exact pv_iret hM (by decide +kernel : decode cX12_undo 13 = .ok (.ireturn, 1)) hU H
def w_X12_isField (o : Nat) (a1 : Int32) (U : Um) (post : Int32 → Um → Prop) : Prop :=
  vp_in 0 14 ∧ w_X12_isIn (Int32.toInt64 a1) 0 (Int32.toInt64 ((uA U o 11 (Int32.toNatClampNeg 0)) - 1)) U (fun r_2 U_1 => (r_2 = 0 ∨ r_2 = 1) ∧ post r_2 U_1)
set_option maxHeartbeats 4000000 in
theorem t_X12_isField {l : Launch} {Y : px_Y} {o : Nat} {a1 : Int32} {U : Um} {post : Int32 → Um → Prop} (ho : oc o = 10) (H : w_X12_isField o a1 U post) : um l Y 1 yX12_isField cX12_isField 2 (some (.boolean)) [.ref (Y.2.1 o), .int a1] U (pq_i post) := by
  unfold w_X12_isField at H
  refine um_of (by decide) (Nat.le_of_ble_eq_true rfl) [some (.ref (Y.2.1 o)), some (.int a1)] rfl (fun X h0 hh sz hM hU => ?_)
  have hC := hM.1
  have hR := hM.2.2.1
  refine pr_iload_n hC (by decide +kernel : decode cX12_isField 0 = .ok (.iload_n 1, 1)) rfl ?_
  refine pr_i2l hC (by decide +kernel : decode cX12_isField 1 = .ok (.i2l, 1)) ?_
  refine pr_lconst hC (0) (by decide +kernel : decode cX12_isField 2 = .ok (.lconst 0, 1)) rfl ?_
  refine pr_aload_n hC (by decide +kernel : decode cX12_isField 3 = .ok (.aload_n 0, 1)) rfl ?_
  refine pu_g1 hC fg_X12_43 (by decide +kernel : decode cX12_isField 4 = .ok (.getfield 43, 3)) hU ho (by decide) rfl (by decide) ?_
  refine pr_iconst hC (0) (by decide +kernel : decode cX12_isField 7 = .ok (.iconst 0, 1)) rfl ?_
  refine pu_iald hC (by decide +kernel : decode cX12_isField 8 = .ok (.iaload, 1)) hU ho rfl H.1 ?_
  replace H := H.2
  refine pr_iconst hC (1) (by decide +kernel : decode cX12_isField 9 = .ok (.iconst 1, 1)) rfl ?_
  refine pr_isub hC (by decide +kernel : decode cX12_isField 10 = .ok (.isub, 1)) ?_
  refine pr_i2l hC (by decide +kernel : decode cX12_isField 11 = .ok (.i2l, 1)) ?_
  refine vc_Si hC hR [.long (Int32.toInt64 a1), .long 0, .long (Int32.toInt64 ((uA U o 11 (Int32.toNatClampNeg 0)) - 1))] fv_X12_131 (by decide +kernel : decode cX12_isField 12 = .ok (.invokestatic 131, 3)) hU (t_X12_isIn  H) rfl rfl (Nat.le_of_ble_eq_true rfl) (Nat.le_of_ble_eq_true rfl) (Nat.le_refl 0) (Nat.le_refl 0) (fun r_2 U_1 h H hU => ?_)
  exact pv_zret hM (by decide +kernel : decode cX12_isField 15 = .ok (.ireturn, 1)) H.1 hU H.2
def w_X12_isOne (o : Nat) (a1 : Int32) (U : Um) (post : Int32 → Um → Prop) : Prop :=
  vp_in 2 14 ∧ w_X12_isIn (Int32.toInt64 a1) 0 (Int32.toInt64 ((uA U o 11 (Int32.toNatClampNeg 2)) - 1)) U (fun r_2 U_1 => (r_2 = 0 ∨ r_2 = 1) ∧ post r_2 U_1)
set_option maxHeartbeats 4000000 in
theorem t_X12_isOne {l : Launch} {Y : px_Y} {o : Nat} {a1 : Int32} {U : Um} {post : Int32 → Um → Prop} (ho : oc o = 10) (H : w_X12_isOne o a1 U post) : um l Y 1 yX12_isOne cX12_isOne 2 (some (.boolean)) [.ref (Y.2.1 o), .int a1] U (pq_i post) := by
  unfold w_X12_isOne at H
  refine um_of (by decide) (Nat.le_of_ble_eq_true rfl) [some (.ref (Y.2.1 o)), some (.int a1)] rfl (fun X h0 hh sz hM hU => ?_)
  have hC := hM.1
  have hR := hM.2.2.1
  refine pr_iload_n hC (by decide +kernel : decode cX12_isOne 0 = .ok (.iload_n 1, 1)) rfl ?_
  refine pr_i2l hC (by decide +kernel : decode cX12_isOne 1 = .ok (.i2l, 1)) ?_
  refine pr_lconst hC (0) (by decide +kernel : decode cX12_isOne 2 = .ok (.lconst 0, 1)) rfl ?_
  refine pr_aload_n hC (by decide +kernel : decode cX12_isOne 3 = .ok (.aload_n 0, 1)) rfl ?_
  refine pu_g1 hC fg_X12_43 (by decide +kernel : decode cX12_isOne 4 = .ok (.getfield 43, 3)) hU ho (by decide) rfl (by decide) ?_
  refine pr_iconst hC (2) (by decide +kernel : decode cX12_isOne 7 = .ok (.iconst 2, 1)) rfl ?_
  refine pu_iald hC (by decide +kernel : decode cX12_isOne 8 = .ok (.iaload, 1)) hU ho rfl H.1 ?_
  replace H := H.2
  refine pr_iconst hC (1) (by decide +kernel : decode cX12_isOne 9 = .ok (.iconst 1, 1)) rfl ?_
  refine pr_isub hC (by decide +kernel : decode cX12_isOne 10 = .ok (.isub, 1)) ?_
  refine pr_i2l hC (by decide +kernel : decode cX12_isOne 11 = .ok (.i2l, 1)) ?_
  refine vc_Si hC hR [.long (Int32.toInt64 a1), .long 0, .long (Int32.toInt64 ((uA U o 11 (Int32.toNatClampNeg 2)) - 1))] fv_X12_131 (by decide +kernel : decode cX12_isOne 12 = .ok (.invokestatic 131, 3)) hU (t_X12_isIn  H) rfl rfl (Nat.le_of_ble_eq_true rfl) (Nat.le_of_ble_eq_true rfl) (Nat.le_refl 0) (Nat.le_refl 0) (fun r_2 U_1 h H hU => ?_)
  exact pv_zret hM (by decide +kernel : decode cX12_isOne 15 = .ok (.ireturn, 1)) H.1 hU H.2
def w_X12_isGame (o : Nat) (a1 : Int32) (U : Um) (post : Int32 → Um → Prop) : Prop :=
  vp_in 3 14 ∧ w_X12_isIn (Int32.toInt64 a1) 0 (Int32.toInt64 ((uA U o 11 (Int32.toNatClampNeg 3)) - 1)) U (fun r_2 U_1 => (r_2 = 0 ∨ r_2 = 1) ∧ post r_2 U_1)
set_option maxHeartbeats 4000000 in
theorem t_X12_isGame {l : Launch} {Y : px_Y} {o : Nat} {a1 : Int32} {U : Um} {post : Int32 → Um → Prop} (ho : oc o = 10) (H : w_X12_isGame o a1 U post) : um l Y 1 yX12_isGame cX12_isGame 2 (some (.boolean)) [.ref (Y.2.1 o), .int a1] U (pq_i post) := by
  unfold w_X12_isGame at H
  refine um_of (by decide) (Nat.le_of_ble_eq_true rfl) [some (.ref (Y.2.1 o)), some (.int a1)] rfl (fun X h0 hh sz hM hU => ?_)
  have hC := hM.1
  have hR := hM.2.2.1
  refine pr_iload_n hC (by decide +kernel : decode cX12_isGame 0 = .ok (.iload_n 1, 1)) rfl ?_
  refine pr_i2l hC (by decide +kernel : decode cX12_isGame 1 = .ok (.i2l, 1)) ?_
  refine pr_lconst hC (0) (by decide +kernel : decode cX12_isGame 2 = .ok (.lconst 0, 1)) rfl ?_
  refine pr_aload_n hC (by decide +kernel : decode cX12_isGame 3 = .ok (.aload_n 0, 1)) rfl ?_
  refine pu_g1 hC fg_X12_43 (by decide +kernel : decode cX12_isGame 4 = .ok (.getfield 43, 3)) hU ho (by decide) rfl (by decide) ?_
  refine pr_iconst hC (3) (by decide +kernel : decode cX12_isGame 7 = .ok (.iconst 3, 1)) rfl ?_
  refine pu_iald hC (by decide +kernel : decode cX12_isGame 8 = .ok (.iaload, 1)) hU ho rfl H.1 ?_
  replace H := H.2
  refine pr_iconst hC (1) (by decide +kernel : decode cX12_isGame 9 = .ok (.iconst 1, 1)) rfl ?_
  refine pr_isub hC (by decide +kernel : decode cX12_isGame 10 = .ok (.isub, 1)) ?_
  refine pr_i2l hC (by decide +kernel : decode cX12_isGame 11 = .ok (.i2l, 1)) ?_
  refine vc_Si hC hR [.long (Int32.toInt64 a1), .long 0, .long (Int32.toInt64 ((uA U o 11 (Int32.toNatClampNeg 3)) - 1))] fv_X12_131 (by decide +kernel : decode cX12_isGame 12 = .ok (.invokestatic 131, 3)) hU (t_X12_isIn  H) rfl rfl (Nat.le_of_ble_eq_true rfl) (Nat.le_of_ble_eq_true rfl) (Nat.le_refl 0) (Nat.le_refl 0) (fun r_2 U_1 h H hU => ?_)
  exact pv_zret hM (by decide +kernel : decode cX12_isGame 15 = .ok (.ireturn, 1)) H.1 hU H.2
def w_X12_of (o : Nat) (a1 : Int32) (a2 : Int32) (U : Um) (post : Int32 → Um → Prop) : Prop :=
  vp_in ((8 * a1) + a2) 256 ∧ post (uA U o 10 (Int32.toNatClampNeg ((8 * a1) + a2))) U
set_option maxHeartbeats 4000000 in
theorem t_X12_of {l : Launch} {Y : px_Y} {o : Nat} {a1 : Int32} {a2 : Int32} {U : Um} {post : Int32 → Um → Prop} (ho : oc o = 10) (H : w_X12_of o a1 a2 U post) : um l Y 0 yX12_of cX12_of 3 (some (.int)) [.ref (Y.2.1 o), .int a1, .int a2] U (pq_i post) := by
  unfold w_X12_of at H
  refine um_of (by decide) (Nat.le_of_ble_eq_true rfl) [some (.ref (Y.2.1 o)), some (.int a1), some (.int a2)] rfl (fun X h0 hh sz hM hU => ?_)
  have hC := hM.1
  have hR := hM.2.2.1
  refine pr_aload_n hC (by decide +kernel : decode cX12_of 0 = .ok (.aload_n 0, 1)) rfl ?_
  refine pu_g1 hC fg_X12_40 (by decide +kernel : decode cX12_of 1 = .ok (.getfield 40, 3)) hU ho (by decide) rfl (by decide) ?_
  refine pr_bipush hC (8) (by decide +kernel : decode cX12_of 4 = .ok (.bipush 8, 2)) rfl ?_
  refine pr_iload_n hC (by decide +kernel : decode cX12_of 6 = .ok (.iload_n 1, 1)) rfl ?_
  refine pr_imul hC (by decide +kernel : decode cX12_of 7 = .ok (.imul, 1)) ?_
  refine pr_iload_n hC (by decide +kernel : decode cX12_of 8 = .ok (.iload_n 2, 1)) rfl ?_
  refine pr_iadd hC (by decide +kernel : decode cX12_of 9 = .ok (.iadd, 1)) ?_
  refine pu_iald hC (by decide +kernel : decode cX12_of 10 = .ok (.iaload, 1)) hU ho rfl H.1 ?_
  replace H := H.2
  exact pv_iret hM (by decide +kernel : decode cX12_of 11 = .ok (.ireturn, 1)) hU H
def w_X12_isSeat (o : Nat) (a1 : Int32) (a2 : Int32) (U : Um) (post : Int32 → Um → Prop) : Prop :=
  w_X12_isGame o a1 U (fun r_2 U_1 => (r_2 = 0 → post 0 U_1) ∧ (¬ r_2 = 0 → w_X12_of o a1 7 U_1 (fun r_4 U_3 => w_X12_isIn (Int32.toInt64 a2) 0 (Int32.toInt64 (r_4 - 1)) U_3 (fun r_6 U_5 => (r_6 = 0 → post 0 U_5) ∧ (¬ r_6 = 0 → post 1 U_5)))))
set_option maxHeartbeats 4000000 in
theorem t_X12_isSeat {l : Launch} {Y : px_Y} {o : Nat} {a1 : Int32} {a2 : Int32} {U : Um} {post : Int32 → Um → Prop} (ho : oc o = 10) (H : w_X12_isSeat o a1 a2 U post) : um l Y 2 yX12_isSeat cX12_isSeat 3 (some (.boolean)) [.ref (Y.2.1 o), .int a1, .int a2] U (pq_i post) := by
  unfold w_X12_isSeat at H
  refine um_of (by decide) (Nat.le_of_ble_eq_true rfl) [some (.ref (Y.2.1 o)), some (.int a1), some (.int a2)] rfl (fun X h0 hh sz hM hU => ?_)
  have hC := hM.1
  have hR := hM.2.2.1
  refine pr_aload_n hC (by decide +kernel : decode cX12_isSeat 0 = .ok (.aload_n 0, 1)) rfl ?_
  refine pr_iload_n hC (by decide +kernel : decode cX12_isSeat 1 = .ok (.iload_n 1, 1)) rfl ?_
  refine vc_Vi hC hR [.int a1] fv_X12_350 (by decide +kernel : decode cX12_isSeat 2 = .ok (.invokevirtual 350, 3)) hU (t_X12_isGame ho H) ho (by decide) rfl rfl rfl (Nat.le_of_ble_eq_true rfl) (Nat.le_of_ble_eq_true rfl) (Nat.le_refl 0) (Nat.le_refl 0) (fun r_2 U_1 h H hU => ?_)
  refine pr_if_eq hC 31 (by decide +kernel : decode cX12_isSeat 5 = .ok (.ifCond .eq 26, 3)) (by decide) (fun c_5 => ?_) (fun c_5 => ?_)
  · replace H := H.1 c_5
    refine pr_iconst hC (0) (by decide +kernel : decode cX12_isSeat 31 = .ok (.iconst 0, 1)) rfl ?_
    exact pv_zret hM (by decide +kernel : decode cX12_isSeat 32 = .ok (.ireturn, 1)) (Or.inl rfl) hU H
  replace H := H.2 c_5
  refine pr_iload_n hC (by decide +kernel : decode cX12_isSeat 8 = .ok (.iload_n 2, 1)) rfl ?_
  refine pr_i2l hC (by decide +kernel : decode cX12_isSeat 9 = .ok (.i2l, 1)) ?_
  refine pr_lconst hC (0) (by decide +kernel : decode cX12_isSeat 10 = .ok (.lconst 0, 1)) rfl ?_
  refine pr_aload_n hC (by decide +kernel : decode cX12_isSeat 11 = .ok (.aload_n 0, 1)) rfl ?_
  refine pr_iload_n hC (by decide +kernel : decode cX12_isSeat 12 = .ok (.iload_n 1, 1)) rfl ?_
  refine pr_bipush hC (7) (by decide +kernel : decode cX12_isSeat 13 = .ok (.bipush 7, 2)) rfl ?_
  refine vc_Vi hC hR [.int a1, .int 7] fv_X12_353 (by decide +kernel : decode cX12_isSeat 15 = .ok (.invokevirtual 353, 3)) hU (t_X12_of ho H) ho (by decide) rfl rfl rfl (Nat.le_of_ble_eq_true rfl) (Nat.le_of_ble_eq_true rfl) (Nat.le_refl 0) (Nat.le_refl 0) (fun r_4 U_3 h H hU => ?_)
  refine pr_iconst hC (1) (by decide +kernel : decode cX12_isSeat 18 = .ok (.iconst 1, 1)) rfl ?_
  refine pr_isub hC (by decide +kernel : decode cX12_isSeat 19 = .ok (.isub, 1)) ?_
  refine pr_i2l hC (by decide +kernel : decode cX12_isSeat 20 = .ok (.i2l, 1)) ?_
  refine vc_Si hC hR [.long (Int32.toInt64 a2), .long 0, .long (Int32.toInt64 (r_4 - 1))] fv_X12_131 (by decide +kernel : decode cX12_isSeat 21 = .ok (.invokestatic 131, 3)) hU (t_X12_isIn  H) rfl rfl (Nat.le_of_ble_eq_true rfl) (Nat.le_of_ble_eq_true rfl) (Nat.le_refl 0) (Nat.le_refl 0) (fun r_6 U_5 h H hU => ?_)
  refine pr_if_eq hC 31 (by decide +kernel : decode cX12_isSeat 24 = .ok (.ifCond .eq 7, 3)) (by decide) (fun c_24 => ?_) (fun c_24 => ?_)
  · replace H := H.1 c_24
    refine pr_iconst hC (0) (by decide +kernel : decode cX12_isSeat 31 = .ok (.iconst 0, 1)) rfl ?_
    exact pv_zret hM (by decide +kernel : decode cX12_isSeat 32 = .ok (.ireturn, 1)) (Or.inl rfl) hU H
  replace H := H.2 c_24
  refine pr_iconst hC (1) (by decide +kernel : decode cX12_isSeat 27 = .ok (.iconst 1, 1)) rfl ?_
  refine pr_goto hC 32 (by decide +kernel : decode cX12_isSeat 28 = .ok (.goto 4, 3)) (by decide) ?_
  exact pv_zret hM (by decide +kernel : decode cX12_isSeat 32 = .ok (.ireturn, 1)) (Or.inr rfl) hU H
def w_X12_at (a1 : Int32) (a2 : Int32) (U : Um) (post : Int32 → Um → Prop) : Prop :=
  post ((3 * a1) + a2) U
set_option maxHeartbeats 4000000 in
theorem t_X12_at {l : Launch} {Y : px_Y} {a1 : Int32} {a2 : Int32} {U : Um} {post : Int32 → Um → Prop}  (H : w_X12_at a1 a2 U post) : um l Y 0 yX12_at cX12_at 2 (some (.int)) [.int a1, .int a2] U (pq_i post) := by
  unfold w_X12_at at H
  refine um_of (by decide) (Nat.le_of_ble_eq_true rfl) [some (.int a1), some (.int a2)] rfl (fun X h0 hh sz hM hU => ?_)
  have hC := hM.1
  have hR := hM.2.2.1
  refine pr_iconst hC (3) (by decide +kernel : decode cX12_at 0 = .ok (.iconst 3, 1)) rfl ?_
  refine pr_iload_n hC (by decide +kernel : decode cX12_at 1 = .ok (.iload_n 0, 1)) rfl ?_
  refine pr_imul hC (by decide +kernel : decode cX12_at 2 = .ok (.imul, 1)) ?_
  refine pr_iload_n hC (by decide +kernel : decode cX12_at 3 = .ok (.iload_n 1, 1)) rfl ?_
  refine pr_iadd hC (by decide +kernel : decode cX12_at 4 = .ok (.iadd, 1)) ?_
  exact pv_iret hM (by decide +kernel : decode cX12_at 5 = .ok (.ireturn, 1)) hU H
def w_X12_isPlayed (o : Nat) (a1 : Int32) (U : Um) (post : Int32 → Um → Prop) : Prop :=
  w_X12_of o a1 3 U (fun r_2 U_1 => ((uI U_1 o 35) ≤ r_2 → post 0 U_1) ∧ (¬ (uI U_1 o 35) ≤ r_2 → post 1 U_1))
set_option maxHeartbeats 4000000 in
theorem t_X12_isPlayed {l : Launch} {Y : px_Y} {o : Nat} {a1 : Int32} {U : Um} {post : Int32 → Um → Prop} (ho : oc o = 10) (H : w_X12_isPlayed o a1 U post) : um l Y 1 yX12_isPlayed cX12_isPlayed 2 (some (.boolean)) [.ref (Y.2.1 o), .int a1] U (pq_i post) := by
  unfold w_X12_isPlayed at H
  refine um_of (by decide) (Nat.le_of_ble_eq_true rfl) [some (.ref (Y.2.1 o)), some (.int a1)] rfl (fun X h0 hh sz hM hU => ?_)
  have hC := hM.1
  have hR := hM.2.2.1
  refine pr_aload_n hC (by decide +kernel : decode cX12_isPlayed 0 = .ok (.aload_n 0, 1)) rfl ?_
  refine pr_iload_n hC (by decide +kernel : decode cX12_isPlayed 1 = .ok (.iload_n 1, 1)) rfl ?_
  refine pr_iconst hC (3) (by decide +kernel : decode cX12_isPlayed 2 = .ok (.iconst 3, 1)) rfl ?_
  refine vc_Vi hC hR [.int a1, .int 3] fv_X12_353 (by decide +kernel : decode cX12_isPlayed 3 = .ok (.invokevirtual 353, 3)) hU (t_X12_of ho H) ho (by decide) rfl rfl rfl (Nat.le_of_ble_eq_true rfl) (Nat.le_of_ble_eq_true rfl) (Nat.le_refl 0) (Nat.le_refl 0) (fun r_2 U_1 h H hU => ?_)
  refine pr_aload_n hC (by decide +kernel : decode cX12_isPlayed 6 = .ok (.aload_n 0, 1)) rfl ?_
  refine pu_g0 hC fg_X12_75 (by decide +kernel : decode cX12_isPlayed 7 = .ok (.getfield 75, 3)) hU ho (by decide) rfl rfl ?_
  refine pr_icmp_ge hC 17 (by decide +kernel : decode cX12_isPlayed 10 = .ok (.if_icmp .ge 7, 3)) (by decide) (fun c_10 => ?_) (fun c_10 => ?_)
  · replace H := H.1 c_10
    refine pr_iconst hC (0) (by decide +kernel : decode cX12_isPlayed 17 = .ok (.iconst 0, 1)) rfl ?_
    exact pv_zret hM (by decide +kernel : decode cX12_isPlayed 18 = .ok (.ireturn, 1)) (Or.inl rfl) hU H
  replace H := H.2 c_10
  refine pr_iconst hC (1) (by decide +kernel : decode cX12_isPlayed 13 = .ok (.iconst 1, 1)) rfl ?_
  refine pr_goto hC 18 (by decide +kernel : decode cX12_isPlayed 14 = .ok (.goto 4, 3)) (by decide) ?_
  exact pv_zret hM (by decide +kernel : decode cX12_isPlayed 18 = .ok (.ireturn, 1)) (Or.inr rfl) hU H
def w_X12_isLate (o : Nat) (a1 : Int32) (U : Um) (post : Int32 → Um → Prop) : Prop :=
  w_X12_of o a1 3 U (fun r_2 U_1 => (r_2 = (uI U_1 o 35) → post 1 U_1) ∧ (¬ r_2 = (uI U_1 o 35) → post 0 U_1))
set_option maxHeartbeats 4000000 in
theorem t_X12_isLate {l : Launch} {Y : px_Y} {o : Nat} {a1 : Int32} {U : Um} {post : Int32 → Um → Prop} (ho : oc o = 10) (H : w_X12_isLate o a1 U post) : um l Y 1 yX12_isLate cX12_isLate 2 (some (.boolean)) [.ref (Y.2.1 o), .int a1] U (pq_i post) := by
  unfold w_X12_isLate at H
  refine um_of (by decide) (Nat.le_of_ble_eq_true rfl) [some (.ref (Y.2.1 o)), some (.int a1)] rfl (fun X h0 hh sz hM hU => ?_)
  have hC := hM.1
  have hR := hM.2.2.1
  refine pr_aload_n hC (by decide +kernel : decode cX12_isLate 0 = .ok (.aload_n 0, 1)) rfl ?_
  refine pr_iload_n hC (by decide +kernel : decode cX12_isLate 1 = .ok (.iload_n 1, 1)) rfl ?_
  refine pr_iconst hC (3) (by decide +kernel : decode cX12_isLate 2 = .ok (.iconst 3, 1)) rfl ?_
  refine vc_Vi hC hR [.int a1, .int 3] fv_X12_353 (by decide +kernel : decode cX12_isLate 3 = .ok (.invokevirtual 353, 3)) hU (t_X12_of ho H) ho (by decide) rfl rfl rfl (Nat.le_of_ble_eq_true rfl) (Nat.le_of_ble_eq_true rfl) (Nat.le_refl 0) (Nat.le_refl 0) (fun r_2 U_1 h H hU => ?_)
  refine pr_aload_n hC (by decide +kernel : decode cX12_isLate 6 = .ok (.aload_n 0, 1)) rfl ?_
  refine pu_g0 hC fg_X12_75 (by decide +kernel : decode cX12_isLate 7 = .ok (.getfield 75, 3)) hU ho (by decide) rfl rfl ?_
  refine pr_icmp_ne hC 17 (by decide +kernel : decode cX12_isLate 10 = .ok (.if_icmp .ne 7, 3)) (by decide) (fun c_10 => ?_) (fun c_10 => ?_)
  · replace H := H.2 c_10
    refine pr_iconst hC (0) (by decide +kernel : decode cX12_isLate 17 = .ok (.iconst 0, 1)) rfl ?_
    exact pv_zret hM (by decide +kernel : decode cX12_isLate 18 = .ok (.ireturn, 1)) (Or.inl rfl) hU H
  replace H := H.1 c_10
  refine pr_iconst hC (1) (by decide +kernel : decode cX12_isLate 13 = .ok (.iconst 1, 1)) rfl ?_
  refine pr_goto hC 18 (by decide +kernel : decode cX12_isLate 14 = .ok (.goto 4, 3)) (by decide) ?_
  exact pv_zret hM (by decide +kernel : decode cX12_isLate 18 = .ok (.ireturn, 1)) (Or.inr rfl) hU H
def b_X12_seatsOf_L4 (o0 : Nat) (x1 : Int32) (post : Int32 → Um → Prop) (k_37 : Int32 → Um → Prop) (rec_ : Int32 → Int32 → Um → Prop) (x2 : Int32) (x3 : Int32) (U : Um) : Prop :=
  ((48 : Int32) ≤ x3 → k_37 x2 U) ∧ (¬ (48 : Int32) ≤ x3 → vp_in x3 48 ∧ ∀ (xs_1 : Int32), xs_1 = (if (uA U o0 30 (Int32.toNatClampNeg x3)) = x1 then 1 else 0) → w_X12_one xs_1 U (fun r_3 U_2 => ∀ (x2_4 : Int32), x2_4 = x2 + r_3 → ∀ (x3_5 : Int32), x3_5 = x3 + 1 → rec_ x2_4 x3_5 U_2))
def w_X12_seatsOf_L4 (o0 : Nat) (x1 : Int32) (post : Int32 → Um → Prop) (k_37 : Int32 → Um → Prop) (n_ : Nat) : Int32 → Int32 → Um → Prop := Nat.rec (motive := fun _ => Int32 → Int32 → Um → Prop) (fun _ _ _ => False) (fun _ ih => b_X12_seatsOf_L4 o0 x1 post k_37 ih) n_
def w_X12_seatsOf (o : Nat) (a1 : Int32) (U : Um) (post : Int32 → Um → Prop) : Prop :=
  (∃ n_9, w_X12_seatsOf_L4 o a1 post (fun x2_7 U_8 => post x2_7 U_8) n_9 0 0 U)
set_option maxHeartbeats 4000000 in
theorem tl_X12_seatsOf_L4 {l : Launch} {Y : px_Y} {X : px_X} {h0 hh : pe_H} {sz : Nat} (o0 : Nat) (x1 : Int32) (post : Int32 → Um → Prop) (k_37 : Int32 → Um → Prop) (ho0 : oc o0 = 10)  (hC : px_C X Y.1 (pm_A hh sz) cX12_seatsOf RX12 4) (hM : px_M l X Y.1 hh sz yX12_seatsOf cX12_seatsOf 4 (some (.int)) 1 0 0) (hR : X.2.2.2.1 = pm_rm 1 0 0) (hk_37 : ∀ (y2 : Int32) (U : Um) (h : pe_H), k_37 y2 U → rF Y h0 U h → pw X Y.1 (pm_A hh sz) (pm_E X Y.1 hh sz 0 0 (pm_P Y h0 sz (pq_i post))) 37 [none, none, some (.int y2), none] [] h sz 0 0) : ∀ (n_ : Nat) (x2 : Int32) (x3 : Int32) (U : Um) (h : pe_H), rF Y h0 U h → w_X12_seatsOf_L4 o0 x1 post k_37 n_ x2 x3 U → pw X Y.1 (pm_A hh sz) (pm_E X Y.1 hh sz 0 0 (pm_P Y h0 sz (pq_i post))) 4 [some (.ref (Y.2.1 o0)), some (.int x1), some (.int x2), some (.int x3)] [] h sz 0 0 := by
  intro n_
  induction n_ with
  | zero => intro x2 x3 U h hU H; exact False.elim H
  | succ n_ ih =>
    intro x2 x3 U h hU H
    replace H : b_X12_seatsOf_L4 o0 x1 post k_37 (w_X12_seatsOf_L4 o0 x1 post k_37 n_) x2 x3 U := H
    unfold b_X12_seatsOf_L4 at H
    refine pr_iload_n hC (by decide +kernel : decode cX12_seatsOf 4 = .ok (.iload_n 3, 1)) rfl ?_
    refine pr_bipush hC (48) (by decide +kernel : decode cX12_seatsOf 5 = .ok (.bipush 48, 2)) rfl ?_
    refine pr_icmp_ge hC 37 (by decide +kernel : decode cX12_seatsOf 7 = .ok (.if_icmp .ge 30, 3)) (by decide) (fun c_7 => ?_) (fun c_7 => ?_)
    · replace H := H.1 c_7
      exact pv_sub [none, none, some (.int x2), none] (And.intro rfl trivial) (hk_37 _ U h H hU)
    replace H := H.2 c_7
    refine pr_iload_n hC (by decide +kernel : decode cX12_seatsOf 10 = .ok (.iload_n 2, 1)) rfl ?_
    refine pr_aload_n hC (by decide +kernel : decode cX12_seatsOf 11 = .ok (.aload_n 0, 1)) rfl ?_
    refine pu_g1 hC fg_X12_59 (by decide +kernel : decode cX12_seatsOf 12 = .ok (.getfield 59, 3)) hU ho0 (by decide) rfl (by decide) ?_
    refine pr_iload_n hC (by decide +kernel : decode cX12_seatsOf 15 = .ok (.iload_n 3, 1)) rfl ?_
    refine pu_iald hC (by decide +kernel : decode cX12_seatsOf 16 = .ok (.iaload, 1)) hU ho0 rfl H.1 ?_
    replace H := H.2
    refine pr_iload_n hC (by decide +kernel : decode cX12_seatsOf 17 = .ok (.iload_n 1, 1)) rfl ?_
    have HJ_6 : ∀ (xs_1 : Int32), xs_1 = (if (uA U o0 30 (Int32.toNatClampNeg x3)) = x1 then 1 else 0) → pw X Y.1 (pm_A hh sz) (pm_E X Y.1 hh sz 0 0 (pm_P Y h0 sz (pq_i post))) 26 [some (.ref (Y.2.1 o0)), some (.int x1), none, some (.int x3)] [.int xs_1, .int x2] h sz 0 0 := by
      intro xs_1 e_xs_1
      replace H := H xs_1 e_xs_1
      refine vc_Si hC hR [.int xs_1] fv_X12_357 (by decide +kernel : decode cX12_seatsOf 26 = .ok (.invokestatic 357, 3)) hU (t_X12_one  H) rfl rfl (Nat.le_of_ble_eq_true rfl) (Nat.le_of_ble_eq_true rfl) (Nat.le_refl 0) (Nat.le_refl 0) (fun r_3 U_2 h H hU => ?_)
      refine pr_iadd hC (by decide +kernel : decode cX12_seatsOf 29 = .ok (.iadd, 1)) ?_
      refine pv_topi (fun x2_4 e_x2_4 => ?_)
      replace H := H x2_4 e_x2_4
      refine pr_istore_n hC (by decide +kernel : decode cX12_seatsOf 30 = .ok (.istore_n 2, 1)) (by decide) rfl ?_
      refine pv_iinc hC (v := x3 + 1) (by decide +kernel : decode cX12_seatsOf 31 = .ok (.iinc 3 1, 3)) rfl (by decide) rfl rfl (fun x3_5 e_x3_5 => ?_)
      replace H := H x3_5 e_x3_5
      refine pr_goto hC 4 (by decide +kernel : decode cX12_seatsOf 34 = .ok (.goto (-30), 3)) (by decide) ?_
      exact pv_sub [some (.ref (Y.2.1 o0)), some (.int x1), some (.int x2_4), some (.int x3_5)] (And.intro rfl (And.intro rfl (And.intro rfl (And.intro rfl trivial)))) (ih _ _ U_2 h hU H)
    replace H := trivial
    refine pr_icmp_ne hC 25 (by decide +kernel : decode cX12_seatsOf 18 = .ok (.if_icmp .ne 7, 3)) (by decide) (fun c_18 => ?_) (fun c_18 => ?_)
    · skip
      refine pr_iconst hC (0) (by decide +kernel : decode cX12_seatsOf 25 = .ok (.iconst 0, 1)) rfl ?_
      exact pv_sub [some (.ref (Y.2.1 o0)), some (.int x1), none, some (.int x3)] (And.intro rfl (And.intro rfl (And.intro rfl trivial))) (HJ_6 _ (if_neg c_18).symm)
    skip
    refine pr_iconst hC (1) (by decide +kernel : decode cX12_seatsOf 21 = .ok (.iconst 1, 1)) rfl ?_
    refine pr_goto hC 26 (by decide +kernel : decode cX12_seatsOf 22 = .ok (.goto 4, 3)) (by decide) ?_
    exact pv_sub [some (.ref (Y.2.1 o0)), some (.int x1), none, some (.int x3)] (And.intro rfl (And.intro rfl (And.intro rfl trivial))) (HJ_6 _ (if_pos c_18).symm)
set_option maxHeartbeats 4000000 in
theorem t_X12_seatsOf {l : Launch} {Y : px_Y} {o : Nat} {a1 : Int32} {U : Um} {post : Int32 → Um → Prop} (ho : oc o = 10) (H : w_X12_seatsOf o a1 U post) : um l Y 1 yX12_seatsOf cX12_seatsOf 4 (some (.int)) [.ref (Y.2.1 o), .int a1] U (pq_i post) := by
  unfold w_X12_seatsOf at H
  refine um_of (by decide) (Nat.le_of_ble_eq_true rfl) [some (.ref (Y.2.1 o)), some (.int a1), none, none] rfl (fun X h0 hh sz hM hU => ?_)
  have hC := hM.1
  have hR := hM.2.2.1
  refine pr_iconst hC (0) (by decide +kernel : decode cX12_seatsOf 0 = .ok (.iconst 0, 1)) rfl ?_
  refine pr_istore_n hC (by decide +kernel : decode cX12_seatsOf 1 = .ok (.istore_n 2, 1)) (by decide) rfl ?_
  refine pr_iconst hC (0) (by decide +kernel : decode cX12_seatsOf 2 = .ok (.iconst 0, 1)) rfl ?_
  refine pr_istore_n hC (by decide +kernel : decode cX12_seatsOf 3 = .ok (.istore_n 3, 1)) (by decide) rfl ?_
  obtain ⟨n_9, H⟩ := H
  refine pv_sub [some (.ref (Y.2.1 o)), some (.int a1), some (.int 0), some (.int 0)] (And.intro rfl (And.intro rfl (And.intro rfl (And.intro rfl trivial)))) ?_
  refine tl_X12_seatsOf_L4 _ _ _ _ ho hC hM hR (fun x2_7 U_8 h H hU => ?_) n_9 _ _ U hh hU H
  refine pr_iload_n hC (by decide +kernel : decode cX12_seatsOf 37 = .ok (.iload_n 2, 1)) rfl ?_
  exact pv_iret hM (by decide +kernel : decode cX12_seatsOf 38 = .ok (.ireturn, 1)) hU H
