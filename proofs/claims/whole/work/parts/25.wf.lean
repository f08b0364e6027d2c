def b_X12_laysDay_L58 (o0 : Nat) (x1 : Int32) (x2 : Int32) (x3 : Int32) (x4 : Int32) (x5 : Int32) (x6 : Int32) (post : Int32 → Um → Prop) (k_109 : Int32 → Um → Prop) (rec_ : Int32 → Um → Prop) (x7 : Int32) (U : Um) : Prop :=
  (x7 ≤ 0 → k_109 x7 U) ∧ (¬ x7 ≤ 0 → vp_in (x7 - 1) 16 ∧ w_X12_of o0 (uA U o0 39 (Int32.toNatClampNeg (x7 - 1))) 4 U (fun r_8 U_7 => w_X12_of o0 x6 4 U_7 (fun r_10 U_9 => (r_8 ≤ r_10 → k_109 x7 U_9) ∧ (¬ r_8 ≤ r_10 → vp_in (x7 - 1) 16 ∧ vp_in x7 16 ∧ ∀ (U_11 : Um), U_11 = sA U_9 o0 39 (va_up (uA U_9 o0 39) (Int32.toNatClampNeg x7) (uA U_9 o0 39 (Int32.toNatClampNeg (x7 - 1)))) → ∀ (x7_12 : Int32), x7_12 = x7 + (-1) → rec_ x7_12 U_11))))
def w_X12_laysDay_L58 (o0 : Nat) (x1 : Int32) (x2 : Int32) (x3 : Int32) (x4 : Int32) (x5 : Int32) (x6 : Int32) (post : Int32 → Um → Prop) (k_109 : Int32 → Um → Prop) (n_ : Nat) : Int32 → Um → Prop := Nat.rec (motive := fun _ => Int32 → Um → Prop) (fun _ _ => False) (fun _ ih => b_X12_laysDay_L58 o0 x1 x2 x3 x4 x5 x6 post k_109 ih) n_
def b_X12_laysDay_L6 (o0 : Nat) (x1 : Int32) (x2 : Int32) (x3 : Int32) (x4 : Int32) (post : Int32 → Um → Prop) (k_127 : Int32 → Um → Prop) (rec_ : Int32 → Int32 → Um → Prop) (x5 : Int32) (x6 : Int32) (U : Um) : Prop :=
  vp_in 3 14 ∧ ((uA U o0 11 (Int32.toNatClampNeg 3)) ≤ x6 → k_127 x5 U) ∧ (¬ (uA U o0 11 (Int32.toNatClampNeg 3)) ≤ x6 → w_X12_of o0 x6 3 U (fun r_2 U_1 => (r_2 = x2 → (x6 = x3 → ∀ (x6_3 : Int32), x6_3 = x6 + 1 → rec_ x5 x6_3 U_1) ∧ (¬ x6 = x3 → (∀ K_4 : Um → Prop, (∀ (U_5 : Um), (∀ (x7_6 : Int32), x7_6 = x5 → (∃ n_18, w_X12_laysDay_L58 o0 x1 x2 x3 x4 x5 x6 post (fun x7_13 U_14 => vp_in x7_13 16 ∧ ∀ (U_15 : Um), U_15 = sA U_14 o0 39 (va_up (uA U_14 o0 39) (Int32.toNatClampNeg x7_13) x6) → ∀ (x5_16 : Int32), x5_16 = x5 + 1 → ∀ (x6_17 : Int32), x6_17 = x6 + 1 → rec_ x5_16 x6_17 U_15) n_18 x7_6 U_5)) → K_4 U_5) → (x6 = x4 → K_4 U_1) ∧ (¬ x6 = x4 → w_X12_isInGame o0 x1 x6 U_1 (fun r_20 U_19 => (r_20 = 0 → ∀ (x6_21 : Int32), x6_21 = x6 + 1 → rec_ x5 x6_21 U_19) ∧ (¬ r_20 = 0 → K_4 U_19)))))) ∧ (¬ r_2 = x2 → ∀ (x6_22 : Int32), x6_22 = x6 + 1 → rec_ x5 x6_22 U_1)))
def w_X12_laysDay_L6 (o0 : Nat) (x1 : Int32) (x2 : Int32) (x3 : Int32) (x4 : Int32) (post : Int32 → Um → Prop) (k_127 : Int32 → Um → Prop) (n_ : Nat) : Int32 → Int32 → Um → Prop := Nat.rec (motive := fun _ => Int32 → Int32 → Um → Prop) (fun _ _ _ => False) (fun _ ih => b_X12_laysDay_L6 o0 x1 x2 x3 x4 post k_127 ih) n_
def w_X12_laysDay (o : Nat) (a1 : Int32) (a2 : Int32) (a3 : Int32) (a4 : Int32) (U : Um) (post : Int32 → Um → Prop) : Prop :=
  (∃ n_25, w_X12_laysDay_L6 o a1 a2 a3 a4 post (fun x5_23 U_24 => post x5_23 U_24) n_25 0 0 U)
set_option maxHeartbeats 4000000 in
theorem tl_X12_laysDay_L58 {l : Launch} {Y : px_Y} {X : px_X} {h0 hh : pe_H} {sz : Nat} (o0 : Nat) (x1 : Int32) (x2 : Int32) (x3 : Int32) (x4 : Int32) (x5 : Int32) (x6 : Int32) (post : Int32 → Um → Prop) (k_109 : Int32 → Um → Prop) (ho0 : oc o0 = 10)  (hC : px_C X Y.1 (pm_A hh sz) cX12_laysDay RX12 8) (hM : px_M l X Y.1 hh sz yX12_laysDay cX12_laysDay 8 (some (.int)) 2 0 0) (hR : X.2.2.2.1 = pm_rm 2 0 0) (hk_109 : ∀ (y7 : Int32) (U : Um) (h : pe_H), k_109 y7 U → rF Y h0 U h → pw X Y.1 (pm_A hh sz) (pm_E X Y.1 hh sz 0 0 (pm_P Y h0 sz (pq_i post))) 109 [some (.ref (Y.2.1 o0)), some (.int x1), some (.int x2), some (.int x3), some (.int x4), some (.int x5), some (.int x6), some (.int y7)] [] h sz 0 0) : ∀ (n_ : Nat) (x7 : Int32) (U : Um) (h : pe_H), rF Y h0 U h → w_X12_laysDay_L58 o0 x1 x2 x3 x4 x5 x6 post k_109 n_ x7 U → pw X Y.1 (pm_A hh sz) (pm_E X Y.1 hh sz 0 0 (pm_P Y h0 sz (pq_i post))) 58 [some (.ref (Y.2.1 o0)), some (.int x1), some (.int x2), some (.int x3), some (.int x4), some (.int x5), some (.int x6), some (.int x7)] [] h sz 0 0 := by
  intro n_
  induction n_ with
  | zero => intro x7 U h hU H; exact False.elim H
  | succ n_ ih =>
    intro x7 U h hU H
    replace H : b_X12_laysDay_L58 o0 x1 x2 x3 x4 x5 x6 post k_109 (w_X12_laysDay_L58 o0 x1 x2 x3 x4 x5 x6 post k_109 n_) x7 U := H
    unfold b_X12_laysDay_L58 at H
    refine pr_iload hC (by decide +kernel : decode cX12_laysDay 58 = .ok (.iload 7, 2)) rfl ?_
    refine pr_if_le hC 109 (by decide +kernel : decode cX12_laysDay 60 = .ok (.ifCond .le 49, 3)) (by decide) (fun c_60 => ?_) (fun c_60 => ?_)
    · replace H := H.1 c_60
      exact pv_sub [some (.ref (Y.2.1 o0)), some (.int x1), some (.int x2), some (.int x3), some (.int x4), some (.int x5), some (.int x6), some (.int x7)] (And.intro rfl (And.intro rfl (And.intro rfl (And.intro rfl (And.intro rfl (And.intro rfl (And.intro rfl (And.intro rfl trivial)))))))) (hk_109 _ U h H hU)
    replace H := H.2 c_60
    refine pr_aload_n hC (by decide +kernel : decode cX12_laysDay 63 = .ok (.aload_n 0, 1)) rfl ?_
    refine pr_aload_n hC (by decide +kernel : decode cX12_laysDay 64 = .ok (.aload_n 0, 1)) rfl ?_
    refine pu_g1 hC fg_X12_84 (by decide +kernel : decode cX12_laysDay 65 = .ok (.getfield 84, 3)) hU ho0 (by decide) rfl (by decide) ?_
    refine pr_iload hC (by decide +kernel : decode cX12_laysDay 68 = .ok (.iload 7, 2)) rfl ?_
    refine pr_iconst hC (1) (by decide +kernel : decode cX12_laysDay 70 = .ok (.iconst 1, 1)) rfl ?_
    refine pr_isub hC (by decide +kernel : decode cX12_laysDay 71 = .ok (.isub, 1)) ?_
    refine pu_iald hC (by decide +kernel : decode cX12_laysDay 72 = .ok (.iaload, 1)) hU ho0 rfl H.1 ?_
    replace H := H.2
    refine pr_iconst hC (4) (by decide +kernel : decode cX12_laysDay 73 = .ok (.iconst 4, 1)) rfl ?_
    refine vc_Vi hC hR [.int (uA U o0 39 (Int32.toNatClampNeg (x7 - 1))), .int 4] fv_X12_353 (by decide +kernel : decode cX12_laysDay 74 = .ok (.invokevirtual 353, 3)) hU (t_X12_of ho0 H) ho0 (by decide) rfl rfl rfl (Nat.le_of_ble_eq_true rfl) (Nat.le_of_ble_eq_true rfl) (Nat.le_refl 0) (Nat.le_refl 0) (fun r_8 U_7 h H hU => ?_)
    refine pr_aload_n hC (by decide +kernel : decode cX12_laysDay 77 = .ok (.aload_n 0, 1)) rfl ?_
    refine pr_iload hC (by decide +kernel : decode cX12_laysDay 78 = .ok (.iload 6, 2)) rfl ?_
    refine pr_iconst hC (4) (by decide +kernel : decode cX12_laysDay 80 = .ok (.iconst 4, 1)) rfl ?_
    refine vc_Vi hC hR [.int x6, .int 4] fv_X12_353 (by decide +kernel : decode cX12_laysDay 81 = .ok (.invokevirtual 353, 3)) hU (t_X12_of ho0 H) ho0 (by decide) rfl rfl rfl (Nat.le_of_ble_eq_true rfl) (Nat.le_of_ble_eq_true rfl) (Nat.le_refl 0) (Nat.le_refl 0) (fun r_10 U_9 h H hU => ?_)
    refine pr_icmp_le hC 109 (by decide +kernel : decode cX12_laysDay 84 = .ok (.if_icmp .le 25, 3)) (by decide) (fun c_84 => ?_) (fun c_84 => ?_)
    · replace H := H.1 c_84
      exact pv_sub [some (.ref (Y.2.1 o0)), some (.int x1), some (.int x2), some (.int x3), some (.int x4), some (.int x5), some (.int x6), some (.int x7)] (And.intro rfl (And.intro rfl (And.intro rfl (And.intro rfl (And.intro rfl (And.intro rfl (And.intro rfl (And.intro rfl trivial)))))))) (hk_109 _ U_9 h H hU)
    replace H := H.2 c_84
    refine pr_aload_n hC (by decide +kernel : decode cX12_laysDay 87 = .ok (.aload_n 0, 1)) rfl ?_
    refine pu_g1 hC fg_X12_84 (by decide +kernel : decode cX12_laysDay 88 = .ok (.getfield 84, 3)) hU ho0 (by decide) rfl (by decide) ?_
    refine pr_iload hC (by decide +kernel : decode cX12_laysDay 91 = .ok (.iload 7, 2)) rfl ?_
    refine pr_aload_n hC (by decide +kernel : decode cX12_laysDay 93 = .ok (.aload_n 0, 1)) rfl ?_
    refine pu_g1 hC fg_X12_84 (by decide +kernel : decode cX12_laysDay 94 = .ok (.getfield 84, 3)) hU ho0 (by decide) rfl (by decide) ?_
    refine pr_iload hC (by decide +kernel : decode cX12_laysDay 97 = .ok (.iload 7, 2)) rfl ?_
    refine pr_iconst hC (1) (by decide +kernel : decode cX12_laysDay 99 = .ok (.iconst 1, 1)) rfl ?_
    refine pr_isub hC (by decide +kernel : decode cX12_laysDay 100 = .ok (.isub, 1)) ?_
    refine pu_iald hC (by decide +kernel : decode cX12_laysDay 101 = .ok (.iaload, 1)) hU ho0 rfl H.1 ?_
    replace H := H.2
    refine pv_iast hC (by decide +kernel : decode cX12_laysDay 102 = .ok (.iastore, 1)) hU ho0 rfl H.1 (fun U_11 h e_U_11 hU => ?_)
    replace H := H.2 U_11 e_U_11
    refine pv_iinc hC (v := x7 + (-1)) (by decide +kernel : decode cX12_laysDay 103 = .ok (.iinc 7 (-1), 3)) rfl (by decide) rfl rfl (fun x7_12 e_x7_12 => ?_)
    replace H := H x7_12 e_x7_12
    refine pr_goto hC 58 (by decide +kernel : decode cX12_laysDay 106 = .ok (.goto (-48), 3)) (by decide) ?_
    exact pv_sub [some (.ref (Y.2.1 o0)), some (.int x1), some (.int x2), some (.int x3), some (.int x4), some (.int x5), some (.int x6), some (.int x7_12)] (And.intro rfl (And.intro rfl (And.intro rfl (And.intro rfl (And.intro rfl (And.intro rfl (And.intro rfl (And.intro rfl trivial)))))))) (ih _ U_11 h hU H)
set_option maxHeartbeats 4000000 in
theorem tl_X12_laysDay_L6 {l : Launch} {Y : px_Y} {X : px_X} {h0 hh : pe_H} {sz : Nat} (o0 : Nat) (x1 : Int32) (x2 : Int32) (x3 : Int32) (x4 : Int32) (post : Int32 → Um → Prop) (k_127 : Int32 → Um → Prop) (ho0 : oc o0 = 10)  (hC : px_C X Y.1 (pm_A hh sz) cX12_laysDay RX12 8) (hM : px_M l X Y.1 hh sz yX12_laysDay cX12_laysDay 8 (some (.int)) 2 0 0) (hR : X.2.2.2.1 = pm_rm 2 0 0) (hk_127 : ∀ (y5 : Int32) (U : Um) (h : pe_H), k_127 y5 U → rF Y h0 U h → pw X Y.1 (pm_A hh sz) (pm_E X Y.1 hh sz 0 0 (pm_P Y h0 sz (pq_i post))) 127 [none, none, none, none, none, some (.int y5), none, none] [] h sz 0 0) : ∀ (n_ : Nat) (x5 : Int32) (x6 : Int32) (U : Um) (h : pe_H), rF Y h0 U h → w_X12_laysDay_L6 o0 x1 x2 x3 x4 post k_127 n_ x5 x6 U → pw X Y.1 (pm_A hh sz) (pm_E X Y.1 hh sz 0 0 (pm_P Y h0 sz (pq_i post))) 6 [some (.ref (Y.2.1 o0)), some (.int x1), some (.int x2), some (.int x3), some (.int x4), some (.int x5), some (.int x6), none] [] h sz 0 0 := by
  intro n_
  induction n_ with
  | zero => intro x5 x6 U h hU H; exact False.elim H
  | succ n_ ih =>
    intro x5 x6 U h hU H
    replace H : b_X12_laysDay_L6 o0 x1 x2 x3 x4 post k_127 (w_X12_laysDay_L6 o0 x1 x2 x3 x4 post k_127 n_) x5 x6 U := H
    unfold b_X12_laysDay_L6 at H
    refine pr_iload hC (by decide +kernel : decode cX12_laysDay 6 = .ok (.iload 6, 2)) rfl ?_
    refine pr_aload_n hC (by decide +kernel : decode cX12_laysDay 8 = .ok (.aload_n 0, 1)) rfl ?_
    refine pu_g1 hC fg_X12_43 (by decide +kernel : decode cX12_laysDay 9 = .ok (.getfield 43, 3)) hU ho0 (by decide) rfl (by decide) ?_
    refine pr_iconst hC (3) (by decide +kernel : decode cX12_laysDay 12 = .ok (.iconst 3, 1)) rfl ?_
    refine pu_iald hC (by decide +kernel : decode cX12_laysDay 13 = .ok (.iaload, 1)) hU ho0 rfl H.1 ?_
    replace H := H.2
    refine pr_icmp_ge hC 127 (by decide +kernel : decode cX12_laysDay 14 = .ok (.if_icmp .ge 113, 3)) (by decide) (fun c_14 => ?_) (fun c_14 => ?_)
    · replace H := H.1 c_14
      exact pv_sub [none, none, none, none, none, some (.int x5), none, none] (And.intro rfl trivial) (hk_127 _ U h H hU)
    replace H := H.2 c_14
    refine pr_aload_n hC (by decide +kernel : decode cX12_laysDay 17 = .ok (.aload_n 0, 1)) rfl ?_
    refine pr_iload hC (by decide +kernel : decode cX12_laysDay 18 = .ok (.iload 6, 2)) rfl ?_
    refine pr_iconst hC (3) (by decide +kernel : decode cX12_laysDay 20 = .ok (.iconst 3, 1)) rfl ?_
    refine vc_Vi hC hR [.int x6, .int 3] fv_X12_353 (by decide +kernel : decode cX12_laysDay 21 = .ok (.invokevirtual 353, 3)) hU (t_X12_of ho0 H) ho0 (by decide) rfl rfl rfl (Nat.le_of_ble_eq_true rfl) (Nat.le_of_ble_eq_true rfl) (Nat.le_refl 0) (Nat.le_refl 0) (fun r_2 U_1 h H hU => ?_)
    refine pr_iload_n hC (by decide +kernel : decode cX12_laysDay 24 = .ok (.iload_n 2, 1)) rfl ?_
    refine pr_icmp_ne hC 121 (by decide +kernel : decode cX12_laysDay 25 = .ok (.if_icmp .ne 96, 3)) (by decide) (fun c_25 => ?_) (fun c_25 => ?_)
    · replace H := H.2 c_25
      refine pv_iinc hC (v := x6 + 1) (by decide +kernel : decode cX12_laysDay 121 = .ok (.iinc 6 1, 3)) rfl (by decide) rfl rfl (fun x6_22 e_x6_22 => ?_)
      replace H := H x6_22 e_x6_22
      refine pr_goto hC 6 (by decide +kernel : decode cX12_laysDay 124 = .ok (.goto (-118), 3)) (by decide) ?_
      exact pv_sub [some (.ref (Y.2.1 o0)), some (.int x1), some (.int x2), some (.int x3), some (.int x4), some (.int x5), some (.int x6_22), none] (And.intro rfl (And.intro rfl (And.intro rfl (And.intro rfl (And.intro rfl (And.intro rfl (And.intro rfl trivial))))))) (ih _ _ U_1 h hU H)
    replace H := H.1 c_25
    refine pr_iload hC (by decide +kernel : decode cX12_laysDay 28 = .ok (.iload 6, 2)) rfl ?_
    refine pr_iload_n hC (by decide +kernel : decode cX12_laysDay 30 = .ok (.iload_n 3, 1)) rfl ?_
    refine pr_icmp_eq hC 121 (by decide +kernel : decode cX12_laysDay 31 = .ok (.if_icmp .eq 90, 3)) (by decide) (fun c_31 => ?_) (fun c_31 => ?_)
    · replace H := H.1 c_31
      refine pv_iinc hC (v := x6 + 1) (by decide +kernel : decode cX12_laysDay 121 = .ok (.iinc 6 1, 3)) rfl (by decide) rfl rfl (fun x6_3 e_x6_3 => ?_)
      replace H := H x6_3 e_x6_3
      refine pr_goto hC 6 (by decide +kernel : decode cX12_laysDay 124 = .ok (.goto (-118), 3)) (by decide) ?_
      exact pv_sub [some (.ref (Y.2.1 o0)), some (.int x1), some (.int x2), some (.int x3), some (.int x4), some (.int x5), some (.int x6_3), none] (And.intro rfl (And.intro rfl (And.intro rfl (And.intro rfl (And.intro rfl (And.intro rfl (And.intro rfl trivial))))))) (ih _ _ U_1 h hU H)
    replace H := H.2 c_31
    refine pr_iload hC (by decide +kernel : decode cX12_laysDay 34 = .ok (.iload 6, 2)) rfl ?_
    refine pr_iload hC (by decide +kernel : decode cX12_laysDay 36 = .ok (.iload 4, 2)) rfl ?_
    replace H := H (fun U_5 => ∀ h : pe_H, rF Y h0 U_5 h → pw X Y.1 (pm_A hh sz) (pm_E X Y.1 hh sz 0 0 (pm_P Y h0 sz (pq_i post))) 54 [some (.ref (Y.2.1 o0)), some (.int x1), some (.int x2), some (.int x3), some (.int x4), some (.int x5), some (.int x6), none] [] h sz 0 0) (by
      intro U_5 H h hU
      refine pr_iload hC (by decide +kernel : decode cX12_laysDay 54 = .ok (.iload 5, 2)) rfl ?_
      refine pv_topi (fun x7_6 e_x7_6 => ?_)
      replace H := H x7_6 e_x7_6
      refine pr_istore hC (by decide +kernel : decode cX12_laysDay 56 = .ok (.istore 7, 2)) (by decide) rfl ?_
      obtain ⟨n_18, H⟩ := H
      refine pv_sub [some (.ref (Y.2.1 o0)), some (.int x1), some (.int x2), some (.int x3), some (.int x4), some (.int x5), some (.int x6), some (.int x7_6)] (And.intro rfl (And.intro rfl (And.intro rfl (And.intro rfl (And.intro rfl (And.intro rfl (And.intro rfl (And.intro rfl trivial)))))))) ?_
      refine tl_X12_laysDay_L58 _ _ _ _ _ _ _ _ _ ho0 hC hM hR (fun x7_13 U_14 h H hU => ?_) n_18 _ U_5 h hU H
      refine pr_aload_n hC (by decide +kernel : decode cX12_laysDay 109 = .ok (.aload_n 0, 1)) rfl ?_
      refine pu_g1 hC fg_X12_84 (by decide +kernel : decode cX12_laysDay 110 = .ok (.getfield 84, 3)) hU ho0 (by decide) rfl (by decide) ?_
      refine pr_iload hC (by decide +kernel : decode cX12_laysDay 113 = .ok (.iload 7, 2)) rfl ?_
      refine pr_iload hC (by decide +kernel : decode cX12_laysDay 115 = .ok (.iload 6, 2)) rfl ?_
      refine pv_iast hC (by decide +kernel : decode cX12_laysDay 117 = .ok (.iastore, 1)) hU ho0 rfl H.1 (fun U_15 h e_U_15 hU => ?_)
      replace H := H.2 U_15 e_U_15
      refine pv_iinc hC (v := x5 + 1) (by decide +kernel : decode cX12_laysDay 118 = .ok (.iinc 5 1, 3)) rfl (by decide) rfl rfl (fun x5_16 e_x5_16 => ?_)
      replace H := H x5_16 e_x5_16
      refine pv_iinc hC (v := x6 + 1) (by decide +kernel : decode cX12_laysDay 121 = .ok (.iinc 6 1, 3)) rfl (by decide) rfl rfl (fun x6_17 e_x6_17 => ?_)
      replace H := H x6_17 e_x6_17
      refine pr_goto hC 6 (by decide +kernel : decode cX12_laysDay 124 = .ok (.goto (-118), 3)) (by decide) ?_
      exact pv_sub [some (.ref (Y.2.1 o0)), some (.int x1), some (.int x2), some (.int x3), some (.int x4), some (.int x5_16), some (.int x6_17), none] (And.intro rfl (And.intro rfl (And.intro rfl (And.intro rfl (And.intro rfl (And.intro rfl (And.intro rfl trivial))))))) (ih _ _ U_15 h hU H))
    refine pr_icmp_eq hC 54 (by decide +kernel : decode cX12_laysDay 38 = .ok (.if_icmp .eq 16, 3)) (by decide) (fun c_38 => ?_) (fun c_38 => ?_)
    · replace H := H.1 c_38
      exact pv_sub [some (.ref (Y.2.1 o0)), some (.int x1), some (.int x2), some (.int x3), some (.int x4), some (.int x5), some (.int x6), none] (And.intro rfl (And.intro rfl (And.intro rfl (And.intro rfl (And.intro rfl (And.intro rfl (And.intro rfl trivial))))))) (H h hU)
    replace H := H.2 c_38
    refine pr_aload_n hC (by decide +kernel : decode cX12_laysDay 41 = .ok (.aload_n 0, 1)) rfl ?_
    refine pr_iload_n hC (by decide +kernel : decode cX12_laysDay 42 = .ok (.iload_n 1, 1)) rfl ?_
    refine pr_iload hC (by decide +kernel : decode cX12_laysDay 43 = .ok (.iload 6, 2)) rfl ?_
    refine vc_Vi hC hR [.int x1, .int x6] fv_X12_405 (by decide +kernel : decode cX12_laysDay 45 = .ok (.invokevirtual 405, 3)) hU (t_X12_isInGame ho0 H) ho0 (by decide) rfl rfl rfl (Nat.le_of_ble_eq_true rfl) (Nat.le_of_ble_eq_true rfl) (Nat.le_refl 0) (Nat.le_refl 0) (fun r_20 U_19 h H hU => ?_)
    refine pr_if_ne hC 54 (by decide +kernel : decode cX12_laysDay 48 = .ok (.ifCond .ne 6, 3)) (by decide) (fun c_48 => ?_) (fun c_48 => ?_)
    · replace H := H.2 c_48
      exact pv_sub [some (.ref (Y.2.1 o0)), some (.int x1), some (.int x2), some (.int x3), some (.int x4), some (.int x5), some (.int x6), none] (And.intro rfl (And.intro rfl (And.intro rfl (And.intro rfl (And.intro rfl (And.intro rfl (And.intro rfl trivial))))))) (H h hU)
    replace H := H.1 c_48
    refine pr_goto hC 121 (by decide +kernel : decode cX12_laysDay 51 = .ok (.goto 70, 3)) (by decide) ?_
    refine pv_iinc hC (v := x6 + 1) (by decide +kernel : decode cX12_laysDay 121 = .ok (.iinc 6 1, 3)) rfl (by decide) rfl rfl (fun x6_21 e_x6_21 => ?_)
    replace H := H x6_21 e_x6_21
    refine pr_goto hC 6 (by decide +kernel : decode cX12_laysDay 124 = .ok (.goto (-118), 3)) (by decide) ?_
    exact pv_sub [some (.ref (Y.2.1 o0)), some (.int x1), some (.int x2), some (.int x3), some (.int x4), some (.int x5), some (.int x6_21), none] (And.intro rfl (And.intro rfl (And.intro rfl (And.intro rfl (And.intro rfl (And.intro rfl (And.intro rfl trivial))))))) (ih _ _ U_19 h hU H)
set_option maxHeartbeats 4000000 in
theorem t_X12_laysDay {l : Launch} {Y : px_Y} {o : Nat} {a1 : Int32} {a2 : Int32} {a3 : Int32} {a4 : Int32} {U : Um} {post : Int32 → Um → Prop} (ho : oc o = 10) (H : w_X12_laysDay o a1 a2 a3 a4 U post) : um l Y 2 yX12_laysDay cX12_laysDay 8 (some (.int)) [.ref (Y.2.1 o), .int a1, .int a2, .int a3, .int a4] U (pq_i post) := by
  unfold w_X12_laysDay at H
  refine um_of (by decide) (Nat.le_of_ble_eq_true rfl) [some (.ref (Y.2.1 o)), some (.int a1), some (.int a2), some (.int a3), some (.int a4), none, none, none] rfl (fun X h0 hh sz hM hU => ?_)
  have hC := hM.1
  have hR := hM.2.2.1
  refine pr_iconst hC (0) (by decide +kernel : decode cX12_laysDay 0 = .ok (.iconst 0, 1)) rfl ?_
  refine pr_istore hC (by decide +kernel : decode cX12_laysDay 1 = .ok (.istore 5, 2)) (by decide) rfl ?_
  refine pr_iconst hC (0) (by decide +kernel : decode cX12_laysDay 3 = .ok (.iconst 0, 1)) rfl ?_
  refine pr_istore hC (by decide +kernel : decode cX12_laysDay 4 = .ok (.istore 6, 2)) (by decide) rfl ?_
  obtain ⟨n_25, H⟩ := H
  refine pv_sub [some (.ref (Y.2.1 o)), some (.int a1), some (.int a2), some (.int a3), some (.int a4), some (.int 0), some (.int 0), none] (And.intro rfl (And.intro rfl (And.intro rfl (And.intro rfl (And.intro rfl (And.intro rfl (And.intro rfl trivial))))))) ?_
  refine tl_X12_laysDay_L6 _ _ _ _ _ _ _ ho hC hM hR (fun x5_23 U_24 h H hU => ?_) n_25 _ _ U hh hU H
  refine pr_iload hC (by decide +kernel : decode cX12_laysDay 127 = .ok (.iload 5, 2)) rfl ?_
  exact pv_iret hM (by decide +kernel : decode cX12_laysDay 129 = .ok (.ireturn, 1)) hU H
def w_X12_step (o : Nat) (a1 : Int32) (a2 : Int32) (U : Um) (post : Int32 → Um → Prop) : Prop :=
  w_X12_wayOf o a1 a2 U (fun r_2 U_1 => (r_2 = (-1) → post 999 U_1) ∧ (¬ r_2 = (-1) → w_X12_wayOf o a1 a2 U_1 (fun r_4 U_3 => post r_4 U_3)))
set_option maxHeartbeats 4000000 in
theorem t_X12_step {l : Launch} {Y : px_Y} {o : Nat} {a1 : Int32} {a2 : Int32} {U : Um} {post : Int32 → Um → Prop} (ho : oc o = 10) (H : w_X12_step o a1 a2 U post) : um l Y 1 yX12_step cX12_step 3 (some (.int)) [.ref (Y.2.1 o), .int a1, .int a2] U (pq_i post) := by
  unfold w_X12_step at H
  refine um_of (by decide) (Nat.le_of_ble_eq_true rfl) [some (.ref (Y.2.1 o)), some (.int a1), some (.int a2)] rfl (fun X h0 hh sz hM hU => ?_)
  have hC := hM.1
  have hR := hM.2.2.1
  refine pr_aload_n hC (by decide +kernel : decode cX12_step 0 = .ok (.aload_n 0, 1)) rfl ?_
  refine pr_iload_n hC (by decide +kernel : decode cX12_step 1 = .ok (.iload_n 1, 1)) rfl ?_
  refine pr_iload_n hC (by decide +kernel : decode cX12_step 2 = .ok (.iload_n 2, 1)) rfl ?_
  refine vc_Vi hC hR [.int a1, .int a2] fv_X12_394 (by decide +kernel : decode cX12_step 3 = .ok (.invokevirtual 394, 3)) hU (t_X12_wayOf ho H) ho (by decide) rfl rfl rfl (Nat.le_of_ble_eq_true rfl) (Nat.le_of_ble_eq_true rfl) (Nat.le_refl 0) (Nat.le_refl 0) (fun r_2 U_1 h H hU => ?_)
  refine pr_iconst hC (-1) (by decide +kernel : decode cX12_step 6 = .ok (.iconst (-1), 1)) rfl ?_
  refine pr_icmp_ne hC 16 (by decide +kernel : decode cX12_step 7 = .ok (.if_icmp .ne 9, 3)) (by decide) (fun c_7 => ?_) (fun c_7 => ?_)
  · replace H := H.2 c_7
    refine pr_aload_n hC (by decide +kernel : decode cX12_step 16 = .ok (.aload_n 0, 1)) rfl ?_
    refine pr_iload_n hC (by decide +kernel : decode cX12_step 17 = .ok (.iload_n 1, 1)) rfl ?_
    refine pr_iload_n hC (by decide +kernel : decode cX12_step 18 = .ok (.iload_n 2, 1)) rfl ?_
    refine vc_Vi hC hR [.int a1, .int a2] fv_X12_394 (by decide +kernel : decode cX12_step 19 = .ok (.invokevirtual 394, 3)) hU (t_X12_wayOf ho H) ho (by decide) rfl rfl rfl (Nat.le_of_ble_eq_true rfl) (Nat.le_of_ble_eq_true rfl) (Nat.le_refl 0) (Nat.le_refl 0) (fun r_4 U_3 h H hU => ?_)
    exact pv_iret hM (by decide +kernel : decode cX12_step 22 = .ok (.ireturn, 1)) hU H
  replace H := H.1 c_7
  refine pr_sipush hC (999) (by decide +kernel : decode cX12_step 10 = .ok (.sipush 999, 3)) rfl ?_
  refine pr_goto hC 22 (by decide +kernel : decode cX12_step 13 = .ok (.goto 9, 3)) (by decide) ?_
  exact pv_iret hM (by decide +kernel : decode cX12_step 22 = .ok (.ireturn, 1)) hU H
def b_X12_roundOf_L25 (o0 : Nat) (x1 : Int32) (x5 : Int32) (post : Int32 → Um → Prop) (k_75 : Int32 → Int32 → Um → Prop) (rec_ : Int32 → Int32 → Int32 → Um → Prop) (x6 : Int32) (x7 : Int32) (x8 : Int32) (U : Um) : Prop :=
  (x5 ≤ x8 → k_75 x6 x7 U) ∧ (¬ x5 ≤ x8 → vp_in x8 16 ∧ w_X12_of o0 (uA U o0 39 (Int32.toNatClampNeg x8)) 2 U (fun r_5 U_4 => w_X12_step o0 x6 r_5 U_4 (fun r_7 U_6 => ∀ (x7_8 : Int32), x7_8 = x7 + r_7 → vp_in x8 16 ∧ w_X12_of o0 (uA U_6 o0 39 (Int32.toNatClampNeg x8)) 2 U_6 (fun r_10 U_9 => ∀ (x8_11 : Int32), x8_11 = x8 + 1 → rec_ r_10 x7_8 x8_11 U_9))))
def w_X12_roundOf_L25 (o0 : Nat) (x1 : Int32) (x5 : Int32) (post : Int32 → Um → Prop) (k_75 : Int32 → Int32 → Um → Prop) (n_ : Nat) : Int32 → Int32 → Int32 → Um → Prop := Nat.rec (motive := fun _ => Int32 → Int32 → Int32 → Um → Prop) (fun _ _ _ _ => False) (fun _ ih => b_X12_roundOf_L25 o0 x1 x5 post k_75 ih) n_
def w_X12_roundOf (o : Nat) (a1 : Int32) (a2 : Int32) (a3 : Int32) (a4 : Int32) (U : Um) (post : Int32 → Um → Prop) : Prop :=
  w_X12_laysDay o a1 a2 a3 a4 U (fun r_2 U_1 => vp_in a1 20 ∧ ∀ (x6_3 : Int32), x6_3 = uA U_1 o 6 (Int32.toNatClampNeg a1) → (∃ n_17, w_X12_roundOf_L25 o a1 r_2 post (fun x6_12 x7_13 U_14 => vp_in a1 20 ∧ w_X12_step o x6_12 (uA U_14 o 6 (Int32.toNatClampNeg a1)) U_14 (fun r_16 U_15 => post (x7_13 + r_16) U_15)) n_17 x6_3 0 0 U_1))
set_option maxHeartbeats 4000000 in
theorem tl_X12_roundOf_L25 {l : Launch} {Y : px_Y} {X : px_X} {h0 hh : pe_H} {sz : Nat} (o0 : Nat) (x1 : Int32) (x5 : Int32) (post : Int32 → Um → Prop) (k_75 : Int32 → Int32 → Um → Prop) (ho0 : oc o0 = 10)  (hC : px_C X Y.1 (pm_A hh sz) cX12_roundOf RX12 9) (hM : px_M l X Y.1 hh sz yX12_roundOf cX12_roundOf 9 (some (.int)) 3 0 0) (hR : X.2.2.2.1 = pm_rm 3 0 0) (hk_75 : ∀ (y6 : Int32) (y7 : Int32) (U : Um) (h : pe_H), k_75 y6 y7 U → rF Y h0 U h → pw X Y.1 (pm_A hh sz) (pm_E X Y.1 hh sz 0 0 (pm_P Y h0 sz (pq_i post))) 75 [some (.ref (Y.2.1 o0)), some (.int x1), none, none, none, none, some (.int y6), some (.int y7), none] [] h sz 0 0) : ∀ (n_ : Nat) (x6 : Int32) (x7 : Int32) (x8 : Int32) (U : Um) (h : pe_H), rF Y h0 U h → w_X12_roundOf_L25 o0 x1 x5 post k_75 n_ x6 x7 x8 U → pw X Y.1 (pm_A hh sz) (pm_E X Y.1 hh sz 0 0 (pm_P Y h0 sz (pq_i post))) 25 [some (.ref (Y.2.1 o0)), some (.int x1), none, none, none, some (.int x5), some (.int x6), some (.int x7), some (.int x8)] [] h sz 0 0 := by
  intro n_
  induction n_ with
  | zero => intro x6 x7 x8 U h hU H; exact False.elim H
  | succ n_ ih =>
    intro x6 x7 x8 U h hU H
    replace H : b_X12_roundOf_L25 o0 x1 x5 post k_75 (w_X12_roundOf_L25 o0 x1 x5 post k_75 n_) x6 x7 x8 U := H
    unfold b_X12_roundOf_L25 at H
    refine pr_iload hC (by decide +kernel : decode cX12_roundOf 25 = .ok (.iload 8, 2)) rfl ?_
    refine pr_iload hC (by decide +kernel : decode cX12_roundOf 27 = .ok (.iload 5, 2)) rfl ?_
    refine pr_icmp_ge hC 75 (by decide +kernel : decode cX12_roundOf 29 = .ok (.if_icmp .ge 46, 3)) (by decide) (fun c_29 => ?_) (fun c_29 => ?_)
    · replace H := H.1 c_29
      exact pv_sub [some (.ref (Y.2.1 o0)), some (.int x1), none, none, none, none, some (.int x6), some (.int x7), none] (And.intro rfl (And.intro rfl (And.intro rfl (And.intro rfl trivial)))) (hk_75 _ _ U h H hU)
    replace H := H.2 c_29
    refine pr_iload hC (by decide +kernel : decode cX12_roundOf 32 = .ok (.iload 7, 2)) rfl ?_
    refine pr_aload_n hC (by decide +kernel : decode cX12_roundOf 34 = .ok (.aload_n 0, 1)) rfl ?_
    refine pr_iload hC (by decide +kernel : decode cX12_roundOf 35 = .ok (.iload 6, 2)) rfl ?_
    refine pr_aload_n hC (by decide +kernel : decode cX12_roundOf 37 = .ok (.aload_n 0, 1)) rfl ?_
    refine pr_aload_n hC (by decide +kernel : decode cX12_roundOf 38 = .ok (.aload_n 0, 1)) rfl ?_
    refine pu_g1 hC fg_X12_84 (by decide +kernel : decode cX12_roundOf 39 = .ok (.getfield 84, 3)) hU ho0 (by decide) rfl (by decide) ?_
    refine pr_iload hC (by decide +kernel : decode cX12_roundOf 42 = .ok (.iload 8, 2)) rfl ?_
    refine pu_iald hC (by decide +kernel : decode cX12_roundOf 44 = .ok (.iaload, 1)) hU ho0 rfl H.1 ?_
    replace H := H.2
    refine pr_iconst hC (2) (by decide +kernel : decode cX12_roundOf 45 = .ok (.iconst 2, 1)) rfl ?_
    refine vc_Vi hC hR [.int (uA U o0 39 (Int32.toNatClampNeg x8)), .int 2] fv_X12_353 (by decide +kernel : decode cX12_roundOf 46 = .ok (.invokevirtual 353, 3)) hU (t_X12_of ho0 H) ho0 (by decide) rfl rfl rfl (Nat.le_of_ble_eq_true rfl) (Nat.le_of_ble_eq_true rfl) (Nat.le_refl 0) (Nat.le_refl 0) (fun r_5 U_4 h H hU => ?_)
    refine vc_Vi hC hR [.int x6, .int r_5] fv_X12_443 (by decide +kernel : decode cX12_roundOf 49 = .ok (.invokevirtual 443, 3)) hU (t_X12_step ho0 H) ho0 (by decide) rfl rfl rfl (Nat.le_of_ble_eq_true rfl) (Nat.le_of_ble_eq_true rfl) (Nat.le_refl 0) (Nat.le_refl 0) (fun r_7 U_6 h H hU => ?_)
    refine pr_iadd hC (by decide +kernel : decode cX12_roundOf 52 = .ok (.iadd, 1)) ?_
    refine pv_topi (fun x7_8 e_x7_8 => ?_)
    replace H := H x7_8 e_x7_8
    refine pr_istore hC (by decide +kernel : decode cX12_roundOf 53 = .ok (.istore 7, 2)) (by decide) rfl ?_
    refine pr_aload_n hC (by decide +kernel : decode cX12_roundOf 55 = .ok (.aload_n 0, 1)) rfl ?_
    refine pr_aload_n hC (by decide +kernel : decode cX12_roundOf 56 = .ok (.aload_n 0, 1)) rfl ?_
    refine pu_g1 hC fg_X12_84 (by decide +kernel : decode cX12_roundOf 57 = .ok (.getfield 84, 3)) hU ho0 (by decide) rfl (by decide) ?_
    refine pr_iload hC (by decide +kernel : decode cX12_roundOf 60 = .ok (.iload 8, 2)) rfl ?_
    refine pu_iald hC (by decide +kernel : decode cX12_roundOf 62 = .ok (.iaload, 1)) hU ho0 rfl H.1 ?_
    replace H := H.2
    refine pr_iconst hC (2) (by decide +kernel : decode cX12_roundOf 63 = .ok (.iconst 2, 1)) rfl ?_
    refine vc_Vi hC hR [.int (uA U_6 o0 39 (Int32.toNatClampNeg x8)), .int 2] fv_X12_353 (by decide +kernel : decode cX12_roundOf 64 = .ok (.invokevirtual 353, 3)) hU (t_X12_of ho0 H) ho0 (by decide) rfl rfl rfl (Nat.le_of_ble_eq_true rfl) (Nat.le_of_ble_eq_true rfl) (Nat.le_refl 0) (Nat.le_refl 0) (fun r_10 U_9 h H hU => ?_)
    refine pr_istore hC (by decide +kernel : decode cX12_roundOf 67 = .ok (.istore 6, 2)) (by decide) rfl ?_
    refine pv_iinc hC (v := x8 + 1) (by decide +kernel : decode cX12_roundOf 69 = .ok (.iinc 8 1, 3)) rfl (by decide) rfl rfl (fun x8_11 e_x8_11 => ?_)
    replace H := H x8_11 e_x8_11
    refine pr_goto hC 25 (by decide +kernel : decode cX12_roundOf 72 = .ok (.goto (-47), 3)) (by decide) ?_
    exact pv_sub [some (.ref (Y.2.1 o0)), some (.int x1), none, none, none, some (.int x5), some (.int r_10), some (.int x7_8), some (.int x8_11)] (And.intro rfl (And.intro rfl (And.intro rfl (And.intro rfl (And.intro rfl (And.intro rfl trivial)))))) (ih _ _ _ U_9 h hU H)
set_option maxHeartbeats 4000000 in
theorem t_X12_roundOf {l : Launch} {Y : px_Y} {o : Nat} {a1 : Int32} {a2 : Int32} {a3 : Int32} {a4 : Int32} {U : Um} {post : Int32 → Um → Prop} (ho : oc o = 10) (H : w_X12_roundOf o a1 a2 a3 a4 U post) : um l Y 3 yX12_roundOf cX12_roundOf 9 (some (.int)) [.ref (Y.2.1 o), .int a1, .int a2, .int a3, .int a4] U (pq_i post) := by
  unfold w_X12_roundOf at H
  refine um_of (by decide) (Nat.le_of_ble_eq_true rfl) [some (.ref (Y.2.1 o)), some (.int a1), some (.int a2), some (.int a3), some (.int a4), none, none, none, none] rfl (fun X h0 hh sz hM hU => ?_)
  have hC := hM.1
  have hR := hM.2.2.1
  refine pr_aload_n hC (by decide +kernel : decode cX12_roundOf 0 = .ok (.aload_n 0, 1)) rfl ?_
  refine pr_iload_n hC (by decide +kernel : decode cX12_roundOf 1 = .ok (.iload_n 1, 1)) rfl ?_
  refine pr_iload_n hC (by decide +kernel : decode cX12_roundOf 2 = .ok (.iload_n 2, 1)) rfl ?_
  refine pr_iload_n hC (by decide +kernel : decode cX12_roundOf 3 = .ok (.iload_n 3, 1)) rfl ?_
  refine pr_iload hC (by decide +kernel : decode cX12_roundOf 4 = .ok (.iload 4, 2)) rfl ?_
  refine vc_Vi hC hR [.int a1, .int a2, .int a3, .int a4] fv_X12_440 (by decide +kernel : decode cX12_roundOf 6 = .ok (.invokevirtual 440, 3)) hU (t_X12_laysDay ho H) ho (by decide) rfl rfl rfl (Nat.le_of_ble_eq_true rfl) (Nat.le_of_ble_eq_true rfl) (Nat.le_refl 0) (Nat.le_refl 0) (fun r_2 U_1 h H hU => ?_)
  refine pr_istore hC (by decide +kernel : decode cX12_roundOf 9 = .ok (.istore 5, 2)) (by decide) rfl ?_
  refine pr_aload_n hC (by decide +kernel : decode cX12_roundOf 11 = .ok (.aload_n 0, 1)) rfl ?_
  refine pu_g1 hC fg_X12_28 (by decide +kernel : decode cX12_roundOf 12 = .ok (.getfield 28, 3)) hU ho (by decide) rfl (by decide) ?_
  refine pr_iload_n hC (by decide +kernel : decode cX12_roundOf 15 = .ok (.iload_n 1, 1)) rfl ?_
  refine pu_iald hC (by decide +kernel : decode cX12_roundOf 16 = .ok (.iaload, 1)) hU ho rfl H.1 ?_
  replace H := H.2
  refine pv_topi (fun x6_3 e_x6_3 => ?_)
  replace H := H x6_3 e_x6_3
  refine pr_istore hC (by decide +kernel : decode cX12_roundOf 17 = .ok (.istore 6, 2)) (by decide) rfl ?_
  refine pr_iconst hC (0) (by decide +kernel : decode cX12_roundOf 19 = .ok (.iconst 0, 1)) rfl ?_
  refine pr_istore hC (by decide +kernel : decode cX12_roundOf 20 = .ok (.istore 7, 2)) (by decide) rfl ?_
  refine pr_iconst hC (0) (by decide +kernel : decode cX12_roundOf 22 = .ok (.iconst 0, 1)) rfl ?_
  refine pr_istore hC (by decide +kernel : decode cX12_roundOf 23 = .ok (.istore 8, 2)) (by decide) rfl ?_
  obtain ⟨n_17, H⟩ := H
  refine pv_sub [some (.ref (Y.2.1 o)), some (.int a1), none, none, none, some (.int r_2), some (.int x6_3), some (.int 0), some (.int 0)] (And.intro rfl (And.intro rfl (And.intro rfl (And.intro rfl (And.intro rfl (And.intro rfl trivial)))))) ?_
  refine tl_X12_roundOf_L25 _ _ _ _ _ ho hC hM hR (fun x6_12 x7_13 U_14 h H hU => ?_) n_17 _ _ _ U_1 h hU H
  refine pr_iload hC (by decide +kernel : decode cX12_roundOf 75 = .ok (.iload 7, 2)) rfl ?_
  refine pr_aload_n hC (by decide +kernel : decode cX12_roundOf 77 = .ok (.aload_n 0, 1)) rfl ?_
  refine pr_iload hC (by decide +kernel : decode cX12_roundOf 78 = .ok (.iload 6, 2)) rfl ?_
  refine pr_aload_n hC (by decide +kernel : decode cX12_roundOf 80 = .ok (.aload_n 0, 1)) rfl ?_
  refine pu_g1 hC fg_X12_28 (by decide +kernel : decode cX12_roundOf 81 = .ok (.getfield 28, 3)) hU ho (by decide) rfl (by decide) ?_
  refine pr_iload_n hC (by decide +kernel : decode cX12_roundOf 84 = .ok (.iload_n 1, 1)) rfl ?_
  refine pu_iald hC (by decide +kernel : decode cX12_roundOf 85 = .ok (.iaload, 1)) hU ho rfl H.1 ?_
  replace H := H.2
  refine vc_Vi hC hR [.int x6_12, .int (uA U_14 o 6 (Int32.toNatClampNeg a1))] fv_X12_443 (by decide +kernel : decode cX12_roundOf 86 = .ok (.invokevirtual 443, 3)) hU (t_X12_step ho H) ho (by decide) rfl rfl rfl (Nat.le_of_ble_eq_true rfl) (Nat.le_of_ble_eq_true rfl) (Nat.le_refl 0) (Nat.le_refl 0) (fun r_16 U_15 h H hU => ?_)
  refine pr_iadd hC (by decide +kernel : decode cX12_roundOf 89 = .ok (.iadd, 1)) ?_
  exact pv_iret hM (by decide +kernel : decode cX12_roundOf 90 = .ok (.ireturn, 1)) hU H
def w_X12_extraOf (o : Nat) (a1 : Int32) (a2 : Int32) (a3 : Int32) (U : Um) (post : Int32 → Um → Prop) : Prop :=
  w_X12_of o a1 3 U (fun r_2 U_1 => w_X12_roundOf o a3 r_2 (-1) (-1) U_1 (fun r_4 U_3 => w_X12_at a1 a2 U_3 (fun r_6 U_5 => vp_in r_6 48 ∧ ((uA U_5 o 30 (Int32.toNatClampNeg r_6)) = a3 → w_X12_roundOf o a3 r_2 a1 (-1) U_5 (fun r_8 U_7 => post (r_4 - r_8) U_7)) ∧ (¬ (uA U_5 o 30 (Int32.toNatClampNeg r_6)) = a3 → w_X12_roundOf o a3 r_2 (-1) a1 U_5 (fun r_10 U_9 => post (r_10 - r_4) U_9)))))
set_option maxHeartbeats 4000000 in
theorem t_X12_extraOf {l : Launch} {Y : px_Y} {o : Nat} {a1 : Int32} {a2 : Int32} {a3 : Int32} {U : Um} {post : Int32 → Um → Prop} (ho : oc o = 10) (H : w_X12_extraOf o a1 a2 a3 U post) : um l Y 4 yX12_extraOf cX12_extraOf 6 (some (.int)) [.ref (Y.2.1 o), .int a1, .int a2, .int a3] U (pq_i post) := by
  unfold w_X12_extraOf at H
  refine um_of (by decide) (Nat.le_of_ble_eq_true rfl) [some (.ref (Y.2.1 o)), some (.int a1), some (.int a2), some (.int a3), none, none] rfl (fun X h0 hh sz hM hU => ?_)
  have hC := hM.1
  have hR := hM.2.2.1
  refine pr_aload_n hC (by decide +kernel : decode cX12_extraOf 0 = .ok (.aload_n 0, 1)) rfl ?_
  refine pr_iload_n hC (by decide +kernel : decode cX12_extraOf 1 = .ok (.iload_n 1, 1)) rfl ?_
  refine pr_iconst hC (3) (by decide +kernel : decode cX12_extraOf 2 = .ok (.iconst 3, 1)) rfl ?_
  refine vc_Vi hC hR [.int a1, .int 3] fv_X12_353 (by decide +kernel : decode cX12_extraOf 3 = .ok (.invokevirtual 353, 3)) hU (t_X12_of ho H) ho (by decide) rfl rfl rfl (Nat.le_of_ble_eq_true rfl) (Nat.le_of_ble_eq_true rfl) (Nat.le_refl 0) (Nat.le_refl 0) (fun r_2 U_1 h H hU => ?_)
  refine pr_istore hC (by decide +kernel : decode cX12_extraOf 6 = .ok (.istore 4, 2)) (by decide) rfl ?_
  refine pr_aload_n hC (by decide +kernel : decode cX12_extraOf 8 = .ok (.aload_n 0, 1)) rfl ?_
  refine pr_iload_n hC (by decide +kernel : decode cX12_extraOf 9 = .ok (.iload_n 3, 1)) rfl ?_
  refine pr_iload hC (by decide +kernel : decode cX12_extraOf 10 = .ok (.iload 4, 2)) rfl ?_
  refine pr_iconst hC (-1) (by decide +kernel : decode cX12_extraOf 12 = .ok (.iconst (-1), 1)) rfl ?_
  refine pr_iconst hC (-1) (by decide +kernel : decode cX12_extraOf 13 = .ok (.iconst (-1), 1)) rfl ?_
  refine vc_Vi hC hR [.int a3, .int r_2, .int (-1), .int (-1)] fv_X12_446 (by decide +kernel : decode cX12_extraOf 14 = .ok (.invokevirtual 446, 3)) hU (t_X12_roundOf ho H) ho (by decide) rfl rfl rfl (Nat.le_of_ble_eq_true rfl) (Nat.le_of_ble_eq_true rfl) (Nat.le_refl 0) (Nat.le_refl 0) (fun r_4 U_3 h H hU => ?_)
  refine pr_istore hC (by decide +kernel : decode cX12_extraOf 17 = .ok (.istore 5, 2)) (by decide) rfl ?_
  refine pr_aload_n hC (by decide +kernel : decode cX12_extraOf 19 = .ok (.aload_n 0, 1)) rfl ?_
  refine pu_g1 hC fg_X12_59 (by decide +kernel : decode cX12_extraOf 20 = .ok (.getfield 59, 3)) hU ho (by decide) rfl (by decide) ?_
  refine pr_iload_n hC (by decide +kernel : decode cX12_extraOf 23 = .ok (.iload_n 1, 1)) rfl ?_
  refine pr_iload_n hC (by decide +kernel : decode cX12_extraOf 24 = .ok (.iload_n 2, 1)) rfl ?_
  refine vc_Si hC hR [.int a1, .int a2] fv_X12_360 (by decide +kernel : decode cX12_extraOf 25 = .ok (.invokestatic 360, 3)) hU (t_X12_at  H) rfl rfl (Nat.le_of_ble_eq_true rfl) (Nat.le_of_ble_eq_true rfl) (Nat.le_refl 0) (Nat.le_refl 0) (fun r_6 U_5 h H hU => ?_)
  refine pu_iald hC (by decide +kernel : decode cX12_extraOf 28 = .ok (.iaload, 1)) hU ho rfl H.1 ?_
  replace H := H.2
  refine pr_iload_n hC (by decide +kernel : decode cX12_extraOf 29 = .ok (.iload_n 3, 1)) rfl ?_
  refine pr_icmp_ne hC 48 (by decide +kernel : decode cX12_extraOf 30 = .ok (.if_icmp .ne 18, 3)) (by decide) (fun c_30 => ?_) (fun c_30 => ?_)
  · replace H := H.2 c_30
    refine pr_aload_n hC (by decide +kernel : decode cX12_extraOf 48 = .ok (.aload_n 0, 1)) rfl ?_
    refine pr_iload_n hC (by decide +kernel : decode cX12_extraOf 49 = .ok (.iload_n 3, 1)) rfl ?_
    refine pr_iload hC (by decide +kernel : decode cX12_extraOf 50 = .ok (.iload 4, 2)) rfl ?_
    refine pr_iconst hC (-1) (by decide +kernel : decode cX12_extraOf 52 = .ok (.iconst (-1), 1)) rfl ?_
    refine pr_iload_n hC (by decide +kernel : decode cX12_extraOf 53 = .ok (.iload_n 1, 1)) rfl ?_
    refine vc_Vi hC hR [.int a3, .int r_2, .int (-1), .int a1] fv_X12_446 (by decide +kernel : decode cX12_extraOf 54 = .ok (.invokevirtual 446, 3)) hU (t_X12_roundOf ho H) ho (by decide) rfl rfl rfl (Nat.le_of_ble_eq_true rfl) (Nat.le_of_ble_eq_true rfl) (Nat.le_refl 0) (Nat.le_refl 0) (fun r_10 U_9 h H hU => ?_)
    refine pr_iload hC (by decide +kernel : decode cX12_extraOf 57 = .ok (.iload 5, 2)) rfl ?_
    refine pr_isub hC (by decide +kernel : decode cX12_extraOf 59 = .ok (.isub, 1)) ?_
    exact pv_iret hM (by decide +kernel : decode cX12_extraOf 60 = .ok (.ireturn, 1)) hU H
  replace H := H.1 c_30
  refine pr_iload hC (by decide +kernel : decode cX12_extraOf 33 = .ok (.iload 5, 2)) rfl ?_
  refine pr_aload_n hC (by decide +kernel : decode cX12_extraOf 35 = .ok (.aload_n 0, 1)) rfl ?_
  refine pr_iload_n hC (by decide +kernel : decode cX12_extraOf 36 = .ok (.iload_n 3, 1)) rfl ?_
  refine pr_iload hC (by decide +kernel : decode cX12_extraOf 37 = .ok (.iload 4, 2)) rfl ?_
  refine pr_iload_n hC (by decide +kernel : decode cX12_extraOf 39 = .ok (.iload_n 1, 1)) rfl ?_
  refine pr_iconst hC (-1) (by decide +kernel : decode cX12_extraOf 40 = .ok (.iconst (-1), 1)) rfl ?_
  refine vc_Vi hC hR [.int a3, .int r_2, .int a1, .int (-1)] fv_X12_446 (by decide +kernel : decode cX12_extraOf 41 = .ok (.invokevirtual 446, 3)) hU (t_X12_roundOf ho H) ho (by decide) rfl rfl rfl (Nat.le_of_ble_eq_true rfl) (Nat.le_of_ble_eq_true rfl) (Nat.le_refl 0) (Nat.le_refl 0) (fun r_8 U_7 h H hU => ?_)
  refine pr_isub hC (by decide +kernel : decode cX12_extraOf 44 = .ok (.isub, 1)) ?_
  refine pr_goto hC 60 (by decide +kernel : decode cX12_extraOf 45 = .ok (.goto 15, 3)) (by decide) ?_
  exact pv_iret hM (by decide +kernel : decode cX12_extraOf 60 = .ok (.ireturn, 1)) hU H
def w_X12_extra (o : Nat) (a1 : Int32) (a2 : Int32) (a3 : Int32) (U : Um) (post : Int32 → Um → Prop) : Prop :=
  ∀ (U_1 : Um), U_1 = sI U o 0 0 → w_X12_isSeat o a1 a2 U_1 (fun r_3 U_2 => (r_3 = 0 → post (-1) U_2) ∧ (¬ r_3 = 0 → w_X12_isOne o a3 U_2 (fun r_5 U_4 => (r_5 = 0 → post (-1) U_4) ∧ (¬ r_5 = 0 → w_X12_extraOf o a1 a2 a3 U_4 (fun r_7 U_6 => post r_7 U_6)))))
set_option maxHeartbeats 4000000 in
theorem t_X12_extra {l : Launch} {Y : px_Y} {o : Nat} {a1 : Int32} {a2 : Int32} {a3 : Int32} {U : Um} {post : Int32 → Um → Prop} (ho : oc o = 10) (H : w_X12_extra o a1 a2 a3 U post) : um l Y 5 yX12_extra cX12_extra 4 (some (.int)) [.ref (Y.2.1 o), .int a1, .int a2, .int a3] U (pq_i post) := by
  unfold w_X12_extra at H
  refine um_of (by decide) (Nat.le_of_ble_eq_true rfl) [some (.ref (Y.2.1 o)), some (.int a1), some (.int a2), some (.int a3)] rfl (fun X h0 hh sz hM hU => ?_)
  have hC := hM.1
  have hR := hM.2.2.1
  refine pr_aload_n hC (by decide +kernel : decode cX12_extra 0 = .ok (.aload_n 0, 1)) rfl ?_
  refine pr_iconst hC (0) (by decide +kernel : decode cX12_extra 1 = .ok (.iconst 0, 1)) rfl ?_
  refine pv_p0 hC fp_X12_121 (by decide +kernel : decode cX12_extra 2 = .ok (.putfield 121, 3)) hU ho (by decide) rfl rfl rfl rfl (fun U_1 h e_U_1 hU => ?_)
  replace H := H U_1 e_U_1
  refine pr_aload_n hC (by decide +kernel : decode cX12_extra 5 = .ok (.aload_n 0, 1)) rfl ?_
  refine pr_iload_n hC (by decide +kernel : decode cX12_extra 6 = .ok (.iload_n 1, 1)) rfl ?_
  refine pr_iload_n hC (by decide +kernel : decode cX12_extra 7 = .ok (.iload_n 2, 1)) rfl ?_
  refine vc_Vi hC hR [.int a1, .int a2] fv_X12_388 (by decide +kernel : decode cX12_extra 8 = .ok (.invokevirtual 388, 3)) hU (t_X12_isSeat ho H) ho (by decide) rfl rfl rfl (Nat.le_of_ble_eq_true rfl) (Nat.le_of_ble_eq_true rfl) (Nat.le_refl 0) (Nat.le_refl 0) (fun r_3 U_2 h H hU => ?_)
  refine pr_if_eq hC 32 (by decide +kernel : decode cX12_extra 11 = .ok (.ifCond .eq 21, 3)) (by decide) (fun c_11 => ?_) (fun c_11 => ?_)
  · replace H := H.1 c_11
    refine pr_iconst hC (-1) (by decide +kernel : decode cX12_extra 32 = .ok (.iconst (-1), 1)) rfl ?_
    exact pv_iret hM (by decide +kernel : decode cX12_extra 33 = .ok (.ireturn, 1)) hU H
  replace H := H.2 c_11
  refine pr_aload_n hC (by decide +kernel : decode cX12_extra 14 = .ok (.aload_n 0, 1)) rfl ?_
  refine pr_iload_n hC (by decide +kernel : decode cX12_extra 15 = .ok (.iload_n 3, 1)) rfl ?_
  refine vc_Vi hC hR [.int a3] fv_X12_368 (by decide +kernel : decode cX12_extra 16 = .ok (.invokevirtual 368, 3)) hU (t_X12_isOne ho H) ho (by decide) rfl rfl rfl (Nat.le_of_ble_eq_true rfl) (Nat.le_of_ble_eq_true rfl) (Nat.le_refl 0) (Nat.le_refl 0) (fun r_5 U_4 h H hU => ?_)
  refine pr_if_eq hC 32 (by decide +kernel : decode cX12_extra 19 = .ok (.ifCond .eq 13, 3)) (by decide) (fun c_19 => ?_) (fun c_19 => ?_)
  · replace H := H.1 c_19
    refine pr_iconst hC (-1) (by decide +kernel : decode cX12_extra 32 = .ok (.iconst (-1), 1)) rfl ?_
    exact pv_iret hM (by decide +kernel : decode cX12_extra 33 = .ok (.ireturn, 1)) hU H
  replace H := H.2 c_19
  refine pr_aload_n hC (by decide +kernel : decode cX12_extra 22 = .ok (.aload_n 0, 1)) rfl ?_
  refine pr_iload_n hC (by decide +kernel : decode cX12_extra 23 = .ok (.iload_n 1, 1)) rfl ?_
  refine pr_iload_n hC (by decide +kernel : decode cX12_extra 24 = .ok (.iload_n 2, 1)) rfl ?_
  refine pr_iload_n hC (by decide +kernel : decode cX12_extra 25 = .ok (.iload_n 3, 1)) rfl ?_
  refine vc_Vi hC hR [.int a1, .int a2, .int a3] fv_X12_449 (by decide +kernel : decode cX12_extra 26 = .ok (.invokevirtual 449, 3)) hU (t_X12_extraOf ho H) ho (by decide) rfl rfl rfl (Nat.le_of_ble_eq_true rfl) (Nat.le_of_ble_eq_true rfl) (Nat.le_refl 0) (Nat.le_refl 0) (fun r_7 U_6 h H hU => ?_)
  refine pr_goto hC 33 (by decide +kernel : decode cX12_extra 29 = .ok (.goto 4, 3)) (by decide) ?_
  exact pv_iret hM (by decide +kernel : decode cX12_extra 33 = .ok (.ireturn, 1)) hU H
def w_X12_round (o : Nat) (a1 : Int32) (a2 : Int32) (U : Um) (post : Int32 → Um → Prop) : Prop :=
  ∀ (U_1 : Um), U_1 = sI U o 0 0 → w_X12_isOne o a1 U_1 (fun r_3 U_2 => (r_3 = 0 → post (-1) U_2) ∧ (¬ r_3 = 0 → w_X12_isIn (Int32.toInt64 a2) 0 6 U_2 (fun r_5 U_4 => (r_5 = 0 → post (-1) U_4) ∧ (¬ r_5 = 0 → w_X12_roundOf o a1 a2 (-1) (-1) U_4 (fun r_7 U_6 => post r_7 U_6)))))
set_option maxHeartbeats 4000000 in
theorem t_X12_round {l : Launch} {Y : px_Y} {o : Nat} {a1 : Int32} {a2 : Int32} {U : Um} {post : Int32 → Um → Prop} (ho : oc o = 10) (H : w_X12_round o a1 a2 U post) : um l Y 4 yX12_round cX12_round 3 (some (.int)) [.ref (Y.2.1 o), .int a1, .int a2] U (pq_i post) := by
  unfold w_X12_round at H
  refine um_of (by decide) (Nat.le_of_ble_eq_true rfl) [some (.ref (Y.2.1 o)), some (.int a1), some (.int a2)] rfl (fun X h0 hh sz hM hU => ?_)
  have hC := hM.1
  have hR := hM.2.2.1
  refine pr_aload_n hC (by decide +kernel : decode cX12_round 0 = .ok (.aload_n 0, 1)) rfl ?_
  refine pr_iconst hC (0) (by decide +kernel : decode cX12_round 1 = .ok (.iconst 0, 1)) rfl ?_
  refine pv_p0 hC fp_X12_121 (by decide +kernel : decode cX12_round 2 = .ok (.putfield 121, 3)) hU ho (by decide) rfl rfl rfl rfl (fun U_1 h e_U_1 hU => ?_)
  replace H := H U_1 e_U_1
  refine pr_aload_n hC (by decide +kernel : decode cX12_round 5 = .ok (.aload_n 0, 1)) rfl ?_
  refine pr_iload_n hC (by decide +kernel : decode cX12_round 6 = .ok (.iload_n 1, 1)) rfl ?_
  refine vc_Vi hC hR [.int a1] fv_X12_368 (by decide +kernel : decode cX12_round 7 = .ok (.invokevirtual 368, 3)) hU (t_X12_isOne ho H) ho (by decide) rfl rfl rfl (Nat.le_of_ble_eq_true rfl) (Nat.le_of_ble_eq_true rfl) (Nat.le_refl 0) (Nat.le_refl 0) (fun r_3 U_2 h H hU => ?_)
  refine pr_if_eq hC 36 (by decide +kernel : decode cX12_round 10 = .ok (.ifCond .eq 26, 3)) (by decide) (fun c_10 => ?_) (fun c_10 => ?_)
  · replace H := H.1 c_10
    refine pr_iconst hC (-1) (by decide +kernel : decode cX12_round 36 = .ok (.iconst (-1), 1)) rfl ?_
    exact pv_iret hM (by decide +kernel : decode cX12_round 37 = .ok (.ireturn, 1)) hU H
  replace H := H.2 c_10
  refine pr_iload_n hC (by decide +kernel : decode cX12_round 13 = .ok (.iload_n 2, 1)) rfl ?_
  refine pr_i2l hC (by decide +kernel : decode cX12_round 14 = .ok (.i2l, 1)) ?_
  refine pr_lconst hC (0) (by decide +kernel : decode cX12_round 15 = .ok (.lconst 0, 1)) rfl ?_
  refine pr_ldc2 hC (6) (by decide +kernel : decode cX12_round 16 = .ok (.ldc2_w 452, 3)) fk_X12_452 ?_
  refine vc_Si hC hR [.long (Int32.toInt64 a2), .long 0, .long 6] fv_X12_131 (by decide +kernel : decode cX12_round 19 = .ok (.invokestatic 131, 3)) hU (t_X12_isIn  H) rfl rfl (Nat.le_of_ble_eq_true rfl) (Nat.le_of_ble_eq_true rfl) (Nat.le_refl 0) (Nat.le_refl 0) (fun r_5 U_4 h H hU => ?_)
  refine pr_if_eq hC 36 (by decide +kernel : decode cX12_round 22 = .ok (.ifCond .eq 14, 3)) (by decide) (fun c_22 => ?_) (fun c_22 => ?_)
  · replace H := H.1 c_22
    refine pr_iconst hC (-1) (by decide +kernel : decode cX12_round 36 = .ok (.iconst (-1), 1)) rfl ?_
    exact pv_iret hM (by decide +kernel : decode cX12_round 37 = .ok (.ireturn, 1)) hU H
  replace H := H.2 c_22
  refine pr_aload_n hC (by decide +kernel : decode cX12_round 25 = .ok (.aload_n 0, 1)) rfl ?_
  refine pr_iload_n hC (by decide +kernel : decode cX12_round 26 = .ok (.iload_n 1, 1)) rfl ?_
  refine pr_iload_n hC (by decide +kernel : decode cX12_round 27 = .ok (.iload_n 2, 1)) rfl ?_
  refine pr_iconst hC (-1) (by decide +kernel : decode cX12_round 28 = .ok (.iconst (-1), 1)) rfl ?_
  refine pr_iconst hC (-1) (by decide +kernel : decode cX12_round 29 = .ok (.iconst (-1), 1)) rfl ?_
  refine vc_Vi hC hR [.int a1, .int a2, .int (-1), .int (-1)] fv_X12_446 (by decide +kernel : decode cX12_round 30 = .ok (.invokevirtual 446, 3)) hU (t_X12_roundOf ho H) ho (by decide) rfl rfl rfl (Nat.le_of_ble_eq_true rfl) (Nat.le_of_ble_eq_true rfl) (Nat.le_refl 0) (Nat.le_refl 0) (fun r_7 U_6 h H hU => ?_)
  refine pr_goto hC 37 (by decide +kernel : decode cX12_round 33 = .ok (.goto 4, 3)) (by decide) ?_
  exact pv_iret hM (by decide +kernel : decode cX12_round 37 = .ok (.ireturn, 1)) hU H
def b_X12_trip_L57 (o0 : Nat) (x1 : Int32) (x3 : Int32) (x4 : Int32) (post : Int32 → Um → Prop) (k_89 : Int32 → Um → Prop) (rec_ : Int32 → Int32 → Um → Prop) (x5 : Int32) (x6 : Int32) (U : Um) : Prop :=
  (x4 ≤ x6 → k_89 x5 U) ∧ (¬ x4 ≤ x6 → vp_in x6 16 ∧ w_X12_of o0 (uA U o0 39 (Int32.toNatClampNeg x6)) 2 U (fun r_11 U_10 => ∀ (x5_12 : Int32), x5_12 = x5 ||| (1 <<< (r_11 &&& 31)) → ∀ (x6_13 : Int32), x6_13 = x6 + 1 → rec_ x5_12 x6_13 U_10))
def w_X12_trip_L57 (o0 : Nat) (x1 : Int32) (x3 : Int32) (x4 : Int32) (post : Int32 → Um → Prop) (k_89 : Int32 → Um → Prop) (n_ : Nat) : Int32 → Int32 → Um → Prop := Nat.rec (motive := fun _ => Int32 → Int32 → Um → Prop) (fun _ _ _ => False) (fun _ ih => b_X12_trip_L57 o0 x1 x3 x4 post k_89 ih) n_
def w_X12_trip (o : Nat) (a1 : Int32) (a2 : Int32) (a3 : Int32) (U : Um) (post : Int32 → Um → Prop) : Prop :=
  ∀ (U_1 : Um), U_1 = sI U o 0 0 → w_X12_isOne o a1 U_1 (fun r_3 U_2 => (r_3 = 0 → post (-10000) U_2) ∧ (¬ r_3 = 0 → w_X12_isIn (Int32.toInt64 a2) 0 6 U_2 (fun r_5 U_4 => (r_5 = 0 → post (-10000) U_4) ∧ (¬ r_5 = 0 → w_X12_isIn (Int32.toInt64 a3) 0 3 U_4 (fun r_7 U_6 => (r_7 = 0 → post (-10000) U_6) ∧ (¬ r_7 = 0 → w_X12_laysDay o a1 a2 (-1) (-1) U_6 (fun r_9 U_8 => (∃ n_27, w_X12_trip_L57 o a1 a3 r_9 post (fun x5_14 U_15 => (a3 ≤ 1 → (r_9 = 0 → post (-10000) U_15) ∧ (¬ r_9 = 0 → ∀ (xs_16 : Int32), xs_16 = (if a3 = 0 then 0 else r_9 - 1) → vp_in xs_16 16 ∧ ∀ (x6_17 : Int32), x6_17 = uA U_15 o 39 (Int32.toNatClampNeg xs_16) → vp_in a1 20 ∧ w_X12_of o x6_17 2 U_15 (fun r_19 U_18 => w_X12_wayOf o (uA U_15 o 6 (Int32.toNatClampNeg a1)) r_19 U_18 (fun r_21 U_20 => (r_21 = (-1) → post (-10000) U_20) ∧ (¬ r_21 = (-1) → (a3 = 0 → w_X12_of o x6_17 4 U_20 (fun r_23 U_22 => vp_in 4 14 ∧ post ((r_23 - (uA U_22 o 11 (Int32.toNatClampNeg 4))) - r_21) U_22)) ∧ (¬ a3 = 0 → w_X12_endOf o x6_17 U_20 (fun r_25 U_24 => post (r_25 + r_21) U_24))))))) ∧ (¬ a3 ≤ 1 → (a3 = 2 → post x5_14 U_15) ∧ (¬ a3 = 2 → post r_9 U_15))) n_27 0 0 U_8))))))))
set_option maxHeartbeats 4000000 in
theorem tl_X12_trip_L57 {l : Launch} {Y : px_Y} {X : px_X} {h0 hh : pe_H} {sz : Nat} (o0 : Nat) (x1 : Int32) (x3 : Int32) (x4 : Int32) (post : Int32 → Um → Prop) (k_89 : Int32 → Um → Prop) (ho0 : oc o0 = 10)  (hC : px_C X Y.1 (pm_A hh sz) cX12_trip RX12 8) (hM : px_M l X Y.1 hh sz yX12_trip cX12_trip 8 (some (.int)) 3 0 0) (hR : X.2.2.2.1 = pm_rm 3 0 0) (hk_89 : ∀ (y5 : Int32) (U : Um) (h : pe_H), k_89 y5 U → rF Y h0 U h → pw X Y.1 (pm_A hh sz) (pm_E X Y.1 hh sz 0 0 (pm_P Y h0 sz (pq_i post))) 89 [some (.ref (Y.2.1 o0)), some (.int x1), none, some (.int x3), some (.int x4), some (.int y5), none, none] [] h sz 0 0) : ∀ (n_ : Nat) (x5 : Int32) (x6 : Int32) (U : Um) (h : pe_H), rF Y h0 U h → w_X12_trip_L57 o0 x1 x3 x4 post k_89 n_ x5 x6 U → pw X Y.1 (pm_A hh sz) (pm_E X Y.1 hh sz 0 0 (pm_P Y h0 sz (pq_i post))) 57 [some (.ref (Y.2.1 o0)), some (.int x1), none, some (.int x3), some (.int x4), some (.int x5), some (.int x6), none] [] h sz 0 0 := by
  intro n_
  induction n_ with
  | zero => intro x5 x6 U h hU H; exact False.elim H
  | succ n_ ih =>
    intro x5 x6 U h hU H
    replace H : b_X12_trip_L57 o0 x1 x3 x4 post k_89 (w_X12_trip_L57 o0 x1 x3 x4 post k_89 n_) x5 x6 U := H
    unfold b_X12_trip_L57 at H
    refine pr_iload hC (by decide +kernel : decode cX12_trip 57 = .ok (.iload 6, 2)) rfl ?_
    refine pr_iload hC (by decide +kernel : decode cX12_trip 59 = .ok (.iload 4, 2)) rfl ?_
    refine pr_icmp_ge hC 89 (by decide +kernel : decode cX12_trip 61 = .ok (.if_icmp .ge 28, 3)) (by decide) (fun c_61 => ?_) (fun c_61 => ?_)
    · replace H := H.1 c_61
      exact pv_sub [some (.ref (Y.2.1 o0)), some (.int x1), none, some (.int x3), some (.int x4), some (.int x5), none, none] (And.intro rfl (And.intro rfl (And.intro rfl (And.intro rfl (And.intro rfl trivial))))) (hk_89 _ U h H hU)
    replace H := H.2 c_61
    refine pr_iload hC (by decide +kernel : decode cX12_trip 64 = .ok (.iload 5, 2)) rfl ?_
    refine pr_iconst hC (1) (by decide +kernel : decode cX12_trip 66 = .ok (.iconst 1, 1)) rfl ?_
    refine pr_aload_n hC (by decide +kernel : decode cX12_trip 67 = .ok (.aload_n 0, 1)) rfl ?_
    refine pr_aload_n hC (by decide +kernel : decode cX12_trip 68 = .ok (.aload_n 0, 1)) rfl ?_
    refine pu_g1 hC fg_X12_84 (by decide +kernel : decode cX12_trip 69 = .ok (.getfield 84, 3)) hU ho0 (by decide) rfl (by decide) ?_
    refine pr_iload hC (by decide +kernel : decode cX12_trip 72 = .ok (.iload 6, 2)) rfl ?_
    refine pu_iald hC (by decide +kernel : decode cX12_trip 74 = .ok (.iaload, 1)) hU ho0 rfl H.1 ?_
    replace H := H.2
    refine pr_iconst hC (2) (by decide +kernel : decode cX12_trip 75 = .ok (.iconst 2, 1)) rfl ?_
    refine vc_Vi hC hR [.int (uA U o0 39 (Int32.toNatClampNeg x6)), .int 2] fv_X12_353 (by decide +kernel : decode cX12_trip 76 = .ok (.invokevirtual 353, 3)) hU (t_X12_of ho0 H) ho0 (by decide) rfl rfl rfl (Nat.le_of_ble_eq_true rfl) (Nat.le_of_ble_eq_true rfl) (Nat.le_refl 0) (Nat.le_refl 0) (fun r_11 U_10 h H hU => ?_)
    refine pr_ishl hC (by decide +kernel : decode cX12_trip 79 = .ok (.ishl, 1)) ?_
    refine pr_ior hC (by decide +kernel : decode cX12_trip 80 = .ok (.ior, 1)) ?_
    refine pv_topi (fun x5_12 e_x5_12 => ?_)
    replace H := H x5_12 e_x5_12
    refine pr_istore hC (by decide +kernel : decode cX12_trip 81 = .ok (.istore 5, 2)) (by decide) rfl ?_
    refine pv_iinc hC (v := x6 + 1) (by decide +kernel : decode cX12_trip 83 = .ok (.iinc 6 1, 3)) rfl (by decide) rfl rfl (fun x6_13 e_x6_13 => ?_)
    replace H := H x6_13 e_x6_13
    refine pr_goto hC 57 (by decide +kernel : decode cX12_trip 86 = .ok (.goto (-29), 3)) (by decide) ?_
    exact pv_sub [some (.ref (Y.2.1 o0)), some (.int x1), none, some (.int x3), some (.int x4), some (.int x5_12), some (.int x6_13), none] (And.intro rfl (And.intro rfl (And.intro rfl (And.intro rfl (And.intro rfl (And.intro rfl trivial)))))) (ih _ _ U_10 h hU H)
set_option maxHeartbeats 4000000 in
theorem t_X12_trip {l : Launch} {Y : px_Y} {o : Nat} {a1 : Int32} {a2 : Int32} {a3 : Int32} {U : Um} {post : Int32 → Um → Prop} (ho : oc o = 10) (H : w_X12_trip o a1 a2 a3 U post) : um l Y 3 yX12_trip cX12_trip 8 (some (.int)) [.ref (Y.2.1 o), .int a1, .int a2, .int a3] U (pq_i post) := by
  unfold w_X12_trip at H
  refine um_of (by decide) (Nat.le_of_ble_eq_true rfl) [some (.ref (Y.2.1 o)), some (.int a1), some (.int a2), some (.int a3), none, none, none, none] rfl (fun X h0 hh sz hM hU => ?_)
  have hC := hM.1
  have hR := hM.2.2.1
  refine pr_aload_n hC (by decide +kernel : decode cX12_trip 0 = .ok (.aload_n 0, 1)) rfl ?_
  refine pr_iconst hC (0) (by decide +kernel : decode cX12_trip 1 = .ok (.iconst 0, 1)) rfl ?_
  refine pv_p0 hC fp_X12_121 (by decide +kernel : decode cX12_trip 2 = .ok (.putfield 121, 3)) hU ho (by decide) rfl rfl rfl rfl (fun U_1 h e_U_1 hU => ?_)
  replace H := H U_1 e_U_1
  refine pr_aload_n hC (by decide +kernel : decode cX12_trip 5 = .ok (.aload_n 0, 1)) rfl ?_
  refine pr_iload_n hC (by decide +kernel : decode cX12_trip 6 = .ok (.iload_n 1, 1)) rfl ?_
  refine vc_Vi hC hR [.int a1] fv_X12_368 (by decide +kernel : decode cX12_trip 7 = .ok (.invokevirtual 368, 3)) hU (t_X12_isOne ho H) ho (by decide) rfl rfl rfl (Nat.le_of_ble_eq_true rfl) (Nat.le_of_ble_eq_true rfl) (Nat.le_refl 0) (Nat.le_refl 0) (fun r_3 U_2 h H hU => ?_)
  refine pr_if_eq hC 37 (by decide +kernel : decode cX12_trip 10 = .ok (.ifCond .eq 27, 3)) (by decide) (fun c_10 => ?_) (fun c_10 => ?_)
  · replace H := H.1 c_10
    refine pr_sipush hC (-10000) (by decide +kernel : decode cX12_trip 37 = .ok (.sipush (-10000), 3)) rfl ?_
    exact pv_iret hM (by decide +kernel : decode cX12_trip 40 = .ok (.ireturn, 1)) hU H
  replace H := H.2 c_10
  refine pr_iload_n hC (by decide +kernel : decode cX12_trip 13 = .ok (.iload_n 2, 1)) rfl ?_
  refine pr_i2l hC (by decide +kernel : decode cX12_trip 14 = .ok (.i2l, 1)) ?_
  refine pr_lconst hC (0) (by decide +kernel : decode cX12_trip 15 = .ok (.lconst 0, 1)) rfl ?_
  refine pr_ldc2 hC (6) (by decide +kernel : decode cX12_trip 16 = .ok (.ldc2_w 452, 3)) fk_X12_452 ?_
  refine vc_Si hC hR [.long (Int32.toInt64 a2), .long 0, .long 6] fv_X12_131 (by decide +kernel : decode cX12_trip 19 = .ok (.invokestatic 131, 3)) hU (t_X12_isIn  H) rfl rfl (Nat.le_of_ble_eq_true rfl) (Nat.le_of_ble_eq_true rfl) (Nat.le_refl 0) (Nat.le_refl 0) (fun r_5 U_4 h H hU => ?_)
  refine pr_if_eq hC 37 (by decide +kernel : decode cX12_trip 22 = .ok (.ifCond .eq 15, 3)) (by decide) (fun c_22 => ?_) (fun c_22 => ?_)
  · replace H := H.1 c_22
    refine pr_sipush hC (-10000) (by decide +kernel : decode cX12_trip 37 = .ok (.sipush (-10000), 3)) rfl ?_
    exact pv_iret hM (by decide +kernel : decode cX12_trip 40 = .ok (.ireturn, 1)) hU H
  replace H := H.2 c_22
  refine pr_iload_n hC (by decide +kernel : decode cX12_trip 25 = .ok (.iload_n 3, 1)) rfl ?_
  refine pr_i2l hC (by decide +kernel : decode cX12_trip 26 = .ok (.i2l, 1)) ?_
  refine pr_lconst hC (0) (by decide +kernel : decode cX12_trip 27 = .ok (.lconst 0, 1)) rfl ?_
  refine pr_ldc2 hC (3) (by decide +kernel : decode cX12_trip 28 = .ok (.ldc2_w 454, 3)) fk_X12_454 ?_
  refine vc_Si hC hR [.long (Int32.toInt64 a3), .long 0, .long 3] fv_X12_131 (by decide +kernel : decode cX12_trip 31 = .ok (.invokestatic 131, 3)) hU (t_X12_isIn  H) rfl rfl (Nat.le_of_ble_eq_true rfl) (Nat.le_of_ble_eq_true rfl) (Nat.le_refl 0) (Nat.le_refl 0) (fun r_7 U_6 h H hU => ?_)
  refine pr_if_ne hC 41 (by decide +kernel : decode cX12_trip 34 = .ok (.ifCond .ne 7, 3)) (by decide) (fun c_34 => ?_) (fun c_34 => ?_)
  · replace H := H.2 c_34
    refine pr_aload_n hC (by decide +kernel : decode cX12_trip 41 = .ok (.aload_n 0, 1)) rfl ?_
    refine pr_iload_n hC (by decide +kernel : decode cX12_trip 42 = .ok (.iload_n 1, 1)) rfl ?_
    refine pr_iload_n hC (by decide +kernel : decode cX12_trip 43 = .ok (.iload_n 2, 1)) rfl ?_
    refine pr_iconst hC (-1) (by decide +kernel : decode cX12_trip 44 = .ok (.iconst (-1), 1)) rfl ?_
    refine pr_iconst hC (-1) (by decide +kernel : decode cX12_trip 45 = .ok (.iconst (-1), 1)) rfl ?_
    refine vc_Vi hC hR [.int a1, .int a2, .int (-1), .int (-1)] fv_X12_440 (by decide +kernel : decode cX12_trip 46 = .ok (.invokevirtual 440, 3)) hU (t_X12_laysDay ho H) ho (by decide) rfl rfl rfl (Nat.le_of_ble_eq_true rfl) (Nat.le_of_ble_eq_true rfl) (Nat.le_refl 0) (Nat.le_refl 0) (fun r_9 U_8 h H hU => ?_)
    refine pr_istore hC (by decide +kernel : decode cX12_trip 49 = .ok (.istore 4, 2)) (by decide) rfl ?_
    refine pr_iconst hC (0) (by decide +kernel : decode cX12_trip 51 = .ok (.iconst 0, 1)) rfl ?_
    refine pr_istore hC (by decide +kernel : decode cX12_trip 52 = .ok (.istore 5, 2)) (by decide) rfl ?_
    refine pr_iconst hC (0) (by decide +kernel : decode cX12_trip 54 = .ok (.iconst 0, 1)) rfl ?_
    refine pr_istore hC (by decide +kernel : decode cX12_trip 55 = .ok (.istore 6, 2)) (by decide) rfl ?_
    obtain ⟨n_27, H⟩ := H
    refine pv_sub [some (.ref (Y.2.1 o)), some (.int a1), none, some (.int a3), some (.int r_9), some (.int 0), some (.int 0), none] (And.intro rfl (And.intro rfl (And.intro rfl (And.intro rfl (And.intro rfl (And.intro rfl trivial)))))) ?_
    refine tl_X12_trip_L57 _ _ _ _ _ _ ho hC hM hR (fun x5_14 U_15 h H hU => ?_) n_27 _ _ U_8 h hU H
    refine pr_iload_n hC (by decide +kernel : decode cX12_trip 89 = .ok (.iload_n 3, 1)) rfl ?_
    refine pr_iconst hC (1) (by decide +kernel : decode cX12_trip 90 = .ok (.iconst 1, 1)) rfl ?_
    refine pr_icmp_le hC 107 (by decide +kernel : decode cX12_trip 91 = .ok (.if_icmp .le 16, 3)) (by decide) (fun c_91 => ?_) (fun c_91 => ?_)
    · replace H := H.1 c_91
      refine pr_iload hC (by decide +kernel : decode cX12_trip 107 = .ok (.iload 4, 2)) rfl ?_
      refine pr_if_ne hC 116 (by decide +kernel : decode cX12_trip 109 = .ok (.ifCond .ne 7, 3)) (by decide) (fun c_109 => ?_) (fun c_109 => ?_)
      · replace H := H.2 c_109
        refine pr_aload_n hC (by decide +kernel : decode cX12_trip 116 = .ok (.aload_n 0, 1)) rfl ?_
        refine pu_g1 hC fg_X12_84 (by decide +kernel : decode cX12_trip 117 = .ok (.getfield 84, 3)) hU ho (by decide) rfl (by decide) ?_
        refine pr_iload_n hC (by decide +kernel : decode cX12_trip 120 = .ok (.iload_n 3, 1)) rfl ?_
        have HJ_26 : ∀ (xs_16 : Int32), xs_16 = (if a3 = 0 then 0 else r_9 - 1) → pw X Y.1 (pm_A hh sz) (pm_E X Y.1 hh sz 0 0 (pm_P Y h0 sz (pq_i post))) 132 [some (.ref (Y.2.1 o)), some (.int a1), none, some (.int a3), none, none, none, none] [.int xs_16, .ref (Y.2.2 o 39)] h sz 0 0 := by
          intro xs_16 e_xs_16
          replace H := H xs_16 e_xs_16
          refine pu_iald hC (by decide +kernel : decode cX12_trip 132 = .ok (.iaload, 1)) hU ho rfl H.1 ?_
          replace H := H.2
          refine pv_topi (fun x6_17 e_x6_17 => ?_)
          replace H := H x6_17 e_x6_17
          refine pr_istore hC (by decide +kernel : decode cX12_trip 133 = .ok (.istore 6, 2)) (by decide) rfl ?_
          refine pr_aload_n hC (by decide +kernel : decode cX12_trip 135 = .ok (.aload_n 0, 1)) rfl ?_
          refine pr_aload_n hC (by decide +kernel : decode cX12_trip 136 = .ok (.aload_n 0, 1)) rfl ?_
          refine pu_g1 hC fg_X12_28 (by decide +kernel : decode cX12_trip 137 = .ok (.getfield 28, 3)) hU ho (by decide) rfl (by decide) ?_
          refine pr_iload_n hC (by decide +kernel : decode cX12_trip 140 = .ok (.iload_n 1, 1)) rfl ?_
          refine pu_iald hC (by decide +kernel : decode cX12_trip 141 = .ok (.iaload, 1)) hU ho rfl H.1 ?_
          replace H := H.2
          refine pr_aload_n hC (by decide +kernel : decode cX12_trip 142 = .ok (.aload_n 0, 1)) rfl ?_
          refine pr_iload hC (by decide +kernel : decode cX12_trip 143 = .ok (.iload 6, 2)) rfl ?_
          refine pr_iconst hC (2) (by decide +kernel : decode cX12_trip 145 = .ok (.iconst 2, 1)) rfl ?_
          refine vc_Vi hC hR [.int x6_17, .int 2] fv_X12_353 (by decide +kernel : decode cX12_trip 146 = .ok (.invokevirtual 353, 3)) hU (t_X12_of ho H) ho (by decide) rfl rfl rfl (Nat.le_of_ble_eq_true rfl) (Nat.le_of_ble_eq_true rfl) (Nat.le_refl 0) (Nat.le_refl 0) (fun r_19 U_18 h H hU => ?_)
          refine vc_Vi hC hR [.int (uA U_15 o 6 (Int32.toNatClampNeg a1)), .int r_19] fv_X12_394 (by decide +kernel : decode cX12_trip 149 = .ok (.invokevirtual 394, 3)) hU (t_X12_wayOf ho H) ho (by decide) rfl rfl rfl (Nat.le_of_ble_eq_true rfl) (Nat.le_of_ble_eq_true rfl) (Nat.le_refl 0) (Nat.le_refl 0) (fun r_21 U_20 h H hU => ?_)
          refine pr_istore hC (by decide +kernel : decode cX12_trip 152 = .ok (.istore 7, 2)) (by decide) rfl ?_
          refine pr_iload hC (by decide +kernel : decode cX12_trip 154 = .ok (.iload 7, 2)) rfl ?_
          refine pr_iconst hC (-1) (by decide +kernel : decode cX12_trip 156 = .ok (.iconst (-1), 1)) rfl ?_
          refine pr_icmp_ne hC 166 (by decide +kernel : decode cX12_trip 157 = .ok (.if_icmp .ne 9, 3)) (by decide) (fun c_157 => ?_) (fun c_157 => ?_)
          · replace H := H.2 c_157
            refine pr_iload_n hC (by decide +kernel : decode cX12_trip 166 = .ok (.iload_n 3, 1)) rfl ?_
            refine pr_if_ne hC 190 (by decide +kernel : decode cX12_trip 167 = .ok (.ifCond .ne 23, 3)) (by decide) (fun c_167 => ?_) (fun c_167 => ?_)
            · replace H := H.2 c_167
              refine pr_aload_n hC (by decide +kernel : decode cX12_trip 190 = .ok (.aload_n 0, 1)) rfl ?_
              refine pr_iload hC (by decide +kernel : decode cX12_trip 191 = .ok (.iload 6, 2)) rfl ?_
              refine vc_Vi hC hR [.int x6_17] fv_X12_402 (by decide +kernel : decode cX12_trip 193 = .ok (.invokevirtual 402, 3)) hU (t_X12_endOf ho H) ho (by decide) rfl rfl rfl (Nat.le_of_ble_eq_true rfl) (Nat.le_of_ble_eq_true rfl) (Nat.le_refl 0) (Nat.le_refl 0) (fun r_25 U_24 h H hU => ?_)
              refine pr_iload hC (by decide +kernel : decode cX12_trip 196 = .ok (.iload 7, 2)) rfl ?_
              refine pr_iadd hC (by decide +kernel : decode cX12_trip 198 = .ok (.iadd, 1)) ?_
              exact pv_iret hM (by decide +kernel : decode cX12_trip 199 = .ok (.ireturn, 1)) hU H
            replace H := H.1 c_167
            refine pr_aload_n hC (by decide +kernel : decode cX12_trip 170 = .ok (.aload_n 0, 1)) rfl ?_
            refine pr_iload hC (by decide +kernel : decode cX12_trip 171 = .ok (.iload 6, 2)) rfl ?_
            refine pr_iconst hC (4) (by decide +kernel : decode cX12_trip 173 = .ok (.iconst 4, 1)) rfl ?_
            refine vc_Vi hC hR [.int x6_17, .int 4] fv_X12_353 (by decide +kernel : decode cX12_trip 174 = .ok (.invokevirtual 353, 3)) hU (t_X12_of ho H) ho (by decide) rfl rfl rfl (Nat.le_of_ble_eq_true rfl) (Nat.le_of_ble_eq_true rfl) (Nat.le_refl 0) (Nat.le_refl 0) (fun r_23 U_22 h H hU => ?_)
            refine pr_aload_n hC (by decide +kernel : decode cX12_trip 177 = .ok (.aload_n 0, 1)) rfl ?_
            refine pu_g1 hC fg_X12_43 (by decide +kernel : decode cX12_trip 178 = .ok (.getfield 43, 3)) hU ho (by decide) rfl (by decide) ?_
            refine pr_iconst hC (4) (by decide +kernel : decode cX12_trip 181 = .ok (.iconst 4, 1)) rfl ?_
            refine pu_iald hC (by decide +kernel : decode cX12_trip 182 = .ok (.iaload, 1)) hU ho rfl H.1 ?_
            replace H := H.2
            refine pr_isub hC (by decide +kernel : decode cX12_trip 183 = .ok (.isub, 1)) ?_
            refine pr_iload hC (by decide +kernel : decode cX12_trip 184 = .ok (.iload 7, 2)) rfl ?_
            refine pr_isub hC (by decide +kernel : decode cX12_trip 186 = .ok (.isub, 1)) ?_
            refine pr_goto hC 199 (by decide +kernel : decode cX12_trip 187 = .ok (.goto 12, 3)) (by decide) ?_
            exact pv_iret hM (by decide +kernel : decode cX12_trip 199 = .ok (.ireturn, 1)) hU H
          replace H := H.1 c_157
          refine pr_sipush hC (-10000) (by decide +kernel : decode cX12_trip 160 = .ok (.sipush (-10000), 3)) rfl ?_
          refine pr_goto hC 199 (by decide +kernel : decode cX12_trip 163 = .ok (.goto 36, 3)) (by decide) ?_
          exact pv_iret hM (by decide +kernel : decode cX12_trip 199 = .ok (.ireturn, 1)) hU H
        replace H := trivial
        refine pr_if_ne hC 128 (by decide +kernel : decode cX12_trip 121 = .ok (.ifCond .ne 7, 3)) (by decide) (fun c_121 => ?_) (fun c_121 => ?_)
        · skip
          refine pr_iload hC (by decide +kernel : decode cX12_trip 128 = .ok (.iload 4, 2)) rfl ?_
          refine pr_iconst hC (1) (by decide +kernel : decode cX12_trip 130 = .ok (.iconst 1, 1)) rfl ?_
          refine pr_isub hC (by decide +kernel : decode cX12_trip 131 = .ok (.isub, 1)) ?_
          exact pv_sub [some (.ref (Y.2.1 o)), some (.int a1), none, some (.int a3), none, none, none, none] (And.intro rfl (And.intro rfl (And.intro rfl trivial))) (HJ_26 _ (if_neg c_121).symm)
        skip
        refine pr_iconst hC (0) (by decide +kernel : decode cX12_trip 124 = .ok (.iconst 0, 1)) rfl ?_
        refine pr_goto hC 132 (by decide +kernel : decode cX12_trip 125 = .ok (.goto 7, 3)) (by decide) ?_
        exact pv_sub [some (.ref (Y.2.1 o)), some (.int a1), none, some (.int a3), none, none, none, none] (And.intro rfl (And.intro rfl (And.intro rfl trivial))) (HJ_26 _ (if_pos c_121).symm)
      replace H := H.1 c_109
      refine pr_sipush hC (-10000) (by decide +kernel : decode cX12_trip 112 = .ok (.sipush (-10000), 3)) rfl ?_
      exact pv_iret hM (by decide +kernel : decode cX12_trip 115 = .ok (.ireturn, 1)) hU H
    replace H := H.2 c_91
    refine pr_iload_n hC (by decide +kernel : decode cX12_trip 94 = .ok (.iload_n 3, 1)) rfl ?_
    refine pr_iconst hC (2) (by decide +kernel : decode cX12_trip 95 = .ok (.iconst 2, 1)) rfl ?_
    refine pr_icmp_ne hC 104 (by decide +kernel : decode cX12_trip 96 = .ok (.if_icmp .ne 8, 3)) (by decide) (fun c_96 => ?_) (fun c_96 => ?_)
    · replace H := H.2 c_96
      refine pr_iload hC (by decide +kernel : decode cX12_trip 104 = .ok (.iload 4, 2)) rfl ?_
      exact pv_iret hM (by decide +kernel : decode cX12_trip 106 = .ok (.ireturn, 1)) hU H
    replace H := H.1 c_96
    refine pr_iload hC (by decide +kernel : decode cX12_trip 99 = .ok (.iload 5, 2)) rfl ?_
    refine pr_goto hC 106 (by decide +kernel : decode cX12_trip 101 = .ok (.goto 5, 3)) (by decide) ?_
    exact pv_iret hM (by decide +kernel : decode cX12_trip 106 = .ok (.ireturn, 1)) hU H
  replace H := H.1 c_34
  refine pr_sipush hC (-10000) (by decide +kernel : decode cX12_trip 37 = .ok (.sipush (-10000), 3)) rfl ?_
  exact pv_iret hM (by decide +kernel : decode cX12_trip 40 = .ok (.ireturn, 1)) hU H
def w_X12_wordTells (o : Nat) (a1 : Int32) (a2 : Int32) (a3 : Int32) (a4 : Int32) (U : Um) (post : Int32 → Um → Prop) : Prop :=
  (¬ a1 = 0 → ¬ a1 = 1 → ¬ a1 = 2 → ¬ a1 = 3 → ¬ a1 = 4 → ¬ a1 = 5 → ¬ a1 = 6 → vp_in a4 10 ∧ post (FP.f2i (uF U o 34 (Int32.toNatClampNeg a4))) U) ∧ (a1 = 0 → vp_in a4 10 ∧ post (uA U o 32 (Int32.toNatClampNeg a4)) U) ∧ (a1 = 1 → w_X12_needOf o a2 a3 U (fun r_2 U_1 => post r_2 U_1)) ∧ (a1 = 2 → post a3 U) ∧ (a1 = 3 → w_X12_of o a2 5 U (fun r_4 U_3 => post r_4 U_3)) ∧ (a1 = 4 → w_X12_of o a2 3 U (fun r_6 U_5 => post r_6 U_5)) ∧ (a1 = 5 → w_X12_of o a2 4 U (fun r_8 U_7 => post r_8 U_7)) ∧ (a1 = 6 → vp_in a4 20 ∧ w_X12_of o a2 2 U (fun r_10 U_9 => w_X12_wayOf o (uA U o 6 (Int32.toNatClampNeg a4)) r_10 U_9 (fun r_12 U_11 => post r_12 U_11)))
set_option maxHeartbeats 4000000 in
theorem t_X12_wordTells {l : Launch} {Y : px_Y} {o : Nat} {a1 : Int32} {a2 : Int32} {a3 : Int32} {a4 : Int32} {U : Um} {post : Int32 → Um → Prop} (ho : oc o = 10) (H : w_X12_wordTells o a1 a2 a3 a4 U post) : um l Y 2 yX12_wordTells cX12_wordTells 5 (some (.int)) [.ref (Y.2.1 o), .int a1, .int a2, .int a3, .int a4] U (pq_i post) := by
  unfold w_X12_wordTells at H
  refine um_of (by decide) (Nat.le_of_ble_eq_true rfl) [some (.ref (Y.2.1 o)), some (.int a1), some (.int a2), some (.int a3), some (.int a4)] rfl (fun X h0 hh sz hM hU => ?_)
  have hC := hM.1
  have hR := hM.2.2.1
  refine pr_iload_n hC (by decide +kernel : decode cX12_wordTells 0 = .ok (.iload_n 1, 1)) rfl ?_
  refine pv_table hC (by decide +kernel : decode cX12_wordTells 1 = .ok (.tableswitch 99 0 6 #[43, 51, 58, 60, 67, 74, 81], 43)) 100 (by decide) (fun hq => ?_) (fun hq => ?_)
  · replace H := H.1 (fun e => absurd hq (by rw [e]; decide)) (fun e => absurd hq (by rw [e]; decide)) (fun e => absurd hq (by rw [e]; decide)) (fun e => absurd hq (by rw [e]; decide)) (fun e => absurd hq (by rw [e]; decide)) (fun e => absurd hq (by rw [e]; decide)) (fun e => absurd hq (by rw [e]; decide))
    refine pr_aload_n hC (by decide +kernel : decode cX12_wordTells 100 = .ok (.aload_n 0, 1)) rfl ?_
    refine pu_g1 hC fg_X12_71 (by decide +kernel : decode cX12_wordTells 101 = .ok (.getfield 71, 3)) hU ho (by decide) rfl (by decide) ?_
    refine pr_iload hC (by decide +kernel : decode cX12_wordTells 104 = .ok (.iload 4, 2)) rfl ?_
    refine pu_fald hC (by decide +kernel : decode cX12_wordTells 106 = .ok (.faload, 1)) hU ho rfl H.1 ?_
    replace H := H.2
    refine pr_f2i hC (by decide +kernel : decode cX12_wordTells 107 = .ok (.f2i, 1)) ?_
    exact pv_iret hM (by decide +kernel : decode cX12_wordTells 108 = .ok (.ireturn, 1)) hU H
  · replace H := H.2
    rcases (show Int32.toInt a1 = 0 ∨ Int32.toInt a1 = 1 ∨ Int32.toInt a1 = 2 ∨ Int32.toInt a1 = 3 ∨ Int32.toInt a1 = 4 ∨ Int32.toInt a1 = 5 ∨ Int32.toInt a1 = 6 from by omega) with hq | hq | hq | hq | hq | hq | hq
    · have e_1 : a1 = 0 := Int32.toInt_inj.mp (hq.trans (by decide))
      replace H := H.1 e_1
      refine ⟨43, 44, by rw [hq]; rfl, by decide, ?_⟩
      refine pr_aload_n hC (by decide +kernel : decode cX12_wordTells 44 = .ok (.aload_n 0, 1)) rfl ?_
      refine pu_g1 hC fg_X12_65 (by decide +kernel : decode cX12_wordTells 45 = .ok (.getfield 65, 3)) hU ho (by decide) rfl (by decide) ?_
      refine pr_iload hC (by decide +kernel : decode cX12_wordTells 48 = .ok (.iload 4, 2)) rfl ?_
      refine pu_iald hC (by decide +kernel : decode cX12_wordTells 50 = .ok (.iaload, 1)) hU ho rfl H.1 ?_
      replace H := H.2
      exact pv_iret hM (by decide +kernel : decode cX12_wordTells 51 = .ok (.ireturn, 1)) hU H
    · have e_1 : a1 = 1 := Int32.toInt_inj.mp (hq.trans (by decide))
      replace H := H.2.1 e_1
      refine ⟨51, 52, by rw [hq]; rfl, by decide, ?_⟩
      refine pr_aload_n hC (by decide +kernel : decode cX12_wordTells 52 = .ok (.aload_n 0, 1)) rfl ?_
      refine pr_iload_n hC (by decide +kernel : decode cX12_wordTells 53 = .ok (.iload_n 2, 1)) rfl ?_
      refine pr_iload_n hC (by decide +kernel : decode cX12_wordTells 54 = .ok (.iload_n 3, 1)) rfl ?_
      refine vc_Vi hC hR [.int a2, .int a3] fv_X12_408 (by decide +kernel : decode cX12_wordTells 55 = .ok (.invokevirtual 408, 3)) hU (t_X12_needOf ho H) ho (by decide) rfl rfl rfl (Nat.le_of_ble_eq_true rfl) (Nat.le_of_ble_eq_true rfl) (Nat.le_refl 0) (Nat.le_refl 0) (fun r_2 U_1 h H hU => ?_)
      exact pv_iret hM (by decide +kernel : decode cX12_wordTells 58 = .ok (.ireturn, 1)) hU H
    · have e_1 : a1 = 2 := Int32.toInt_inj.mp (hq.trans (by decide))
      replace H := H.2.2.1 e_1
      refine ⟨58, 59, by rw [hq]; rfl, by decide, ?_⟩
      refine pr_iload_n hC (by decide +kernel : decode cX12_wordTells 59 = .ok (.iload_n 3, 1)) rfl ?_
      exact pv_iret hM (by decide +kernel : decode cX12_wordTells 60 = .ok (.ireturn, 1)) hU H
    · have e_1 : a1 = 3 := Int32.toInt_inj.mp (hq.trans (by decide))
      replace H := H.2.2.2.1 e_1
      refine ⟨60, 61, by rw [hq]; rfl, by decide, ?_⟩
      refine pr_aload_n hC (by decide +kernel : decode cX12_wordTells 61 = .ok (.aload_n 0, 1)) rfl ?_
      refine pr_iload_n hC (by decide +kernel : decode cX12_wordTells 62 = .ok (.iload_n 2, 1)) rfl ?_
      refine pr_iconst hC (5) (by decide +kernel : decode cX12_wordTells 63 = .ok (.iconst 5, 1)) rfl ?_
      refine vc_Vi hC hR [.int a2, .int 5] fv_X12_353 (by decide +kernel : decode cX12_wordTells 64 = .ok (.invokevirtual 353, 3)) hU (t_X12_of ho H) ho (by decide) rfl rfl rfl (Nat.le_of_ble_eq_true rfl) (Nat.le_of_ble_eq_true rfl) (Nat.le_refl 0) (Nat.le_refl 0) (fun r_4 U_3 h H hU => ?_)
      exact pv_iret hM (by decide +kernel : decode cX12_wordTells 67 = .ok (.ireturn, 1)) hU H
    · have e_1 : a1 = 4 := Int32.toInt_inj.mp (hq.trans (by decide))
      replace H := H.2.2.2.2.1 e_1
      refine ⟨67, 68, by rw [hq]; rfl, by decide, ?_⟩
      refine pr_aload_n hC (by decide +kernel : decode cX12_wordTells 68 = .ok (.aload_n 0, 1)) rfl ?_
      refine pr_iload_n hC (by decide +kernel : decode cX12_wordTells 69 = .ok (.iload_n 2, 1)) rfl ?_
      refine pr_iconst hC (3) (by decide +kernel : decode cX12_wordTells 70 = .ok (.iconst 3, 1)) rfl ?_
      refine vc_Vi hC hR [.int a2, .int 3] fv_X12_353 (by decide +kernel : decode cX12_wordTells 71 = .ok (.invokevirtual 353, 3)) hU (t_X12_of ho H) ho (by decide) rfl rfl rfl (Nat.le_of_ble_eq_true rfl) (Nat.le_of_ble_eq_true rfl) (Nat.le_refl 0) (Nat.le_refl 0) (fun r_6 U_5 h H hU => ?_)
      exact pv_iret hM (by decide +kernel : decode cX12_wordTells 74 = .ok (.ireturn, 1)) hU H
    · have e_1 : a1 = 5 := Int32.toInt_inj.mp (hq.trans (by decide))
      replace H := H.2.2.2.2.2.1 e_1
      refine ⟨74, 75, by rw [hq]; rfl, by decide, ?_⟩
      refine pr_aload_n hC (by decide +kernel : decode cX12_wordTells 75 = .ok (.aload_n 0, 1)) rfl ?_
      refine pr_iload_n hC (by decide +kernel : decode cX12_wordTells 76 = .ok (.iload_n 2, 1)) rfl ?_
      refine pr_iconst hC (4) (by decide +kernel : decode cX12_wordTells 77 = .ok (.iconst 4, 1)) rfl ?_
      refine vc_Vi hC hR [.int a2, .int 4] fv_X12_353 (by decide +kernel : decode cX12_wordTells 78 = .ok (.invokevirtual 353, 3)) hU (t_X12_of ho H) ho (by decide) rfl rfl rfl (Nat.le_of_ble_eq_true rfl) (Nat.le_of_ble_eq_true rfl) (Nat.le_refl 0) (Nat.le_refl 0) (fun r_8 U_7 h H hU => ?_)
      exact pv_iret hM (by decide +kernel : decode cX12_wordTells 81 = .ok (.ireturn, 1)) hU H
    · have e_1 : a1 = 6 := Int32.toInt_inj.mp (hq.trans (by decide))
      replace H := H.2.2.2.2.2.2 e_1
      refine ⟨81, 82, by rw [hq]; rfl, by decide, ?_⟩
      refine pr_aload_n hC (by decide +kernel : decode cX12_wordTells 82 = .ok (.aload_n 0, 1)) rfl ?_
      refine pr_aload_n hC (by decide +kernel : decode cX12_wordTells 83 = .ok (.aload_n 0, 1)) rfl ?_
      refine pu_g1 hC fg_X12_28 (by decide +kernel : decode cX12_wordTells 84 = .ok (.getfield 28, 3)) hU ho (by decide) rfl (by decide) ?_
      refine pr_iload hC (by decide +kernel : decode cX12_wordTells 87 = .ok (.iload 4, 2)) rfl ?_
      refine pu_iald hC (by decide +kernel : decode cX12_wordTells 89 = .ok (.iaload, 1)) hU ho rfl H.1 ?_
      replace H := H.2
      refine pr_aload_n hC (by decide +kernel : decode cX12_wordTells 90 = .ok (.aload_n 0, 1)) rfl ?_
      refine pr_iload_n hC (by decide +kernel : decode cX12_wordTells 91 = .ok (.iload_n 2, 1)) rfl ?_
      refine pr_iconst hC (2) (by decide +kernel : decode cX12_wordTells 92 = .ok (.iconst 2, 1)) rfl ?_
      refine vc_Vi hC hR [.int a2, .int 2] fv_X12_353 (by decide +kernel : decode cX12_wordTells 93 = .ok (.invokevirtual 353, 3)) hU (t_X12_of ho H) ho (by decide) rfl rfl rfl (Nat.le_of_ble_eq_true rfl) (Nat.le_of_ble_eq_true rfl) (Nat.le_refl 0) (Nat.le_refl 0) (fun r_10 U_9 h H hU => ?_)
      refine vc_Vi hC hR [.int (uA U o 6 (Int32.toNatClampNeg a4)), .int r_10] fv_X12_394 (by decide +kernel : decode cX12_wordTells 96 = .ok (.invokevirtual 394, 3)) hU (t_X12_wayOf ho H) ho (by decide) rfl rfl rfl (Nat.le_of_ble_eq_true rfl) (Nat.le_of_ble_eq_true rfl) (Nat.le_refl 0) (Nat.le_refl 0) (fun r_12 U_11 h H hU => ?_)
      exact pv_iret hM (by decide +kernel : decode cX12_wordTells 99 = .ok (.ireturn, 1)) hU H
def w_X12_floor (a1 : Int64) (a2 : Int64) (U : Um) (post : Int64 → Um → Prop) : Prop :=
  ¬ a2 = 0 ∧ ∀ (x4_1 : Int64), x4_1 = a1 / a2 → ¬ a2 = 0 ∧ ((lg_cmp (a1 - a1 / a2 * a2) 0) = 0 → post x4_1 U) ∧ (¬ (lg_cmp (a1 - a1 / a2 * a2) 0) = 0 → ∀ (xs_2 : Int32), xs_2 = (if (0 : Int32) ≤ (lg_cmp a1 0) then 0 else 1) → ((0 : Int32) ≤ (lg_cmp a2 0) → (xs_2 = 0 → post x4_1 U) ∧ (¬ xs_2 = 0 → post (x4_1 - 1) U)) ∧ (¬ (0 : Int32) ≤ (lg_cmp a2 0) → (xs_2 = 1 → post x4_1 U) ∧ (¬ xs_2 = 1 → post (x4_1 - 1) U)))
set_option maxHeartbeats 4000000 in
theorem t_X12_floor {l : Launch} {Y : px_Y} {a1 : Int64} {a2 : Int64} {U : Um} {post : Int64 → Um → Prop}  (H : w_X12_floor a1 a2 U post) : um l Y 0 yX12_floor cX12_floor 6 (some (.long)) [.long a1, .long a2] U (pq_l post) := by
  unfold w_X12_floor at H
  refine um_of (by decide) (Nat.le_of_ble_eq_true rfl) [some (.long a1), none, some (.long a2), none, none, none] rfl (fun X h0 hh sz hM hU => ?_)
  have hC := hM.1
  have hR := hM.2.2.1
  refine pr_lload_n hC (by decide +kernel : decode cX12_floor 0 = .ok (.lload_n 0, 1)) rfl ?_
  refine pr_lload_n hC (by decide +kernel : decode cX12_floor 1 = .ok (.lload_n 2, 1)) rfl ?_
  refine pr_ldiv hC (by decide +kernel : decode cX12_floor 2 = .ok (.ldiv, 1)) H.1 ?_
  replace H := H.2
  refine pv_topl (fun x4_1 e_x4_1 => ?_)
  replace H := H x4_1 e_x4_1
  refine pr_lstore hC (by decide +kernel : decode cX12_floor 3 = .ok (.lstore 4, 2)) (by decide) rfl ?_
  refine pr_lload_n hC (by decide +kernel : decode cX12_floor 5 = .ok (.lload_n 0, 1)) rfl ?_
  refine pr_lload_n hC (by decide +kernel : decode cX12_floor 6 = .ok (.lload_n 2, 1)) rfl ?_
  refine pr_lrem hC (by decide +kernel : decode cX12_floor 7 = .ok (.lrem, 1)) H.1 ?_
  replace H := H.2
  refine pr_lconst hC (0) (by decide +kernel : decode cX12_floor 8 = .ok (.lconst 0, 1)) rfl ?_
  refine pr_lcmp hC (by decide +kernel : decode cX12_floor 9 = .ok (.lcmp, 1)) ?_
  refine pr_if_eq hC 45 (by decide +kernel : decode cX12_floor 10 = .ok (.ifCond .eq 35, 3)) (by decide) (fun c_10 => ?_) (fun c_10 => ?_)
  · replace H := H.1 c_10
    refine pr_lload hC (by decide +kernel : decode cX12_floor 45 = .ok (.lload 4, 2)) rfl ?_
    exact pv_lret hM (by decide +kernel : decode cX12_floor 47 = .ok (.lreturn, 1)) hU H
  replace H := H.2 c_10
  refine pr_lload_n hC (by decide +kernel : decode cX12_floor 13 = .ok (.lload_n 0, 1)) rfl ?_
  refine pr_lconst hC (0) (by decide +kernel : decode cX12_floor 14 = .ok (.lconst 0, 1)) rfl ?_
  refine pr_lcmp hC (by decide +kernel : decode cX12_floor 15 = .ok (.lcmp, 1)) ?_
  have HJ_3 : ∀ (xs_2 : Int32), xs_2 = (if (0 : Int32) ≤ (lg_cmp a1 0) then 0 else 1) → pw X Y.1 (pm_A hh sz) (pm_E X Y.1 hh sz 0 0 (pm_P Y h0 sz (pq_l post))) 24 [none, none, some (.long a2), none, some (.long x4_1), none] [.int xs_2] hh sz 0 0 := by
    intro xs_2 e_xs_2
    replace H := H xs_2 e_xs_2
    refine pr_lload_n hC (by decide +kernel : decode cX12_floor 24 = .ok (.lload_n 2, 1)) rfl ?_
    refine pr_lconst hC (0) (by decide +kernel : decode cX12_floor 25 = .ok (.lconst 0, 1)) rfl ?_
    refine pr_lcmp hC (by decide +kernel : decode cX12_floor 26 = .ok (.lcmp, 1)) ?_
    refine pr_if_ge hC 34 (by decide +kernel : decode cX12_floor 27 = .ok (.ifCond .ge 7, 3)) (by decide) (fun c_27 => ?_) (fun c_27 => ?_)
    · replace H := H.1 c_27
      refine pr_iconst hC (0) (by decide +kernel : decode cX12_floor 34 = .ok (.iconst 0, 1)) rfl ?_
      refine pr_icmp_eq hC 45 (by decide +kernel : decode cX12_floor 35 = .ok (.if_icmp .eq 10, 3)) (by decide) (fun c_35 => ?_) (fun c_35 => ?_)
      · replace H := H.1 c_35
        refine pr_lload hC (by decide +kernel : decode cX12_floor 45 = .ok (.lload 4, 2)) rfl ?_
        exact pv_lret hM (by decide +kernel : decode cX12_floor 47 = .ok (.lreturn, 1)) hU H
      replace H := H.2 c_35
      refine pr_lload hC (by decide +kernel : decode cX12_floor 38 = .ok (.lload 4, 2)) rfl ?_
      refine pr_lconst hC (1) (by decide +kernel : decode cX12_floor 40 = .ok (.lconst 1, 1)) rfl ?_
      refine pr_lsub hC (by decide +kernel : decode cX12_floor 41 = .ok (.lsub, 1)) ?_
      refine pr_goto hC 47 (by decide +kernel : decode cX12_floor 42 = .ok (.goto 5, 3)) (by decide) ?_
      exact pv_lret hM (by decide +kernel : decode cX12_floor 47 = .ok (.lreturn, 1)) hU H
    replace H := H.2 c_27
    refine pr_iconst hC (1) (by decide +kernel : decode cX12_floor 30 = .ok (.iconst 1, 1)) rfl ?_
    refine pr_goto hC 35 (by decide +kernel : decode cX12_floor 31 = .ok (.goto 4, 3)) (by decide) ?_
    refine pr_icmp_eq hC 45 (by decide +kernel : decode cX12_floor 35 = .ok (.if_icmp .eq 10, 3)) (by decide) (fun c_35 => ?_) (fun c_35 => ?_)
    · replace H := H.1 c_35
      refine pr_lload hC (by decide +kernel : decode cX12_floor 45 = .ok (.lload 4, 2)) rfl ?_
      exact pv_lret hM (by decide +kernel : decode cX12_floor 47 = .ok (.lreturn, 1)) hU H
    replace H := H.2 c_35
    refine pr_lload hC (by decide +kernel : decode cX12_floor 38 = .ok (.lload 4, 2)) rfl ?_
    refine pr_lconst hC (1) (by decide +kernel : decode cX12_floor 40 = .ok (.lconst 1, 1)) rfl ?_
    refine pr_lsub hC (by decide +kernel : decode cX12_floor 41 = .ok (.lsub, 1)) ?_
    refine pr_goto hC 47 (by decide +kernel : decode cX12_floor 42 = .ok (.goto 5, 3)) (by decide) ?_
    exact pv_lret hM (by decide +kernel : decode cX12_floor 47 = .ok (.lreturn, 1)) hU H
  replace H := trivial
  refine pr_if_ge hC 23 (by decide +kernel : decode cX12_floor 16 = .ok (.ifCond .ge 7, 3)) (by decide) (fun c_16 => ?_) (fun c_16 => ?_)
  · skip
    refine pr_iconst hC (0) (by decide +kernel : decode cX12_floor 23 = .ok (.iconst 0, 1)) rfl ?_
    exact pv_sub [none, none, some (.long a2), none, some (.long x4_1), none] (And.intro rfl (And.intro rfl trivial)) (HJ_3 _ (if_pos c_16).symm)
  skip
  refine pr_iconst hC (1) (by decide +kernel : decode cX12_floor 19 = .ok (.iconst 1, 1)) rfl ?_
  refine pr_goto hC 24 (by decide +kernel : decode cX12_floor 20 = .ok (.goto 4, 3)) (by decide) ?_
  exact pv_sub [none, none, some (.long a2), none, some (.long x4_1), none] (And.intro rfl (And.intro rfl trivial)) (HJ_3 _ (if_neg c_16).symm)
def b_X12_feeOf_L18 (o0 : Nat) (x1 : Int32) (x2 : Int32) (x3 : Int32) (post : Int64 → Um → Prop) (k_256 : Um → Prop) (rec_ : Int32 → Int32 → Um → Prop) (x4 : Int32) (x5 : Int32) (U : Um) : Prop :=
  ((uI U o0 14) ≤ x5 → k_256 U) ∧ (¬ (uI U o0 14) ≤ x5 → vp_in x5 2600 ∧ ∀ (x6_1 : Int32), x6_1 = uA U o0 13 (Int32.toNatClampNeg x5) → (∀ K_2 : Prop, (((∀ K_3 : Um → Prop, (∀ (U_4 : Um), ((x6_1 = 0 → vp_in x5 2600 ∧ vp_in x4 1300 ∧ ∀ (U_5 : Um), U_5 = sJ U_4 o0 40 (va_up (uJ U_4 o0 40) (Int32.toNatClampNeg x4) (Int32.toInt64 (uA U_4 o0 12 (Int32.toNatClampNeg x5)))) → ∀ (x4_6 : Int32), x4_6 = x4 + 1 → ∀ (x5_7 : Int32), x5_7 = x5 + 1 → rec_ x4_6 x5_7 U_5) ∧ (¬ x6_1 = 0 → vp_in x5 2600 ∧ w_X12_wordTells o0 (uA U_4 o0 12 (Int32.toNatClampNeg x5)) x1 x2 x3 U_4 (fun r_9 U_8 => vp_in x4 1300 ∧ ∀ (U_10 : Um), U_10 = sJ U_8 o0 40 (va_up (uJ U_8 o0 40) (Int32.toNatClampNeg x4) (Int32.toInt64 r_9)) → ∀ (x4_11 : Int32), x4_11 = x4 + 1 → ∀ (x5_12 : Int32), x5_12 = x5 + 1 → rec_ x4_11 x5_12 U_10))) → K_3 U_4) → (x6_1 = 1 → vp_in x5 2600 ∧ ((uA U o0 12 (Int32.toNatClampNeg x5)) = 6 → w_X12_wordTells o0 6 x1 x2 x3 U (fun r_14 U_13 => (r_14 = (-1) → post (-9223372036854775808) U_13) ∧ (¬ r_14 = (-1) → K_3 U_13))) ∧ (¬ (uA U o0 12 (Int32.toNatClampNeg x5)) = 6 → K_3 U)) ∧ (¬ x6_1 = 1 → K_3 U))) → K_2 ) → (x6_1 = 0 → K_2) ∧ (¬ x6_1 = 0 → (x6_1 = 1 → K_2) ∧ (¬ x6_1 = 1 → ∀ (x4_15 : Int32), x4_15 = x4 + (-1) → vp_in (x4_15 - 1) 1300 ∧ ∀ (x7_16 : Int64), x7_16 = uJ U o0 40 (Int32.toNatClampNeg (x4_15 - 1)) → vp_in x4_15 1300 ∧ ∀ (x9_17 : Int64), x9_17 = uJ U o0 40 (Int32.toNatClampNeg x4_15) → (∀ K_18 : Prop, (((∀ K_19 : Int64 → Um → Prop, (∀ (xs_20 : Int64) (U_21 : Um), (w_X12_isIn xs_20 (-2147483648) 2147483647 U_21 (fun r_23 U_22 => (r_23 = 0 → post (-9223372036854775808) U_22) ∧ (¬ r_23 = 0 → vp_in (x4_15 - 1) 1300 ∧ ∀ (U_24 : Um), U_24 = sJ U_22 o0 40 (va_up (uJ U_22 o0 40) (Int32.toNatClampNeg (x4_15 - 1)) xs_20) → ∀ (x5_25 : Int32), x5_25 = x5 + 1 → rec_ x4_15 x5_25 U_24))) → K_19 xs_20 U_21) → (x6_1 = 43 → K_19 (x7_16 + x9_17) U) ∧ (¬ x6_1 = 43 → (x6_1 = 45 → K_19 (x7_16 - x9_17) U) ∧ (¬ x6_1 = 45 → (x6_1 = 42 → K_19 (x7_16 * x9_17) U) ∧ (¬ x6_1 = 42 → w_X12_floor x7_16 x9_17 U (fun r_27 U_26 => K_19 r_27 U_26)))))) → K_18 ) → (x6_1 = 47 → ((lg_cmp x9_17 0) = 0 → post (-9223372036854775808) U) ∧ (¬ (lg_cmp x9_17 0) = 0 → K_18)) ∧ (¬ x6_1 = 47 → K_18))))))
def w_X12_feeOf_L18 (o0 : Nat) (x1 : Int32) (x2 : Int32) (x3 : Int32) (post : Int64 → Um → Prop) (k_256 : Um → Prop) (n_ : Nat) : Int32 → Int32 → Um → Prop := Nat.rec (motive := fun _ => Int32 → Int32 → Um → Prop) (fun _ _ _ => False) (fun _ ih => b_X12_feeOf_L18 o0 x1 x2 x3 post k_256 ih) n_
def w_X12_feeOf (o : Nat) (a1 : Int32) (a2 : Int32) (a3 : Int32) (U : Um) (post : Int64 → Um → Prop) : Prop :=
  vp_in 6 14 ∧ ((uA U o 11 (Int32.toNatClampNeg 6)) = 0 → post 0 U) ∧ (¬ (uA U o 11 (Int32.toNatClampNeg 6)) = 0 → (∃ n_29, w_X12_feeOf_L18 o a1 a2 a3 post (fun U_28 => vp_in 0 1300 ∧ post (uJ U_28 o 40 (Int32.toNatClampNeg 0)) U_28) n_29 0 0 U))
set_option maxHeartbeats 4000000 in
theorem tl_X12_feeOf_L18 {l : Launch} {Y : px_Y} {X : px_X} {h0 hh : pe_H} {sz : Nat} (o0 : Nat) (x1 : Int32) (x2 : Int32) (x3 : Int32) (post : Int64 → Um → Prop) (k_256 : Um → Prop) (ho0 : oc o0 = 10)  (hC : px_C X Y.1 (pm_A hh sz) cX12_feeOf RX12 13) (hM : px_M l X Y.1 hh sz yX12_feeOf cX12_feeOf 13 (some (.long)) 3 0 0) (hR : X.2.2.2.1 = pm_rm 3 0 0) (hk_256 : ∀ (U : Um) (h : pe_H), k_256 U → rF Y h0 U h → pw X Y.1 (pm_A hh sz) (pm_E X Y.1 hh sz 0 0 (pm_P Y h0 sz (pq_l post))) 256 [some (.ref (Y.2.1 o0)), none, none, none, none, none, none, none, none, none, none, none, none] [] h sz 0 0) : ∀ (n_ : Nat) (x4 : Int32) (x5 : Int32) (U : Um) (h : pe_H), rF Y h0 U h → w_X12_feeOf_L18 o0 x1 x2 x3 post k_256 n_ x4 x5 U → pw X Y.1 (pm_A hh sz) (pm_E X Y.1 hh sz 0 0 (pm_P Y h0 sz (pq_l post))) 18 [some (.ref (Y.2.1 o0)), some (.int x1), some (.int x2), some (.int x3), some (.int x4), some (.int x5), none, none, none, none, none, none, none] [] h sz 0 0 := by
  intro n_
  induction n_ with
  | zero => intro x4 x5 U h hU H; exact False.elim H
  | succ n_ ih =>
    intro x4 x5 U h hU H
    replace H : b_X12_feeOf_L18 o0 x1 x2 x3 post k_256 (w_X12_feeOf_L18 o0 x1 x2 x3 post k_256 n_) x4 x5 U := H
    unfold b_X12_feeOf_L18 at H
    refine pr_iload hC (by decide +kernel : decode cX12_feeOf 18 = .ok (.iload 5, 2)) rfl ?_
    refine pr_aload_n hC (by decide +kernel : decode cX12_feeOf 20 = .ok (.aload_n 0, 1)) rfl ?_
    refine pu_g0 hC fg_X12_340 (by decide +kernel : decode cX12_feeOf 21 = .ok (.getfield 340, 3)) hU ho0 (by decide) rfl rfl ?_
    refine pr_icmp_ge hC 256 (by decide +kernel : decode cX12_feeOf 24 = .ok (.if_icmp .ge 232, 3)) (by decide) (fun c_24 => ?_) (fun c_24 => ?_)
    · replace H := H.1 c_24
      exact pv_sub [some (.ref (Y.2.1 o0)), none, none, none, none, none, none, none, none, none, none, none, none] (And.intro rfl trivial) (hk_256 U h H hU)
    replace H := H.2 c_24
    refine pr_aload_n hC (by decide +kernel : decode cX12_feeOf 27 = .ok (.aload_n 0, 1)) rfl ?_
    refine pu_g1 hC fg_X12_49 (by decide +kernel : decode cX12_feeOf 28 = .ok (.getfield 49, 3)) hU ho0 (by decide) rfl (by decide) ?_
    refine pr_iload hC (by decide +kernel : decode cX12_feeOf 31 = .ok (.iload 5, 2)) rfl ?_
    refine pu_iald hC (by decide +kernel : decode cX12_feeOf 33 = .ok (.iaload, 1)) hU ho0 rfl H.1 ?_
    replace H := H.2
    refine pv_topi (fun x6_1 e_x6_1 => ?_)
    replace H := H x6_1 e_x6_1
    refine pr_istore hC (by decide +kernel : decode cX12_feeOf 34 = .ok (.istore 6, 2)) (by decide) rfl ?_
    refine pr_iload hC (by decide +kernel : decode cX12_feeOf 36 = .ok (.iload 6, 2)) rfl ?_
    replace H := H (pw X Y.1 (pm_A hh sz) (pm_E X Y.1 hh sz 0 0 (pm_P Y h0 sz (pq_l post))) 47 [some (.ref (Y.2.1 o0)), some (.int x1), some (.int x2), some (.int x3), some (.int x4), some (.int x5), some (.int x6_1), none, none, none, none, none, none] [] h sz 0 0) (by
      intro  H
      refine pr_iload hC (by decide +kernel : decode cX12_feeOf 47 = .ok (.iload 6, 2)) rfl ?_
      refine pr_iconst hC (1) (by decide +kernel : decode cX12_feeOf 49 = .ok (.iconst 1, 1)) rfl ?_
      replace H := H (fun U_4 => ∀ h : pe_H, rF Y h0 U_4 h → pw X Y.1 (pm_A hh sz) (pm_E X Y.1 hh sz 0 0 (pm_P Y h0 sz (pq_l post))) 82 [some (.ref (Y.2.1 o0)), some (.int x1), some (.int x2), some (.int x3), some (.int x4), some (.int x5), some (.int x6_1), none, none, none, none, none, none] [] h sz 0 0) (by
        intro U_4 H h hU
        refine pr_aload_n hC (by decide +kernel : decode cX12_feeOf 82 = .ok (.aload_n 0, 1)) rfl ?_
        refine pu_g1 hC fg_X12_87 (by decide +kernel : decode cX12_feeOf 83 = .ok (.getfield 87, 3)) hU ho0 (by decide) rfl (by decide) ?_
        refine pr_iload hC (by decide +kernel : decode cX12_feeOf 86 = .ok (.iload 4, 2)) rfl ?_
        refine pr_iload hC (by decide +kernel : decode cX12_feeOf 88 = .ok (.iload 6, 2)) rfl ?_
        refine pr_if_ne hC 104 (by decide +kernel : decode cX12_feeOf 90 = .ok (.ifCond .ne 14, 3)) (by decide) (fun c_90 => ?_) (fun c_90 => ?_)
        · replace H := H.2 c_90
          refine pr_aload_n hC (by decide +kernel : decode cX12_feeOf 104 = .ok (.aload_n 0, 1)) rfl ?_
          refine pr_aload_n hC (by decide +kernel : decode cX12_feeOf 105 = .ok (.aload_n 0, 1)) rfl ?_
          refine pu_g1 hC fg_X12_46 (by decide +kernel : decode cX12_feeOf 106 = .ok (.getfield 46, 3)) hU ho0 (by decide) rfl (by decide) ?_
          refine pr_iload hC (by decide +kernel : decode cX12_feeOf 109 = .ok (.iload 5, 2)) rfl ?_
          refine pu_iald hC (by decide +kernel : decode cX12_feeOf 111 = .ok (.iaload, 1)) hU ho0 rfl H.1 ?_
          replace H := H.2
          refine pr_iload_n hC (by decide +kernel : decode cX12_feeOf 112 = .ok (.iload_n 1, 1)) rfl ?_
          refine pr_iload_n hC (by decide +kernel : decode cX12_feeOf 113 = .ok (.iload_n 2, 1)) rfl ?_
          refine pr_iload_n hC (by decide +kernel : decode cX12_feeOf 114 = .ok (.iload_n 3, 1)) rfl ?_
          refine vc_Vi hC hR [.int (uA U_4 o0 12 (Int32.toNatClampNeg x5)), .int x1, .int x2, .int x3] fv_X12_456 (by decide +kernel : decode cX12_feeOf 115 = .ok (.invokevirtual 456, 3)) hU (t_X12_wordTells ho0 H) ho0 (by decide) rfl rfl rfl (Nat.le_of_ble_eq_true rfl) (Nat.le_of_ble_eq_true rfl) (Nat.le_refl 0) (Nat.le_refl 0) (fun r_9 U_8 h H hU => ?_)
          refine pr_i2l hC (by decide +kernel : decode cX12_feeOf 118 = .ok (.i2l, 1)) ?_
          refine pv_last hC (by decide +kernel : decode cX12_feeOf 119 = .ok (.lastore, 1)) hU ho0 rfl H.1 (fun U_10 h e_U_10 hU => ?_)
          replace H := H.2 U_10 e_U_10
          refine pv_iinc hC (v := x4 + 1) (by decide +kernel : decode cX12_feeOf 120 = .ok (.iinc 4 1, 3)) rfl (by decide) rfl rfl (fun x4_11 e_x4_11 => ?_)
          replace H := H x4_11 e_x4_11
          refine pr_goto hC 250 (by decide +kernel : decode cX12_feeOf 123 = .ok (.goto 127, 3)) (by decide) ?_
          refine pv_iinc hC (v := x5 + 1) (by decide +kernel : decode cX12_feeOf 250 = .ok (.iinc 5 1, 3)) rfl (by decide) rfl rfl (fun x5_12 e_x5_12 => ?_)
          replace H := H x5_12 e_x5_12
          refine pr_goto hC 18 (by decide +kernel : decode cX12_feeOf 253 = .ok (.goto (-235), 3)) (by decide) ?_
          exact pv_sub [some (.ref (Y.2.1 o0)), some (.int x1), some (.int x2), some (.int x3), some (.int x4_11), some (.int x5_12), none, none, none, none, none, none, none] (And.intro rfl (And.intro rfl (And.intro rfl (And.intro rfl (And.intro rfl (And.intro rfl trivial)))))) (ih _ _ U_10 h hU H)
        replace H := H.1 c_90
        refine pr_aload_n hC (by decide +kernel : decode cX12_feeOf 93 = .ok (.aload_n 0, 1)) rfl ?_
        refine pu_g1 hC fg_X12_46 (by decide +kernel : decode cX12_feeOf 94 = .ok (.getfield 46, 3)) hU ho0 (by decide) rfl (by decide) ?_
        refine pr_iload hC (by decide +kernel : decode cX12_feeOf 97 = .ok (.iload 5, 2)) rfl ?_
        refine pu_iald hC (by decide +kernel : decode cX12_feeOf 99 = .ok (.iaload, 1)) hU ho0 rfl H.1 ?_
        replace H := H.2
        refine pr_i2l hC (by decide +kernel : decode cX12_feeOf 100 = .ok (.i2l, 1)) ?_
        refine pr_goto hC 119 (by decide +kernel : decode cX12_feeOf 101 = .ok (.goto 18, 3)) (by decide) ?_
        refine pv_last hC (by decide +kernel : decode cX12_feeOf 119 = .ok (.lastore, 1)) hU ho0 rfl H.1 (fun U_5 h e_U_5 hU => ?_)
        replace H := H.2 U_5 e_U_5
        refine pv_iinc hC (v := x4 + 1) (by decide +kernel : decode cX12_feeOf 120 = .ok (.iinc 4 1, 3)) rfl (by decide) rfl rfl (fun x4_6 e_x4_6 => ?_)
        replace H := H x4_6 e_x4_6
        refine pr_goto hC 250 (by decide +kernel : decode cX12_feeOf 123 = .ok (.goto 127, 3)) (by decide) ?_
        refine pv_iinc hC (v := x5 + 1) (by decide +kernel : decode cX12_feeOf 250 = .ok (.iinc 5 1, 3)) rfl (by decide) rfl rfl (fun x5_7 e_x5_7 => ?_)
        replace H := H x5_7 e_x5_7
        refine pr_goto hC 18 (by decide +kernel : decode cX12_feeOf 253 = .ok (.goto (-235), 3)) (by decide) ?_
        exact pv_sub [some (.ref (Y.2.1 o0)), some (.int x1), some (.int x2), some (.int x3), some (.int x4_6), some (.int x5_7), none, none, none, none, none, none, none] (And.intro rfl (And.intro rfl (And.intro rfl (And.intro rfl (And.intro rfl (And.intro rfl trivial)))))) (ih _ _ U_5 h hU H))
      refine pr_icmp_ne hC 82 (by decide +kernel : decode cX12_feeOf 50 = .ok (.if_icmp .ne 32, 3)) (by decide) (fun c_50 => ?_) (fun c_50 => ?_)
      · replace H := H.2 c_50
        exact pv_sub [some (.ref (Y.2.1 o0)), some (.int x1), some (.int x2), some (.int x3), some (.int x4), some (.int x5), some (.int x6_1), none, none, none, none, none, none] (And.intro rfl (And.intro rfl (And.intro rfl (And.intro rfl (And.intro rfl (And.intro rfl (And.intro rfl trivial))))))) (H h hU)
      replace H := H.1 c_50
      refine pr_aload_n hC (by decide +kernel : decode cX12_feeOf 53 = .ok (.aload_n 0, 1)) rfl ?_
      refine pu_g1 hC fg_X12_46 (by decide +kernel : decode cX12_feeOf 54 = .ok (.getfield 46, 3)) hU ho0 (by decide) rfl (by decide) ?_
      refine pr_iload hC (by decide +kernel : decode cX12_feeOf 57 = .ok (.iload 5, 2)) rfl ?_
      refine pu_iald hC (by decide +kernel : decode cX12_feeOf 59 = .ok (.iaload, 1)) hU ho0 rfl H.1 ?_
      replace H := H.2
      refine pr_bipush hC (6) (by decide +kernel : decode cX12_feeOf 60 = .ok (.bipush 6, 2)) rfl ?_
      refine pr_icmp_ne hC 82 (by decide +kernel : decode cX12_feeOf 62 = .ok (.if_icmp .ne 20, 3)) (by decide) (fun c_62 => ?_) (fun c_62 => ?_)
      · replace H := H.2 c_62
        exact pv_sub [some (.ref (Y.2.1 o0)), some (.int x1), some (.int x2), some (.int x3), some (.int x4), some (.int x5), some (.int x6_1), none, none, none, none, none, none] (And.intro rfl (And.intro rfl (And.intro rfl (And.intro rfl (And.intro rfl (And.intro rfl (And.intro rfl trivial))))))) (H h hU)
      replace H := H.1 c_62
      refine pr_aload_n hC (by decide +kernel : decode cX12_feeOf 65 = .ok (.aload_n 0, 1)) rfl ?_
      refine pr_bipush hC (6) (by decide +kernel : decode cX12_feeOf 66 = .ok (.bipush 6, 2)) rfl ?_
      refine pr_iload_n hC (by decide +kernel : decode cX12_feeOf 68 = .ok (.iload_n 1, 1)) rfl ?_
      refine pr_iload_n hC (by decide +kernel : decode cX12_feeOf 69 = .ok (.iload_n 2, 1)) rfl ?_
      refine pr_iload_n hC (by decide +kernel : decode cX12_feeOf 70 = .ok (.iload_n 3, 1)) rfl ?_
      refine vc_Vi hC hR [.int 6, .int x1, .int x2, .int x3] fv_X12_456 (by decide +kernel : decode cX12_feeOf 71 = .ok (.invokevirtual 456, 3)) hU (t_X12_wordTells ho0 H) ho0 (by decide) rfl rfl rfl (Nat.le_of_ble_eq_true rfl) (Nat.le_of_ble_eq_true rfl) (Nat.le_refl 0) (Nat.le_refl 0) (fun r_14 U_13 h H hU => ?_)
      refine pr_iconst hC (-1) (by decide +kernel : decode cX12_feeOf 74 = .ok (.iconst (-1), 1)) rfl ?_
      refine pr_icmp_ne hC 82 (by decide +kernel : decode cX12_feeOf 75 = .ok (.if_icmp .ne 7, 3)) (by decide) (fun c_75 => ?_) (fun c_75 => ?_)
      · replace H := H.2 c_75
        exact pv_sub [some (.ref (Y.2.1 o0)), some (.int x1), some (.int x2), some (.int x3), some (.int x4), some (.int x5), some (.int x6_1), none, none, none, none, none, none] (And.intro rfl (And.intro rfl (And.intro rfl (And.intro rfl (And.intro rfl (And.intro rfl (And.intro rfl trivial))))))) (H h hU)
      replace H := H.1 c_75
      refine pr_ldc2 hC (-9223372036854775808) (by decide +kernel : decode cX12_feeOf 78 = .ok (.ldc2_w 459, 3)) fk_X12_459 ?_
      exact pv_lret hM (by decide +kernel : decode cX12_feeOf 81 = .ok (.lreturn, 1)) hU H)
    refine pr_if_eq hC 47 (by decide +kernel : decode cX12_feeOf 38 = .ok (.ifCond .eq 9, 3)) (by decide) (fun c_38 => ?_) (fun c_38 => ?_)
    · replace H := H.1 c_38
      exact pv_sub [some (.ref (Y.2.1 o0)), some (.int x1), some (.int x2), some (.int x3), some (.int x4), some (.int x5), some (.int x6_1), none, none, none, none, none, none] (And.intro rfl (And.intro rfl (And.intro rfl (And.intro rfl (And.intro rfl (And.intro rfl (And.intro rfl trivial))))))) (H )
    replace H := H.2 c_38
    refine pr_iload hC (by decide +kernel : decode cX12_feeOf 41 = .ok (.iload 6, 2)) rfl ?_
    refine pr_iconst hC (1) (by decide +kernel : decode cX12_feeOf 43 = .ok (.iconst 1, 1)) rfl ?_
    refine pr_icmp_ne hC 126 (by decide +kernel : decode cX12_feeOf 44 = .ok (.if_icmp .ne 82, 3)) (by decide) (fun c_44 => ?_) (fun c_44 => ?_)
    · replace H := H.2 c_44
      refine pv_iinc hC (v := x4 + (-1)) (by decide +kernel : decode cX12_feeOf 126 = .ok (.iinc 4 (-1), 3)) rfl (by decide) rfl rfl (fun x4_15 e_x4_15 => ?_)
      replace H := H x4_15 e_x4_15
      refine pr_aload_n hC (by decide +kernel : decode cX12_feeOf 129 = .ok (.aload_n 0, 1)) rfl ?_
      refine pu_g1 hC fg_X12_87 (by decide +kernel : decode cX12_feeOf 130 = .ok (.getfield 87, 3)) hU ho0 (by decide) rfl (by decide) ?_
      refine pr_iload hC (by decide +kernel : decode cX12_feeOf 133 = .ok (.iload 4, 2)) rfl ?_
      refine pr_iconst hC (1) (by decide +kernel : decode cX12_feeOf 135 = .ok (.iconst 1, 1)) rfl ?_
      refine pr_isub hC (by decide +kernel : decode cX12_feeOf 136 = .ok (.isub, 1)) ?_
      refine pu_lald hC (by decide +kernel : decode cX12_feeOf 137 = .ok (.laload, 1)) hU ho0 rfl H.1 ?_
      replace H := H.2
      refine pv_topl (fun x7_16 e_x7_16 => ?_)
      replace H := H x7_16 e_x7_16
      refine pr_lstore hC (by decide +kernel : decode cX12_feeOf 138 = .ok (.lstore 7, 2)) (by decide) rfl ?_
      refine pr_aload_n hC (by decide +kernel : decode cX12_feeOf 140 = .ok (.aload_n 0, 1)) rfl ?_
      refine pu_g1 hC fg_X12_87 (by decide +kernel : decode cX12_feeOf 141 = .ok (.getfield 87, 3)) hU ho0 (by decide) rfl (by decide) ?_
      refine pr_iload hC (by decide +kernel : decode cX12_feeOf 144 = .ok (.iload 4, 2)) rfl ?_
      refine pu_lald hC (by decide +kernel : decode cX12_feeOf 146 = .ok (.laload, 1)) hU ho0 rfl H.1 ?_
      replace H := H.2
      refine pv_topl (fun x9_17 e_x9_17 => ?_)
      replace H := H x9_17 e_x9_17
      refine pr_lstore hC (by decide +kernel : decode cX12_feeOf 147 = .ok (.lstore 9, 2)) (by decide) rfl ?_
      refine pr_iload hC (by decide +kernel : decode cX12_feeOf 149 = .ok (.iload 6, 2)) rfl ?_
      refine pr_bipush hC (47) (by decide +kernel : decode cX12_feeOf 151 = .ok (.bipush 47, 2)) rfl ?_
      replace H := H (pw X Y.1 (pm_A hh sz) (pm_E X Y.1 hh sz 0 0 (pm_P Y h0 sz (pq_l post))) 167 [some (.ref (Y.2.1 o0)), some (.int x1), some (.int x2), some (.int x3), some (.int x4_15), some (.int x5), some (.int x6_1), some (.long x7_16), none, some (.long x9_17), none, none, none] [] h sz 0 0) (by
        intro  H
        refine pr_iload hC (by decide +kernel : decode cX12_feeOf 167 = .ok (.iload 6, 2)) rfl ?_
        refine pr_bipush hC (43) (by decide +kernel : decode cX12_feeOf 169 = .ok (.bipush 43, 2)) rfl ?_
        replace H := H (fun xs_20 U_21 => ∀ h : pe_H, rF Y h0 U_21 h → pw X Y.1 (pm_A hh sz) (pm_E X Y.1 hh sz 0 0 (pm_P Y h0 sz (pq_l post))) 219 [some (.ref (Y.2.1 o0)), some (.int x1), some (.int x2), some (.int x3), some (.int x4_15), some (.int x5), none, none, none, none, none, none, none] [.long xs_20] h sz 0 0) (by
          intro xs_20 U_21 H h hU
          refine pr_lstore hC (by decide +kernel : decode cX12_feeOf 219 = .ok (.lstore 11, 2)) (by decide) rfl ?_
          refine pr_lload hC (by decide +kernel : decode cX12_feeOf 221 = .ok (.lload 11, 2)) rfl ?_
          refine pr_ldc2 hC (-2147483648) (by decide +kernel : decode cX12_feeOf 223 = .ok (.ldc2_w 465, 3)) fk_X12_465 ?_
          refine pr_ldc2 hC (2147483647) (by decide +kernel : decode cX12_feeOf 226 = .ok (.ldc2_w 467, 3)) fk_X12_467 ?_
          refine vc_Si hC hR [.long xs_20, .long (-2147483648), .long 2147483647] fv_X12_131 (by decide +kernel : decode cX12_feeOf 229 = .ok (.invokestatic 131, 3)) hU (t_X12_isIn  H) rfl rfl (Nat.le_of_ble_eq_true rfl) (Nat.le_of_ble_eq_true rfl) (Nat.le_refl 0) (Nat.le_refl 0) (fun r_23 U_22 h H hU => ?_)
          refine pr_if_ne hC 239 (by decide +kernel : decode cX12_feeOf 232 = .ok (.ifCond .ne 7, 3)) (by decide) (fun c_232 => ?_) (fun c_232 => ?_)
          · replace H := H.2 c_232
            refine pr_aload_n hC (by decide +kernel : decode cX12_feeOf 239 = .ok (.aload_n 0, 1)) rfl ?_
            refine pu_g1 hC fg_X12_87 (by decide +kernel : decode cX12_feeOf 240 = .ok (.getfield 87, 3)) hU ho0 (by decide) rfl (by decide) ?_
            refine pr_iload hC (by decide +kernel : decode cX12_feeOf 243 = .ok (.iload 4, 2)) rfl ?_
            refine pr_iconst hC (1) (by decide +kernel : decode cX12_feeOf 245 = .ok (.iconst 1, 1)) rfl ?_
            refine pr_isub hC (by decide +kernel : decode cX12_feeOf 246 = .ok (.isub, 1)) ?_
            refine pr_lload hC (by decide +kernel : decode cX12_feeOf 247 = .ok (.lload 11, 2)) rfl ?_
            refine pv_last hC (by decide +kernel : decode cX12_feeOf 249 = .ok (.lastore, 1)) hU ho0 rfl H.1 (fun U_24 h e_U_24 hU => ?_)
            replace H := H.2 U_24 e_U_24
            refine pv_iinc hC (v := x5 + 1) (by decide +kernel : decode cX12_feeOf 250 = .ok (.iinc 5 1, 3)) rfl (by decide) rfl rfl (fun x5_25 e_x5_25 => ?_)
            replace H := H x5_25 e_x5_25
            refine pr_goto hC 18 (by decide +kernel : decode cX12_feeOf 253 = .ok (.goto (-235), 3)) (by decide) ?_
            exact pv_sub [some (.ref (Y.2.1 o0)), some (.int x1), some (.int x2), some (.int x3), some (.int x4_15), some (.int x5_25), none, none, none, none, none, none, none] (And.intro rfl (And.intro rfl (And.intro rfl (And.intro rfl (And.intro rfl (And.intro rfl trivial)))))) (ih _ _ U_24 h hU H)
          replace H := H.1 c_232
          refine pr_ldc2 hC (-9223372036854775808) (by decide +kernel : decode cX12_feeOf 235 = .ok (.ldc2_w 459, 3)) fk_X12_459 ?_
          exact pv_lret hM (by decide +kernel : decode cX12_feeOf 238 = .ok (.lreturn, 1)) hU H)
        refine pr_icmp_ne hC 182 (by decide +kernel : decode cX12_feeOf 171 = .ok (.if_icmp .ne 11, 3)) (by decide) (fun c_171 => ?_) (fun c_171 => ?_)
        · replace H := H.2 c_171
          refine pr_iload hC (by decide +kernel : decode cX12_feeOf 182 = .ok (.iload 6, 2)) rfl ?_
          refine pr_bipush hC (45) (by decide +kernel : decode cX12_feeOf 184 = .ok (.bipush 45, 2)) rfl ?_
          refine pr_icmp_ne hC 197 (by decide +kernel : decode cX12_feeOf 186 = .ok (.if_icmp .ne 11, 3)) (by decide) (fun c_186 => ?_) (fun c_186 => ?_)
          · replace H := H.2 c_186
            refine pr_iload hC (by decide +kernel : decode cX12_feeOf 197 = .ok (.iload 6, 2)) rfl ?_
            refine pr_bipush hC (42) (by decide +kernel : decode cX12_feeOf 199 = .ok (.bipush 42, 2)) rfl ?_
            refine pr_icmp_ne hC 212 (by decide +kernel : decode cX12_feeOf 201 = .ok (.if_icmp .ne 11, 3)) (by decide) (fun c_201 => ?_) (fun c_201 => ?_)
            · replace H := H.2 c_201
              refine pr_lload hC (by decide +kernel : decode cX12_feeOf 212 = .ok (.lload 7, 2)) rfl ?_
              refine pr_lload hC (by decide +kernel : decode cX12_feeOf 214 = .ok (.lload 9, 2)) rfl ?_
              refine vc_Sl hC hR [.long x7_16, .long x9_17] fv_X12_461 (by decide +kernel : decode cX12_feeOf 216 = .ok (.invokestatic 461, 3)) hU (t_X12_floor  H) rfl rfl (Nat.le_of_ble_eq_true rfl) (Nat.le_of_ble_eq_true rfl) (Nat.le_refl 0) (Nat.le_refl 0) (fun r_27 U_26 h H hU => ?_)
              exact pv_sub [some (.ref (Y.2.1 o0)), some (.int x1), some (.int x2), some (.int x3), some (.int x4_15), some (.int x5), none, none, none, none, none, none, none] (And.intro rfl (And.intro rfl (And.intro rfl (And.intro rfl (And.intro rfl (And.intro rfl trivial)))))) (H h hU)
            replace H := H.1 c_201
            refine pr_lload hC (by decide +kernel : decode cX12_feeOf 204 = .ok (.lload 7, 2)) rfl ?_
            refine pr_lload hC (by decide +kernel : decode cX12_feeOf 206 = .ok (.lload 9, 2)) rfl ?_
            refine pr_lmul hC (by decide +kernel : decode cX12_feeOf 208 = .ok (.lmul, 1)) ?_
            refine pr_goto hC 219 (by decide +kernel : decode cX12_feeOf 209 = .ok (.goto 10, 3)) (by decide) ?_
            exact pv_sub [some (.ref (Y.2.1 o0)), some (.int x1), some (.int x2), some (.int x3), some (.int x4_15), some (.int x5), none, none, none, none, none, none, none] (And.intro rfl (And.intro rfl (And.intro rfl (And.intro rfl (And.intro rfl (And.intro rfl trivial)))))) (H h hU)
          replace H := H.1 c_186
          refine pr_lload hC (by decide +kernel : decode cX12_feeOf 189 = .ok (.lload 7, 2)) rfl ?_
          refine pr_lload hC (by decide +kernel : decode cX12_feeOf 191 = .ok (.lload 9, 2)) rfl ?_
          refine pr_lsub hC (by decide +kernel : decode cX12_feeOf 193 = .ok (.lsub, 1)) ?_
          refine pr_goto hC 219 (by decide +kernel : decode cX12_feeOf 194 = .ok (.goto 25, 3)) (by decide) ?_
          exact pv_sub [some (.ref (Y.2.1 o0)), some (.int x1), some (.int x2), some (.int x3), some (.int x4_15), some (.int x5), none, none, none, none, none, none, none] (And.intro rfl (And.intro rfl (And.intro rfl (And.intro rfl (And.intro rfl (And.intro rfl trivial)))))) (H h hU)
        replace H := H.1 c_171
        refine pr_lload hC (by decide +kernel : decode cX12_feeOf 174 = .ok (.lload 7, 2)) rfl ?_
        refine pr_lload hC (by decide +kernel : decode cX12_feeOf 176 = .ok (.lload 9, 2)) rfl ?_
        refine pr_ladd hC (by decide +kernel : decode cX12_feeOf 178 = .ok (.ladd, 1)) ?_
        refine pr_goto hC 219 (by decide +kernel : decode cX12_feeOf 179 = .ok (.goto 40, 3)) (by decide) ?_
        exact pv_sub [some (.ref (Y.2.1 o0)), some (.int x1), some (.int x2), some (.int x3), some (.int x4_15), some (.int x5), none, none, none, none, none, none, none] (And.intro rfl (And.intro rfl (And.intro rfl (And.intro rfl (And.intro rfl (And.intro rfl trivial)))))) (H h hU))
      refine pr_icmp_ne hC 167 (by decide +kernel : decode cX12_feeOf 153 = .ok (.if_icmp .ne 14, 3)) (by decide) (fun c_153 => ?_) (fun c_153 => ?_)
      · replace H := H.2 c_153
        exact pv_sub [some (.ref (Y.2.1 o0)), some (.int x1), some (.int x2), some (.int x3), some (.int x4_15), some (.int x5), some (.int x6_1), some (.long x7_16), none, some (.long x9_17), none, none, none] (And.intro rfl (And.intro rfl (And.intro rfl (And.intro rfl (And.intro rfl (And.intro rfl (And.intro rfl (And.intro rfl (And.intro rfl trivial))))))))) (H )
      replace H := H.1 c_153
      refine pr_lload hC (by decide +kernel : decode cX12_feeOf 156 = .ok (.lload 9, 2)) rfl ?_
      refine pr_lconst hC (0) (by decide +kernel : decode cX12_feeOf 158 = .ok (.lconst 0, 1)) rfl ?_
      refine pr_lcmp hC (by decide +kernel : decode cX12_feeOf 159 = .ok (.lcmp, 1)) ?_
      refine pr_if_ne hC 167 (by decide +kernel : decode cX12_feeOf 160 = .ok (.ifCond .ne 7, 3)) (by decide) (fun c_160 => ?_) (fun c_160 => ?_)
      · replace H := H.2 c_160
        exact pv_sub [some (.ref (Y.2.1 o0)), some (.int x1), some (.int x2), some (.int x3), some (.int x4_15), some (.int x5), some (.int x6_1), some (.long x7_16), none, some (.long x9_17), none, none, none] (And.intro rfl (And.intro rfl (And.intro rfl (And.intro rfl (And.intro rfl (And.intro rfl (And.intro rfl (And.intro rfl (And.intro rfl trivial))))))))) (H )
      replace H := H.1 c_160
      refine pr_ldc2 hC (-9223372036854775808) (by decide +kernel : decode cX12_feeOf 163 = .ok (.ldc2_w 459, 3)) fk_X12_459 ?_
      exact pv_lret hM (by decide +kernel : decode cX12_feeOf 166 = .ok (.lreturn, 1)) hU H
    replace H := H.1 c_44
    exact pv_sub [some (.ref (Y.2.1 o0)), some (.int x1), some (.int x2), some (.int x3), some (.int x4), some (.int x5), some (.int x6_1), none, none, none, none, none, none] (And.intro rfl (And.intro rfl (And.intro rfl (And.intro rfl (And.intro rfl (And.intro rfl (And.intro rfl trivial))))))) (H )
set_option maxHeartbeats 4000000 in
theorem t_X12_feeOf {l : Launch} {Y : px_Y} {o : Nat} {a1 : Int32} {a2 : Int32} {a3 : Int32} {U : Um} {post : Int64 → Um → Prop} (ho : oc o = 10) (H : w_X12_feeOf o a1 a2 a3 U post) : um l Y 3 yX12_feeOf cX12_feeOf 13 (some (.long)) [.ref (Y.2.1 o), .int a1, .int a2, .int a3] U (pq_l post) := by
  unfold w_X12_feeOf at H
  refine um_of (by decide) (Nat.le_of_ble_eq_true rfl) [some (.ref (Y.2.1 o)), some (.int a1), some (.int a2), some (.int a3), none, none, none, none, none, none, none, none, none] rfl (fun X h0 hh sz hM hU => ?_)
  have hC := hM.1
  have hR := hM.2.2.1
  refine pr_aload_n hC (by decide +kernel : decode cX12_feeOf 0 = .ok (.aload_n 0, 1)) rfl ?_
  refine pu_g1 hC fg_X12_43 (by decide +kernel : decode cX12_feeOf 1 = .ok (.getfield 43, 3)) hU ho (by decide) rfl (by decide) ?_
  refine pr_bipush hC (6) (by decide +kernel : decode cX12_feeOf 4 = .ok (.bipush 6, 2)) rfl ?_
  refine pu_iald hC (by decide +kernel : decode cX12_feeOf 6 = .ok (.iaload, 1)) hU ho rfl H.1 ?_
  replace H := H.2
  refine pr_if_ne hC 12 (by decide +kernel : decode cX12_feeOf 7 = .ok (.ifCond .ne 5, 3)) (by decide) (fun c_7 => ?_) (fun c_7 => ?_)
  · replace H := H.2 c_7
    refine pr_iconst hC (0) (by decide +kernel : decode cX12_feeOf 12 = .ok (.iconst 0, 1)) rfl ?_
    refine pr_istore hC (by decide +kernel : decode cX12_feeOf 13 = .ok (.istore 4, 2)) (by decide) rfl ?_
    refine pr_iconst hC (0) (by decide +kernel : decode cX12_feeOf 15 = .ok (.iconst 0, 1)) rfl ?_
    refine pr_istore hC (by decide +kernel : decode cX12_feeOf 16 = .ok (.istore 5, 2)) (by decide) rfl ?_
    obtain ⟨n_29, H⟩ := H
    refine pv_sub [some (.ref (Y.2.1 o)), some (.int a1), some (.int a2), some (.int a3), some (.int 0), some (.int 0), none, none, none, none, none, none, none] (And.intro rfl (And.intro rfl (And.intro rfl (And.intro rfl (And.intro rfl (And.intro rfl trivial)))))) ?_
    refine tl_X12_feeOf_L18 _ _ _ _ _ _ ho hC hM hR (fun U_28 h H hU => ?_) n_29 _ _ U hh hU H
    refine pr_aload_n hC (by decide +kernel : decode cX12_feeOf 256 = .ok (.aload_n 0, 1)) rfl ?_
    refine pu_g1 hC fg_X12_87 (by decide +kernel : decode cX12_feeOf 257 = .ok (.getfield 87, 3)) hU ho (by decide) rfl (by decide) ?_
    refine pr_iconst hC (0) (by decide +kernel : decode cX12_feeOf 260 = .ok (.iconst 0, 1)) rfl ?_
    refine pu_lald hC (by decide +kernel : decode cX12_feeOf 261 = .ok (.laload, 1)) hU ho rfl H.1 ?_
    replace H := H.2
    exact pv_lret hM (by decide +kernel : decode cX12_feeOf 262 = .ok (.lreturn, 1)) hU H
  replace H := H.1 c_7
  refine pr_lconst hC (0) (by decide +kernel : decode cX12_feeOf 10 = .ok (.lconst 0, 1)) rfl ?_
  exact pv_lret hM (by decide +kernel : decode cX12_feeOf 11 = .ok (.lreturn, 1)) hU H
def w_X12_fee (o : Nat) (a1 : Int32) (a2 : Int32) (a3 : Int32) (U : Um) (post : Int64 → Um → Prop) : Prop :=
  ∀ (U_1 : Um), U_1 = sI U o 0 0 → w_X12_isSeat o a1 a2 U_1 (fun r_3 U_2 => (r_3 = 0 → post (-9223372036854775808) U_2) ∧ (¬ r_3 = 0 → w_X12_isOne o a3 U_2 (fun r_5 U_4 => (r_5 = 0 → post (-9223372036854775808) U_4) ∧ (¬ r_5 = 0 → w_X12_feeOf o a1 a2 a3 U_4 (fun r_7 U_6 => post r_7 U_6)))))
set_option maxHeartbeats 4000000 in
theorem t_X12_fee {l : Launch} {Y : px_Y} {o : Nat} {a1 : Int32} {a2 : Int32} {a3 : Int32} {U : Um} {post : Int64 → Um → Prop} (ho : oc o = 10) (H : w_X12_fee o a1 a2 a3 U post) : um l Y 4 yX12_fee cX12_fee 4 (some (.long)) [.ref (Y.2.1 o), .int a1, .int a2, .int a3] U (pq_l post) := by
  unfold w_X12_fee at H
  refine um_of (by decide) (Nat.le_of_ble_eq_true rfl) [some (.ref (Y.2.1 o)), some (.int a1), some (.int a2), some (.int a3)] rfl (fun X h0 hh sz hM hU => ?_)
  have hC := hM.1
  have hR := hM.2.2.1
  refine pr_aload_n hC (by decide +kernel : decode cX12_fee 0 = .ok (.aload_n 0, 1)) rfl ?_
  refine pr_iconst hC (0) (by decide +kernel : decode cX12_fee 1 = .ok (.iconst 0, 1)) rfl ?_
  refine pv_p0 hC fp_X12_121 (by decide +kernel : decode cX12_fee 2 = .ok (.putfield 121, 3)) hU ho (by decide) rfl rfl rfl rfl (fun U_1 h e_U_1 hU => ?_)
  replace H := H U_1 e_U_1
  refine pr_aload_n hC (by decide +kernel : decode cX12_fee 5 = .ok (.aload_n 0, 1)) rfl ?_
  refine pr_iload_n hC (by decide +kernel : decode cX12_fee 6 = .ok (.iload_n 1, 1)) rfl ?_
  refine pr_iload_n hC (by decide +kernel : decode cX12_fee 7 = .ok (.iload_n 2, 1)) rfl ?_
  refine vc_Vi hC hR [.int a1, .int a2] fv_X12_388 (by decide +kernel : decode cX12_fee 8 = .ok (.invokevirtual 388, 3)) hU (t_X12_isSeat ho H) ho (by decide) rfl rfl rfl (Nat.le_of_ble_eq_true rfl) (Nat.le_of_ble_eq_true rfl) (Nat.le_refl 0) (Nat.le_refl 0) (fun r_3 U_2 h H hU => ?_)
  refine pr_if_eq hC 32 (by decide +kernel : decode cX12_fee 11 = .ok (.ifCond .eq 21, 3)) (by decide) (fun c_11 => ?_) (fun c_11 => ?_)
  · replace H := H.1 c_11
    refine pr_ldc2 hC (-9223372036854775808) (by decide +kernel : decode cX12_fee 32 = .ok (.ldc2_w 459, 3)) fk_X12_459 ?_
    exact pv_lret hM (by decide +kernel : decode cX12_fee 35 = .ok (.lreturn, 1)) hU H
  replace H := H.2 c_11
  refine pr_aload_n hC (by decide +kernel : decode cX12_fee 14 = .ok (.aload_n 0, 1)) rfl ?_
  refine pr_iload_n hC (by decide +kernel : decode cX12_fee 15 = .ok (.iload_n 3, 1)) rfl ?_
  refine vc_Vi hC hR [.int a3] fv_X12_368 (by decide +kernel : decode cX12_fee 16 = .ok (.invokevirtual 368, 3)) hU (t_X12_isOne ho H) ho (by decide) rfl rfl rfl (Nat.le_of_ble_eq_true rfl) (Nat.le_of_ble_eq_true rfl) (Nat.le_refl 0) (Nat.le_refl 0) (fun r_5 U_4 h H hU => ?_)
  refine pr_if_eq hC 32 (by decide +kernel : decode cX12_fee 19 = .ok (.ifCond .eq 13, 3)) (by decide) (fun c_19 => ?_) (fun c_19 => ?_)
  · replace H := H.1 c_19
    refine pr_ldc2 hC (-9223372036854775808) (by decide +kernel : decode cX12_fee 32 = .ok (.ldc2_w 459, 3)) fk_X12_459 ?_
    exact pv_lret hM (by decide +kernel : decode cX12_fee 35 = .ok (.lreturn, 1)) hU H
  replace H := H.2 c_19
  refine pr_aload_n hC (by decide +kernel : decode cX12_fee 22 = .ok (.aload_n 0, 1)) rfl ?_
  refine pr_iload_n hC (by decide +kernel : decode cX12_fee 23 = .ok (.iload_n 1, 1)) rfl ?_
  refine pr_iload_n hC (by decide +kernel : decode cX12_fee 24 = .ok (.iload_n 2, 1)) rfl ?_
  refine pr_iload_n hC (by decide +kernel : decode cX12_fee 25 = .ok (.iload_n 3, 1)) rfl ?_
  refine vc_Vl hC hR [.int a1, .int a2, .int a3] fv_X12_469 (by decide +kernel : decode cX12_fee 26 = .ok (.invokevirtual 469, 3)) hU (t_X12_feeOf ho H) ho (by decide) rfl rfl rfl (Nat.le_of_ble_eq_true rfl) (Nat.le_of_ble_eq_true rfl) (Nat.le_refl 0) (Nat.le_refl 0) (fun r_7 U_6 h H hU => ?_)
  refine pr_goto hC 35 (by decide +kernel : decode cX12_fee 29 = .ok (.goto 6, 3)) (by decide) ?_
  exact pv_lret hM (by decide +kernel : decode cX12_fee 35 = .ok (.lreturn, 1)) hU H
def b_X12_fees_L41 (o0 : Nat) (x1 : Int32) (x4 : Int32) (post : Int64 → Um → Prop) (k_124 : Int64 → Um → Prop) (rec_ : Int64 → Int32 → Um → Prop) (x2 : Int64) (x5 : Int32) (U : Um) : Prop :=
  w_X12_of o0 x4 7 U (fun r_5 U_4 => (r_5 ≤ x5 → k_124 x2 U_4) ∧ (¬ r_5 ≤ x5 → w_X12_at x4 x5 U_4 (fun r_7 U_6 => vp_in r_7 48 ∧ ∀ (x6_8 : Int32), x6_8 = uA U_6 o0 30 (Int32.toNatClampNeg r_7) → (x6_8 = (-1) → ∀ (x5_9 : Int32), x5_9 = x5 + 1 → rec_ x2 x5_9 U_6) ∧ (¬ x6_8 = (-1) → (∀ K_10 : Prop, ((w_X12_feeOf o0 x4 x5 x6_8 U_6 (fun r_12 U_11 => ((lg_cmp r_12 (-9223372036854775808)) = 0 → ∀ (x2_13 : Int64), x2_13 = x2 + 0 → ∀ (x5_14 : Int32), x5_14 = x5 + 1 → rec_ x2_13 x5_14 U_11) ∧ (¬ (lg_cmp r_12 (-9223372036854775808)) = 0 → ∀ (x2_15 : Int64), x2_15 = x2 + r_12 → ∀ (x5_16 : Int32), x5_16 = x5 + 1 → rec_ x2_15 x5_16 U_11))) → K_10 ) → (x1 = (-1) → K_10) ∧ (¬ x1 = (-1) → (x6_8 = x1 → K_10) ∧ (¬ x6_8 = x1 → ∀ (x5_17 : Int32), x5_17 = x5 + 1 → rec_ x2 x5_17 U_6)))))))
def w_X12_fees_L41 (o0 : Nat) (x1 : Int32) (x4 : Int32) (post : Int64 → Um → Prop) (k_124 : Int64 → Um → Prop) (n_ : Nat) : Int64 → Int32 → Um → Prop := Nat.rec (motive := fun _ => Int64 → Int32 → Um → Prop) (fun _ _ _ => False) (fun _ ih => b_X12_fees_L41 o0 x1 x4 post k_124 ih) n_
def b_X12_fees_L27 (o0 : Nat) (x1 : Int32) (post : Int64 → Um → Prop) (k_130 : Int64 → Um → Prop) (rec_ : Int64 → Int32 → Um → Prop) (x2 : Int64) (x4 : Int32) (U : Um) : Prop :=
  vp_in 3 14 ∧ ((uA U o0 11 (Int32.toNatClampNeg 3)) ≤ x4 → k_130 x2 U) ∧ (¬ (uA U o0 11 (Int32.toNatClampNeg 3)) ≤ x4 → (∃ n_21, w_X12_fees_L41 o0 x1 x4 post (fun x2_18 U_19 => ∀ (x4_20 : Int32), x4_20 = x4 + 1 → rec_ x2_18 x4_20 U_19) n_21 x2 0 U))
def w_X12_fees_L27 (o0 : Nat) (x1 : Int32) (post : Int64 → Um → Prop) (k_130 : Int64 → Um → Prop) (n_ : Nat) : Int64 → Int32 → Um → Prop := Nat.rec (motive := fun _ => Int64 → Int32 → Um → Prop) (fun _ _ _ => False) (fun _ ih => b_X12_fees_L27 o0 x1 post k_130 ih) n_
def w_X12_fees (o : Nat) (a1 : Int32) (U : Um) (post : Int64 → Um → Prop) : Prop :=
  ∀ (U_1 : Um), U_1 = sI U o 0 0 → (∀ K_2 : Um → Prop, (∀ (U_3 : Um), ((∃ n_24, w_X12_fees_L27 o a1 post (fun x2_22 U_23 => post x2_22 U_23) n_24 0 0 U_3)) → K_2 U_3) → (a1 = (-1) → K_2 U_1) ∧ (¬ a1 = (-1) → w_X12_isOne o a1 U_1 (fun r_26 U_25 => (r_26 = 0 → post (-9223372036854775808) U_25) ∧ (¬ r_26 = 0 → K_2 U_25))))
set_option maxHeartbeats 4000000 in
theorem tl_X12_fees_L41 {l : Launch} {Y : px_Y} {X : px_X} {h0 hh : pe_H} {sz : Nat} (o0 : Nat) (x1 : Int32) (x4 : Int32) (post : Int64 → Um → Prop) (k_124 : Int64 → Um → Prop) (ho0 : oc o0 = 10)  (hC : px_C X Y.1 (pm_A hh sz) cX12_fees RX12 9) (hM : px_M l X Y.1 hh sz yX12_fees cX12_fees 9 (some (.long)) 4 0 0) (hR : X.2.2.2.1 = pm_rm 4 0 0) (hk_124 : ∀ (y2 : Int64) (U : Um) (h : pe_H), k_124 y2 U → rF Y h0 U h → pw X Y.1 (pm_A hh sz) (pm_E X Y.1 hh sz 0 0 (pm_P Y h0 sz (pq_l post))) 124 [some (.ref (Y.2.1 o0)), some (.int x1), some (.long y2), none, some (.int x4), none, none, none, none] [] h sz 0 0) : ∀ (n_ : Nat) (x2 : Int64) (x5 : Int32) (U : Um) (h : pe_H), rF Y h0 U h → w_X12_fees_L41 o0 x1 x4 post k_124 n_ x2 x5 U → pw X Y.1 (pm_A hh sz) (pm_E X Y.1 hh sz 0 0 (pm_P Y h0 sz (pq_l post))) 41 [some (.ref (Y.2.1 o0)), some (.int x1), some (.long x2), none, some (.int x4), some (.int x5), none, none, none] [] h sz 0 0 := by
  intro n_
  induction n_ with
  | zero => intro x2 x5 U h hU H; exact False.elim H
  | succ n_ ih =>
    intro x2 x5 U h hU H
    replace H : b_X12_fees_L41 o0 x1 x4 post k_124 (w_X12_fees_L41 o0 x1 x4 post k_124 n_) x2 x5 U := H
    unfold b_X12_fees_L41 at H
    refine pr_iload hC (by decide +kernel : decode cX12_fees 41 = .ok (.iload 5, 2)) rfl ?_
    refine pr_aload_n hC (by decide +kernel : decode cX12_fees 43 = .ok (.aload_n 0, 1)) rfl ?_
    refine pr_iload hC (by decide +kernel : decode cX12_fees 44 = .ok (.iload 4, 2)) rfl ?_
    refine pr_bipush hC (7) (by decide +kernel : decode cX12_fees 46 = .ok (.bipush 7, 2)) rfl ?_
    refine vc_Vi hC hR [.int x4, .int 7] fv_X12_353 (by decide +kernel : decode cX12_fees 48 = .ok (.invokevirtual 353, 3)) hU (t_X12_of ho0 H) ho0 (by decide) rfl rfl rfl (Nat.le_of_ble_eq_true rfl) (Nat.le_of_ble_eq_true rfl) (Nat.le_refl 0) (Nat.le_refl 0) (fun r_5 U_4 h H hU => ?_)
    refine pr_icmp_ge hC 124 (by decide +kernel : decode cX12_fees 51 = .ok (.if_icmp .ge 73, 3)) (by decide) (fun c_51 => ?_) (fun c_51 => ?_)
    · replace H := H.1 c_51
      exact pv_sub [some (.ref (Y.2.1 o0)), some (.int x1), some (.long x2), none, some (.int x4), none, none, none, none] (And.intro rfl (And.intro rfl (And.intro rfl (And.intro rfl trivial)))) (hk_124 _ U_4 h H hU)
    replace H := H.2 c_51
    refine pr_aload_n hC (by decide +kernel : decode cX12_fees 54 = .ok (.aload_n 0, 1)) rfl ?_
    refine pu_g1 hC fg_X12_59 (by decide +kernel : decode cX12_fees 55 = .ok (.getfield 59, 3)) hU ho0 (by decide) rfl (by decide) ?_
    refine pr_iload hC (by decide +kernel : decode cX12_fees 58 = .ok (.iload 4, 2)) rfl ?_
    refine pr_iload hC (by decide +kernel : decode cX12_fees 60 = .ok (.iload 5, 2)) rfl ?_
    refine vc_Si hC hR [.int x4, .int x5] fv_X12_360 (by decide +kernel : decode cX12_fees 62 = .ok (.invokestatic 360, 3)) hU (t_X12_at  H) rfl rfl (Nat.le_of_ble_eq_true rfl) (Nat.le_of_ble_eq_true rfl) (Nat.le_refl 0) (Nat.le_refl 0) (fun r_7 U_6 h H hU => ?_)
    refine pu_iald hC (by decide +kernel : decode cX12_fees 65 = .ok (.iaload, 1)) hU ho0 rfl H.1 ?_
    replace H := H.2
    refine pv_topi (fun x6_8 e_x6_8 => ?_)
    replace H := H x6_8 e_x6_8
    refine pr_istore hC (by decide +kernel : decode cX12_fees 66 = .ok (.istore 6, 2)) (by decide) rfl ?_
    refine pr_iload hC (by decide +kernel : decode cX12_fees 68 = .ok (.iload 6, 2)) rfl ?_
    refine pr_iconst hC (-1) (by decide +kernel : decode cX12_fees 70 = .ok (.iconst (-1), 1)) rfl ?_
    refine pr_icmp_eq hC 118 (by decide +kernel : decode cX12_fees 71 = .ok (.if_icmp .eq 47, 3)) (by decide) (fun c_71 => ?_) (fun c_71 => ?_)
    · replace H := H.1 c_71
      refine pv_iinc hC (v := x5 + 1) (by decide +kernel : decode cX12_fees 118 = .ok (.iinc 5 1, 3)) rfl (by decide) rfl rfl (fun x5_9 e_x5_9 => ?_)
      replace H := H x5_9 e_x5_9
      refine pr_goto hC 41 (by decide +kernel : decode cX12_fees 121 = .ok (.goto (-80), 3)) (by decide) ?_
      exact pv_sub [some (.ref (Y.2.1 o0)), some (.int x1), some (.long x2), none, some (.int x4), some (.int x5_9), none, none, none] (And.intro rfl (And.intro rfl (And.intro rfl (And.intro rfl (And.intro rfl trivial))))) (ih _ _ U_6 h hU H)
    replace H := H.2 c_71
    refine pr_iload_n hC (by decide +kernel : decode cX12_fees 74 = .ok (.iload_n 1, 1)) rfl ?_
    refine pr_iconst hC (-1) (by decide +kernel : decode cX12_fees 75 = .ok (.iconst (-1), 1)) rfl ?_
    replace H := H (pw X Y.1 (pm_A hh sz) (pm_E X Y.1 hh sz 0 0 (pm_P Y h0 sz (pq_l post))) 88 [some (.ref (Y.2.1 o0)), some (.int x1), some (.long x2), none, some (.int x4), some (.int x5), some (.int x6_8), none, none] [] h sz 0 0) (by
      intro  H
      refine pr_aload_n hC (by decide +kernel : decode cX12_fees 88 = .ok (.aload_n 0, 1)) rfl ?_
      refine pr_iload hC (by decide +kernel : decode cX12_fees 89 = .ok (.iload 4, 2)) rfl ?_
      refine pr_iload hC (by decide +kernel : decode cX12_fees 91 = .ok (.iload 5, 2)) rfl ?_
      refine pr_iload hC (by decide +kernel : decode cX12_fees 93 = .ok (.iload 6, 2)) rfl ?_
      refine vc_Vl hC hR [.int x4, .int x5, .int x6_8] fv_X12_469 (by decide +kernel : decode cX12_fees 95 = .ok (.invokevirtual 469, 3)) hU (t_X12_feeOf ho0 H) ho0 (by decide) rfl rfl rfl (Nat.le_of_ble_eq_true rfl) (Nat.le_of_ble_eq_true rfl) (Nat.le_refl 0) (Nat.le_refl 0) (fun r_12 U_11 h H hU => ?_)
      refine pr_lstore hC (by decide +kernel : decode cX12_fees 98 = .ok (.lstore 7, 2)) (by decide) rfl ?_
      refine pr_lload_n hC (by decide +kernel : decode cX12_fees 100 = .ok (.lload_n 2, 1)) rfl ?_
      refine pr_lload hC (by decide +kernel : decode cX12_fees 101 = .ok (.lload 7, 2)) rfl ?_
      refine pr_ldc2 hC (-9223372036854775808) (by decide +kernel : decode cX12_fees 103 = .ok (.ldc2_w 459, 3)) fk_X12_459 ?_
      refine pr_lcmp hC (by decide +kernel : decode cX12_fees 106 = .ok (.lcmp, 1)) ?_
      refine pr_if_ne hC 114 (by decide +kernel : decode cX12_fees 107 = .ok (.ifCond .ne 7, 3)) (by decide) (fun c_107 => ?_) (fun c_107 => ?_)
      · replace H := H.2 c_107
        refine pr_lload hC (by decide +kernel : decode cX12_fees 114 = .ok (.lload 7, 2)) rfl ?_
        refine pr_ladd hC (by decide +kernel : decode cX12_fees 116 = .ok (.ladd, 1)) ?_
        refine pv_topl (fun x2_15 e_x2_15 => ?_)
        replace H := H x2_15 e_x2_15
        refine pr_lstore_n hC (by decide +kernel : decode cX12_fees 117 = .ok (.lstore_n 2, 1)) (by decide) rfl ?_
        refine pv_iinc hC (v := x5 + 1) (by decide +kernel : decode cX12_fees 118 = .ok (.iinc 5 1, 3)) rfl (by decide) rfl rfl (fun x5_16 e_x5_16 => ?_)
        replace H := H x5_16 e_x5_16
        refine pr_goto hC 41 (by decide +kernel : decode cX12_fees 121 = .ok (.goto (-80), 3)) (by decide) ?_
        exact pv_sub [some (.ref (Y.2.1 o0)), some (.int x1), some (.long x2_15), none, some (.int x4), some (.int x5_16), none, none, none] (And.intro rfl (And.intro rfl (And.intro rfl (And.intro rfl (And.intro rfl trivial))))) (ih _ _ U_11 h hU H)
      replace H := H.1 c_107
      refine pr_lconst hC (0) (by decide +kernel : decode cX12_fees 110 = .ok (.lconst 0, 1)) rfl ?_
      refine pr_goto hC 116 (by decide +kernel : decode cX12_fees 111 = .ok (.goto 5, 3)) (by decide) ?_
      refine pr_ladd hC (by decide +kernel : decode cX12_fees 116 = .ok (.ladd, 1)) ?_
      refine pv_topl (fun x2_13 e_x2_13 => ?_)
      replace H := H x2_13 e_x2_13
      refine pr_lstore_n hC (by decide +kernel : decode cX12_fees 117 = .ok (.lstore_n 2, 1)) (by decide) rfl ?_
      refine pv_iinc hC (v := x5 + 1) (by decide +kernel : decode cX12_fees 118 = .ok (.iinc 5 1, 3)) rfl (by decide) rfl rfl (fun x5_14 e_x5_14 => ?_)
      replace H := H x5_14 e_x5_14
      refine pr_goto hC 41 (by decide +kernel : decode cX12_fees 121 = .ok (.goto (-80), 3)) (by decide) ?_
      exact pv_sub [some (.ref (Y.2.1 o0)), some (.int x1), some (.long x2_13), none, some (.int x4), some (.int x5_14), none, none, none] (And.intro rfl (And.intro rfl (And.intro rfl (And.intro rfl (And.intro rfl trivial))))) (ih _ _ U_11 h hU H))
    refine pr_icmp_eq hC 88 (by decide +kernel : decode cX12_fees 76 = .ok (.if_icmp .eq 12, 3)) (by decide) (fun c_76 => ?_) (fun c_76 => ?_)
    · replace H := H.1 c_76
      exact pv_sub [some (.ref (Y.2.1 o0)), some (.int x1), some (.long x2), none, some (.int x4), some (.int x5), some (.int x6_8), none, none] (And.intro rfl (And.intro rfl (And.intro rfl (And.intro rfl (And.intro rfl (And.intro rfl trivial)))))) (H )
    replace H := H.2 c_76
    refine pr_iload hC (by decide +kernel : decode cX12_fees 79 = .ok (.iload 6, 2)) rfl ?_
    refine pr_iload_n hC (by decide +kernel : decode cX12_fees 81 = .ok (.iload_n 1, 1)) rfl ?_
    refine pr_icmp_eq hC 88 (by decide +kernel : decode cX12_fees 82 = .ok (.if_icmp .eq 6, 3)) (by decide) (fun c_82 => ?_) (fun c_82 => ?_)
    · replace H := H.1 c_82
      exact pv_sub [some (.ref (Y.2.1 o0)), some (.int x1), some (.long x2), none, some (.int x4), some (.int x5), some (.int x6_8), none, none] (And.intro rfl (And.intro rfl (And.intro rfl (And.intro rfl (And.intro rfl (And.intro rfl trivial)))))) (H )
    replace H := H.2 c_82
    refine pr_goto hC 118 (by decide +kernel : decode cX12_fees 85 = .ok (.goto 33, 3)) (by decide) ?_
    refine pv_iinc hC (v := x5 + 1) (by decide +kernel : decode cX12_fees 118 = .ok (.iinc 5 1, 3)) rfl (by decide) rfl rfl (fun x5_17 e_x5_17 => ?_)
    replace H := H x5_17 e_x5_17
    refine pr_goto hC 41 (by decide +kernel : decode cX12_fees 121 = .ok (.goto (-80), 3)) (by decide) ?_
    exact pv_sub [some (.ref (Y.2.1 o0)), some (.int x1), some (.long x2), none, some (.int x4), some (.int x5_17), none, none, none] (And.intro rfl (And.intro rfl (And.intro rfl (And.intro rfl (And.intro rfl trivial))))) (ih _ _ U_6 h hU H)
set_option maxHeartbeats 4000000 in
theorem tl_X12_fees_L27 {l : Launch} {Y : px_Y} {X : px_X} {h0 hh : pe_H} {sz : Nat} (o0 : Nat) (x1 : Int32) (post : Int64 → Um → Prop) (k_130 : Int64 → Um → Prop) (ho0 : oc o0 = 10)  (hC : px_C X Y.1 (pm_A hh sz) cX12_fees RX12 9) (hM : px_M l X Y.1 hh sz yX12_fees cX12_fees 9 (some (.long)) 4 0 0) (hR : X.2.2.2.1 = pm_rm 4 0 0) (hk_130 : ∀ (y2 : Int64) (U : Um) (h : pe_H), k_130 y2 U → rF Y h0 U h → pw X Y.1 (pm_A hh sz) (pm_E X Y.1 hh sz 0 0 (pm_P Y h0 sz (pq_l post))) 130 [none, none, some (.long y2), none, none, none, none, none, none] [] h sz 0 0) : ∀ (n_ : Nat) (x2 : Int64) (x4 : Int32) (U : Um) (h : pe_H), rF Y h0 U h → w_X12_fees_L27 o0 x1 post k_130 n_ x2 x4 U → pw X Y.1 (pm_A hh sz) (pm_E X Y.1 hh sz 0 0 (pm_P Y h0 sz (pq_l post))) 27 [some (.ref (Y.2.1 o0)), some (.int x1), some (.long x2), none, some (.int x4), none, none, none, none] [] h sz 0 0 := by
  intro n_
  induction n_ with
  | zero => intro x2 x4 U h hU H; exact False.elim H
  | succ n_ ih =>
    intro x2 x4 U h hU H
    replace H : b_X12_fees_L27 o0 x1 post k_130 (w_X12_fees_L27 o0 x1 post k_130 n_) x2 x4 U := H
    unfold b_X12_fees_L27 at H
    refine pr_iload hC (by decide +kernel : decode cX12_fees 27 = .ok (.iload 4, 2)) rfl ?_
    refine pr_aload_n hC (by decide +kernel : decode cX12_fees 29 = .ok (.aload_n 0, 1)) rfl ?_
    refine pu_g1 hC fg_X12_43 (by decide +kernel : decode cX12_fees 30 = .ok (.getfield 43, 3)) hU ho0 (by decide) rfl (by decide) ?_
    refine pr_iconst hC (3) (by decide +kernel : decode cX12_fees 33 = .ok (.iconst 3, 1)) rfl ?_
    refine pu_iald hC (by decide +kernel : decode cX12_fees 34 = .ok (.iaload, 1)) hU ho0 rfl H.1 ?_
    replace H := H.2
    refine pr_icmp_ge hC 130 (by decide +kernel : decode cX12_fees 35 = .ok (.if_icmp .ge 95, 3)) (by decide) (fun c_35 => ?_) (fun c_35 => ?_)
    · replace H := H.1 c_35
      exact pv_sub [none, none, some (.long x2), none, none, none, none, none, none] (And.intro rfl trivial) (hk_130 _ U h H hU)
    replace H := H.2 c_35
    refine pr_iconst hC (0) (by decide +kernel : decode cX12_fees 38 = .ok (.iconst 0, 1)) rfl ?_
    refine pr_istore hC (by decide +kernel : decode cX12_fees 39 = .ok (.istore 5, 2)) (by decide) rfl ?_
    obtain ⟨n_21, H⟩ := H
    refine pv_sub [some (.ref (Y.2.1 o0)), some (.int x1), some (.long x2), none, some (.int x4), some (.int 0), none, none, none] (And.intro rfl (And.intro rfl (And.intro rfl (And.intro rfl (And.intro rfl trivial))))) ?_
    refine tl_X12_fees_L41 _ _ _ _ _ ho0 hC hM hR (fun x2_18 U_19 h H hU => ?_) n_21 _ _ U h hU H
    refine pv_iinc hC (v := x4 + 1) (by decide +kernel : decode cX12_fees 124 = .ok (.iinc 4 1, 3)) rfl (by decide) rfl rfl (fun x4_20 e_x4_20 => ?_)
    replace H := H x4_20 e_x4_20
    refine pr_goto hC 27 (by decide +kernel : decode cX12_fees 127 = .ok (.goto (-100), 3)) (by decide) ?_
    exact pv_sub [some (.ref (Y.2.1 o0)), some (.int x1), some (.long x2_18), none, some (.int x4_20), none, none, none, none] (And.intro rfl (And.intro rfl (And.intro rfl (And.intro rfl trivial)))) (ih _ _ U_19 h hU H)
set_option maxHeartbeats 4000000 in
theorem t_X12_fees {l : Launch} {Y : px_Y} {o : Nat} {a1 : Int32} {U : Um} {post : Int64 → Um → Prop} (ho : oc o = 10) (H : w_X12_fees o a1 U post) : um l Y 4 yX12_fees cX12_fees 9 (some (.long)) [.ref (Y.2.1 o), .int a1] U (pq_l post) := by
  unfold w_X12_fees at H
  refine um_of (by decide) (Nat.le_of_ble_eq_true rfl) [some (.ref (Y.2.1 o)), some (.int a1), none, none, none, none, none, none, none] rfl (fun X h0 hh sz hM hU => ?_)
  have hC := hM.1
  have hR := hM.2.2.1
  refine pr_aload_n hC (by decide +kernel : decode cX12_fees 0 = .ok (.aload_n 0, 1)) rfl ?_
  refine pr_iconst hC (0) (by decide +kernel : decode cX12_fees 1 = .ok (.iconst 0, 1)) rfl ?_
  refine pv_p0 hC fp_X12_121 (by decide +kernel : decode cX12_fees 2 = .ok (.putfield 121, 3)) hU ho (by decide) rfl rfl rfl rfl (fun U_1 h e_U_1 hU => ?_)
  replace H := H U_1 e_U_1
  refine pr_iload_n hC (by decide +kernel : decode cX12_fees 5 = .ok (.iload_n 1, 1)) rfl ?_
  refine pr_iconst hC (-1) (by decide +kernel : decode cX12_fees 6 = .ok (.iconst (-1), 1)) rfl ?_
  replace H := H (fun U_3 => ∀ h : pe_H, rF Y h0 U_3 h → pw X Y.1 (pm_A hh sz) (pm_E X Y.1 hh sz 0 0 (pm_P Y h0 sz (pq_l post))) 22 [some (.ref (Y.2.1 o)), some (.int a1), none, none, none, none, none, none, none] [] h sz 0 0) (by
    intro U_3 H h hU
    refine pr_lconst hC (0) (by decide +kernel : decode cX12_fees 22 = .ok (.lconst 0, 1)) rfl ?_
    refine pr_lstore_n hC (by decide +kernel : decode cX12_fees 23 = .ok (.lstore_n 2, 1)) (by decide) rfl ?_
    refine pr_iconst hC (0) (by decide +kernel : decode cX12_fees 24 = .ok (.iconst 0, 1)) rfl ?_
    refine pr_istore hC (by decide +kernel : decode cX12_fees 25 = .ok (.istore 4, 2)) (by decide) rfl ?_
    obtain ⟨n_24, H⟩ := H
    refine pv_sub [some (.ref (Y.2.1 o)), some (.int a1), some (.long 0), none, some (.int 0), none, none, none, none] (And.intro rfl (And.intro rfl (And.intro rfl (And.intro rfl trivial)))) ?_
    refine tl_X12_fees_L27 _ _ _ _ ho hC hM hR (fun x2_22 U_23 h H hU => ?_) n_24 _ _ U_3 h hU H
    refine pr_lload_n hC (by decide +kernel : decode cX12_fees 130 = .ok (.lload_n 2, 1)) rfl ?_
    exact pv_lret hM (by decide +kernel : decode cX12_fees 131 = .ok (.lreturn, 1)) hU H)
  refine pr_icmp_eq hC 22 (by decide +kernel : decode cX12_fees 7 = .ok (.if_icmp .eq 15, 3)) (by decide) (fun c_7 => ?_) (fun c_7 => ?_)
  · replace H := H.1 c_7
    exact pv_sub [some (.ref (Y.2.1 o)), some (.int a1), none, none, none, none, none, none, none] (And.intro rfl (And.intro rfl trivial)) (H h hU)
  replace H := H.2 c_7
  refine pr_aload_n hC (by decide +kernel : decode cX12_fees 10 = .ok (.aload_n 0, 1)) rfl ?_
  refine pr_iload_n hC (by decide +kernel : decode cX12_fees 11 = .ok (.iload_n 1, 1)) rfl ?_
  refine vc_Vi hC hR [.int a1] fv_X12_368 (by decide +kernel : decode cX12_fees 12 = .ok (.invokevirtual 368, 3)) hU (t_X12_isOne ho H) ho (by decide) rfl rfl rfl (Nat.le_of_ble_eq_true rfl) (Nat.le_of_ble_eq_true rfl) (Nat.le_refl 0) (Nat.le_refl 0) (fun r_26 U_25 h H hU => ?_)
  refine pr_if_ne hC 22 (by decide +kernel : decode cX12_fees 15 = .ok (.ifCond .ne 7, 3)) (by decide) (fun c_15 => ?_) (fun c_15 => ?_)
  · replace H := H.2 c_15
    exact pv_sub [some (.ref (Y.2.1 o)), some (.int a1), none, none, none, none, none, none, none] (And.intro rfl (And.intro rfl trivial)) (H h hU)
  replace H := H.1 c_15
  refine pr_ldc2 hC (-9223372036854775808) (by decide +kernel : decode cX12_fees 18 = .ok (.ldc2_w 459, 3)) fk_X12_459 ?_
  exact pv_lret hM (by decide +kernel : decode cX12_fees 21 = .ok (.lreturn, 1)) hU H
def b_X12_best_L27 (o0 : Nat) (x1 : Int32) (x2 : Int32) (post : Int32 → Um → Prop) (k_133 : Int32 → Um → Prop) (rec_ : Int32 → Int32 → Int64 → Int32 → Um → Prop) (x3 : Int32) (x4 : Int32) (x5 : Int64) (x7 : Int32) (U : Um) : Prop :=
  vp_in 2 14 ∧ ((uA U o0 11 (Int32.toNatClampNeg 2)) ≤ x7 → k_133 x3 U) ∧ (¬ (uA U o0 11 (Int32.toNatClampNeg 2)) ≤ x7 → w_X12_whyOf o0 x1 x2 x7 U (fun r_5 U_4 => (r_5 = 0 → w_X12_extraOf o0 x1 x2 x7 U_4 (fun r_7 U_6 => w_X12_feeOf o0 x1 x2 x7 U_6 (fun r_9 U_8 => ∀ (x9_10 : Int64), x9_10 = (if (lg_cmp r_9 (-9223372036854775808)) = 0 then 9223372036854775807 else r_9) → (∀ K_11 : Prop, ((∀ (x3_12 : Int32), x3_12 = x7 → ∀ (x7_13 : Int32), x7_13 = x7 + 1 → rec_ x3_12 r_7 x9_10 x7_13 U_8) → K_11 ) → (x3 = (-1) → K_11) ∧ (¬ x3 = (-1) → (x4 < r_7 → ∀ (x7_14 : Int32), x7_14 = x7 + 1 → rec_ x3 x4 x5 x7_14 U_8) ∧ (¬ x4 < r_7 → (r_7 = x4 → ((lg_cmp x9_10 x5) < 0 → K_11) ∧ (¬ (lg_cmp x9_10 x5) < 0 → ∀ (x7_15 : Int32), x7_15 = x7 + 1 → rec_ x3 x4 x5 x7_15 U_8)) ∧ (¬ r_7 = x4 → K_11))))))) ∧ (¬ r_5 = 0 → ∀ (x7_17 : Int32), x7_17 = x7 + 1 → rec_ x3 x4 x5 x7_17 U_4)))
def w_X12_best_L27 (o0 : Nat) (x1 : Int32) (x2 : Int32) (post : Int32 → Um → Prop) (k_133 : Int32 → Um → Prop) (n_ : Nat) : Int32 → Int32 → Int64 → Int32 → Um → Prop := Nat.rec (motive := fun _ => Int32 → Int32 → Int64 → Int32 → Um → Prop) (fun _ _ _ _ _ => False) (fun _ ih => b_X12_best_L27 o0 x1 x2 post k_133 ih) n_
def w_X12_best (o : Nat) (a1 : Int32) (a2 : Int32) (U : Um) (post : Int32 → Um → Prop) : Prop :=
  ∀ (U_1 : Um), U_1 = sI U o 0 0 → w_X12_isSeat o a1 a2 U_1 (fun r_3 U_2 => (r_3 = 0 → post (-1) U_2) ∧ (¬ r_3 = 0 → (∃ n_20, w_X12_best_L27 o a1 a2 post (fun x3_18 U_19 => post x3_18 U_19) n_20 (-1) 0 0 0 U_2)))
set_option maxHeartbeats 4000000 in
theorem tl_X12_best_L27 {l : Launch} {Y : px_Y} {X : px_X} {h0 hh : pe_H} {sz : Nat} (o0 : Nat) (x1 : Int32) (x2 : Int32) (post : Int32 → Um → Prop) (k_133 : Int32 → Um → Prop) (ho0 : oc o0 = 10)  (hC : px_C X Y.1 (pm_A hh sz) cX12_best RX12 11) (hM : px_M l X Y.1 hh sz yX12_best cX12_best 11 (some (.int)) 5 0 0) (hR : X.2.2.2.1 = pm_rm 5 0 0) (hk_133 : ∀ (y3 : Int32) (U : Um) (h : pe_H), k_133 y3 U → rF Y h0 U h → pw X Y.1 (pm_A hh sz) (pm_E X Y.1 hh sz 0 0 (pm_P Y h0 sz (pq_i post))) 133 [none, none, none, some (.int y3), none, none, none, none, none, none, none] [] h sz 0 0) : ∀ (n_ : Nat) (x3 : Int32) (x4 : Int32) (x5 : Int64) (x7 : Int32) (U : Um) (h : pe_H), rF Y h0 U h → w_X12_best_L27 o0 x1 x2 post k_133 n_ x3 x4 x5 x7 U → pw X Y.1 (pm_A hh sz) (pm_E X Y.1 hh sz 0 0 (pm_P Y h0 sz (pq_i post))) 27 [some (.ref (Y.2.1 o0)), some (.int x1), some (.int x2), some (.int x3), some (.int x4), some (.long x5), none, some (.int x7), none, none, none] [] h sz 0 0 := by
  intro n_
  induction n_ with
  | zero => intro x3 x4 x5 x7 U h hU H; exact False.elim H
  | succ n_ ih =>
    intro x3 x4 x5 x7 U h hU H
    replace H : b_X12_best_L27 o0 x1 x2 post k_133 (w_X12_best_L27 o0 x1 x2 post k_133 n_) x3 x4 x5 x7 U := H
    unfold b_X12_best_L27 at H
    refine pr_iload hC (by decide +kernel : decode cX12_best 27 = .ok (.iload 7, 2)) rfl ?_
    refine pr_aload_n hC (by decide +kernel : decode cX12_best 29 = .ok (.aload_n 0, 1)) rfl ?_
    refine pu_g1 hC fg_X12_43 (by decide +kernel : decode cX12_best 30 = .ok (.getfield 43, 3)) hU ho0 (by decide) rfl (by decide) ?_
    refine pr_iconst hC (2) (by decide +kernel : decode cX12_best 33 = .ok (.iconst 2, 1)) rfl ?_
    refine pu_iald hC (by decide +kernel : decode cX12_best 34 = .ok (.iaload, 1)) hU ho0 rfl H.1 ?_
    replace H := H.2
    refine pr_icmp_ge hC 133 (by decide +kernel : decode cX12_best 35 = .ok (.if_icmp .ge 98, 3)) (by decide) (fun c_35 => ?_) (fun c_35 => ?_)
    · replace H := H.1 c_35
      exact pv_sub [none, none, none, some (.int x3), none, none, none, none, none, none, none] (And.intro rfl trivial) (hk_133 _ U h H hU)
    replace H := H.2 c_35
    refine pr_aload_n hC (by decide +kernel : decode cX12_best 38 = .ok (.aload_n 0, 1)) rfl ?_
    refine pr_iload_n hC (by decide +kernel : decode cX12_best 39 = .ok (.iload_n 1, 1)) rfl ?_
    refine pr_iload_n hC (by decide +kernel : decode cX12_best 40 = .ok (.iload_n 2, 1)) rfl ?_
    refine pr_iload hC (by decide +kernel : decode cX12_best 41 = .ok (.iload 7, 2)) rfl ?_
    refine vc_Vi hC hR [.int x1, .int x2, .int x7] fv_X12_427 (by decide +kernel : decode cX12_best 43 = .ok (.invokevirtual 427, 3)) hU (t_X12_whyOf ho0 H) ho0 (by decide) rfl rfl rfl (Nat.le_of_ble_eq_true rfl) (Nat.le_of_ble_eq_true rfl) (Nat.le_refl 0) (Nat.le_refl 0) (fun r_5 U_4 h H hU => ?_)
    refine pr_if_eq hC 52 (by decide +kernel : decode cX12_best 46 = .ok (.ifCond .eq 6, 3)) (by decide) (fun c_46 => ?_) (fun c_46 => ?_)
    · replace H := H.1 c_46
      refine pr_aload_n hC (by decide +kernel : decode cX12_best 52 = .ok (.aload_n 0, 1)) rfl ?_
      refine pr_iload_n hC (by decide +kernel : decode cX12_best 53 = .ok (.iload_n 1, 1)) rfl ?_
      refine pr_iload_n hC (by decide +kernel : decode cX12_best 54 = .ok (.iload_n 2, 1)) rfl ?_
      refine pr_iload hC (by decide +kernel : decode cX12_best 55 = .ok (.iload 7, 2)) rfl ?_
      refine vc_Vi hC hR [.int x1, .int x2, .int x7] fv_X12_449 (by decide +kernel : decode cX12_best 57 = .ok (.invokevirtual 449, 3)) hU (t_X12_extraOf ho0 H) ho0 (by decide) rfl rfl rfl (Nat.le_of_ble_eq_true rfl) (Nat.le_of_ble_eq_true rfl) (Nat.le_refl 0) (Nat.le_refl 0) (fun r_7 U_6 h H hU => ?_)
      refine pr_istore hC (by decide +kernel : decode cX12_best 60 = .ok (.istore 8, 2)) (by decide) rfl ?_
      refine pr_aload_n hC (by decide +kernel : decode cX12_best 62 = .ok (.aload_n 0, 1)) rfl ?_
      refine pr_iload_n hC (by decide +kernel : decode cX12_best 63 = .ok (.iload_n 1, 1)) rfl ?_
      refine pr_iload_n hC (by decide +kernel : decode cX12_best 64 = .ok (.iload_n 2, 1)) rfl ?_
      refine pr_iload hC (by decide +kernel : decode cX12_best 65 = .ok (.iload 7, 2)) rfl ?_
      refine vc_Vl hC hR [.int x1, .int x2, .int x7] fv_X12_469 (by decide +kernel : decode cX12_best 67 = .ok (.invokevirtual 469, 3)) hU (t_X12_feeOf ho0 H) ho0 (by decide) rfl rfl rfl (Nat.le_of_ble_eq_true rfl) (Nat.le_of_ble_eq_true rfl) (Nat.le_refl 0) (Nat.le_refl 0) (fun r_9 U_8 h H hU => ?_)
      refine pr_lstore hC (by decide +kernel : decode cX12_best 70 = .ok (.lstore 9, 2)) (by decide) rfl ?_
      refine pr_lload hC (by decide +kernel : decode cX12_best 72 = .ok (.lload 9, 2)) rfl ?_
      refine pr_ldc2 hC (-9223372036854775808) (by decide +kernel : decode cX12_best 74 = .ok (.ldc2_w 459, 3)) fk_X12_459 ?_
      refine pr_lcmp hC (by decide +kernel : decode cX12_best 77 = .ok (.lcmp, 1)) ?_
      have HJ_16 : ∀ (x9_10 : Int64), x9_10 = (if (lg_cmp r_9 (-9223372036854775808)) = 0 then 9223372036854775807 else r_9) → pw X Y.1 (pm_A hh sz) (pm_E X Y.1 hh sz 0 0 (pm_P Y h0 sz (pq_i post))) 86 [some (.ref (Y.2.1 o0)), some (.int x1), some (.int x2), some (.int x3), some (.int x4), some (.long x5), none, some (.int x7), some (.int r_7), some (.long x9_10), none] [] h sz 0 0 := by
        intro x9_10 e_x9_10
        replace H := H x9_10 e_x9_10
        refine pr_iload_n hC (by decide +kernel : decode cX12_best 86 = .ok (.iload_n 3, 1)) rfl ?_
        refine pr_iconst hC (-1) (by decide +kernel : decode cX12_best 87 = .ok (.iconst (-1), 1)) rfl ?_
        replace H := H (pw X Y.1 (pm_A hh sz) (pm_E X Y.1 hh sz 0 0 (pm_P Y h0 sz (pq_i post))) 116 [some (.ref (Y.2.1 o0)), some (.int x1), some (.int x2), none, none, none, none, some (.int x7), some (.int r_7), some (.long x9_10), none] [] h sz 0 0) (by
          intro  H
          refine pr_iload hC (by decide +kernel : decode cX12_best 116 = .ok (.iload 7, 2)) rfl ?_
          refine pv_topi (fun x3_12 e_x3_12 => ?_)
          replace H := H x3_12 e_x3_12
          refine pr_istore_n hC (by decide +kernel : decode cX12_best 118 = .ok (.istore_n 3, 1)) (by decide) rfl ?_
          refine pr_iload hC (by decide +kernel : decode cX12_best 119 = .ok (.iload 8, 2)) rfl ?_
          refine pr_istore hC (by decide +kernel : decode cX12_best 121 = .ok (.istore 4, 2)) (by decide) rfl ?_
          refine pr_lload hC (by decide +kernel : decode cX12_best 123 = .ok (.lload 9, 2)) rfl ?_
          refine pr_lstore hC (by decide +kernel : decode cX12_best 125 = .ok (.lstore 5, 2)) (by decide) rfl ?_
          refine pv_iinc hC (v := x7 + 1) (by decide +kernel : decode cX12_best 127 = .ok (.iinc 7 1, 3)) rfl (by decide) rfl rfl (fun x7_13 e_x7_13 => ?_)
          replace H := H x7_13 e_x7_13
          refine pr_goto hC 27 (by decide +kernel : decode cX12_best 130 = .ok (.goto (-103), 3)) (by decide) ?_
          exact pv_sub [some (.ref (Y.2.1 o0)), some (.int x1), some (.int x2), some (.int x3_12), some (.int r_7), some (.long x9_10), none, some (.int x7_13), none, none, none] (And.intro rfl (And.intro rfl (And.intro rfl (And.intro rfl (And.intro rfl (And.intro rfl (And.intro rfl trivial))))))) (ih _ _ _ _ U_8 h hU H))
        refine pr_icmp_eq hC 116 (by decide +kernel : decode cX12_best 88 = .ok (.if_icmp .eq 28, 3)) (by decide) (fun c_88 => ?_) (fun c_88 => ?_)
        · replace H := H.1 c_88
          exact pv_sub [some (.ref (Y.2.1 o0)), some (.int x1), some (.int x2), none, none, none, none, some (.int x7), some (.int r_7), some (.long x9_10), none] (And.intro rfl (And.intro rfl (And.intro rfl (And.intro rfl (And.intro rfl (And.intro rfl trivial)))))) (H )
        replace H := H.2 c_88
        refine pr_iload hC (by decide +kernel : decode cX12_best 91 = .ok (.iload 8, 2)) rfl ?_
        refine pr_iload hC (by decide +kernel : decode cX12_best 93 = .ok (.iload 4, 2)) rfl ?_
        refine pr_icmp_gt hC 127 (by decide +kernel : decode cX12_best 95 = .ok (.if_icmp .gt 32, 3)) (by decide) (fun c_95 => ?_) (fun c_95 => ?_)
        · replace H := H.1 c_95
          refine pv_iinc hC (v := x7 + 1) (by decide +kernel : decode cX12_best 127 = .ok (.iinc 7 1, 3)) rfl (by decide) rfl rfl (fun x7_14 e_x7_14 => ?_)
          replace H := H x7_14 e_x7_14
          refine pr_goto hC 27 (by decide +kernel : decode cX12_best 130 = .ok (.goto (-103), 3)) (by decide) ?_
          exact pv_sub [some (.ref (Y.2.1 o0)), some (.int x1), some (.int x2), some (.int x3), some (.int x4), some (.long x5), none, some (.int x7_14), none, none, none] (And.intro rfl (And.intro rfl (And.intro rfl (And.intro rfl (And.intro rfl (And.intro rfl (And.intro rfl trivial))))))) (ih _ _ _ _ U_8 h hU H)
        replace H := H.2 c_95
        refine pr_iload hC (by decide +kernel : decode cX12_best 98 = .ok (.iload 8, 2)) rfl ?_
        refine pr_iload hC (by decide +kernel : decode cX12_best 100 = .ok (.iload 4, 2)) rfl ?_
        refine pr_icmp_ne hC 116 (by decide +kernel : decode cX12_best 102 = .ok (.if_icmp .ne 14, 3)) (by decide) (fun c_102 => ?_) (fun c_102 => ?_)
        · replace H := H.2 c_102
          exact pv_sub [some (.ref (Y.2.1 o0)), some (.int x1), some (.int x2), none, none, none, none, some (.int x7), some (.int r_7), some (.long x9_10), none] (And.intro rfl (And.intro rfl (And.intro rfl (And.intro rfl (And.intro rfl (And.intro rfl trivial)))))) (H )
        replace H := H.1 c_102
        refine pr_lload hC (by decide +kernel : decode cX12_best 105 = .ok (.lload 9, 2)) rfl ?_
        refine pr_lload hC (by decide +kernel : decode cX12_best 107 = .ok (.lload 5, 2)) rfl ?_
        refine pr_lcmp hC (by decide +kernel : decode cX12_best 109 = .ok (.lcmp, 1)) ?_
        refine pr_if_lt hC 116 (by decide +kernel : decode cX12_best 110 = .ok (.ifCond .lt 6, 3)) (by decide) (fun c_110 => ?_) (fun c_110 => ?_)
        · replace H := H.1 c_110
          exact pv_sub [some (.ref (Y.2.1 o0)), some (.int x1), some (.int x2), none, none, none, none, some (.int x7), some (.int r_7), some (.long x9_10), none] (And.intro rfl (And.intro rfl (And.intro rfl (And.intro rfl (And.intro rfl (And.intro rfl trivial)))))) (H )
        replace H := H.2 c_110
        refine pr_goto hC 127 (by decide +kernel : decode cX12_best 113 = .ok (.goto 14, 3)) (by decide) ?_
        refine pv_iinc hC (v := x7 + 1) (by decide +kernel : decode cX12_best 127 = .ok (.iinc 7 1, 3)) rfl (by decide) rfl rfl (fun x7_15 e_x7_15 => ?_)
        replace H := H x7_15 e_x7_15
        refine pr_goto hC 27 (by decide +kernel : decode cX12_best 130 = .ok (.goto (-103), 3)) (by decide) ?_
        exact pv_sub [some (.ref (Y.2.1 o0)), some (.int x1), some (.int x2), some (.int x3), some (.int x4), some (.long x5), none, some (.int x7_15), none, none, none] (And.intro rfl (And.intro rfl (And.intro rfl (And.intro rfl (And.intro rfl (And.intro rfl (And.intro rfl trivial))))))) (ih _ _ _ _ U_8 h hU H)
      replace H := trivial
      refine pr_if_ne hC 86 (by decide +kernel : decode cX12_best 78 = .ok (.ifCond .ne 8, 3)) (by decide) (fun c_78 => ?_) (fun c_78 => ?_)
      · skip
        exact pv_sub [some (.ref (Y.2.1 o0)), some (.int x1), some (.int x2), some (.int x3), some (.int x4), some (.long x5), none, some (.int x7), some (.int r_7), some (.long r_9), none] (And.intro rfl (And.intro rfl (And.intro rfl (And.intro rfl (And.intro rfl (And.intro rfl (And.intro rfl (And.intro rfl (And.intro rfl trivial))))))))) (HJ_16 _ (if_neg c_78).symm)
      skip
      refine pr_ldc2 hC (9223372036854775807) (by decide +kernel : decode cX12_best 81 = .ok (.ldc2_w 473, 3)) fk_X12_473 ?_
      refine pr_lstore hC (by decide +kernel : decode cX12_best 84 = .ok (.lstore 9, 2)) (by decide) rfl ?_
      exact pv_sub [some (.ref (Y.2.1 o0)), some (.int x1), some (.int x2), some (.int x3), some (.int x4), some (.long x5), none, some (.int x7), some (.int r_7), some (.long 9223372036854775807), none] (And.intro rfl (And.intro rfl (And.intro rfl (And.intro rfl (And.intro rfl (And.intro rfl (And.intro rfl (And.intro rfl (And.intro rfl trivial))))))))) (HJ_16 _ (if_pos c_78).symm)
    replace H := H.2 c_46
    refine pr_goto hC 127 (by decide +kernel : decode cX12_best 49 = .ok (.goto 78, 3)) (by decide) ?_
    refine pv_iinc hC (v := x7 + 1) (by decide +kernel : decode cX12_best 127 = .ok (.iinc 7 1, 3)) rfl (by decide) rfl rfl (fun x7_17 e_x7_17 => ?_)
    replace H := H x7_17 e_x7_17
    refine pr_goto hC 27 (by decide +kernel : decode cX12_best 130 = .ok (.goto (-103), 3)) (by decide) ?_
    exact pv_sub [some (.ref (Y.2.1 o0)), some (.int x1), some (.int x2), some (.int x3), some (.int x4), some (.long x5), none, some (.int x7_17), none, none, none] (And.intro rfl (And.intro rfl (And.intro rfl (And.intro rfl (And.intro rfl (And.intro rfl (And.intro rfl trivial))))))) (ih _ _ _ _ U_4 h hU H)
set_option maxHeartbeats 4000000 in
theorem t_X12_best {l : Launch} {Y : px_Y} {o : Nat} {a1 : Int32} {a2 : Int32} {U : Um} {post : Int32 → Um → Prop} (ho : oc o = 10) (H : w_X12_best o a1 a2 U post) : um l Y 5 yX12_best cX12_best 11 (some (.int)) [.ref (Y.2.1 o), .int a1, .int a2] U (pq_i post) := by
  unfold w_X12_best at H
  refine um_of (by decide) (Nat.le_of_ble_eq_true rfl) [some (.ref (Y.2.1 o)), some (.int a1), some (.int a2), none, none, none, none, none, none, none, none] rfl (fun X h0 hh sz hM hU => ?_)
  have hC := hM.1
  have hR := hM.2.2.1
  refine pr_aload_n hC (by decide +kernel : decode cX12_best 0 = .ok (.aload_n 0, 1)) rfl ?_
  refine pr_iconst hC (0) (by decide +kernel : decode cX12_best 1 = .ok (.iconst 0, 1)) rfl ?_
  refine pv_p0 hC fp_X12_121 (by decide +kernel : decode cX12_best 2 = .ok (.putfield 121, 3)) hU ho (by decide) rfl rfl rfl rfl (fun U_1 h e_U_1 hU => ?_)
  replace H := H U_1 e_U_1
  refine pr_aload_n hC (by decide +kernel : decode cX12_best 5 = .ok (.aload_n 0, 1)) rfl ?_
  refine pr_iload_n hC (by decide +kernel : decode cX12_best 6 = .ok (.iload_n 1, 1)) rfl ?_
  refine pr_iload_n hC (by decide +kernel : decode cX12_best 7 = .ok (.iload_n 2, 1)) rfl ?_
  refine vc_Vi hC hR [.int a1, .int a2] fv_X12_388 (by decide +kernel : decode cX12_best 8 = .ok (.invokevirtual 388, 3)) hU (t_X12_isSeat ho H) ho (by decide) rfl rfl rfl (Nat.le_of_ble_eq_true rfl) (Nat.le_of_ble_eq_true rfl) (Nat.le_refl 0) (Nat.le_refl 0) (fun r_3 U_2 h H hU => ?_)
  refine pr_if_ne hC 16 (by decide +kernel : decode cX12_best 11 = .ok (.ifCond .ne 5, 3)) (by decide) (fun c_11 => ?_) (fun c_11 => ?_)
  · replace H := H.2 c_11
    refine pr_iconst hC (-1) (by decide +kernel : decode cX12_best 16 = .ok (.iconst (-1), 1)) rfl ?_
    refine pr_istore_n hC (by decide +kernel : decode cX12_best 17 = .ok (.istore_n 3, 1)) (by decide) rfl ?_
    refine pr_iconst hC (0) (by decide +kernel : decode cX12_best 18 = .ok (.iconst 0, 1)) rfl ?_
    refine pr_istore hC (by decide +kernel : decode cX12_best 19 = .ok (.istore 4, 2)) (by decide) rfl ?_
    refine pr_lconst hC (0) (by decide +kernel : decode cX12_best 21 = .ok (.lconst 0, 1)) rfl ?_
    refine pr_lstore hC (by decide +kernel : decode cX12_best 22 = .ok (.lstore 5, 2)) (by decide) rfl ?_
    refine pr_iconst hC (0) (by decide +kernel : decode cX12_best 24 = .ok (.iconst 0, 1)) rfl ?_
    refine pr_istore hC (by decide +kernel : decode cX12_best 25 = .ok (.istore 7, 2)) (by decide) rfl ?_
    obtain ⟨n_20, H⟩ := H
    refine pv_sub [some (.ref (Y.2.1 o)), some (.int a1), some (.int a2), some (.int (-1)), some (.int 0), some (.long 0), none, some (.int 0), none, none, none] (And.intro rfl (And.intro rfl (And.intro rfl (And.intro rfl (And.intro rfl (And.intro rfl (And.intro rfl trivial))))))) ?_
    refine tl_X12_best_L27 _ _ _ _ _ ho hC hM hR (fun x3_18 U_19 h H hU => ?_) n_20 _ _ _ _ U_2 h hU H
    refine pr_iload_n hC (by decide +kernel : decode cX12_best 133 = .ok (.iload_n 3, 1)) rfl ?_
    exact pv_iret hM (by decide +kernel : decode cX12_best 134 = .ok (.ireturn, 1)) hU H
  replace H := H.1 c_11
  refine pr_iconst hC (-1) (by decide +kernel : decode cX12_best 14 = .ok (.iconst (-1), 1)) rfl ?_
  exact pv_iret hM (by decide +kernel : decode cX12_best 15 = .ok (.ireturn, 1)) hU H
def b_X12_crews_L40 (rec : Nat → Int32 → Int32 → Int32 → Um → (Um → Prop) → Prop) (o0 : Nat) (post : Um → Prop) (k_66 : Um → Prop) (rec_ : Int32 → Um → Prop) (x4 : Int32) (U : Um) : Prop :=
  ((3 : Int32) ≤ x4 → k_66 U) ∧ (¬ (3 : Int32) ≤ x4 → vp_in x4 3 ∧ vp_in x4 3 ∧ ∀ (U_6 : Um), U_6 = sA U o0 41 (va_up (uA U o0 41) (Int32.toNatClampNeg x4) (uA U o0 42 (Int32.toNatClampNeg x4))) → ∀ (x4_7 : Int32), x4_7 = x4 + 1 → rec_ x4_7 U_6)
def w_X12_crews_L40 (rec : Nat → Int32 → Int32 → Int32 → Um → (Um → Prop) → Prop) (o0 : Nat) (post : Um → Prop) (k_66 : Um → Prop) (n_ : Nat) : Int32 → Um → Prop := Nat.rec (motive := fun _ => Int32 → Um → Prop) (fun _ _ => False) (fun _ ih => b_X12_crews_L40 rec o0 post k_66 ih) n_
def b_X12_crews_L111 (rec : Nat → Int32 → Int32 → Int32 → Um → (Um → Prop) → Prop) (o0 : Nat) (x1 : Int32) (x2 : Int32) (x3 : Int32) (x4 : Int32) (post : Um → Prop) (k_189 : Um → Prop) (rec_ : Int32 → Um → Prop) (x5 : Int32) (U : Um) : Prop :=
  vp_in 2 14 ∧ ((uA U o0 11 (Int32.toNatClampNeg 2)) ≤ x5 → k_189 U) ∧ (¬ (uA U o0 11 (Int32.toNatClampNeg 2)) ≤ x5 → w_X12_whyNot o0 x1 x2 x5 U (fun r_13 U_12 => (r_13 = 0 → w_X12_extraOf o0 x1 x2 x5 U_12 (fun r_15 U_14 => vp_in x4 48 ∧ ∀ (U_16 : Um), U_16 = sA U_14 o0 30 (va_up (uA U_14 o0 30) (Int32.toNatClampNeg x4) x5) → vp_in x2 3 ∧ ∀ (U_17 : Um), U_17 = sA U_16 o0 42 (va_up (uA U_16 o0 42) (Int32.toNatClampNeg x2) x5) → rec o0 x1 (x2 + 1) (x3 + r_15) U_17 (fun U_18 => vp_in x4 48 ∧ ∀ (U_20 : Um), U_20 = sA U_18 o0 30 (va_up (uA U_18 o0 30) (Int32.toNatClampNeg x4) (-1)) → ∀ (x5_21 : Int32), x5_21 = x5 + 1 → rec_ x5_21 U_20))) ∧ (¬ r_13 = 0 → ∀ (x5_22 : Int32), x5_22 = x5 + 1 → rec_ x5_22 U_12)))
def w_X12_crews_L111 (rec : Nat → Int32 → Int32 → Int32 → Um → (Um → Prop) → Prop) (o0 : Nat) (x1 : Int32) (x2 : Int32) (x3 : Int32) (x4 : Int32) (post : Um → Prop) (k_189 : Um → Prop) (n_ : Nat) : Int32 → Um → Prop := Nat.rec (motive := fun _ => Int32 → Um → Prop) (fun _ _ => False) (fun _ ih => b_X12_crews_L111 rec o0 x1 x2 x3 x4 post k_189 ih) n_
def b_X12_crews (rec : Nat → Int32 → Int32 → Int32 → Um → (Um → Prop) → Prop) (o : Nat) (a1 : Int32) (a2 : Int32) (a3 : Int32) (U : Um) (post : Um → Prop) : Prop :=
  w_X12_of o a1 7 U (fun r_2 U_1 => (a2 = r_2 → (∀ K_3 : Prop, ((∀ (U_4 : Um), U_4 = sI U_1 o 44 1 → ∀ (U_5 : Um), U_5 = sI U_4 o 43 a3 → (∃ n_9, w_X12_crews_L40 rec o post (fun U_8 => post U_8) n_9 0 U_5)) → K_3 ) → ((uI U_1 o 44) = 0 → K_3) ∧ (¬ (uI U_1 o 44) = 0 → (a3 < (uI U_1 o 43) → K_3) ∧ (¬ a3 < (uI U_1 o 43) → post U_1)))) ∧ (¬ a2 = r_2 → w_X12_at a1 a2 U_1 (fun r_11 U_10 => vp_in r_11 48 ∧ ((uA U_10 o 30 (Int32.toNatClampNeg r_11)) = (-1) → (∃ n_24, w_X12_crews_L111 rec o a1 a2 a3 r_11 post (fun U_23 => post U_23) n_24 0 U_10)) ∧ (¬ (uA U_10 o 30 (Int32.toNatClampNeg r_11)) = (-1) → vp_in r_11 48 ∧ vp_in a2 3 ∧ ∀ (U_25 : Um), U_25 = sA U_10 o 42 (va_up (uA U_10 o 42) (Int32.toNatClampNeg a2) (uA U_10 o 30 (Int32.toNatClampNeg r_11))) → rec o a1 (a2 + 1) a3 U_25 (fun U_26 => post U_26)))))
def w_X12_crews (n_ : Nat) : Nat → Int32 → Int32 → Int32 → Um → (Um → Prop) → Prop := Nat.rec (motive := fun _ => Nat → Int32 → Int32 → Int32 → Um → (Um → Prop) → Prop) (fun _ _ _ _ _ _ => False) (fun _ ih => b_X12_crews ih) n_
set_option maxHeartbeats 4000000 in
theorem tl_X12_crews_L40 {l : Launch} {Y : px_Y} {X : px_X} {h0 hh : pe_H} {sz : Nat} {dd : Nat} (rec : Nat → Int32 → Int32 → Int32 → Um → (Um → Prop) → Prop) (o0 : Nat) (post : Um → Prop) (k_66 : Um → Prop) (ho0 : oc o0 = 10) (hrec : ∀ (l : Launch) (o : Nat) (a0 : Int32) (a1 : Int32) (a2 : Int32) (U : Um) (post : Um → Prop), oc o = 10 → rec o a0 a1 a2 U post → um l Y dd yX12_crews cX12_crews 7 none [.ref (Y.2.1 o), .int a0, .int a1, .int a2] U (pq_v post)) (hD : 5 ≤ dd) (hC : px_C X Y.1 (pm_A hh sz) cX12_crews RX12 7) (hM : px_M l X Y.1 hh sz yX12_crews cX12_crews 7 none (dd + 1) 0 0) (hR : X.2.2.2.1 = pm_rm (dd + 1) 0 0) (hk_66 : ∀ (U : Um) (h : pe_H), k_66 U → rF Y h0 U h → pw X Y.1 (pm_A hh sz) (pm_E X Y.1 hh sz 0 0 (pm_P Y h0 sz (pq_v post))) 66 [none, none, none, none, none, none, none] [] h sz 0 0) : ∀ (n_ : Nat) (x4 : Int32) (U : Um) (h : pe_H), rF Y h0 U h → w_X12_crews_L40 rec o0 post k_66 n_ x4 U → pw X Y.1 (pm_A hh sz) (pm_E X Y.1 hh sz 0 0 (pm_P Y h0 sz (pq_v post))) 40 [some (.ref (Y.2.1 o0)), none, none, none, some (.int x4), none, none] [] h sz 0 0 := by
  intro n_
  induction n_ with
  | zero => intro x4 U h hU H; exact False.elim H
  | succ n_ ih =>
    intro x4 U h hU H
    replace H : b_X12_crews_L40 rec o0 post k_66 (w_X12_crews_L40 rec o0 post k_66 n_) x4 U := H
    unfold b_X12_crews_L40 at H
    refine pr_iload hC (by decide +kernel : decode cX12_crews 40 = .ok (.iload 4, 2)) rfl ?_
    refine pr_iconst hC (3) (by decide +kernel : decode cX12_crews 42 = .ok (.iconst 3, 1)) rfl ?_
    refine pr_icmp_ge hC 66 (by decide +kernel : decode cX12_crews 43 = .ok (.if_icmp .ge 23, 3)) (by decide) (fun c_43 => ?_) (fun c_43 => ?_)
    · replace H := H.1 c_43
      exact pv_sub [none, none, none, none, none, none, none] (trivial) (hk_66 U h H hU)
    replace H := H.2 c_43
    refine pr_aload_n hC (by decide +kernel : decode cX12_crews 46 = .ok (.aload_n 0, 1)) rfl ?_
    refine pu_g1 hC fg_X12_90 (by decide +kernel : decode cX12_crews 47 = .ok (.getfield 90, 3)) hU ho0 (by decide) rfl (by decide) ?_
    refine pr_iload hC (by decide +kernel : decode cX12_crews 50 = .ok (.iload 4, 2)) rfl ?_
    refine pr_aload_n hC (by decide +kernel : decode cX12_crews 52 = .ok (.aload_n 0, 1)) rfl ?_
    refine pu_g1 hC fg_X12_93 (by decide +kernel : decode cX12_crews 53 = .ok (.getfield 93, 3)) hU ho0 (by decide) rfl (by decide) ?_
    refine pr_iload hC (by decide +kernel : decode cX12_crews 56 = .ok (.iload 4, 2)) rfl ?_
    refine pu_iald hC (by decide +kernel : decode cX12_crews 58 = .ok (.iaload, 1)) hU ho0 rfl H.1 ?_
    replace H := H.2
    refine pv_iast hC (by decide +kernel : decode cX12_crews 59 = .ok (.iastore, 1)) hU ho0 rfl H.1 (fun U_6 h e_U_6 hU => ?_)
    replace H := H.2 U_6 e_U_6
    refine pv_iinc hC (v := x4 + 1) (by decide +kernel : decode cX12_crews 60 = .ok (.iinc 4 1, 3)) rfl (by decide) rfl rfl (fun x4_7 e_x4_7 => ?_)
    replace H := H x4_7 e_x4_7
    refine pr_goto hC 40 (by decide +kernel : decode cX12_crews 63 = .ok (.goto (-23), 3)) (by decide) ?_
    exact pv_sub [some (.ref (Y.2.1 o0)), none, none, none, some (.int x4_7), none, none] (And.intro rfl (And.intro rfl trivial)) (ih _ U_6 h hU H)
set_option maxHeartbeats 4000000 in
theorem tl_X12_crews_L111 {l : Launch} {Y : px_Y} {X : px_X} {h0 hh : pe_H} {sz : Nat} {dd : Nat} (rec : Nat → Int32 → Int32 → Int32 → Um → (Um → Prop) → Prop) (o0 : Nat) (x1 : Int32) (x2 : Int32) (x3 : Int32) (x4 : Int32) (post : Um → Prop) (k_189 : Um → Prop) (ho0 : oc o0 = 10) (hrec : ∀ (l : Launch) (o : Nat) (a0 : Int32) (a1 : Int32) (a2 : Int32) (U : Um) (post : Um → Prop), oc o = 10 → rec o a0 a1 a2 U post → um l Y dd yX12_crews cX12_crews 7 none [.ref (Y.2.1 o), .int a0, .int a1, .int a2] U (pq_v post)) (hD : 5 ≤ dd) (hC : px_C X Y.1 (pm_A hh sz) cX12_crews RX12 7) (hM : px_M l X Y.1 hh sz yX12_crews cX12_crews 7 none (dd + 1) 0 0) (hR : X.2.2.2.1 = pm_rm (dd + 1) 0 0) (hk_189 : ∀ (U : Um) (h : pe_H), k_189 U → rF Y h0 U h → pw X Y.1 (pm_A hh sz) (pm_E X Y.1 hh sz 0 0 (pm_P Y h0 sz (pq_v post))) 189 [none, none, none, none, none, none, none] [] h sz 0 0) : ∀ (n_ : Nat) (x5 : Int32) (U : Um) (h : pe_H), rF Y h0 U h → w_X12_crews_L111 rec o0 x1 x2 x3 x4 post k_189 n_ x5 U → pw X Y.1 (pm_A hh sz) (pm_E X Y.1 hh sz 0 0 (pm_P Y h0 sz (pq_v post))) 111 [some (.ref (Y.2.1 o0)), some (.int x1), some (.int x2), some (.int x3), some (.int x4), some (.int x5), none] [] h sz 0 0 := by
  intro n_
  induction n_ with
  | zero => intro x5 U h hU H; exact False.elim H
  | succ n_ ih =>
    intro x5 U h hU H
    replace H : b_X12_crews_L111 rec o0 x1 x2 x3 x4 post k_189 (w_X12_crews_L111 rec o0 x1 x2 x3 x4 post k_189 n_) x5 U := H
    unfold b_X12_crews_L111 at H
    refine pr_iload hC (by decide +kernel : decode cX12_crews 111 = .ok (.iload 5, 2)) rfl ?_
    refine pr_aload_n hC (by decide +kernel : decode cX12_crews 113 = .ok (.aload_n 0, 1)) rfl ?_
    refine pu_g1 hC fg_X12_43 (by decide +kernel : decode cX12_crews 114 = .ok (.getfield 43, 3)) hU ho0 (by decide) rfl (by decide) ?_
    refine pr_iconst hC (2) (by decide +kernel : decode cX12_crews 117 = .ok (.iconst 2, 1)) rfl ?_
    refine pu_iald hC (by decide +kernel : decode cX12_crews 118 = .ok (.iaload, 1)) hU ho0 rfl H.1 ?_
    replace H := H.2
    refine pr_icmp_ge hC 189 (by decide +kernel : decode cX12_crews 119 = .ok (.if_icmp .ge 70, 3)) (by decide) (fun c_119 => ?_) (fun c_119 => ?_)
    · replace H := H.1 c_119
      exact pv_sub [none, none, none, none, none, none, none] (trivial) (hk_189 U h H hU)
    replace H := H.2 c_119
    refine pr_aload_n hC (by decide +kernel : decode cX12_crews 122 = .ok (.aload_n 0, 1)) rfl ?_
    refine pr_iload_n hC (by decide +kernel : decode cX12_crews 123 = .ok (.iload_n 1, 1)) rfl ?_
    refine pr_iload_n hC (by decide +kernel : decode cX12_crews 124 = .ok (.iload_n 2, 1)) rfl ?_
    refine pr_iload hC (by decide +kernel : decode cX12_crews 125 = .ok (.iload 5, 2)) rfl ?_
    refine vc_Vi hC hR [.int x1, .int x2, .int x5] fv_X12_423 (by decide +kernel : decode cX12_crews 127 = .ok (.invokevirtual 423, 3)) hU (t_X12_whyNot ho0 H) ho0 (by decide) rfl rfl rfl (Nat.le_of_ble_eq_true rfl) (by omega) (Nat.le_refl 0) (Nat.le_refl 0) (fun r_13 U_12 h H hU => ?_)
    refine pr_if_eq hC 136 (by decide +kernel : decode cX12_crews 130 = .ok (.ifCond .eq 6, 3)) (by decide) (fun c_130 => ?_) (fun c_130 => ?_)
    · replace H := H.1 c_130
      refine pr_aload_n hC (by decide +kernel : decode cX12_crews 136 = .ok (.aload_n 0, 1)) rfl ?_
      refine pr_iload_n hC (by decide +kernel : decode cX12_crews 137 = .ok (.iload_n 1, 1)) rfl ?_
      refine pr_iload_n hC (by decide +kernel : decode cX12_crews 138 = .ok (.iload_n 2, 1)) rfl ?_
      refine pr_iload hC (by decide +kernel : decode cX12_crews 139 = .ok (.iload 5, 2)) rfl ?_
      refine vc_Vi hC hR [.int x1, .int x2, .int x5] fv_X12_449 (by decide +kernel : decode cX12_crews 141 = .ok (.invokevirtual 449, 3)) hU (t_X12_extraOf ho0 H) ho0 (by decide) rfl rfl rfl (Nat.le_of_ble_eq_true rfl) (by omega) (Nat.le_refl 0) (Nat.le_refl 0) (fun r_15 U_14 h H hU => ?_)
      refine pr_istore hC (by decide +kernel : decode cX12_crews 144 = .ok (.istore 6, 2)) (by decide) rfl ?_
      refine pr_aload_n hC (by decide +kernel : decode cX12_crews 146 = .ok (.aload_n 0, 1)) rfl ?_
      refine pu_g1 hC fg_X12_59 (by decide +kernel : decode cX12_crews 147 = .ok (.getfield 59, 3)) hU ho0 (by decide) rfl (by decide) ?_
      refine pr_iload hC (by decide +kernel : decode cX12_crews 150 = .ok (.iload 4, 2)) rfl ?_
      refine pr_iload hC (by decide +kernel : decode cX12_crews 152 = .ok (.iload 5, 2)) rfl ?_
      refine pv_iast hC (by decide +kernel : decode cX12_crews 154 = .ok (.iastore, 1)) hU ho0 rfl H.1 (fun U_16 h e_U_16 hU => ?_)
      replace H := H.2 U_16 e_U_16
      refine pr_aload_n hC (by decide +kernel : decode cX12_crews 155 = .ok (.aload_n 0, 1)) rfl ?_
      refine pu_g1 hC fg_X12_93 (by decide +kernel : decode cX12_crews 156 = .ok (.getfield 93, 3)) hU ho0 (by decide) rfl (by decide) ?_
      refine pr_iload_n hC (by decide +kernel : decode cX12_crews 159 = .ok (.iload_n 2, 1)) rfl ?_
      refine pr_iload hC (by decide +kernel : decode cX12_crews 160 = .ok (.iload 5, 2)) rfl ?_
      refine pv_iast hC (by decide +kernel : decode cX12_crews 162 = .ok (.iastore, 1)) hU ho0 rfl H.1 (fun U_17 h e_U_17 hU => ?_)
      replace H := H.2 U_17 e_U_17
      refine pr_aload_n hC (by decide +kernel : decode cX12_crews 163 = .ok (.aload_n 0, 1)) rfl ?_
      refine pr_iload_n hC (by decide +kernel : decode cX12_crews 164 = .ok (.iload_n 1, 1)) rfl ?_
      refine pr_iload_n hC (by decide +kernel : decode cX12_crews 165 = .ok (.iload_n 2, 1)) rfl ?_
      refine pr_iconst hC (1) (by decide +kernel : decode cX12_crews 166 = .ok (.iconst 1, 1)) rfl ?_
      refine pr_iadd hC (by decide +kernel : decode cX12_crews 167 = .ok (.iadd, 1)) ?_
      refine pr_iload_n hC (by decide +kernel : decode cX12_crews 168 = .ok (.iload_n 3, 1)) rfl ?_
      refine pr_iload hC (by decide +kernel : decode cX12_crews 169 = .ok (.iload 6, 2)) rfl ?_
      refine pr_iadd hC (by decide +kernel : decode cX12_crews 171 = .ok (.iadd, 1)) ?_
      refine vc_Vv hC hR [.int x1, .int (x2 + 1), .int (x3 + r_15)] fv_X12_482 (by decide +kernel : decode cX12_crews 172 = .ok (.invokevirtual 482, 3)) hU (hrec _ _ _ _ _ _ _ ho0 H) ho0 (by decide) rfl rfl rfl (Nat.le_of_ble_eq_true rfl) (by omega) (Nat.le_refl 0) (Nat.le_refl 0) (fun U_18 h H hU => ?_)
      refine pr_aload_n hC (by decide +kernel : decode cX12_crews 175 = .ok (.aload_n 0, 1)) rfl ?_
      refine pu_g1 hC fg_X12_59 (by decide +kernel : decode cX12_crews 176 = .ok (.getfield 59, 3)) hU ho0 (by decide) rfl (by decide) ?_
      refine pr_iload hC (by decide +kernel : decode cX12_crews 179 = .ok (.iload 4, 2)) rfl ?_
      refine pr_iconst hC (-1) (by decide +kernel : decode cX12_crews 181 = .ok (.iconst (-1), 1)) rfl ?_
      refine pv_iast hC (by decide +kernel : decode cX12_crews 182 = .ok (.iastore, 1)) hU ho0 rfl H.1 (fun U_20 h e_U_20 hU => ?_)
      replace H := H.2 U_20 e_U_20
      refine pv_iinc hC (v := x5 + 1) (by decide +kernel : decode cX12_crews 183 = .ok (.iinc 5 1, 3)) rfl (by decide) rfl rfl (fun x5_21 e_x5_21 => ?_)
      replace H := H x5_21 e_x5_21
      refine pr_goto hC 111 (by decide +kernel : decode cX12_crews 186 = .ok (.goto (-75), 3)) (by decide) ?_
      exact pv_sub [some (.ref (Y.2.1 o0)), some (.int x1), some (.int x2), some (.int x3), some (.int x4), some (.int x5_21), none] (And.intro rfl (And.intro rfl (And.intro rfl (And.intro rfl (And.intro rfl (And.intro rfl trivial)))))) (ih _ U_20 h hU H)
    replace H := H.2 c_130
    refine pr_goto hC 183 (by decide +kernel : decode cX12_crews 133 = .ok (.goto 50, 3)) (by decide) ?_
    refine pv_iinc hC (v := x5 + 1) (by decide +kernel : decode cX12_crews 183 = .ok (.iinc 5 1, 3)) rfl (by decide) rfl rfl (fun x5_22 e_x5_22 => ?_)
    replace H := H x5_22 e_x5_22
    refine pr_goto hC 111 (by decide +kernel : decode cX12_crews 186 = .ok (.goto (-75), 3)) (by decide) ?_
    exact pv_sub [some (.ref (Y.2.1 o0)), some (.int x1), some (.int x2), some (.int x3), some (.int x4), some (.int x5_22), none] (And.intro rfl (And.intro rfl (And.intro rfl (And.intro rfl (And.intro rfl (And.intro rfl trivial)))))) (ih _ U_12 h hU H)
set_option maxHeartbeats 4000000 in
theorem tb_X12_crews {l : Launch} {Y : px_Y} {dd : Nat} {rec : Nat → Int32 → Int32 → Int32 → Um → (Um → Prop) → Prop} (hrec : ∀ (l : Launch) (o : Nat) (a0 : Int32) (a1 : Int32) (a2 : Int32) (U : Um) (post : Um → Prop), oc o = 10 → rec o a0 a1 a2 U post → um l Y dd yX12_crews cX12_crews 7 none [.ref (Y.2.1 o), .int a0, .int a1, .int a2] U (pq_v post)) (hD : 5 ≤ dd) {o : Nat} {a1 : Int32} {a2 : Int32} {a3 : Int32} {U : Um} {post : Um → Prop} (ho : oc o = 10) (H : b_X12_crews rec o a1 a2 a3 U post) : um l Y (dd + 1) yX12_crews cX12_crews 7 none [.ref (Y.2.1 o), .int a1, .int a2, .int a3] U (pq_v post) := by
  unfold b_X12_crews at H
  refine um_of (by decide) (Nat.le_of_ble_eq_true rfl) [some (.ref (Y.2.1 o)), some (.int a1), some (.int a2), some (.int a3), none, none, none] rfl (fun X h0 hh sz hM hU => ?_)
  have hC := hM.1
  have hR := hM.2.2.1
  refine pr_iload_n hC (by decide +kernel : decode cX12_crews 0 = .ok (.iload_n 2, 1)) rfl ?_
  refine pr_aload_n hC (by decide +kernel : decode cX12_crews 1 = .ok (.aload_n 0, 1)) rfl ?_
  refine pr_iload_n hC (by decide +kernel : decode cX12_crews 2 = .ok (.iload_n 1, 1)) rfl ?_
  refine pr_bipush hC (7) (by decide +kernel : decode cX12_crews 3 = .ok (.bipush 7, 2)) rfl ?_
  refine vc_Vi hC hR [.int a1, .int 7] fv_X12_353 (by decide +kernel : decode cX12_crews 5 = .ok (.invokevirtual 353, 3)) hU (t_X12_of ho H) ho (by decide) rfl rfl rfl (Nat.le_of_ble_eq_true rfl) (by omega) (Nat.le_refl 0) (Nat.le_refl 0) (fun r_2 U_1 h H hU => ?_)
  refine pr_icmp_ne hC 67 (by decide +kernel : decode cX12_crews 8 = .ok (.if_icmp .ne 59, 3)) (by decide) (fun c_8 => ?_) (fun c_8 => ?_)
  · replace H := H.2 c_8
    refine pr_iload_n hC (by decide +kernel : decode cX12_crews 67 = .ok (.iload_n 1, 1)) rfl ?_
    refine pr_iload_n hC (by decide +kernel : decode cX12_crews 68 = .ok (.iload_n 2, 1)) rfl ?_
    refine vc_Si hC hR [.int a1, .int a2] fv_X12_360 (by decide +kernel : decode cX12_crews 69 = .ok (.invokestatic 360, 3)) hU (t_X12_at  H) rfl rfl (Nat.le_of_ble_eq_true rfl) (by omega) (Nat.le_refl 0) (Nat.le_refl 0) (fun r_11 U_10 h H hU => ?_)
    refine pr_istore hC (by decide +kernel : decode cX12_crews 72 = .ok (.istore 4, 2)) (by decide) rfl ?_
    refine pr_aload_n hC (by decide +kernel : decode cX12_crews 74 = .ok (.aload_n 0, 1)) rfl ?_
    refine pu_g1 hC fg_X12_59 (by decide +kernel : decode cX12_crews 75 = .ok (.getfield 59, 3)) hU ho (by decide) rfl (by decide) ?_
    refine pr_iload hC (by decide +kernel : decode cX12_crews 78 = .ok (.iload 4, 2)) rfl ?_
    refine pu_iald hC (by decide +kernel : decode cX12_crews 80 = .ok (.iaload, 1)) hU ho rfl H.1 ?_
    replace H := H.2
    refine pr_iconst hC (-1) (by decide +kernel : decode cX12_crews 81 = .ok (.iconst (-1), 1)) rfl ?_
    refine pr_icmp_eq hC 108 (by decide +kernel : decode cX12_crews 82 = .ok (.if_icmp .eq 26, 3)) (by decide) (fun c_82 => ?_) (fun c_82 => ?_)
    · replace H := H.1 c_82
      refine pr_iconst hC (0) (by decide +kernel : decode cX12_crews 108 = .ok (.iconst 0, 1)) rfl ?_
      refine pr_istore hC (by decide +kernel : decode cX12_crews 109 = .ok (.istore 5, 2)) (by decide) rfl ?_
      obtain ⟨n_24, H⟩ := H
      refine pv_sub [some (.ref (Y.2.1 o)), some (.int a1), some (.int a2), some (.int a3), some (.int r_11), some (.int 0), none] (And.intro rfl (And.intro rfl (And.intro rfl (And.intro rfl (And.intro rfl (And.intro rfl trivial)))))) ?_
      refine tl_X12_crews_L111 _ _ _ _ _ _ _ _ ho hrec hD hC hM hR (fun U_23 h H hU => ?_) n_24 _ U_10 h hU H
      exact pv_vret hM (by decide +kernel : decode cX12_crews 189 = .ok (.return_, 1)) hU H
    replace H := H.2 c_82
    refine pr_aload_n hC (by decide +kernel : decode cX12_crews 85 = .ok (.aload_n 0, 1)) rfl ?_
    refine pu_g1 hC fg_X12_93 (by decide +kernel : decode cX12_crews 86 = .ok (.getfield 93, 3)) hU ho (by decide) rfl (by decide) ?_
    refine pr_iload_n hC (by decide +kernel : decode cX12_crews 89 = .ok (.iload_n 2, 1)) rfl ?_
    refine pr_aload_n hC (by decide +kernel : decode cX12_crews 90 = .ok (.aload_n 0, 1)) rfl ?_
    refine pu_g1 hC fg_X12_59 (by decide +kernel : decode cX12_crews 91 = .ok (.getfield 59, 3)) hU ho (by decide) rfl (by decide) ?_
    refine pr_iload hC (by decide +kernel : decode cX12_crews 94 = .ok (.iload 4, 2)) rfl ?_
    refine pu_iald hC (by decide +kernel : decode cX12_crews 96 = .ok (.iaload, 1)) hU ho rfl H.1 ?_
    replace H := H.2
    refine pv_iast hC (by decide +kernel : decode cX12_crews 97 = .ok (.iastore, 1)) hU ho rfl H.1 (fun U_25 h e_U_25 hU => ?_)
    replace H := H.2 U_25 e_U_25
    refine pr_aload_n hC (by decide +kernel : decode cX12_crews 98 = .ok (.aload_n 0, 1)) rfl ?_
    refine pr_iload_n hC (by decide +kernel : decode cX12_crews 99 = .ok (.iload_n 1, 1)) rfl ?_
    refine pr_iload_n hC (by decide +kernel : decode cX12_crews 100 = .ok (.iload_n 2, 1)) rfl ?_
    refine pr_iconst hC (1) (by decide +kernel : decode cX12_crews 101 = .ok (.iconst 1, 1)) rfl ?_
    refine pr_iadd hC (by decide +kernel : decode cX12_crews 102 = .ok (.iadd, 1)) ?_
    refine pr_iload_n hC (by decide +kernel : decode cX12_crews 103 = .ok (.iload_n 3, 1)) rfl ?_
    refine vc_Vv hC hR [.int a1, .int (a2 + 1), .int a3] fv_X12_482 (by decide +kernel : decode cX12_crews 104 = .ok (.invokevirtual 482, 3)) hU (hrec _ _ _ _ _ _ _ ho H) ho (by decide) rfl rfl rfl (Nat.le_of_ble_eq_true rfl) (by omega) (Nat.le_refl 0) (Nat.le_refl 0) (fun U_26 h H hU => ?_)
    exact pv_vret hM (by decide +kernel : decode cX12_crews 107 = .ok (.return_, 1)) hU H
  replace H := H.1 c_8
  refine pr_aload_n hC (by decide +kernel : decode cX12_crews 11 = .ok (.aload_n 0, 1)) rfl ?_
  refine pu_g0 hC fg_X12_475 (by decide +kernel : decode cX12_crews 12 = .ok (.getfield 475, 3)) hU ho (by decide) rfl rfl ?_
  replace H := H (pw X Y.1 (pm_A hh sz) (pm_E X Y.1 hh sz 0 0 (pm_P Y h0 sz (pq_v post))) 27 [some (.ref (Y.2.1 o)), none, none, some (.int a3), none, none, none] [] h sz 0 0) (by
    intro  H
    refine pr_aload_n hC (by decide +kernel : decode cX12_crews 27 = .ok (.aload_n 0, 1)) rfl ?_
    refine pr_iconst hC (1) (by decide +kernel : decode cX12_crews 28 = .ok (.iconst 1, 1)) rfl ?_
    refine pv_p0 hC fp_X12_475 (by decide +kernel : decode cX12_crews 29 = .ok (.putfield 475, 3)) hU ho (by decide) rfl rfl rfl rfl (fun U_4 h e_U_4 hU => ?_)
    replace H := H U_4 e_U_4
    refine pr_aload_n hC (by decide +kernel : decode cX12_crews 32 = .ok (.aload_n 0, 1)) rfl ?_
    refine pr_iload_n hC (by decide +kernel : decode cX12_crews 33 = .ok (.iload_n 3, 1)) rfl ?_
    refine pv_p0 hC fp_X12_479 (by decide +kernel : decode cX12_crews 34 = .ok (.putfield 479, 3)) hU ho (by decide) rfl rfl rfl rfl (fun U_5 h e_U_5 hU => ?_)
    replace H := H U_5 e_U_5
    refine pr_iconst hC (0) (by decide +kernel : decode cX12_crews 37 = .ok (.iconst 0, 1)) rfl ?_
    refine pr_istore hC (by decide +kernel : decode cX12_crews 38 = .ok (.istore 4, 2)) (by decide) rfl ?_
    obtain ⟨n_9, H⟩ := H
    refine pv_sub [some (.ref (Y.2.1 o)), none, none, none, some (.int 0), none, none] (And.intro rfl (And.intro rfl trivial)) ?_
    refine tl_X12_crews_L40 _ _ _ _ ho hrec hD hC hM hR (fun U_8 h H hU => ?_) n_9 _ U_5 h hU H
    exact pv_vret hM (by decide +kernel : decode cX12_crews 66 = .ok (.return_, 1)) hU H)
  refine pr_if_eq hC 27 (by decide +kernel : decode cX12_crews 15 = .ok (.ifCond .eq 12, 3)) (by decide) (fun c_15 => ?_) (fun c_15 => ?_)
  · replace H := H.1 c_15
    exact pv_sub [some (.ref (Y.2.1 o)), none, none, some (.int a3), none, none, none] (And.intro rfl (And.intro rfl trivial)) (H )
  replace H := H.2 c_15
  refine pr_iload_n hC (by decide +kernel : decode cX12_crews 18 = .ok (.iload_n 3, 1)) rfl ?_
  refine pr_aload_n hC (by decide +kernel : decode cX12_crews 19 = .ok (.aload_n 0, 1)) rfl ?_
  refine pu_g0 hC fg_X12_479 (by decide +kernel : decode cX12_crews 20 = .ok (.getfield 479, 3)) hU ho (by decide) rfl rfl ?_
  refine pr_icmp_lt hC 27 (by decide +kernel : decode cX12_crews 23 = .ok (.if_icmp .lt 4, 3)) (by decide) (fun c_23 => ?_) (fun c_23 => ?_)
  · replace H := H.1 c_23
    exact pv_sub [some (.ref (Y.2.1 o)), none, none, some (.int a3), none, none, none] (And.intro rfl (And.intro rfl trivial)) (H )
  replace H := H.2 c_23
  exact pv_vret hM (by decide +kernel : decode cX12_crews 26 = .ok (.return_, 1)) hU H
theorem tn_X12_crews {l : Launch} {Y : px_Y} : ∀ (n_ : Nat) (o : Nat) (a1 : Int32) (a2 : Int32) (a3 : Int32) (U : Um) (post : Um → Prop), oc o = 10 → w_X12_crews n_ o a1 a2 a3 U post → um l Y (5 + 1 * n_) yX12_crews cX12_crews 7 none [.ref (Y.2.1 o), .int a1, .int a2, .int a3] U (pq_v post)
  | 0 => fun _ _ _ _ _ _ _ H => False.elim H
  | n_ + 1 => fun o a1 a2 a3 U post ho H => tb_X12_crews (fun _ => tn_X12_crews n_) (Nat.le_add_right _ _) ho H
theorem t_X12_crews {l : Launch} {Y : px_Y} (n_ : Nat) {o : Nat} {a1 : Int32} {a2 : Int32} {a3 : Int32} {U : Um} {post : Um → Prop} (ho : oc o = 10) (H : w_X12_crews n_ o a1 a2 a3 U post) : um l Y (5 + 1 * n_) yX12_crews cX12_crews 7 none [.ref (Y.2.1 o), .int a1, .int a2, .int a3] U (pq_v post) := tn_X12_crews n_ _ _ _ _ _ _ ho H
def w_X12_crew (o : Nat) (a1 : Int32) (a2 : Int32) (U : Um) (post : Int32 → Um → Prop) : Prop :=
  ∀ (U_1 : Um), U_1 = sI U o 0 0 → w_X12_isGame o a1 U_1 (fun r_3 U_2 => (r_3 = 0 → post (-1) U_2) ∧ (¬ r_3 = 0 → w_X12_isPlayed o a1 U_2 (fun r_5 U_4 => (r_5 = 0 → w_X12_of o a1 7 U_4 (fun r_7 U_6 => w_X12_isIn (Int32.toInt64 a2) 0 (Int32.toInt64 r_7) U_6 (fun r_9 U_8 => (r_9 = 0 → post (-1) U_8) ∧ (¬ r_9 = 0 → ∀ (U_10 : Um), U_10 = sI U_8 o 44 0 → w_X12_crews 4 o a1 0 0 U_10 (fun U_11 => ((uI U_11 o 44) = 0 → post (-1) U_11) ∧ (¬ (uI U_11 o 44) = 0 → (a2 = 0 → post (uI U_11 o 43) U_11) ∧ (¬ a2 = 0 → vp_in (a2 - 1) 3 ∧ post (uA U_11 o 41 (Int32.toNatClampNeg (a2 - 1))) U_11))))))) ∧ (¬ r_5 = 0 → post (-1) U_4))))
set_option maxHeartbeats 4000000 in
theorem t_X12_crew {l : Launch} {Y : px_Y} {o : Nat} {a1 : Int32} {a2 : Int32} {U : Um} {post : Int32 → Um → Prop} (ho : oc o = 10) (H : w_X12_crew o a1 a2 U post) : um l Y 10 yX12_crew cX12_crew 3 (some (.int)) [.ref (Y.2.1 o), .int a1, .int a2] U (pq_i post) := by
  unfold w_X12_crew at H
  refine um_of (by decide) (Nat.le_of_ble_eq_true rfl) [some (.ref (Y.2.1 o)), some (.int a1), some (.int a2)] rfl (fun X h0 hh sz hM hU => ?_)
  have hC := hM.1
  have hR := hM.2.2.1
  refine pr_aload_n hC (by decide +kernel : decode cX12_crew 0 = .ok (.aload_n 0, 1)) rfl ?_
  refine pr_iconst hC (0) (by decide +kernel : decode cX12_crew 1 = .ok (.iconst 0, 1)) rfl ?_
  refine pv_p0 hC fp_X12_121 (by decide +kernel : decode cX12_crew 2 = .ok (.putfield 121, 3)) hU ho (by decide) rfl rfl rfl rfl (fun U_1 h e_U_1 hU => ?_)
  replace H := H U_1 e_U_1
  refine pr_aload_n hC (by decide +kernel : decode cX12_crew 5 = .ok (.aload_n 0, 1)) rfl ?_
  refine pr_iload_n hC (by decide +kernel : decode cX12_crew 6 = .ok (.iload_n 1, 1)) rfl ?_
  refine vc_Vi hC hR [.int a1] fv_X12_350 (by decide +kernel : decode cX12_crew 7 = .ok (.invokevirtual 350, 3)) hU (t_X12_isGame ho H) ho (by decide) rfl rfl rfl (Nat.le_of_ble_eq_true rfl) (Nat.le_of_ble_eq_true rfl) (Nat.le_refl 0) (Nat.le_refl 0) (fun r_3 U_2 h H hU => ?_)
  refine pr_if_eq hC 38 (by decide +kernel : decode cX12_crew 10 = .ok (.ifCond .eq 28, 3)) (by decide) (fun c_10 => ?_) (fun c_10 => ?_)
  · replace H := H.1 c_10
    refine pr_iconst hC (-1) (by decide +kernel : decode cX12_crew 38 = .ok (.iconst (-1), 1)) rfl ?_
    exact pv_iret hM (by decide +kernel : decode cX12_crew 39 = .ok (.ireturn, 1)) hU H
  replace H := H.2 c_10
  refine pr_aload_n hC (by decide +kernel : decode cX12_crew 13 = .ok (.aload_n 0, 1)) rfl ?_
  refine pr_iload_n hC (by decide +kernel : decode cX12_crew 14 = .ok (.iload_n 1, 1)) rfl ?_
  refine vc_Vi hC hR [.int a1] fv_X12_382 (by decide +kernel : decode cX12_crew 15 = .ok (.invokevirtual 382, 3)) hU (t_X12_isPlayed ho H) ho (by decide) rfl rfl rfl (Nat.le_of_ble_eq_true rfl) (Nat.le_of_ble_eq_true rfl) (Nat.le_refl 0) (Nat.le_refl 0) (fun r_5 U_4 h H hU => ?_)
  refine pr_if_ne hC 38 (by decide +kernel : decode cX12_crew 18 = .ok (.ifCond .ne 20, 3)) (by decide) (fun c_18 => ?_) (fun c_18 => ?_)
  · replace H := H.2 c_18
    refine pr_iconst hC (-1) (by decide +kernel : decode cX12_crew 38 = .ok (.iconst (-1), 1)) rfl ?_
    exact pv_iret hM (by decide +kernel : decode cX12_crew 39 = .ok (.ireturn, 1)) hU H
  replace H := H.1 c_18
  refine pr_iload_n hC (by decide +kernel : decode cX12_crew 21 = .ok (.iload_n 2, 1)) rfl ?_
  refine pr_i2l hC (by decide +kernel : decode cX12_crew 22 = .ok (.i2l, 1)) ?_
  refine pr_lconst hC (0) (by decide +kernel : decode cX12_crew 23 = .ok (.lconst 0, 1)) rfl ?_
  refine pr_aload_n hC (by decide +kernel : decode cX12_crew 24 = .ok (.aload_n 0, 1)) rfl ?_
  refine pr_iload_n hC (by decide +kernel : decode cX12_crew 25 = .ok (.iload_n 1, 1)) rfl ?_
  refine pr_bipush hC (7) (by decide +kernel : decode cX12_crew 26 = .ok (.bipush 7, 2)) rfl ?_
  refine vc_Vi hC hR [.int a1, .int 7] fv_X12_353 (by decide +kernel : decode cX12_crew 28 = .ok (.invokevirtual 353, 3)) hU (t_X12_of ho H) ho (by decide) rfl rfl rfl (Nat.le_of_ble_eq_true rfl) (Nat.le_of_ble_eq_true rfl) (Nat.le_refl 0) (Nat.le_refl 0) (fun r_7 U_6 h H hU => ?_)
  refine pr_i2l hC (by decide +kernel : decode cX12_crew 31 = .ok (.i2l, 1)) ?_
  refine vc_Si hC hR [.long (Int32.toInt64 a2), .long 0, .long (Int32.toInt64 r_7)] fv_X12_131 (by decide +kernel : decode cX12_crew 32 = .ok (.invokestatic 131, 3)) hU (t_X12_isIn  H) rfl rfl (Nat.le_of_ble_eq_true rfl) (Nat.le_of_ble_eq_true rfl) (Nat.le_refl 0) (Nat.le_refl 0) (fun r_9 U_8 h H hU => ?_)
  refine pr_if_ne hC 40 (by decide +kernel : decode cX12_crew 35 = .ok (.ifCond .ne 5, 3)) (by decide) (fun c_35 => ?_) (fun c_35 => ?_)
  · replace H := H.2 c_35
    refine pr_aload_n hC (by decide +kernel : decode cX12_crew 40 = .ok (.aload_n 0, 1)) rfl ?_
    refine pr_iconst hC (0) (by decide +kernel : decode cX12_crew 41 = .ok (.iconst 0, 1)) rfl ?_
    refine pv_p0 hC fp_X12_475 (by decide +kernel : decode cX12_crew 42 = .ok (.putfield 475, 3)) hU ho (by decide) rfl rfl rfl rfl (fun U_10 h e_U_10 hU => ?_)
    replace H := H U_10 e_U_10
    refine pr_aload_n hC (by decide +kernel : decode cX12_crew 45 = .ok (.aload_n 0, 1)) rfl ?_
    refine pr_iload_n hC (by decide +kernel : decode cX12_crew 46 = .ok (.iload_n 1, 1)) rfl ?_
    refine pr_iconst hC (0) (by decide +kernel : decode cX12_crew 47 = .ok (.iconst 0, 1)) rfl ?_
    refine pr_iconst hC (0) (by decide +kernel : decode cX12_crew 48 = .ok (.iconst 0, 1)) rfl ?_
    refine vc_Vv hC hR [.int a1, .int 0, .int 0] fv_X12_482 (by decide +kernel : decode cX12_crew 49 = .ok (.invokevirtual 482, 3)) hU (t_X12_crews 4 ho H) ho (by decide) rfl rfl rfl (Nat.le_of_ble_eq_true rfl) (Nat.le_of_ble_eq_true rfl) (Nat.le_refl 0) (Nat.le_refl 0) (fun U_11 h H hU => ?_)
    refine pr_aload_n hC (by decide +kernel : decode cX12_crew 52 = .ok (.aload_n 0, 1)) rfl ?_
    refine pu_g0 hC fg_X12_475 (by decide +kernel : decode cX12_crew 53 = .ok (.getfield 475, 3)) hU ho (by decide) rfl rfl ?_
    refine pr_if_ne hC 63 (by decide +kernel : decode cX12_crew 56 = .ok (.ifCond .ne 7, 3)) (by decide) (fun c_56 => ?_) (fun c_56 => ?_)
    · replace H := H.2 c_56
      refine pr_iload_n hC (by decide +kernel : decode cX12_crew 63 = .ok (.iload_n 2, 1)) rfl ?_
      refine pr_if_ne hC 74 (by decide +kernel : decode cX12_crew 64 = .ok (.ifCond .ne 10, 3)) (by decide) (fun c_64 => ?_) (fun c_64 => ?_)
      · replace H := H.2 c_64
        refine pr_aload_n hC (by decide +kernel : decode cX12_crew 74 = .ok (.aload_n 0, 1)) rfl ?_
        refine pu_g1 hC fg_X12_90 (by decide +kernel : decode cX12_crew 75 = .ok (.getfield 90, 3)) hU ho (by decide) rfl (by decide) ?_
        refine pr_iload_n hC (by decide +kernel : decode cX12_crew 78 = .ok (.iload_n 2, 1)) rfl ?_
        refine pr_iconst hC (1) (by decide +kernel : decode cX12_crew 79 = .ok (.iconst 1, 1)) rfl ?_
        refine pr_isub hC (by decide +kernel : decode cX12_crew 80 = .ok (.isub, 1)) ?_
        refine pu_iald hC (by decide +kernel : decode cX12_crew 81 = .ok (.iaload, 1)) hU ho rfl H.1 ?_
        replace H := H.2
        exact pv_iret hM (by decide +kernel : decode cX12_crew 82 = .ok (.ireturn, 1)) hU H
      replace H := H.1 c_64
      refine pr_aload_n hC (by decide +kernel : decode cX12_crew 67 = .ok (.aload_n 0, 1)) rfl ?_
      refine pu_g0 hC fg_X12_479 (by decide +kernel : decode cX12_crew 68 = .ok (.getfield 479, 3)) hU ho (by decide) rfl rfl ?_
      refine pr_goto hC 82 (by decide +kernel : decode cX12_crew 71 = .ok (.goto 11, 3)) (by decide) ?_
      exact pv_iret hM (by decide +kernel : decode cX12_crew 82 = .ok (.ireturn, 1)) hU H
    replace H := H.1 c_56
    refine pr_iconst hC (-1) (by decide +kernel : decode cX12_crew 59 = .ok (.iconst (-1), 1)) rfl ?_
    refine pr_goto hC 82 (by decide +kernel : decode cX12_crew 60 = .ok (.goto 22, 3)) (by decide) ?_
    exact pv_iret hM (by decide +kernel : decode cX12_crew 82 = .ok (.ireturn, 1)) hU H
  replace H := H.1 c_35
  refine pr_iconst hC (-1) (by decide +kernel : decode cX12_crew 38 = .ok (.iconst (-1), 1)) rfl ?_
  exact pv_iret hM (by decide +kernel : decode cX12_crew 39 = .ok (.ireturn, 1)) hU H
def w_X12_isOpen (o : Nat) (a1 : Int32) (U : Um) (post : Int32 → Um → Prop) : Prop :=
  w_X12_isSeat o (a1 / 3) (a1 - a1 / 3 * 3) U (fun r_2 U_1 => (r_2 = 0 → post 0 U_1) ∧ (¬ r_2 = 0 → vp_in a1 48 ∧ ((uA U_1 o 30 (Int32.toNatClampNeg a1)) = (-1) → w_X12_isPlayed o (a1 / 3) U_1 (fun r_4 U_3 => (r_4 = 0 → w_X12_isLate o (a1 / 3) U_3 (fun r_6 U_5 => (r_6 = 0 → post 1 U_5) ∧ (¬ r_6 = 0 → post 0 U_5))) ∧ (¬ r_4 = 0 → post 0 U_3))) ∧ (¬ (uA U_1 o 30 (Int32.toNatClampNeg a1)) = (-1) → post 0 U_1)))
set_option maxHeartbeats 4000000 in
theorem t_X12_isOpen {l : Launch} {Y : px_Y} {o : Nat} {a1 : Int32} {U : Um} {post : Int32 → Um → Prop} (ho : oc o = 10) (H : w_X12_isOpen o a1 U post) : um l Y 3 yX12_isOpen cX12_isOpen 2 (some (.boolean)) [.ref (Y.2.1 o), .int a1] U (pq_i post) := by
  unfold w_X12_isOpen at H
  refine um_of (by decide) (Nat.le_of_ble_eq_true rfl) [some (.ref (Y.2.1 o)), some (.int a1)] rfl (fun X h0 hh sz hM hU => ?_)
  have hC := hM.1
  have hR := hM.2.2.1
  refine pr_aload_n hC (by decide +kernel : decode cX12_isOpen 0 = .ok (.aload_n 0, 1)) rfl ?_
  refine pr_iload_n hC (by decide +kernel : decode cX12_isOpen 1 = .ok (.iload_n 1, 1)) rfl ?_
  refine pr_iconst hC (3) (by decide +kernel : decode cX12_isOpen 2 = .ok (.iconst 3, 1)) rfl ?_
  refine pr_idiv hC (by decide +kernel : decode cX12_isOpen 3 = .ok (.idiv, 1)) (by decide) ?_
  refine pr_iload_n hC (by decide +kernel : decode cX12_isOpen 4 = .ok (.iload_n 1, 1)) rfl ?_
  refine pr_iconst hC (3) (by decide +kernel : decode cX12_isOpen 5 = .ok (.iconst 3, 1)) rfl ?_
  refine pr_irem hC (by decide +kernel : decode cX12_isOpen 6 = .ok (.irem, 1)) (by decide) ?_
  refine vc_Vi hC hR [.int (a1 / 3), .int (a1 - a1 / 3 * 3)] fv_X12_388 (by decide +kernel : decode cX12_isOpen 7 = .ok (.invokevirtual 388, 3)) hU (t_X12_isSeat ho H) ho (by decide) rfl rfl rfl (Nat.le_of_ble_eq_true rfl) (Nat.le_of_ble_eq_true rfl) (Nat.le_refl 0) (Nat.le_refl 0) (fun r_2 U_1 h H hU => ?_)
  refine pr_if_eq hC 47 (by decide +kernel : decode cX12_isOpen 10 = .ok (.ifCond .eq 37, 3)) (by decide) (fun c_10 => ?_) (fun c_10 => ?_)
  · replace H := H.1 c_10
    refine pr_iconst hC (0) (by decide +kernel : decode cX12_isOpen 47 = .ok (.iconst 0, 1)) rfl ?_
    exact pv_zret hM (by decide +kernel : decode cX12_isOpen 48 = .ok (.ireturn, 1)) (Or.inl rfl) hU H
  replace H := H.2 c_10
  refine pr_aload_n hC (by decide +kernel : decode cX12_isOpen 13 = .ok (.aload_n 0, 1)) rfl ?_
  refine pu_g1 hC fg_X12_59 (by decide +kernel : decode cX12_isOpen 14 = .ok (.getfield 59, 3)) hU ho (by decide) rfl (by decide) ?_
  refine pr_iload_n hC (by decide +kernel : decode cX12_isOpen 17 = .ok (.iload_n 1, 1)) rfl ?_
  refine pu_iald hC (by decide +kernel : decode cX12_isOpen 18 = .ok (.iaload, 1)) hU ho rfl H.1 ?_
  replace H := H.2
  refine pr_iconst hC (-1) (by decide +kernel : decode cX12_isOpen 19 = .ok (.iconst (-1), 1)) rfl ?_
  refine pr_icmp_ne hC 47 (by decide +kernel : decode cX12_isOpen 20 = .ok (.if_icmp .ne 27, 3)) (by decide) (fun c_20 => ?_) (fun c_20 => ?_)
  · replace H := H.2 c_20
    refine pr_iconst hC (0) (by decide +kernel : decode cX12_isOpen 47 = .ok (.iconst 0, 1)) rfl ?_
    exact pv_zret hM (by decide +kernel : decode cX12_isOpen 48 = .ok (.ireturn, 1)) (Or.inl rfl) hU H
  replace H := H.1 c_20
  refine pr_aload_n hC (by decide +kernel : decode cX12_isOpen 23 = .ok (.aload_n 0, 1)) rfl ?_
  refine pr_iload_n hC (by decide +kernel : decode cX12_isOpen 24 = .ok (.iload_n 1, 1)) rfl ?_
  refine pr_iconst hC (3) (by decide +kernel : decode cX12_isOpen 25 = .ok (.iconst 3, 1)) rfl ?_
  refine pr_idiv hC (by decide +kernel : decode cX12_isOpen 26 = .ok (.idiv, 1)) (by decide) ?_
  refine vc_Vi hC hR [.int (a1 / 3)] fv_X12_382 (by decide +kernel : decode cX12_isOpen 27 = .ok (.invokevirtual 382, 3)) hU (t_X12_isPlayed ho H) ho (by decide) rfl rfl rfl (Nat.le_of_ble_eq_true rfl) (Nat.le_of_ble_eq_true rfl) (Nat.le_refl 0) (Nat.le_refl 0) (fun r_4 U_3 h H hU => ?_)
  refine pr_if_ne hC 47 (by decide +kernel : decode cX12_isOpen 30 = .ok (.ifCond .ne 17, 3)) (by decide) (fun c_30 => ?_) (fun c_30 => ?_)
  · replace H := H.2 c_30
    refine pr_iconst hC (0) (by decide +kernel : decode cX12_isOpen 47 = .ok (.iconst 0, 1)) rfl ?_
    exact pv_zret hM (by decide +kernel : decode cX12_isOpen 48 = .ok (.ireturn, 1)) (Or.inl rfl) hU H
  replace H := H.1 c_30
  refine pr_aload_n hC (by decide +kernel : decode cX12_isOpen 33 = .ok (.aload_n 0, 1)) rfl ?_
  refine pr_iload_n hC (by decide +kernel : decode cX12_isOpen 34 = .ok (.iload_n 1, 1)) rfl ?_
  refine pr_iconst hC (3) (by decide +kernel : decode cX12_isOpen 35 = .ok (.iconst 3, 1)) rfl ?_
  refine pr_idiv hC (by decide +kernel : decode cX12_isOpen 36 = .ok (.idiv, 1)) (by decide) ?_
  refine vc_Vi hC hR [.int (a1 / 3)] fv_X12_385 (by decide +kernel : decode cX12_isOpen 37 = .ok (.invokevirtual 385, 3)) hU (t_X12_isLate ho H) ho (by decide) rfl rfl rfl (Nat.le_of_ble_eq_true rfl) (Nat.le_of_ble_eq_true rfl) (Nat.le_refl 0) (Nat.le_refl 0) (fun r_6 U_5 h H hU => ?_)
  refine pr_if_ne hC 47 (by decide +kernel : decode cX12_isOpen 40 = .ok (.ifCond .ne 7, 3)) (by decide) (fun c_40 => ?_) (fun c_40 => ?_)
  · replace H := H.2 c_40
    refine pr_iconst hC (0) (by decide +kernel : decode cX12_isOpen 47 = .ok (.iconst 0, 1)) rfl ?_
    exact pv_zret hM (by decide +kernel : decode cX12_isOpen 48 = .ok (.ireturn, 1)) (Or.inl rfl) hU H
  replace H := H.1 c_40
  refine pr_iconst hC (1) (by decide +kernel : decode cX12_isOpen 43 = .ok (.iconst 1, 1)) rfl ?_
  refine pr_goto hC 48 (by decide +kernel : decode cX12_isOpen 44 = .ok (.goto 4, 3)) (by decide) ?_
  exact pv_zret hM (by decide +kernel : decode cX12_isOpen 48 = .ok (.ireturn, 1)) (Or.inr rfl) hU H
def b_X12_fills_L2 (rec : Nat → Int32 → Um → (Int32 → Um → Prop) → Prop) (o0 : Nat) (post : Int32 → Um → Prop) (k_22 : Int32 → Um → Prop) (rec_ : Int32 → Um → Prop) (x2 : Int32) (U : Um) : Prop :=
  ((48 : Int32) ≤ x2 → k_22 x2 U) ∧ (¬ (48 : Int32) ≤ x2 → w_X12_isOpen o0 x2 U (fun r_3 U_2 => (r_3 = 0 → ∀ (x2_4 : Int32), x2_4 = x2 + 1 → rec_ x2_4 U_2) ∧ (¬ r_3 = 0 → k_22 x2 U_2)))
def w_X12_fills_L2 (rec : Nat → Int32 → Um → (Int32 → Um → Prop) → Prop) (o0 : Nat) (post : Int32 → Um → Prop) (k_22 : Int32 → Um → Prop) (n_ : Nat) : Int32 → Um → Prop := Nat.rec (motive := fun _ => Int32 → Um → Prop) (fun _ _ => False) (fun _ ih => b_X12_fills_L2 rec o0 post k_22 ih) n_
def b_X12_fills_L32 (rec : Nat → Int32 → Um → (Int32 → Um → Prop) → Prop) (o0 : Nat) (x2 : Int32) (post : Int32 → Um → Prop) (k_123 : Um → Prop) (rec_ : Int32 → Um → Prop) (x3 : Int32) (U : Um) : Prop :=
  vp_in 2 14 ∧ ((uA U o0 11 (Int32.toNatClampNeg 2)) ≤ x3 → k_123 U) ∧ (¬ (uA U o0 11 (Int32.toNatClampNeg 2)) ≤ x3 → ((20000 : Int32) < (uI U o0 45) → k_123 U) ∧ (¬ (20000 : Int32) < (uI U o0 45) → w_X12_whyNot o0 (x2 / 3) (x2 - x2 / 3 * 3) x3 U (fun r_8 U_7 => (r_8 = 0 → ∀ (U_9 : Um), U_9 = sI U_7 o0 45 ((uI U_7 o0 45) + 1) → ((uI U_9 o0 45) ≤ 20000 → vp_in x2 48 ∧ ∀ (U_10 : Um), U_10 = sA U_9 o0 30 (va_up (uA U_9 o0 30) (Int32.toNatClampNeg x2) x3) → rec o0 (x2 + 1) U_10 (fun r_12 U_11 => (r_12 = 0 → vp_in x2 48 ∧ ∀ (U_13 : Um), U_13 = sA U_11 o0 30 (va_up (uA U_11 o0 30) (Int32.toNatClampNeg x2) (-1)) → ∀ (x3_14 : Int32), x3_14 = x3 + 1 → rec_ x3_14 U_13) ∧ (¬ r_12 = 0 → post 1 U_11))) ∧ (¬ (uI U_9 o0 45) ≤ 20000 → post 0 U_9)) ∧ (¬ r_8 = 0 → ∀ (x3_15 : Int32), x3_15 = x3 + 1 → rec_ x3_15 U_7))))
def w_X12_fills_L32 (rec : Nat → Int32 → Um → (Int32 → Um → Prop) → Prop) (o0 : Nat) (x2 : Int32) (post : Int32 → Um → Prop) (k_123 : Um → Prop) (n_ : Nat) : Int32 → Um → Prop := Nat.rec (motive := fun _ => Int32 → Um → Prop) (fun _ _ => False) (fun _ ih => b_X12_fills_L32 rec o0 x2 post k_123 ih) n_
def b_X12_fills (rec : Nat → Int32 → Um → (Int32 → Um → Prop) → Prop) (o : Nat) (a1 : Int32) (U : Um) (post : Int32 → Um → Prop) : Prop :=
  ∀ (x2_1 : Int32), x2_1 = a1 → (∃ n_18, w_X12_fills_L2 rec o post (fun x2_5 U_6 => (x2_5 = 48 → post 1 U_6) ∧ (¬ x2_5 = 48 → (∃ n_17, w_X12_fills_L32 rec o x2_5 post (fun U_16 => post 0 U_16) n_17 0 U_6))) n_18 x2_1 U)
def w_X12_fills (n_ : Nat) : Nat → Int32 → Um → (Int32 → Um → Prop) → Prop := Nat.rec (motive := fun _ => Nat → Int32 → Um → (Int32 → Um → Prop) → Prop) (fun _ _ _ _ => False) (fun _ ih => b_X12_fills ih) n_
set_option maxHeartbeats 4000000 in
theorem tl_X12_fills_L2 {l : Launch} {Y : px_Y} {X : px_X} {h0 hh : pe_H} {sz : Nat} {dd : Nat} (rec : Nat → Int32 → Um → (Int32 → Um → Prop) → Prop) (o0 : Nat) (post : Int32 → Um → Prop) (k_22 : Int32 → Um → Prop) (ho0 : oc o0 = 10) (hrec : ∀ (l : Launch) (o : Nat) (a0 : Int32) (U : Um) (post : Int32 → Um → Prop), oc o = 10 → rec o a0 U post → um l Y dd yX12_fills cX12_fills 4 (some (.boolean)) [.ref (Y.2.1 o), .int a0] U (pq_i post)) (hD : 5 ≤ dd) (hC : px_C X Y.1 (pm_A hh sz) cX12_fills RX12 4) (hM : px_M l X Y.1 hh sz yX12_fills cX12_fills 4 (some (.boolean)) (dd + 1) 0 0) (hR : X.2.2.2.1 = pm_rm (dd + 1) 0 0) (hk_22 : ∀ (y2 : Int32) (U : Um) (h : pe_H), k_22 y2 U → rF Y h0 U h → pw X Y.1 (pm_A hh sz) (pm_E X Y.1 hh sz 0 0 (pm_P Y h0 sz (pq_i post))) 22 [some (.ref (Y.2.1 o0)), none, some (.int y2), none] [] h sz 0 0) : ∀ (n_ : Nat) (x2 : Int32) (U : Um) (h : pe_H), rF Y h0 U h → w_X12_fills_L2 rec o0 post k_22 n_ x2 U → pw X Y.1 (pm_A hh sz) (pm_E X Y.1 hh sz 0 0 (pm_P Y h0 sz (pq_i post))) 2 [some (.ref (Y.2.1 o0)), none, some (.int x2), none] [] h sz 0 0 := by
  intro n_
  induction n_ with
  | zero => intro x2 U h hU H; exact False.elim H
  | succ n_ ih =>
    intro x2 U h hU H
    replace H : b_X12_fills_L2 rec o0 post k_22 (w_X12_fills_L2 rec o0 post k_22 n_) x2 U := H
    unfold b_X12_fills_L2 at H
    refine pr_iload_n hC (by decide +kernel : decode cX12_fills 2 = .ok (.iload_n 2, 1)) rfl ?_
    refine pr_bipush hC (48) (by decide +kernel : decode cX12_fills 3 = .ok (.bipush 48, 2)) rfl ?_
    refine pr_icmp_ge hC 22 (by decide +kernel : decode cX12_fills 5 = .ok (.if_icmp .ge 17, 3)) (by decide) (fun c_5 => ?_) (fun c_5 => ?_)
    · replace H := H.1 c_5
      exact pv_sub [some (.ref (Y.2.1 o0)), none, some (.int x2), none] (And.intro rfl (And.intro rfl trivial)) (hk_22 _ U h H hU)
    replace H := H.2 c_5
    refine pr_aload_n hC (by decide +kernel : decode cX12_fills 8 = .ok (.aload_n 0, 1)) rfl ?_
    refine pr_iload_n hC (by decide +kernel : decode cX12_fills 9 = .ok (.iload_n 2, 1)) rfl ?_
    refine vc_Vi hC hR [.int x2] fv_X12_486 (by decide +kernel : decode cX12_fills 10 = .ok (.invokevirtual 486, 3)) hU (t_X12_isOpen ho0 H) ho0 (by decide) rfl rfl rfl (Nat.le_of_ble_eq_true rfl) (by omega) (Nat.le_refl 0) (Nat.le_refl 0) (fun r_3 U_2 h H hU => ?_)
    refine pr_if_ne hC 22 (by decide +kernel : decode cX12_fills 13 = .ok (.ifCond .ne 9, 3)) (by decide) (fun c_13 => ?_) (fun c_13 => ?_)
    · replace H := H.2 c_13
      exact pv_sub [some (.ref (Y.2.1 o0)), none, some (.int x2), none] (And.intro rfl (And.intro rfl trivial)) (hk_22 _ U_2 h H hU)
    replace H := H.1 c_13
    refine pv_iinc hC (v := x2 + 1) (by decide +kernel : decode cX12_fills 16 = .ok (.iinc 2 1, 3)) rfl (by decide) rfl rfl (fun x2_4 e_x2_4 => ?_)
    replace H := H x2_4 e_x2_4
    refine pr_goto hC 2 (by decide +kernel : decode cX12_fills 19 = .ok (.goto (-17), 3)) (by decide) ?_
    exact pv_sub [some (.ref (Y.2.1 o0)), none, some (.int x2_4), none] (And.intro rfl (And.intro rfl trivial)) (ih _ U_2 h hU H)
set_option maxHeartbeats 4000000 in
theorem tl_X12_fills_L32 {l : Launch} {Y : px_Y} {X : px_X} {h0 hh : pe_H} {sz : Nat} {dd : Nat} (rec : Nat → Int32 → Um → (Int32 → Um → Prop) → Prop) (o0 : Nat) (x2 : Int32) (post : Int32 → Um → Prop) (k_123 : Um → Prop) (ho0 : oc o0 = 10) (hrec : ∀ (l : Launch) (o : Nat) (a0 : Int32) (U : Um) (post : Int32 → Um → Prop), oc o = 10 → rec o a0 U post → um l Y dd yX12_fills cX12_fills 4 (some (.boolean)) [.ref (Y.2.1 o), .int a0] U (pq_i post)) (hD : 5 ≤ dd) (hC : px_C X Y.1 (pm_A hh sz) cX12_fills RX12 4) (hM : px_M l X Y.1 hh sz yX12_fills cX12_fills 4 (some (.boolean)) (dd + 1) 0 0) (hR : X.2.2.2.1 = pm_rm (dd + 1) 0 0) (hk_123 : ∀ (U : Um) (h : pe_H), k_123 U → rF Y h0 U h → pw X Y.1 (pm_A hh sz) (pm_E X Y.1 hh sz 0 0 (pm_P Y h0 sz (pq_i post))) 123 [none, none, none, none] [] h sz 0 0) : ∀ (n_ : Nat) (x3 : Int32) (U : Um) (h : pe_H), rF Y h0 U h → w_X12_fills_L32 rec o0 x2 post k_123 n_ x3 U → pw X Y.1 (pm_A hh sz) (pm_E X Y.1 hh sz 0 0 (pm_P Y h0 sz (pq_i post))) 32 [some (.ref (Y.2.1 o0)), none, some (.int x2), some (.int x3)] [] h sz 0 0 := by
  intro n_
  induction n_ with
  | zero => intro x3 U h hU H; exact False.elim H
  | succ n_ ih =>
    intro x3 U h hU H
    replace H : b_X12_fills_L32 rec o0 x2 post k_123 (w_X12_fills_L32 rec o0 x2 post k_123 n_) x3 U := H
    unfold b_X12_fills_L32 at H
    refine pr_iload_n hC (by decide +kernel : decode cX12_fills 32 = .ok (.iload_n 3, 1)) rfl ?_
    refine pr_aload_n hC (by decide +kernel : decode cX12_fills 33 = .ok (.aload_n 0, 1)) rfl ?_
    refine pu_g1 hC fg_X12_43 (by decide +kernel : decode cX12_fills 34 = .ok (.getfield 43, 3)) hU ho0 (by decide) rfl (by decide) ?_
    refine pr_iconst hC (2) (by decide +kernel : decode cX12_fills 37 = .ok (.iconst 2, 1)) rfl ?_
    refine pu_iald hC (by decide +kernel : decode cX12_fills 38 = .ok (.iaload, 1)) hU ho0 rfl H.1 ?_
    replace H := H.2
    refine pr_icmp_ge hC 123 (by decide +kernel : decode cX12_fills 39 = .ok (.if_icmp .ge 84, 3)) (by decide) (fun c_39 => ?_) (fun c_39 => ?_)
    · replace H := H.1 c_39
      exact pv_sub [none, none, none, none] (trivial) (hk_123 U h H hU)
    replace H := H.2 c_39
    refine pr_aload_n hC (by decide +kernel : decode cX12_fills 42 = .ok (.aload_n 0, 1)) rfl ?_
    refine pu_g0 hC fg_X12_489 (by decide +kernel : decode cX12_fills 43 = .ok (.getfield 489, 3)) hU ho0 (by decide) rfl rfl ?_
    refine pr_sipush hC (20000) (by decide +kernel : decode cX12_fills 46 = .ok (.sipush 20000, 3)) rfl ?_
    refine pr_icmp_gt hC 123 (by decide +kernel : decode cX12_fills 49 = .ok (.if_icmp .gt 74, 3)) (by decide) (fun c_49 => ?_) (fun c_49 => ?_)
    · replace H := H.1 c_49
      exact pv_sub [none, none, none, none] (trivial) (hk_123 U h H hU)
    replace H := H.2 c_49
    refine pr_aload_n hC (by decide +kernel : decode cX12_fills 52 = .ok (.aload_n 0, 1)) rfl ?_
    refine pr_iload_n hC (by decide +kernel : decode cX12_fills 53 = .ok (.iload_n 2, 1)) rfl ?_
    refine pr_iconst hC (3) (by decide +kernel : decode cX12_fills 54 = .ok (.iconst 3, 1)) rfl ?_
    refine pr_idiv hC (by decide +kernel : decode cX12_fills 55 = .ok (.idiv, 1)) (by decide) ?_
    refine pr_iload_n hC (by decide +kernel : decode cX12_fills 56 = .ok (.iload_n 2, 1)) rfl ?_
    refine pr_iconst hC (3) (by decide +kernel : decode cX12_fills 57 = .ok (.iconst 3, 1)) rfl ?_
    refine pr_irem hC (by decide +kernel : decode cX12_fills 58 = .ok (.irem, 1)) (by decide) ?_
    refine pr_iload_n hC (by decide +kernel : decode cX12_fills 59 = .ok (.iload_n 3, 1)) rfl ?_
    refine vc_Vi hC hR [.int (x2 / 3), .int (x2 - x2 / 3 * 3), .int x3] fv_X12_423 (by decide +kernel : decode cX12_fills 60 = .ok (.invokevirtual 423, 3)) hU (t_X12_whyNot ho0 H) ho0 (by decide) rfl rfl rfl (Nat.le_of_ble_eq_true rfl) (by omega) (Nat.le_refl 0) (Nat.le_refl 0) (fun r_8 U_7 h H hU => ?_)
    refine pr_if_eq hC 69 (by decide +kernel : decode cX12_fills 63 = .ok (.ifCond .eq 6, 3)) (by decide) (fun c_63 => ?_) (fun c_63 => ?_)
    · replace H := H.1 c_63
      refine pr_aload_n hC (by decide +kernel : decode cX12_fills 69 = .ok (.aload_n 0, 1)) rfl ?_
      refine pr_dup hC (by decide +kernel : decode cX12_fills 70 = .ok (.dup, 1)) rfl ?_
      refine pu_g0 hC fg_X12_489 (by decide +kernel : decode cX12_fills 71 = .ok (.getfield 489, 3)) hU ho0 (by decide) rfl rfl ?_
      refine pr_iconst hC (1) (by decide +kernel : decode cX12_fills 74 = .ok (.iconst 1, 1)) rfl ?_
      refine pr_iadd hC (by decide +kernel : decode cX12_fills 75 = .ok (.iadd, 1)) ?_
      refine pv_p0 hC fp_X12_489 (by decide +kernel : decode cX12_fills 76 = .ok (.putfield 489, 3)) hU ho0 (by decide) rfl rfl rfl rfl (fun U_9 h e_U_9 hU => ?_)
      replace H := H U_9 e_U_9
      refine pr_aload_n hC (by decide +kernel : decode cX12_fills 79 = .ok (.aload_n 0, 1)) rfl ?_
      refine pu_g0 hC fg_X12_489 (by decide +kernel : decode cX12_fills 80 = .ok (.getfield 489, 3)) hU ho0 (by decide) rfl rfl ?_
      refine pr_sipush hC (20000) (by decide +kernel : decode cX12_fills 83 = .ok (.sipush 20000, 3)) rfl ?_
      refine pr_icmp_le hC 91 (by decide +kernel : decode cX12_fills 86 = .ok (.if_icmp .le 5, 3)) (by decide) (fun c_86 => ?_) (fun c_86 => ?_)
      · replace H := H.1 c_86
        refine pr_aload_n hC (by decide +kernel : decode cX12_fills 91 = .ok (.aload_n 0, 1)) rfl ?_
        refine pu_g1 hC fg_X12_59 (by decide +kernel : decode cX12_fills 92 = .ok (.getfield 59, 3)) hU ho0 (by decide) rfl (by decide) ?_
        refine pr_iload_n hC (by decide +kernel : decode cX12_fills 95 = .ok (.iload_n 2, 1)) rfl ?_
        refine pr_iload_n hC (by decide +kernel : decode cX12_fills 96 = .ok (.iload_n 3, 1)) rfl ?_
        refine pv_iast hC (by decide +kernel : decode cX12_fills 97 = .ok (.iastore, 1)) hU ho0 rfl H.1 (fun U_10 h e_U_10 hU => ?_)
        replace H := H.2 U_10 e_U_10
        refine pr_aload_n hC (by decide +kernel : decode cX12_fills 98 = .ok (.aload_n 0, 1)) rfl ?_
        refine pr_iload_n hC (by decide +kernel : decode cX12_fills 99 = .ok (.iload_n 2, 1)) rfl ?_
        refine pr_iconst hC (1) (by decide +kernel : decode cX12_fills 100 = .ok (.iconst 1, 1)) rfl ?_
        refine pr_iadd hC (by decide +kernel : decode cX12_fills 101 = .ok (.iadd, 1)) ?_
        refine vc_Vi hC hR [.int (x2 + 1)] fv_X12_492 (by decide +kernel : decode cX12_fills 102 = .ok (.invokevirtual 492, 3)) hU (hrec _ _ _ _ _ ho0 H) ho0 (by decide) rfl rfl rfl (Nat.le_of_ble_eq_true rfl) (by omega) (Nat.le_refl 0) (Nat.le_refl 0) (fun r_12 U_11 h H hU => ?_)
        refine pr_if_eq hC 110 (by decide +kernel : decode cX12_fills 105 = .ok (.ifCond .eq 5, 3)) (by decide) (fun c_105 => ?_) (fun c_105 => ?_)
        · replace H := H.1 c_105
          refine pr_aload_n hC (by decide +kernel : decode cX12_fills 110 = .ok (.aload_n 0, 1)) rfl ?_
          refine pu_g1 hC fg_X12_59 (by decide +kernel : decode cX12_fills 111 = .ok (.getfield 59, 3)) hU ho0 (by decide) rfl (by decide) ?_
          refine pr_iload_n hC (by decide +kernel : decode cX12_fills 114 = .ok (.iload_n 2, 1)) rfl ?_
          refine pr_iconst hC (-1) (by decide +kernel : decode cX12_fills 115 = .ok (.iconst (-1), 1)) rfl ?_
          refine pv_iast hC (by decide +kernel : decode cX12_fills 116 = .ok (.iastore, 1)) hU ho0 rfl H.1 (fun U_13 h e_U_13 hU => ?_)
          replace H := H.2 U_13 e_U_13
          refine pv_iinc hC (v := x3 + 1) (by decide +kernel : decode cX12_fills 117 = .ok (.iinc 3 1, 3)) rfl (by decide) rfl rfl (fun x3_14 e_x3_14 => ?_)
          replace H := H x3_14 e_x3_14
          refine pr_goto hC 32 (by decide +kernel : decode cX12_fills 120 = .ok (.goto (-88), 3)) (by decide) ?_
          exact pv_sub [some (.ref (Y.2.1 o0)), none, some (.int x2), some (.int x3_14)] (And.intro rfl (And.intro rfl (And.intro rfl trivial))) (ih _ U_13 h hU H)
        replace H := H.2 c_105
        refine pr_iconst hC (1) (by decide +kernel : decode cX12_fills 108 = .ok (.iconst 1, 1)) rfl ?_
        exact pv_zret hM (by decide +kernel : decode cX12_fills 109 = .ok (.ireturn, 1)) (Or.inr rfl) hU H
      replace H := H.2 c_86
      refine pr_iconst hC (0) (by decide +kernel : decode cX12_fills 89 = .ok (.iconst 0, 1)) rfl ?_
      exact pv_zret hM (by decide +kernel : decode cX12_fills 90 = .ok (.ireturn, 1)) (Or.inl rfl) hU H
    replace H := H.2 c_63
    refine pr_goto hC 117 (by decide +kernel : decode cX12_fills 66 = .ok (.goto 51, 3)) (by decide) ?_
    refine pv_iinc hC (v := x3 + 1) (by decide +kernel : decode cX12_fills 117 = .ok (.iinc 3 1, 3)) rfl (by decide) rfl rfl (fun x3_15 e_x3_15 => ?_)
    replace H := H x3_15 e_x3_15
    refine pr_goto hC 32 (by decide +kernel : decode cX12_fills 120 = .ok (.goto (-88), 3)) (by decide) ?_
    exact pv_sub [some (.ref (Y.2.1 o0)), none, some (.int x2), some (.int x3_15)] (And.intro rfl (And.intro rfl (And.intro rfl trivial))) (ih _ U_7 h hU H)
set_option maxHeartbeats 4000000 in
theorem tb_X12_fills {l : Launch} {Y : px_Y} {dd : Nat} {rec : Nat → Int32 → Um → (Int32 → Um → Prop) → Prop} (hrec : ∀ (l : Launch) (o : Nat) (a0 : Int32) (U : Um) (post : Int32 → Um → Prop), oc o = 10 → rec o a0 U post → um l Y dd yX12_fills cX12_fills 4 (some (.boolean)) [.ref (Y.2.1 o), .int a0] U (pq_i post)) (hD : 5 ≤ dd) {o : Nat} {a1 : Int32} {U : Um} {post : Int32 → Um → Prop} (ho : oc o = 10) (H : b_X12_fills rec o a1 U post) : um l Y (dd + 1) yX12_fills cX12_fills 4 (some (.boolean)) [.ref (Y.2.1 o), .int a1] U (pq_i post) := by
  unfold b_X12_fills at H
  refine um_of (by decide) (Nat.le_of_ble_eq_true rfl) [some (.ref (Y.2.1 o)), some (.int a1), none, none] rfl (fun X h0 hh sz hM hU => ?_)
  have hC := hM.1
  have hR := hM.2.2.1
  refine pr_iload_n hC (by decide +kernel : decode cX12_fills 0 = .ok (.iload_n 1, 1)) rfl ?_
  refine pv_topi (fun x2_1 e_x2_1 => ?_)
  replace H := H x2_1 e_x2_1
  refine pr_istore_n hC (by decide +kernel : decode cX12_fills 1 = .ok (.istore_n 2, 1)) (by decide) rfl ?_
  obtain ⟨n_18, H⟩ := H
  refine pv_sub [some (.ref (Y.2.1 o)), none, some (.int x2_1), none] (And.intro rfl (And.intro rfl trivial)) ?_
  refine tl_X12_fills_L2 _ _ _ _ ho hrec hD hC hM hR (fun x2_5 U_6 h H hU => ?_) n_18 _ U hh hU H
  refine pr_iload_n hC (by decide +kernel : decode cX12_fills 22 = .ok (.iload_n 2, 1)) rfl ?_
  refine pr_bipush hC (48) (by decide +kernel : decode cX12_fills 23 = .ok (.bipush 48, 2)) rfl ?_
  refine pr_icmp_ne hC 30 (by decide +kernel : decode cX12_fills 25 = .ok (.if_icmp .ne 5, 3)) (by decide) (fun c_25 => ?_) (fun c_25 => ?_)
  · replace H := H.2 c_25
    refine pr_iconst hC (0) (by decide +kernel : decode cX12_fills 30 = .ok (.iconst 0, 1)) rfl ?_
    refine pr_istore_n hC (by decide +kernel : decode cX12_fills 31 = .ok (.istore_n 3, 1)) (by decide) rfl ?_
    obtain ⟨n_17, H⟩ := H
    refine pv_sub [some (.ref (Y.2.1 o)), none, some (.int x2_5), some (.int 0)] (And.intro rfl (And.intro rfl (And.intro rfl trivial))) ?_
    refine tl_X12_fills_L32 _ _ _ _ _ ho hrec hD hC hM hR (fun U_16 h H hU => ?_) n_17 _ U_6 h hU H
    refine pr_iconst hC (0) (by decide +kernel : decode cX12_fills 123 = .ok (.iconst 0, 1)) rfl ?_
    exact pv_zret hM (by decide +kernel : decode cX12_fills 124 = .ok (.ireturn, 1)) (Or.inl rfl) hU H
  replace H := H.1 c_25
  refine pr_iconst hC (1) (by decide +kernel : decode cX12_fills 28 = .ok (.iconst 1, 1)) rfl ?_
  exact pv_zret hM (by decide +kernel : decode cX12_fills 29 = .ok (.ireturn, 1)) (Or.inr rfl) hU H
theorem tn_X12_fills {l : Launch} {Y : px_Y} : ∀ (n_ : Nat) (o : Nat) (a1 : Int32) (U : Um) (post : Int32 → Um → Prop), oc o = 10 → w_X12_fills n_ o a1 U post → um l Y (5 + 1 * n_) yX12_fills cX12_fills 4 (some (.boolean)) [.ref (Y.2.1 o), .int a1] U (pq_i post)
  | 0 => fun _ _ _ _ _ H => False.elim H
  | n_ + 1 => fun o a1 U post ho H => tb_X12_fills (fun _ => tn_X12_fills n_) (Nat.le_add_right _ _) ho H
theorem t_X12_fills {l : Launch} {Y : px_Y} (n_ : Nat) {o : Nat} {a1 : Int32} {U : Um} {post : Int32 → Um → Prop} (ho : oc o = 10) (H : w_X12_fills n_ o a1 U post) : um l Y (5 + 1 * n_) yX12_fills cX12_fills 4 (some (.boolean)) [.ref (Y.2.1 o), .int a1] U (pq_i post) := tn_X12_fills n_ _ _ _ _ ho H
def b_X12_fill_L9 (o0 : Nat) (post : Int32 → Um → Prop) (k_44 : Int32 → Um → Prop) (rec_ : Int32 → Int32 → Um → Prop) (x1 : Int32) (x2 : Int32) (U : Um) : Prop :=
  ((48 : Int32) ≤ x2 → k_44 x1 U) ∧ (¬ (48 : Int32) ≤ x2 → w_X12_isOpen o0 x2 U (fun r_3 U_2 => w_X12_one r_3 U_2 (fun r_5 U_4 => ∀ (x1_6 : Int32), x1_6 = x1 + r_5 → vp_in x2 48 ∧ vp_in x2 48 ∧ ∀ (U_7 : Um), U_7 = sA U_4 o0 46 (va_up (uA U_4 o0 46) (Int32.toNatClampNeg x2) (uA U_4 o0 30 (Int32.toNatClampNeg x2))) → ∀ (x2_8 : Int32), x2_8 = x2 + 1 → rec_ x1_6 x2_8 U_7)))
def w_X12_fill_L9 (o0 : Nat) (post : Int32 → Um → Prop) (k_44 : Int32 → Um → Prop) (n_ : Nat) : Int32 → Int32 → Um → Prop := Nat.rec (motive := fun _ => Int32 → Int32 → Um → Prop) (fun _ _ _ => False) (fun _ ih => b_X12_fill_L9 o0 post k_44 ih) n_
def b_X12_fill_L149 (o0 : Nat) (post : Int32 → Um → Prop) (k_173 : Um → Prop) (rec_ : Int32 → Um → Prop) (x2 : Int32) (U : Um) : Prop :=
  ((48 : Int32) ≤ x2 → k_173 U) ∧ (¬ (48 : Int32) ≤ x2 → vp_in x2 48 ∧ vp_in x2 48 ∧ ∀ (U_14 : Um), U_14 = sA U o0 30 (va_up (uA U o0 30) (Int32.toNatClampNeg x2) (uA U o0 46 (Int32.toNatClampNeg x2))) → ∀ (x2_15 : Int32), x2_15 = x2 + 1 → rec_ x2_15 U_14)
def w_X12_fill_L149 (o0 : Nat) (post : Int32 → Um → Prop) (k_173 : Um → Prop) (n_ : Nat) : Int32 → Um → Prop := Nat.rec (motive := fun _ => Int32 → Um → Prop) (fun _ _ => False) (fun _ ih => b_X12_fill_L149 o0 post k_173 ih) n_
def b_X12_fill_L65 (o0 : Nat) (x1 : Int32) (post : Int32 → Um → Prop) (k_89 : Um → Prop) (rec_ : Int32 → Um → Prop) (x2 : Int32) (U : Um) : Prop :=
  ((48 : Int32) ≤ x2 → k_89 U) ∧ (¬ (48 : Int32) ≤ x2 → vp_in x2 48 ∧ vp_in x2 48 ∧ ∀ (U_18 : Um), U_18 = sA U o0 47 (va_up (uA U o0 47) (Int32.toNatClampNeg x2) (uA U o0 30 (Int32.toNatClampNeg x2))) → ∀ (x2_19 : Int32), x2_19 = x2 + 1 → rec_ x2_19 U_18)
def w_X12_fill_L65 (o0 : Nat) (x1 : Int32) (post : Int32 → Um → Prop) (k_89 : Um → Prop) (n_ : Nat) : Int32 → Um → Prop := Nat.rec (motive := fun _ => Int32 → Um → Prop) (fun _ _ => False) (fun _ ih => b_X12_fill_L65 o0 x1 post k_89 ih) n_
def b_X12_fill_L91 (o0 : Nat) (x1 : Int32) (post : Int32 → Um → Prop) (k_115 : Um → Prop) (rec_ : Int32 → Um → Prop) (x2 : Int32) (U : Um) : Prop :=
  ((48 : Int32) ≤ x2 → k_115 U) ∧ (¬ (48 : Int32) ≤ x2 → vp_in x2 48 ∧ vp_in x2 48 ∧ ∀ (U_21 : Um), U_21 = sA U o0 30 (va_up (uA U o0 30) (Int32.toNatClampNeg x2) (uA U o0 46 (Int32.toNatClampNeg x2))) → ∀ (x2_22 : Int32), x2_22 = x2 + 1 → rec_ x2_22 U_21)
def w_X12_fill_L91 (o0 : Nat) (x1 : Int32) (post : Int32 → Um → Prop) (k_115 : Um → Prop) (n_ : Nat) : Int32 → Um → Prop := Nat.rec (motive := fun _ => Int32 → Um → Prop) (fun _ _ => False) (fun _ ih => b_X12_fill_L91 o0 x1 post k_115 ih) n_
def b_X12_fill_L121 (o0 : Nat) (x1 : Int32) (post : Int32 → Um → Prop) (k_145 : Um → Prop) (rec_ : Int32 → Um → Prop) (x2 : Int32) (U : Um) : Prop :=
  ((48 : Int32) ≤ x2 → k_145 U) ∧ (¬ (48 : Int32) ≤ x2 → vp_in x2 48 ∧ vp_in x2 48 ∧ ∀ (U_26 : Um), U_26 = sA U o0 30 (va_up (uA U o0 30) (Int32.toNatClampNeg x2) (uA U o0 47 (Int32.toNatClampNeg x2))) → ∀ (x2_27 : Int32), x2_27 = x2 + 1 → rec_ x2_27 U_26)
def w_X12_fill_L121 (o0 : Nat) (x1 : Int32) (post : Int32 → Um → Prop) (k_145 : Um → Prop) (n_ : Nat) : Int32 → Um → Prop := Nat.rec (motive := fun _ => Int32 → Um → Prop) (fun _ _ => False) (fun _ ih => b_X12_fill_L121 o0 x1 post k_145 ih) n_
def w_X12_fill (o : Nat) (U : Um) (post : Int32 → Um → Prop) : Prop :=
  ∀ (U_1 : Um), U_1 = sI U o 0 0 → (∃ n_32, w_X12_fill_L9 o post (fun x1_9 U_10 => (x1_9 = 0 → post 0 U_10) ∧ (¬ x1_9 = 0 → ∀ (U_11 : Um), U_11 = sI U_10 o 45 0 → w_X12_fills 49 o 0 U_11 (fun r_13 U_12 => (r_13 = 0 → (∃ n_17, w_X12_fill_L149 o post (fun U_16 => ((uI U_16 o 45) ≤ 20000 → post (-1) U_16) ∧ (¬ (uI U_16 o 45) ≤ 20000 → post (-2) U_16)) n_17 0 U_12)) ∧ (¬ r_13 = 0 → (∃ n_31, w_X12_fill_L65 o x1_9 post (fun U_20 => (∃ n_30, w_X12_fill_L91 o x1_9 post (fun U_23 => w_X12_keeps o U_23 (fun U_24 => (∃ n_29, w_X12_fill_L121 o x1_9 post (fun U_28 => post x1_9 U_28) n_29 0 U_24))) n_30 0 U_20)) n_31 0 U_12))))) n_32 0 0 U_1)
set_option maxHeartbeats 4000000 in
theorem tl_X12_fill_L9 {l : Launch} {Y : px_Y} {X : px_X} {h0 hh : pe_H} {sz : Nat} (o0 : Nat) (post : Int32 → Um → Prop) (k_44 : Int32 → Um → Prop) (ho0 : oc o0 = 10)  (hC : px_C X Y.1 (pm_A hh sz) cX12_fill RX12 3) (hM : px_M l X Y.1 hh sz yX12_fill cX12_fill 3 (some (.int)) 55 0 0) (hR : X.2.2.2.1 = pm_rm 55 0 0) (hk_44 : ∀ (y1 : Int32) (U : Um) (h : pe_H), k_44 y1 U → rF Y h0 U h → pw X Y.1 (pm_A hh sz) (pm_E X Y.1 hh sz 0 0 (pm_P Y h0 sz (pq_i post))) 44 [some (.ref (Y.2.1 o0)), some (.int y1), none] [] h sz 0 0) : ∀ (n_ : Nat) (x1 : Int32) (x2 : Int32) (U : Um) (h : pe_H), rF Y h0 U h → w_X12_fill_L9 o0 post k_44 n_ x1 x2 U → pw X Y.1 (pm_A hh sz) (pm_E X Y.1 hh sz 0 0 (pm_P Y h0 sz (pq_i post))) 9 [some (.ref (Y.2.1 o0)), some (.int x1), some (.int x2)] [] h sz 0 0 := by
  intro n_
  induction n_ with
  | zero => intro x1 x2 U h hU H; exact False.elim H
  | succ n_ ih =>
    intro x1 x2 U h hU H
    replace H : b_X12_fill_L9 o0 post k_44 (w_X12_fill_L9 o0 post k_44 n_) x1 x2 U := H
    unfold b_X12_fill_L9 at H
    refine pr_iload_n hC (by decide +kernel : decode cX12_fill 9 = .ok (.iload_n 2, 1)) rfl ?_
    refine pr_bipush hC (48) (by decide +kernel : decode cX12_fill 10 = .ok (.bipush 48, 2)) rfl ?_
    refine pr_icmp_ge hC 44 (by decide +kernel : decode cX12_fill 12 = .ok (.if_icmp .ge 32, 3)) (by decide) (fun c_12 => ?_) (fun c_12 => ?_)
    · replace H := H.1 c_12
      exact pv_sub [some (.ref (Y.2.1 o0)), some (.int x1), none] (And.intro rfl (And.intro rfl trivial)) (hk_44 _ U h H hU)
    replace H := H.2 c_12
    refine pr_iload_n hC (by decide +kernel : decode cX12_fill 15 = .ok (.iload_n 1, 1)) rfl ?_
    refine pr_aload_n hC (by decide +kernel : decode cX12_fill 16 = .ok (.aload_n 0, 1)) rfl ?_
    refine pr_iload_n hC (by decide +kernel : decode cX12_fill 17 = .ok (.iload_n 2, 1)) rfl ?_
    refine vc_Vi hC hR [.int x2] fv_X12_486 (by decide +kernel : decode cX12_fill 18 = .ok (.invokevirtual 486, 3)) hU (t_X12_isOpen ho0 H) ho0 (by decide) rfl rfl rfl (Nat.le_of_ble_eq_true rfl) (Nat.le_of_ble_eq_true rfl) (Nat.le_refl 0) (Nat.le_refl 0) (fun r_3 U_2 h H hU => ?_)
    refine vc_Si hC hR [.int r_3] fv_X12_357 (by decide +kernel : decode cX12_fill 21 = .ok (.invokestatic 357, 3)) hU (t_X12_one  H) rfl rfl (Nat.le_of_ble_eq_true rfl) (Nat.le_of_ble_eq_true rfl) (Nat.le_refl 0) (Nat.le_refl 0) (fun r_5 U_4 h H hU => ?_)
    refine pr_iadd hC (by decide +kernel : decode cX12_fill 24 = .ok (.iadd, 1)) ?_
    refine pv_topi (fun x1_6 e_x1_6 => ?_)
    replace H := H x1_6 e_x1_6
    refine pr_istore_n hC (by decide +kernel : decode cX12_fill 25 = .ok (.istore_n 1, 1)) (by decide) rfl ?_
    refine pr_aload_n hC (by decide +kernel : decode cX12_fill 26 = .ok (.aload_n 0, 1)) rfl ?_
    refine pu_g1 hC fg_X12_96 (by decide +kernel : decode cX12_fill 27 = .ok (.getfield 96, 3)) hU ho0 (by decide) rfl (by decide) ?_
    refine pr_iload_n hC (by decide +kernel : decode cX12_fill 30 = .ok (.iload_n 2, 1)) rfl ?_
    refine pr_aload_n hC (by decide +kernel : decode cX12_fill 31 = .ok (.aload_n 0, 1)) rfl ?_
    refine pu_g1 hC fg_X12_59 (by decide +kernel : decode cX12_fill 32 = .ok (.getfield 59, 3)) hU ho0 (by decide) rfl (by decide) ?_
    refine pr_iload_n hC (by decide +kernel : decode cX12_fill 35 = .ok (.iload_n 2, 1)) rfl ?_
    refine pu_iald hC (by decide +kernel : decode cX12_fill 36 = .ok (.iaload, 1)) hU ho0 rfl H.1 ?_
    replace H := H.2
    refine pv_iast hC (by decide +kernel : decode cX12_fill 37 = .ok (.iastore, 1)) hU ho0 rfl H.1 (fun U_7 h e_U_7 hU => ?_)
    replace H := H.2 U_7 e_U_7
    refine pv_iinc hC (v := x2 + 1) (by decide +kernel : decode cX12_fill 38 = .ok (.iinc 2 1, 3)) rfl (by decide) rfl rfl (fun x2_8 e_x2_8 => ?_)
    replace H := H x2_8 e_x2_8
    refine pr_goto hC 9 (by decide +kernel : decode cX12_fill 41 = .ok (.goto (-32), 3)) (by decide) ?_
    exact pv_sub [some (.ref (Y.2.1 o0)), some (.int x1_6), some (.int x2_8)] (And.intro rfl (And.intro rfl (And.intro rfl trivial))) (ih _ _ U_7 h hU H)
set_option maxHeartbeats 4000000 in
theorem tl_X12_fill_L149 {l : Launch} {Y : px_Y} {X : px_X} {h0 hh : pe_H} {sz : Nat} (o0 : Nat) (post : Int32 → Um → Prop) (k_173 : Um → Prop) (ho0 : oc o0 = 10)  (hC : px_C X Y.1 (pm_A hh sz) cX12_fill RX12 3) (hM : px_M l X Y.1 hh sz yX12_fill cX12_fill 3 (some (.int)) 55 0 0) (hR : X.2.2.2.1 = pm_rm 55 0 0) (hk_173 : ∀ (U : Um) (h : pe_H), k_173 U → rF Y h0 U h → pw X Y.1 (pm_A hh sz) (pm_E X Y.1 hh sz 0 0 (pm_P Y h0 sz (pq_i post))) 173 [some (.ref (Y.2.1 o0)), none, none] [] h sz 0 0) : ∀ (n_ : Nat) (x2 : Int32) (U : Um) (h : pe_H), rF Y h0 U h → w_X12_fill_L149 o0 post k_173 n_ x2 U → pw X Y.1 (pm_A hh sz) (pm_E X Y.1 hh sz 0 0 (pm_P Y h0 sz (pq_i post))) 149 [some (.ref (Y.2.1 o0)), none, some (.int x2)] [] h sz 0 0 := by
  intro n_
  induction n_ with
  | zero => intro x2 U h hU H; exact False.elim H
  | succ n_ ih =>
    intro x2 U h hU H
    replace H : b_X12_fill_L149 o0 post k_173 (w_X12_fill_L149 o0 post k_173 n_) x2 U := H
    unfold b_X12_fill_L149 at H
    refine pr_iload_n hC (by decide +kernel : decode cX12_fill 149 = .ok (.iload_n 2, 1)) rfl ?_
    refine pr_bipush hC (48) (by decide +kernel : decode cX12_fill 150 = .ok (.bipush 48, 2)) rfl ?_
    refine pr_icmp_ge hC 173 (by decide +kernel : decode cX12_fill 152 = .ok (.if_icmp .ge 21, 3)) (by decide) (fun c_152 => ?_) (fun c_152 => ?_)
    · replace H := H.1 c_152
      exact pv_sub [some (.ref (Y.2.1 o0)), none, none] (And.intro rfl trivial) (hk_173 U h H hU)
    replace H := H.2 c_152
    refine pr_aload_n hC (by decide +kernel : decode cX12_fill 155 = .ok (.aload_n 0, 1)) rfl ?_
    refine pu_g1 hC fg_X12_59 (by decide +kernel : decode cX12_fill 156 = .ok (.getfield 59, 3)) hU ho0 (by decide) rfl (by decide) ?_
    refine pr_iload_n hC (by decide +kernel : decode cX12_fill 159 = .ok (.iload_n 2, 1)) rfl ?_
    refine pr_aload_n hC (by decide +kernel : decode cX12_fill 160 = .ok (.aload_n 0, 1)) rfl ?_
    refine pu_g1 hC fg_X12_96 (by decide +kernel : decode cX12_fill 161 = .ok (.getfield 96, 3)) hU ho0 (by decide) rfl (by decide) ?_
    refine pr_iload_n hC (by decide +kernel : decode cX12_fill 164 = .ok (.iload_n 2, 1)) rfl ?_
    refine pu_iald hC (by decide +kernel : decode cX12_fill 165 = .ok (.iaload, 1)) hU ho0 rfl H.1 ?_
    replace H := H.2
    refine pv_iast hC (by decide +kernel : decode cX12_fill 166 = .ok (.iastore, 1)) hU ho0 rfl H.1 (fun U_14 h e_U_14 hU => ?_)
    replace H := H.2 U_14 e_U_14
    refine pv_iinc hC (v := x2 + 1) (by decide +kernel : decode cX12_fill 167 = .ok (.iinc 2 1, 3)) rfl (by decide) rfl rfl (fun x2_15 e_x2_15 => ?_)
    replace H := H x2_15 e_x2_15
    refine pr_goto hC 149 (by decide +kernel : decode cX12_fill 170 = .ok (.goto (-21), 3)) (by decide) ?_
    exact pv_sub [some (.ref (Y.2.1 o0)), none, some (.int x2_15)] (And.intro rfl (And.intro rfl trivial)) (ih _ U_14 h hU H)
set_option maxHeartbeats 4000000 in
theorem tl_X12_fill_L65 {l : Launch} {Y : px_Y} {X : px_X} {h0 hh : pe_H} {sz : Nat} (o0 : Nat) (x1 : Int32) (post : Int32 → Um → Prop) (k_89 : Um → Prop) (ho0 : oc o0 = 10)  (hC : px_C X Y.1 (pm_A hh sz) cX12_fill RX12 3) (hM : px_M l X Y.1 hh sz yX12_fill cX12_fill 3 (some (.int)) 55 0 0) (hR : X.2.2.2.1 = pm_rm 55 0 0) (hk_89 : ∀ (U : Um) (h : pe_H), k_89 U → rF Y h0 U h → pw X Y.1 (pm_A hh sz) (pm_E X Y.1 hh sz 0 0 (pm_P Y h0 sz (pq_i post))) 89 [some (.ref (Y.2.1 o0)), some (.int x1), none] [] h sz 0 0) : ∀ (n_ : Nat) (x2 : Int32) (U : Um) (h : pe_H), rF Y h0 U h → w_X12_fill_L65 o0 x1 post k_89 n_ x2 U → pw X Y.1 (pm_A hh sz) (pm_E X Y.1 hh sz 0 0 (pm_P Y h0 sz (pq_i post))) 65 [some (.ref (Y.2.1 o0)), some (.int x1), some (.int x2)] [] h sz 0 0 := by
  intro n_
  induction n_ with
  | zero => intro x2 U h hU H; exact False.elim H
  | succ n_ ih =>
    intro x2 U h hU H
    replace H : b_X12_fill_L65 o0 x1 post k_89 (w_X12_fill_L65 o0 x1 post k_89 n_) x2 U := H
    unfold b_X12_fill_L65 at H
    refine pr_iload_n hC (by decide +kernel : decode cX12_fill 65 = .ok (.iload_n 2, 1)) rfl ?_
    refine pr_bipush hC (48) (by decide +kernel : decode cX12_fill 66 = .ok (.bipush 48, 2)) rfl ?_
    refine pr_icmp_ge hC 89 (by decide +kernel : decode cX12_fill 68 = .ok (.if_icmp .ge 21, 3)) (by decide) (fun c_68 => ?_) (fun c_68 => ?_)
    · replace H := H.1 c_68
      exact pv_sub [some (.ref (Y.2.1 o0)), some (.int x1), none] (And.intro rfl (And.intro rfl trivial)) (hk_89 U h H hU)
    replace H := H.2 c_68
    refine pr_aload_n hC (by decide +kernel : decode cX12_fill 71 = .ok (.aload_n 0, 1)) rfl ?_
    refine pu_g1 hC fg_X12_99 (by decide +kernel : decode cX12_fill 72 = .ok (.getfield 99, 3)) hU ho0 (by decide) rfl (by decide) ?_
    refine pr_iload_n hC (by decide +kernel : decode cX12_fill 75 = .ok (.iload_n 2, 1)) rfl ?_
    refine pr_aload_n hC (by decide +kernel : decode cX12_fill 76 = .ok (.aload_n 0, 1)) rfl ?_
    refine pu_g1 hC fg_X12_59 (by decide +kernel : decode cX12_fill 77 = .ok (.getfield 59, 3)) hU ho0 (by decide) rfl (by decide) ?_
    refine pr_iload_n hC (by decide +kernel : decode cX12_fill 80 = .ok (.iload_n 2, 1)) rfl ?_
    refine pu_iald hC (by decide +kernel : decode cX12_fill 81 = .ok (.iaload, 1)) hU ho0 rfl H.1 ?_
    replace H := H.2
    refine pv_iast hC (by decide +kernel : decode cX12_fill 82 = .ok (.iastore, 1)) hU ho0 rfl H.1 (fun U_18 h e_U_18 hU => ?_)
    replace H := H.2 U_18 e_U_18
    refine pv_iinc hC (v := x2 + 1) (by decide +kernel : decode cX12_fill 83 = .ok (.iinc 2 1, 3)) rfl (by decide) rfl rfl (fun x2_19 e_x2_19 => ?_)
    replace H := H x2_19 e_x2_19
    refine pr_goto hC 65 (by decide +kernel : decode cX12_fill 86 = .ok (.goto (-21), 3)) (by decide) ?_
    exact pv_sub [some (.ref (Y.2.1 o0)), some (.int x1), some (.int x2_19)] (And.intro rfl (And.intro rfl (And.intro rfl trivial))) (ih _ U_18 h hU H)
set_option maxHeartbeats 4000000 in
theorem tl_X12_fill_L91 {l : Launch} {Y : px_Y} {X : px_X} {h0 hh : pe_H} {sz : Nat} (o0 : Nat) (x1 : Int32) (post : Int32 → Um → Prop) (k_115 : Um → Prop) (ho0 : oc o0 = 10)  (hC : px_C X Y.1 (pm_A hh sz) cX12_fill RX12 3) (hM : px_M l X Y.1 hh sz yX12_fill cX12_fill 3 (some (.int)) 55 0 0) (hR : X.2.2.2.1 = pm_rm 55 0 0) (hk_115 : ∀ (U : Um) (h : pe_H), k_115 U → rF Y h0 U h → pw X Y.1 (pm_A hh sz) (pm_E X Y.1 hh sz 0 0 (pm_P Y h0 sz (pq_i post))) 115 [some (.ref (Y.2.1 o0)), some (.int x1), none] [] h sz 0 0) : ∀ (n_ : Nat) (x2 : Int32) (U : Um) (h : pe_H), rF Y h0 U h → w_X12_fill_L91 o0 x1 post k_115 n_ x2 U → pw X Y.1 (pm_A hh sz) (pm_E X Y.1 hh sz 0 0 (pm_P Y h0 sz (pq_i post))) 91 [some (.ref (Y.2.1 o0)), some (.int x1), some (.int x2)] [] h sz 0 0 := by
  intro n_
  induction n_ with
  | zero => intro x2 U h hU H; exact False.elim H
  | succ n_ ih =>
    intro x2 U h hU H
    replace H : b_X12_fill_L91 o0 x1 post k_115 (w_X12_fill_L91 o0 x1 post k_115 n_) x2 U := H
    unfold b_X12_fill_L91 at H
    refine pr_iload_n hC (by decide +kernel : decode cX12_fill 91 = .ok (.iload_n 2, 1)) rfl ?_
    refine pr_bipush hC (48) (by decide +kernel : decode cX12_fill 92 = .ok (.bipush 48, 2)) rfl ?_
    refine pr_icmp_ge hC 115 (by decide +kernel : decode cX12_fill 94 = .ok (.if_icmp .ge 21, 3)) (by decide) (fun c_94 => ?_) (fun c_94 => ?_)
    · replace H := H.1 c_94
      exact pv_sub [some (.ref (Y.2.1 o0)), some (.int x1), none] (And.intro rfl (And.intro rfl trivial)) (hk_115 U h H hU)
    replace H := H.2 c_94
    refine pr_aload_n hC (by decide +kernel : decode cX12_fill 97 = .ok (.aload_n 0, 1)) rfl ?_
    refine pu_g1 hC fg_X12_59 (by decide +kernel : decode cX12_fill 98 = .ok (.getfield 59, 3)) hU ho0 (by decide) rfl (by decide) ?_
    refine pr_iload_n hC (by decide +kernel : decode cX12_fill 101 = .ok (.iload_n 2, 1)) rfl ?_
    refine pr_aload_n hC (by decide +kernel : decode cX12_fill 102 = .ok (.aload_n 0, 1)) rfl ?_
    refine pu_g1 hC fg_X12_96 (by decide +kernel : decode cX12_fill 103 = .ok (.getfield 96, 3)) hU ho0 (by decide) rfl (by decide) ?_
    refine pr_iload_n hC (by decide +kernel : decode cX12_fill 106 = .ok (.iload_n 2, 1)) rfl ?_
    refine pu_iald hC (by decide +kernel : decode cX12_fill 107 = .ok (.iaload, 1)) hU ho0 rfl H.1 ?_
    replace H := H.2
    refine pv_iast hC (by decide +kernel : decode cX12_fill 108 = .ok (.iastore, 1)) hU ho0 rfl H.1 (fun U_21 h e_U_21 hU => ?_)
    replace H := H.2 U_21 e_U_21
    refine pv_iinc hC (v := x2 + 1) (by decide +kernel : decode cX12_fill 109 = .ok (.iinc 2 1, 3)) rfl (by decide) rfl rfl (fun x2_22 e_x2_22 => ?_)
    replace H := H x2_22 e_x2_22
    refine pr_goto hC 91 (by decide +kernel : decode cX12_fill 112 = .ok (.goto (-21), 3)) (by decide) ?_
    exact pv_sub [some (.ref (Y.2.1 o0)), some (.int x1), some (.int x2_22)] (And.intro rfl (And.intro rfl (And.intro rfl trivial))) (ih _ U_21 h hU H)
set_option maxHeartbeats 4000000 in
theorem tl_X12_fill_L121 {l : Launch} {Y : px_Y} {X : px_X} {h0 hh : pe_H} {sz : Nat} (o0 : Nat) (x1 : Int32) (post : Int32 → Um → Prop) (k_145 : Um → Prop) (ho0 : oc o0 = 10)  (hC : px_C X Y.1 (pm_A hh sz) cX12_fill RX12 3) (hM : px_M l X Y.1 hh sz yX12_fill cX12_fill 3 (some (.int)) 55 0 0) (hR : X.2.2.2.1 = pm_rm 55 0 0) (hk_145 : ∀ (U : Um) (h : pe_H), k_145 U → rF Y h0 U h → pw X Y.1 (pm_A hh sz) (pm_E X Y.1 hh sz 0 0 (pm_P Y h0 sz (pq_i post))) 145 [none, some (.int x1), none] [] h sz 0 0) : ∀ (n_ : Nat) (x2 : Int32) (U : Um) (h : pe_H), rF Y h0 U h → w_X12_fill_L121 o0 x1 post k_145 n_ x2 U → pw X Y.1 (pm_A hh sz) (pm_E X Y.1 hh sz 0 0 (pm_P Y h0 sz (pq_i post))) 121 [some (.ref (Y.2.1 o0)), some (.int x1), some (.int x2)] [] h sz 0 0 := by
  intro n_
  induction n_ with
  | zero => intro x2 U h hU H; exact False.elim H
  | succ n_ ih =>
    intro x2 U h hU H
    replace H : b_X12_fill_L121 o0 x1 post k_145 (w_X12_fill_L121 o0 x1 post k_145 n_) x2 U := H
    unfold b_X12_fill_L121 at H
    refine pr_iload_n hC (by decide +kernel : decode cX12_fill 121 = .ok (.iload_n 2, 1)) rfl ?_
    refine pr_bipush hC (48) (by decide +kernel : decode cX12_fill 122 = .ok (.bipush 48, 2)) rfl ?_
    refine pr_icmp_ge hC 145 (by decide +kernel : decode cX12_fill 124 = .ok (.if_icmp .ge 21, 3)) (by decide) (fun c_124 => ?_) (fun c_124 => ?_)
    · replace H := H.1 c_124
      exact pv_sub [none, some (.int x1), none] (And.intro rfl trivial) (hk_145 U h H hU)
    replace H := H.2 c_124
    refine pr_aload_n hC (by decide +kernel : decode cX12_fill 127 = .ok (.aload_n 0, 1)) rfl ?_
    refine pu_g1 hC fg_X12_59 (by decide +kernel : decode cX12_fill 128 = .ok (.getfield 59, 3)) hU ho0 (by decide) rfl (by decide) ?_
    refine pr_iload_n hC (by decide +kernel : decode cX12_fill 131 = .ok (.iload_n 2, 1)) rfl ?_
    refine pr_aload_n hC (by decide +kernel : decode cX12_fill 132 = .ok (.aload_n 0, 1)) rfl ?_
    refine pu_g1 hC fg_X12_99 (by decide +kernel : decode cX12_fill 133 = .ok (.getfield 99, 3)) hU ho0 (by decide) rfl (by decide) ?_
    refine pr_iload_n hC (by decide +kernel : decode cX12_fill 136 = .ok (.iload_n 2, 1)) rfl ?_
    refine pu_iald hC (by decide +kernel : decode cX12_fill 137 = .ok (.iaload, 1)) hU ho0 rfl H.1 ?_
    replace H := H.2
    refine pv_iast hC (by decide +kernel : decode cX12_fill 138 = .ok (.iastore, 1)) hU ho0 rfl H.1 (fun U_26 h e_U_26 hU => ?_)
    replace H := H.2 U_26 e_U_26
    refine pv_iinc hC (v := x2 + 1) (by decide +kernel : decode cX12_fill 139 = .ok (.iinc 2 1, 3)) rfl (by decide) rfl rfl (fun x2_27 e_x2_27 => ?_)
    replace H := H x2_27 e_x2_27
    refine pr_goto hC 121 (by decide +kernel : decode cX12_fill 142 = .ok (.goto (-21), 3)) (by decide) ?_
    exact pv_sub [some (.ref (Y.2.1 o0)), some (.int x1), some (.int x2_27)] (And.intro rfl (And.intro rfl (And.intro rfl trivial))) (ih _ U_26 h hU H)
set_option maxHeartbeats 4000000 in
theorem t_X12_fill {l : Launch} {Y : px_Y} {o : Nat} {U : Um} {post : Int32 → Um → Prop} (ho : oc o = 10) (H : w_X12_fill o U post) : um l Y 55 yX12_fill cX12_fill 3 (some (.int)) [.ref (Y.2.1 o)] U (pq_i post) := by
  unfold w_X12_fill at H
  refine um_of (by decide) (Nat.le_of_ble_eq_true rfl) [some (.ref (Y.2.1 o)), none, none] rfl (fun X h0 hh sz hM hU => ?_)
  have hC := hM.1
  have hR := hM.2.2.1
  refine pr_aload_n hC (by decide +kernel : decode cX12_fill 0 = .ok (.aload_n 0, 1)) rfl ?_
  refine pr_iconst hC (0) (by decide +kernel : decode cX12_fill 1 = .ok (.iconst 0, 1)) rfl ?_
  refine pv_p0 hC fp_X12_121 (by decide +kernel : decode cX12_fill 2 = .ok (.putfield 121, 3)) hU ho (by decide) rfl rfl rfl rfl (fun U_1 h e_U_1 hU => ?_)
  replace H := H U_1 e_U_1
  refine pr_iconst hC (0) (by decide +kernel : decode cX12_fill 5 = .ok (.iconst 0, 1)) rfl ?_
  refine pr_istore_n hC (by decide +kernel : decode cX12_fill 6 = .ok (.istore_n 1, 1)) (by decide) rfl ?_
  refine pr_iconst hC (0) (by decide +kernel : decode cX12_fill 7 = .ok (.iconst 0, 1)) rfl ?_
  refine pr_istore_n hC (by decide +kernel : decode cX12_fill 8 = .ok (.istore_n 2, 1)) (by decide) rfl ?_
  obtain ⟨n_32, H⟩ := H
  refine pv_sub [some (.ref (Y.2.1 o)), some (.int 0), some (.int 0)] (And.intro rfl (And.intro rfl (And.intro rfl trivial))) ?_
  refine tl_X12_fill_L9 _ _ _ ho hC hM hR (fun x1_9 U_10 h H hU => ?_) n_32 _ _ U_1 h hU H
  refine pr_iload_n hC (by decide +kernel : decode cX12_fill 44 = .ok (.iload_n 1, 1)) rfl ?_
  refine pr_if_ne hC 50 (by decide +kernel : decode cX12_fill 45 = .ok (.ifCond .ne 5, 3)) (by decide) (fun c_45 => ?_) (fun c_45 => ?_)
  · replace H := H.2 c_45
    refine pr_aload_n hC (by decide +kernel : decode cX12_fill 50 = .ok (.aload_n 0, 1)) rfl ?_
    refine pr_iconst hC (0) (by decide +kernel : decode cX12_fill 51 = .ok (.iconst 0, 1)) rfl ?_
    refine pv_p0 hC fp_X12_489 (by decide +kernel : decode cX12_fill 52 = .ok (.putfield 489, 3)) hU ho (by decide) rfl rfl rfl rfl (fun U_11 h e_U_11 hU => ?_)
    replace H := H U_11 e_U_11
    refine pr_aload_n hC (by decide +kernel : decode cX12_fill 55 = .ok (.aload_n 0, 1)) rfl ?_
    refine pr_iconst hC (0) (by decide +kernel : decode cX12_fill 56 = .ok (.iconst 0, 1)) rfl ?_
    refine vc_Vi hC hR [.int 0] fv_X12_492 (by decide +kernel : decode cX12_fill 57 = .ok (.invokevirtual 492, 3)) hU (t_X12_fills 49 ho H) ho (by decide) rfl rfl rfl (Nat.le_of_ble_eq_true rfl) (Nat.le_of_ble_eq_true rfl) (Nat.le_refl 0) (Nat.le_refl 0) (fun r_13 U_12 h H hU => ?_)
    refine pr_if_eq hC 147 (by decide +kernel : decode cX12_fill 60 = .ok (.ifCond .eq 87, 3)) (by decide) (fun c_60 => ?_) (fun c_60 => ?_)
    · replace H := H.1 c_60
      refine pr_iconst hC (0) (by decide +kernel : decode cX12_fill 147 = .ok (.iconst 0, 1)) rfl ?_
      refine pr_istore_n hC (by decide +kernel : decode cX12_fill 148 = .ok (.istore_n 2, 1)) (by decide) rfl ?_
      obtain ⟨n_17, H⟩ := H
      refine pv_sub [some (.ref (Y.2.1 o)), none, some (.int 0)] (And.intro rfl (And.intro rfl trivial)) ?_
      refine tl_X12_fill_L149 _ _ _ ho hC hM hR (fun U_16 h H hU => ?_) n_17 _ U_12 h hU H
      refine pr_aload_n hC (by decide +kernel : decode cX12_fill 173 = .ok (.aload_n 0, 1)) rfl ?_
      refine pu_g0 hC fg_X12_489 (by decide +kernel : decode cX12_fill 174 = .ok (.getfield 489, 3)) hU ho (by decide) rfl rfl ?_
      refine pr_sipush hC (20000) (by decide +kernel : decode cX12_fill 177 = .ok (.sipush 20000, 3)) rfl ?_
      refine pr_icmp_le hC 188 (by decide +kernel : decode cX12_fill 180 = .ok (.if_icmp .le 8, 3)) (by decide) (fun c_180 => ?_) (fun c_180 => ?_)
      · replace H := H.1 c_180
        refine pr_iconst hC (-1) (by decide +kernel : decode cX12_fill 188 = .ok (.iconst (-1), 1)) rfl ?_
        exact pv_iret hM (by decide +kernel : decode cX12_fill 189 = .ok (.ireturn, 1)) hU H
      replace H := H.2 c_180
      refine pr_bipush hC (-2) (by decide +kernel : decode cX12_fill 183 = .ok (.bipush (-2), 2)) rfl ?_
      refine pr_goto hC 189 (by decide +kernel : decode cX12_fill 185 = .ok (.goto 4, 3)) (by decide) ?_
      exact pv_iret hM (by decide +kernel : decode cX12_fill 189 = .ok (.ireturn, 1)) hU H
    replace H := H.2 c_60
    refine pr_iconst hC (0) (by decide +kernel : decode cX12_fill 63 = .ok (.iconst 0, 1)) rfl ?_
    refine pr_istore_n hC (by decide +kernel : decode cX12_fill 64 = .ok (.istore_n 2, 1)) (by decide) rfl ?_
    obtain ⟨n_31, H⟩ := H
    refine pv_sub [some (.ref (Y.2.1 o)), some (.int x1_9), some (.int 0)] (And.intro rfl (And.intro rfl (And.intro rfl trivial))) ?_
    refine tl_X12_fill_L65 _ _ _ _ ho hC hM hR (fun U_20 h H hU => ?_) n_31 _ U_12 h hU H
    refine pr_iconst hC (0) (by decide +kernel : decode cX12_fill 89 = .ok (.iconst 0, 1)) rfl ?_
    refine pr_istore_n hC (by decide +kernel : decode cX12_fill 90 = .ok (.istore_n 2, 1)) (by decide) rfl ?_
    obtain ⟨n_30, H⟩ := H
    refine pv_sub [some (.ref (Y.2.1 o)), some (.int x1_9), some (.int 0)] (And.intro rfl (And.intro rfl (And.intro rfl trivial))) ?_
    refine tl_X12_fill_L91 _ _ _ _ ho hC hM hR (fun U_23 h H hU => ?_) n_30 _ U_20 h hU H
    refine pr_aload_n hC (by decide +kernel : decode cX12_fill 115 = .ok (.aload_n 0, 1)) rfl ?_
    refine vc_Vv hC hR [] fv_X12_430 (by decide +kernel : decode cX12_fill 116 = .ok (.invokevirtual 430, 3)) hU (t_X12_keeps ho H) ho (by decide) rfl rfl rfl (Nat.le_of_ble_eq_true rfl) (Nat.le_of_ble_eq_true rfl) (Nat.le_refl 0) (Nat.le_refl 0) (fun U_24 h H hU => ?_)
    refine pr_iconst hC (0) (by decide +kernel : decode cX12_fill 119 = .ok (.iconst 0, 1)) rfl ?_
    refine pr_istore_n hC (by decide +kernel : decode cX12_fill 120 = .ok (.istore_n 2, 1)) (by decide) rfl ?_
    obtain ⟨n_29, H⟩ := H
    refine pv_sub [some (.ref (Y.2.1 o)), some (.int x1_9), some (.int 0)] (And.intro rfl (And.intro rfl (And.intro rfl trivial))) ?_
    refine tl_X12_fill_L121 _ _ _ _ ho hC hM hR (fun U_28 h H hU => ?_) n_29 _ U_24 h hU H
    refine pr_iload_n hC (by decide +kernel : decode cX12_fill 145 = .ok (.iload_n 1, 1)) rfl ?_
    exact pv_iret hM (by decide +kernel : decode cX12_fill 146 = .ok (.ireturn, 1)) hU H
  replace H := H.1 c_45
  refine pr_iconst hC (0) (by decide +kernel : decode cX12_fill 48 = .ok (.iconst 0, 1)) rfl ?_
  exact pv_iret hM (by decide +kernel : decode cX12_fill 49 = .ok (.ireturn, 1)) hU H
def b_X12_findsFollower_L44 (o0 : Nat) (x1 : Int32) (x2 : Int32) (x3 : Int32) (x4 : Int32) (x5 : Int32) (post : Int32 → Um → Prop) (k_89 : Int32 → Um → Prop) (rec_ : Int32 → Int32 → Um → Prop) (x6 : Int32) (x7 : Int32) (U : Um) : Prop :=
  (x7 < 0 → k_89 x6 U) ∧ (¬ x7 < 0 → (x7 = x3 → ∀ (x7_8 : Int32), x7_8 = x7 + (-1) → rec_ x6 x7_8 U) ∧ (¬ x7 = x3 → (x7 = x4 → ∀ (x7_9 : Int32), x7_9 = x7 + (-1) → rec_ x6 x7_9 U) ∧ (¬ x7 = x4 → w_X12_whyNot o0 (x5 / 3) (x5 - x5 / 3 * 3) x7 U (fun r_11 U_10 => (r_11 = 0 → ∀ (x6_12 : Int32), x6_12 = x7 → ∀ (x7_13 : Int32), x7_13 = x7 + (-1) → rec_ x6_12 x7_13 U_10) ∧ (¬ r_11 = 0 → ∀ (x7_14 : Int32), x7_14 = x7 + (-1) → rec_ x6 x7_14 U_10)))))
def w_X12_findsFollower_L44 (o0 : Nat) (x1 : Int32) (x2 : Int32) (x3 : Int32) (x4 : Int32) (x5 : Int32) (post : Int32 → Um → Prop) (k_89 : Int32 → Um → Prop) (n_ : Nat) : Int32 → Int32 → Um → Prop := Nat.rec (motive := fun _ => Int32 → Int32 → Um → Prop) (fun _ _ _ => False) (fun _ ih => b_X12_findsFollower_L44 o0 x1 x2 x3 x4 x5 post k_89 ih) n_
def w_X12_findsFollower (o : Nat) (a1 : Int32) (a2 : Int32) (a3 : Int32) (a4 : Int32) (a5 : Int32) (U : Um) (post : Int32 → Um → Prop) : Prop :=
  vp_in a5 48 ∧ ∀ (U_1 : Um), U_1 = sA U o 30 (va_up (uA U o 30) (Int32.toNatClampNeg a5) (-1)) → w_X12_whyNot o a1 a2 a4 U_1 (fun r_3 U_2 => (r_3 = 0 → w_X12_at a1 a2 U_2 (fun r_5 U_4 => vp_in r_5 48 ∧ ∀ (U_6 : Um), U_6 = sA U_4 o 30 (va_up (uA U_4 o 30) (Int32.toNatClampNeg r_5) a4) → vp_in 2 14 ∧ ∀ (x7_7 : Int32), x7_7 = (uA U_6 o 11 (Int32.toNatClampNeg 2)) - 1 → (∃ n_22, w_X12_findsFollower_L44 o a1 a2 a3 a4 a5 post (fun x6_15 U_16 => w_X12_at a1 a2 U_16 (fun r_18 U_17 => vp_in r_18 48 ∧ ∀ (U_19 : Um), U_19 = sA U_17 o 30 (va_up (uA U_17 o 30) (Int32.toNatClampNeg r_18) (-1)) → vp_in a5 48 ∧ ∀ (U_20 : Um), U_20 = sA U_19 o 30 (va_up (uA U_19 o 30) (Int32.toNatClampNeg a5) a4) → vp_in 4 5 ∧ ∀ (U_21 : Um), U_21 = sA U_20 o 48 (va_up (uA U_20 o 48) (Int32.toNatClampNeg 4) x6_15) → (x6_15 = (-1) → post 0 U_21) ∧ (¬ x6_15 = (-1) → post 1 U_21))) n_22 (-1) x7_7 U_6))) ∧ (¬ r_3 = 0 → vp_in a5 48 ∧ ∀ (U_23 : Um), U_23 = sA U_2 o 30 (va_up (uA U_2 o 30) (Int32.toNatClampNeg a5) a4) → vp_in 4 5 ∧ ∀ (U_24 : Um), U_24 = sA U_23 o 48 (va_up (uA U_23 o 48) (Int32.toNatClampNeg 4) (-1)) → (((-1) : Int32) = (-1) → post 0 U_24) ∧ (¬ ((-1) : Int32) = (-1) → post 1 U_24)))
set_option maxHeartbeats 4000000 in
theorem tl_X12_findsFollower_L44 {l : Launch} {Y : px_Y} {X : px_X} {h0 hh : pe_H} {sz : Nat} (o0 : Nat) (x1 : Int32) (x2 : Int32) (x3 : Int32) (x4 : Int32) (x5 : Int32) (post : Int32 → Um → Prop) (k_89 : Int32 → Um → Prop) (ho0 : oc o0 = 10)  (hC : px_C X Y.1 (pm_A hh sz) cX12_findsFollower RX12 8) (hM : px_M l X Y.1 hh sz yX12_findsFollower cX12_findsFollower 8 (some (.boolean)) 4 0 0) (hR : X.2.2.2.1 = pm_rm 4 0 0) (hk_89 : ∀ (y6 : Int32) (U : Um) (h : pe_H), k_89 y6 U → rF Y h0 U h → pw X Y.1 (pm_A hh sz) (pm_E X Y.1 hh sz 0 0 (pm_P Y h0 sz (pq_i post))) 89 [some (.ref (Y.2.1 o0)), some (.int x1), some (.int x2), none, some (.int x4), some (.int x5), some (.int y6), none] [] h sz 0 0) : ∀ (n_ : Nat) (x6 : Int32) (x7 : Int32) (U : Um) (h : pe_H), rF Y h0 U h → w_X12_findsFollower_L44 o0 x1 x2 x3 x4 x5 post k_89 n_ x6 x7 U → pw X Y.1 (pm_A hh sz) (pm_E X Y.1 hh sz 0 0 (pm_P Y h0 sz (pq_i post))) 44 [some (.ref (Y.2.1 o0)), some (.int x1), some (.int x2), some (.int x3), some (.int x4), some (.int x5), some (.int x6), some (.int x7)] [] h sz 0 0 := by
  intro n_
  induction n_ with
  | zero => intro x6 x7 U h hU H; exact False.elim H
  | succ n_ ih =>
    intro x6 x7 U h hU H
    replace H : b_X12_findsFollower_L44 o0 x1 x2 x3 x4 x5 post k_89 (w_X12_findsFollower_L44 o0 x1 x2 x3 x4 x5 post k_89 n_) x6 x7 U := H
    unfold b_X12_findsFollower_L44 at H
    refine pr_iload hC (by decide +kernel : decode cX12_findsFollower 44 = .ok (.iload 7, 2)) rfl ?_
    refine pr_if_lt hC 89 (by decide +kernel : decode cX12_findsFollower 46 = .ok (.ifCond .lt 43, 3)) (by decide) (fun c_46 => ?_) (fun c_46 => ?_)
    · replace H := H.1 c_46
      exact pv_sub [some (.ref (Y.2.1 o0)), some (.int x1), some (.int x2), none, some (.int x4), some (.int x5), some (.int x6), none] (And.intro rfl (And.intro rfl (And.intro rfl (And.intro rfl (And.intro rfl (And.intro rfl trivial)))))) (hk_89 _ U h H hU)
    replace H := H.2 c_46
    refine pr_iload hC (by decide +kernel : decode cX12_findsFollower 49 = .ok (.iload 7, 2)) rfl ?_
    refine pr_iload_n hC (by decide +kernel : decode cX12_findsFollower 51 = .ok (.iload_n 3, 1)) rfl ?_
    refine pr_icmp_eq hC 83 (by decide +kernel : decode cX12_findsFollower 52 = .ok (.if_icmp .eq 31, 3)) (by decide) (fun c_52 => ?_) (fun c_52 => ?_)
    · replace H := H.1 c_52
      refine pv_iinc hC (v := x7 + (-1)) (by decide +kernel : decode cX12_findsFollower 83 = .ok (.iinc 7 (-1), 3)) rfl (by decide) rfl rfl (fun x7_8 e_x7_8 => ?_)
      replace H := H x7_8 e_x7_8
      refine pr_goto hC 44 (by decide +kernel : decode cX12_findsFollower 86 = .ok (.goto (-42), 3)) (by decide) ?_
      exact pv_sub [some (.ref (Y.2.1 o0)), some (.int x1), some (.int x2), some (.int x3), some (.int x4), some (.int x5), some (.int x6), some (.int x7_8)] (And.intro rfl (And.intro rfl (And.intro rfl (And.intro rfl (And.intro rfl (And.intro rfl (And.intro rfl (And.intro rfl trivial)))))))) (ih _ _ U h hU H)
    replace H := H.2 c_52
    refine pr_iload hC (by decide +kernel : decode cX12_findsFollower 55 = .ok (.iload 7, 2)) rfl ?_
    refine pr_iload hC (by decide +kernel : decode cX12_findsFollower 57 = .ok (.iload 4, 2)) rfl ?_
    refine pr_icmp_eq hC 83 (by decide +kernel : decode cX12_findsFollower 59 = .ok (.if_icmp .eq 24, 3)) (by decide) (fun c_59 => ?_) (fun c_59 => ?_)
    · replace H := H.1 c_59
      refine pv_iinc hC (v := x7 + (-1)) (by decide +kernel : decode cX12_findsFollower 83 = .ok (.iinc 7 (-1), 3)) rfl (by decide) rfl rfl (fun x7_9 e_x7_9 => ?_)
      replace H := H x7_9 e_x7_9
      refine pr_goto hC 44 (by decide +kernel : decode cX12_findsFollower 86 = .ok (.goto (-42), 3)) (by decide) ?_
      exact pv_sub [some (.ref (Y.2.1 o0)), some (.int x1), some (.int x2), some (.int x3), some (.int x4), some (.int x5), some (.int x6), some (.int x7_9)] (And.intro rfl (And.intro rfl (And.intro rfl (And.intro rfl (And.intro rfl (And.intro rfl (And.intro rfl (And.intro rfl trivial)))))))) (ih _ _ U h hU H)
    replace H := H.2 c_59
    refine pr_aload_n hC (by decide +kernel : decode cX12_findsFollower 62 = .ok (.aload_n 0, 1)) rfl ?_
    refine pr_iload hC (by decide +kernel : decode cX12_findsFollower 63 = .ok (.iload 5, 2)) rfl ?_
    refine pr_iconst hC (3) (by decide +kernel : decode cX12_findsFollower 65 = .ok (.iconst 3, 1)) rfl ?_
    refine pr_idiv hC (by decide +kernel : decode cX12_findsFollower 66 = .ok (.idiv, 1)) (by decide) ?_
    refine pr_iload hC (by decide +kernel : decode cX12_findsFollower 67 = .ok (.iload 5, 2)) rfl ?_
    refine pr_iconst hC (3) (by decide +kernel : decode cX12_findsFollower 69 = .ok (.iconst 3, 1)) rfl ?_
    refine pr_irem hC (by decide +kernel : decode cX12_findsFollower 70 = .ok (.irem, 1)) (by decide) ?_
    refine pr_iload hC (by decide +kernel : decode cX12_findsFollower 71 = .ok (.iload 7, 2)) rfl ?_
    refine vc_Vi hC hR [.int (x5 / 3), .int (x5 - x5 / 3 * 3), .int x7] fv_X12_423 (by decide +kernel : decode cX12_findsFollower 73 = .ok (.invokevirtual 423, 3)) hU (t_X12_whyNot ho0 H) ho0 (by decide) rfl rfl rfl (Nat.le_of_ble_eq_true rfl) (Nat.le_of_ble_eq_true rfl) (Nat.le_refl 0) (Nat.le_refl 0) (fun r_11 U_10 h H hU => ?_)
    refine pr_if_ne hC 83 (by decide +kernel : decode cX12_findsFollower 76 = .ok (.ifCond .ne 7, 3)) (by decide) (fun c_76 => ?_) (fun c_76 => ?_)
    · replace H := H.2 c_76
      refine pv_iinc hC (v := x7 + (-1)) (by decide +kernel : decode cX12_findsFollower 83 = .ok (.iinc 7 (-1), 3)) rfl (by decide) rfl rfl (fun x7_14 e_x7_14 => ?_)
      replace H := H x7_14 e_x7_14
      refine pr_goto hC 44 (by decide +kernel : decode cX12_findsFollower 86 = .ok (.goto (-42), 3)) (by decide) ?_
      exact pv_sub [some (.ref (Y.2.1 o0)), some (.int x1), some (.int x2), some (.int x3), some (.int x4), some (.int x5), some (.int x6), some (.int x7_14)] (And.intro rfl (And.intro rfl (And.intro rfl (And.intro rfl (And.intro rfl (And.intro rfl (And.intro rfl (And.intro rfl trivial)))))))) (ih _ _ U_10 h hU H)
    replace H := H.1 c_76
    refine pr_iload hC (by decide +kernel : decode cX12_findsFollower 79 = .ok (.iload 7, 2)) rfl ?_
    refine pv_topi (fun x6_12 e_x6_12 => ?_)
    replace H := H x6_12 e_x6_12
    refine pr_istore hC (by decide +kernel : decode cX12_findsFollower 81 = .ok (.istore 6, 2)) (by decide) rfl ?_
    refine pv_iinc hC (v := x7 + (-1)) (by decide +kernel : decode cX12_findsFollower 83 = .ok (.iinc 7 (-1), 3)) rfl (by decide) rfl rfl (fun x7_13 e_x7_13 => ?_)
    replace H := H x7_13 e_x7_13
    refine pr_goto hC 44 (by decide +kernel : decode cX12_findsFollower 86 = .ok (.goto (-42), 3)) (by decide) ?_
    exact pv_sub [some (.ref (Y.2.1 o0)), some (.int x1), some (.int x2), some (.int x3), some (.int x4), some (.int x5), some (.int x6_12), some (.int x7_13)] (And.intro rfl (And.intro rfl (And.intro rfl (And.intro rfl (And.intro rfl (And.intro rfl (And.intro rfl (And.intro rfl trivial)))))))) (ih _ _ U_10 h hU H)
set_option maxHeartbeats 4000000 in
theorem t_X12_findsFollower {l : Launch} {Y : px_Y} {o : Nat} {a1 : Int32} {a2 : Int32} {a3 : Int32} {a4 : Int32} {a5 : Int32} {U : Um} {post : Int32 → Um → Prop} (ho : oc o = 10) (H : w_X12_findsFollower o a1 a2 a3 a4 a5 U post) : um l Y 4 yX12_findsFollower cX12_findsFollower 8 (some (.boolean)) [.ref (Y.2.1 o), .int a1, .int a2, .int a3, .int a4, .int a5] U (pq_i post) := by
  unfold w_X12_findsFollower at H
  refine um_of (by decide) (Nat.le_of_ble_eq_true rfl) [some (.ref (Y.2.1 o)), some (.int a1), some (.int a2), some (.int a3), some (.int a4), some (.int a5), none, none] rfl (fun X h0 hh sz hM hU => ?_)
  have hC := hM.1
  have hR := hM.2.2.1
  refine pr_aload_n hC (by decide +kernel : decode cX12_findsFollower 0 = .ok (.aload_n 0, 1)) rfl ?_
  refine pu_g1 hC fg_X12_59 (by decide +kernel : decode cX12_findsFollower 1 = .ok (.getfield 59, 3)) hU ho (by decide) rfl (by decide) ?_
  refine pr_iload hC (by decide +kernel : decode cX12_findsFollower 4 = .ok (.iload 5, 2)) rfl ?_
  refine pr_iconst hC (-1) (by decide +kernel : decode cX12_findsFollower 6 = .ok (.iconst (-1), 1)) rfl ?_
  refine pv_iast hC (by decide +kernel : decode cX12_findsFollower 7 = .ok (.iastore, 1)) hU ho rfl H.1 (fun U_1 h e_U_1 hU => ?_)
  replace H := H.2 U_1 e_U_1
  refine pr_iconst hC (-1) (by decide +kernel : decode cX12_findsFollower 8 = .ok (.iconst (-1), 1)) rfl ?_
  refine pr_istore hC (by decide +kernel : decode cX12_findsFollower 9 = .ok (.istore 6, 2)) (by decide) rfl ?_
  refine pr_aload_n hC (by decide +kernel : decode cX12_findsFollower 11 = .ok (.aload_n 0, 1)) rfl ?_
  refine pr_iload_n hC (by decide +kernel : decode cX12_findsFollower 12 = .ok (.iload_n 1, 1)) rfl ?_
  refine pr_iload_n hC (by decide +kernel : decode cX12_findsFollower 13 = .ok (.iload_n 2, 1)) rfl ?_
  refine pr_iload hC (by decide +kernel : decode cX12_findsFollower 14 = .ok (.iload 4, 2)) rfl ?_
  refine vc_Vi hC hR [.int a1, .int a2, .int a4] fv_X12_423 (by decide +kernel : decode cX12_findsFollower 16 = .ok (.invokevirtual 423, 3)) hU (t_X12_whyNot ho H) ho (by decide) rfl rfl rfl (Nat.le_of_ble_eq_true rfl) (Nat.le_of_ble_eq_true rfl) (Nat.le_refl 0) (Nat.le_refl 0) (fun r_3 U_2 h H hU => ?_)
  refine pr_if_ne hC 100 (by decide +kernel : decode cX12_findsFollower 19 = .ok (.ifCond .ne 81, 3)) (by decide) (fun c_19 => ?_) (fun c_19 => ?_)
  · replace H := H.2 c_19
    refine pr_aload_n hC (by decide +kernel : decode cX12_findsFollower 100 = .ok (.aload_n 0, 1)) rfl ?_
    refine pu_g1 hC fg_X12_59 (by decide +kernel : decode cX12_findsFollower 101 = .ok (.getfield 59, 3)) hU ho (by decide) rfl (by decide) ?_
    refine pr_iload hC (by decide +kernel : decode cX12_findsFollower 104 = .ok (.iload 5, 2)) rfl ?_
    refine pr_iload hC (by decide +kernel : decode cX12_findsFollower 106 = .ok (.iload 4, 2)) rfl ?_
    refine pv_iast hC (by decide +kernel : decode cX12_findsFollower 108 = .ok (.iastore, 1)) hU ho rfl H.1 (fun U_23 h e_U_23 hU => ?_)
    replace H := H.2 U_23 e_U_23
    refine pr_aload_n hC (by decide +kernel : decode cX12_findsFollower 109 = .ok (.aload_n 0, 1)) rfl ?_
    refine pu_g1 hC fg_X12_102 (by decide +kernel : decode cX12_findsFollower 110 = .ok (.getfield 102, 3)) hU ho (by decide) rfl (by decide) ?_
    refine pr_iconst hC (4) (by decide +kernel : decode cX12_findsFollower 113 = .ok (.iconst 4, 1)) rfl ?_
    refine pr_iload hC (by decide +kernel : decode cX12_findsFollower 114 = .ok (.iload 6, 2)) rfl ?_
    refine pv_iast hC (by decide +kernel : decode cX12_findsFollower 116 = .ok (.iastore, 1)) hU ho rfl H.1 (fun U_24 h e_U_24 hU => ?_)
    replace H := H.2 U_24 e_U_24
    refine pr_iload hC (by decide +kernel : decode cX12_findsFollower 117 = .ok (.iload 6, 2)) rfl ?_
    refine pr_iconst hC (-1) (by decide +kernel : decode cX12_findsFollower 119 = .ok (.iconst (-1), 1)) rfl ?_
    refine pr_icmp_eq hC 127 (by decide +kernel : decode cX12_findsFollower 120 = .ok (.if_icmp .eq 7, 3)) (by decide) (fun c_120 => ?_) (fun c_120 => ?_)
    · replace H := H.1 c_120
      refine pr_iconst hC (0) (by decide +kernel : decode cX12_findsFollower 127 = .ok (.iconst 0, 1)) rfl ?_
      exact pv_zret hM (by decide +kernel : decode cX12_findsFollower 128 = .ok (.ireturn, 1)) (Or.inl rfl) hU H
    replace H := H.2 c_120
    refine pr_iconst hC (1) (by decide +kernel : decode cX12_findsFollower 123 = .ok (.iconst 1, 1)) rfl ?_
    refine pr_goto hC 128 (by decide +kernel : decode cX12_findsFollower 124 = .ok (.goto 4, 3)) (by decide) ?_
    exact pv_zret hM (by decide +kernel : decode cX12_findsFollower 128 = .ok (.ireturn, 1)) (Or.inr rfl) hU H
  replace H := H.1 c_19
  refine pr_aload_n hC (by decide +kernel : decode cX12_findsFollower 22 = .ok (.aload_n 0, 1)) rfl ?_
  refine pu_g1 hC fg_X12_59 (by decide +kernel : decode cX12_findsFollower 23 = .ok (.getfield 59, 3)) hU ho (by decide) rfl (by decide) ?_
  refine pr_iload_n hC (by decide +kernel : decode cX12_findsFollower 26 = .ok (.iload_n 1, 1)) rfl ?_
  refine pr_iload_n hC (by decide +kernel : decode cX12_findsFollower 27 = .ok (.iload_n 2, 1)) rfl ?_
  refine vc_Si hC hR [.int a1, .int a2] fv_X12_360 (by decide +kernel : decode cX12_findsFollower 28 = .ok (.invokestatic 360, 3)) hU (t_X12_at  H) rfl rfl (Nat.le_of_ble_eq_true rfl) (Nat.le_of_ble_eq_true rfl) (Nat.le_refl 0) (Nat.le_refl 0) (fun r_5 U_4 h H hU => ?_)
  refine pr_iload hC (by decide +kernel : decode cX12_findsFollower 31 = .ok (.iload 4, 2)) rfl ?_
  refine pv_iast hC (by decide +kernel : decode cX12_findsFollower 33 = .ok (.iastore, 1)) hU ho rfl H.1 (fun U_6 h e_U_6 hU => ?_)
  replace H := H.2 U_6 e_U_6
  refine pr_aload_n hC (by decide +kernel : decode cX12_findsFollower 34 = .ok (.aload_n 0, 1)) rfl ?_
  refine pu_g1 hC fg_X12_43 (by decide +kernel : decode cX12_findsFollower 35 = .ok (.getfield 43, 3)) hU ho (by decide) rfl (by decide) ?_
  refine pr_iconst hC (2) (by decide +kernel : decode cX12_findsFollower 38 = .ok (.iconst 2, 1)) rfl ?_
  refine pu_iald hC (by decide +kernel : decode cX12_findsFollower 39 = .ok (.iaload, 1)) hU ho rfl H.1 ?_
  replace H := H.2
  refine pr_iconst hC (1) (by decide +kernel : decode cX12_findsFollower 40 = .ok (.iconst 1, 1)) rfl ?_
  refine pr_isub hC (by decide +kernel : decode cX12_findsFollower 41 = .ok (.isub, 1)) ?_
  refine pv_topi (fun x7_7 e_x7_7 => ?_)
  replace H := H x7_7 e_x7_7
  refine pr_istore hC (by decide +kernel : decode cX12_findsFollower 42 = .ok (.istore 7, 2)) (by decide) rfl ?_
  obtain ⟨n_22, H⟩ := H
  refine pv_sub [some (.ref (Y.2.1 o)), some (.int a1), some (.int a2), some (.int a3), some (.int a4), some (.int a5), some (.int (-1)), some (.int x7_7)] (And.intro rfl (And.intro rfl (And.intro rfl (And.intro rfl (And.intro rfl (And.intro rfl (And.intro rfl (And.intro rfl trivial)))))))) ?_
  refine tl_X12_findsFollower_L44 _ _ _ _ _ _ _ _ ho hC hM hR (fun x6_15 U_16 h H hU => ?_) n_22 _ _ U_6 h hU H
  refine pr_aload_n hC (by decide +kernel : decode cX12_findsFollower 89 = .ok (.aload_n 0, 1)) rfl ?_
  refine pu_g1 hC fg_X12_59 (by decide +kernel : decode cX12_findsFollower 90 = .ok (.getfield 59, 3)) hU ho (by decide) rfl (by decide) ?_
  refine pr_iload_n hC (by decide +kernel : decode cX12_findsFollower 93 = .ok (.iload_n 1, 1)) rfl ?_
  refine pr_iload_n hC (by decide +kernel : decode cX12_findsFollower 94 = .ok (.iload_n 2, 1)) rfl ?_
  refine vc_Si hC hR [.int a1, .int a2] fv_X12_360 (by decide +kernel : decode cX12_findsFollower 95 = .ok (.invokestatic 360, 3)) hU (t_X12_at  H) rfl rfl (Nat.le_of_ble_eq_true rfl) (Nat.le_of_ble_eq_true rfl) (Nat.le_refl 0) (Nat.le_refl 0) (fun r_18 U_17 h H hU => ?_)
  refine pr_iconst hC (-1) (by decide +kernel : decode cX12_findsFollower 98 = .ok (.iconst (-1), 1)) rfl ?_
  refine pv_iast hC (by decide +kernel : decode cX12_findsFollower 99 = .ok (.iastore, 1)) hU ho rfl H.1 (fun U_19 h e_U_19 hU => ?_)
  replace H := H.2 U_19 e_U_19
  refine pr_aload_n hC (by decide +kernel : decode cX12_findsFollower 100 = .ok (.aload_n 0, 1)) rfl ?_
  refine pu_g1 hC fg_X12_59 (by decide +kernel : decode cX12_findsFollower 101 = .ok (.getfield 59, 3)) hU ho (by decide) rfl (by decide) ?_
  refine pr_iload hC (by decide +kernel : decode cX12_findsFollower 104 = .ok (.iload 5, 2)) rfl ?_
  refine pr_iload hC (by decide +kernel : decode cX12_findsFollower 106 = .ok (.iload 4, 2)) rfl ?_
  refine pv_iast hC (by decide +kernel : decode cX12_findsFollower 108 = .ok (.iastore, 1)) hU ho rfl H.1 (fun U_20 h e_U_20 hU => ?_)
  replace H := H.2 U_20 e_U_20
  refine pr_aload_n hC (by decide +kernel : decode cX12_findsFollower 109 = .ok (.aload_n 0, 1)) rfl ?_
  refine pu_g1 hC fg_X12_102 (by decide +kernel : decode cX12_findsFollower 110 = .ok (.getfield 102, 3)) hU ho (by decide) rfl (by decide) ?_
  refine pr_iconst hC (4) (by decide +kernel : decode cX12_findsFollower 113 = .ok (.iconst 4, 1)) rfl ?_
  refine pr_iload hC (by decide +kernel : decode cX12_findsFollower 114 = .ok (.iload 6, 2)) rfl ?_
  refine pv_iast hC (by decide +kernel : decode cX12_findsFollower 116 = .ok (.iastore, 1)) hU ho rfl H.1 (fun U_21 h e_U_21 hU => ?_)
  replace H := H.2 U_21 e_U_21
  refine pr_iload hC (by decide +kernel : decode cX12_findsFollower 117 = .ok (.iload 6, 2)) rfl ?_
  refine pr_iconst hC (-1) (by decide +kernel : decode cX12_findsFollower 119 = .ok (.iconst (-1), 1)) rfl ?_
  refine pr_icmp_eq hC 127 (by decide +kernel : decode cX12_findsFollower 120 = .ok (.if_icmp .eq 7, 3)) (by decide) (fun c_120 => ?_) (fun c_120 => ?_)
  · replace H := H.1 c_120
    refine pr_iconst hC (0) (by decide +kernel : decode cX12_findsFollower 127 = .ok (.iconst 0, 1)) rfl ?_
    exact pv_zret hM (by decide +kernel : decode cX12_findsFollower 128 = .ok (.ireturn, 1)) (Or.inl rfl) hU H
  replace H := H.2 c_120
  refine pr_iconst hC (1) (by decide +kernel : decode cX12_findsFollower 123 = .ok (.iconst 1, 1)) rfl ?_
  refine pr_goto hC 128 (by decide +kernel : decode cX12_findsFollower 124 = .ok (.goto 4, 3)) (by decide) ?_
  exact pv_zret hM (by decide +kernel : decode cX12_findsFollower 128 = .ok (.ireturn, 1)) (Or.inr rfl) hU H
def b_X12_findsStep_L3 (o0 : Nat) (x1 : Int32) (x2 : Int32) (x3 : Int32) (post : Int32 → Um → Prop) (k_23 : Um → Prop) (rec_ : Int32 → Um → Prop) (x4 : Int32) (U : Um) : Prop :=
  ((5 : Int32) ≤ x4 → k_23 U) ∧ (¬ (5 : Int32) ≤ x4 → vp_in x4 5 ∧ ∀ (U_1 : Um), U_1 = sA U o0 48 (va_up (uA U o0 48) (Int32.toNatClampNeg x4) (-1)) → ∀ (x4_2 : Int32), x4_2 = x4 + 1 → rec_ x4_2 U_1)
def w_X12_findsStep_L3 (o0 : Nat) (x1 : Int32) (x2 : Int32) (x3 : Int32) (post : Int32 → Um → Prop) (k_23 : Um → Prop) (n_ : Nat) : Int32 → Um → Prop := Nat.rec (motive := fun _ => Int32 → Um → Prop) (fun _ _ => False) (fun _ ih => b_X12_findsStep_L3 o0 x1 x2 x3 post k_23 ih) n_
def b_X12_findsStep_L26 (o0 : Nat) (x1 : Int32) (x2 : Int32) (x3 : Int32) (post : Int32 → Um → Prop) (k_57 : Int32 → Um → Prop) (k_80 : Um → Prop) (rec_ : Int32 → Um → Prop) (x4 : Int32) (U : Um) : Prop :=
  vp_in 2 14 ∧ ((uA U o0 11 (Int32.toNatClampNeg 2)) ≤ x4 → k_80 U) ∧ (¬ (uA U o0 11 (Int32.toNatClampNeg 2)) ≤ x4 → (x4 = x3 → ∀ (x4_4 : Int32), x4_4 = x4 + 1 → rec_ x4_4 U) ∧ (¬ x4 = x3 → w_X12_whyNot o0 x1 x2 x4 U (fun r_6 U_5 => (r_6 = 0 → k_57 x4 U_5) ∧ (¬ r_6 = 0 → ∀ (x4_7 : Int32), x4_7 = x4 + 1 → rec_ x4_7 U_5))))
def w_X12_findsStep_L26 (o0 : Nat) (x1 : Int32) (x2 : Int32) (x3 : Int32) (post : Int32 → Um → Prop) (k_57 : Int32 → Um → Prop) (k_80 : Um → Prop) (n_ : Nat) : Int32 → Um → Prop := Nat.rec (motive := fun _ => Int32 → Um → Prop) (fun _ _ => False) (fun _ ih => b_X12_findsStep_L26 o0 x1 x2 x3 post k_57 k_80 ih) n_
def b_X12_findsStep_L97 (o0 : Nat) (x1 : Int32) (x2 : Int32) (x3 : Int32) (x4 : Int32) (post : Int32 → Um → Prop) (k_158 : Int32 → Um → Prop) (k_201 : Um → Prop) (rec_ : Int32 → Um → Prop) (x5 : Int32) (U : Um) : Prop :=
  ((48 : Int32) ≤ x5 → k_201 U) ∧ (¬ (48 : Int32) ≤ x5 → (x4 = x3 → k_201 U) ∧ (¬ x4 = x3 → vp_in x5 48 ∧ ((uA U o0 30 (Int32.toNatClampNeg x5)) = x4 → ((x5 / 3) = x1 → ∀ (x5_13 : Int32), x5_13 = x5 + 1 → rec_ x5_13 U) ∧ (¬ (x5 / 3) = x1 → w_X12_isPlayed o0 (x5 / 3) U (fun r_15 U_14 => (r_15 = 0 → w_X12_findsFollower o0 x1 x2 x3 x4 x5 U_14 (fun r_17 U_16 => (r_17 = 0 → ∀ (x5_18 : Int32), x5_18 = x5 + 1 → rec_ x5_18 U_16) ∧ (¬ r_17 = 0 → k_158 x5 U_16))) ∧ (¬ r_15 = 0 → ∀ (x5_19 : Int32), x5_19 = x5 + 1 → rec_ x5_19 U_14)))) ∧ (¬ (uA U o0 30 (Int32.toNatClampNeg x5)) = x4 → ∀ (x5_20 : Int32), x5_20 = x5 + 1 → rec_ x5_20 U)))
def w_X12_findsStep_L97 (o0 : Nat) (x1 : Int32) (x2 : Int32) (x3 : Int32) (x4 : Int32) (post : Int32 → Um → Prop) (k_158 : Int32 → Um → Prop) (k_201 : Um → Prop) (n_ : Nat) : Int32 → Um → Prop := Nat.rec (motive := fun _ => Int32 → Um → Prop) (fun _ _ => False) (fun _ ih => b_X12_findsStep_L97 o0 x1 x2 x3 x4 post k_158 k_201 ih) n_
def b_X12_findsStep_L83 (o0 : Nat) (x1 : Int32) (x2 : Int32) (x3 : Int32) (post : Int32 → Um → Prop) (k_158 : Int32 → Int32 → Um → Prop) (rec_ : Int32 → Um → Prop) (x4 : Int32) (U : Um) : Prop :=
  vp_in 2 14 ∧ ((uA U o0 11 (Int32.toNatClampNeg 2)) ≤ x4 → post 0 U) ∧ (¬ (uA U o0 11 (Int32.toNatClampNeg 2)) ≤ x4 → (∃ n_25, w_X12_findsStep_L97 o0 x1 x2 x3 x4 post (fun x5_21 U_22 => k_158 x4 x5_21 U_22) (fun U_23 => ∀ (x4_24 : Int32), x4_24 = x4 + 1 → rec_ x4_24 U_23) n_25 0 U))
def w_X12_findsStep_L83 (o0 : Nat) (x1 : Int32) (x2 : Int32) (x3 : Int32) (post : Int32 → Um → Prop) (k_158 : Int32 → Int32 → Um → Prop) (n_ : Nat) : Int32 → Um → Prop := Nat.rec (motive := fun _ => Int32 → Um → Prop) (fun _ _ => False) (fun _ ih => b_X12_findsStep_L83 o0 x1 x2 x3 post k_158 ih) n_
def w_X12_findsStep (o : Nat) (a1 : Int32) (a2 : Int32) (a3 : Int32) (U : Um) (post : Int32 → Um → Prop) : Prop :=
  (∃ n_35, w_X12_findsStep_L3 o a1 a2 a3 post (fun U_3 => (∃ n_34, w_X12_findsStep_L26 o a1 a2 a3 post (fun x4_8 U_9 => vp_in 0 5 ∧ ∀ (U_10 : Um), U_10 = sA U_9 o 48 (va_up (uA U_9 o 48) (Int32.toNatClampNeg 0) 1) → vp_in 1 5 ∧ ∀ (U_11 : Um), U_11 = sA U_10 o 48 (va_up (uA U_10 o 48) (Int32.toNatClampNeg 1) x4_8) → post 1 U_11) (fun U_12 => (∃ n_33, w_X12_findsStep_L83 o a1 a2 a3 post (fun x4_26 x5_27 U_28 => vp_in 0 5 ∧ ∀ (U_29 : Um), U_29 = sA U_28 o 48 (va_up (uA U_28 o 48) (Int32.toNatClampNeg 0) 2) → vp_in 1 5 ∧ ∀ (U_30 : Um), U_30 = sA U_29 o 48 (va_up (uA U_29 o 48) (Int32.toNatClampNeg 1) x4_26) → vp_in 2 5 ∧ ∀ (U_31 : Um), U_31 = sA U_30 o 48 (va_up (uA U_30 o 48) (Int32.toNatClampNeg 2) (x5_27 / 3)) → vp_in 3 5 ∧ ∀ (U_32 : Um), U_32 = sA U_31 o 48 (va_up (uA U_31 o 48) (Int32.toNatClampNeg 3) (x5_27 - x5_27 / 3 * 3)) → post 1 U_32) n_33 0 U_12)) n_34 0 U_3)) n_35 1 U)
set_option maxHeartbeats 4000000 in
theorem tl_X12_findsStep_L3 {l : Launch} {Y : px_Y} {X : px_X} {h0 hh : pe_H} {sz : Nat} (o0 : Nat) (x1 : Int32) (x2 : Int32) (x3 : Int32) (post : Int32 → Um → Prop) (k_23 : Um → Prop) (ho0 : oc o0 = 10)  (hC : px_C X Y.1 (pm_A hh sz) cX12_findsStep RX12 6) (hM : px_M l X Y.1 hh sz yX12_findsStep cX12_findsStep 6 (some (.boolean)) 5 0 0) (hR : X.2.2.2.1 = pm_rm 5 0 0) (hk_23 : ∀ (U : Um) (h : pe_H), k_23 U → rF Y h0 U h → pw X Y.1 (pm_A hh sz) (pm_E X Y.1 hh sz 0 0 (pm_P Y h0 sz (pq_i post))) 23 [some (.ref (Y.2.1 o0)), some (.int x1), some (.int x2), some (.int x3), none, none] [] h sz 0 0) : ∀ (n_ : Nat) (x4 : Int32) (U : Um) (h : pe_H), rF Y h0 U h → w_X12_findsStep_L3 o0 x1 x2 x3 post k_23 n_ x4 U → pw X Y.1 (pm_A hh sz) (pm_E X Y.1 hh sz 0 0 (pm_P Y h0 sz (pq_i post))) 3 [some (.ref (Y.2.1 o0)), some (.int x1), some (.int x2), some (.int x3), some (.int x4), none] [] h sz 0 0 := by
  intro n_
  induction n_ with
  | zero => intro x4 U h hU H; exact False.elim H
  | succ n_ ih =>
    intro x4 U h hU H
    replace H : b_X12_findsStep_L3 o0 x1 x2 x3 post k_23 (w_X12_findsStep_L3 o0 x1 x2 x3 post k_23 n_) x4 U := H
    unfold b_X12_findsStep_L3 at H
    refine pr_iload hC (by decide +kernel : decode cX12_findsStep 3 = .ok (.iload 4, 2)) rfl ?_
    refine pr_iconst hC (5) (by decide +kernel : decode cX12_findsStep 5 = .ok (.iconst 5, 1)) rfl ?_
    refine pr_icmp_ge hC 23 (by decide +kernel : decode cX12_findsStep 6 = .ok (.if_icmp .ge 17, 3)) (by decide) (fun c_6 => ?_) (fun c_6 => ?_)
    · replace H := H.1 c_6
      exact pv_sub [some (.ref (Y.2.1 o0)), some (.int x1), some (.int x2), some (.int x3), none, none] (And.intro rfl (And.intro rfl (And.intro rfl (And.intro rfl trivial)))) (hk_23 U h H hU)
    replace H := H.2 c_6
    refine pr_aload_n hC (by decide +kernel : decode cX12_findsStep 9 = .ok (.aload_n 0, 1)) rfl ?_
    refine pu_g1 hC fg_X12_102 (by decide +kernel : decode cX12_findsStep 10 = .ok (.getfield 102, 3)) hU ho0 (by decide) rfl (by decide) ?_
    refine pr_iload hC (by decide +kernel : decode cX12_findsStep 13 = .ok (.iload 4, 2)) rfl ?_
    refine pr_iconst hC (-1) (by decide +kernel : decode cX12_findsStep 15 = .ok (.iconst (-1), 1)) rfl ?_
    refine pv_iast hC (by decide +kernel : decode cX12_findsStep 16 = .ok (.iastore, 1)) hU ho0 rfl H.1 (fun U_1 h e_U_1 hU => ?_)
    replace H := H.2 U_1 e_U_1
    refine pv_iinc hC (v := x4 + 1) (by decide +kernel : decode cX12_findsStep 17 = .ok (.iinc 4 1, 3)) rfl (by decide) rfl rfl (fun x4_2 e_x4_2 => ?_)
    replace H := H x4_2 e_x4_2
    refine pr_goto hC 3 (by decide +kernel : decode cX12_findsStep 20 = .ok (.goto (-17), 3)) (by decide) ?_
    exact pv_sub [some (.ref (Y.2.1 o0)), some (.int x1), some (.int x2), some (.int x3), some (.int x4_2), none] (And.intro rfl (And.intro rfl (And.intro rfl (And.intro rfl (And.intro rfl trivial))))) (ih _ U_1 h hU H)
set_option maxHeartbeats 4000000 in
theorem tl_X12_findsStep_L26 {l : Launch} {Y : px_Y} {X : px_X} {h0 hh : pe_H} {sz : Nat} (o0 : Nat) (x1 : Int32) (x2 : Int32) (x3 : Int32) (post : Int32 → Um → Prop) (k_57 : Int32 → Um → Prop) (k_80 : Um → Prop) (ho0 : oc o0 = 10)  (hC : px_C X Y.1 (pm_A hh sz) cX12_findsStep RX12 6) (hM : px_M l X Y.1 hh sz yX12_findsStep cX12_findsStep 6 (some (.boolean)) 5 0 0) (hR : X.2.2.2.1 = pm_rm 5 0 0) (hk_57 : ∀ (y4 : Int32) (U : Um) (h : pe_H), k_57 y4 U → rF Y h0 U h → pw X Y.1 (pm_A hh sz) (pm_E X Y.1 hh sz 0 0 (pm_P Y h0 sz (pq_i post))) 57 [some (.ref (Y.2.1 o0)), none, none, none, some (.int y4), none] [] h sz 0 0) (hk_80 : ∀ (U : Um) (h : pe_H), k_80 U → rF Y h0 U h → pw X Y.1 (pm_A hh sz) (pm_E X Y.1 hh sz 0 0 (pm_P Y h0 sz (pq_i post))) 80 [some (.ref (Y.2.1 o0)), some (.int x1), some (.int x2), some (.int x3), none, none] [] h sz 0 0) : ∀ (n_ : Nat) (x4 : Int32) (U : Um) (h : pe_H), rF Y h0 U h → w_X12_findsStep_L26 o0 x1 x2 x3 post k_57 k_80 n_ x4 U → pw X Y.1 (pm_A hh sz) (pm_E X Y.1 hh sz 0 0 (pm_P Y h0 sz (pq_i post))) 26 [some (.ref (Y.2.1 o0)), some (.int x1), some (.int x2), some (.int x3), some (.int x4), none] [] h sz 0 0 := by
  intro n_
  induction n_ with
  | zero => intro x4 U h hU H; exact False.elim H
  | succ n_ ih =>
    intro x4 U h hU H
    replace H : b_X12_findsStep_L26 o0 x1 x2 x3 post k_57 k_80 (w_X12_findsStep_L26 o0 x1 x2 x3 post k_57 k_80 n_) x4 U := H
    unfold b_X12_findsStep_L26 at H
    refine pr_iload hC (by decide +kernel : decode cX12_findsStep 26 = .ok (.iload 4, 2)) rfl ?_
    refine pr_aload_n hC (by decide +kernel : decode cX12_findsStep 28 = .ok (.aload_n 0, 1)) rfl ?_
    refine pu_g1 hC fg_X12_43 (by decide +kernel : decode cX12_findsStep 29 = .ok (.getfield 43, 3)) hU ho0 (by decide) rfl (by decide) ?_
    refine pr_iconst hC (2) (by decide +kernel : decode cX12_findsStep 32 = .ok (.iconst 2, 1)) rfl ?_
    refine pu_iald hC (by decide +kernel : decode cX12_findsStep 33 = .ok (.iaload, 1)) hU ho0 rfl H.1 ?_
    replace H := H.2
    refine pr_icmp_ge hC 80 (by decide +kernel : decode cX12_findsStep 34 = .ok (.if_icmp .ge 46, 3)) (by decide) (fun c_34 => ?_) (fun c_34 => ?_)
    · replace H := H.1 c_34
      exact pv_sub [some (.ref (Y.2.1 o0)), some (.int x1), some (.int x2), some (.int x3), none, none] (And.intro rfl (And.intro rfl (And.intro rfl (And.intro rfl trivial)))) (hk_80 U h H hU)
    replace H := H.2 c_34
    refine pr_iload hC (by decide +kernel : decode cX12_findsStep 37 = .ok (.iload 4, 2)) rfl ?_
    refine pr_iload_n hC (by decide +kernel : decode cX12_findsStep 39 = .ok (.iload_n 3, 1)) rfl ?_
    refine pr_icmp_eq hC 74 (by decide +kernel : decode cX12_findsStep 40 = .ok (.if_icmp .eq 34, 3)) (by decide) (fun c_40 => ?_) (fun c_40 => ?_)
    · replace H := H.1 c_40
      refine pv_iinc hC (v := x4 + 1) (by decide +kernel : decode cX12_findsStep 74 = .ok (.iinc 4 1, 3)) rfl (by decide) rfl rfl (fun x4_4 e_x4_4 => ?_)
      replace H := H x4_4 e_x4_4
      refine pr_goto hC 26 (by decide +kernel : decode cX12_findsStep 77 = .ok (.goto (-51), 3)) (by decide) ?_
      exact pv_sub [some (.ref (Y.2.1 o0)), some (.int x1), some (.int x2), some (.int x3), some (.int x4_4), none] (And.intro rfl (And.intro rfl (And.intro rfl (And.intro rfl (And.intro rfl trivial))))) (ih _ U h hU H)
    replace H := H.2 c_40
    refine pr_aload_n hC (by decide +kernel : decode cX12_findsStep 43 = .ok (.aload_n 0, 1)) rfl ?_
    refine pr_iload_n hC (by decide +kernel : decode cX12_findsStep 44 = .ok (.iload_n 1, 1)) rfl ?_
    refine pr_iload_n hC (by decide +kernel : decode cX12_findsStep 45 = .ok (.iload_n 2, 1)) rfl ?_
    refine pr_iload hC (by decide +kernel : decode cX12_findsStep 46 = .ok (.iload 4, 2)) rfl ?_
    refine vc_Vi hC hR [.int x1, .int x2, .int x4] fv_X12_423 (by decide +kernel : decode cX12_findsStep 48 = .ok (.invokevirtual 423, 3)) hU (t_X12_whyNot ho0 H) ho0 (by decide) rfl rfl rfl (Nat.le_of_ble_eq_true rfl) (Nat.le_of_ble_eq_true rfl) (Nat.le_refl 0) (Nat.le_refl 0) (fun r_6 U_5 h H hU => ?_)
    refine pr_if_eq hC 57 (by decide +kernel : decode cX12_findsStep 51 = .ok (.ifCond .eq 6, 3)) (by decide) (fun c_51 => ?_) (fun c_51 => ?_)
    · replace H := H.1 c_51
      exact pv_sub [some (.ref (Y.2.1 o0)), none, none, none, some (.int x4), none] (And.intro rfl (And.intro rfl trivial)) (hk_57 _ U_5 h H hU)
    replace H := H.2 c_51
    refine pr_goto hC 74 (by decide +kernel : decode cX12_findsStep 54 = .ok (.goto 20, 3)) (by decide) ?_
    refine pv_iinc hC (v := x4 + 1) (by decide +kernel : decode cX12_findsStep 74 = .ok (.iinc 4 1, 3)) rfl (by decide) rfl rfl (fun x4_7 e_x4_7 => ?_)
    replace H := H x4_7 e_x4_7
    refine pr_goto hC 26 (by decide +kernel : decode cX12_findsStep 77 = .ok (.goto (-51), 3)) (by decide) ?_
    exact pv_sub [some (.ref (Y.2.1 o0)), some (.int x1), some (.int x2), some (.int x3), some (.int x4_7), none] (And.intro rfl (And.intro rfl (And.intro rfl (And.intro rfl (And.intro rfl trivial))))) (ih _ U_5 h hU H)
set_option maxHeartbeats 4000000 in
theorem tl_X12_findsStep_L97 {l : Launch} {Y : px_Y} {X : px_X} {h0 hh : pe_H} {sz : Nat} (o0 : Nat) (x1 : Int32) (x2 : Int32) (x3 : Int32) (x4 : Int32) (post : Int32 → Um → Prop) (k_158 : Int32 → Um → Prop) (k_201 : Um → Prop) (ho0 : oc o0 = 10)  (hC : px_C X Y.1 (pm_A hh sz) cX12_findsStep RX12 6) (hM : px_M l X Y.1 hh sz yX12_findsStep cX12_findsStep 6 (some (.boolean)) 5 0 0) (hR : X.2.2.2.1 = pm_rm 5 0 0) (hk_158 : ∀ (y5 : Int32) (U : Um) (h : pe_H), k_158 y5 U → rF Y h0 U h → pw X Y.1 (pm_A hh sz) (pm_E X Y.1 hh sz 0 0 (pm_P Y h0 sz (pq_i post))) 158 [some (.ref (Y.2.1 o0)), none, none, none, some (.int x4), some (.int y5)] [] h sz 0 0) (hk_201 : ∀ (U : Um) (h : pe_H), k_201 U → rF Y h0 U h → pw X Y.1 (pm_A hh sz) (pm_E X Y.1 hh sz 0 0 (pm_P Y h0 sz (pq_i post))) 201 [some (.ref (Y.2.1 o0)), some (.int x1), some (.int x2), some (.int x3), some (.int x4), none] [] h sz 0 0) : ∀ (n_ : Nat) (x5 : Int32) (U : Um) (h : pe_H), rF Y h0 U h → w_X12_findsStep_L97 o0 x1 x2 x3 x4 post k_158 k_201 n_ x5 U → pw X Y.1 (pm_A hh sz) (pm_E X Y.1 hh sz 0 0 (pm_P Y h0 sz (pq_i post))) 97 [some (.ref (Y.2.1 o0)), some (.int x1), some (.int x2), some (.int x3), some (.int x4), some (.int x5)] [] h sz 0 0 := by
  intro n_
  induction n_ with
  | zero => intro x5 U h hU H; exact False.elim H
  | succ n_ ih =>
    intro x5 U h hU H
    replace H : b_X12_findsStep_L97 o0 x1 x2 x3 x4 post k_158 k_201 (w_X12_findsStep_L97 o0 x1 x2 x3 x4 post k_158 k_201 n_) x5 U := H
    unfold b_X12_findsStep_L97 at H
    refine pr_iload hC (by decide +kernel : decode cX12_findsStep 97 = .ok (.iload 5, 2)) rfl ?_
    refine pr_bipush hC (48) (by decide +kernel : decode cX12_findsStep 99 = .ok (.bipush 48, 2)) rfl ?_
    refine pr_icmp_ge hC 201 (by decide +kernel : decode cX12_findsStep 101 = .ok (.if_icmp .ge 100, 3)) (by decide) (fun c_101 => ?_) (fun c_101 => ?_)
    · replace H := H.1 c_101
      exact pv_sub [some (.ref (Y.2.1 o0)), some (.int x1), some (.int x2), some (.int x3), some (.int x4), none] (And.intro rfl (And.intro rfl (And.intro rfl (And.intro rfl (And.intro rfl trivial))))) (hk_201 U h H hU)
    replace H := H.2 c_101
    refine pr_iload hC (by decide +kernel : decode cX12_findsStep 104 = .ok (.iload 4, 2)) rfl ?_
    refine pr_iload_n hC (by decide +kernel : decode cX12_findsStep 106 = .ok (.iload_n 3, 1)) rfl ?_
    refine pr_icmp_eq hC 201 (by decide +kernel : decode cX12_findsStep 107 = .ok (.if_icmp .eq 94, 3)) (by decide) (fun c_107 => ?_) (fun c_107 => ?_)
    · replace H := H.1 c_107
      exact pv_sub [some (.ref (Y.2.1 o0)), some (.int x1), some (.int x2), some (.int x3), some (.int x4), none] (And.intro rfl (And.intro rfl (And.intro rfl (And.intro rfl (And.intro rfl trivial))))) (hk_201 U h H hU)
    replace H := H.2 c_107
    refine pr_aload_n hC (by decide +kernel : decode cX12_findsStep 110 = .ok (.aload_n 0, 1)) rfl ?_
    refine pu_g1 hC fg_X12_59 (by decide +kernel : decode cX12_findsStep 111 = .ok (.getfield 59, 3)) hU ho0 (by decide) rfl (by decide) ?_
    refine pr_iload hC (by decide +kernel : decode cX12_findsStep 114 = .ok (.iload 5, 2)) rfl ?_
    refine pu_iald hC (by decide +kernel : decode cX12_findsStep 116 = .ok (.iaload, 1)) hU ho0 rfl H.1 ?_
    replace H := H.2
    refine pr_iload hC (by decide +kernel : decode cX12_findsStep 117 = .ok (.iload 4, 2)) rfl ?_
    refine pr_icmp_ne hC 195 (by decide +kernel : decode cX12_findsStep 119 = .ok (.if_icmp .ne 76, 3)) (by decide) (fun c_119 => ?_) (fun c_119 => ?_)
    · replace H := H.2 c_119
      refine pv_iinc hC (v := x5 + 1) (by decide +kernel : decode cX12_findsStep 195 = .ok (.iinc 5 1, 3)) rfl (by decide) rfl rfl (fun x5_20 e_x5_20 => ?_)
      replace H := H x5_20 e_x5_20
      refine pr_goto hC 97 (by decide +kernel : decode cX12_findsStep 198 = .ok (.goto (-101), 3)) (by decide) ?_
      exact pv_sub [some (.ref (Y.2.1 o0)), some (.int x1), some (.int x2), some (.int x3), some (.int x4), some (.int x5_20)] (And.intro rfl (And.intro rfl (And.intro rfl (And.intro rfl (And.intro rfl (And.intro rfl trivial)))))) (ih _ U h hU H)
    replace H := H.1 c_119
    refine pr_iload hC (by decide +kernel : decode cX12_findsStep 122 = .ok (.iload 5, 2)) rfl ?_
    refine pr_iconst hC (3) (by decide +kernel : decode cX12_findsStep 124 = .ok (.iconst 3, 1)) rfl ?_
    refine pr_idiv hC (by decide +kernel : decode cX12_findsStep 125 = .ok (.idiv, 1)) (by decide) ?_
    refine pr_iload_n hC (by decide +kernel : decode cX12_findsStep 126 = .ok (.iload_n 1, 1)) rfl ?_
    refine pr_icmp_eq hC 195 (by decide +kernel : decode cX12_findsStep 127 = .ok (.if_icmp .eq 68, 3)) (by decide) (fun c_127 => ?_) (fun c_127 => ?_)
    · replace H := H.1 c_127
      refine pv_iinc hC (v := x5 + 1) (by decide +kernel : decode cX12_findsStep 195 = .ok (.iinc 5 1, 3)) rfl (by decide) rfl rfl (fun x5_13 e_x5_13 => ?_)
      replace H := H x5_13 e_x5_13
      refine pr_goto hC 97 (by decide +kernel : decode cX12_findsStep 198 = .ok (.goto (-101), 3)) (by decide) ?_
      exact pv_sub [some (.ref (Y.2.1 o0)), some (.int x1), some (.int x2), some (.int x3), some (.int x4), some (.int x5_13)] (And.intro rfl (And.intro rfl (And.intro rfl (And.intro rfl (And.intro rfl (And.intro rfl trivial)))))) (ih _ U h hU H)
    replace H := H.2 c_127
    refine pr_aload_n hC (by decide +kernel : decode cX12_findsStep 130 = .ok (.aload_n 0, 1)) rfl ?_
    refine pr_iload hC (by decide +kernel : decode cX12_findsStep 131 = .ok (.iload 5, 2)) rfl ?_
    refine pr_iconst hC (3) (by decide +kernel : decode cX12_findsStep 133 = .ok (.iconst 3, 1)) rfl ?_
    refine pr_idiv hC (by decide +kernel : decode cX12_findsStep 134 = .ok (.idiv, 1)) (by decide) ?_
    refine vc_Vi hC hR [.int (x5 / 3)] fv_X12_382 (by decide +kernel : decode cX12_findsStep 135 = .ok (.invokevirtual 382, 3)) hU (t_X12_isPlayed ho0 H) ho0 (by decide) rfl rfl rfl (Nat.le_of_ble_eq_true rfl) (Nat.le_of_ble_eq_true rfl) (Nat.le_refl 0) (Nat.le_refl 0) (fun r_15 U_14 h H hU => ?_)
    refine pr_if_ne hC 195 (by decide +kernel : decode cX12_findsStep 138 = .ok (.ifCond .ne 57, 3)) (by decide) (fun c_138 => ?_) (fun c_138 => ?_)
    · replace H := H.2 c_138
      refine pv_iinc hC (v := x5 + 1) (by decide +kernel : decode cX12_findsStep 195 = .ok (.iinc 5 1, 3)) rfl (by decide) rfl rfl (fun x5_19 e_x5_19 => ?_)
      replace H := H x5_19 e_x5_19
      refine pr_goto hC 97 (by decide +kernel : decode cX12_findsStep 198 = .ok (.goto (-101), 3)) (by decide) ?_
      exact pv_sub [some (.ref (Y.2.1 o0)), some (.int x1), some (.int x2), some (.int x3), some (.int x4), some (.int x5_19)] (And.intro rfl (And.intro rfl (And.intro rfl (And.intro rfl (And.intro rfl (And.intro rfl trivial)))))) (ih _ U_14 h hU H)
    replace H := H.1 c_138
    refine pr_aload_n hC (by decide +kernel : decode cX12_findsStep 141 = .ok (.aload_n 0, 1)) rfl ?_
    refine pr_iload_n hC (by decide +kernel : decode cX12_findsStep 142 = .ok (.iload_n 1, 1)) rfl ?_
    refine pr_iload_n hC (by decide +kernel : decode cX12_findsStep 143 = .ok (.iload_n 2, 1)) rfl ?_
    refine pr_iload_n hC (by decide +kernel : decode cX12_findsStep 144 = .ok (.iload_n 3, 1)) rfl ?_
    refine pr_iload hC (by decide +kernel : decode cX12_findsStep 145 = .ok (.iload 4, 2)) rfl ?_
    refine pr_iload hC (by decide +kernel : decode cX12_findsStep 147 = .ok (.iload 5, 2)) rfl ?_
    refine vc_Vi hC hR [.int x1, .int x2, .int x3, .int x4, .int x5] fv_X12_495 (by decide +kernel : decode cX12_findsStep 149 = .ok (.invokevirtual 495, 3)) hU (t_X12_findsFollower ho0 H) ho0 (by decide) rfl rfl rfl (Nat.le_of_ble_eq_true rfl) (Nat.le_of_ble_eq_true rfl) (Nat.le_refl 0) (Nat.le_refl 0) (fun r_17 U_16 h H hU => ?_)
    refine pr_if_ne hC 158 (by decide +kernel : decode cX12_findsStep 152 = .ok (.ifCond .ne 6, 3)) (by decide) (fun c_152 => ?_) (fun c_152 => ?_)
    · replace H := H.2 c_152
      exact pv_sub [some (.ref (Y.2.1 o0)), none, none, none, some (.int x4), some (.int x5)] (And.intro rfl (And.intro rfl (And.intro rfl trivial))) (hk_158 _ U_16 h H hU)
    replace H := H.1 c_152
    refine pr_goto hC 195 (by decide +kernel : decode cX12_findsStep 155 = .ok (.goto 40, 3)) (by decide) ?_
    refine pv_iinc hC (v := x5 + 1) (by decide +kernel : decode cX12_findsStep 195 = .ok (.iinc 5 1, 3)) rfl (by decide) rfl rfl (fun x5_18 e_x5_18 => ?_)
    replace H := H x5_18 e_x5_18
    refine pr_goto hC 97 (by decide +kernel : decode cX12_findsStep 198 = .ok (.goto (-101), 3)) (by decide) ?_
    exact pv_sub [some (.ref (Y.2.1 o0)), some (.int x1), some (.int x2), some (.int x3), some (.int x4), some (.int x5_18)] (And.intro rfl (And.intro rfl (And.intro rfl (And.intro rfl (And.intro rfl (And.intro rfl trivial)))))) (ih _ U_16 h hU H)
set_option maxHeartbeats 4000000 in
theorem tl_X12_findsStep_L83 {l : Launch} {Y : px_Y} {X : px_X} {h0 hh : pe_H} {sz : Nat} (o0 : Nat) (x1 : Int32) (x2 : Int32) (x3 : Int32) (post : Int32 → Um → Prop) (k_158 : Int32 → Int32 → Um → Prop) (ho0 : oc o0 = 10)  (hC : px_C X Y.1 (pm_A hh sz) cX12_findsStep RX12 6) (hM : px_M l X Y.1 hh sz yX12_findsStep cX12_findsStep 6 (some (.boolean)) 5 0 0) (hR : X.2.2.2.1 = pm_rm 5 0 0) (hk_158 : ∀ (y4 : Int32) (y5 : Int32) (U : Um) (h : pe_H), k_158 y4 y5 U → rF Y h0 U h → pw X Y.1 (pm_A hh sz) (pm_E X Y.1 hh sz 0 0 (pm_P Y h0 sz (pq_i post))) 158 [some (.ref (Y.2.1 o0)), none, none, none, some (.int y4), some (.int y5)] [] h sz 0 0) : ∀ (n_ : Nat) (x4 : Int32) (U : Um) (h : pe_H), rF Y h0 U h → w_X12_findsStep_L83 o0 x1 x2 x3 post k_158 n_ x4 U → pw X Y.1 (pm_A hh sz) (pm_E X Y.1 hh sz 0 0 (pm_P Y h0 sz (pq_i post))) 83 [some (.ref (Y.2.1 o0)), some (.int x1), some (.int x2), some (.int x3), some (.int x4), none] [] h sz 0 0 := by
  intro n_
  induction n_ with
  | zero => intro x4 U h hU H; exact False.elim H
  | succ n_ ih =>
    intro x4 U h hU H
    replace H : b_X12_findsStep_L83 o0 x1 x2 x3 post k_158 (w_X12_findsStep_L83 o0 x1 x2 x3 post k_158 n_) x4 U := H
    unfold b_X12_findsStep_L83 at H
    refine pr_iload hC (by decide +kernel : decode cX12_findsStep 83 = .ok (.iload 4, 2)) rfl ?_
    refine pr_aload_n hC (by decide +kernel : decode cX12_findsStep 85 = .ok (.aload_n 0, 1)) rfl ?_
    refine pu_g1 hC fg_X12_43 (by decide +kernel : decode cX12_findsStep 86 = .ok (.getfield 43, 3)) hU ho0 (by decide) rfl (by decide) ?_
    refine pr_iconst hC (2) (by decide +kernel : decode cX12_findsStep 89 = .ok (.iconst 2, 1)) rfl ?_
    refine pu_iald hC (by decide +kernel : decode cX12_findsStep 90 = .ok (.iaload, 1)) hU ho0 rfl H.1 ?_
    replace H := H.2
    refine pr_icmp_ge hC 207 (by decide +kernel : decode cX12_findsStep 91 = .ok (.if_icmp .ge 116, 3)) (by decide) (fun c_91 => ?_) (fun c_91 => ?_)
    · replace H := H.1 c_91
      refine pr_iconst hC (0) (by decide +kernel : decode cX12_findsStep 207 = .ok (.iconst 0, 1)) rfl ?_
      exact pv_zret hM (by decide +kernel : decode cX12_findsStep 208 = .ok (.ireturn, 1)) (Or.inl rfl) hU H
    replace H := H.2 c_91
    refine pr_iconst hC (0) (by decide +kernel : decode cX12_findsStep 94 = .ok (.iconst 0, 1)) rfl ?_
    refine pr_istore hC (by decide +kernel : decode cX12_findsStep 95 = .ok (.istore 5, 2)) (by decide) rfl ?_
    obtain ⟨n_25, H⟩ := H
    refine pv_sub [some (.ref (Y.2.1 o0)), some (.int x1), some (.int x2), some (.int x3), some (.int x4), some (.int 0)] (And.intro rfl (And.intro rfl (And.intro rfl (And.intro rfl (And.intro rfl (And.intro rfl trivial)))))) ?_
    refine tl_X12_findsStep_L97 _ _ _ _ _ _ _ _ ho0 hC hM hR (fun x5_21 U_22 h H hU => ?_) (fun U_23 h H hU => ?_) n_25 _ U h hU H
    · exact pv_sub [some (.ref (Y.2.1 o0)), none, none, none, some (.int x4), some (.int x5_21)] (And.intro rfl (And.intro rfl (And.intro rfl trivial))) (hk_158 _ _ U_22 h H hU)
    refine pv_iinc hC (v := x4 + 1) (by decide +kernel : decode cX12_findsStep 201 = .ok (.iinc 4 1, 3)) rfl (by decide) rfl rfl (fun x4_24 e_x4_24 => ?_)
    replace H := H x4_24 e_x4_24
    refine pr_goto hC 83 (by decide +kernel : decode cX12_findsStep 204 = .ok (.goto (-121), 3)) (by decide) ?_
    exact pv_sub [some (.ref (Y.2.1 o0)), some (.int x1), some (.int x2), some (.int x3), some (.int x4_24), none] (And.intro rfl (And.intro rfl (And.intro rfl (And.intro rfl (And.intro rfl trivial))))) (ih _ U_23 h hU H)
set_option maxHeartbeats 4000000 in
theorem t_X12_findsStep {l : Launch} {Y : px_Y} {o : Nat} {a1 : Int32} {a2 : Int32} {a3 : Int32} {U : Um} {post : Int32 → Um → Prop} (ho : oc o = 10) (H : w_X12_findsStep o a1 a2 a3 U post) : um l Y 5 yX12_findsStep cX12_findsStep 6 (some (.boolean)) [.ref (Y.2.1 o), .int a1, .int a2, .int a3] U (pq_i post) := by
  unfold w_X12_findsStep at H
  refine um_of (by decide) (Nat.le_of_ble_eq_true rfl) [some (.ref (Y.2.1 o)), some (.int a1), some (.int a2), some (.int a3), none, none] rfl (fun X h0 hh sz hM hU => ?_)
  have hC := hM.1
  have hR := hM.2.2.1
  refine pr_iconst hC (1) (by decide +kernel : decode cX12_findsStep 0 = .ok (.iconst 1, 1)) rfl ?_
  refine pr_istore hC (by decide +kernel : decode cX12_findsStep 1 = .ok (.istore 4, 2)) (by decide) rfl ?_
  obtain ⟨n_35, H⟩ := H
  refine pv_sub [some (.ref (Y.2.1 o)), some (.int a1), some (.int a2), some (.int a3), some (.int 1), none] (And.intro rfl (And.intro rfl (And.intro rfl (And.intro rfl (And.intro rfl trivial))))) ?_
  refine tl_X12_findsStep_L3 _ _ _ _ _ _ ho hC hM hR (fun U_3 h H hU => ?_) n_35 _ U hh hU H
  refine pr_iconst hC (0) (by decide +kernel : decode cX12_findsStep 23 = .ok (.iconst 0, 1)) rfl ?_
  refine pr_istore hC (by decide +kernel : decode cX12_findsStep 24 = .ok (.istore 4, 2)) (by decide) rfl ?_
  obtain ⟨n_34, H⟩ := H
  refine pv_sub [some (.ref (Y.2.1 o)), some (.int a1), some (.int a2), some (.int a3), some (.int 0), none] (And.intro rfl (And.intro rfl (And.intro rfl (And.intro rfl (And.intro rfl trivial))))) ?_
  refine tl_X12_findsStep_L26 _ _ _ _ _ _ _ ho hC hM hR (fun x4_8 U_9 h H hU => ?_) (fun U_12 h H hU => ?_) n_34 _ U_3 h hU H
  · refine pr_aload_n hC (by decide +kernel : decode cX12_findsStep 57 = .ok (.aload_n 0, 1)) rfl ?_
    refine pu_g1 hC fg_X12_102 (by decide +kernel : decode cX12_findsStep 58 = .ok (.getfield 102, 3)) hU ho (by decide) rfl (by decide) ?_
    refine pr_iconst hC (0) (by decide +kernel : decode cX12_findsStep 61 = .ok (.iconst 0, 1)) rfl ?_
    refine pr_iconst hC (1) (by decide +kernel : decode cX12_findsStep 62 = .ok (.iconst 1, 1)) rfl ?_
    refine pv_iast hC (by decide +kernel : decode cX12_findsStep 63 = .ok (.iastore, 1)) hU ho rfl H.1 (fun U_10 h e_U_10 hU => ?_)
    replace H := H.2 U_10 e_U_10
    refine pr_aload_n hC (by decide +kernel : decode cX12_findsStep 64 = .ok (.aload_n 0, 1)) rfl ?_
    refine pu_g1 hC fg_X12_102 (by decide +kernel : decode cX12_findsStep 65 = .ok (.getfield 102, 3)) hU ho (by decide) rfl (by decide) ?_
    refine pr_iconst hC (1) (by decide +kernel : decode cX12_findsStep 68 = .ok (.iconst 1, 1)) rfl ?_
    refine pr_iload hC (by decide +kernel : decode cX12_findsStep 69 = .ok (.iload 4, 2)) rfl ?_
    refine pv_iast hC (by decide +kernel : decode cX12_findsStep 71 = .ok (.iastore, 1)) hU ho rfl H.1 (fun U_11 h e_U_11 hU => ?_)
    replace H := H.2 U_11 e_U_11
    refine pr_iconst hC (1) (by decide +kernel : decode cX12_findsStep 72 = .ok (.iconst 1, 1)) rfl ?_
    exact pv_zret hM (by decide +kernel : decode cX12_findsStep 73 = .ok (.ireturn, 1)) (Or.inr rfl) hU H
  refine pr_iconst hC (0) (by decide +kernel : decode cX12_findsStep 80 = .ok (.iconst 0, 1)) rfl ?_
  refine pr_istore hC (by decide +kernel : decode cX12_findsStep 81 = .ok (.istore 4, 2)) (by decide) rfl ?_
  obtain ⟨n_33, H⟩ := H
  refine pv_sub [some (.ref (Y.2.1 o)), some (.int a1), some (.int a2), some (.int a3), some (.int 0), none] (And.intro rfl (And.intro rfl (And.intro rfl (And.intro rfl (And.intro rfl trivial))))) ?_
  refine tl_X12_findsStep_L83 _ _ _ _ _ _ ho hC hM hR (fun x4_26 x5_27 U_28 h H hU => ?_) n_33 _ U_12 h hU H
  refine pr_aload_n hC (by decide +kernel : decode cX12_findsStep 158 = .ok (.aload_n 0, 1)) rfl ?_
  refine pu_g1 hC fg_X12_102 (by decide +kernel : decode cX12_findsStep 159 = .ok (.getfield 102, 3)) hU ho (by decide) rfl (by decide) ?_
  refine pr_iconst hC (0) (by decide +kernel : decode cX12_findsStep 162 = .ok (.iconst 0, 1)) rfl ?_
  refine pr_iconst hC (2) (by decide +kernel : decode cX12_findsStep 163 = .ok (.iconst 2, 1)) rfl ?_
  refine pv_iast hC (by decide +kernel : decode cX12_findsStep 164 = .ok (.iastore, 1)) hU ho rfl H.1 (fun U_29 h e_U_29 hU => ?_)
  replace H := H.2 U_29 e_U_29
  refine pr_aload_n hC (by decide +kernel : decode cX12_findsStep 165 = .ok (.aload_n 0, 1)) rfl ?_
  refine pu_g1 hC fg_X12_102 (by decide +kernel : decode cX12_findsStep 166 = .ok (.getfield 102, 3)) hU ho (by decide) rfl (by decide) ?_
  refine pr_iconst hC (1) (by decide +kernel : decode cX12_findsStep 169 = .ok (.iconst 1, 1)) rfl ?_
  refine pr_iload hC (by decide +kernel : decode cX12_findsStep 170 = .ok (.iload 4, 2)) rfl ?_
  refine pv_iast hC (by decide +kernel : decode cX12_findsStep 172 = .ok (.iastore, 1)) hU ho rfl H.1 (fun U_30 h e_U_30 hU => ?_)
  replace H := H.2 U_30 e_U_30
  refine pr_aload_n hC (by decide +kernel : decode cX12_findsStep 173 = .ok (.aload_n 0, 1)) rfl ?_
  refine pu_g1 hC fg_X12_102 (by decide +kernel : decode cX12_findsStep 174 = .ok (.getfield 102, 3)) hU ho (by decide) rfl (by decide) ?_
  refine pr_iconst hC (2) (by decide +kernel : decode cX12_findsStep 177 = .ok (.iconst 2, 1)) rfl ?_
  refine pr_iload hC (by decide +kernel : decode cX12_findsStep 178 = .ok (.iload 5, 2)) rfl ?_
  refine pr_iconst hC (3) (by decide +kernel : decode cX12_findsStep 180 = .ok (.iconst 3, 1)) rfl ?_
  refine pr_idiv hC (by decide +kernel : decode cX12_findsStep 181 = .ok (.idiv, 1)) (by decide) ?_
  refine pv_iast hC (by decide +kernel : decode cX12_findsStep 182 = .ok (.iastore, 1)) hU ho rfl H.1 (fun U_31 h e_U_31 hU => ?_)
  replace H := H.2 U_31 e_U_31
  refine pr_aload_n hC (by decide +kernel : decode cX12_findsStep 183 = .ok (.aload_n 0, 1)) rfl ?_
  refine pu_g1 hC fg_X12_102 (by decide +kernel : decode cX12_findsStep 184 = .ok (.getfield 102, 3)) hU ho (by decide) rfl (by decide) ?_
  refine pr_iconst hC (3) (by decide +kernel : decode cX12_findsStep 187 = .ok (.iconst 3, 1)) rfl ?_
  refine pr_iload hC (by decide +kernel : decode cX12_findsStep 188 = .ok (.iload 5, 2)) rfl ?_
  refine pr_iconst hC (3) (by decide +kernel : decode cX12_findsStep 190 = .ok (.iconst 3, 1)) rfl ?_
  refine pr_irem hC (by decide +kernel : decode cX12_findsStep 191 = .ok (.irem, 1)) (by decide) ?_
  refine pv_iast hC (by decide +kernel : decode cX12_findsStep 192 = .ok (.iastore, 1)) hU ho rfl H.1 (fun U_32 h e_U_32 hU => ?_)
  replace H := H.2 U_32 e_U_32
  refine pr_iconst hC (1) (by decide +kernel : decode cX12_findsStep 193 = .ok (.iconst 1, 1)) rfl ?_
  exact pv_zret hM (by decide +kernel : decode cX12_findsStep 194 = .ok (.ireturn, 1)) (Or.inr rfl) hU H
def w_X12_steps (o : Nat) (a1 : Int32) (a2 : Int32) (a3 : Int32) (U : Um) (post : Int32 → Um → Prop) : Prop :=
  ∀ (U_1 : Um), U_1 = sI U o 0 0 → w_X12_isSeat o a1 a2 U_1 (fun r_3 U_2 => (r_3 = 0 → post (-1) U_2) ∧ (¬ r_3 = 0 → w_X12_isIn (Int32.toInt64 a3) 0 4 U_2 (fun r_5 U_4 => (r_5 = 0 → post (-1) U_4) ∧ (¬ r_5 = 0 → w_X12_isPlayed o a1 U_4 (fun r_7 U_6 => (r_7 = 0 → w_X12_at a1 a2 U_6 (fun r_9 U_8 => vp_in r_9 48 ∧ ((uA U_8 o 30 (Int32.toNatClampNeg r_9)) = (-1) → post (-1) U_8) ∧ (¬ (uA U_8 o 30 (Int32.toNatClampNeg r_9)) = (-1) → w_X12_at a1 a2 U_8 (fun r_11 U_10 => vp_in r_11 48 ∧ ∀ (x4_12 : Int32), x4_12 = uA U_10 o 30 (Int32.toNatClampNeg r_11) → w_X12_at a1 a2 U_10 (fun r_14 U_13 => vp_in r_14 48 ∧ ∀ (U_15 : Um), U_15 = sA U_13 o 30 (va_up (uA U_13 o 30) (Int32.toNatClampNeg r_14) (-1)) → w_X12_findsStep o a1 a2 x4_12 U_15 (fun r_17 U_16 => w_X12_at a1 a2 U_16 (fun r_19 U_18 => vp_in r_19 48 ∧ ∀ (U_20 : Um), U_20 = sA U_18 o 30 (va_up (uA U_18 o 30) (Int32.toNatClampNeg r_19) x4_12) → (r_17 = 0 → post (-1) U_20) ∧ (¬ r_17 = 0 → vp_in a3 5 ∧ post (uA U_20 o 48 (Int32.toNatClampNeg a3)) U_20)))))))) ∧ (¬ r_7 = 0 → post (-1) U_6))))))
set_option maxHeartbeats 4000000 in
theorem t_X12_steps {l : Launch} {Y : px_Y} {o : Nat} {a1 : Int32} {a2 : Int32} {a3 : Int32} {U : Um} {post : Int32 → Um → Prop} (ho : oc o = 10) (H : w_X12_steps o a1 a2 a3 U post) : um l Y 6 yX12_steps cX12_steps 6 (some (.int)) [.ref (Y.2.1 o), .int a1, .int a2, .int a3] U (pq_i post) := by
  unfold w_X12_steps at H
  refine um_of (by decide) (Nat.le_of_ble_eq_true rfl) [some (.ref (Y.2.1 o)), some (.int a1), some (.int a2), some (.int a3), none, none] rfl (fun X h0 hh sz hM hU => ?_)
  have hC := hM.1
  have hR := hM.2.2.1
  refine pr_aload_n hC (by decide +kernel : decode cX12_steps 0 = .ok (.aload_n 0, 1)) rfl ?_
  refine pr_iconst hC (0) (by decide +kernel : decode cX12_steps 1 = .ok (.iconst 0, 1)) rfl ?_
  refine pv_p0 hC fp_X12_121 (by decide +kernel : decode cX12_steps 2 = .ok (.putfield 121, 3)) hU ho (by decide) rfl rfl rfl rfl (fun U_1 h e_U_1 hU => ?_)
  replace H := H U_1 e_U_1
  refine pr_aload_n hC (by decide +kernel : decode cX12_steps 5 = .ok (.aload_n 0, 1)) rfl ?_
  refine pr_iload_n hC (by decide +kernel : decode cX12_steps 6 = .ok (.iload_n 1, 1)) rfl ?_
  refine pr_iload_n hC (by decide +kernel : decode cX12_steps 7 = .ok (.iload_n 2, 1)) rfl ?_
  refine vc_Vi hC hR [.int a1, .int a2] fv_X12_388 (by decide +kernel : decode cX12_steps 8 = .ok (.invokevirtual 388, 3)) hU (t_X12_isSeat ho H) ho (by decide) rfl rfl rfl (Nat.le_of_ble_eq_true rfl) (Nat.le_of_ble_eq_true rfl) (Nat.le_refl 0) (Nat.le_refl 0) (fun r_3 U_2 h H hU => ?_)
  refine pr_if_eq hC 48 (by decide +kernel : decode cX12_steps 11 = .ok (.ifCond .eq 37, 3)) (by decide) (fun c_11 => ?_) (fun c_11 => ?_)
  · replace H := H.1 c_11
    refine pr_iconst hC (-1) (by decide +kernel : decode cX12_steps 48 = .ok (.iconst (-1), 1)) rfl ?_
    exact pv_iret hM (by decide +kernel : decode cX12_steps 49 = .ok (.ireturn, 1)) hU H
  replace H := H.2 c_11
  refine pr_iload_n hC (by decide +kernel : decode cX12_steps 14 = .ok (.iload_n 3, 1)) rfl ?_
  refine pr_i2l hC (by decide +kernel : decode cX12_steps 15 = .ok (.i2l, 1)) ?_
  refine pr_lconst hC (0) (by decide +kernel : decode cX12_steps 16 = .ok (.lconst 0, 1)) rfl ?_
  refine pr_ldc2 hC (4) (by decide +kernel : decode cX12_steps 17 = .ok (.ldc2_w 499, 3)) fk_X12_499 ?_
  refine vc_Si hC hR [.long (Int32.toInt64 a3), .long 0, .long 4] fv_X12_131 (by decide +kernel : decode cX12_steps 20 = .ok (.invokestatic 131, 3)) hU (t_X12_isIn  H) rfl rfl (Nat.le_of_ble_eq_true rfl) (Nat.le_of_ble_eq_true rfl) (Nat.le_refl 0) (Nat.le_refl 0) (fun r_5 U_4 h H hU => ?_)
  refine pr_if_eq hC 48 (by decide +kernel : decode cX12_steps 23 = .ok (.ifCond .eq 25, 3)) (by decide) (fun c_23 => ?_) (fun c_23 => ?_)
  · replace H := H.1 c_23
    refine pr_iconst hC (-1) (by decide +kernel : decode cX12_steps 48 = .ok (.iconst (-1), 1)) rfl ?_
    exact pv_iret hM (by decide +kernel : decode cX12_steps 49 = .ok (.ireturn, 1)) hU H
  replace H := H.2 c_23
  refine pr_aload_n hC (by decide +kernel : decode cX12_steps 26 = .ok (.aload_n 0, 1)) rfl ?_
  refine pr_iload_n hC (by decide +kernel : decode cX12_steps 27 = .ok (.iload_n 1, 1)) rfl ?_
  refine vc_Vi hC hR [.int a1] fv_X12_382 (by decide +kernel : decode cX12_steps 28 = .ok (.invokevirtual 382, 3)) hU (t_X12_isPlayed ho H) ho (by decide) rfl rfl rfl (Nat.le_of_ble_eq_true rfl) (Nat.le_of_ble_eq_true rfl) (Nat.le_refl 0) (Nat.le_refl 0) (fun r_7 U_6 h H hU => ?_)
  refine pr_if_ne hC 48 (by decide +kernel : decode cX12_steps 31 = .ok (.ifCond .ne 17, 3)) (by decide) (fun c_31 => ?_) (fun c_31 => ?_)
  · replace H := H.2 c_31
    refine pr_iconst hC (-1) (by decide +kernel : decode cX12_steps 48 = .ok (.iconst (-1), 1)) rfl ?_
    exact pv_iret hM (by decide +kernel : decode cX12_steps 49 = .ok (.ireturn, 1)) hU H
  replace H := H.1 c_31
  refine pr_aload_n hC (by decide +kernel : decode cX12_steps 34 = .ok (.aload_n 0, 1)) rfl ?_
  refine pu_g1 hC fg_X12_59 (by decide +kernel : decode cX12_steps 35 = .ok (.getfield 59, 3)) hU ho (by decide) rfl (by decide) ?_
  refine pr_iload_n hC (by decide +kernel : decode cX12_steps 38 = .ok (.iload_n 1, 1)) rfl ?_
  refine pr_iload_n hC (by decide +kernel : decode cX12_steps 39 = .ok (.iload_n 2, 1)) rfl ?_
  refine vc_Si hC hR [.int a1, .int a2] fv_X12_360 (by decide +kernel : decode cX12_steps 40 = .ok (.invokestatic 360, 3)) hU (t_X12_at  H) rfl rfl (Nat.le_of_ble_eq_true rfl) (Nat.le_of_ble_eq_true rfl) (Nat.le_refl 0) (Nat.le_refl 0) (fun r_9 U_8 h H hU => ?_)
  refine pu_iald hC (by decide +kernel : decode cX12_steps 43 = .ok (.iaload, 1)) hU ho rfl H.1 ?_
  replace H := H.2
  refine pr_iconst hC (-1) (by decide +kernel : decode cX12_steps 44 = .ok (.iconst (-1), 1)) rfl ?_
  refine pr_icmp_ne hC 50 (by decide +kernel : decode cX12_steps 45 = .ok (.if_icmp .ne 5, 3)) (by decide) (fun c_45 => ?_) (fun c_45 => ?_)
  · replace H := H.2 c_45
    refine pr_aload_n hC (by decide +kernel : decode cX12_steps 50 = .ok (.aload_n 0, 1)) rfl ?_
    refine pu_g1 hC fg_X12_59 (by decide +kernel : decode cX12_steps 51 = .ok (.getfield 59, 3)) hU ho (by decide) rfl (by decide) ?_
    refine pr_iload_n hC (by decide +kernel : decode cX12_steps 54 = .ok (.iload_n 1, 1)) rfl ?_
    refine pr_iload_n hC (by decide +kernel : decode cX12_steps 55 = .ok (.iload_n 2, 1)) rfl ?_
    refine vc_Si hC hR [.int a1, .int a2] fv_X12_360 (by decide +kernel : decode cX12_steps 56 = .ok (.invokestatic 360, 3)) hU (t_X12_at  H) rfl rfl (Nat.le_of_ble_eq_true rfl) (Nat.le_of_ble_eq_true rfl) (Nat.le_refl 0) (Nat.le_refl 0) (fun r_11 U_10 h H hU => ?_)
    refine pu_iald hC (by decide +kernel : decode cX12_steps 59 = .ok (.iaload, 1)) hU ho rfl H.1 ?_
    replace H := H.2
    refine pv_topi (fun x4_12 e_x4_12 => ?_)
    replace H := H x4_12 e_x4_12
    refine pr_istore hC (by decide +kernel : decode cX12_steps 60 = .ok (.istore 4, 2)) (by decide) rfl ?_
    refine pr_aload_n hC (by decide +kernel : decode cX12_steps 62 = .ok (.aload_n 0, 1)) rfl ?_
    refine pu_g1 hC fg_X12_59 (by decide +kernel : decode cX12_steps 63 = .ok (.getfield 59, 3)) hU ho (by decide) rfl (by decide) ?_
    refine pr_iload_n hC (by decide +kernel : decode cX12_steps 66 = .ok (.iload_n 1, 1)) rfl ?_
    refine pr_iload_n hC (by decide +kernel : decode cX12_steps 67 = .ok (.iload_n 2, 1)) rfl ?_
    refine vc_Si hC hR [.int a1, .int a2] fv_X12_360 (by decide +kernel : decode cX12_steps 68 = .ok (.invokestatic 360, 3)) hU (t_X12_at  H) rfl rfl (Nat.le_of_ble_eq_true rfl) (Nat.le_of_ble_eq_true rfl) (Nat.le_refl 0) (Nat.le_refl 0) (fun r_14 U_13 h H hU => ?_)
    refine pr_iconst hC (-1) (by decide +kernel : decode cX12_steps 71 = .ok (.iconst (-1), 1)) rfl ?_
    refine pv_iast hC (by decide +kernel : decode cX12_steps 72 = .ok (.iastore, 1)) hU ho rfl H.1 (fun U_15 h e_U_15 hU => ?_)
    replace H := H.2 U_15 e_U_15
    refine pr_aload_n hC (by decide +kernel : decode cX12_steps 73 = .ok (.aload_n 0, 1)) rfl ?_
    refine pr_iload_n hC (by decide +kernel : decode cX12_steps 74 = .ok (.iload_n 1, 1)) rfl ?_
    refine pr_iload_n hC (by decide +kernel : decode cX12_steps 75 = .ok (.iload_n 2, 1)) rfl ?_
    refine pr_iload hC (by decide +kernel : decode cX12_steps 76 = .ok (.iload 4, 2)) rfl ?_
    refine vc_Vi hC hR [.int a1, .int a2, .int x4_12] fv_X12_501 (by decide +kernel : decode cX12_steps 78 = .ok (.invokevirtual 501, 3)) hU (t_X12_findsStep ho H) ho (by decide) rfl rfl rfl (Nat.le_of_ble_eq_true rfl) (Nat.le_of_ble_eq_true rfl) (Nat.le_refl 0) (Nat.le_refl 0) (fun r_17 U_16 h H hU => ?_)
    refine pr_istore hC (by decide +kernel : decode cX12_steps 81 = .ok (.istore 5, 2)) (by decide) rfl ?_
    refine pr_aload_n hC (by decide +kernel : decode cX12_steps 83 = .ok (.aload_n 0, 1)) rfl ?_
    refine pu_g1 hC fg_X12_59 (by decide +kernel : decode cX12_steps 84 = .ok (.getfield 59, 3)) hU ho (by decide) rfl (by decide) ?_
    refine pr_iload_n hC (by decide +kernel : decode cX12_steps 87 = .ok (.iload_n 1, 1)) rfl ?_
    refine pr_iload_n hC (by decide +kernel : decode cX12_steps 88 = .ok (.iload_n 2, 1)) rfl ?_
    refine vc_Si hC hR [.int a1, .int a2] fv_X12_360 (by decide +kernel : decode cX12_steps 89 = .ok (.invokestatic 360, 3)) hU (t_X12_at  H) rfl rfl (Nat.le_of_ble_eq_true rfl) (Nat.le_of_ble_eq_true rfl) (Nat.le_refl 0) (Nat.le_refl 0) (fun r_19 U_18 h H hU => ?_)
    refine pr_iload hC (by decide +kernel : decode cX12_steps 92 = .ok (.iload 4, 2)) rfl ?_
    refine pv_iast hC (by decide +kernel : decode cX12_steps 94 = .ok (.iastore, 1)) hU ho rfl H.1 (fun U_20 h e_U_20 hU => ?_)
    replace H := H.2 U_20 e_U_20
    refine pr_iload hC (by decide +kernel : decode cX12_steps 95 = .ok (.iload 5, 2)) rfl ?_
    refine pr_if_eq hC 109 (by decide +kernel : decode cX12_steps 97 = .ok (.ifCond .eq 12, 3)) (by decide) (fun c_97 => ?_) (fun c_97 => ?_)
    · replace H := H.1 c_97
      refine pr_iconst hC (-1) (by decide +kernel : decode cX12_steps 109 = .ok (.iconst (-1), 1)) rfl ?_
      exact pv_iret hM (by decide +kernel : decode cX12_steps 110 = .ok (.ireturn, 1)) hU H
    replace H := H.2 c_97
    refine pr_aload_n hC (by decide +kernel : decode cX12_steps 100 = .ok (.aload_n 0, 1)) rfl ?_
    refine pu_g1 hC fg_X12_102 (by decide +kernel : decode cX12_steps 101 = .ok (.getfield 102, 3)) hU ho (by decide) rfl (by decide) ?_
    refine pr_iload_n hC (by decide +kernel : decode cX12_steps 104 = .ok (.iload_n 3, 1)) rfl ?_
    refine pu_iald hC (by decide +kernel : decode cX12_steps 105 = .ok (.iaload, 1)) hU ho rfl H.1 ?_
    replace H := H.2
    refine pr_goto hC 110 (by decide +kernel : decode cX12_steps 106 = .ok (.goto 4, 3)) (by decide) ?_
    exact pv_iret hM (by decide +kernel : decode cX12_steps 110 = .ok (.ireturn, 1)) hU H
  replace H := H.1 c_45
  refine pr_iconst hC (-1) (by decide +kernel : decode cX12_steps 48 = .ok (.iconst (-1), 1)) rfl ?_
  exact pv_iret hM (by decide +kernel : decode cX12_steps 49 = .ok (.ireturn, 1)) hU H
