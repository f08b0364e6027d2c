def b_X12_has_L37 (o0 : Nat) (x1 : Int32) (x2 : Int32) (x4 : Int32) (post : Int32 → Um → Prop) (k_83 : Int32 → Um → Prop) (rec_ : Int32 → Int32 → Um → Prop) (x3 : Int32) (x5 : Int32) (U : Um) : Prop :=
  w_X12_of o0 x4 7 U (fun r_6 U_5 => (r_6 ≤ x5 → k_83 x3 U_5) ∧ (¬ r_6 ≤ x5 → w_X12_at x4 x5 U_5 (fun r_8 U_7 => vp_in r_8 48 ∧ ∀ (xs_9 : Int32), xs_9 = (if (uA U_7 o0 30 (Int32.toNatClampNeg r_8)) = (-1) then 0 else 1) → w_X12_one xs_9 U_7 (fun r_11 U_10 => ∀ (x3_12 : Int32), x3_12 = x3 + r_11 → ∀ (x5_13 : Int32), x5_13 = x5 + 1 → rec_ x3_12 x5_13 U_10))))
def w_X12_has_L37 (o0 : Nat) (x1 : Int32) (x2 : Int32) (x4 : Int32) (post : Int32 → Um → Prop) (k_83 : Int32 → Um → Prop) (n_ : Nat) : Int32 → Int32 → Um → Prop := Nat.rec (motive := fun _ => Int32 → Int32 → Um → Prop) (fun _ _ _ => False) (fun _ ih => b_X12_has_L37 o0 x1 x2 x4 post k_83 ih) n_
def b_X12_has_L12 (o0 : Nat) (x1 : Int32) (post : Int32 → Um → Prop) (k_89 : Int32 → Int32 → Um → Prop) (rec_ : Int32 → Int32 → Int32 → Um → Prop) (x2 : Int32) (x3 : Int32) (x4 : Int32) (U : Um) : Prop :=
  vp_in 3 14 ∧ ((uA U o0 11 (Int32.toNatClampNeg 3)) ≤ x4 → k_89 x2 x3 U) ∧ (¬ (uA U o0 11 (Int32.toNatClampNeg 3)) ≤ x4 → w_X12_of o0 x4 7 U (fun r_3 U_2 => ∀ (x2_4 : Int32), x2_4 = x2 + r_3 → (∃ n_18, w_X12_has_L37 o0 x1 x2_4 x4 post (fun x3_15 U_16 => ∀ (x4_17 : Int32), x4_17 = x4 + 1 → rec_ x2_4 x3_15 x4_17 U_16) n_18 x3 0 U_2)))
def w_X12_has_L12 (o0 : Nat) (x1 : Int32) (post : Int32 → Um → Prop) (k_89 : Int32 → Int32 → Um → Prop) (n_ : Nat) : Int32 → Int32 → Int32 → Um → Prop := Nat.rec (motive := fun _ => Int32 → Int32 → Int32 → Um → Prop) (fun _ _ _ _ => False) (fun _ ih => b_X12_has_L12 o0 x1 post k_89 ih) n_
def w_X12_has (o : Nat) (a1 : Int32) (U : Um) (post : Int32 → Um → Prop) : Prop :=
  ∀ (U_1 : Um), U_1 = sI U o 0 0 → (∃ n_22, w_X12_has_L12 o a1 post (fun x2_19 x3_20 U_21 => (¬ a1 = 0 → ¬ a1 = 1 → ¬ a1 = 2 → ¬ a1 = 3 → ¬ a1 = 4 → ¬ a1 = 5 → ¬ a1 = 6 → ¬ a1 = 7 → ¬ a1 = 8 → ¬ a1 = 9 → ¬ a1 = 10 → post (-2) U_21) ∧ (a1 = 0 → vp_in a1 14 ∧ post (uA U_21 o 11 (Int32.toNatClampNeg a1)) U_21) ∧ (a1 = 1 → vp_in a1 14 ∧ post (uA U_21 o 11 (Int32.toNatClampNeg a1)) U_21) ∧ (a1 = 2 → vp_in a1 14 ∧ post (uA U_21 o 11 (Int32.toNatClampNeg a1)) U_21) ∧ (a1 = 3 → vp_in a1 14 ∧ post (uA U_21 o 11 (Int32.toNatClampNeg a1)) U_21) ∧ (a1 = 4 → vp_in a1 14 ∧ post (uA U_21 o 11 (Int32.toNatClampNeg a1)) U_21) ∧ (a1 = 5 → vp_in a1 14 ∧ post (uA U_21 o 11 (Int32.toNatClampNeg a1)) U_21) ∧ (a1 = 6 → post (uI U_21 o 35) U_21) ∧ (a1 = 7 → post x2_19 U_21) ∧ (a1 = 8 → post x3_20 U_21) ∧ (a1 = 9 → post (uI U_21 o 38) U_21) ∧ (a1 = 10 → post (uI U_21 o 17) U_21)) n_22 0 0 0 U_1)
set_option maxHeartbeats 4000000 in
theorem tl_X12_has_L37 {l : Launch} {Y : px_Y} {X : px_X} {h0 hh : pe_H} {sz : Nat} (o0 : Nat) (x1 : Int32) (x2 : Int32) (x4 : Int32) (post : Int32 → Um → Prop) (k_83 : Int32 → Um → Prop) (ho0 : oc o0 = 10)  (hC : px_C X Y.1 (pm_A hh sz) cX12_has RX12 6) (hM : px_M l X Y.1 hh sz yX12_has cX12_has 6 (some (.int)) 1 0 0) (hR : X.2.2.2.1 = pm_rm 1 0 0) (hk_83 : ∀ (y3 : Int32) (U : Um) (h : pe_H), k_83 y3 U → rF Y h0 U h → pw X Y.1 (pm_A hh sz) (pm_E X Y.1 hh sz 0 0 (pm_P Y h0 sz (pq_i post))) 83 [some (.ref (Y.2.1 o0)), some (.int x1), some (.int x2), some (.int y3), some (.int x4), none] [] h sz 0 0) : ∀ (n_ : Nat) (x3 : Int32) (x5 : Int32) (U : Um) (h : pe_H), rF Y h0 U h → w_X12_has_L37 o0 x1 x2 x4 post k_83 n_ x3 x5 U → pw X Y.1 (pm_A hh sz) (pm_E X Y.1 hh sz 0 0 (pm_P Y h0 sz (pq_i post))) 37 [some (.ref (Y.2.1 o0)), some (.int x1), some (.int x2), some (.int x3), some (.int x4), some (.int x5)] [] h sz 0 0 := by
  intro n_
  induction n_ with
  | zero => intro x3 x5 U h hU H; exact False.elim H
  | succ n_ ih =>
    intro x3 x5 U h hU H
    replace H : b_X12_has_L37 o0 x1 x2 x4 post k_83 (w_X12_has_L37 o0 x1 x2 x4 post k_83 n_) x3 x5 U := H
    unfold b_X12_has_L37 at H
    refine pr_iload hC (by decide +kernel : decode cX12_has 37 = .ok (.iload 5, 2)) rfl ?_
    refine pr_aload_n hC (by decide +kernel : decode cX12_has 39 = .ok (.aload_n 0, 1)) rfl ?_
    refine pr_iload hC (by decide +kernel : decode cX12_has 40 = .ok (.iload 4, 2)) rfl ?_
    refine pr_bipush hC (7) (by decide +kernel : decode cX12_has 42 = .ok (.bipush 7, 2)) rfl ?_
    refine vc_Vi hC hR [.int x4, .int 7] fv_X12_353 (by decide +kernel : decode cX12_has 44 = .ok (.invokevirtual 353, 3)) hU (t_X12_of ho0 H) ho0 (by decide) rfl rfl rfl (Nat.le_of_ble_eq_true rfl) (Nat.le_of_ble_eq_true rfl) (Nat.le_refl 0) (Nat.le_refl 0) (fun r_6 U_5 h H hU => ?_)
    refine pr_icmp_ge hC 83 (by decide +kernel : decode cX12_has 47 = .ok (.if_icmp .ge 36, 3)) (by decide) (fun c_47 => ?_) (fun c_47 => ?_)
    · replace H := H.1 c_47
      exact pv_sub [some (.ref (Y.2.1 o0)), some (.int x1), some (.int x2), some (.int x3), some (.int x4), none] (And.intro rfl (And.intro rfl (And.intro rfl (And.intro rfl (And.intro rfl trivial))))) (hk_83 _ U_5 h H hU)
    replace H := H.2 c_47
    refine pr_iload_n hC (by decide +kernel : decode cX12_has 50 = .ok (.iload_n 3, 1)) rfl ?_
    refine pr_aload_n hC (by decide +kernel : decode cX12_has 51 = .ok (.aload_n 0, 1)) rfl ?_
    refine pu_g1 hC fg_X12_59 (by decide +kernel : decode cX12_has 52 = .ok (.getfield 59, 3)) hU ho0 (by decide) rfl (by decide) ?_
    refine pr_iload hC (by decide +kernel : decode cX12_has 55 = .ok (.iload 4, 2)) rfl ?_
    refine pr_iload hC (by decide +kernel : decode cX12_has 57 = .ok (.iload 5, 2)) rfl ?_
    refine vc_Si hC hR [.int x4, .int x5] fv_X12_360 (by decide +kernel : decode cX12_has 59 = .ok (.invokestatic 360, 3)) hU (t_X12_at  H) rfl rfl (Nat.le_of_ble_eq_true rfl) (Nat.le_of_ble_eq_true rfl) (Nat.le_refl 0) (Nat.le_refl 0) (fun r_8 U_7 h H hU => ?_)
    refine pu_iald hC (by decide +kernel : decode cX12_has 62 = .ok (.iaload, 1)) hU ho0 rfl H.1 ?_
    replace H := H.2
    refine pr_iconst hC (-1) (by decide +kernel : decode cX12_has 63 = .ok (.iconst (-1), 1)) rfl ?_
    have HJ_14 : ∀ (xs_9 : Int32), xs_9 = (if (uA U_7 o0 30 (Int32.toNatClampNeg r_8)) = (-1) then 0 else 1) → pw X Y.1 (pm_A hh sz) (pm_E X Y.1 hh sz 0 0 (pm_P Y h0 sz (pq_i post))) 72 [some (.ref (Y.2.1 o0)), some (.int x1), some (.int x2), none, some (.int x4), some (.int x5)] [.int xs_9, .int x3] h sz 0 0 := by
      intro xs_9 e_xs_9
      replace H := H xs_9 e_xs_9
      refine vc_Si hC hR [.int xs_9] fv_X12_357 (by decide +kernel : decode cX12_has 72 = .ok (.invokestatic 357, 3)) hU (t_X12_one  H) rfl rfl (Nat.le_of_ble_eq_true rfl) (Nat.le_of_ble_eq_true rfl) (Nat.le_refl 0) (Nat.le_refl 0) (fun r_11 U_10 h H hU => ?_)
      refine pr_iadd hC (by decide +kernel : decode cX12_has 75 = .ok (.iadd, 1)) ?_
      refine pv_topi (fun x3_12 e_x3_12 => ?_)
      replace H := H x3_12 e_x3_12
      refine pr_istore_n hC (by decide +kernel : decode cX12_has 76 = .ok (.istore_n 3, 1)) (by decide) rfl ?_
      refine pv_iinc hC (v := x5 + 1) (by decide +kernel : decode cX12_has 77 = .ok (.iinc 5 1, 3)) rfl (by decide) rfl rfl (fun x5_13 e_x5_13 => ?_)
      replace H := H x5_13 e_x5_13
      refine pr_goto hC 37 (by decide +kernel : decode cX12_has 80 = .ok (.goto (-43), 3)) (by decide) ?_
      exact pv_sub [some (.ref (Y.2.1 o0)), some (.int x1), some (.int x2), some (.int x3_12), some (.int x4), some (.int x5_13)] (And.intro rfl (And.intro rfl (And.intro rfl (And.intro rfl (And.intro rfl (And.intro rfl trivial)))))) (ih _ _ U_10 h hU H)
    replace H := trivial
    refine pr_icmp_eq hC 71 (by decide +kernel : decode cX12_has 64 = .ok (.if_icmp .eq 7, 3)) (by decide) (fun c_64 => ?_) (fun c_64 => ?_)
    · skip
      refine pr_iconst hC (0) (by decide +kernel : decode cX12_has 71 = .ok (.iconst 0, 1)) rfl ?_
      exact pv_sub [some (.ref (Y.2.1 o0)), some (.int x1), some (.int x2), none, some (.int x4), some (.int x5)] (And.intro rfl (And.intro rfl (And.intro rfl (And.intro rfl (And.intro rfl trivial))))) (HJ_14 _ (if_pos c_64).symm)
    skip
    refine pr_iconst hC (1) (by decide +kernel : decode cX12_has 67 = .ok (.iconst 1, 1)) rfl ?_
    refine pr_goto hC 72 (by decide +kernel : decode cX12_has 68 = .ok (.goto 4, 3)) (by decide) ?_
    exact pv_sub [some (.ref (Y.2.1 o0)), some (.int x1), some (.int x2), none, some (.int x4), some (.int x5)] (And.intro rfl (And.intro rfl (And.intro rfl (And.intro rfl (And.intro rfl trivial))))) (HJ_14 _ (if_neg c_64).symm)
set_option maxHeartbeats 4000000 in
theorem tl_X12_has_L12 {l : Launch} {Y : px_Y} {X : px_X} {h0 hh : pe_H} {sz : Nat} (o0 : Nat) (x1 : Int32) (post : Int32 → Um → Prop) (k_89 : Int32 → Int32 → Um → Prop) (ho0 : oc o0 = 10)  (hC : px_C X Y.1 (pm_A hh sz) cX12_has RX12 6) (hM : px_M l X Y.1 hh sz yX12_has cX12_has 6 (some (.int)) 1 0 0) (hR : X.2.2.2.1 = pm_rm 1 0 0) (hk_89 : ∀ (y2 : Int32) (y3 : Int32) (U : Um) (h : pe_H), k_89 y2 y3 U → rF Y h0 U h → pw X Y.1 (pm_A hh sz) (pm_E X Y.1 hh sz 0 0 (pm_P Y h0 sz (pq_i post))) 89 [some (.ref (Y.2.1 o0)), some (.int x1), some (.int y2), some (.int y3), none, none] [] h sz 0 0) : ∀ (n_ : Nat) (x2 : Int32) (x3 : Int32) (x4 : Int32) (U : Um) (h : pe_H), rF Y h0 U h → w_X12_has_L12 o0 x1 post k_89 n_ x2 x3 x4 U → pw X Y.1 (pm_A hh sz) (pm_E X Y.1 hh sz 0 0 (pm_P Y h0 sz (pq_i post))) 12 [some (.ref (Y.2.1 o0)), some (.int x1), some (.int x2), some (.int x3), some (.int x4), none] [] h sz 0 0 := by
  intro n_
  induction n_ with
  | zero => intro x2 x3 x4 U h hU H; exact False.elim H
  | succ n_ ih =>
    intro x2 x3 x4 U h hU H
    replace H : b_X12_has_L12 o0 x1 post k_89 (w_X12_has_L12 o0 x1 post k_89 n_) x2 x3 x4 U := H
    unfold b_X12_has_L12 at H
    refine pr_iload hC (by decide +kernel : decode cX12_has 12 = .ok (.iload 4, 2)) rfl ?_
    refine pr_aload_n hC (by decide +kernel : decode cX12_has 14 = .ok (.aload_n 0, 1)) rfl ?_
    refine pu_g1 hC fg_X12_43 (by decide +kernel : decode cX12_has 15 = .ok (.getfield 43, 3)) hU ho0 (by decide) rfl (by decide) ?_
    refine pr_iconst hC (3) (by decide +kernel : decode cX12_has 18 = .ok (.iconst 3, 1)) rfl ?_
    refine pu_iald hC (by decide +kernel : decode cX12_has 19 = .ok (.iaload, 1)) hU ho0 rfl H.1 ?_
    replace H := H.2
    refine pr_icmp_ge hC 89 (by decide +kernel : decode cX12_has 20 = .ok (.if_icmp .ge 69, 3)) (by decide) (fun c_20 => ?_) (fun c_20 => ?_)
    · replace H := H.1 c_20
      exact pv_sub [some (.ref (Y.2.1 o0)), some (.int x1), some (.int x2), some (.int x3), none, none] (And.intro rfl (And.intro rfl (And.intro rfl (And.intro rfl trivial)))) (hk_89 _ _ U h H hU)
    replace H := H.2 c_20
    refine pr_iload_n hC (by decide +kernel : decode cX12_has 23 = .ok (.iload_n 2, 1)) rfl ?_
    refine pr_aload_n hC (by decide +kernel : decode cX12_has 24 = .ok (.aload_n 0, 1)) rfl ?_
    refine pr_iload hC (by decide +kernel : decode cX12_has 25 = .ok (.iload 4, 2)) rfl ?_
    refine pr_bipush hC (7) (by decide +kernel : decode cX12_has 27 = .ok (.bipush 7, 2)) rfl ?_
    refine vc_Vi hC hR [.int x4, .int 7] fv_X12_353 (by decide +kernel : decode cX12_has 29 = .ok (.invokevirtual 353, 3)) hU (t_X12_of ho0 H) ho0 (by decide) rfl rfl rfl (Nat.le_of_ble_eq_true rfl) (Nat.le_of_ble_eq_true rfl) (Nat.le_refl 0) (Nat.le_refl 0) (fun r_3 U_2 h H hU => ?_)
    refine pr_iadd hC (by decide +kernel : decode cX12_has 32 = .ok (.iadd, 1)) ?_
    refine pv_topi (fun x2_4 e_x2_4 => ?_)
    replace H := H x2_4 e_x2_4
    refine pr_istore_n hC (by decide +kernel : decode cX12_has 33 = .ok (.istore_n 2, 1)) (by decide) rfl ?_
    refine pr_iconst hC (0) (by decide +kernel : decode cX12_has 34 = .ok (.iconst 0, 1)) rfl ?_
    refine pr_istore hC (by decide +kernel : decode cX12_has 35 = .ok (.istore 5, 2)) (by decide) rfl ?_
    obtain ⟨n_18, H⟩ := H
    refine pv_sub [some (.ref (Y.2.1 o0)), some (.int x1), some (.int x2_4), some (.int x3), some (.int x4), some (.int 0)] (And.intro rfl (And.intro rfl (And.intro rfl (And.intro rfl (And.intro rfl (And.intro rfl trivial)))))) ?_
    refine tl_X12_has_L37 _ _ _ _ _ _ ho0 hC hM hR (fun x3_15 U_16 h H hU => ?_) n_18 _ _ U_2 h hU H
    refine pv_iinc hC (v := x4 + 1) (by decide +kernel : decode cX12_has 83 = .ok (.iinc 4 1, 3)) rfl (by decide) rfl rfl (fun x4_17 e_x4_17 => ?_)
    replace H := H x4_17 e_x4_17
    refine pr_goto hC 12 (by decide +kernel : decode cX12_has 86 = .ok (.goto (-74), 3)) (by decide) ?_
    exact pv_sub [some (.ref (Y.2.1 o0)), some (.int x1), some (.int x2_4), some (.int x3_15), some (.int x4_17), none] (And.intro rfl (And.intro rfl (And.intro rfl (And.intro rfl (And.intro rfl trivial))))) (ih _ _ _ U_16 h hU H)
set_option maxHeartbeats 4000000 in
theorem t_X12_has {l : Launch} {Y : px_Y} {o : Nat} {a1 : Int32} {U : Um} {post : Int32 → Um → Prop} (ho : oc o = 10) (H : w_X12_has o a1 U post) : um l Y 1 yX12_has cX12_has 6 (some (.int)) [.ref (Y.2.1 o), .int a1] U (pq_i post) := by
  unfold w_X12_has at H
  refine um_of (by decide) (Nat.le_of_ble_eq_true rfl) [some (.ref (Y.2.1 o)), some (.int a1), none, none, none, none] rfl (fun X h0 hh sz hM hU => ?_)
  have hC := hM.1
  have hR := hM.2.2.1
  refine pr_aload_n hC (by decide +kernel : decode cX12_has 0 = .ok (.aload_n 0, 1)) rfl ?_
  refine pr_iconst hC (0) (by decide +kernel : decode cX12_has 1 = .ok (.iconst 0, 1)) rfl ?_
  refine pv_p0 hC fp_X12_121 (by decide +kernel : decode cX12_has 2 = .ok (.putfield 121, 3)) hU ho (by decide) rfl rfl rfl rfl (fun U_1 h e_U_1 hU => ?_)
  replace H := H U_1 e_U_1
  refine pr_iconst hC (0) (by decide +kernel : decode cX12_has 5 = .ok (.iconst 0, 1)) rfl ?_
  refine pr_istore_n hC (by decide +kernel : decode cX12_has 6 = .ok (.istore_n 2, 1)) (by decide) rfl ?_
  refine pr_iconst hC (0) (by decide +kernel : decode cX12_has 7 = .ok (.iconst 0, 1)) rfl ?_
  refine pr_istore_n hC (by decide +kernel : decode cX12_has 8 = .ok (.istore_n 3, 1)) (by decide) rfl ?_
  refine pr_iconst hC (0) (by decide +kernel : decode cX12_has 9 = .ok (.iconst 0, 1)) rfl ?_
  refine pr_istore hC (by decide +kernel : decode cX12_has 10 = .ok (.istore 4, 2)) (by decide) rfl ?_
  obtain ⟨n_22, H⟩ := H
  refine pv_sub [some (.ref (Y.2.1 o)), some (.int a1), some (.int 0), some (.int 0), some (.int 0), none] (And.intro rfl (And.intro rfl (And.intro rfl (And.intro rfl (And.intro rfl trivial))))) ?_
  refine tl_X12_has_L12 _ _ _ _ ho hC hM hR (fun x2_19 x3_20 U_21 h H hU => ?_) n_22 _ _ _ U_1 h hU H
  refine pr_iload_n hC (by decide +kernel : decode cX12_has 89 = .ok (.iload_n 1, 1)) rfl ?_
  refine pv_table hC (by decide +kernel : decode cX12_has 90 = .ok (.tableswitch 84 0 10 #[58, 58, 58, 58, 58, 58, 65, 70, 72, 74, 79], 58)) 174 (by decide) (fun hq => ?_) (fun hq => ?_)
  · replace H := H.1 (fun e => absurd hq (by rw [e]; decide)) (fun e => absurd hq (by rw [e]; decide)) (fun e => absurd hq (by rw [e]; decide)) (fun e => absurd hq (by rw [e]; decide)) (fun e => absurd hq (by rw [e]; decide)) (fun e => absurd hq (by rw [e]; decide)) (fun e => absurd hq (by rw [e]; decide)) (fun e => absurd hq (by rw [e]; decide)) (fun e => absurd hq (by rw [e]; decide)) (fun e => absurd hq (by rw [e]; decide)) (fun e => absurd hq (by rw [e]; decide))
    refine pr_bipush hC (-2) (by decide +kernel : decode cX12_has 174 = .ok (.bipush (-2), 2)) rfl ?_
    exact pv_iret hM (by decide +kernel : decode cX12_has 176 = .ok (.ireturn, 1)) hU H
  · replace H := H.2
    rcases (show Int32.toInt a1 = 0 ∨ Int32.toInt a1 = 1 ∨ Int32.toInt a1 = 2 ∨ Int32.toInt a1 = 3 ∨ Int32.toInt a1 = 4 ∨ Int32.toInt a1 = 5 ∨ Int32.toInt a1 = 6 ∨ Int32.toInt a1 = 7 ∨ Int32.toInt a1 = 8 ∨ Int32.toInt a1 = 9 ∨ Int32.toInt a1 = 10 from by omega) with hq | hq | hq | hq | hq | hq | hq | hq | hq | hq | hq
    · have e_90 : a1 = 0 := Int32.toInt_inj.mp (hq.trans (by decide))
      replace H := H.1 e_90
      refine ⟨58, 148, by rw [hq]; rfl, by decide, ?_⟩
      refine pr_aload_n hC (by decide +kernel : decode cX12_has 148 = .ok (.aload_n 0, 1)) rfl ?_
      refine pu_g1 hC fg_X12_43 (by decide +kernel : decode cX12_has 149 = .ok (.getfield 43, 3)) hU ho (by decide) rfl (by decide) ?_
      refine pr_iload_n hC (by decide +kernel : decode cX12_has 152 = .ok (.iload_n 1, 1)) rfl ?_
      refine pu_iald hC (by decide +kernel : decode cX12_has 153 = .ok (.iaload, 1)) hU ho rfl H.1 ?_
      replace H := H.2
      exact pv_iret hM (by decide +kernel : decode cX12_has 154 = .ok (.ireturn, 1)) hU H
    · have e_90 : a1 = 1 := Int32.toInt_inj.mp (hq.trans (by decide))
      replace H := H.2.1 e_90
      refine ⟨58, 148, by rw [hq]; rfl, by decide, ?_⟩
      refine pr_aload_n hC (by decide +kernel : decode cX12_has 148 = .ok (.aload_n 0, 1)) rfl ?_
      refine pu_g1 hC fg_X12_43 (by decide +kernel : decode cX12_has 149 = .ok (.getfield 43, 3)) hU ho (by decide) rfl (by decide) ?_
      refine pr_iload_n hC (by decide +kernel : decode cX12_has 152 = .ok (.iload_n 1, 1)) rfl ?_
      refine pu_iald hC (by decide +kernel : decode cX12_has 153 = .ok (.iaload, 1)) hU ho rfl H.1 ?_
      replace H := H.2
      exact pv_iret hM (by decide +kernel : decode cX12_has 154 = .ok (.ireturn, 1)) hU H
    · have e_90 : a1 = 2 := Int32.toInt_inj.mp (hq.trans (by decide))
      replace H := H.2.2.1 e_90
      refine ⟨58, 148, by rw [hq]; rfl, by decide, ?_⟩
      refine pr_aload_n hC (by decide +kernel : decode cX12_has 148 = .ok (.aload_n 0, 1)) rfl ?_
      refine pu_g1 hC fg_X12_43 (by decide +kernel : decode cX12_has 149 = .ok (.getfield 43, 3)) hU ho (by decide) rfl (by decide) ?_
      refine pr_iload_n hC (by decide +kernel : decode cX12_has 152 = .ok (.iload_n 1, 1)) rfl ?_
      refine pu_iald hC (by decide +kernel : decode cX12_has 153 = .ok (.iaload, 1)) hU ho rfl H.1 ?_
      replace H := H.2
      exact pv_iret hM (by decide +kernel : decode cX12_has 154 = .ok (.ireturn, 1)) hU H
    · have e_90 : a1 = 3 := Int32.toInt_inj.mp (hq.trans (by decide))
      replace H := H.2.2.2.1 e_90
      refine ⟨58, 148, by rw [hq]; rfl, by decide, ?_⟩
      refine pr_aload_n hC (by decide +kernel : decode cX12_has 148 = .ok (.aload_n 0, 1)) rfl ?_
      refine pu_g1 hC fg_X12_43 (by decide +kernel : decode cX12_has 149 = .ok (.getfield 43, 3)) hU ho (by decide) rfl (by decide) ?_
      refine pr_iload_n hC (by decide +kernel : decode cX12_has 152 = .ok (.iload_n 1, 1)) rfl ?_
      refine pu_iald hC (by decide +kernel : decode cX12_has 153 = .ok (.iaload, 1)) hU ho rfl H.1 ?_
      replace H := H.2
      exact pv_iret hM (by decide +kernel : decode cX12_has 154 = .ok (.ireturn, 1)) hU H
    · have e_90 : a1 = 4 := Int32.toInt_inj.mp (hq.trans (by decide))
      replace H := H.2.2.2.2.1 e_90
      refine ⟨58, 148, by rw [hq]; rfl, by decide, ?_⟩
      refine pr_aload_n hC (by decide +kernel : decode cX12_has 148 = .ok (.aload_n 0, 1)) rfl ?_
      refine pu_g1 hC fg_X12_43 (by decide +kernel : decode cX12_has 149 = .ok (.getfield 43, 3)) hU ho (by decide) rfl (by decide) ?_
      refine pr_iload_n hC (by decide +kernel : decode cX12_has 152 = .ok (.iload_n 1, 1)) rfl ?_
      refine pu_iald hC (by decide +kernel : decode cX12_has 153 = .ok (.iaload, 1)) hU ho rfl H.1 ?_
      replace H := H.2
      exact pv_iret hM (by decide +kernel : decode cX12_has 154 = .ok (.ireturn, 1)) hU H
    · have e_90 : a1 = 5 := Int32.toInt_inj.mp (hq.trans (by decide))
      replace H := H.2.2.2.2.2.1 e_90
      refine ⟨58, 148, by rw [hq]; rfl, by decide, ?_⟩
      refine pr_aload_n hC (by decide +kernel : decode cX12_has 148 = .ok (.aload_n 0, 1)) rfl ?_
      refine pu_g1 hC fg_X12_43 (by decide +kernel : decode cX12_has 149 = .ok (.getfield 43, 3)) hU ho (by decide) rfl (by decide) ?_
      refine pr_iload_n hC (by decide +kernel : decode cX12_has 152 = .ok (.iload_n 1, 1)) rfl ?_
      refine pu_iald hC (by decide +kernel : decode cX12_has 153 = .ok (.iaload, 1)) hU ho rfl H.1 ?_
      replace H := H.2
      exact pv_iret hM (by decide +kernel : decode cX12_has 154 = .ok (.ireturn, 1)) hU H
    · have e_90 : a1 = 6 := Int32.toInt_inj.mp (hq.trans (by decide))
      replace H := H.2.2.2.2.2.2.1 e_90
      refine ⟨65, 155, by rw [hq]; rfl, by decide, ?_⟩
      refine pr_aload_n hC (by decide +kernel : decode cX12_has 155 = .ok (.aload_n 0, 1)) rfl ?_
      refine pu_g0 hC fg_X12_75 (by decide +kernel : decode cX12_has 156 = .ok (.getfield 75, 3)) hU ho (by decide) rfl rfl ?_
      exact pv_iret hM (by decide +kernel : decode cX12_has 159 = .ok (.ireturn, 1)) hU H
    · have e_90 : a1 = 7 := Int32.toInt_inj.mp (hq.trans (by decide))
      replace H := H.2.2.2.2.2.2.2.1 e_90
      refine ⟨70, 160, by rw [hq]; rfl, by decide, ?_⟩
      refine pr_iload_n hC (by decide +kernel : decode cX12_has 160 = .ok (.iload_n 2, 1)) rfl ?_
      exact pv_iret hM (by decide +kernel : decode cX12_has 161 = .ok (.ireturn, 1)) hU H
    · have e_90 : a1 = 8 := Int32.toInt_inj.mp (hq.trans (by decide))
      replace H := H.2.2.2.2.2.2.2.2.1 e_90
      refine ⟨72, 162, by rw [hq]; rfl, by decide, ?_⟩
      refine pr_iload_n hC (by decide +kernel : decode cX12_has 162 = .ok (.iload_n 3, 1)) rfl ?_
      exact pv_iret hM (by decide +kernel : decode cX12_has 163 = .ok (.ireturn, 1)) hU H
    · have e_90 : a1 = 9 := Int32.toInt_inj.mp (hq.trans (by decide))
      replace H := H.2.2.2.2.2.2.2.2.2.1 e_90
      refine ⟨74, 164, by rw [hq]; rfl, by decide, ?_⟩
      refine pr_aload_n hC (by decide +kernel : decode cX12_has 164 = .ok (.aload_n 0, 1)) rfl ?_
      refine pu_g0 hC fg_X12_344 (by decide +kernel : decode cX12_has 165 = .ok (.getfield 344, 3)) hU ho (by decide) rfl rfl ?_
      exact pv_iret hM (by decide +kernel : decode cX12_has 168 = .ok (.ireturn, 1)) hU H
    · have e_90 : a1 = 10 := Int32.toInt_inj.mp (hq.trans (by decide))
      replace H := H.2.2.2.2.2.2.2.2.2.2 e_90
      refine ⟨79, 169, by rw [hq]; rfl, by decide, ?_⟩
      refine pr_aload_n hC (by decide +kernel : decode cX12_has 169 = .ok (.aload_n 0, 1)) rfl ?_
      refine pu_g0 hC fg_X12_124 (by decide +kernel : decode cX12_has 170 = .ok (.getfield 124, 3)) hU ho (by decide) rfl rfl ?_
      exact pv_iret hM (by decide +kernel : decode cX12_has 173 = .ok (.ireturn, 1)) hU H
def b_X12_letterOf_L5 (x0 : Int64) (x2 : Int32) (post : Int32 → Um → Prop) (k_26 : Int32 → Um → Prop) (rec_ : Int32 → Int64 → Um → Prop) (x3 : Int32) (x4 : Int64) (U : Um) : Prop :=
  ((lg_cmp x4 0) ≤ 0 → k_26 x3 U) ∧ (¬ (lg_cmp x4 0) ≤ 0 → ∀ (x3_2 : Int32), x3_2 = x3 + 1 → ∀ (x4_3 : Int64), x4_3 = x4 / 27 → rec_ x3_2 x4_3 U)
def w_X12_letterOf_L5 (x0 : Int64) (x2 : Int32) (post : Int32 → Um → Prop) (k_26 : Int32 → Um → Prop) (n_ : Nat) : Int32 → Int64 → Um → Prop := Nat.rec (motive := fun _ => Int32 → Int64 → Um → Prop) (fun _ _ _ => False) (fun _ ih => b_X12_letterOf_L5 x0 x2 post k_26 ih) n_
def b_X12_letterOf_L49 (x2 : Int32) (post : Int32 → Um → Prop) (k_69 : Int64 → Um → Prop) (rec_ : Int64 → Int32 → Um → Prop) (x4 : Int64) (x6 : Int32) (U : Um) : Prop :=
  (x6 ≤ x2 → k_69 x4 U) ∧ (¬ x6 ≤ x2 → ∀ (x4_10 : Int64), x4_10 = x4 / 27 → ∀ (x6_11 : Int32), x6_11 = x6 + (-1) → rec_ x4_10 x6_11 U)
def w_X12_letterOf_L49 (x2 : Int32) (post : Int32 → Um → Prop) (k_69 : Int64 → Um → Prop) (n_ : Nat) : Int64 → Int32 → Um → Prop := Nat.rec (motive := fun _ => Int64 → Int32 → Um → Prop) (fun _ _ _ => False) (fun _ ih => b_X12_letterOf_L49 x2 post k_69 ih) n_
def w_X12_letterOf (a1 : Int64) (a2 : Int32) (U : Um) (post : Int32 → Um → Prop) : Prop :=
  ∀ (x4_1 : Int64), x4_1 = a1 → (∃ n_15, w_X12_letterOf_L5 a1 a2 post (fun x3_4 U_5 => w_X12_isIn (Int32.toInt64 a2) 0 (Int32.toInt64 (x3_4 - 1)) U_5 (fun r_7 U_6 => (r_7 = 0 → post (-1) U_6) ∧ (¬ r_7 = 0 → ∀ (x4_8 : Int64), x4_8 = a1 → ∀ (x6_9 : Int32), x6_9 = x3_4 - 1 → (∃ n_14, w_X12_letterOf_L49 a2 post (fun x4_12 U_13 => post ((Int64.toInt32 (x4_12 - x4_12 / 27 * 27)) - 1) U_13) n_14 x4_8 x6_9 U_6)))) n_15 0 x4_1 U)
set_option maxHeartbeats 4000000 in
theorem tl_X12_letterOf_L5 {l : Launch} {Y : px_Y} {X : px_X} {h0 hh : pe_H} {sz : Nat} (x0 : Int64) (x2 : Int32) (post : Int32 → Um → Prop) (k_26 : Int32 → Um → Prop)   (hC : px_C X Y.1 (pm_A hh sz) cX12_letterOf RX12 7) (hM : px_M l X Y.1 hh sz yX12_letterOf cX12_letterOf 7 (some (.int)) 1 0 0) (hR : X.2.2.2.1 = pm_rm 1 0 0) (hk_26 : ∀ (y3 : Int32) (U : Um) (h : pe_H), k_26 y3 U → rF Y h0 U h → pw X Y.1 (pm_A hh sz) (pm_E X Y.1 hh sz 0 0 (pm_P Y h0 sz (pq_i post))) 26 [some (.long x0), none, some (.int x2), some (.int y3), none, none, none] [] h sz 0 0) : ∀ (n_ : Nat) (x3 : Int32) (x4 : Int64) (U : Um) (h : pe_H), rF Y h0 U h → w_X12_letterOf_L5 x0 x2 post k_26 n_ x3 x4 U → pw X Y.1 (pm_A hh sz) (pm_E X Y.1 hh sz 0 0 (pm_P Y h0 sz (pq_i post))) 5 [some (.long x0), none, some (.int x2), some (.int x3), some (.long x4), none, none] [] h sz 0 0 := by
  intro n_
  induction n_ with
  | zero => intro x3 x4 U h hU H; exact False.elim H
  | succ n_ ih =>
    intro x3 x4 U h hU H
    replace H : b_X12_letterOf_L5 x0 x2 post k_26 (w_X12_letterOf_L5 x0 x2 post k_26 n_) x3 x4 U := H
    unfold b_X12_letterOf_L5 at H
    refine pr_lload hC (by decide +kernel : decode cX12_letterOf 5 = .ok (.lload 4, 2)) rfl ?_
    refine pr_lconst hC (0) (by decide +kernel : decode cX12_letterOf 7 = .ok (.lconst 0, 1)) rfl ?_
    refine pr_lcmp hC (by decide +kernel : decode cX12_letterOf 8 = .ok (.lcmp, 1)) ?_
    refine pr_if_le hC 26 (by decide +kernel : decode cX12_letterOf 9 = .ok (.ifCond .le 17, 3)) (by decide) (fun c_9 => ?_) (fun c_9 => ?_)
    · replace H := H.1 c_9
      exact pv_sub [some (.long x0), none, some (.int x2), some (.int x3), none, none, none] (And.intro rfl (And.intro rfl (And.intro rfl trivial))) (hk_26 _ U h H hU)
    replace H := H.2 c_9
    refine pv_iinc hC (v := x3 + 1) (by decide +kernel : decode cX12_letterOf 12 = .ok (.iinc 3 1, 3)) rfl (by decide) rfl rfl (fun x3_2 e_x3_2 => ?_)
    replace H := H x3_2 e_x3_2
    refine pr_lload hC (by decide +kernel : decode cX12_letterOf 15 = .ok (.lload 4, 2)) rfl ?_
    refine pr_ldc2 hC (27) (by decide +kernel : decode cX12_letterOf 17 = .ok (.ldc2_w 162, 3)) fk_X12_162 ?_
    refine pr_ldiv hC (by decide +kernel : decode cX12_letterOf 20 = .ok (.ldiv, 1)) (by decide) ?_
    refine pv_topl (fun x4_3 e_x4_3 => ?_)
    replace H := H x4_3 e_x4_3
    refine pr_lstore hC (by decide +kernel : decode cX12_letterOf 21 = .ok (.lstore 4, 2)) (by decide) rfl ?_
    refine pr_goto hC 5 (by decide +kernel : decode cX12_letterOf 23 = .ok (.goto (-18), 3)) (by decide) ?_
    exact pv_sub [some (.long x0), none, some (.int x2), some (.int x3_2), some (.long x4_3), none, none] (And.intro rfl (And.intro rfl (And.intro rfl (And.intro rfl trivial)))) (ih _ _ U h hU H)
set_option maxHeartbeats 4000000 in
theorem tl_X12_letterOf_L49 {l : Launch} {Y : px_Y} {X : px_X} {h0 hh : pe_H} {sz : Nat} (x2 : Int32) (post : Int32 → Um → Prop) (k_69 : Int64 → Um → Prop)   (hC : px_C X Y.1 (pm_A hh sz) cX12_letterOf RX12 7) (hM : px_M l X Y.1 hh sz yX12_letterOf cX12_letterOf 7 (some (.int)) 1 0 0) (hR : X.2.2.2.1 = pm_rm 1 0 0) (hk_69 : ∀ (y4 : Int64) (U : Um) (h : pe_H), k_69 y4 U → rF Y h0 U h → pw X Y.1 (pm_A hh sz) (pm_E X Y.1 hh sz 0 0 (pm_P Y h0 sz (pq_i post))) 69 [none, none, none, none, some (.long y4), none, none] [] h sz 0 0) : ∀ (n_ : Nat) (x4 : Int64) (x6 : Int32) (U : Um) (h : pe_H), rF Y h0 U h → w_X12_letterOf_L49 x2 post k_69 n_ x4 x6 U → pw X Y.1 (pm_A hh sz) (pm_E X Y.1 hh sz 0 0 (pm_P Y h0 sz (pq_i post))) 49 [none, none, some (.int x2), none, some (.long x4), none, some (.int x6)] [] h sz 0 0 := by
  intro n_
  induction n_ with
  | zero => intro x4 x6 U h hU H; exact False.elim H
  | succ n_ ih =>
    intro x4 x6 U h hU H
    replace H : b_X12_letterOf_L49 x2 post k_69 (w_X12_letterOf_L49 x2 post k_69 n_) x4 x6 U := H
    unfold b_X12_letterOf_L49 at H
    refine pr_iload hC (by decide +kernel : decode cX12_letterOf 49 = .ok (.iload 6, 2)) rfl ?_
    refine pr_iload_n hC (by decide +kernel : decode cX12_letterOf 51 = .ok (.iload_n 2, 1)) rfl ?_
    refine pr_icmp_le hC 69 (by decide +kernel : decode cX12_letterOf 52 = .ok (.if_icmp .le 17, 3)) (by decide) (fun c_52 => ?_) (fun c_52 => ?_)
    · replace H := H.1 c_52
      exact pv_sub [none, none, none, none, some (.long x4), none, none] (And.intro rfl trivial) (hk_69 _ U h H hU)
    replace H := H.2 c_52
    refine pr_lload hC (by decide +kernel : decode cX12_letterOf 55 = .ok (.lload 4, 2)) rfl ?_
    refine pr_ldc2 hC (27) (by decide +kernel : decode cX12_letterOf 57 = .ok (.ldc2_w 162, 3)) fk_X12_162 ?_
    refine pr_ldiv hC (by decide +kernel : decode cX12_letterOf 60 = .ok (.ldiv, 1)) (by decide) ?_
    refine pv_topl (fun x4_10 e_x4_10 => ?_)
    replace H := H x4_10 e_x4_10
    refine pr_lstore hC (by decide +kernel : decode cX12_letterOf 61 = .ok (.lstore 4, 2)) (by decide) rfl ?_
    refine pv_iinc hC (v := x6 + (-1)) (by decide +kernel : decode cX12_letterOf 63 = .ok (.iinc 6 (-1), 3)) rfl (by decide) rfl rfl (fun x6_11 e_x6_11 => ?_)
    replace H := H x6_11 e_x6_11
    refine pr_goto hC 49 (by decide +kernel : decode cX12_letterOf 66 = .ok (.goto (-17), 3)) (by decide) ?_
    exact pv_sub [none, none, some (.int x2), none, some (.long x4_10), none, some (.int x6_11)] (And.intro rfl (And.intro rfl (And.intro rfl trivial))) (ih _ _ U h hU H)
set_option maxHeartbeats 4000000 in
theorem t_X12_letterOf {l : Launch} {Y : px_Y} {a1 : Int64} {a2 : Int32} {U : Um} {post : Int32 → Um → Prop}  (H : w_X12_letterOf a1 a2 U post) : um l Y 1 yX12_letterOf cX12_letterOf 7 (some (.int)) [.long a1, .int a2] U (pq_i post) := by
  unfold w_X12_letterOf at H
  refine um_of (by decide) (Nat.le_of_ble_eq_true rfl) [some (.long a1), none, some (.int a2), none, none, none, none] rfl (fun X h0 hh sz hM hU => ?_)
  have hC := hM.1
  have hR := hM.2.2.1
  refine pr_iconst hC (0) (by decide +kernel : decode cX12_letterOf 0 = .ok (.iconst 0, 1)) rfl ?_
  refine pr_istore_n hC (by decide +kernel : decode cX12_letterOf 1 = .ok (.istore_n 3, 1)) (by decide) rfl ?_
  refine pr_lload_n hC (by decide +kernel : decode cX12_letterOf 2 = .ok (.lload_n 0, 1)) rfl ?_
  refine pv_topl (fun x4_1 e_x4_1 => ?_)
  replace H := H x4_1 e_x4_1
  refine pr_lstore hC (by decide +kernel : decode cX12_letterOf 3 = .ok (.lstore 4, 2)) (by decide) rfl ?_
  obtain ⟨n_15, H⟩ := H
  refine pv_sub [some (.long a1), none, some (.int a2), some (.int 0), some (.long x4_1), none, none] (And.intro rfl (And.intro rfl (And.intro rfl (And.intro rfl trivial)))) ?_
  refine tl_X12_letterOf_L5 _ _ _ _ hC hM hR (fun x3_4 U_5 h H hU => ?_) n_15 _ _ U hh hU H
  refine pr_iload_n hC (by decide +kernel : decode cX12_letterOf 26 = .ok (.iload_n 2, 1)) rfl ?_
  refine pr_i2l hC (by decide +kernel : decode cX12_letterOf 27 = .ok (.i2l, 1)) ?_
  refine pr_lconst hC (0) (by decide +kernel : decode cX12_letterOf 28 = .ok (.lconst 0, 1)) rfl ?_
  refine pr_iload_n hC (by decide +kernel : decode cX12_letterOf 29 = .ok (.iload_n 3, 1)) rfl ?_
  refine pr_iconst hC (1) (by decide +kernel : decode cX12_letterOf 30 = .ok (.iconst 1, 1)) rfl ?_
  refine pr_isub hC (by decide +kernel : decode cX12_letterOf 31 = .ok (.isub, 1)) ?_
  refine pr_i2l hC (by decide +kernel : decode cX12_letterOf 32 = .ok (.i2l, 1)) ?_
  refine vc_Si hC hR [.long (Int32.toInt64 a2), .long 0, .long (Int32.toInt64 (x3_4 - 1))] fv_X12_131 (by decide +kernel : decode cX12_letterOf 33 = .ok (.invokestatic 131, 3)) hU (t_X12_isIn  H) rfl rfl (Nat.le_of_ble_eq_true rfl) (Nat.le_of_ble_eq_true rfl) (Nat.le_refl 0) (Nat.le_refl 0) (fun r_7 U_6 h H hU => ?_)
  refine pr_if_ne hC 41 (by decide +kernel : decode cX12_letterOf 36 = .ok (.ifCond .ne 5, 3)) (by decide) (fun c_36 => ?_) (fun c_36 => ?_)
  · replace H := H.2 c_36
    refine pr_lload_n hC (by decide +kernel : decode cX12_letterOf 41 = .ok (.lload_n 0, 1)) rfl ?_
    refine pv_topl (fun x4_8 e_x4_8 => ?_)
    replace H := H x4_8 e_x4_8
    refine pr_lstore hC (by decide +kernel : decode cX12_letterOf 42 = .ok (.lstore 4, 2)) (by decide) rfl ?_
    refine pr_iload_n hC (by decide +kernel : decode cX12_letterOf 44 = .ok (.iload_n 3, 1)) rfl ?_
    refine pr_iconst hC (1) (by decide +kernel : decode cX12_letterOf 45 = .ok (.iconst 1, 1)) rfl ?_
    refine pr_isub hC (by decide +kernel : decode cX12_letterOf 46 = .ok (.isub, 1)) ?_
    refine pv_topi (fun x6_9 e_x6_9 => ?_)
    replace H := H x6_9 e_x6_9
    refine pr_istore hC (by decide +kernel : decode cX12_letterOf 47 = .ok (.istore 6, 2)) (by decide) rfl ?_
    obtain ⟨n_14, H⟩ := H
    refine pv_sub [none, none, some (.int a2), none, some (.long x4_8), none, some (.int x6_9)] (And.intro rfl (And.intro rfl (And.intro rfl trivial))) ?_
    refine tl_X12_letterOf_L49 _ _ _ hC hM hR (fun x4_12 U_13 h H hU => ?_) n_14 _ _ U_6 h hU H
    refine pr_lload hC (by decide +kernel : decode cX12_letterOf 69 = .ok (.lload 4, 2)) rfl ?_
    refine pr_ldc2 hC (27) (by decide +kernel : decode cX12_letterOf 71 = .ok (.ldc2_w 162, 3)) fk_X12_162 ?_
    refine pr_lrem hC (by decide +kernel : decode cX12_letterOf 74 = .ok (.lrem, 1)) (by decide) ?_
    refine pr_l2i hC (by decide +kernel : decode cX12_letterOf 75 = .ok (.l2i, 1)) ?_
    refine pr_iconst hC (1) (by decide +kernel : decode cX12_letterOf 76 = .ok (.iconst 1, 1)) rfl ?_
    refine pr_isub hC (by decide +kernel : decode cX12_letterOf 77 = .ok (.isub, 1)) ?_
    exact pv_iret hM (by decide +kernel : decode cX12_letterOf 78 = .ok (.ireturn, 1)) hU H
  replace H := H.1 c_36
  refine pr_iconst hC (-1) (by decide +kernel : decode cX12_letterOf 39 = .ok (.iconst (-1), 1)) rfl ?_
  exact pv_iret hM (by decide +kernel : decode cX12_letterOf 40 = .ok (.ireturn, 1)) hU H
def w_X12_letter (o : Nat) (a1 : Int32) (a2 : Int32) (a3 : Int32) (U : Um) (post : Int32 → Um → Prop) : Prop :=
  ∀ (U_1 : Um), U_1 = sI U o 0 0 → w_X12_isIn (Int32.toInt64 a1) 0 2 U_1 (fun r_3 U_2 => (r_3 = 0 → post (-1) U_2) ∧ (¬ r_3 = 0 → vp_in a1 14 ∧ w_X12_isIn (Int32.toInt64 a2) 0 (Int32.toInt64 ((uA U_2 o 11 (Int32.toNatClampNeg a1)) - 1)) U_2 (fun r_5 U_4 => (r_5 = 0 → post (-1) U_4) ∧ (¬ r_5 = 0 → (a1 = 0 → vp_in a2 12 ∧ w_X12_letterOf (uJ U_4 o 1 (Int32.toNatClampNeg a2)) a3 U_4 (fun r_7 U_6 => post r_7 U_6)) ∧ (¬ a1 = 0 → (a1 = 1 → vp_in a2 16 ∧ w_X12_letterOf (uJ U_4 o 4 (Int32.toNatClampNeg a2)) a3 U_4 (fun r_9 U_8 => post r_9 U_8)) ∧ (¬ a1 = 1 → vp_in a2 20 ∧ w_X12_letterOf (uJ U_4 o 5 (Int32.toNatClampNeg a2)) a3 U_4 (fun r_11 U_10 => post r_11 U_10)))))))
set_option maxHeartbeats 4000000 in
theorem t_X12_letter {l : Launch} {Y : px_Y} {o : Nat} {a1 : Int32} {a2 : Int32} {a3 : Int32} {U : Um} {post : Int32 → Um → Prop} (ho : oc o = 10) (H : w_X12_letter o a1 a2 a3 U post) : um l Y 2 yX12_letter cX12_letter 4 (some (.int)) [.ref (Y.2.1 o), .int a1, .int a2, .int a3] U (pq_i post) := by
  unfold w_X12_letter at H
  refine um_of (by decide) (Nat.le_of_ble_eq_true rfl) [some (.ref (Y.2.1 o)), some (.int a1), some (.int a2), some (.int a3)] rfl (fun X h0 hh sz hM hU => ?_)
  have hC := hM.1
  have hR := hM.2.2.1
  refine pr_aload_n hC (by decide +kernel : decode cX12_letter 0 = .ok (.aload_n 0, 1)) rfl ?_
  refine pr_iconst hC (0) (by decide +kernel : decode cX12_letter 1 = .ok (.iconst 0, 1)) rfl ?_
  refine pv_p0 hC fp_X12_121 (by decide +kernel : decode cX12_letter 2 = .ok (.putfield 121, 3)) hU ho (by decide) rfl rfl rfl rfl (fun U_1 h e_U_1 hU => ?_)
  replace H := H U_1 e_U_1
  refine pr_iload_n hC (by decide +kernel : decode cX12_letter 5 = .ok (.iload_n 1, 1)) rfl ?_
  refine pr_i2l hC (by decide +kernel : decode cX12_letter 6 = .ok (.i2l, 1)) ?_
  refine pr_lconst hC (0) (by decide +kernel : decode cX12_letter 7 = .ok (.lconst 0, 1)) rfl ?_
  refine pr_ldc2 hC (2) (by decide +kernel : decode cX12_letter 8 = .ok (.ldc2_w 362, 3)) fk_X12_362 ?_
  refine vc_Si hC hR [.long (Int32.toInt64 a1), .long 0, .long 2] fv_X12_131 (by decide +kernel : decode cX12_letter 11 = .ok (.invokestatic 131, 3)) hU (t_X12_isIn  H) rfl rfl (Nat.le_of_ble_eq_true rfl) (Nat.le_of_ble_eq_true rfl) (Nat.le_refl 0) (Nat.le_refl 0) (fun r_3 U_2 h H hU => ?_)
  refine pr_if_eq hC 35 (by decide +kernel : decode cX12_letter 14 = .ok (.ifCond .eq 21, 3)) (by decide) (fun c_14 => ?_) (fun c_14 => ?_)
  · replace H := H.1 c_14
    refine pr_iconst hC (-1) (by decide +kernel : decode cX12_letter 35 = .ok (.iconst (-1), 1)) rfl ?_
    exact pv_iret hM (by decide +kernel : decode cX12_letter 36 = .ok (.ireturn, 1)) hU H
  replace H := H.2 c_14
  refine pr_iload_n hC (by decide +kernel : decode cX12_letter 17 = .ok (.iload_n 2, 1)) rfl ?_
  refine pr_i2l hC (by decide +kernel : decode cX12_letter 18 = .ok (.i2l, 1)) ?_
  refine pr_lconst hC (0) (by decide +kernel : decode cX12_letter 19 = .ok (.lconst 0, 1)) rfl ?_
  refine pr_aload_n hC (by decide +kernel : decode cX12_letter 20 = .ok (.aload_n 0, 1)) rfl ?_
  refine pu_g1 hC fg_X12_43 (by decide +kernel : decode cX12_letter 21 = .ok (.getfield 43, 3)) hU ho (by decide) rfl (by decide) ?_
  refine pr_iload_n hC (by decide +kernel : decode cX12_letter 24 = .ok (.iload_n 1, 1)) rfl ?_
  refine pu_iald hC (by decide +kernel : decode cX12_letter 25 = .ok (.iaload, 1)) hU ho rfl H.1 ?_
  replace H := H.2
  refine pr_iconst hC (1) (by decide +kernel : decode cX12_letter 26 = .ok (.iconst 1, 1)) rfl ?_
  refine pr_isub hC (by decide +kernel : decode cX12_letter 27 = .ok (.isub, 1)) ?_
  refine pr_i2l hC (by decide +kernel : decode cX12_letter 28 = .ok (.i2l, 1)) ?_
  refine vc_Si hC hR [.long (Int32.toInt64 a2), .long 0, .long (Int32.toInt64 ((uA U_2 o 11 (Int32.toNatClampNeg a1)) - 1))] fv_X12_131 (by decide +kernel : decode cX12_letter 29 = .ok (.invokestatic 131, 3)) hU (t_X12_isIn  H) rfl rfl (Nat.le_of_ble_eq_true rfl) (Nat.le_of_ble_eq_true rfl) (Nat.le_refl 0) (Nat.le_refl 0) (fun r_5 U_4 h H hU => ?_)
  refine pr_if_ne hC 37 (by decide +kernel : decode cX12_letter 32 = .ok (.ifCond .ne 5, 3)) (by decide) (fun c_32 => ?_) (fun c_32 => ?_)
  · replace H := H.2 c_32
    refine pr_iload_n hC (by decide +kernel : decode cX12_letter 37 = .ok (.iload_n 1, 1)) rfl ?_
    refine pr_if_ne hC 50 (by decide +kernel : decode cX12_letter 38 = .ok (.ifCond .ne 12, 3)) (by decide) (fun c_38 => ?_) (fun c_38 => ?_)
    · replace H := H.2 c_38
      refine pr_iload_n hC (by decide +kernel : decode cX12_letter 50 = .ok (.iload_n 1, 1)) rfl ?_
      refine pr_iconst hC (1) (by decide +kernel : decode cX12_letter 51 = .ok (.iconst 1, 1)) rfl ?_
      refine pr_icmp_ne hC 64 (by decide +kernel : decode cX12_letter 52 = .ok (.if_icmp .ne 12, 3)) (by decide) (fun c_52 => ?_) (fun c_52 => ?_)
      · replace H := H.2 c_52
        refine pr_aload_n hC (by decide +kernel : decode cX12_letter 64 = .ok (.aload_n 0, 1)) rfl ?_
        refine pu_g1 hC fg_X12_25 (by decide +kernel : decode cX12_letter 65 = .ok (.getfield 25, 3)) hU ho (by decide) rfl (by decide) ?_
        refine pr_iload_n hC (by decide +kernel : decode cX12_letter 68 = .ok (.iload_n 2, 1)) rfl ?_
        refine pu_lald hC (by decide +kernel : decode cX12_letter 69 = .ok (.laload, 1)) hU ho rfl H.1 ?_
        replace H := H.2
        refine pr_iload_n hC (by decide +kernel : decode cX12_letter 70 = .ok (.iload_n 3, 1)) rfl ?_
        refine vc_Si hC hR [.long (uJ U_4 o 5 (Int32.toNatClampNeg a2)), .int a3] fv_X12_364 (by decide +kernel : decode cX12_letter 71 = .ok (.invokestatic 364, 3)) hU (t_X12_letterOf  H) rfl rfl (Nat.le_of_ble_eq_true rfl) (Nat.le_of_ble_eq_true rfl) (Nat.le_refl 0) (Nat.le_refl 0) (fun r_11 U_10 h H hU => ?_)
        exact pv_iret hM (by decide +kernel : decode cX12_letter 74 = .ok (.ireturn, 1)) hU H
      replace H := H.1 c_52
      refine pr_aload_n hC (by decide +kernel : decode cX12_letter 55 = .ok (.aload_n 0, 1)) rfl ?_
      refine pu_g1 hC fg_X12_22 (by decide +kernel : decode cX12_letter 56 = .ok (.getfield 22, 3)) hU ho (by decide) rfl (by decide) ?_
      refine pr_iload_n hC (by decide +kernel : decode cX12_letter 59 = .ok (.iload_n 2, 1)) rfl ?_
      refine pu_lald hC (by decide +kernel : decode cX12_letter 60 = .ok (.laload, 1)) hU ho rfl H.1 ?_
      replace H := H.2
      refine pr_goto hC 70 (by decide +kernel : decode cX12_letter 61 = .ok (.goto 9, 3)) (by decide) ?_
      refine pr_iload_n hC (by decide +kernel : decode cX12_letter 70 = .ok (.iload_n 3, 1)) rfl ?_
      refine vc_Si hC hR [.long (uJ U_4 o 4 (Int32.toNatClampNeg a2)), .int a3] fv_X12_364 (by decide +kernel : decode cX12_letter 71 = .ok (.invokestatic 364, 3)) hU (t_X12_letterOf  H) rfl rfl (Nat.le_of_ble_eq_true rfl) (Nat.le_of_ble_eq_true rfl) (Nat.le_refl 0) (Nat.le_refl 0) (fun r_9 U_8 h H hU => ?_)
      exact pv_iret hM (by decide +kernel : decode cX12_letter 74 = .ok (.ireturn, 1)) hU H
    replace H := H.1 c_38
    refine pr_aload_n hC (by decide +kernel : decode cX12_letter 41 = .ok (.aload_n 0, 1)) rfl ?_
    refine pu_g1 hC fg_X12_9 (by decide +kernel : decode cX12_letter 42 = .ok (.getfield 9, 3)) hU ho (by decide) rfl (by decide) ?_
    refine pr_iload_n hC (by decide +kernel : decode cX12_letter 45 = .ok (.iload_n 2, 1)) rfl ?_
    refine pu_lald hC (by decide +kernel : decode cX12_letter 46 = .ok (.laload, 1)) hU ho rfl H.1 ?_
    replace H := H.2
    refine pr_goto hC 70 (by decide +kernel : decode cX12_letter 47 = .ok (.goto 23, 3)) (by decide) ?_
    refine pr_iload_n hC (by decide +kernel : decode cX12_letter 70 = .ok (.iload_n 3, 1)) rfl ?_
    refine vc_Si hC hR [.long (uJ U_4 o 1 (Int32.toNatClampNeg a2)), .int a3] fv_X12_364 (by decide +kernel : decode cX12_letter 71 = .ok (.invokestatic 364, 3)) hU (t_X12_letterOf  H) rfl rfl (Nat.le_of_ble_eq_true rfl) (Nat.le_of_ble_eq_true rfl) (Nat.le_refl 0) (Nat.le_refl 0) (fun r_7 U_6 h H hU => ?_)
    exact pv_iret hM (by decide +kernel : decode cX12_letter 74 = .ok (.ireturn, 1)) hU H
  replace H := H.1 c_32
  refine pr_iconst hC (-1) (by decide +kernel : decode cX12_letter 35 = .ok (.iconst (-1), 1)) rfl ?_
  exact pv_iret hM (by decide +kernel : decode cX12_letter 36 = .ok (.ireturn, 1)) hU H
def w_X12_one_ (o : Nat) (a1 : Int32) (a2 : Int32) (U : Um) (post : Int32 → Um → Prop) : Prop :=
  ∀ (U_1 : Um), U_1 = sI U o 0 0 → w_X12_isOne o a1 U_1 (fun r_3 U_2 => (r_3 = 0 → post (-2) U_2) ∧ (¬ r_3 = 0 → (¬ a2 = 0 → ¬ a2 = 1 → ¬ a2 = 2 → ¬ a2 = 3 → ¬ a2 = 4 → ¬ a2 = 5 → ¬ a2 = 6 → post (-2) U_2) ∧ (a2 = 0 → vp_in a1 10 ∧ post (uA U_2 o 32 (Int32.toNatClampNeg a1)) U_2) ∧ (a2 = 1 → vp_in a1 20 ∧ post (uA U_2 o 6 (Int32.toNatClampNeg a1)) U_2) ∧ (a2 = 2 → vp_in a1 20 ∧ post (uA U_2 o 7 (Int32.toNatClampNeg a1)) U_2) ∧ (a2 = 3 → vp_in a1 20 ∧ post (uA U_2 o 8 (Int32.toNatClampNeg a1)) U_2) ∧ (a2 = 4 → vp_in a1 10 ∧ post (uA U_2 o 33 (Int32.toNatClampNeg a1)) U_2) ∧ (a2 = 5 → vp_in a1 10 ∧ post (FP.f2i (uF U_2 o 34 (Int32.toNatClampNeg a1))) U_2) ∧ (a2 = 6 → w_X12_seatsOf o a1 U_2 (fun r_5 U_4 => post r_5 U_4))))
set_option maxHeartbeats 4000000 in
theorem t_X12_one_ {l : Launch} {Y : px_Y} {o : Nat} {a1 : Int32} {a2 : Int32} {U : Um} {post : Int32 → Um → Prop} (ho : oc o = 10) (H : w_X12_one_ o a1 a2 U post) : um l Y 2 yX12_one_ cX12_one_ 3 (some (.int)) [.ref (Y.2.1 o), .int a1, .int a2] U (pq_i post) := by
  unfold w_X12_one_ at H
  refine um_of (by decide) (Nat.le_of_ble_eq_true rfl) [some (.ref (Y.2.1 o)), some (.int a1), some (.int a2)] rfl (fun X h0 hh sz hM hU => ?_)
  have hC := hM.1
  have hR := hM.2.2.1
  refine pr_aload_n hC (by decide +kernel : decode cX12_one_ 0 = .ok (.aload_n 0, 1)) rfl ?_
  refine pr_iconst hC (0) (by decide +kernel : decode cX12_one_ 1 = .ok (.iconst 0, 1)) rfl ?_
  refine pv_p0 hC fp_X12_121 (by decide +kernel : decode cX12_one_ 2 = .ok (.putfield 121, 3)) hU ho (by decide) rfl rfl rfl rfl (fun U_1 h e_U_1 hU => ?_)
  replace H := H U_1 e_U_1
  refine pr_aload_n hC (by decide +kernel : decode cX12_one_ 5 = .ok (.aload_n 0, 1)) rfl ?_
  refine pr_iload_n hC (by decide +kernel : decode cX12_one_ 6 = .ok (.iload_n 1, 1)) rfl ?_
  refine vc_Vi hC hR [.int a1] fv_X12_368 (by decide +kernel : decode cX12_one_ 7 = .ok (.invokevirtual 368, 3)) hU (t_X12_isOne ho H) ho (by decide) rfl rfl rfl (Nat.le_of_ble_eq_true rfl) (Nat.le_of_ble_eq_true rfl) (Nat.le_refl 0) (Nat.le_refl 0) (fun r_3 U_2 h H hU => ?_)
  refine pr_if_ne hC 16 (by decide +kernel : decode cX12_one_ 10 = .ok (.ifCond .ne 6, 3)) (by decide) (fun c_10 => ?_) (fun c_10 => ?_)
  · replace H := H.2 c_10
    refine pr_iload_n hC (by decide +kernel : decode cX12_one_ 16 = .ok (.iload_n 2, 1)) rfl ?_
    refine pv_table hC (by decide +kernel : decode cX12_one_ 17 = .ok (.tableswitch 92 0 6 #[43, 50, 57, 64, 71, 78, 86], 43)) 109 (by decide) (fun hq => ?_) (fun hq => ?_)
    · replace H := H.1 (fun e => absurd hq (by rw [e]; decide)) (fun e => absurd hq (by rw [e]; decide)) (fun e => absurd hq (by rw [e]; decide)) (fun e => absurd hq (by rw [e]; decide)) (fun e => absurd hq (by rw [e]; decide)) (fun e => absurd hq (by rw [e]; decide)) (fun e => absurd hq (by rw [e]; decide))
      refine pr_bipush hC (-2) (by decide +kernel : decode cX12_one_ 109 = .ok (.bipush (-2), 2)) rfl ?_
      exact pv_iret hM (by decide +kernel : decode cX12_one_ 111 = .ok (.ireturn, 1)) hU H
    · replace H := H.2
      rcases (show Int32.toInt a2 = 0 ∨ Int32.toInt a2 = 1 ∨ Int32.toInt a2 = 2 ∨ Int32.toInt a2 = 3 ∨ Int32.toInt a2 = 4 ∨ Int32.toInt a2 = 5 ∨ Int32.toInt a2 = 6 from by omega) with hq | hq | hq | hq | hq | hq | hq
      · have e_17 : a2 = 0 := Int32.toInt_inj.mp (hq.trans (by decide))
        replace H := H.1 e_17
        refine ⟨43, 60, by rw [hq]; rfl, by decide, ?_⟩
        refine pr_aload_n hC (by decide +kernel : decode cX12_one_ 60 = .ok (.aload_n 0, 1)) rfl ?_
        refine pu_g1 hC fg_X12_65 (by decide +kernel : decode cX12_one_ 61 = .ok (.getfield 65, 3)) hU ho (by decide) rfl (by decide) ?_
        refine pr_iload_n hC (by decide +kernel : decode cX12_one_ 64 = .ok (.iload_n 1, 1)) rfl ?_
        refine pu_iald hC (by decide +kernel : decode cX12_one_ 65 = .ok (.iaload, 1)) hU ho rfl H.1 ?_
        replace H := H.2
        exact pv_iret hM (by decide +kernel : decode cX12_one_ 66 = .ok (.ireturn, 1)) hU H
      · have e_17 : a2 = 1 := Int32.toInt_inj.mp (hq.trans (by decide))
        replace H := H.2.1 e_17
        refine ⟨50, 67, by rw [hq]; rfl, by decide, ?_⟩
        refine pr_aload_n hC (by decide +kernel : decode cX12_one_ 67 = .ok (.aload_n 0, 1)) rfl ?_
        refine pu_g1 hC fg_X12_28 (by decide +kernel : decode cX12_one_ 68 = .ok (.getfield 28, 3)) hU ho (by decide) rfl (by decide) ?_
        refine pr_iload_n hC (by decide +kernel : decode cX12_one_ 71 = .ok (.iload_n 1, 1)) rfl ?_
        refine pu_iald hC (by decide +kernel : decode cX12_one_ 72 = .ok (.iaload, 1)) hU ho rfl H.1 ?_
        replace H := H.2
        exact pv_iret hM (by decide +kernel : decode cX12_one_ 73 = .ok (.ireturn, 1)) hU H
      · have e_17 : a2 = 2 := Int32.toInt_inj.mp (hq.trans (by decide))
        replace H := H.2.2.1 e_17
        refine ⟨57, 74, by rw [hq]; rfl, by decide, ?_⟩
        refine pr_aload_n hC (by decide +kernel : decode cX12_one_ 74 = .ok (.aload_n 0, 1)) rfl ?_
        refine pu_g1 hC fg_X12_31 (by decide +kernel : decode cX12_one_ 75 = .ok (.getfield 31, 3)) hU ho (by decide) rfl (by decide) ?_
        refine pr_iload_n hC (by decide +kernel : decode cX12_one_ 78 = .ok (.iload_n 1, 1)) rfl ?_
        refine pu_iald hC (by decide +kernel : decode cX12_one_ 79 = .ok (.iaload, 1)) hU ho rfl H.1 ?_
        replace H := H.2
        exact pv_iret hM (by decide +kernel : decode cX12_one_ 80 = .ok (.ireturn, 1)) hU H
      · have e_17 : a2 = 3 := Int32.toInt_inj.mp (hq.trans (by decide))
        replace H := H.2.2.2.1 e_17
        refine ⟨64, 81, by rw [hq]; rfl, by decide, ?_⟩
        refine pr_aload_n hC (by decide +kernel : decode cX12_one_ 81 = .ok (.aload_n 0, 1)) rfl ?_
        refine pu_g1 hC fg_X12_34 (by decide +kernel : decode cX12_one_ 82 = .ok (.getfield 34, 3)) hU ho (by decide) rfl (by decide) ?_
        refine pr_iload_n hC (by decide +kernel : decode cX12_one_ 85 = .ok (.iload_n 1, 1)) rfl ?_
        refine pu_iald hC (by decide +kernel : decode cX12_one_ 86 = .ok (.iaload, 1)) hU ho rfl H.1 ?_
        replace H := H.2
        exact pv_iret hM (by decide +kernel : decode cX12_one_ 87 = .ok (.ireturn, 1)) hU H
      · have e_17 : a2 = 4 := Int32.toInt_inj.mp (hq.trans (by decide))
        replace H := H.2.2.2.2.1 e_17
        refine ⟨71, 88, by rw [hq]; rfl, by decide, ?_⟩
        refine pr_aload_n hC (by decide +kernel : decode cX12_one_ 88 = .ok (.aload_n 0, 1)) rfl ?_
        refine pu_g1 hC fg_X12_68 (by decide +kernel : decode cX12_one_ 89 = .ok (.getfield 68, 3)) hU ho (by decide) rfl (by decide) ?_
        refine pr_iload_n hC (by decide +kernel : decode cX12_one_ 92 = .ok (.iload_n 1, 1)) rfl ?_
        refine pu_iald hC (by decide +kernel : decode cX12_one_ 93 = .ok (.iaload, 1)) hU ho rfl H.1 ?_
        replace H := H.2
        exact pv_iret hM (by decide +kernel : decode cX12_one_ 94 = .ok (.ireturn, 1)) hU H
      · have e_17 : a2 = 5 := Int32.toInt_inj.mp (hq.trans (by decide))
        replace H := H.2.2.2.2.2.1 e_17
        refine ⟨78, 95, by rw [hq]; rfl, by decide, ?_⟩
        refine pr_aload_n hC (by decide +kernel : decode cX12_one_ 95 = .ok (.aload_n 0, 1)) rfl ?_
        refine pu_g1 hC fg_X12_71 (by decide +kernel : decode cX12_one_ 96 = .ok (.getfield 71, 3)) hU ho (by decide) rfl (by decide) ?_
        refine pr_iload_n hC (by decide +kernel : decode cX12_one_ 99 = .ok (.iload_n 1, 1)) rfl ?_
        refine pu_fald hC (by decide +kernel : decode cX12_one_ 100 = .ok (.faload, 1)) hU ho rfl H.1 ?_
        replace H := H.2
        refine pr_f2i hC (by decide +kernel : decode cX12_one_ 101 = .ok (.f2i, 1)) ?_
        exact pv_iret hM (by decide +kernel : decode cX12_one_ 102 = .ok (.ireturn, 1)) hU H
      · have e_17 : a2 = 6 := Int32.toInt_inj.mp (hq.trans (by decide))
        replace H := H.2.2.2.2.2.2 e_17
        refine ⟨86, 103, by rw [hq]; rfl, by decide, ?_⟩
        refine pr_aload_n hC (by decide +kernel : decode cX12_one_ 103 = .ok (.aload_n 0, 1)) rfl ?_
        refine pr_iload_n hC (by decide +kernel : decode cX12_one_ 104 = .ok (.iload_n 1, 1)) rfl ?_
        refine vc_Vi hC hR [.int a1] fv_X12_371 (by decide +kernel : decode cX12_one_ 105 = .ok (.invokevirtual 371, 3)) hU (t_X12_seatsOf ho H) ho (by decide) rfl rfl rfl (Nat.le_of_ble_eq_true rfl) (Nat.le_of_ble_eq_true rfl) (Nat.le_refl 0) (Nat.le_refl 0) (fun r_5 U_4 h H hU => ?_)
        exact pv_iret hM (by decide +kernel : decode cX12_one_ 108 = .ok (.ireturn, 1)) hU H
  replace H := H.1 c_10
  refine pr_bipush hC (-2) (by decide +kernel : decode cX12_one_ 13 = .ok (.bipush (-2), 2)) rfl ?_
  exact pv_iret hM (by decide +kernel : decode cX12_one_ 15 = .ok (.ireturn, 1)) hU H
def b_X12_bitsOf_L13  (post : Int32 → Um → Prop) (k_29 : Int32 → UInt32 → Um → Prop) (rec_ : Int32 → UInt32 → Um → Prop) (x1 : Int32) (x2 : UInt32) (U : Um) : Prop :=
  ((Op.cmpValue (FP.fcmp x2 FP.fconst2) .l) < 0 → k_29 x1 x2 U) ∧ (¬ (Op.cmpValue (FP.fcmp x2 FP.fconst2) .l) < 0 → vf_n32 (FP.fdiv x2 FP.fconst2) ∧ ∀ (x2_2 : UInt32), x2_2 = FP.fdiv x2 FP.fconst2 → ∀ (x1_3 : Int32), x1_3 = x1 + 1 → rec_ x1_3 x2_2 U)
def w_X12_bitsOf_L13  (post : Int32 → Um → Prop) (k_29 : Int32 → UInt32 → Um → Prop) (n_ : Nat) : Int32 → UInt32 → Um → Prop := Nat.rec (motive := fun _ => Int32 → UInt32 → Um → Prop) (fun _ _ _ => False) (fun _ ih => b_X12_bitsOf_L13  post k_29 ih) n_
def b_X12_bitsOf_L29  (post : Int32 → Um → Prop) (k_50 : Int32 → UInt32 → Um → Prop) (rec_ : Int32 → UInt32 → Um → Prop) (x1 : Int32) (x2 : UInt32) (U : Um) : Prop :=
  ((0 : Int32) ≤ (Op.cmpValue (FP.fcmp x2 FP.fconst1) .g) → k_50 x1 x2 U) ∧ (¬ (0 : Int32) ≤ (Op.cmpValue (FP.fcmp x2 FP.fconst1) .g) → (x1 ≤ 1 → k_50 x1 x2 U) ∧ (¬ x1 ≤ 1 → vf_n32 (FP.fmul x2 FP.fconst2) ∧ ∀ (x2_7 : UInt32), x2_7 = FP.fmul x2 FP.fconst2 → ∀ (x1_8 : Int32), x1_8 = x1 + (-1) → rec_ x1_8 x2_7 U))
def w_X12_bitsOf_L29  (post : Int32 → Um → Prop) (k_50 : Int32 → UInt32 → Um → Prop) (n_ : Nat) : Int32 → UInt32 → Um → Prop := Nat.rec (motive := fun _ => Int32 → UInt32 → Um → Prop) (fun _ _ _ => False) (fun _ ih => b_X12_bitsOf_L29  post k_50 ih) n_
def w_X12_bitsOf (a1 : UInt32) (U : Um) (post : Int32 → Um → Prop) : Prop :=
  ((Op.cmpValue (FP.fcmp a1 FP.fconst0) .l) = 0 → post 0 U) ∧ (¬ (Op.cmpValue (FP.fcmp a1 FP.fconst0) .l) = 0 → ∀ (x2_1 : UInt32), x2_1 = a1 → (∃ n_14, w_X12_bitsOf_L13  post (fun x1_4 x2_5 U_6 => (∃ n_13, w_X12_bitsOf_L29  post (fun x1_9 x2_10 U_11 => vf_n32 (FP.fmul x2_10 1258291200) ∧ ∀ (x3_12 : Int32), x3_12 = (FP.f2i (FP.fmul x2_10 1258291200)) → ((0 : Int32) ≤ (Op.cmpValue (FP.fcmp x2_10 FP.fconst1) .g) → post ((x1_9 <<< (23 &&& 31)) ||| (x3_12 - 8388608)) U_11) ∧ (¬ (0 : Int32) ≤ (Op.cmpValue (FP.fcmp x2_10 FP.fconst1) .g) → post x3_12 U_11)) n_13 x1_4 x2_5 U_6)) n_14 127 x2_1 U))
set_option maxHeartbeats 4000000 in
theorem tl_X12_bitsOf_L13 {l : Launch} {Y : px_Y} {X : px_X} {h0 hh : pe_H} {sz : Nat}  (post : Int32 → Um → Prop) (k_29 : Int32 → UInt32 → Um → Prop)   (hC : px_C X Y.1 (pm_A hh sz) cX12_bitsOf RX12 4) (hM : px_M l X Y.1 hh sz yX12_bitsOf cX12_bitsOf 4 (some (.int)) 0 0 0) (hR : X.2.2.2.1 = pm_rm 0 0 0) (hk_29 : ∀ (y1 : Int32) (y2 : UInt32) (U : Um) (h : pe_H), k_29 y1 y2 U → rF Y h0 U h → pw X Y.1 (pm_A hh sz) (pm_E X Y.1 hh sz 0 0 (pm_P Y h0 sz (pq_i post))) 29 [none, some (.int y1), some (.float y2), none] [] h sz 0 0) : ∀ (n_ : Nat) (x1 : Int32) (x2 : UInt32) (U : Um) (h : pe_H), rF Y h0 U h → w_X12_bitsOf_L13  post k_29 n_ x1 x2 U → pw X Y.1 (pm_A hh sz) (pm_E X Y.1 hh sz 0 0 (pm_P Y h0 sz (pq_i post))) 13 [none, some (.int x1), some (.float x2), none] [] h sz 0 0 := by
  intro n_
  induction n_ with
  | zero => intro x1 x2 U h hU H; exact False.elim H
  | succ n_ ih =>
    intro x1 x2 U h hU H
    replace H : b_X12_bitsOf_L13  post k_29 (w_X12_bitsOf_L13  post k_29 n_) x1 x2 U := H
    unfold b_X12_bitsOf_L13 at H
    refine pr_fload_n hC (by decide +kernel : decode cX12_bitsOf 13 = .ok (.fload_n 2, 1)) rfl ?_
    refine pr_fconst2 hC (by decide +kernel : decode cX12_bitsOf 14 = .ok (.fconst 2, 1)) ?_
    refine pr_fcmp hC (by decide +kernel : decode cX12_bitsOf 15 = .ok (.fcmp .l, 1)) ?_
    refine pr_if_lt hC 29 (by decide +kernel : decode cX12_bitsOf 16 = .ok (.ifCond .lt 13, 3)) (by decide) (fun c_16 => ?_) (fun c_16 => ?_)
    · replace H := H.1 c_16
      exact pv_sub [none, some (.int x1), some (.float x2), none] (And.intro rfl (And.intro rfl trivial)) (hk_29 _ _ U h H hU)
    replace H := H.2 c_16
    refine pr_fload_n hC (by decide +kernel : decode cX12_bitsOf 19 = .ok (.fload_n 2, 1)) rfl ?_
    refine pr_fconst2 hC (by decide +kernel : decode cX12_bitsOf 20 = .ok (.fconst 2, 1)) ?_
    refine pr_fdiv hC (by decide +kernel : decode cX12_bitsOf 21 = .ok (.fdiv, 1)) H.1 ?_
    replace H := H.2
    refine pv_topf (fun x2_2 e_x2_2 => ?_)
    replace H := H x2_2 e_x2_2
    refine pr_fstore_n hC (by decide +kernel : decode cX12_bitsOf 22 = .ok (.fstore_n 2, 1)) (by decide) rfl ?_
    refine pv_iinc hC (v := x1 + 1) (by decide +kernel : decode cX12_bitsOf 23 = .ok (.iinc 1 1, 3)) rfl (by decide) rfl rfl (fun x1_3 e_x1_3 => ?_)
    replace H := H x1_3 e_x1_3
    refine pr_goto hC 13 (by decide +kernel : decode cX12_bitsOf 26 = .ok (.goto (-13), 3)) (by decide) ?_
    exact pv_sub [none, some (.int x1_3), some (.float x2_2), none] (And.intro rfl (And.intro rfl trivial)) (ih _ _ U h hU H)
set_option maxHeartbeats 4000000 in
theorem tl_X12_bitsOf_L29 {l : Launch} {Y : px_Y} {X : px_X} {h0 hh : pe_H} {sz : Nat}  (post : Int32 → Um → Prop) (k_50 : Int32 → UInt32 → Um → Prop)   (hC : px_C X Y.1 (pm_A hh sz) cX12_bitsOf RX12 4) (hM : px_M l X Y.1 hh sz yX12_bitsOf cX12_bitsOf 4 (some (.int)) 0 0 0) (hR : X.2.2.2.1 = pm_rm 0 0 0) (hk_50 : ∀ (y1 : Int32) (y2 : UInt32) (U : Um) (h : pe_H), k_50 y1 y2 U → rF Y h0 U h → pw X Y.1 (pm_A hh sz) (pm_E X Y.1 hh sz 0 0 (pm_P Y h0 sz (pq_i post))) 50 [none, some (.int y1), some (.float y2), none] [] h sz 0 0) : ∀ (n_ : Nat) (x1 : Int32) (x2 : UInt32) (U : Um) (h : pe_H), rF Y h0 U h → w_X12_bitsOf_L29  post k_50 n_ x1 x2 U → pw X Y.1 (pm_A hh sz) (pm_E X Y.1 hh sz 0 0 (pm_P Y h0 sz (pq_i post))) 29 [none, some (.int x1), some (.float x2), none] [] h sz 0 0 := by
  intro n_
  induction n_ with
  | zero => intro x1 x2 U h hU H; exact False.elim H
  | succ n_ ih =>
    intro x1 x2 U h hU H
    replace H : b_X12_bitsOf_L29  post k_50 (w_X12_bitsOf_L29  post k_50 n_) x1 x2 U := H
    unfold b_X12_bitsOf_L29 at H
    refine pr_fload_n hC (by decide +kernel : decode cX12_bitsOf 29 = .ok (.fload_n 2, 1)) rfl ?_
    refine pr_fconst1 hC (by decide +kernel : decode cX12_bitsOf 30 = .ok (.fconst 1, 1)) ?_
    refine pr_fcmp hC (by decide +kernel : decode cX12_bitsOf 31 = .ok (.fcmp .g, 1)) ?_
    refine pr_if_ge hC 50 (by decide +kernel : decode cX12_bitsOf 32 = .ok (.ifCond .ge 18, 3)) (by decide) (fun c_32 => ?_) (fun c_32 => ?_)
    · replace H := H.1 c_32
      exact pv_sub [none, some (.int x1), some (.float x2), none] (And.intro rfl (And.intro rfl trivial)) (hk_50 _ _ U h H hU)
    replace H := H.2 c_32
    refine pr_iload_n hC (by decide +kernel : decode cX12_bitsOf 35 = .ok (.iload_n 1, 1)) rfl ?_
    refine pr_iconst hC (1) (by decide +kernel : decode cX12_bitsOf 36 = .ok (.iconst 1, 1)) rfl ?_
    refine pr_icmp_le hC 50 (by decide +kernel : decode cX12_bitsOf 37 = .ok (.if_icmp .le 13, 3)) (by decide) (fun c_37 => ?_) (fun c_37 => ?_)
    · replace H := H.1 c_37
      exact pv_sub [none, some (.int x1), some (.float x2), none] (And.intro rfl (And.intro rfl trivial)) (hk_50 _ _ U h H hU)
    replace H := H.2 c_37
    refine pr_fload_n hC (by decide +kernel : decode cX12_bitsOf 40 = .ok (.fload_n 2, 1)) rfl ?_
    refine pr_fconst2 hC (by decide +kernel : decode cX12_bitsOf 41 = .ok (.fconst 2, 1)) ?_
    refine pr_fmul hC (by decide +kernel : decode cX12_bitsOf 42 = .ok (.fmul, 1)) H.1 ?_
    replace H := H.2
    refine pv_topf (fun x2_7 e_x2_7 => ?_)
    replace H := H x2_7 e_x2_7
    refine pr_fstore_n hC (by decide +kernel : decode cX12_bitsOf 43 = .ok (.fstore_n 2, 1)) (by decide) rfl ?_
    refine pv_iinc hC (v := x1 + (-1)) (by decide +kernel : decode cX12_bitsOf 44 = .ok (.iinc 1 (-1), 3)) rfl (by decide) rfl rfl (fun x1_8 e_x1_8 => ?_)
    replace H := H x1_8 e_x1_8
    refine pr_goto hC 29 (by decide +kernel : decode cX12_bitsOf 47 = .ok (.goto (-18), 3)) (by decide) ?_
    exact pv_sub [none, some (.int x1_8), some (.float x2_7), none] (And.intro rfl (And.intro rfl trivial)) (ih _ _ U h hU H)
set_option maxHeartbeats 4000000 in
theorem t_X12_bitsOf {l : Launch} {Y : px_Y} {a1 : UInt32} {U : Um} {post : Int32 → Um → Prop}  (H : w_X12_bitsOf a1 U post) : um l Y 0 yX12_bitsOf cX12_bitsOf 4 (some (.int)) [.float a1] U (pq_i post) := by
  unfold w_X12_bitsOf at H
  refine um_of (by decide) (Nat.le_of_ble_eq_true rfl) [some (.float a1), none, none, none] rfl (fun X h0 hh sz hM hU => ?_)
  have hC := hM.1
  have hR := hM.2.2.1
  refine pr_fload_n hC (by decide +kernel : decode cX12_bitsOf 0 = .ok (.fload_n 0, 1)) rfl ?_
  refine pr_fconst0 hC (by decide +kernel : decode cX12_bitsOf 1 = .ok (.fconst 0, 1)) ?_
  refine pr_fcmp hC (by decide +kernel : decode cX12_bitsOf 2 = .ok (.fcmp .l, 1)) ?_
  refine pr_if_ne hC 8 (by decide +kernel : decode cX12_bitsOf 3 = .ok (.ifCond .ne 5, 3)) (by decide) (fun c_3 => ?_) (fun c_3 => ?_)
  · replace H := H.2 c_3
    refine pr_bipush hC (127) (by decide +kernel : decode cX12_bitsOf 8 = .ok (.bipush 127, 2)) rfl ?_
    refine pr_istore_n hC (by decide +kernel : decode cX12_bitsOf 10 = .ok (.istore_n 1, 1)) (by decide) rfl ?_
    refine pr_fload_n hC (by decide +kernel : decode cX12_bitsOf 11 = .ok (.fload_n 0, 1)) rfl ?_
    refine pv_topf (fun x2_1 e_x2_1 => ?_)
    replace H := H x2_1 e_x2_1
    refine pr_fstore_n hC (by decide +kernel : decode cX12_bitsOf 12 = .ok (.fstore_n 2, 1)) (by decide) rfl ?_
    obtain ⟨n_14, H⟩ := H
    refine pv_sub [none, some (.int 127), some (.float x2_1), none] (And.intro rfl (And.intro rfl trivial)) ?_
    refine tl_X12_bitsOf_L13 _ _ hC hM hR (fun x1_4 x2_5 U_6 h H hU => ?_) n_14 _ _ U hh hU H
    obtain ⟨n_13, H⟩ := H
    refine pv_sub [none, some (.int x1_4), some (.float x2_5), none] (And.intro rfl (And.intro rfl trivial)) ?_
    refine tl_X12_bitsOf_L29 _ _ hC hM hR (fun x1_9 x2_10 U_11 h H hU => ?_) n_13 _ _ U_6 h hU H
    refine pr_fload_n hC (by decide +kernel : decode cX12_bitsOf 50 = .ok (.fload_n 2, 1)) rfl ?_
    refine pr_ldcwf hC (1258291200) (by decide +kernel : decode cX12_bitsOf 51 = .ok (.ldc_w 378, 3)) fk_X12_378 ?_
    refine pr_fmul hC (by decide +kernel : decode cX12_bitsOf 54 = .ok (.fmul, 1)) H.1 ?_
    replace H := H.2
    refine pr_f2i hC (by decide +kernel : decode cX12_bitsOf 55 = .ok (.f2i, 1)) ?_
    refine pv_topi (fun x3_12 e_x3_12 => ?_)
    replace H := H x3_12 e_x3_12
    refine pr_istore_n hC (by decide +kernel : decode cX12_bitsOf 56 = .ok (.istore_n 3, 1)) (by decide) rfl ?_
    refine pr_fload_n hC (by decide +kernel : decode cX12_bitsOf 57 = .ok (.fload_n 2, 1)) rfl ?_
    refine pr_fconst1 hC (by decide +kernel : decode cX12_bitsOf 58 = .ok (.fconst 1, 1)) ?_
    refine pr_fcmp hC (by decide +kernel : decode cX12_bitsOf 59 = .ok (.fcmp .g, 1)) ?_
    refine pr_if_ge hC 67 (by decide +kernel : decode cX12_bitsOf 60 = .ok (.ifCond .ge 7, 3)) (by decide) (fun c_60 => ?_) (fun c_60 => ?_)
    · replace H := H.1 c_60
      refine pr_iload_n hC (by decide +kernel : decode cX12_bitsOf 67 = .ok (.iload_n 1, 1)) rfl ?_
      refine pr_bipush hC (23) (by decide +kernel : decode cX12_bitsOf 68 = .ok (.bipush 23, 2)) rfl ?_
      refine pr_ishl hC (by decide +kernel : decode cX12_bitsOf 70 = .ok (.ishl, 1)) ?_
      refine pr_iload_n hC (by decide +kernel : decode cX12_bitsOf 71 = .ok (.iload_n 3, 1)) rfl ?_
      refine pr_ldcw hC (8388608) (by decide +kernel : decode cX12_bitsOf 72 = .ok (.ldc_w 379, 3)) fk_X12_379 ?_
      refine pr_isub hC (by decide +kernel : decode cX12_bitsOf 75 = .ok (.isub, 1)) ?_
      refine pr_ior hC (by decide +kernel : decode cX12_bitsOf 76 = .ok (.ior, 1)) ?_
      exact pv_iret hM (by decide +kernel : decode cX12_bitsOf 77 = .ok (.ireturn, 1)) hU H
    replace H := H.2 c_60
    refine pr_iload_n hC (by decide +kernel : decode cX12_bitsOf 63 = .ok (.iload_n 3, 1)) rfl ?_
    refine pr_goto hC 77 (by decide +kernel : decode cX12_bitsOf 64 = .ok (.goto 13, 3)) (by decide) ?_
    exact pv_iret hM (by decide +kernel : decode cX12_bitsOf 77 = .ok (.ireturn, 1)) hU H
  replace H := H.1 c_3
  refine pr_iconst hC (0) (by decide +kernel : decode cX12_bitsOf 6 = .ok (.iconst 0, 1)) rfl ?_
  exact pv_iret hM (by decide +kernel : decode cX12_bitsOf 7 = .ok (.ireturn, 1)) hU H
def w_X12_formBits (o : Nat) (a1 : Int32) (U : Um) (post : Int32 → Um → Prop) : Prop :=
  ∀ (U_1 : Um), U_1 = sI U o 0 0 → w_X12_isOne o a1 U_1 (fun r_3 U_2 => (r_3 = 0 → post (-1) U_2) ∧ (¬ r_3 = 0 → vp_in a1 10 ∧ w_X12_bitsOf (uF U_2 o 34 (Int32.toNatClampNeg a1)) U_2 (fun r_5 U_4 => post r_5 U_4)))
set_option maxHeartbeats 4000000 in
theorem t_X12_formBits {l : Launch} {Y : px_Y} {o : Nat} {a1 : Int32} {U : Um} {post : Int32 → Um → Prop} (ho : oc o = 10) (H : w_X12_formBits o a1 U post) : um l Y 2 yX12_formBits cX12_formBits 2 (some (.int)) [.ref (Y.2.1 o), .int a1] U (pq_i post) := by
  unfold w_X12_formBits at H
  refine um_of (by decide) (Nat.le_of_ble_eq_true rfl) [some (.ref (Y.2.1 o)), some (.int a1)] rfl (fun X h0 hh sz hM hU => ?_)
  have hC := hM.1
  have hR := hM.2.2.1
  refine pr_aload_n hC (by decide +kernel : decode cX12_formBits 0 = .ok (.aload_n 0, 1)) rfl ?_
  refine pr_iconst hC (0) (by decide +kernel : decode cX12_formBits 1 = .ok (.iconst 0, 1)) rfl ?_
  refine pv_p0 hC fp_X12_121 (by decide +kernel : decode cX12_formBits 2 = .ok (.putfield 121, 3)) hU ho (by decide) rfl rfl rfl rfl (fun U_1 h e_U_1 hU => ?_)
  replace H := H U_1 e_U_1
  refine pr_aload_n hC (by decide +kernel : decode cX12_formBits 5 = .ok (.aload_n 0, 1)) rfl ?_
  refine pr_iload_n hC (by decide +kernel : decode cX12_formBits 6 = .ok (.iload_n 1, 1)) rfl ?_
  refine vc_Vi hC hR [.int a1] fv_X12_368 (by decide +kernel : decode cX12_formBits 7 = .ok (.invokevirtual 368, 3)) hU (t_X12_isOne ho H) ho (by decide) rfl rfl rfl (Nat.le_of_ble_eq_true rfl) (Nat.le_of_ble_eq_true rfl) (Nat.le_refl 0) (Nat.le_refl 0) (fun r_3 U_2 h H hU => ?_)
  refine pr_if_eq hC 25 (by decide +kernel : decode cX12_formBits 10 = .ok (.ifCond .eq 15, 3)) (by decide) (fun c_10 => ?_) (fun c_10 => ?_)
  · replace H := H.1 c_10
    refine pr_iconst hC (-1) (by decide +kernel : decode cX12_formBits 25 = .ok (.iconst (-1), 1)) rfl ?_
    exact pv_iret hM (by decide +kernel : decode cX12_formBits 26 = .ok (.ireturn, 1)) hU H
  replace H := H.2 c_10
  refine pr_aload_n hC (by decide +kernel : decode cX12_formBits 13 = .ok (.aload_n 0, 1)) rfl ?_
  refine pu_g1 hC fg_X12_71 (by decide +kernel : decode cX12_formBits 14 = .ok (.getfield 71, 3)) hU ho (by decide) rfl (by decide) ?_
  refine pr_iload_n hC (by decide +kernel : decode cX12_formBits 17 = .ok (.iload_n 1, 1)) rfl ?_
  refine pu_fald hC (by decide +kernel : decode cX12_formBits 18 = .ok (.faload, 1)) hU ho rfl H.1 ?_
  replace H := H.2
  refine vc_Si hC hR [.float (uF U_2 o 34 (Int32.toNatClampNeg a1))] fv_X12_374 (by decide +kernel : decode cX12_formBits 19 = .ok (.invokestatic 374, 3)) hU (t_X12_bitsOf  H) rfl rfl (Nat.le_of_ble_eq_true rfl) (Nat.le_of_ble_eq_true rfl) (Nat.le_refl 0) (Nat.le_refl 0) (fun r_5 U_4 h H hU => ?_)
  refine pr_goto hC 26 (by decide +kernel : decode cX12_formBits 22 = .ok (.goto 4, 3)) (by decide) ?_
  exact pv_iret hM (by decide +kernel : decode cX12_formBits 26 = .ok (.ireturn, 1)) hU H
def w_X12_game (o : Nat) (a1 : Int32) (a2 : Int32) (U : Um) (post : Int32 → Um → Prop) : Prop :=
  ∀ (U_1 : Um), U_1 = sI U o 0 0 → w_X12_isGame o a1 U_1 (fun r_3 U_2 => (r_3 = 0 → post (-1) U_2) ∧ (¬ r_3 = 0 → w_X12_isIn (Int32.toInt64 a2) 0 8 U_2 (fun r_5 U_4 => (r_5 = 0 → post (-1) U_4) ∧ (¬ r_5 = 0 → ((8 : Int32) ≤ a2 → w_X12_isPlayed o a1 U_4 (fun r_7 U_6 => (r_7 = 0 → w_X12_isLate o a1 U_6 (fun r_9 U_8 => w_X12_one r_9 U_8 (fun r_11 U_10 => post r_11 U_10))) ∧ (¬ r_7 = 0 → post 2 U_6))) ∧ (¬ (8 : Int32) ≤ a2 → w_X12_of o a1 a2 U_4 (fun r_13 U_12 => post r_13 U_12))))))
set_option maxHeartbeats 4000000 in
theorem t_X12_game {l : Launch} {Y : px_Y} {o : Nat} {a1 : Int32} {a2 : Int32} {U : Um} {post : Int32 → Um → Prop} (ho : oc o = 10) (H : w_X12_game o a1 a2 U post) : um l Y 2 yX12_game cX12_game 3 (some (.int)) [.ref (Y.2.1 o), .int a1, .int a2] U (pq_i post) := by
  unfold w_X12_game at H
  refine um_of (by decide) (Nat.le_of_ble_eq_true rfl) [some (.ref (Y.2.1 o)), some (.int a1), some (.int a2)] rfl (fun X h0 hh sz hM hU => ?_)
  have hC := hM.1
  have hR := hM.2.2.1
  refine pr_aload_n hC (by decide +kernel : decode cX12_game 0 = .ok (.aload_n 0, 1)) rfl ?_
  refine pr_iconst hC (0) (by decide +kernel : decode cX12_game 1 = .ok (.iconst 0, 1)) rfl ?_
  refine pv_p0 hC fp_X12_121 (by decide +kernel : decode cX12_game 2 = .ok (.putfield 121, 3)) hU ho (by decide) rfl rfl rfl rfl (fun U_1 h e_U_1 hU => ?_)
  replace H := H U_1 e_U_1
  refine pr_aload_n hC (by decide +kernel : decode cX12_game 5 = .ok (.aload_n 0, 1)) rfl ?_
  refine pr_iload_n hC (by decide +kernel : decode cX12_game 6 = .ok (.iload_n 1, 1)) rfl ?_
  refine vc_Vi hC hR [.int a1] fv_X12_350 (by decide +kernel : decode cX12_game 7 = .ok (.invokevirtual 350, 3)) hU (t_X12_isGame ho H) ho (by decide) rfl rfl rfl (Nat.le_of_ble_eq_true rfl) (Nat.le_of_ble_eq_true rfl) (Nat.le_refl 0) (Nat.le_refl 0) (fun r_3 U_2 h H hU => ?_)
  refine pr_if_eq hC 25 (by decide +kernel : decode cX12_game 10 = .ok (.ifCond .eq 15, 3)) (by decide) (fun c_10 => ?_) (fun c_10 => ?_)
  · replace H := H.1 c_10
    refine pr_iconst hC (-1) (by decide +kernel : decode cX12_game 25 = .ok (.iconst (-1), 1)) rfl ?_
    exact pv_iret hM (by decide +kernel : decode cX12_game 26 = .ok (.ireturn, 1)) hU H
  replace H := H.2 c_10
  refine pr_iload_n hC (by decide +kernel : decode cX12_game 13 = .ok (.iload_n 2, 1)) rfl ?_
  refine pr_i2l hC (by decide +kernel : decode cX12_game 14 = .ok (.i2l, 1)) ?_
  refine pr_lconst hC (0) (by decide +kernel : decode cX12_game 15 = .ok (.lconst 0, 1)) rfl ?_
  refine pr_ldc2 hC (8) (by decide +kernel : decode cX12_game 16 = .ok (.ldc2_w 380, 3)) fk_X12_380 ?_
  refine vc_Si hC hR [.long (Int32.toInt64 a2), .long 0, .long 8] fv_X12_131 (by decide +kernel : decode cX12_game 19 = .ok (.invokestatic 131, 3)) hU (t_X12_isIn  H) rfl rfl (Nat.le_of_ble_eq_true rfl) (Nat.le_of_ble_eq_true rfl) (Nat.le_refl 0) (Nat.le_refl 0) (fun r_5 U_4 h H hU => ?_)
  refine pr_if_ne hC 27 (by decide +kernel : decode cX12_game 22 = .ok (.ifCond .ne 5, 3)) (by decide) (fun c_22 => ?_) (fun c_22 => ?_)
  · replace H := H.2 c_22
    refine pr_iload_n hC (by decide +kernel : decode cX12_game 27 = .ok (.iload_n 2, 1)) rfl ?_
    refine pr_bipush hC (8) (by decide +kernel : decode cX12_game 28 = .ok (.bipush 8, 2)) rfl ?_
    refine pr_icmp_ge hC 42 (by decide +kernel : decode cX12_game 30 = .ok (.if_icmp .ge 12, 3)) (by decide) (fun c_30 => ?_) (fun c_30 => ?_)
    · replace H := H.1 c_30
      refine pr_aload_n hC (by decide +kernel : decode cX12_game 42 = .ok (.aload_n 0, 1)) rfl ?_
      refine pr_iload_n hC (by decide +kernel : decode cX12_game 43 = .ok (.iload_n 1, 1)) rfl ?_
      refine vc_Vi hC hR [.int a1] fv_X12_382 (by decide +kernel : decode cX12_game 44 = .ok (.invokevirtual 382, 3)) hU (t_X12_isPlayed ho H) ho (by decide) rfl rfl rfl (Nat.le_of_ble_eq_true rfl) (Nat.le_of_ble_eq_true rfl) (Nat.le_refl 0) (Nat.le_refl 0) (fun r_7 U_6 h H hU => ?_)
      refine pr_if_eq hC 54 (by decide +kernel : decode cX12_game 47 = .ok (.ifCond .eq 7, 3)) (by decide) (fun c_47 => ?_) (fun c_47 => ?_)
      · replace H := H.1 c_47
        refine pr_aload_n hC (by decide +kernel : decode cX12_game 54 = .ok (.aload_n 0, 1)) rfl ?_
        refine pr_iload_n hC (by decide +kernel : decode cX12_game 55 = .ok (.iload_n 1, 1)) rfl ?_
        refine vc_Vi hC hR [.int a1] fv_X12_385 (by decide +kernel : decode cX12_game 56 = .ok (.invokevirtual 385, 3)) hU (t_X12_isLate ho H) ho (by decide) rfl rfl rfl (Nat.le_of_ble_eq_true rfl) (Nat.le_of_ble_eq_true rfl) (Nat.le_refl 0) (Nat.le_refl 0) (fun r_9 U_8 h H hU => ?_)
        refine vc_Si hC hR [.int r_9] fv_X12_357 (by decide +kernel : decode cX12_game 59 = .ok (.invokestatic 357, 3)) hU (t_X12_one  H) rfl rfl (Nat.le_of_ble_eq_true rfl) (Nat.le_of_ble_eq_true rfl) (Nat.le_refl 0) (Nat.le_refl 0) (fun r_11 U_10 h H hU => ?_)
        exact pv_iret hM (by decide +kernel : decode cX12_game 62 = .ok (.ireturn, 1)) hU H
      replace H := H.2 c_47
      refine pr_iconst hC (2) (by decide +kernel : decode cX12_game 50 = .ok (.iconst 2, 1)) rfl ?_
      refine pr_goto hC 62 (by decide +kernel : decode cX12_game 51 = .ok (.goto 11, 3)) (by decide) ?_
      exact pv_iret hM (by decide +kernel : decode cX12_game 62 = .ok (.ireturn, 1)) hU H
    replace H := H.2 c_30
    refine pr_aload_n hC (by decide +kernel : decode cX12_game 33 = .ok (.aload_n 0, 1)) rfl ?_
    refine pr_iload_n hC (by decide +kernel : decode cX12_game 34 = .ok (.iload_n 1, 1)) rfl ?_
    refine pr_iload_n hC (by decide +kernel : decode cX12_game 35 = .ok (.iload_n 2, 1)) rfl ?_
    refine vc_Vi hC hR [.int a1, .int a2] fv_X12_353 (by decide +kernel : decode cX12_game 36 = .ok (.invokevirtual 353, 3)) hU (t_X12_of ho H) ho (by decide) rfl rfl rfl (Nat.le_of_ble_eq_true rfl) (Nat.le_of_ble_eq_true rfl) (Nat.le_refl 0) (Nat.le_refl 0) (fun r_13 U_12 h H hU => ?_)
    refine pr_goto hC 62 (by decide +kernel : decode cX12_game 39 = .ok (.goto 23, 3)) (by decide) ?_
    exact pv_iret hM (by decide +kernel : decode cX12_game 62 = .ok (.ireturn, 1)) hU H
  replace H := H.1 c_22
  refine pr_iconst hC (-1) (by decide +kernel : decode cX12_game 25 = .ok (.iconst (-1), 1)) rfl ?_
  exact pv_iret hM (by decide +kernel : decode cX12_game 26 = .ok (.ireturn, 1)) hU H
def w_X12_seat (o : Nat) (a1 : Int32) (a2 : Int32) (a3 : Int32) (U : Um) (post : Int32 → Um → Prop) : Prop :=
  ∀ (U_1 : Um), U_1 = sI U o 0 0 → w_X12_isSeat o a1 a2 U_1 (fun r_3 U_2 => (r_3 = 0 → post (-2) U_2) ∧ (¬ r_3 = 0 → w_X12_isIn (Int32.toInt64 a3) 0 1 U_2 (fun r_5 U_4 => (r_5 = 0 → post (-2) U_4) ∧ (¬ r_5 = 0 → (a3 = 0 → w_X12_at a1 a2 U_4 (fun r_7 U_6 => vp_in r_7 48 ∧ post (uA U_6 o 30 (Int32.toNatClampNeg r_7)) U_6)) ∧ (¬ a3 = 0 → w_X12_at a1 a2 U_4 (fun r_9 U_8 => vp_in r_9 48 ∧ post (uA U_8 o 31 (Int32.toNatClampNeg r_9)) U_8))))))
set_option maxHeartbeats 4000000 in
theorem t_X12_seat {l : Launch} {Y : px_Y} {o : Nat} {a1 : Int32} {a2 : Int32} {a3 : Int32} {U : Um} {post : Int32 → Um → Prop} (ho : oc o = 10) (H : w_X12_seat o a1 a2 a3 U post) : um l Y 3 yX12_seat cX12_seat 4 (some (.int)) [.ref (Y.2.1 o), .int a1, .int a2, .int a3] U (pq_i post) := by
  unfold w_X12_seat at H
  refine um_of (by decide) (Nat.le_of_ble_eq_true rfl) [some (.ref (Y.2.1 o)), some (.int a1), some (.int a2), some (.int a3)] rfl (fun X h0 hh sz hM hU => ?_)
  have hC := hM.1
  have hR := hM.2.2.1
  refine pr_aload_n hC (by decide +kernel : decode cX12_seat 0 = .ok (.aload_n 0, 1)) rfl ?_
  refine pr_iconst hC (0) (by decide +kernel : decode cX12_seat 1 = .ok (.iconst 0, 1)) rfl ?_
  refine pv_p0 hC fp_X12_121 (by decide +kernel : decode cX12_seat 2 = .ok (.putfield 121, 3)) hU ho (by decide) rfl rfl rfl rfl (fun U_1 h e_U_1 hU => ?_)
  replace H := H U_1 e_U_1
  refine pr_aload_n hC (by decide +kernel : decode cX12_seat 5 = .ok (.aload_n 0, 1)) rfl ?_
  refine pr_iload_n hC (by decide +kernel : decode cX12_seat 6 = .ok (.iload_n 1, 1)) rfl ?_
  refine pr_iload_n hC (by decide +kernel : decode cX12_seat 7 = .ok (.iload_n 2, 1)) rfl ?_
  refine vc_Vi hC hR [.int a1, .int a2] fv_X12_388 (by decide +kernel : decode cX12_seat 8 = .ok (.invokevirtual 388, 3)) hU (t_X12_isSeat ho H) ho (by decide) rfl rfl rfl (Nat.le_of_ble_eq_true rfl) (Nat.le_of_ble_eq_true rfl) (Nat.le_refl 0) (Nat.le_refl 0) (fun r_3 U_2 h H hU => ?_)
  refine pr_if_eq hC 24 (by decide +kernel : decode cX12_seat 11 = .ok (.ifCond .eq 13, 3)) (by decide) (fun c_11 => ?_) (fun c_11 => ?_)
  · replace H := H.1 c_11
    refine pr_bipush hC (-2) (by decide +kernel : decode cX12_seat 24 = .ok (.bipush (-2), 2)) rfl ?_
    exact pv_iret hM (by decide +kernel : decode cX12_seat 26 = .ok (.ireturn, 1)) hU H
  replace H := H.2 c_11
  refine pr_iload_n hC (by decide +kernel : decode cX12_seat 14 = .ok (.iload_n 3, 1)) rfl ?_
  refine pr_i2l hC (by decide +kernel : decode cX12_seat 15 = .ok (.i2l, 1)) ?_
  refine pr_lconst hC (0) (by decide +kernel : decode cX12_seat 16 = .ok (.lconst 0, 1)) rfl ?_
  refine pr_lconst hC (1) (by decide +kernel : decode cX12_seat 17 = .ok (.lconst 1, 1)) rfl ?_
  refine vc_Si hC hR [.long (Int32.toInt64 a3), .long 0, .long 1] fv_X12_131 (by decide +kernel : decode cX12_seat 18 = .ok (.invokestatic 131, 3)) hU (t_X12_isIn  H) rfl rfl (Nat.le_of_ble_eq_true rfl) (Nat.le_of_ble_eq_true rfl) (Nat.le_refl 0) (Nat.le_refl 0) (fun r_5 U_4 h H hU => ?_)
  refine pr_if_ne hC 27 (by decide +kernel : decode cX12_seat 21 = .ok (.ifCond .ne 6, 3)) (by decide) (fun c_21 => ?_) (fun c_21 => ?_)
  · replace H := H.2 c_21
    refine pr_iload_n hC (by decide +kernel : decode cX12_seat 27 = .ok (.iload_n 3, 1)) rfl ?_
    refine pr_if_ne hC 44 (by decide +kernel : decode cX12_seat 28 = .ok (.ifCond .ne 16, 3)) (by decide) (fun c_28 => ?_) (fun c_28 => ?_)
    · replace H := H.2 c_28
      refine pr_aload_n hC (by decide +kernel : decode cX12_seat 44 = .ok (.aload_n 0, 1)) rfl ?_
      refine pu_g1 hC fg_X12_62 (by decide +kernel : decode cX12_seat 45 = .ok (.getfield 62, 3)) hU ho (by decide) rfl (by decide) ?_
      refine pr_iload_n hC (by decide +kernel : decode cX12_seat 48 = .ok (.iload_n 1, 1)) rfl ?_
      refine pr_iload_n hC (by decide +kernel : decode cX12_seat 49 = .ok (.iload_n 2, 1)) rfl ?_
      refine vc_Si hC hR [.int a1, .int a2] fv_X12_360 (by decide +kernel : decode cX12_seat 50 = .ok (.invokestatic 360, 3)) hU (t_X12_at  H) rfl rfl (Nat.le_of_ble_eq_true rfl) (Nat.le_of_ble_eq_true rfl) (Nat.le_refl 0) (Nat.le_refl 0) (fun r_9 U_8 h H hU => ?_)
      refine pu_iald hC (by decide +kernel : decode cX12_seat 53 = .ok (.iaload, 1)) hU ho rfl H.1 ?_
      replace H := H.2
      exact pv_iret hM (by decide +kernel : decode cX12_seat 54 = .ok (.ireturn, 1)) hU H
    replace H := H.1 c_28
    refine pr_aload_n hC (by decide +kernel : decode cX12_seat 31 = .ok (.aload_n 0, 1)) rfl ?_
    refine pu_g1 hC fg_X12_59 (by decide +kernel : decode cX12_seat 32 = .ok (.getfield 59, 3)) hU ho (by decide) rfl (by decide) ?_
    refine pr_iload_n hC (by decide +kernel : decode cX12_seat 35 = .ok (.iload_n 1, 1)) rfl ?_
    refine pr_iload_n hC (by decide +kernel : decode cX12_seat 36 = .ok (.iload_n 2, 1)) rfl ?_
    refine vc_Si hC hR [.int a1, .int a2] fv_X12_360 (by decide +kernel : decode cX12_seat 37 = .ok (.invokestatic 360, 3)) hU (t_X12_at  H) rfl rfl (Nat.le_of_ble_eq_true rfl) (Nat.le_of_ble_eq_true rfl) (Nat.le_refl 0) (Nat.le_refl 0) (fun r_7 U_6 h H hU => ?_)
    refine pu_iald hC (by decide +kernel : decode cX12_seat 40 = .ok (.iaload, 1)) hU ho rfl H.1 ?_
    replace H := H.2
    refine pr_goto hC 54 (by decide +kernel : decode cX12_seat 41 = .ok (.goto 13, 3)) (by decide) ?_
    exact pv_iret hM (by decide +kernel : decode cX12_seat 54 = .ok (.ireturn, 1)) hU H
  replace H := H.1 c_21
  refine pr_bipush hC (-2) (by decide +kernel : decode cX12_seat 24 = .ok (.bipush (-2), 2)) rfl ?_
  exact pv_iret hM (by decide +kernel : decode cX12_seat 26 = .ok (.ireturn, 1)) hU H
def w_X12_wayOf (o : Nat) (a1 : Int32) (a2 : Int32) (U : Um) (post : Int32 → Um → Prop) : Prop :=
  vp_in ((6 * a1) + a2) 36 ∧ post (uA U o 3 (Int32.toNatClampNeg ((6 * a1) + a2))) U
set_option maxHeartbeats 4000000 in
theorem t_X12_wayOf {l : Launch} {Y : px_Y} {o : Nat} {a1 : Int32} {a2 : Int32} {U : Um} {post : Int32 → Um → Prop} (ho : oc o = 10) (H : w_X12_wayOf o a1 a2 U post) : um l Y 0 yX12_wayOf cX12_wayOf 3 (some (.int)) [.ref (Y.2.1 o), .int a1, .int a2] U (pq_i post) := by
  unfold w_X12_wayOf at H
  refine um_of (by decide) (Nat.le_of_ble_eq_true rfl) [some (.ref (Y.2.1 o)), some (.int a1), some (.int a2)] rfl (fun X h0 hh sz hM hU => ?_)
  have hC := hM.1
  have hR := hM.2.2.1
  refine pr_aload_n hC (by decide +kernel : decode cX12_wayOf 0 = .ok (.aload_n 0, 1)) rfl ?_
  refine pu_g1 hC fg_X12_19 (by decide +kernel : decode cX12_wayOf 1 = .ok (.getfield 19, 3)) hU ho (by decide) rfl (by decide) ?_
  refine pr_bipush hC (6) (by decide +kernel : decode cX12_wayOf 4 = .ok (.bipush 6, 2)) rfl ?_
  refine pr_iload_n hC (by decide +kernel : decode cX12_wayOf 6 = .ok (.iload_n 1, 1)) rfl ?_
  refine pr_imul hC (by decide +kernel : decode cX12_wayOf 7 = .ok (.imul, 1)) ?_
  refine pr_iload_n hC (by decide +kernel : decode cX12_wayOf 8 = .ok (.iload_n 2, 1)) rfl ?_
  refine pr_iadd hC (by decide +kernel : decode cX12_wayOf 9 = .ok (.iadd, 1)) ?_
  refine pu_iald hC (by decide +kernel : decode cX12_wayOf 10 = .ok (.iaload, 1)) hU ho rfl H.1 ?_
  replace H := H.2
  exact pv_iret hM (by decide +kernel : decode cX12_wayOf 11 = .ok (.ireturn, 1)) hU H
def w_X12_way (o : Nat) (a1 : Int32) (a2 : Int32) (U : Um) (post : Int32 → Um → Prop) : Prop :=
  ∀ (U_1 : Um), U_1 = sI U o 0 0 → w_X12_isField o a1 U_1 (fun r_3 U_2 => (r_3 = 0 → post (-1) U_2) ∧ (¬ r_3 = 0 → w_X12_isField o a2 U_2 (fun r_5 U_4 => (r_5 = 0 → post (-1) U_4) ∧ (¬ r_5 = 0 → w_X12_wayOf o a1 a2 U_4 (fun r_7 U_6 => post r_7 U_6)))))
set_option maxHeartbeats 4000000 in
theorem t_X12_way {l : Launch} {Y : px_Y} {o : Nat} {a1 : Int32} {a2 : Int32} {U : Um} {post : Int32 → Um → Prop} (ho : oc o = 10) (H : w_X12_way o a1 a2 U post) : um l Y 2 yX12_way cX12_way 3 (some (.int)) [.ref (Y.2.1 o), .int a1, .int a2] U (pq_i post) := by
  unfold w_X12_way at H
  refine um_of (by decide) (Nat.le_of_ble_eq_true rfl) [some (.ref (Y.2.1 o)), some (.int a1), some (.int a2)] rfl (fun X h0 hh sz hM hU => ?_)
  have hC := hM.1
  have hR := hM.2.2.1
  refine pr_aload_n hC (by decide +kernel : decode cX12_way 0 = .ok (.aload_n 0, 1)) rfl ?_
  refine pr_iconst hC (0) (by decide +kernel : decode cX12_way 1 = .ok (.iconst 0, 1)) rfl ?_
  refine pv_p0 hC fp_X12_121 (by decide +kernel : decode cX12_way 2 = .ok (.putfield 121, 3)) hU ho (by decide) rfl rfl rfl rfl (fun U_1 h e_U_1 hU => ?_)
  replace H := H U_1 e_U_1
  refine pr_aload_n hC (by decide +kernel : decode cX12_way 5 = .ok (.aload_n 0, 1)) rfl ?_
  refine pr_iload_n hC (by decide +kernel : decode cX12_way 6 = .ok (.iload_n 1, 1)) rfl ?_
  refine vc_Vi hC hR [.int a1] fv_X12_391 (by decide +kernel : decode cX12_way 7 = .ok (.invokevirtual 391, 3)) hU (t_X12_isField ho H) ho (by decide) rfl rfl rfl (Nat.le_of_ble_eq_true rfl) (Nat.le_of_ble_eq_true rfl) (Nat.le_refl 0) (Nat.le_refl 0) (fun r_3 U_2 h H hU => ?_)
  refine pr_if_eq hC 30 (by decide +kernel : decode cX12_way 10 = .ok (.ifCond .eq 20, 3)) (by decide) (fun c_10 => ?_) (fun c_10 => ?_)
  · replace H := H.1 c_10
    refine pr_iconst hC (-1) (by decide +kernel : decode cX12_way 30 = .ok (.iconst (-1), 1)) rfl ?_
    exact pv_iret hM (by decide +kernel : decode cX12_way 31 = .ok (.ireturn, 1)) hU H
  replace H := H.2 c_10
  refine pr_aload_n hC (by decide +kernel : decode cX12_way 13 = .ok (.aload_n 0, 1)) rfl ?_
  refine pr_iload_n hC (by decide +kernel : decode cX12_way 14 = .ok (.iload_n 2, 1)) rfl ?_
  refine vc_Vi hC hR [.int a2] fv_X12_391 (by decide +kernel : decode cX12_way 15 = .ok (.invokevirtual 391, 3)) hU (t_X12_isField ho H) ho (by decide) rfl rfl rfl (Nat.le_of_ble_eq_true rfl) (Nat.le_of_ble_eq_true rfl) (Nat.le_refl 0) (Nat.le_refl 0) (fun r_5 U_4 h H hU => ?_)
  refine pr_if_eq hC 30 (by decide +kernel : decode cX12_way 18 = .ok (.ifCond .eq 12, 3)) (by decide) (fun c_18 => ?_) (fun c_18 => ?_)
  · replace H := H.1 c_18
    refine pr_iconst hC (-1) (by decide +kernel : decode cX12_way 30 = .ok (.iconst (-1), 1)) rfl ?_
    exact pv_iret hM (by decide +kernel : decode cX12_way 31 = .ok (.ireturn, 1)) hU H
  replace H := H.2 c_18
  refine pr_aload_n hC (by decide +kernel : decode cX12_way 21 = .ok (.aload_n 0, 1)) rfl ?_
  refine pr_iload_n hC (by decide +kernel : decode cX12_way 22 = .ok (.iload_n 1, 1)) rfl ?_
  refine pr_iload_n hC (by decide +kernel : decode cX12_way 23 = .ok (.iload_n 2, 1)) rfl ?_
  refine vc_Vi hC hR [.int a1, .int a2] fv_X12_394 (by decide +kernel : decode cX12_way 24 = .ok (.invokevirtual 394, 3)) hU (t_X12_wayOf ho H) ho (by decide) rfl rfl rfl (Nat.le_of_ble_eq_true rfl) (Nat.le_of_ble_eq_true rfl) (Nat.le_refl 0) (Nat.le_refl 0) (fun r_7 U_6 h H hU => ?_)
  refine pr_goto hC 31 (by decide +kernel : decode cX12_way 27 = .ok (.goto 4, 3)) (by decide) ?_
  exact pv_iret hM (by decide +kernel : decode cX12_way 31 = .ok (.ireturn, 1)) hU H
def b_X12_toward_L40 (o0 : Nat) (x1 : Int32) (x2 : Int32) (post : Int32 → Um → Prop) (k_109 : Um → Prop) (rec_ : Int32 → Um → Prop) (x3 : Int32) (U : Um) : Prop :=
  vp_in 0 14 ∧ ((uA U o0 11 (Int32.toNatClampNeg 0)) ≤ x3 → k_109 U) ∧ (¬ (uA U o0 11 (Int32.toNatClampNeg 0)) ≤ x3 → vp_in ((6 * x1) + x3) 72 ∧ ((uA U o0 2 (Int32.toNatClampNeg ((6 * x1) + x3))) ≤ 0 → ∀ (x3_8 : Int32), x3_8 = x3 + 1 → rec_ x3_8 U) ∧ (¬ (uA U o0 2 (Int32.toNatClampNeg ((6 * x1) + x3))) ≤ 0 → w_X12_wayOf o0 x3 x2 U (fun r_10 U_9 => (r_10 = (-1) → ∀ (x3_11 : Int32), x3_11 = x3 + 1 → rec_ x3_11 U_9) ∧ (¬ r_10 = (-1) → vp_in ((6 * x1) + x3) 72 ∧ w_X12_wayOf o0 x3 x2 U_9 (fun r_13 U_12 => w_X12_wayOf o0 x1 x2 U_12 (fun r_15 U_14 => (((uA U_9 o0 2 (Int32.toNatClampNeg ((6 * x1) + x3))) + r_13) = r_15 → post x3 U_14) ∧ (¬ ((uA U_9 o0 2 (Int32.toNatClampNeg ((6 * x1) + x3))) + r_13) = r_15 → ∀ (x3_16 : Int32), x3_16 = x3 + 1 → rec_ x3_16 U_14)))))))
def w_X12_toward_L40 (o0 : Nat) (x1 : Int32) (x2 : Int32) (post : Int32 → Um → Prop) (k_109 : Um → Prop) (n_ : Nat) : Int32 → Um → Prop := Nat.rec (motive := fun _ => Int32 → Um → Prop) (fun _ _ => False) (fun _ ih => b_X12_toward_L40 o0 x1 x2 post k_109 ih) n_
def w_X12_toward (o : Nat) (a1 : Int32) (a2 : Int32) (U : Um) (post : Int32 → Um → Prop) : Prop :=
  ∀ (U_1 : Um), U_1 = sI U o 0 0 → w_X12_isField o a1 U_1 (fun r_3 U_2 => (r_3 = 0 → post (-1) U_2) ∧ (¬ r_3 = 0 → w_X12_isField o a2 U_2 (fun r_5 U_4 => (r_5 = 0 → post (-1) U_4) ∧ (¬ r_5 = 0 → (a1 = a2 → post (-1) U_4) ∧ (¬ a1 = a2 → w_X12_wayOf o a1 a2 U_4 (fun r_7 U_6 => (r_7 = (-1) → post (-1) U_6) ∧ (¬ r_7 = (-1) → (∃ n_18, w_X12_toward_L40 o a1 a2 post (fun U_17 => post (-1) U_17) n_18 0 U_6))))))))
set_option maxHeartbeats 4000000 in
theorem tl_X12_toward_L40 {l : Launch} {Y : px_Y} {X : px_X} {h0 hh : pe_H} {sz : Nat} (o0 : Nat) (x1 : Int32) (x2 : Int32) (post : Int32 → Um → Prop) (k_109 : Um → Prop) (ho0 : oc o0 = 10)  (hC : px_C X Y.1 (pm_A hh sz) cX12_toward RX12 4) (hM : px_M l X Y.1 hh sz yX12_toward cX12_toward 4 (some (.int)) 2 0 0) (hR : X.2.2.2.1 = pm_rm 2 0 0) (hk_109 : ∀ (U : Um) (h : pe_H), k_109 U → rF Y h0 U h → pw X Y.1 (pm_A hh sz) (pm_E X Y.1 hh sz 0 0 (pm_P Y h0 sz (pq_i post))) 109 [none, none, none, none] [] h sz 0 0) : ∀ (n_ : Nat) (x3 : Int32) (U : Um) (h : pe_H), rF Y h0 U h → w_X12_toward_L40 o0 x1 x2 post k_109 n_ x3 U → pw X Y.1 (pm_A hh sz) (pm_E X Y.1 hh sz 0 0 (pm_P Y h0 sz (pq_i post))) 40 [some (.ref (Y.2.1 o0)), some (.int x1), some (.int x2), some (.int x3)] [] h sz 0 0 := by
  intro n_
  induction n_ with
  | zero => intro x3 U h hU H; exact False.elim H
  | succ n_ ih =>
    intro x3 U h hU H
    replace H : b_X12_toward_L40 o0 x1 x2 post k_109 (w_X12_toward_L40 o0 x1 x2 post k_109 n_) x3 U := H
    unfold b_X12_toward_L40 at H
    refine pr_iload_n hC (by decide +kernel : decode cX12_toward 40 = .ok (.iload_n 3, 1)) rfl ?_
    refine pr_aload_n hC (by decide +kernel : decode cX12_toward 41 = .ok (.aload_n 0, 1)) rfl ?_
    refine pu_g1 hC fg_X12_43 (by decide +kernel : decode cX12_toward 42 = .ok (.getfield 43, 3)) hU ho0 (by decide) rfl (by decide) ?_
    refine pr_iconst hC (0) (by decide +kernel : decode cX12_toward 45 = .ok (.iconst 0, 1)) rfl ?_
    refine pu_iald hC (by decide +kernel : decode cX12_toward 46 = .ok (.iaload, 1)) hU ho0 rfl H.1 ?_
    replace H := H.2
    refine pr_icmp_ge hC 109 (by decide +kernel : decode cX12_toward 47 = .ok (.if_icmp .ge 62, 3)) (by decide) (fun c_47 => ?_) (fun c_47 => ?_)
    · replace H := H.1 c_47
      exact pv_sub [none, none, none, none] (trivial) (hk_109 U h H hU)
    replace H := H.2 c_47
    refine pr_aload_n hC (by decide +kernel : decode cX12_toward 50 = .ok (.aload_n 0, 1)) rfl ?_
    refine pu_g1 hC fg_X12_15 (by decide +kernel : decode cX12_toward 51 = .ok (.getfield 15, 3)) hU ho0 (by decide) rfl (by decide) ?_
    refine pr_bipush hC (6) (by decide +kernel : decode cX12_toward 54 = .ok (.bipush 6, 2)) rfl ?_
    refine pr_iload_n hC (by decide +kernel : decode cX12_toward 56 = .ok (.iload_n 1, 1)) rfl ?_
    refine pr_imul hC (by decide +kernel : decode cX12_toward 57 = .ok (.imul, 1)) ?_
    refine pr_iload_n hC (by decide +kernel : decode cX12_toward 58 = .ok (.iload_n 3, 1)) rfl ?_
    refine pr_iadd hC (by decide +kernel : decode cX12_toward 59 = .ok (.iadd, 1)) ?_
    refine pu_iald hC (by decide +kernel : decode cX12_toward 60 = .ok (.iaload, 1)) hU ho0 rfl H.1 ?_
    replace H := H.2
    refine pr_if_le hC 103 (by decide +kernel : decode cX12_toward 61 = .ok (.ifCond .le 42, 3)) (by decide) (fun c_61 => ?_) (fun c_61 => ?_)
    · replace H := H.1 c_61
      refine pv_iinc hC (v := x3 + 1) (by decide +kernel : decode cX12_toward 103 = .ok (.iinc 3 1, 3)) rfl (by decide) rfl rfl (fun x3_8 e_x3_8 => ?_)
      replace H := H x3_8 e_x3_8
      refine pr_goto hC 40 (by decide +kernel : decode cX12_toward 106 = .ok (.goto (-66), 3)) (by decide) ?_
      exact pv_sub [some (.ref (Y.2.1 o0)), some (.int x1), some (.int x2), some (.int x3_8)] (And.intro rfl (And.intro rfl (And.intro rfl (And.intro rfl trivial)))) (ih _ U h hU H)
    replace H := H.2 c_61
    refine pr_aload_n hC (by decide +kernel : decode cX12_toward 64 = .ok (.aload_n 0, 1)) rfl ?_
    refine pr_iload_n hC (by decide +kernel : decode cX12_toward 65 = .ok (.iload_n 3, 1)) rfl ?_
    refine pr_iload_n hC (by decide +kernel : decode cX12_toward 66 = .ok (.iload_n 2, 1)) rfl ?_
    refine vc_Vi hC hR [.int x3, .int x2] fv_X12_394 (by decide +kernel : decode cX12_toward 67 = .ok (.invokevirtual 394, 3)) hU (t_X12_wayOf ho0 H) ho0 (by decide) rfl rfl rfl (Nat.le_of_ble_eq_true rfl) (Nat.le_of_ble_eq_true rfl) (Nat.le_refl 0) (Nat.le_refl 0) (fun r_10 U_9 h H hU => ?_)
    refine pr_iconst hC (-1) (by decide +kernel : decode cX12_toward 70 = .ok (.iconst (-1), 1)) rfl ?_
    refine pr_icmp_eq hC 103 (by decide +kernel : decode cX12_toward 71 = .ok (.if_icmp .eq 32, 3)) (by decide) (fun c_71 => ?_) (fun c_71 => ?_)
    · replace H := H.1 c_71
      refine pv_iinc hC (v := x3 + 1) (by decide +kernel : decode cX12_toward 103 = .ok (.iinc 3 1, 3)) rfl (by decide) rfl rfl (fun x3_11 e_x3_11 => ?_)
      replace H := H x3_11 e_x3_11
      refine pr_goto hC 40 (by decide +kernel : decode cX12_toward 106 = .ok (.goto (-66), 3)) (by decide) ?_
      exact pv_sub [some (.ref (Y.2.1 o0)), some (.int x1), some (.int x2), some (.int x3_11)] (And.intro rfl (And.intro rfl (And.intro rfl (And.intro rfl trivial)))) (ih _ U_9 h hU H)
    replace H := H.2 c_71
    refine pr_aload_n hC (by decide +kernel : decode cX12_toward 74 = .ok (.aload_n 0, 1)) rfl ?_
    refine pu_g1 hC fg_X12_15 (by decide +kernel : decode cX12_toward 75 = .ok (.getfield 15, 3)) hU ho0 (by decide) rfl (by decide) ?_
    refine pr_bipush hC (6) (by decide +kernel : decode cX12_toward 78 = .ok (.bipush 6, 2)) rfl ?_
    refine pr_iload_n hC (by decide +kernel : decode cX12_toward 80 = .ok (.iload_n 1, 1)) rfl ?_
    refine pr_imul hC (by decide +kernel : decode cX12_toward 81 = .ok (.imul, 1)) ?_
    refine pr_iload_n hC (by decide +kernel : decode cX12_toward 82 = .ok (.iload_n 3, 1)) rfl ?_
    refine pr_iadd hC (by decide +kernel : decode cX12_toward 83 = .ok (.iadd, 1)) ?_
    refine pu_iald hC (by decide +kernel : decode cX12_toward 84 = .ok (.iaload, 1)) hU ho0 rfl H.1 ?_
    replace H := H.2
    refine pr_aload_n hC (by decide +kernel : decode cX12_toward 85 = .ok (.aload_n 0, 1)) rfl ?_
    refine pr_iload_n hC (by decide +kernel : decode cX12_toward 86 = .ok (.iload_n 3, 1)) rfl ?_
    refine pr_iload_n hC (by decide +kernel : decode cX12_toward 87 = .ok (.iload_n 2, 1)) rfl ?_
    refine vc_Vi hC hR [.int x3, .int x2] fv_X12_394 (by decide +kernel : decode cX12_toward 88 = .ok (.invokevirtual 394, 3)) hU (t_X12_wayOf ho0 H) ho0 (by decide) rfl rfl rfl (Nat.le_of_ble_eq_true rfl) (Nat.le_of_ble_eq_true rfl) (Nat.le_refl 0) (Nat.le_refl 0) (fun r_13 U_12 h H hU => ?_)
    refine pr_iadd hC (by decide +kernel : decode cX12_toward 91 = .ok (.iadd, 1)) ?_
    refine pr_aload_n hC (by decide +kernel : decode cX12_toward 92 = .ok (.aload_n 0, 1)) rfl ?_
    refine pr_iload_n hC (by decide +kernel : decode cX12_toward 93 = .ok (.iload_n 1, 1)) rfl ?_
    refine pr_iload_n hC (by decide +kernel : decode cX12_toward 94 = .ok (.iload_n 2, 1)) rfl ?_
    refine vc_Vi hC hR [.int x1, .int x2] fv_X12_394 (by decide +kernel : decode cX12_toward 95 = .ok (.invokevirtual 394, 3)) hU (t_X12_wayOf ho0 H) ho0 (by decide) rfl rfl rfl (Nat.le_of_ble_eq_true rfl) (Nat.le_of_ble_eq_true rfl) (Nat.le_refl 0) (Nat.le_refl 0) (fun r_15 U_14 h H hU => ?_)
    refine pr_icmp_ne hC 103 (by decide +kernel : decode cX12_toward 98 = .ok (.if_icmp .ne 5, 3)) (by decide) (fun c_98 => ?_) (fun c_98 => ?_)
    · replace H := H.2 c_98
      refine pv_iinc hC (v := x3 + 1) (by decide +kernel : decode cX12_toward 103 = .ok (.iinc 3 1, 3)) rfl (by decide) rfl rfl (fun x3_16 e_x3_16 => ?_)
      replace H := H x3_16 e_x3_16
      refine pr_goto hC 40 (by decide +kernel : decode cX12_toward 106 = .ok (.goto (-66), 3)) (by decide) ?_
      exact pv_sub [some (.ref (Y.2.1 o0)), some (.int x1), some (.int x2), some (.int x3_16)] (And.intro rfl (And.intro rfl (And.intro rfl (And.intro rfl trivial)))) (ih _ U_14 h hU H)
    replace H := H.1 c_98
    refine pr_iload_n hC (by decide +kernel : decode cX12_toward 101 = .ok (.iload_n 3, 1)) rfl ?_
    exact pv_iret hM (by decide +kernel : decode cX12_toward 102 = .ok (.ireturn, 1)) hU H
set_option maxHeartbeats 4000000 in
theorem t_X12_toward {l : Launch} {Y : px_Y} {o : Nat} {a1 : Int32} {a2 : Int32} {U : Um} {post : Int32 → Um → Prop} (ho : oc o = 10) (H : w_X12_toward o a1 a2 U post) : um l Y 2 yX12_toward cX12_toward 4 (some (.int)) [.ref (Y.2.1 o), .int a1, .int a2] U (pq_i post) := by
  unfold w_X12_toward at H
  refine um_of (by decide) (Nat.le_of_ble_eq_true rfl) [some (.ref (Y.2.1 o)), some (.int a1), some (.int a2), none] rfl (fun X h0 hh sz hM hU => ?_)
  have hC := hM.1
  have hR := hM.2.2.1
  refine pr_aload_n hC (by decide +kernel : decode cX12_toward 0 = .ok (.aload_n 0, 1)) rfl ?_
  refine pr_iconst hC (0) (by decide +kernel : decode cX12_toward 1 = .ok (.iconst 0, 1)) rfl ?_
  refine pv_p0 hC fp_X12_121 (by decide +kernel : decode cX12_toward 2 = .ok (.putfield 121, 3)) hU ho (by decide) rfl rfl rfl rfl (fun U_1 h e_U_1 hU => ?_)
  replace H := H U_1 e_U_1
  refine pr_aload_n hC (by decide +kernel : decode cX12_toward 5 = .ok (.aload_n 0, 1)) rfl ?_
  refine pr_iload_n hC (by decide +kernel : decode cX12_toward 6 = .ok (.iload_n 1, 1)) rfl ?_
  refine vc_Vi hC hR [.int a1] fv_X12_391 (by decide +kernel : decode cX12_toward 7 = .ok (.invokevirtual 391, 3)) hU (t_X12_isField ho H) ho (by decide) rfl rfl rfl (Nat.le_of_ble_eq_true rfl) (Nat.le_of_ble_eq_true rfl) (Nat.le_refl 0) (Nat.le_refl 0) (fun r_3 U_2 h H hU => ?_)
  refine pr_if_eq hC 36 (by decide +kernel : decode cX12_toward 10 = .ok (.ifCond .eq 26, 3)) (by decide) (fun c_10 => ?_) (fun c_10 => ?_)
  · replace H := H.1 c_10
    refine pr_iconst hC (-1) (by decide +kernel : decode cX12_toward 36 = .ok (.iconst (-1), 1)) rfl ?_
    exact pv_iret hM (by decide +kernel : decode cX12_toward 37 = .ok (.ireturn, 1)) hU H
  replace H := H.2 c_10
  refine pr_aload_n hC (by decide +kernel : decode cX12_toward 13 = .ok (.aload_n 0, 1)) rfl ?_
  refine pr_iload_n hC (by decide +kernel : decode cX12_toward 14 = .ok (.iload_n 2, 1)) rfl ?_
  refine vc_Vi hC hR [.int a2] fv_X12_391 (by decide +kernel : decode cX12_toward 15 = .ok (.invokevirtual 391, 3)) hU (t_X12_isField ho H) ho (by decide) rfl rfl rfl (Nat.le_of_ble_eq_true rfl) (Nat.le_of_ble_eq_true rfl) (Nat.le_refl 0) (Nat.le_refl 0) (fun r_5 U_4 h H hU => ?_)
  refine pr_if_eq hC 36 (by decide +kernel : decode cX12_toward 18 = .ok (.ifCond .eq 18, 3)) (by decide) (fun c_18 => ?_) (fun c_18 => ?_)
  · replace H := H.1 c_18
    refine pr_iconst hC (-1) (by decide +kernel : decode cX12_toward 36 = .ok (.iconst (-1), 1)) rfl ?_
    exact pv_iret hM (by decide +kernel : decode cX12_toward 37 = .ok (.ireturn, 1)) hU H
  replace H := H.2 c_18
  refine pr_iload_n hC (by decide +kernel : decode cX12_toward 21 = .ok (.iload_n 1, 1)) rfl ?_
  refine pr_iload_n hC (by decide +kernel : decode cX12_toward 22 = .ok (.iload_n 2, 1)) rfl ?_
  refine pr_icmp_eq hC 36 (by decide +kernel : decode cX12_toward 23 = .ok (.if_icmp .eq 13, 3)) (by decide) (fun c_23 => ?_) (fun c_23 => ?_)
  · replace H := H.1 c_23
    refine pr_iconst hC (-1) (by decide +kernel : decode cX12_toward 36 = .ok (.iconst (-1), 1)) rfl ?_
    exact pv_iret hM (by decide +kernel : decode cX12_toward 37 = .ok (.ireturn, 1)) hU H
  replace H := H.2 c_23
  refine pr_aload_n hC (by decide +kernel : decode cX12_toward 26 = .ok (.aload_n 0, 1)) rfl ?_
  refine pr_iload_n hC (by decide +kernel : decode cX12_toward 27 = .ok (.iload_n 1, 1)) rfl ?_
  refine pr_iload_n hC (by decide +kernel : decode cX12_toward 28 = .ok (.iload_n 2, 1)) rfl ?_
  refine vc_Vi hC hR [.int a1, .int a2] fv_X12_394 (by decide +kernel : decode cX12_toward 29 = .ok (.invokevirtual 394, 3)) hU (t_X12_wayOf ho H) ho (by decide) rfl rfl rfl (Nat.le_of_ble_eq_true rfl) (Nat.le_of_ble_eq_true rfl) (Nat.le_refl 0) (Nat.le_refl 0) (fun r_7 U_6 h H hU => ?_)
  refine pr_iconst hC (-1) (by decide +kernel : decode cX12_toward 32 = .ok (.iconst (-1), 1)) rfl ?_
  refine pr_icmp_ne hC 38 (by decide +kernel : decode cX12_toward 33 = .ok (.if_icmp .ne 5, 3)) (by decide) (fun c_33 => ?_) (fun c_33 => ?_)
  · replace H := H.2 c_33
    refine pr_iconst hC (0) (by decide +kernel : decode cX12_toward 38 = .ok (.iconst 0, 1)) rfl ?_
    refine pr_istore_n hC (by decide +kernel : decode cX12_toward 39 = .ok (.istore_n 3, 1)) (by decide) rfl ?_
    obtain ⟨n_18, H⟩ := H
    refine pv_sub [some (.ref (Y.2.1 o)), some (.int a1), some (.int a2), some (.int 0)] (And.intro rfl (And.intro rfl (And.intro rfl (And.intro rfl trivial)))) ?_
    refine tl_X12_toward_L40 _ _ _ _ _ ho hC hM hR (fun U_17 h H hU => ?_) n_18 _ U_6 h hU H
    refine pr_iconst hC (-1) (by decide +kernel : decode cX12_toward 109 = .ok (.iconst (-1), 1)) rfl ?_
    exact pv_iret hM (by decide +kernel : decode cX12_toward 110 = .ok (.ireturn, 1)) hU H
  replace H := H.1 c_33
  refine pr_iconst hC (-1) (by decide +kernel : decode cX12_toward 36 = .ok (.iconst (-1), 1)) rfl ?_
  exact pv_iret hM (by decide +kernel : decode cX12_toward 37 = .ok (.ireturn, 1)) hU H
def b_X12_hub_L27 (o0 : Nat) (x1 : Int32) (x2 : Int32) (x3 : Int32) (post : Int32 → Um → Prop) (k_73 : Int32 → Um → Prop) (rec_ : Int32 → Int32 → Um → Prop) (x4 : Int32) (x5 : Int32) (U : Um) : Prop :=
  vp_in 0 14 ∧ ((uA U o0 11 (Int32.toNatClampNeg 0)) ≤ x5 → k_73 x4 U) ∧ (¬ (uA U o0 11 (Int32.toNatClampNeg 0)) ≤ x5 → w_X12_wayOf o0 x3 x5 U (fun r_3 U_2 => (r_3 = (-1) → ∀ (x4_4 : Int32), x4_4 = x4 + 999 → ∀ (x5_5 : Int32), x5_5 = x5 + 1 → rec_ x4_4 x5_5 U_2) ∧ (¬ r_3 = (-1) → w_X12_wayOf o0 x3 x5 U_2 (fun r_7 U_6 => ∀ (x4_8 : Int32), x4_8 = x4 + r_7 → ∀ (x5_9 : Int32), x5_9 = x5 + 1 → rec_ x4_8 x5_9 U_6))))
def w_X12_hub_L27 (o0 : Nat) (x1 : Int32) (x2 : Int32) (x3 : Int32) (post : Int32 → Um → Prop) (k_73 : Int32 → Um → Prop) (n_ : Nat) : Int32 → Int32 → Um → Prop := Nat.rec (motive := fun _ => Int32 → Int32 → Um → Prop) (fun _ _ _ => False) (fun _ ih => b_X12_hub_L27 o0 x1 x2 x3 post k_73 ih) n_
def b_X12_hub_L11 (o0 : Nat) (post : Int32 → Um → Prop) (k_98 : Int32 → Um → Prop) (rec_ : Int32 → Int32 → Int32 → Um → Prop) (x1 : Int32) (x2 : Int32) (x3 : Int32) (U : Um) : Prop :=
  vp_in 0 14 ∧ ((uA U o0 11 (Int32.toNatClampNeg 0)) ≤ x3 → k_98 x1 U) ∧ (¬ (uA U o0 11 (Int32.toNatClampNeg 0)) ≤ x3 → (∃ n_17, w_X12_hub_L27 o0 x1 x2 x3 post (fun x4_10 U_11 => (x1 = (-1) → ∀ (x1_12 : Int32), x1_12 = x3 → ∀ (x3_13 : Int32), x3_13 = x3 + 1 → rec_ x1_12 x4_10 x3_13 U_11) ∧ (¬ x1 = (-1) → (x4_10 < x2 → ∀ (x1_14 : Int32), x1_14 = x3 → ∀ (x3_15 : Int32), x3_15 = x3 + 1 → rec_ x1_14 x4_10 x3_15 U_11) ∧ (¬ x4_10 < x2 → ∀ (x3_16 : Int32), x3_16 = x3 + 1 → rec_ x1 x2 x3_16 U_11))) n_17 0 0 U))
def w_X12_hub_L11 (o0 : Nat) (post : Int32 → Um → Prop) (k_98 : Int32 → Um → Prop) (n_ : Nat) : Int32 → Int32 → Int32 → Um → Prop := Nat.rec (motive := fun _ => Int32 → Int32 → Int32 → Um → Prop) (fun _ _ _ _ => False) (fun _ ih => b_X12_hub_L11 o0 post k_98 ih) n_
def w_X12_hub (o : Nat) (U : Um) (post : Int32 → Um → Prop) : Prop :=
  ∀ (U_1 : Um), U_1 = sI U o 0 0 → (∃ n_20, w_X12_hub_L11 o post (fun x1_18 U_19 => post x1_18 U_19) n_20 (-1) 0 0 U_1)
set_option maxHeartbeats 4000000 in
theorem tl_X12_hub_L27 {l : Launch} {Y : px_Y} {X : px_X} {h0 hh : pe_H} {sz : Nat} (o0 : Nat) (x1 : Int32) (x2 : Int32) (x3 : Int32) (post : Int32 → Um → Prop) (k_73 : Int32 → Um → Prop) (ho0 : oc o0 = 10)  (hC : px_C X Y.1 (pm_A hh sz) cX12_hub RX12 6) (hM : px_M l X Y.1 hh sz yX12_hub cX12_hub 6 (some (.int)) 1 0 0) (hR : X.2.2.2.1 = pm_rm 1 0 0) (hk_73 : ∀ (y4 : Int32) (U : Um) (h : pe_H), k_73 y4 U → rF Y h0 U h → pw X Y.1 (pm_A hh sz) (pm_E X Y.1 hh sz 0 0 (pm_P Y h0 sz (pq_i post))) 73 [some (.ref (Y.2.1 o0)), some (.int x1), some (.int x2), some (.int x3), some (.int y4), none] [] h sz 0 0) : ∀ (n_ : Nat) (x4 : Int32) (x5 : Int32) (U : Um) (h : pe_H), rF Y h0 U h → w_X12_hub_L27 o0 x1 x2 x3 post k_73 n_ x4 x5 U → pw X Y.1 (pm_A hh sz) (pm_E X Y.1 hh sz 0 0 (pm_P Y h0 sz (pq_i post))) 27 [some (.ref (Y.2.1 o0)), some (.int x1), some (.int x2), some (.int x3), some (.int x4), some (.int x5)] [] h sz 0 0 := by
  intro n_
  induction n_ with
  | zero => intro x4 x5 U h hU H; exact False.elim H
  | succ n_ ih =>
    intro x4 x5 U h hU H
    replace H : b_X12_hub_L27 o0 x1 x2 x3 post k_73 (w_X12_hub_L27 o0 x1 x2 x3 post k_73 n_) x4 x5 U := H
    unfold b_X12_hub_L27 at H
    refine pr_iload hC (by decide +kernel : decode cX12_hub 27 = .ok (.iload 5, 2)) rfl ?_
    refine pr_aload_n hC (by decide +kernel : decode cX12_hub 29 = .ok (.aload_n 0, 1)) rfl ?_
    refine pu_g1 hC fg_X12_43 (by decide +kernel : decode cX12_hub 30 = .ok (.getfield 43, 3)) hU ho0 (by decide) rfl (by decide) ?_
    refine pr_iconst hC (0) (by decide +kernel : decode cX12_hub 33 = .ok (.iconst 0, 1)) rfl ?_
    refine pu_iald hC (by decide +kernel : decode cX12_hub 34 = .ok (.iaload, 1)) hU ho0 rfl H.1 ?_
    replace H := H.2
    refine pr_icmp_ge hC 73 (by decide +kernel : decode cX12_hub 35 = .ok (.if_icmp .ge 38, 3)) (by decide) (fun c_35 => ?_) (fun c_35 => ?_)
    · replace H := H.1 c_35
      exact pv_sub [some (.ref (Y.2.1 o0)), some (.int x1), some (.int x2), some (.int x3), some (.int x4), none] (And.intro rfl (And.intro rfl (And.intro rfl (And.intro rfl (And.intro rfl trivial))))) (hk_73 _ U h H hU)
    replace H := H.2 c_35
    refine pr_iload hC (by decide +kernel : decode cX12_hub 38 = .ok (.iload 4, 2)) rfl ?_
    refine pr_aload_n hC (by decide +kernel : decode cX12_hub 40 = .ok (.aload_n 0, 1)) rfl ?_
    refine pr_iload_n hC (by decide +kernel : decode cX12_hub 41 = .ok (.iload_n 3, 1)) rfl ?_
    refine pr_iload hC (by decide +kernel : decode cX12_hub 42 = .ok (.iload 5, 2)) rfl ?_
    refine vc_Vi hC hR [.int x3, .int x5] fv_X12_394 (by decide +kernel : decode cX12_hub 44 = .ok (.invokevirtual 394, 3)) hU (t_X12_wayOf ho0 H) ho0 (by decide) rfl rfl rfl (Nat.le_of_ble_eq_true rfl) (Nat.le_of_ble_eq_true rfl) (Nat.le_refl 0) (Nat.le_refl 0) (fun r_3 U_2 h H hU => ?_)
    refine pr_iconst hC (-1) (by decide +kernel : decode cX12_hub 47 = .ok (.iconst (-1), 1)) rfl ?_
    refine pr_icmp_ne hC 57 (by decide +kernel : decode cX12_hub 48 = .ok (.if_icmp .ne 9, 3)) (by decide) (fun c_48 => ?_) (fun c_48 => ?_)
    · replace H := H.2 c_48
      refine pr_aload_n hC (by decide +kernel : decode cX12_hub 57 = .ok (.aload_n 0, 1)) rfl ?_
      refine pr_iload_n hC (by decide +kernel : decode cX12_hub 58 = .ok (.iload_n 3, 1)) rfl ?_
      refine pr_iload hC (by decide +kernel : decode cX12_hub 59 = .ok (.iload 5, 2)) rfl ?_
      refine vc_Vi hC hR [.int x3, .int x5] fv_X12_394 (by decide +kernel : decode cX12_hub 61 = .ok (.invokevirtual 394, 3)) hU (t_X12_wayOf ho0 H) ho0 (by decide) rfl rfl rfl (Nat.le_of_ble_eq_true rfl) (Nat.le_of_ble_eq_true rfl) (Nat.le_refl 0) (Nat.le_refl 0) (fun r_7 U_6 h H hU => ?_)
      refine pr_iadd hC (by decide +kernel : decode cX12_hub 64 = .ok (.iadd, 1)) ?_
      refine pv_topi (fun x4_8 e_x4_8 => ?_)
      replace H := H x4_8 e_x4_8
      refine pr_istore hC (by decide +kernel : decode cX12_hub 65 = .ok (.istore 4, 2)) (by decide) rfl ?_
      refine pv_iinc hC (v := x5 + 1) (by decide +kernel : decode cX12_hub 67 = .ok (.iinc 5 1, 3)) rfl (by decide) rfl rfl (fun x5_9 e_x5_9 => ?_)
      replace H := H x5_9 e_x5_9
      refine pr_goto hC 27 (by decide +kernel : decode cX12_hub 70 = .ok (.goto (-43), 3)) (by decide) ?_
      exact pv_sub [some (.ref (Y.2.1 o0)), some (.int x1), some (.int x2), some (.int x3), some (.int x4_8), some (.int x5_9)] (And.intro rfl (And.intro rfl (And.intro rfl (And.intro rfl (And.intro rfl (And.intro rfl trivial)))))) (ih _ _ U_6 h hU H)
    replace H := H.1 c_48
    refine pr_sipush hC (999) (by decide +kernel : decode cX12_hub 51 = .ok (.sipush 999, 3)) rfl ?_
    refine pr_goto hC 64 (by decide +kernel : decode cX12_hub 54 = .ok (.goto 10, 3)) (by decide) ?_
    refine pr_iadd hC (by decide +kernel : decode cX12_hub 64 = .ok (.iadd, 1)) ?_
    refine pv_topi (fun x4_4 e_x4_4 => ?_)
    replace H := H x4_4 e_x4_4
    refine pr_istore hC (by decide +kernel : decode cX12_hub 65 = .ok (.istore 4, 2)) (by decide) rfl ?_
    refine pv_iinc hC (v := x5 + 1) (by decide +kernel : decode cX12_hub 67 = .ok (.iinc 5 1, 3)) rfl (by decide) rfl rfl (fun x5_5 e_x5_5 => ?_)
    replace H := H x5_5 e_x5_5
    refine pr_goto hC 27 (by decide +kernel : decode cX12_hub 70 = .ok (.goto (-43), 3)) (by decide) ?_
    exact pv_sub [some (.ref (Y.2.1 o0)), some (.int x1), some (.int x2), some (.int x3), some (.int x4_4), some (.int x5_5)] (And.intro rfl (And.intro rfl (And.intro rfl (And.intro rfl (And.intro rfl (And.intro rfl trivial)))))) (ih _ _ U_2 h hU H)
set_option maxHeartbeats 4000000 in
theorem tl_X12_hub_L11 {l : Launch} {Y : px_Y} {X : px_X} {h0 hh : pe_H} {sz : Nat} (o0 : Nat) (post : Int32 → Um → Prop) (k_98 : Int32 → Um → Prop) (ho0 : oc o0 = 10)  (hC : px_C X Y.1 (pm_A hh sz) cX12_hub RX12 6) (hM : px_M l X Y.1 hh sz yX12_hub cX12_hub 6 (some (.int)) 1 0 0) (hR : X.2.2.2.1 = pm_rm 1 0 0) (hk_98 : ∀ (y1 : Int32) (U : Um) (h : pe_H), k_98 y1 U → rF Y h0 U h → pw X Y.1 (pm_A hh sz) (pm_E X Y.1 hh sz 0 0 (pm_P Y h0 sz (pq_i post))) 98 [none, some (.int y1), none, none, none, none] [] h sz 0 0) : ∀ (n_ : Nat) (x1 : Int32) (x2 : Int32) (x3 : Int32) (U : Um) (h : pe_H), rF Y h0 U h → w_X12_hub_L11 o0 post k_98 n_ x1 x2 x3 U → pw X Y.1 (pm_A hh sz) (pm_E X Y.1 hh sz 0 0 (pm_P Y h0 sz (pq_i post))) 11 [some (.ref (Y.2.1 o0)), some (.int x1), some (.int x2), some (.int x3), none, none] [] h sz 0 0 := by
  intro n_
  induction n_ with
  | zero => intro x1 x2 x3 U h hU H; exact False.elim H
  | succ n_ ih =>
    intro x1 x2 x3 U h hU H
    replace H : b_X12_hub_L11 o0 post k_98 (w_X12_hub_L11 o0 post k_98 n_) x1 x2 x3 U := H
    unfold b_X12_hub_L11 at H
    refine pr_iload_n hC (by decide +kernel : decode cX12_hub 11 = .ok (.iload_n 3, 1)) rfl ?_
    refine pr_aload_n hC (by decide +kernel : decode cX12_hub 12 = .ok (.aload_n 0, 1)) rfl ?_
    refine pu_g1 hC fg_X12_43 (by decide +kernel : decode cX12_hub 13 = .ok (.getfield 43, 3)) hU ho0 (by decide) rfl (by decide) ?_
    refine pr_iconst hC (0) (by decide +kernel : decode cX12_hub 16 = .ok (.iconst 0, 1)) rfl ?_
    refine pu_iald hC (by decide +kernel : decode cX12_hub 17 = .ok (.iaload, 1)) hU ho0 rfl H.1 ?_
    replace H := H.2
    refine pr_icmp_ge hC 98 (by decide +kernel : decode cX12_hub 18 = .ok (.if_icmp .ge 80, 3)) (by decide) (fun c_18 => ?_) (fun c_18 => ?_)
    · replace H := H.1 c_18
      exact pv_sub [none, some (.int x1), none, none, none, none] (And.intro rfl trivial) (hk_98 _ U h H hU)
    replace H := H.2 c_18
    refine pr_iconst hC (0) (by decide +kernel : decode cX12_hub 21 = .ok (.iconst 0, 1)) rfl ?_
    refine pr_istore hC (by decide +kernel : decode cX12_hub 22 = .ok (.istore 4, 2)) (by decide) rfl ?_
    refine pr_iconst hC (0) (by decide +kernel : decode cX12_hub 24 = .ok (.iconst 0, 1)) rfl ?_
    refine pr_istore hC (by decide +kernel : decode cX12_hub 25 = .ok (.istore 5, 2)) (by decide) rfl ?_
    obtain ⟨n_17, H⟩ := H
    refine pv_sub [some (.ref (Y.2.1 o0)), some (.int x1), some (.int x2), some (.int x3), some (.int 0), some (.int 0)] (And.intro rfl (And.intro rfl (And.intro rfl (And.intro rfl (And.intro rfl (And.intro rfl trivial)))))) ?_
    refine tl_X12_hub_L27 _ _ _ _ _ _ ho0 hC hM hR (fun x4_10 U_11 h H hU => ?_) n_17 _ _ U h hU H
    refine pr_iload_n hC (by decide +kernel : decode cX12_hub 73 = .ok (.iload_n 1, 1)) rfl ?_
    refine pr_iconst hC (-1) (by decide +kernel : decode cX12_hub 74 = .ok (.iconst (-1), 1)) rfl ?_
    refine pr_icmp_eq hC 87 (by decide +kernel : decode cX12_hub 75 = .ok (.if_icmp .eq 12, 3)) (by decide) (fun c_75 => ?_) (fun c_75 => ?_)
    · replace H := H.1 c_75
      refine pr_iload_n hC (by decide +kernel : decode cX12_hub 87 = .ok (.iload_n 3, 1)) rfl ?_
      refine pv_topi (fun x1_12 e_x1_12 => ?_)
      replace H := H x1_12 e_x1_12
      refine pr_istore_n hC (by decide +kernel : decode cX12_hub 88 = .ok (.istore_n 1, 1)) (by decide) rfl ?_
      refine pr_iload hC (by decide +kernel : decode cX12_hub 89 = .ok (.iload 4, 2)) rfl ?_
      refine pr_istore_n hC (by decide +kernel : decode cX12_hub 91 = .ok (.istore_n 2, 1)) (by decide) rfl ?_
      refine pv_iinc hC (v := x3 + 1) (by decide +kernel : decode cX12_hub 92 = .ok (.iinc 3 1, 3)) rfl (by decide) rfl rfl (fun x3_13 e_x3_13 => ?_)
      replace H := H x3_13 e_x3_13
      refine pr_goto hC 11 (by decide +kernel : decode cX12_hub 95 = .ok (.goto (-84), 3)) (by decide) ?_
      exact pv_sub [some (.ref (Y.2.1 o0)), some (.int x1_12), some (.int x4_10), some (.int x3_13), none, none] (And.intro rfl (And.intro rfl (And.intro rfl (And.intro rfl trivial)))) (ih _ _ _ U_11 h hU H)
    replace H := H.2 c_75
    refine pr_iload hC (by decide +kernel : decode cX12_hub 78 = .ok (.iload 4, 2)) rfl ?_
    refine pr_iload_n hC (by decide +kernel : decode cX12_hub 80 = .ok (.iload_n 2, 1)) rfl ?_
    refine pr_icmp_lt hC 87 (by decide +kernel : decode cX12_hub 81 = .ok (.if_icmp .lt 6, 3)) (by decide) (fun c_81 => ?_) (fun c_81 => ?_)
    · replace H := H.1 c_81
      refine pr_iload_n hC (by decide +kernel : decode cX12_hub 87 = .ok (.iload_n 3, 1)) rfl ?_
      refine pv_topi (fun x1_14 e_x1_14 => ?_)
      replace H := H x1_14 e_x1_14
      refine pr_istore_n hC (by decide +kernel : decode cX12_hub 88 = .ok (.istore_n 1, 1)) (by decide) rfl ?_
      refine pr_iload hC (by decide +kernel : decode cX12_hub 89 = .ok (.iload 4, 2)) rfl ?_
      refine pr_istore_n hC (by decide +kernel : decode cX12_hub 91 = .ok (.istore_n 2, 1)) (by decide) rfl ?_
      refine pv_iinc hC (v := x3 + 1) (by decide +kernel : decode cX12_hub 92 = .ok (.iinc 3 1, 3)) rfl (by decide) rfl rfl (fun x3_15 e_x3_15 => ?_)
      replace H := H x3_15 e_x3_15
      refine pr_goto hC 11 (by decide +kernel : decode cX12_hub 95 = .ok (.goto (-84), 3)) (by decide) ?_
      exact pv_sub [some (.ref (Y.2.1 o0)), some (.int x1_14), some (.int x4_10), some (.int x3_15), none, none] (And.intro rfl (And.intro rfl (And.intro rfl (And.intro rfl trivial)))) (ih _ _ _ U_11 h hU H)
    replace H := H.2 c_81
    refine pr_goto hC 92 (by decide +kernel : decode cX12_hub 84 = .ok (.goto 8, 3)) (by decide) ?_
    refine pv_iinc hC (v := x3 + 1) (by decide +kernel : decode cX12_hub 92 = .ok (.iinc 3 1, 3)) rfl (by decide) rfl rfl (fun x3_16 e_x3_16 => ?_)
    replace H := H x3_16 e_x3_16
    refine pr_goto hC 11 (by decide +kernel : decode cX12_hub 95 = .ok (.goto (-84), 3)) (by decide) ?_
    exact pv_sub [some (.ref (Y.2.1 o0)), some (.int x1), some (.int x2), some (.int x3_16), none, none] (And.intro rfl (And.intro rfl (And.intro rfl (And.intro rfl trivial)))) (ih _ _ _ U_11 h hU H)
set_option maxHeartbeats 4000000 in
theorem t_X12_hub {l : Launch} {Y : px_Y} {o : Nat} {U : Um} {post : Int32 → Um → Prop} (ho : oc o = 10) (H : w_X12_hub o U post) : um l Y 1 yX12_hub cX12_hub 6 (some (.int)) [.ref (Y.2.1 o)] U (pq_i post) := by
  unfold w_X12_hub at H
  refine um_of (by decide) (Nat.le_of_ble_eq_true rfl) [some (.ref (Y.2.1 o)), none, none, none, none, none] rfl (fun X h0 hh sz hM hU => ?_)
  have hC := hM.1
  have hR := hM.2.2.1
  refine pr_aload_n hC (by decide +kernel : decode cX12_hub 0 = .ok (.aload_n 0, 1)) rfl ?_
  refine pr_iconst hC (0) (by decide +kernel : decode cX12_hub 1 = .ok (.iconst 0, 1)) rfl ?_
  refine pv_p0 hC fp_X12_121 (by decide +kernel : decode cX12_hub 2 = .ok (.putfield 121, 3)) hU ho (by decide) rfl rfl rfl rfl (fun U_1 h e_U_1 hU => ?_)
  replace H := H U_1 e_U_1
  refine pr_iconst hC (-1) (by decide +kernel : decode cX12_hub 5 = .ok (.iconst (-1), 1)) rfl ?_
  refine pr_istore_n hC (by decide +kernel : decode cX12_hub 6 = .ok (.istore_n 1, 1)) (by decide) rfl ?_
  refine pr_iconst hC (0) (by decide +kernel : decode cX12_hub 7 = .ok (.iconst 0, 1)) rfl ?_
  refine pr_istore_n hC (by decide +kernel : decode cX12_hub 8 = .ok (.istore_n 2, 1)) (by decide) rfl ?_
  refine pr_iconst hC (0) (by decide +kernel : decode cX12_hub 9 = .ok (.iconst 0, 1)) rfl ?_
  refine pr_istore_n hC (by decide +kernel : decode cX12_hub 10 = .ok (.istore_n 3, 1)) (by decide) rfl ?_
  obtain ⟨n_20, H⟩ := H
  refine pv_sub [some (.ref (Y.2.1 o)), some (.int (-1)), some (.int 0), some (.int 0), none, none] (And.intro rfl (And.intro rfl (And.intro rfl (And.intro rfl trivial)))) ?_
  refine tl_X12_hub_L11 _ _ _ ho hC hM hR (fun x1_18 U_19 h H hU => ?_) n_20 _ _ _ U_1 h hU H
  refine pr_iload_n hC (by decide +kernel : decode cX12_hub 98 = .ok (.iload_n 1, 1)) rfl ?_
  exact pv_iret hM (by decide +kernel : decode cX12_hub 99 = .ok (.ireturn, 1)) hU H
def w_J9_max_7cf53 (a1 : Int32) (a2 : Int32) (U : Um) (post : Int32 → Um → Prop) : Prop :=
  (a1 < a2 → post a2 U) ∧ (¬ a1 < a2 → post a1 U)
set_option maxHeartbeats 4000000 in
theorem t_J9_max_7cf53 {l : Launch} {Y : px_Y} {a1 : Int32} {a2 : Int32} {U : Um} {post : Int32 → Um → Prop}  (H : w_J9_max_7cf53 a1 a2 U post) : um l Y 0 yJ9_max_7cf53 cJ9_max_7cf53 2 (some (.int)) [.int a1, .int a2] U (pq_i post) := by
  unfold w_J9_max_7cf53 at H
  refine um_ofF (by decide +kernel) (Nat.le_of_ble_eq_true rfl) [some (.int a1), some (.int a2)] rfl (fun X h0 hh sz hM hU => ?_)
  have hC := hM.1
  have hR := hM.2.2.1
  refine pr_iload_n hC (by decide +kernel : decode cJ9_max_7cf53 0 = .ok (.iload_n 0, 1)) rfl ?_
  refine pr_iload_n hC (by decide +kernel : decode cJ9_max_7cf53 1 = .ok (.iload_n 1, 1)) rfl ?_
  refine pr_icmp_lt hC 9 (by decide +kernel : decode cJ9_max_7cf53 2 = .ok (.if_icmp .lt 7, 3)) (by decide) (fun c_2 => ?_) (fun c_2 => ?_)
  · replace H := H.1 c_2
    refine pr_iload_n hC (by decide +kernel : decode cJ9_max_7cf53 9 = .ok (.iload_n 1, 1)) rfl ?_
    exact pv_iret hM (by decide +kernel : decode cJ9_max_7cf53 10 = .ok (.ireturn, 1)) hU H
  replace H := H.2 c_2
  refine pr_iload_n hC (by decide +kernel : decode cJ9_max_7cf53 5 = .ok (.iload_n 0, 1)) rfl ?_
  refine pr_goto hC 10 (by decide +kernel : decode cJ9_max_7cf53 6 = .ok (.goto 4, 3)) (by decide) ?_
  exact pv_iret hM (by decide +kernel : decode cJ9_max_7cf53 10 = .ok (.ireturn, 1)) hU H
def w_X12_needOf (o : Nat) (a1 : Int32) (a2 : Int32) (U : Um) (post : Int32 → Um → Prop) : Prop :=
  (a2 = 0 → w_X12_of o a1 6 U (fun r_2 U_1 => post r_2 U_1)) ∧ (¬ a2 = 0 → w_X12_of o a1 6 U (fun r_4 U_3 => w_J9_max_7cf53 1 (r_4 - 1) U_3 (fun r_6 U_5 => post r_6 U_5)))
set_option maxHeartbeats 4000000 in
theorem t_X12_needOf {l : Launch} {Y : px_Y} {o : Nat} {a1 : Int32} {a2 : Int32} {U : Um} {post : Int32 → Um → Prop} (ho : oc o = 10) (H : w_X12_needOf o a1 a2 U post) : um l Y 1 yX12_needOf cX12_needOf 3 (some (.int)) [.ref (Y.2.1 o), .int a1, .int a2] U (pq_i post) := by
  unfold w_X12_needOf at H
  refine um_of (by decide) (Nat.le_of_ble_eq_true rfl) [some (.ref (Y.2.1 o)), some (.int a1), some (.int a2)] rfl (fun X h0 hh sz hM hU => ?_)
  have hC := hM.1
  have hR := hM.2.2.1
  refine pr_iload_n hC (by decide +kernel : decode cX12_needOf 0 = .ok (.iload_n 2, 1)) rfl ?_
  refine pr_if_ne hC 14 (by decide +kernel : decode cX12_needOf 1 = .ok (.ifCond .ne 13, 3)) (by decide) (fun c_1 => ?_) (fun c_1 => ?_)
  · replace H := H.2 c_1
    refine pr_iconst hC (1) (by decide +kernel : decode cX12_needOf 14 = .ok (.iconst 1, 1)) rfl ?_
    refine pr_aload_n hC (by decide +kernel : decode cX12_needOf 15 = .ok (.aload_n 0, 1)) rfl ?_
    refine pr_iload_n hC (by decide +kernel : decode cX12_needOf 16 = .ok (.iload_n 1, 1)) rfl ?_
    refine pr_bipush hC (6) (by decide +kernel : decode cX12_needOf 17 = .ok (.bipush 6, 2)) rfl ?_
    refine vc_Vi hC hR [.int a1, .int 6] fv_X12_353 (by decide +kernel : decode cX12_needOf 19 = .ok (.invokevirtual 353, 3)) hU (t_X12_of ho H) ho (by decide) rfl rfl rfl (Nat.le_of_ble_eq_true rfl) (Nat.le_of_ble_eq_true rfl) (Nat.le_refl 0) (Nat.le_refl 0) (fun r_4 U_3 h H hU => ?_)
    refine pr_iconst hC (1) (by decide +kernel : decode cX12_needOf 22 = .ok (.iconst 1, 1)) rfl ?_
    refine pr_isub hC (by decide +kernel : decode cX12_needOf 23 = .ok (.isub, 1)) ?_
    refine vc_Si hC hR [.int 1, .int (r_4 - 1)] fv_X12_397 (by decide +kernel : decode cX12_needOf 24 = .ok (.invokestatic 397, 3)) hU (t_J9_max_7cf53  H) rfl rfl (Nat.le_of_ble_eq_true rfl) (Nat.le_of_ble_eq_true rfl) (Nat.le_refl 0) (Nat.le_refl 0) (fun r_6 U_5 h H hU => ?_)
    exact pv_iret hM (by decide +kernel : decode cX12_needOf 27 = .ok (.ireturn, 1)) hU H
  replace H := H.1 c_1
  refine pr_aload_n hC (by decide +kernel : decode cX12_needOf 4 = .ok (.aload_n 0, 1)) rfl ?_
  refine pr_iload_n hC (by decide +kernel : decode cX12_needOf 5 = .ok (.iload_n 1, 1)) rfl ?_
  refine pr_bipush hC (6) (by decide +kernel : decode cX12_needOf 6 = .ok (.bipush 6, 2)) rfl ?_
  refine vc_Vi hC hR [.int a1, .int 6] fv_X12_353 (by decide +kernel : decode cX12_needOf 8 = .ok (.invokevirtual 353, 3)) hU (t_X12_of ho H) ho (by decide) rfl rfl rfl (Nat.le_of_ble_eq_true rfl) (Nat.le_of_ble_eq_true rfl) (Nat.le_refl 0) (Nat.le_refl 0) (fun r_2 U_1 h H hU => ?_)
  refine pr_goto hC 27 (by decide +kernel : decode cX12_needOf 11 = .ok (.goto 16, 3)) (by decide) ?_
  exact pv_iret hM (by decide +kernel : decode cX12_needOf 27 = .ok (.ireturn, 1)) hU H
def b_X12_isInGame_L2 (o0 : Nat) (x1 : Int32) (x2 : Int32) (post : Int32 → Um → Prop) (k_35 : Um → Prop) (rec_ : Int32 → Um → Prop) (x3 : Int32) (U : Um) : Prop :=
  w_X12_of o0 x2 7 U (fun r_2 U_1 => (r_2 ≤ x3 → k_35 U_1) ∧ (¬ r_2 ≤ x3 → w_X12_at x2 x3 U_1 (fun r_4 U_3 => vp_in r_4 48 ∧ ((uA U_3 o0 30 (Int32.toNatClampNeg r_4)) = x1 → post 1 U_3) ∧ (¬ (uA U_3 o0 30 (Int32.toNatClampNeg r_4)) = x1 → ∀ (x3_5 : Int32), x3_5 = x3 + 1 → rec_ x3_5 U_3))))
def w_X12_isInGame_L2 (o0 : Nat) (x1 : Int32) (x2 : Int32) (post : Int32 → Um → Prop) (k_35 : Um → Prop) (n_ : Nat) : Int32 → Um → Prop := Nat.rec (motive := fun _ => Int32 → Um → Prop) (fun _ _ => False) (fun _ ih => b_X12_isInGame_L2 o0 x1 x2 post k_35 ih) n_
def w_X12_isInGame (o : Nat) (a1 : Int32) (a2 : Int32) (U : Um) (post : Int32 → Um → Prop) : Prop :=
  (∃ n_7, w_X12_isInGame_L2 o a1 a2 post (fun U_6 => post 0 U_6) n_7 0 U)
set_option maxHeartbeats 4000000 in
theorem tl_X12_isInGame_L2 {l : Launch} {Y : px_Y} {X : px_X} {h0 hh : pe_H} {sz : Nat} (o0 : Nat) (x1 : Int32) (x2 : Int32) (post : Int32 → Um → Prop) (k_35 : Um → Prop) (ho0 : oc o0 = 10)  (hC : px_C X Y.1 (pm_A hh sz) cX12_isInGame RX12 4) (hM : px_M l X Y.1 hh sz yX12_isInGame cX12_isInGame 4 (some (.boolean)) 1 0 0) (hR : X.2.2.2.1 = pm_rm 1 0 0) (hk_35 : ∀ (U : Um) (h : pe_H), k_35 U → rF Y h0 U h → pw X Y.1 (pm_A hh sz) (pm_E X Y.1 hh sz 0 0 (pm_P Y h0 sz (pq_i post))) 35 [none, none, none, none] [] h sz 0 0) : ∀ (n_ : Nat) (x3 : Int32) (U : Um) (h : pe_H), rF Y h0 U h → w_X12_isInGame_L2 o0 x1 x2 post k_35 n_ x3 U → pw X Y.1 (pm_A hh sz) (pm_E X Y.1 hh sz 0 0 (pm_P Y h0 sz (pq_i post))) 2 [some (.ref (Y.2.1 o0)), some (.int x1), some (.int x2), some (.int x3)] [] h sz 0 0 := by
  intro n_
  induction n_ with
  | zero => intro x3 U h hU H; exact False.elim H
  | succ n_ ih =>
    intro x3 U h hU H
    replace H : b_X12_isInGame_L2 o0 x1 x2 post k_35 (w_X12_isInGame_L2 o0 x1 x2 post k_35 n_) x3 U := H
    unfold b_X12_isInGame_L2 at H
    refine pr_iload_n hC (by decide +kernel : decode cX12_isInGame 2 = .ok (.iload_n 3, 1)) rfl ?_
    refine pr_aload_n hC (by decide +kernel : decode cX12_isInGame 3 = .ok (.aload_n 0, 1)) rfl ?_
    refine pr_iload_n hC (by decide +kernel : decode cX12_isInGame 4 = .ok (.iload_n 2, 1)) rfl ?_
    refine pr_bipush hC (7) (by decide +kernel : decode cX12_isInGame 5 = .ok (.bipush 7, 2)) rfl ?_
    refine vc_Vi hC hR [.int x2, .int 7] fv_X12_353 (by decide +kernel : decode cX12_isInGame 7 = .ok (.invokevirtual 353, 3)) hU (t_X12_of ho0 H) ho0 (by decide) rfl rfl rfl (Nat.le_of_ble_eq_true rfl) (Nat.le_of_ble_eq_true rfl) (Nat.le_refl 0) (Nat.le_refl 0) (fun r_2 U_1 h H hU => ?_)
    refine pr_icmp_ge hC 35 (by decide +kernel : decode cX12_isInGame 10 = .ok (.if_icmp .ge 25, 3)) (by decide) (fun c_10 => ?_) (fun c_10 => ?_)
    · replace H := H.1 c_10
      exact pv_sub [none, none, none, none] (trivial) (hk_35 U_1 h H hU)
    replace H := H.2 c_10
    refine pr_aload_n hC (by decide +kernel : decode cX12_isInGame 13 = .ok (.aload_n 0, 1)) rfl ?_
    refine pu_g1 hC fg_X12_59 (by decide +kernel : decode cX12_isInGame 14 = .ok (.getfield 59, 3)) hU ho0 (by decide) rfl (by decide) ?_
    refine pr_iload_n hC (by decide +kernel : decode cX12_isInGame 17 = .ok (.iload_n 2, 1)) rfl ?_
    refine pr_iload_n hC (by decide +kernel : decode cX12_isInGame 18 = .ok (.iload_n 3, 1)) rfl ?_
    refine vc_Si hC hR [.int x2, .int x3] fv_X12_360 (by decide +kernel : decode cX12_isInGame 19 = .ok (.invokestatic 360, 3)) hU (t_X12_at  H) rfl rfl (Nat.le_of_ble_eq_true rfl) (Nat.le_of_ble_eq_true rfl) (Nat.le_refl 0) (Nat.le_refl 0) (fun r_4 U_3 h H hU => ?_)
    refine pu_iald hC (by decide +kernel : decode cX12_isInGame 22 = .ok (.iaload, 1)) hU ho0 rfl H.1 ?_
    replace H := H.2
    refine pr_iload_n hC (by decide +kernel : decode cX12_isInGame 23 = .ok (.iload_n 1, 1)) rfl ?_
    refine pr_icmp_ne hC 29 (by decide +kernel : decode cX12_isInGame 24 = .ok (.if_icmp .ne 5, 3)) (by decide) (fun c_24 => ?_) (fun c_24 => ?_)
    · replace H := H.2 c_24
      refine pv_iinc hC (v := x3 + 1) (by decide +kernel : decode cX12_isInGame 29 = .ok (.iinc 3 1, 3)) rfl (by decide) rfl rfl (fun x3_5 e_x3_5 => ?_)
      replace H := H x3_5 e_x3_5
      refine pr_goto hC 2 (by decide +kernel : decode cX12_isInGame 32 = .ok (.goto (-30), 3)) (by decide) ?_
      exact pv_sub [some (.ref (Y.2.1 o0)), some (.int x1), some (.int x2), some (.int x3_5)] (And.intro rfl (And.intro rfl (And.intro rfl (And.intro rfl trivial)))) (ih _ U_3 h hU H)
    replace H := H.1 c_24
    refine pr_iconst hC (1) (by decide +kernel : decode cX12_isInGame 27 = .ok (.iconst 1, 1)) rfl ?_
    exact pv_zret hM (by decide +kernel : decode cX12_isInGame 28 = .ok (.ireturn, 1)) (Or.inr rfl) hU H
set_option maxHeartbeats 4000000 in
theorem t_X12_isInGame {l : Launch} {Y : px_Y} {o : Nat} {a1 : Int32} {a2 : Int32} {U : Um} {post : Int32 → Um → Prop} (ho : oc o = 10) (H : w_X12_isInGame o a1 a2 U post) : um l Y 1 yX12_isInGame cX12_isInGame 4 (some (.boolean)) [.ref (Y.2.1 o), .int a1, .int a2] U (pq_i post) := by
  unfold w_X12_isInGame at H
  refine um_of (by decide) (Nat.le_of_ble_eq_true rfl) [some (.ref (Y.2.1 o)), some (.int a1), some (.int a2), none] rfl (fun X h0 hh sz hM hU => ?_)
  have hC := hM.1
  have hR := hM.2.2.1
  refine pr_iconst hC (0) (by decide +kernel : decode cX12_isInGame 0 = .ok (.iconst 0, 1)) rfl ?_
  refine pr_istore_n hC (by decide +kernel : decode cX12_isInGame 1 = .ok (.istore_n 3, 1)) (by decide) rfl ?_
  obtain ⟨n_7, H⟩ := H
  refine pv_sub [some (.ref (Y.2.1 o)), some (.int a1), some (.int a2), some (.int 0)] (And.intro rfl (And.intro rfl (And.intro rfl (And.intro rfl trivial)))) ?_
  refine tl_X12_isInGame_L2 _ _ _ _ _ ho hC hM hR (fun U_6 h H hU => ?_) n_7 _ U hh hU H
  refine pr_iconst hC (0) (by decide +kernel : decode cX12_isInGame 35 = .ok (.iconst 0, 1)) rfl ?_
  exact pv_zret hM (by decide +kernel : decode cX12_isInGame 36 = .ok (.ireturn, 1)) (Or.inl rfl) hU H
def w_X12_endOf (o : Nat) (a1 : Int32) (U : Um) (post : Int32 → Um → Prop) : Prop :=
  w_X12_of o a1 4 U (fun r_2 U_1 => w_X12_of o a1 5 U_1 (fun r_4 U_3 => post (r_2 + r_4) U_3))
set_option maxHeartbeats 4000000 in
theorem t_X12_endOf {l : Launch} {Y : px_Y} {o : Nat} {a1 : Int32} {U : Um} {post : Int32 → Um → Prop} (ho : oc o = 10) (H : w_X12_endOf o a1 U post) : um l Y 1 yX12_endOf cX12_endOf 2 (some (.int)) [.ref (Y.2.1 o), .int a1] U (pq_i post) := by
  unfold w_X12_endOf at H
  refine um_of (by decide) (Nat.le_of_ble_eq_true rfl) [some (.ref (Y.2.1 o)), some (.int a1)] rfl (fun X h0 hh sz hM hU => ?_)
  have hC := hM.1
  have hR := hM.2.2.1
  refine pr_aload_n hC (by decide +kernel : decode cX12_endOf 0 = .ok (.aload_n 0, 1)) rfl ?_
  refine pr_iload_n hC (by decide +kernel : decode cX12_endOf 1 = .ok (.iload_n 1, 1)) rfl ?_
  refine pr_iconst hC (4) (by decide +kernel : decode cX12_endOf 2 = .ok (.iconst 4, 1)) rfl ?_
  refine vc_Vi hC hR [.int a1, .int 4] fv_X12_353 (by decide +kernel : decode cX12_endOf 3 = .ok (.invokevirtual 353, 3)) hU (t_X12_of ho H) ho (by decide) rfl rfl rfl (Nat.le_of_ble_eq_true rfl) (Nat.le_of_ble_eq_true rfl) (Nat.le_refl 0) (Nat.le_refl 0) (fun r_2 U_1 h H hU => ?_)
  refine pr_aload_n hC (by decide +kernel : decode cX12_endOf 6 = .ok (.aload_n 0, 1)) rfl ?_
  refine pr_iload_n hC (by decide +kernel : decode cX12_endOf 7 = .ok (.iload_n 1, 1)) rfl ?_
  refine pr_iconst hC (5) (by decide +kernel : decode cX12_endOf 8 = .ok (.iconst 5, 1)) rfl ?_
  refine vc_Vi hC hR [.int a1, .int 5] fv_X12_353 (by decide +kernel : decode cX12_endOf 9 = .ok (.invokevirtual 353, 3)) hU (t_X12_of ho H) ho (by decide) rfl rfl rfl (Nat.le_of_ble_eq_true rfl) (Nat.le_of_ble_eq_true rfl) (Nat.le_refl 0) (Nat.le_refl 0) (fun r_4 U_3 h H hU => ?_)
  refine pr_iadd hC (by decide +kernel : decode cX12_endOf 12 = .ok (.iadd, 1)) ?_
  exact pv_iret hM (by decide +kernel : decode cX12_endOf 13 = .ok (.ireturn, 1)) hU H
def w_X12_between (o : Nat) (a1 : Int32) (a2 : Int32) (U : Um) (post : Int32 → Um → Prop) : Prop :=
  w_X12_of o a1 4 U (fun r_2 U_1 => w_X12_of o a2 4 U_1 (fun r_4 U_3 => (r_4 ≤ r_2 → w_X12_of o a1 4 U_3 (fun r_6 U_5 => w_X12_endOf o a2 U_5 (fun r_8 U_7 => post (r_6 - r_8) U_7))) ∧ (¬ r_4 ≤ r_2 → w_X12_of o a2 4 U_3 (fun r_10 U_9 => w_X12_endOf o a1 U_9 (fun r_12 U_11 => post (r_10 - r_12) U_11)))))
set_option maxHeartbeats 4000000 in
theorem t_X12_between {l : Launch} {Y : px_Y} {o : Nat} {a1 : Int32} {a2 : Int32} {U : Um} {post : Int32 → Um → Prop} (ho : oc o = 10) (H : w_X12_between o a1 a2 U post) : um l Y 2 yX12_between cX12_between 3 (some (.int)) [.ref (Y.2.1 o), .int a1, .int a2] U (pq_i post) := by
  unfold w_X12_between at H
  refine um_of (by decide) (Nat.le_of_ble_eq_true rfl) [some (.ref (Y.2.1 o)), some (.int a1), some (.int a2)] rfl (fun X h0 hh sz hM hU => ?_)
  have hC := hM.1
  have hR := hM.2.2.1
  refine pr_aload_n hC (by decide +kernel : decode cX12_between 0 = .ok (.aload_n 0, 1)) rfl ?_
  refine pr_iload_n hC (by decide +kernel : decode cX12_between 1 = .ok (.iload_n 1, 1)) rfl ?_
  refine pr_iconst hC (4) (by decide +kernel : decode cX12_between 2 = .ok (.iconst 4, 1)) rfl ?_
  refine vc_Vi hC hR [.int a1, .int 4] fv_X12_353 (by decide +kernel : decode cX12_between 3 = .ok (.invokevirtual 353, 3)) hU (t_X12_of ho H) ho (by decide) rfl rfl rfl (Nat.le_of_ble_eq_true rfl) (Nat.le_of_ble_eq_true rfl) (Nat.le_refl 0) (Nat.le_refl 0) (fun r_2 U_1 h H hU => ?_)
  refine pr_aload_n hC (by decide +kernel : decode cX12_between 6 = .ok (.aload_n 0, 1)) rfl ?_
  refine pr_iload_n hC (by decide +kernel : decode cX12_between 7 = .ok (.iload_n 2, 1)) rfl ?_
  refine pr_iconst hC (4) (by decide +kernel : decode cX12_between 8 = .ok (.iconst 4, 1)) rfl ?_
  refine vc_Vi hC hR [.int a2, .int 4] fv_X12_353 (by decide +kernel : decode cX12_between 9 = .ok (.invokevirtual 353, 3)) hU (t_X12_of ho H) ho (by decide) rfl rfl rfl (Nat.le_of_ble_eq_true rfl) (Nat.le_of_ble_eq_true rfl) (Nat.le_refl 0) (Nat.le_refl 0) (fun r_4 U_3 h H hU => ?_)
  refine pr_icmp_ge hC 30 (by decide +kernel : decode cX12_between 12 = .ok (.if_icmp .ge 18, 3)) (by decide) (fun c_12 => ?_) (fun c_12 => ?_)
  · replace H := H.1 c_12
    refine pr_aload_n hC (by decide +kernel : decode cX12_between 30 = .ok (.aload_n 0, 1)) rfl ?_
    refine pr_iload_n hC (by decide +kernel : decode cX12_between 31 = .ok (.iload_n 1, 1)) rfl ?_
    refine pr_iconst hC (4) (by decide +kernel : decode cX12_between 32 = .ok (.iconst 4, 1)) rfl ?_
    refine vc_Vi hC hR [.int a1, .int 4] fv_X12_353 (by decide +kernel : decode cX12_between 33 = .ok (.invokevirtual 353, 3)) hU (t_X12_of ho H) ho (by decide) rfl rfl rfl (Nat.le_of_ble_eq_true rfl) (Nat.le_of_ble_eq_true rfl) (Nat.le_refl 0) (Nat.le_refl 0) (fun r_6 U_5 h H hU => ?_)
    refine pr_aload_n hC (by decide +kernel : decode cX12_between 36 = .ok (.aload_n 0, 1)) rfl ?_
    refine pr_iload_n hC (by decide +kernel : decode cX12_between 37 = .ok (.iload_n 2, 1)) rfl ?_
    refine vc_Vi hC hR [.int a2] fv_X12_402 (by decide +kernel : decode cX12_between 38 = .ok (.invokevirtual 402, 3)) hU (t_X12_endOf ho H) ho (by decide) rfl rfl rfl (Nat.le_of_ble_eq_true rfl) (Nat.le_of_ble_eq_true rfl) (Nat.le_refl 0) (Nat.le_refl 0) (fun r_8 U_7 h H hU => ?_)
    refine pr_isub hC (by decide +kernel : decode cX12_between 41 = .ok (.isub, 1)) ?_
    exact pv_iret hM (by decide +kernel : decode cX12_between 42 = .ok (.ireturn, 1)) hU H
  replace H := H.2 c_12
  refine pr_aload_n hC (by decide +kernel : decode cX12_between 15 = .ok (.aload_n 0, 1)) rfl ?_
  refine pr_iload_n hC (by decide +kernel : decode cX12_between 16 = .ok (.iload_n 2, 1)) rfl ?_
  refine pr_iconst hC (4) (by decide +kernel : decode cX12_between 17 = .ok (.iconst 4, 1)) rfl ?_
  refine vc_Vi hC hR [.int a2, .int 4] fv_X12_353 (by decide +kernel : decode cX12_between 18 = .ok (.invokevirtual 353, 3)) hU (t_X12_of ho H) ho (by decide) rfl rfl rfl (Nat.le_of_ble_eq_true rfl) (Nat.le_of_ble_eq_true rfl) (Nat.le_refl 0) (Nat.le_refl 0) (fun r_10 U_9 h H hU => ?_)
  refine pr_aload_n hC (by decide +kernel : decode cX12_between 21 = .ok (.aload_n 0, 1)) rfl ?_
  refine pr_iload_n hC (by decide +kernel : decode cX12_between 22 = .ok (.iload_n 1, 1)) rfl ?_
  refine vc_Vi hC hR [.int a1] fv_X12_402 (by decide +kernel : decode cX12_between 23 = .ok (.invokevirtual 402, 3)) hU (t_X12_endOf ho H) ho (by decide) rfl rfl rfl (Nat.le_of_ble_eq_true rfl) (Nat.le_of_ble_eq_true rfl) (Nat.le_refl 0) (Nat.le_refl 0) (fun r_12 U_11 h H hU => ?_)
  refine pr_isub hC (by decide +kernel : decode cX12_between 26 = .ok (.isub, 1)) ?_
  refine pr_goto hC 42 (by decide +kernel : decode cX12_between 27 = .ok (.goto 15, 3)) (by decide) ?_
  exact pv_iret hM (by decide +kernel : decode cX12_between 42 = .ok (.ireturn, 1)) hU H
def w_X12_areAtOnce (o : Nat) (a1 : Int32) (a2 : Int32) (U : Um) (post : Int32 → Um → Prop) : Prop :=
  w_X12_of o a1 4 U (fun r_2 U_1 => w_X12_endOf o a2 U_1 (fun r_4 U_3 => (r_4 ≤ r_2 → post 0 U_3) ∧ (¬ r_4 ≤ r_2 → w_X12_of o a2 4 U_3 (fun r_6 U_5 => w_X12_endOf o a1 U_5 (fun r_8 U_7 => (r_8 ≤ r_6 → post 0 U_7) ∧ (¬ r_8 ≤ r_6 → post 1 U_7))))))
set_option maxHeartbeats 4000000 in
theorem t_X12_areAtOnce {l : Launch} {Y : px_Y} {o : Nat} {a1 : Int32} {a2 : Int32} {U : Um} {post : Int32 → Um → Prop} (ho : oc o = 10) (H : w_X12_areAtOnce o a1 a2 U post) : um l Y 2 yX12_areAtOnce cX12_areAtOnce 3 (some (.boolean)) [.ref (Y.2.1 o), .int a1, .int a2] U (pq_i post) := by
  unfold w_X12_areAtOnce at H
  refine um_of (by decide) (Nat.le_of_ble_eq_true rfl) [some (.ref (Y.2.1 o)), some (.int a1), some (.int a2)] rfl (fun X h0 hh sz hM hU => ?_)
  have hC := hM.1
  have hR := hM.2.2.1
  refine pr_aload_n hC (by decide +kernel : decode cX12_areAtOnce 0 = .ok (.aload_n 0, 1)) rfl ?_
  refine pr_iload_n hC (by decide +kernel : decode cX12_areAtOnce 1 = .ok (.iload_n 1, 1)) rfl ?_
  refine pr_iconst hC (4) (by decide +kernel : decode cX12_areAtOnce 2 = .ok (.iconst 4, 1)) rfl ?_
  refine vc_Vi hC hR [.int a1, .int 4] fv_X12_353 (by decide +kernel : decode cX12_areAtOnce 3 = .ok (.invokevirtual 353, 3)) hU (t_X12_of ho H) ho (by decide) rfl rfl rfl (Nat.le_of_ble_eq_true rfl) (Nat.le_of_ble_eq_true rfl) (Nat.le_refl 0) (Nat.le_refl 0) (fun r_2 U_1 h H hU => ?_)
  refine pr_aload_n hC (by decide +kernel : decode cX12_areAtOnce 6 = .ok (.aload_n 0, 1)) rfl ?_
  refine pr_iload_n hC (by decide +kernel : decode cX12_areAtOnce 7 = .ok (.iload_n 2, 1)) rfl ?_
  refine vc_Vi hC hR [.int a2] fv_X12_402 (by decide +kernel : decode cX12_areAtOnce 8 = .ok (.invokevirtual 402, 3)) hU (t_X12_endOf ho H) ho (by decide) rfl rfl rfl (Nat.le_of_ble_eq_true rfl) (Nat.le_of_ble_eq_true rfl) (Nat.le_refl 0) (Nat.le_refl 0) (fun r_4 U_3 h H hU => ?_)
  refine pr_icmp_ge hC 32 (by decide +kernel : decode cX12_areAtOnce 11 = .ok (.if_icmp .ge 21, 3)) (by decide) (fun c_11 => ?_) (fun c_11 => ?_)
  · replace H := H.1 c_11
    refine pr_iconst hC (0) (by decide +kernel : decode cX12_areAtOnce 32 = .ok (.iconst 0, 1)) rfl ?_
    exact pv_zret hM (by decide +kernel : decode cX12_areAtOnce 33 = .ok (.ireturn, 1)) (Or.inl rfl) hU H
  replace H := H.2 c_11
  refine pr_aload_n hC (by decide +kernel : decode cX12_areAtOnce 14 = .ok (.aload_n 0, 1)) rfl ?_
  refine pr_iload_n hC (by decide +kernel : decode cX12_areAtOnce 15 = .ok (.iload_n 2, 1)) rfl ?_
  refine pr_iconst hC (4) (by decide +kernel : decode cX12_areAtOnce 16 = .ok (.iconst 4, 1)) rfl ?_
  refine vc_Vi hC hR [.int a2, .int 4] fv_X12_353 (by decide +kernel : decode cX12_areAtOnce 17 = .ok (.invokevirtual 353, 3)) hU (t_X12_of ho H) ho (by decide) rfl rfl rfl (Nat.le_of_ble_eq_true rfl) (Nat.le_of_ble_eq_true rfl) (Nat.le_refl 0) (Nat.le_refl 0) (fun r_6 U_5 h H hU => ?_)
  refine pr_aload_n hC (by decide +kernel : decode cX12_areAtOnce 20 = .ok (.aload_n 0, 1)) rfl ?_
  refine pr_iload_n hC (by decide +kernel : decode cX12_areAtOnce 21 = .ok (.iload_n 1, 1)) rfl ?_
  refine vc_Vi hC hR [.int a1] fv_X12_402 (by decide +kernel : decode cX12_areAtOnce 22 = .ok (.invokevirtual 402, 3)) hU (t_X12_endOf ho H) ho (by decide) rfl rfl rfl (Nat.le_of_ble_eq_true rfl) (Nat.le_of_ble_eq_true rfl) (Nat.le_refl 0) (Nat.le_refl 0) (fun r_8 U_7 h H hU => ?_)
  refine pr_icmp_ge hC 32 (by decide +kernel : decode cX12_areAtOnce 25 = .ok (.if_icmp .ge 7, 3)) (by decide) (fun c_25 => ?_) (fun c_25 => ?_)
  · replace H := H.1 c_25
    refine pr_iconst hC (0) (by decide +kernel : decode cX12_areAtOnce 32 = .ok (.iconst 0, 1)) rfl ?_
    exact pv_zret hM (by decide +kernel : decode cX12_areAtOnce 33 = .ok (.ireturn, 1)) (Or.inl rfl) hU H
  replace H := H.2 c_25
  refine pr_iconst hC (1) (by decide +kernel : decode cX12_areAtOnce 28 = .ok (.iconst 1, 1)) rfl ?_
  refine pr_goto hC 33 (by decide +kernel : decode cX12_areAtOnce 29 = .ok (.goto 4, 3)) (by decide) ?_
  exact pv_zret hM (by decide +kernel : decode cX12_areAtOnce 33 = .ok (.ireturn, 1)) (Or.inr rfl) hU H
def w_X12_isOther (o : Nat) (a1 : Int32) (a2 : Int32) (a3 : Int32) (U : Um) (post : Int32 → Um → Prop) : Prop :=
  (a3 = a2 → post 0 U) ∧ (¬ a3 = a2 → w_X12_of o a3 3 U (fun r_2 U_1 => w_X12_of o a2 3 U_1 (fun r_4 U_3 => (r_2 = r_4 → w_X12_isInGame o a1 a3 U_3 (fun r_6 U_5 => (r_6 = 0 → post 0 U_5) ∧ (¬ r_6 = 0 → post 1 U_5))) ∧ (¬ r_2 = r_4 → post 0 U_3))))
set_option maxHeartbeats 4000000 in
theorem t_X12_isOther {l : Launch} {Y : px_Y} {o : Nat} {a1 : Int32} {a2 : Int32} {a3 : Int32} {U : Um} {post : Int32 → Um → Prop} (ho : oc o = 10) (H : w_X12_isOther o a1 a2 a3 U post) : um l Y 2 yX12_isOther cX12_isOther 4 (some (.boolean)) [.ref (Y.2.1 o), .int a1, .int a2, .int a3] U (pq_i post) := by
  unfold w_X12_isOther at H
  refine um_of (by decide) (Nat.le_of_ble_eq_true rfl) [some (.ref (Y.2.1 o)), some (.int a1), some (.int a2), some (.int a3)] rfl (fun X h0 hh sz hM hU => ?_)
  have hC := hM.1
  have hR := hM.2.2.1
  refine pr_iload_n hC (by decide +kernel : decode cX12_isOther 0 = .ok (.iload_n 3, 1)) rfl ?_
  refine pr_iload_n hC (by decide +kernel : decode cX12_isOther 1 = .ok (.iload_n 2, 1)) rfl ?_
  refine pr_icmp_eq hC 33 (by decide +kernel : decode cX12_isOther 2 = .ok (.if_icmp .eq 31, 3)) (by decide) (fun c_2 => ?_) (fun c_2 => ?_)
  · replace H := H.1 c_2
    refine pr_iconst hC (0) (by decide +kernel : decode cX12_isOther 33 = .ok (.iconst 0, 1)) rfl ?_
    exact pv_zret hM (by decide +kernel : decode cX12_isOther 34 = .ok (.ireturn, 1)) (Or.inl rfl) hU H
  replace H := H.2 c_2
  refine pr_aload_n hC (by decide +kernel : decode cX12_isOther 5 = .ok (.aload_n 0, 1)) rfl ?_
  refine pr_iload_n hC (by decide +kernel : decode cX12_isOther 6 = .ok (.iload_n 3, 1)) rfl ?_
  refine pr_iconst hC (3) (by decide +kernel : decode cX12_isOther 7 = .ok (.iconst 3, 1)) rfl ?_
  refine vc_Vi hC hR [.int a3, .int 3] fv_X12_353 (by decide +kernel : decode cX12_isOther 8 = .ok (.invokevirtual 353, 3)) hU (t_X12_of ho H) ho (by decide) rfl rfl rfl (Nat.le_of_ble_eq_true rfl) (Nat.le_of_ble_eq_true rfl) (Nat.le_refl 0) (Nat.le_refl 0) (fun r_2 U_1 h H hU => ?_)
  refine pr_aload_n hC (by decide +kernel : decode cX12_isOther 11 = .ok (.aload_n 0, 1)) rfl ?_
  refine pr_iload_n hC (by decide +kernel : decode cX12_isOther 12 = .ok (.iload_n 2, 1)) rfl ?_
  refine pr_iconst hC (3) (by decide +kernel : decode cX12_isOther 13 = .ok (.iconst 3, 1)) rfl ?_
  refine vc_Vi hC hR [.int a2, .int 3] fv_X12_353 (by decide +kernel : decode cX12_isOther 14 = .ok (.invokevirtual 353, 3)) hU (t_X12_of ho H) ho (by decide) rfl rfl rfl (Nat.le_of_ble_eq_true rfl) (Nat.le_of_ble_eq_true rfl) (Nat.le_refl 0) (Nat.le_refl 0) (fun r_4 U_3 h H hU => ?_)
  refine pr_icmp_ne hC 33 (by decide +kernel : decode cX12_isOther 17 = .ok (.if_icmp .ne 16, 3)) (by decide) (fun c_17 => ?_) (fun c_17 => ?_)
  · replace H := H.2 c_17
    refine pr_iconst hC (0) (by decide +kernel : decode cX12_isOther 33 = .ok (.iconst 0, 1)) rfl ?_
    exact pv_zret hM (by decide +kernel : decode cX12_isOther 34 = .ok (.ireturn, 1)) (Or.inl rfl) hU H
  replace H := H.1 c_17
  refine pr_aload_n hC (by decide +kernel : decode cX12_isOther 20 = .ok (.aload_n 0, 1)) rfl ?_
  refine pr_iload_n hC (by decide +kernel : decode cX12_isOther 21 = .ok (.iload_n 1, 1)) rfl ?_
  refine pr_iload_n hC (by decide +kernel : decode cX12_isOther 22 = .ok (.iload_n 3, 1)) rfl ?_
  refine vc_Vi hC hR [.int a1, .int a3] fv_X12_405 (by decide +kernel : decode cX12_isOther 23 = .ok (.invokevirtual 405, 3)) hU (t_X12_isInGame ho H) ho (by decide) rfl rfl rfl (Nat.le_of_ble_eq_true rfl) (Nat.le_of_ble_eq_true rfl) (Nat.le_refl 0) (Nat.le_refl 0) (fun r_6 U_5 h H hU => ?_)
  refine pr_if_eq hC 33 (by decide +kernel : decode cX12_isOther 26 = .ok (.ifCond .eq 7, 3)) (by decide) (fun c_26 => ?_) (fun c_26 => ?_)
  · replace H := H.1 c_26
    refine pr_iconst hC (0) (by decide +kernel : decode cX12_isOther 33 = .ok (.iconst 0, 1)) rfl ?_
    exact pv_zret hM (by decide +kernel : decode cX12_isOther 34 = .ok (.ireturn, 1)) (Or.inl rfl) hU H
  replace H := H.2 c_26
  refine pr_iconst hC (1) (by decide +kernel : decode cX12_isOther 29 = .ok (.iconst 1, 1)) rfl ?_
  refine pr_goto hC 34 (by decide +kernel : decode cX12_isOther 30 = .ok (.goto 4, 3)) (by decide) ?_
  exact pv_zret hM (by decide +kernel : decode cX12_isOther 34 = .ok (.ireturn, 1)) (Or.inr rfl) hU H
def b_X12_bits_L4  (post : Int32 → Um → Prop) (k_21 : Int32 → Um → Prop) (rec_ : Int32 → Int32 → Um → Prop) (x1 : Int32) (x2 : Int32) (U : Um) : Prop :=
  (x2 ≤ 0 → k_21 x1 U) ∧ (¬ x2 ≤ 0 → ∀ (x1_2 : Int32), x1_2 = x1 + (x2 - x2 / 2 * 2) → ∀ (x2_3 : Int32), x2_3 = x2 / 2 → rec_ x1_2 x2_3 U)
def w_X12_bits_L4  (post : Int32 → Um → Prop) (k_21 : Int32 → Um → Prop) (n_ : Nat) : Int32 → Int32 → Um → Prop := Nat.rec (motive := fun _ => Int32 → Int32 → Um → Prop) (fun _ _ _ => False) (fun _ ih => b_X12_bits_L4  post k_21 ih) n_
def w_X12_bits (a1 : Int32) (U : Um) (post : Int32 → Um → Prop) : Prop :=
  ∀ (x2_1 : Int32), x2_1 = a1 → (∃ n_6, w_X12_bits_L4  post (fun x1_4 U_5 => post x1_4 U_5) n_6 0 x2_1 U)
set_option maxHeartbeats 4000000 in
theorem tl_X12_bits_L4 {l : Launch} {Y : px_Y} {X : px_X} {h0 hh : pe_H} {sz : Nat}  (post : Int32 → Um → Prop) (k_21 : Int32 → Um → Prop)   (hC : px_C X Y.1 (pm_A hh sz) cX12_bits RX12 3) (hM : px_M l X Y.1 hh sz yX12_bits cX12_bits 3 (some (.int)) 0 0 0) (hR : X.2.2.2.1 = pm_rm 0 0 0) (hk_21 : ∀ (y1 : Int32) (U : Um) (h : pe_H), k_21 y1 U → rF Y h0 U h → pw X Y.1 (pm_A hh sz) (pm_E X Y.1 hh sz 0 0 (pm_P Y h0 sz (pq_i post))) 21 [none, some (.int y1), none] [] h sz 0 0) : ∀ (n_ : Nat) (x1 : Int32) (x2 : Int32) (U : Um) (h : pe_H), rF Y h0 U h → w_X12_bits_L4  post k_21 n_ x1 x2 U → pw X Y.1 (pm_A hh sz) (pm_E X Y.1 hh sz 0 0 (pm_P Y h0 sz (pq_i post))) 4 [none, some (.int x1), some (.int x2)] [] h sz 0 0 := by
  intro n_
  induction n_ with
  | zero => intro x1 x2 U h hU H; exact False.elim H
  | succ n_ ih =>
    intro x1 x2 U h hU H
    replace H : b_X12_bits_L4  post k_21 (w_X12_bits_L4  post k_21 n_) x1 x2 U := H
    unfold b_X12_bits_L4 at H
    refine pr_iload_n hC (by decide +kernel : decode cX12_bits 4 = .ok (.iload_n 2, 1)) rfl ?_
    refine pr_if_le hC 21 (by decide +kernel : decode cX12_bits 5 = .ok (.ifCond .le 16, 3)) (by decide) (fun c_5 => ?_) (fun c_5 => ?_)
    · replace H := H.1 c_5
      exact pv_sub [none, some (.int x1), none] (And.intro rfl trivial) (hk_21 _ U h H hU)
    replace H := H.2 c_5
    refine pr_iload_n hC (by decide +kernel : decode cX12_bits 8 = .ok (.iload_n 1, 1)) rfl ?_
    refine pr_iload_n hC (by decide +kernel : decode cX12_bits 9 = .ok (.iload_n 2, 1)) rfl ?_
    refine pr_iconst hC (2) (by decide +kernel : decode cX12_bits 10 = .ok (.iconst 2, 1)) rfl ?_
    refine pr_irem hC (by decide +kernel : decode cX12_bits 11 = .ok (.irem, 1)) (by decide) ?_
    refine pr_iadd hC (by decide +kernel : decode cX12_bits 12 = .ok (.iadd, 1)) ?_
    refine pv_topi (fun x1_2 e_x1_2 => ?_)
    replace H := H x1_2 e_x1_2
    refine pr_istore_n hC (by decide +kernel : decode cX12_bits 13 = .ok (.istore_n 1, 1)) (by decide) rfl ?_
    refine pr_iload_n hC (by decide +kernel : decode cX12_bits 14 = .ok (.iload_n 2, 1)) rfl ?_
    refine pr_iconst hC (2) (by decide +kernel : decode cX12_bits 15 = .ok (.iconst 2, 1)) rfl ?_
    refine pr_idiv hC (by decide +kernel : decode cX12_bits 16 = .ok (.idiv, 1)) (by decide) ?_
    refine pv_topi (fun x2_3 e_x2_3 => ?_)
    replace H := H x2_3 e_x2_3
    refine pr_istore_n hC (by decide +kernel : decode cX12_bits 17 = .ok (.istore_n 2, 1)) (by decide) rfl ?_
    refine pr_goto hC 4 (by decide +kernel : decode cX12_bits 18 = .ok (.goto (-14), 3)) (by decide) ?_
    exact pv_sub [none, some (.int x1_2), some (.int x2_3)] (And.intro rfl (And.intro rfl trivial)) (ih _ _ U h hU H)
set_option maxHeartbeats 4000000 in
theorem t_X12_bits {l : Launch} {Y : px_Y} {a1 : Int32} {U : Um} {post : Int32 → Um → Prop}  (H : w_X12_bits a1 U post) : um l Y 0 yX12_bits cX12_bits 3 (some (.int)) [.int a1] U (pq_i post) := by
  unfold w_X12_bits at H
  refine um_of (by decide) (Nat.le_of_ble_eq_true rfl) [some (.int a1), none, none] rfl (fun X h0 hh sz hM hU => ?_)
  have hC := hM.1
  have hR := hM.2.2.1
  refine pr_iconst hC (0) (by decide +kernel : decode cX12_bits 0 = .ok (.iconst 0, 1)) rfl ?_
  refine pr_istore_n hC (by decide +kernel : decode cX12_bits 1 = .ok (.istore_n 1, 1)) (by decide) rfl ?_
  refine pr_iload_n hC (by decide +kernel : decode cX12_bits 2 = .ok (.iload_n 0, 1)) rfl ?_
  refine pv_topi (fun x2_1 e_x2_1 => ?_)
  replace H := H x2_1 e_x2_1
  refine pr_istore_n hC (by decide +kernel : decode cX12_bits 3 = .ok (.istore_n 2, 1)) (by decide) rfl ?_
  obtain ⟨n_6, H⟩ := H
  refine pv_sub [none, some (.int 0), some (.int x2_1)] (And.intro rfl (And.intro rfl trivial)) ?_
  refine tl_X12_bits_L4 _ _ hC hM hR (fun x1_4 U_5 h H hU => ?_) n_6 _ _ U hh hU H
  refine pr_iload_n hC (by decide +kernel : decode cX12_bits 21 = .ok (.iload_n 1, 1)) rfl ?_
  exact pv_iret hM (by decide +kernel : decode cX12_bits 22 = .ok (.ireturn, 1)) hU H
def b_X12_whyNot_L153 (o0 : Nat) (x1 : Int32) (x3 : Int32) (post : Int32 → Um → Prop) (k_279 : Int32 → Int32 → Int32 → Int32 → Um → Prop) (rec_ : Int32 → Int32 → Int32 → Int32 → Int32 → Um → Prop) (x4 : Int32) (x5 : Int32) (x6 : Int32) (x7 : Int32) (x8 : Int32) (U : Um) : Prop :=
  vp_in 3 14 ∧ ((uA U o0 11 (Int32.toNatClampNeg 3)) ≤ x8 → k_279 x4 x5 x6 x7 U) ∧ (¬ (uA U o0 11 (Int32.toNatClampNeg 3)) ≤ x8 → w_X12_isOther o0 x3 x1 x8 U (fun r_22 U_21 => (r_22 = 0 → ∀ (x8_23 : Int32), x8_23 = x8 + 1 → rec_ x4 x5 x6 x7 x8_23 U_21) ∧ (¬ r_22 = 0 → ∀ (x4_24 : Int32), x4_24 = x4 + 1 → w_X12_of o0 x8 2 U_21 (fun r_26 U_25 => ∀ (x5_27 : Int32), x5_27 = x5 ||| ((1 : Int32) <<< (r_26 &&& 31)) → (∀ K_28 : Int32 → Um → Prop, (∀ (xs_29 : Int32) (U_30 : Um), (w_X12_of o0 x1 2 U_30 (fun r_32 U_31 => w_X12_of o0 x8 2 U_31 (fun r_34 U_33 => w_X12_wayOf o0 r_32 r_34 U_33 (fun r_36 U_35 => (x7 = 0 → (r_36 = (-1) → ∀ (x8_37 : Int32), x8_37 = x8 + 1 → rec_ x4_24 x5_27 xs_29 1 x8_37 U_35) ∧ (¬ r_36 = (-1) → w_X12_between o0 x1 x8 U_35 (fun r_39 U_38 => vp_in 4 14 ∧ ((r_36 + (uA U_38 o0 11 (Int32.toNatClampNeg 4))) ≤ r_39 → ∀ (x8_40 : Int32), x8_40 = x8 + 1 → rec_ x4_24 x5_27 xs_29 0 x8_40 U_38) ∧ (¬ (r_36 + (uA U_38 o0 11 (Int32.toNatClampNeg 4))) ≤ r_39 → ∀ (x8_41 : Int32), x8_41 = x8 + 1 → rec_ x4_24 x5_27 xs_29 1 x8_41 U_38)))) ∧ (¬ x7 = 0 → ∀ (x8_42 : Int32), x8_42 = x8 + 1 → rec_ x4_24 x5_27 xs_29 1 x8_42 U_35))))) → K_28 xs_29 U_30) → (x6 = 0 → w_X12_areAtOnce o0 x1 x8 U_25 (fun r_44 U_43 => (r_44 = 0 → K_28 0 U_43) ∧ (¬ r_44 = 0 → K_28 1 U_43))) ∧ (¬ x6 = 0 → K_28 1 U_25))))))
def w_X12_whyNot_L153 (o0 : Nat) (x1 : Int32) (x3 : Int32) (post : Int32 → Um → Prop) (k_279 : Int32 → Int32 → Int32 → Int32 → Um → Prop) (n_ : Nat) : Int32 → Int32 → Int32 → Int32 → Int32 → Um → Prop := Nat.rec (motive := fun _ => Int32 → Int32 → Int32 → Int32 → Int32 → Um → Prop) (fun _ _ _ _ _ _ => False) (fun _ ih => b_X12_whyNot_L153 o0 x1 x3 post k_279 ih) n_
def w_X12_whyNot (o : Nat) (a1 : Int32) (a2 : Int32) (a3 : Int32) (U : Um) (post : Int32 → Um → Prop) : Prop :=
  w_X12_at a1 a2 U (fun r_2 U_1 => vp_in r_2 48 ∧ ((uA U_1 o 30 (Int32.toNatClampNeg r_2)) = (-1) → w_X12_isInGame o a3 a1 U_1 (fun r_4 U_3 => (r_4 = 0 → vp_in a3 10 ∧ w_X12_needOf o a1 a2 U_3 (fun r_6 U_5 => (r_6 ≤ (uA U_3 o 32 (Int32.toNatClampNeg a3)) → vp_in a3 20 ∧ w_X12_of o a1 0 U_5 (fun r_8 U_7 => ((((uA U_5 o 7 (Int32.toNatClampNeg a3)) >>> (r_8 &&& 31)) &&& 1) = 1 → post 6 U_7) ∧ (¬ (((uA U_5 o 7 (Int32.toNatClampNeg a3)) >>> (r_8 &&& 31)) &&& 1) = 1 → vp_in a3 20 ∧ w_X12_of o a1 1 U_7 (fun r_10 U_9 => ((((uA U_7 o 7 (Int32.toNatClampNeg a3)) >>> (r_10 &&& 31)) &&& 1) = 1 → post 6 U_9) ∧ (¬ (((uA U_7 o 7 (Int32.toNatClampNeg a3)) >>> (r_10 &&& 31)) &&& 1) = 1 → vp_in a3 20 ∧ w_X12_of o a1 3 U_9 (fun r_12 U_11 => ((((uA U_9 o 8 (Int32.toNatClampNeg a3)) >>> (r_12 &&& 31)) &&& 1) = 1 → post 7 U_11) ∧ (¬ (((uA U_9 o 8 (Int32.toNatClampNeg a3)) >>> (r_12 &&& 31)) &&& 1) = 1 → w_X12_of o a1 2 U_11 (fun r_14 U_13 => ∀ (x5_15 : Int32), x5_15 = (1 : Int32) <<< (r_14 &&& 31) → vp_in a3 20 ∧ w_X12_of o a1 2 U_13 (fun r_17 U_16 => w_X12_wayOf o (uA U_13 o 6 (Int32.toNatClampNeg a3)) r_17 U_16 (fun r_19 U_18 => ∀ (xs_20 : Int32), xs_20 = (if r_19 = (-1) then 1 else 0) → (∃ n_52, w_X12_whyNot_L153 o a1 a3 post (fun x4_45 x5_46 x6_47 x7_48 U_49 => vp_in 5 14 ∧ (x4_45 < (uA U_49 o 11 (Int32.toNatClampNeg 5)) → (x6_47 = 0 → (x7_48 = 0 → w_X12_bits x5_46 U_49 (fun r_51 U_50 => (r_51 ≤ 2 → post 0 U_50) ∧ (¬ r_51 ≤ 2 → post 11 U_50))) ∧ (¬ x7_48 = 0 → post 10 U_49)) ∧ (¬ x6_47 = 0 → post 9 U_49)) ∧ (¬ x4_45 < (uA U_49 o 11 (Int32.toNatClampNeg 5)) → post 8 U_49)) n_52 0 x5_15 0 xs_20 0 U_18))))))))))) ∧ (¬ r_6 ≤ (uA U_3 o 32 (Int32.toNatClampNeg a3)) → post 5 U_5))) ∧ (¬ r_4 = 0 → post 4 U_3))) ∧ (¬ (uA U_1 o 30 (Int32.toNatClampNeg r_2)) = (-1) → post 3 U_1))
set_option maxHeartbeats 4000000 in
theorem tl_X12_whyNot_L153 {l : Launch} {Y : px_Y} {X : px_X} {h0 hh : pe_H} {sz : Nat} (o0 : Nat) (x1 : Int32) (x3 : Int32) (post : Int32 → Um → Prop) (k_279 : Int32 → Int32 → Int32 → Int32 → Um → Prop) (ho0 : oc o0 = 10)  (hC : px_C X Y.1 (pm_A hh sz) cX12_whyNot RX12 10) (hM : px_M l X Y.1 hh sz yX12_whyNot cX12_whyNot 10 (some (.int)) 3 0 0) (hR : X.2.2.2.1 = pm_rm 3 0 0) (hk_279 : ∀ (y4 : Int32) (y5 : Int32) (y6 : Int32) (y7 : Int32) (U : Um) (h : pe_H), k_279 y4 y5 y6 y7 U → rF Y h0 U h → pw X Y.1 (pm_A hh sz) (pm_E X Y.1 hh sz 0 0 (pm_P Y h0 sz (pq_i post))) 279 [some (.ref (Y.2.1 o0)), none, none, none, some (.int y4), some (.int y5), some (.int y6), some (.int y7), none, none] [] h sz 0 0) : ∀ (n_ : Nat) (x4 : Int32) (x5 : Int32) (x6 : Int32) (x7 : Int32) (x8 : Int32) (U : Um) (h : pe_H), rF Y h0 U h → w_X12_whyNot_L153 o0 x1 x3 post k_279 n_ x4 x5 x6 x7 x8 U → pw X Y.1 (pm_A hh sz) (pm_E X Y.1 hh sz 0 0 (pm_P Y h0 sz (pq_i post))) 153 [some (.ref (Y.2.1 o0)), some (.int x1), none, some (.int x3), some (.int x4), some (.int x5), some (.int x6), some (.int x7), some (.int x8), none] [] h sz 0 0 := by
  intro n_
  induction n_ with
  | zero => intro x4 x5 x6 x7 x8 U h hU H; exact False.elim H
  | succ n_ ih =>
    intro x4 x5 x6 x7 x8 U h hU H
    replace H : b_X12_whyNot_L153 o0 x1 x3 post k_279 (w_X12_whyNot_L153 o0 x1 x3 post k_279 n_) x4 x5 x6 x7 x8 U := H
    unfold b_X12_whyNot_L153 at H
    refine pr_iload hC (by decide +kernel : decode cX12_whyNot 153 = .ok (.iload 8, 2)) rfl ?_
    refine pr_aload_n hC (by decide +kernel : decode cX12_whyNot 155 = .ok (.aload_n 0, 1)) rfl ?_
    refine pu_g1 hC fg_X12_43 (by decide +kernel : decode cX12_whyNot 156 = .ok (.getfield 43, 3)) hU ho0 (by decide) rfl (by decide) ?_
    refine pr_iconst hC (3) (by decide +kernel : decode cX12_whyNot 159 = .ok (.iconst 3, 1)) rfl ?_
    refine pu_iald hC (by decide +kernel : decode cX12_whyNot 160 = .ok (.iaload, 1)) hU ho0 rfl H.1 ?_
    replace H := H.2
    refine pr_icmp_ge hC 279 (by decide +kernel : decode cX12_whyNot 161 = .ok (.if_icmp .ge 118, 3)) (by decide) (fun c_161 => ?_) (fun c_161 => ?_)
    · replace H := H.1 c_161
      exact pv_sub [some (.ref (Y.2.1 o0)), none, none, none, some (.int x4), some (.int x5), some (.int x6), some (.int x7), none, none] (And.intro rfl (And.intro rfl (And.intro rfl (And.intro rfl (And.intro rfl trivial))))) (hk_279 _ _ _ _ U h H hU)
    replace H := H.2 c_161
    refine pr_aload_n hC (by decide +kernel : decode cX12_whyNot 164 = .ok (.aload_n 0, 1)) rfl ?_
    refine pr_iload_n hC (by decide +kernel : decode cX12_whyNot 165 = .ok (.iload_n 3, 1)) rfl ?_
    refine pr_iload_n hC (by decide +kernel : decode cX12_whyNot 166 = .ok (.iload_n 1, 1)) rfl ?_
    refine pr_iload hC (by decide +kernel : decode cX12_whyNot 167 = .ok (.iload 8, 2)) rfl ?_
    refine vc_Vi hC hR [.int x3, .int x1, .int x8] fv_X12_411 (by decide +kernel : decode cX12_whyNot 169 = .ok (.invokevirtual 411, 3)) hU (t_X12_isOther ho0 H) ho0 (by decide) rfl rfl rfl (Nat.le_of_ble_eq_true rfl) (Nat.le_of_ble_eq_true rfl) (Nat.le_refl 0) (Nat.le_refl 0) (fun r_22 U_21 h H hU => ?_)
    refine pr_if_ne hC 178 (by decide +kernel : decode cX12_whyNot 172 = .ok (.ifCond .ne 6, 3)) (by decide) (fun c_172 => ?_) (fun c_172 => ?_)
    · replace H := H.2 c_172
      refine pv_iinc hC (v := x4 + 1) (by decide +kernel : decode cX12_whyNot 178 = .ok (.iinc 4 1, 3)) rfl (by decide) rfl rfl (fun x4_24 e_x4_24 => ?_)
      replace H := H x4_24 e_x4_24
      refine pr_iload hC (by decide +kernel : decode cX12_whyNot 181 = .ok (.iload 5, 2)) rfl ?_
      refine pr_iconst hC (1) (by decide +kernel : decode cX12_whyNot 183 = .ok (.iconst 1, 1)) rfl ?_
      refine pr_aload_n hC (by decide +kernel : decode cX12_whyNot 184 = .ok (.aload_n 0, 1)) rfl ?_
      refine pr_iload hC (by decide +kernel : decode cX12_whyNot 185 = .ok (.iload 8, 2)) rfl ?_
      refine pr_iconst hC (2) (by decide +kernel : decode cX12_whyNot 187 = .ok (.iconst 2, 1)) rfl ?_
      refine vc_Vi hC hR [.int x8, .int 2] fv_X12_353 (by decide +kernel : decode cX12_whyNot 188 = .ok (.invokevirtual 353, 3)) hU (t_X12_of ho0 H) ho0 (by decide) rfl rfl rfl (Nat.le_of_ble_eq_true rfl) (Nat.le_of_ble_eq_true rfl) (Nat.le_refl 0) (Nat.le_refl 0) (fun r_26 U_25 h H hU => ?_)
      refine pr_ishl hC (by decide +kernel : decode cX12_whyNot 191 = .ok (.ishl, 1)) ?_
      refine pr_ior hC (by decide +kernel : decode cX12_whyNot 192 = .ok (.ior, 1)) ?_
      refine pv_topi (fun x5_27 e_x5_27 => ?_)
      replace H := H x5_27 e_x5_27
      refine pr_istore hC (by decide +kernel : decode cX12_whyNot 193 = .ok (.istore 5, 2)) (by decide) rfl ?_
      refine pr_iload hC (by decide +kernel : decode cX12_whyNot 195 = .ok (.iload 6, 2)) rfl ?_
      replace H := H (fun xs_29 U_30 => ∀ h : pe_H, rF Y h0 U_30 h → pw X Y.1 (pm_A hh sz) (pm_E X Y.1 hh sz 0 0 (pm_P Y h0 sz (pq_i post))) 215 [some (.ref (Y.2.1 o0)), some (.int x1), none, some (.int x3), some (.int x4_24), some (.int x5_27), none, some (.int x7), some (.int x8), none] [.int xs_29] h sz 0 0) (by
        intro xs_29 U_30 H h hU
        refine pr_istore hC (by decide +kernel : decode cX12_whyNot 215 = .ok (.istore 6, 2)) (by decide) rfl ?_
        refine pr_aload_n hC (by decide +kernel : decode cX12_whyNot 217 = .ok (.aload_n 0, 1)) rfl ?_
        refine pr_aload_n hC (by decide +kernel : decode cX12_whyNot 218 = .ok (.aload_n 0, 1)) rfl ?_
        refine pr_iload_n hC (by decide +kernel : decode cX12_whyNot 219 = .ok (.iload_n 1, 1)) rfl ?_
        refine pr_iconst hC (2) (by decide +kernel : decode cX12_whyNot 220 = .ok (.iconst 2, 1)) rfl ?_
        refine vc_Vi hC hR [.int x1, .int 2] fv_X12_353 (by decide +kernel : decode cX12_whyNot 221 = .ok (.invokevirtual 353, 3)) hU (t_X12_of ho0 H) ho0 (by decide) rfl rfl rfl (Nat.le_of_ble_eq_true rfl) (Nat.le_of_ble_eq_true rfl) (Nat.le_refl 0) (Nat.le_refl 0) (fun r_32 U_31 h H hU => ?_)
        refine pr_aload_n hC (by decide +kernel : decode cX12_whyNot 224 = .ok (.aload_n 0, 1)) rfl ?_
        refine pr_iload hC (by decide +kernel : decode cX12_whyNot 225 = .ok (.iload 8, 2)) rfl ?_
        refine pr_iconst hC (2) (by decide +kernel : decode cX12_whyNot 227 = .ok (.iconst 2, 1)) rfl ?_
        refine vc_Vi hC hR [.int x8, .int 2] fv_X12_353 (by decide +kernel : decode cX12_whyNot 228 = .ok (.invokevirtual 353, 3)) hU (t_X12_of ho0 H) ho0 (by decide) rfl rfl rfl (Nat.le_of_ble_eq_true rfl) (Nat.le_of_ble_eq_true rfl) (Nat.le_refl 0) (Nat.le_refl 0) (fun r_34 U_33 h H hU => ?_)
        refine vc_Vi hC hR [.int r_32, .int r_34] fv_X12_394 (by decide +kernel : decode cX12_whyNot 231 = .ok (.invokevirtual 394, 3)) hU (t_X12_wayOf ho0 H) ho0 (by decide) rfl rfl rfl (Nat.le_of_ble_eq_true rfl) (Nat.le_of_ble_eq_true rfl) (Nat.le_refl 0) (Nat.le_refl 0) (fun r_36 U_35 h H hU => ?_)
        refine pr_istore hC (by decide +kernel : decode cX12_whyNot 234 = .ok (.istore 9, 2)) (by decide) rfl ?_
        refine pr_iload hC (by decide +kernel : decode cX12_whyNot 236 = .ok (.iload 7, 2)) rfl ?_
        refine pr_if_ne hC 266 (by decide +kernel : decode cX12_whyNot 238 = .ok (.ifCond .ne 28, 3)) (by decide) (fun c_238 => ?_) (fun c_238 => ?_)
        · replace H := H.2 c_238
          refine pr_iconst hC (1) (by decide +kernel : decode cX12_whyNot 266 = .ok (.iconst 1, 1)) rfl ?_
          refine pr_goto hC 271 (by decide +kernel : decode cX12_whyNot 267 = .ok (.goto 4, 3)) (by decide) ?_
          refine pr_istore hC (by decide +kernel : decode cX12_whyNot 271 = .ok (.istore 7, 2)) (by decide) rfl ?_
          refine pv_iinc hC (v := x8 + 1) (by decide +kernel : decode cX12_whyNot 273 = .ok (.iinc 8 1, 3)) rfl (by decide) rfl rfl (fun x8_42 e_x8_42 => ?_)
          replace H := H x8_42 e_x8_42
          refine pr_goto hC 153 (by decide +kernel : decode cX12_whyNot 276 = .ok (.goto (-123), 3)) (by decide) ?_
          exact pv_sub [some (.ref (Y.2.1 o0)), some (.int x1), none, some (.int x3), some (.int x4_24), some (.int x5_27), some (.int xs_29), some (.int 1), some (.int x8_42), none] (And.intro rfl (And.intro rfl (And.intro rfl (And.intro rfl (And.intro rfl (And.intro rfl (And.intro rfl (And.intro rfl trivial)))))))) (ih _ _ _ _ _ U_35 h hU H)
        replace H := H.1 c_238
        refine pr_iload hC (by decide +kernel : decode cX12_whyNot 241 = .ok (.iload 9, 2)) rfl ?_
        refine pr_iconst hC (-1) (by decide +kernel : decode cX12_whyNot 243 = .ok (.iconst (-1), 1)) rfl ?_
        refine pr_icmp_eq hC 266 (by decide +kernel : decode cX12_whyNot 244 = .ok (.if_icmp .eq 22, 3)) (by decide) (fun c_244 => ?_) (fun c_244 => ?_)
        · replace H := H.1 c_244
          refine pr_iconst hC (1) (by decide +kernel : decode cX12_whyNot 266 = .ok (.iconst 1, 1)) rfl ?_
          refine pr_goto hC 271 (by decide +kernel : decode cX12_whyNot 267 = .ok (.goto 4, 3)) (by decide) ?_
          refine pr_istore hC (by decide +kernel : decode cX12_whyNot 271 = .ok (.istore 7, 2)) (by decide) rfl ?_
          refine pv_iinc hC (v := x8 + 1) (by decide +kernel : decode cX12_whyNot 273 = .ok (.iinc 8 1, 3)) rfl (by decide) rfl rfl (fun x8_37 e_x8_37 => ?_)
          replace H := H x8_37 e_x8_37
          refine pr_goto hC 153 (by decide +kernel : decode cX12_whyNot 276 = .ok (.goto (-123), 3)) (by decide) ?_
          exact pv_sub [some (.ref (Y.2.1 o0)), some (.int x1), none, some (.int x3), some (.int x4_24), some (.int x5_27), some (.int xs_29), some (.int 1), some (.int x8_37), none] (And.intro rfl (And.intro rfl (And.intro rfl (And.intro rfl (And.intro rfl (And.intro rfl (And.intro rfl (And.intro rfl trivial)))))))) (ih _ _ _ _ _ U_35 h hU H)
        replace H := H.2 c_244
        refine pr_aload_n hC (by decide +kernel : decode cX12_whyNot 247 = .ok (.aload_n 0, 1)) rfl ?_
        refine pr_iload_n hC (by decide +kernel : decode cX12_whyNot 248 = .ok (.iload_n 1, 1)) rfl ?_
        refine pr_iload hC (by decide +kernel : decode cX12_whyNot 249 = .ok (.iload 8, 2)) rfl ?_
        refine vc_Vi hC hR [.int x1, .int x8] fv_X12_417 (by decide +kernel : decode cX12_whyNot 251 = .ok (.invokevirtual 417, 3)) hU (t_X12_between ho0 H) ho0 (by decide) rfl rfl rfl (Nat.le_of_ble_eq_true rfl) (Nat.le_of_ble_eq_true rfl) (Nat.le_refl 0) (Nat.le_refl 0) (fun r_39 U_38 h H hU => ?_)
        refine pr_iload hC (by decide +kernel : decode cX12_whyNot 254 = .ok (.iload 9, 2)) rfl ?_
        refine pr_aload_n hC (by decide +kernel : decode cX12_whyNot 256 = .ok (.aload_n 0, 1)) rfl ?_
        refine pu_g1 hC fg_X12_43 (by decide +kernel : decode cX12_whyNot 257 = .ok (.getfield 43, 3)) hU ho0 (by decide) rfl (by decide) ?_
        refine pr_iconst hC (4) (by decide +kernel : decode cX12_whyNot 260 = .ok (.iconst 4, 1)) rfl ?_
        refine pu_iald hC (by decide +kernel : decode cX12_whyNot 261 = .ok (.iaload, 1)) hU ho0 rfl H.1 ?_
        replace H := H.2
        refine pr_iadd hC (by decide +kernel : decode cX12_whyNot 262 = .ok (.iadd, 1)) ?_
        refine pr_icmp_ge hC 270 (by decide +kernel : decode cX12_whyNot 263 = .ok (.if_icmp .ge 7, 3)) (by decide) (fun c_263 => ?_) (fun c_263 => ?_)
        · replace H := H.1 c_263
          refine pr_iconst hC (0) (by decide +kernel : decode cX12_whyNot 270 = .ok (.iconst 0, 1)) rfl ?_
          refine pr_istore hC (by decide +kernel : decode cX12_whyNot 271 = .ok (.istore 7, 2)) (by decide) rfl ?_
          refine pv_iinc hC (v := x8 + 1) (by decide +kernel : decode cX12_whyNot 273 = .ok (.iinc 8 1, 3)) rfl (by decide) rfl rfl (fun x8_40 e_x8_40 => ?_)
          replace H := H x8_40 e_x8_40
          refine pr_goto hC 153 (by decide +kernel : decode cX12_whyNot 276 = .ok (.goto (-123), 3)) (by decide) ?_
          exact pv_sub [some (.ref (Y.2.1 o0)), some (.int x1), none, some (.int x3), some (.int x4_24), some (.int x5_27), some (.int xs_29), some (.int 0), some (.int x8_40), none] (And.intro rfl (And.intro rfl (And.intro rfl (And.intro rfl (And.intro rfl (And.intro rfl (And.intro rfl (And.intro rfl trivial)))))))) (ih _ _ _ _ _ U_38 h hU H)
        replace H := H.2 c_263
        refine pr_iconst hC (1) (by decide +kernel : decode cX12_whyNot 266 = .ok (.iconst 1, 1)) rfl ?_
        refine pr_goto hC 271 (by decide +kernel : decode cX12_whyNot 267 = .ok (.goto 4, 3)) (by decide) ?_
        refine pr_istore hC (by decide +kernel : decode cX12_whyNot 271 = .ok (.istore 7, 2)) (by decide) rfl ?_
        refine pv_iinc hC (v := x8 + 1) (by decide +kernel : decode cX12_whyNot 273 = .ok (.iinc 8 1, 3)) rfl (by decide) rfl rfl (fun x8_41 e_x8_41 => ?_)
        replace H := H x8_41 e_x8_41
        refine pr_goto hC 153 (by decide +kernel : decode cX12_whyNot 276 = .ok (.goto (-123), 3)) (by decide) ?_
        exact pv_sub [some (.ref (Y.2.1 o0)), some (.int x1), none, some (.int x3), some (.int x4_24), some (.int x5_27), some (.int xs_29), some (.int 1), some (.int x8_41), none] (And.intro rfl (And.intro rfl (And.intro rfl (And.intro rfl (And.intro rfl (And.intro rfl (And.intro rfl (And.intro rfl trivial)))))))) (ih _ _ _ _ _ U_38 h hU H))
      refine pr_if_ne hC 210 (by decide +kernel : decode cX12_whyNot 197 = .ok (.ifCond .ne 13, 3)) (by decide) (fun c_197 => ?_) (fun c_197 => ?_)
      · replace H := H.2 c_197
        refine pr_iconst hC (1) (by decide +kernel : decode cX12_whyNot 210 = .ok (.iconst 1, 1)) rfl ?_
        refine pr_goto hC 215 (by decide +kernel : decode cX12_whyNot 211 = .ok (.goto 4, 3)) (by decide) ?_
        exact pv_sub [some (.ref (Y.2.1 o0)), some (.int x1), none, some (.int x3), some (.int x4_24), some (.int x5_27), none, some (.int x7), some (.int x8), none] (And.intro rfl (And.intro rfl (And.intro rfl (And.intro rfl (And.intro rfl (And.intro rfl (And.intro rfl trivial))))))) (H h hU)
      replace H := H.1 c_197
      refine pr_aload_n hC (by decide +kernel : decode cX12_whyNot 200 = .ok (.aload_n 0, 1)) rfl ?_
      refine pr_iload_n hC (by decide +kernel : decode cX12_whyNot 201 = .ok (.iload_n 1, 1)) rfl ?_
      refine pr_iload hC (by decide +kernel : decode cX12_whyNot 202 = .ok (.iload 8, 2)) rfl ?_
      refine vc_Vi hC hR [.int x1, .int x8] fv_X12_414 (by decide +kernel : decode cX12_whyNot 204 = .ok (.invokevirtual 414, 3)) hU (t_X12_areAtOnce ho0 H) ho0 (by decide) rfl rfl rfl (Nat.le_of_ble_eq_true rfl) (Nat.le_of_ble_eq_true rfl) (Nat.le_refl 0) (Nat.le_refl 0) (fun r_44 U_43 h H hU => ?_)
      refine pr_if_eq hC 214 (by decide +kernel : decode cX12_whyNot 207 = .ok (.ifCond .eq 7, 3)) (by decide) (fun c_207 => ?_) (fun c_207 => ?_)
      · replace H := H.1 c_207
        refine pr_iconst hC (0) (by decide +kernel : decode cX12_whyNot 214 = .ok (.iconst 0, 1)) rfl ?_
        exact pv_sub [some (.ref (Y.2.1 o0)), some (.int x1), none, some (.int x3), some (.int x4_24), some (.int x5_27), none, some (.int x7), some (.int x8), none] (And.intro rfl (And.intro rfl (And.intro rfl (And.intro rfl (And.intro rfl (And.intro rfl (And.intro rfl trivial))))))) (H h hU)
      replace H := H.2 c_207
      refine pr_iconst hC (1) (by decide +kernel : decode cX12_whyNot 210 = .ok (.iconst 1, 1)) rfl ?_
      refine pr_goto hC 215 (by decide +kernel : decode cX12_whyNot 211 = .ok (.goto 4, 3)) (by decide) ?_
      exact pv_sub [some (.ref (Y.2.1 o0)), some (.int x1), none, some (.int x3), some (.int x4_24), some (.int x5_27), none, some (.int x7), some (.int x8), none] (And.intro rfl (And.intro rfl (And.intro rfl (And.intro rfl (And.intro rfl (And.intro rfl (And.intro rfl trivial))))))) (H h hU)
    replace H := H.1 c_172
    refine pr_goto hC 273 (by decide +kernel : decode cX12_whyNot 175 = .ok (.goto 98, 3)) (by decide) ?_
    refine pv_iinc hC (v := x8 + 1) (by decide +kernel : decode cX12_whyNot 273 = .ok (.iinc 8 1, 3)) rfl (by decide) rfl rfl (fun x8_23 e_x8_23 => ?_)
    replace H := H x8_23 e_x8_23
    refine pr_goto hC 153 (by decide +kernel : decode cX12_whyNot 276 = .ok (.goto (-123), 3)) (by decide) ?_
    exact pv_sub [some (.ref (Y.2.1 o0)), some (.int x1), none, some (.int x3), some (.int x4), some (.int x5), some (.int x6), some (.int x7), some (.int x8_23), none] (And.intro rfl (And.intro rfl (And.intro rfl (And.intro rfl (And.intro rfl (And.intro rfl (And.intro rfl (And.intro rfl trivial)))))))) (ih _ _ _ _ _ U_21 h hU H)
set_option maxHeartbeats 4000000 in
theorem t_X12_whyNot {l : Launch} {Y : px_Y} {o : Nat} {a1 : Int32} {a2 : Int32} {a3 : Int32} {U : Um} {post : Int32 → Um → Prop} (ho : oc o = 10) (H : w_X12_whyNot o a1 a2 a3 U post) : um l Y 3 yX12_whyNot cX12_whyNot 10 (some (.int)) [.ref (Y.2.1 o), .int a1, .int a2, .int a3] U (pq_i post) := by
  unfold w_X12_whyNot at H
  refine um_of (by decide) (Nat.le_of_ble_eq_true rfl) [some (.ref (Y.2.1 o)), some (.int a1), some (.int a2), some (.int a3), none, none, none, none, none, none] rfl (fun X h0 hh sz hM hU => ?_)
  have hC := hM.1
  have hR := hM.2.2.1
  refine pr_aload_n hC (by decide +kernel : decode cX12_whyNot 0 = .ok (.aload_n 0, 1)) rfl ?_
  refine pu_g1 hC fg_X12_59 (by decide +kernel : decode cX12_whyNot 1 = .ok (.getfield 59, 3)) hU ho (by decide) rfl (by decide) ?_
  refine pr_iload_n hC (by decide +kernel : decode cX12_whyNot 4 = .ok (.iload_n 1, 1)) rfl ?_
  refine pr_iload_n hC (by decide +kernel : decode cX12_whyNot 5 = .ok (.iload_n 2, 1)) rfl ?_
  refine vc_Si hC hR [.int a1, .int a2] fv_X12_360 (by decide +kernel : decode cX12_whyNot 6 = .ok (.invokestatic 360, 3)) hU (t_X12_at  H) rfl rfl (Nat.le_of_ble_eq_true rfl) (Nat.le_of_ble_eq_true rfl) (Nat.le_refl 0) (Nat.le_refl 0) (fun r_2 U_1 h H hU => ?_)
  refine pu_iald hC (by decide +kernel : decode cX12_whyNot 9 = .ok (.iaload, 1)) hU ho rfl H.1 ?_
  replace H := H.2
  refine pr_iconst hC (-1) (by decide +kernel : decode cX12_whyNot 10 = .ok (.iconst (-1), 1)) rfl ?_
  refine pr_icmp_eq hC 16 (by decide +kernel : decode cX12_whyNot 11 = .ok (.if_icmp .eq 5, 3)) (by decide) (fun c_11 => ?_) (fun c_11 => ?_)
  · replace H := H.1 c_11
    refine pr_aload_n hC (by decide +kernel : decode cX12_whyNot 16 = .ok (.aload_n 0, 1)) rfl ?_
    refine pr_iload_n hC (by decide +kernel : decode cX12_whyNot 17 = .ok (.iload_n 3, 1)) rfl ?_
    refine pr_iload_n hC (by decide +kernel : decode cX12_whyNot 18 = .ok (.iload_n 1, 1)) rfl ?_
    refine vc_Vi hC hR [.int a3, .int a1] fv_X12_405 (by decide +kernel : decode cX12_whyNot 19 = .ok (.invokevirtual 405, 3)) hU (t_X12_isInGame ho H) ho (by decide) rfl rfl rfl (Nat.le_of_ble_eq_true rfl) (Nat.le_of_ble_eq_true rfl) (Nat.le_refl 0) (Nat.le_refl 0) (fun r_4 U_3 h H hU => ?_)
    refine pr_if_eq hC 27 (by decide +kernel : decode cX12_whyNot 22 = .ok (.ifCond .eq 5, 3)) (by decide) (fun c_22 => ?_) (fun c_22 => ?_)
    · replace H := H.1 c_22
      refine pr_aload_n hC (by decide +kernel : decode cX12_whyNot 27 = .ok (.aload_n 0, 1)) rfl ?_
      refine pu_g1 hC fg_X12_65 (by decide +kernel : decode cX12_whyNot 28 = .ok (.getfield 65, 3)) hU ho (by decide) rfl (by decide) ?_
      refine pr_iload_n hC (by decide +kernel : decode cX12_whyNot 31 = .ok (.iload_n 3, 1)) rfl ?_
      refine pu_iald hC (by decide +kernel : decode cX12_whyNot 32 = .ok (.iaload, 1)) hU ho rfl H.1 ?_
      replace H := H.2
      refine pr_aload_n hC (by decide +kernel : decode cX12_whyNot 33 = .ok (.aload_n 0, 1)) rfl ?_
      refine pr_iload_n hC (by decide +kernel : decode cX12_whyNot 34 = .ok (.iload_n 1, 1)) rfl ?_
      refine pr_iload_n hC (by decide +kernel : decode cX12_whyNot 35 = .ok (.iload_n 2, 1)) rfl ?_
      refine vc_Vi hC hR [.int a1, .int a2] fv_X12_408 (by decide +kernel : decode cX12_whyNot 36 = .ok (.invokevirtual 408, 3)) hU (t_X12_needOf ho H) ho (by decide) rfl rfl rfl (Nat.le_of_ble_eq_true rfl) (Nat.le_of_ble_eq_true rfl) (Nat.le_refl 0) (Nat.le_refl 0) (fun r_6 U_5 h H hU => ?_)
      refine pr_icmp_ge hC 44 (by decide +kernel : decode cX12_whyNot 39 = .ok (.if_icmp .ge 5, 3)) (by decide) (fun c_39 => ?_) (fun c_39 => ?_)
      · replace H := H.1 c_39
        refine pr_aload_n hC (by decide +kernel : decode cX12_whyNot 44 = .ok (.aload_n 0, 1)) rfl ?_
        refine pu_g1 hC fg_X12_31 (by decide +kernel : decode cX12_whyNot 45 = .ok (.getfield 31, 3)) hU ho (by decide) rfl (by decide) ?_
        refine pr_iload_n hC (by decide +kernel : decode cX12_whyNot 48 = .ok (.iload_n 3, 1)) rfl ?_
        refine pu_iald hC (by decide +kernel : decode cX12_whyNot 49 = .ok (.iaload, 1)) hU ho rfl H.1 ?_
        replace H := H.2
        refine pr_aload_n hC (by decide +kernel : decode cX12_whyNot 50 = .ok (.aload_n 0, 1)) rfl ?_
        refine pr_iload_n hC (by decide +kernel : decode cX12_whyNot 51 = .ok (.iload_n 1, 1)) rfl ?_
        refine pr_iconst hC (0) (by decide +kernel : decode cX12_whyNot 52 = .ok (.iconst 0, 1)) rfl ?_
        refine vc_Vi hC hR [.int a1, .int 0] fv_X12_353 (by decide +kernel : decode cX12_whyNot 53 = .ok (.invokevirtual 353, 3)) hU (t_X12_of ho H) ho (by decide) rfl rfl rfl (Nat.le_of_ble_eq_true rfl) (Nat.le_of_ble_eq_true rfl) (Nat.le_refl 0) (Nat.le_refl 0) (fun r_8 U_7 h H hU => ?_)
        refine pr_ishr hC (by decide +kernel : decode cX12_whyNot 56 = .ok (.ishr, 1)) ?_
        refine pr_iconst hC (1) (by decide +kernel : decode cX12_whyNot 57 = .ok (.iconst 1, 1)) rfl ?_
        refine pr_iand hC (by decide +kernel : decode cX12_whyNot 58 = .ok (.iand, 1)) ?_
        refine pr_iconst hC (1) (by decide +kernel : decode cX12_whyNot 59 = .ok (.iconst 1, 1)) rfl ?_
        refine pr_icmp_eq hC 82 (by decide +kernel : decode cX12_whyNot 60 = .ok (.if_icmp .eq 22, 3)) (by decide) (fun c_60 => ?_) (fun c_60 => ?_)
        · replace H := H.1 c_60
          refine pr_bipush hC (6) (by decide +kernel : decode cX12_whyNot 82 = .ok (.bipush 6, 2)) rfl ?_
          exact pv_iret hM (by decide +kernel : decode cX12_whyNot 84 = .ok (.ireturn, 1)) hU H
        replace H := H.2 c_60
        refine pr_aload_n hC (by decide +kernel : decode cX12_whyNot 63 = .ok (.aload_n 0, 1)) rfl ?_
        refine pu_g1 hC fg_X12_31 (by decide +kernel : decode cX12_whyNot 64 = .ok (.getfield 31, 3)) hU ho (by decide) rfl (by decide) ?_
        refine pr_iload_n hC (by decide +kernel : decode cX12_whyNot 67 = .ok (.iload_n 3, 1)) rfl ?_
        refine pu_iald hC (by decide +kernel : decode cX12_whyNot 68 = .ok (.iaload, 1)) hU ho rfl H.1 ?_
        replace H := H.2
        refine pr_aload_n hC (by decide +kernel : decode cX12_whyNot 69 = .ok (.aload_n 0, 1)) rfl ?_
        refine pr_iload_n hC (by decide +kernel : decode cX12_whyNot 70 = .ok (.iload_n 1, 1)) rfl ?_
        refine pr_iconst hC (1) (by decide +kernel : decode cX12_whyNot 71 = .ok (.iconst 1, 1)) rfl ?_
        refine vc_Vi hC hR [.int a1, .int 1] fv_X12_353 (by decide +kernel : decode cX12_whyNot 72 = .ok (.invokevirtual 353, 3)) hU (t_X12_of ho H) ho (by decide) rfl rfl rfl (Nat.le_of_ble_eq_true rfl) (Nat.le_of_ble_eq_true rfl) (Nat.le_refl 0) (Nat.le_refl 0) (fun r_10 U_9 h H hU => ?_)
        refine pr_ishr hC (by decide +kernel : decode cX12_whyNot 75 = .ok (.ishr, 1)) ?_
        refine pr_iconst hC (1) (by decide +kernel : decode cX12_whyNot 76 = .ok (.iconst 1, 1)) rfl ?_
        refine pr_iand hC (by decide +kernel : decode cX12_whyNot 77 = .ok (.iand, 1)) ?_
        refine pr_iconst hC (1) (by decide +kernel : decode cX12_whyNot 78 = .ok (.iconst 1, 1)) rfl ?_
        refine pr_icmp_ne hC 85 (by decide +kernel : decode cX12_whyNot 79 = .ok (.if_icmp .ne 6, 3)) (by decide) (fun c_79 => ?_) (fun c_79 => ?_)
        · replace H := H.2 c_79
          refine pr_aload_n hC (by decide +kernel : decode cX12_whyNot 85 = .ok (.aload_n 0, 1)) rfl ?_
          refine pu_g1 hC fg_X12_34 (by decide +kernel : decode cX12_whyNot 86 = .ok (.getfield 34, 3)) hU ho (by decide) rfl (by decide) ?_
          refine pr_iload_n hC (by decide +kernel : decode cX12_whyNot 89 = .ok (.iload_n 3, 1)) rfl ?_
          refine pu_iald hC (by decide +kernel : decode cX12_whyNot 90 = .ok (.iaload, 1)) hU ho rfl H.1 ?_
          replace H := H.2
          refine pr_aload_n hC (by decide +kernel : decode cX12_whyNot 91 = .ok (.aload_n 0, 1)) rfl ?_
          refine pr_iload_n hC (by decide +kernel : decode cX12_whyNot 92 = .ok (.iload_n 1, 1)) rfl ?_
          refine pr_iconst hC (3) (by decide +kernel : decode cX12_whyNot 93 = .ok (.iconst 3, 1)) rfl ?_
          refine vc_Vi hC hR [.int a1, .int 3] fv_X12_353 (by decide +kernel : decode cX12_whyNot 94 = .ok (.invokevirtual 353, 3)) hU (t_X12_of ho H) ho (by decide) rfl rfl rfl (Nat.le_of_ble_eq_true rfl) (Nat.le_of_ble_eq_true rfl) (Nat.le_refl 0) (Nat.le_refl 0) (fun r_12 U_11 h H hU => ?_)
          refine pr_ishr hC (by decide +kernel : decode cX12_whyNot 97 = .ok (.ishr, 1)) ?_
          refine pr_iconst hC (1) (by decide +kernel : decode cX12_whyNot 98 = .ok (.iconst 1, 1)) rfl ?_
          refine pr_iand hC (by decide +kernel : decode cX12_whyNot 99 = .ok (.iand, 1)) ?_
          refine pr_iconst hC (1) (by decide +kernel : decode cX12_whyNot 100 = .ok (.iconst 1, 1)) rfl ?_
          refine pr_icmp_ne hC 107 (by decide +kernel : decode cX12_whyNot 101 = .ok (.if_icmp .ne 6, 3)) (by decide) (fun c_101 => ?_) (fun c_101 => ?_)
          · replace H := H.2 c_101
            refine pr_iconst hC (0) (by decide +kernel : decode cX12_whyNot 107 = .ok (.iconst 0, 1)) rfl ?_
            refine pr_istore hC (by decide +kernel : decode cX12_whyNot 108 = .ok (.istore 4, 2)) (by decide) rfl ?_
            refine pr_iconst hC (1) (by decide +kernel : decode cX12_whyNot 110 = .ok (.iconst 1, 1)) rfl ?_
            refine pr_aload_n hC (by decide +kernel : decode cX12_whyNot 111 = .ok (.aload_n 0, 1)) rfl ?_
            refine pr_iload_n hC (by decide +kernel : decode cX12_whyNot 112 = .ok (.iload_n 1, 1)) rfl ?_
            refine pr_iconst hC (2) (by decide +kernel : decode cX12_whyNot 113 = .ok (.iconst 2, 1)) rfl ?_
            refine vc_Vi hC hR [.int a1, .int 2] fv_X12_353 (by decide +kernel : decode cX12_whyNot 114 = .ok (.invokevirtual 353, 3)) hU (t_X12_of ho H) ho (by decide) rfl rfl rfl (Nat.le_of_ble_eq_true rfl) (Nat.le_of_ble_eq_true rfl) (Nat.le_refl 0) (Nat.le_refl 0) (fun r_14 U_13 h H hU => ?_)
            refine pr_ishl hC (by decide +kernel : decode cX12_whyNot 117 = .ok (.ishl, 1)) ?_
            refine pv_topi (fun x5_15 e_x5_15 => ?_)
            replace H := H x5_15 e_x5_15
            refine pr_istore hC (by decide +kernel : decode cX12_whyNot 118 = .ok (.istore 5, 2)) (by decide) rfl ?_
            refine pr_iconst hC (0) (by decide +kernel : decode cX12_whyNot 120 = .ok (.iconst 0, 1)) rfl ?_
            refine pr_istore hC (by decide +kernel : decode cX12_whyNot 121 = .ok (.istore 6, 2)) (by decide) rfl ?_
            refine pr_aload_n hC (by decide +kernel : decode cX12_whyNot 123 = .ok (.aload_n 0, 1)) rfl ?_
            refine pr_aload_n hC (by decide +kernel : decode cX12_whyNot 124 = .ok (.aload_n 0, 1)) rfl ?_
            refine pu_g1 hC fg_X12_28 (by decide +kernel : decode cX12_whyNot 125 = .ok (.getfield 28, 3)) hU ho (by decide) rfl (by decide) ?_
            refine pr_iload_n hC (by decide +kernel : decode cX12_whyNot 128 = .ok (.iload_n 3, 1)) rfl ?_
            refine pu_iald hC (by decide +kernel : decode cX12_whyNot 129 = .ok (.iaload, 1)) hU ho rfl H.1 ?_
            replace H := H.2
            refine pr_aload_n hC (by decide +kernel : decode cX12_whyNot 130 = .ok (.aload_n 0, 1)) rfl ?_
            refine pr_iload_n hC (by decide +kernel : decode cX12_whyNot 131 = .ok (.iload_n 1, 1)) rfl ?_
            refine pr_iconst hC (2) (by decide +kernel : decode cX12_whyNot 132 = .ok (.iconst 2, 1)) rfl ?_
            refine vc_Vi hC hR [.int a1, .int 2] fv_X12_353 (by decide +kernel : decode cX12_whyNot 133 = .ok (.invokevirtual 353, 3)) hU (t_X12_of ho H) ho (by decide) rfl rfl rfl (Nat.le_of_ble_eq_true rfl) (Nat.le_of_ble_eq_true rfl) (Nat.le_refl 0) (Nat.le_refl 0) (fun r_17 U_16 h H hU => ?_)
            refine vc_Vi hC hR [.int (uA U_13 o 6 (Int32.toNatClampNeg a3)), .int r_17] fv_X12_394 (by decide +kernel : decode cX12_whyNot 136 = .ok (.invokevirtual 394, 3)) hU (t_X12_wayOf ho H) ho (by decide) rfl rfl rfl (Nat.le_of_ble_eq_true rfl) (Nat.le_of_ble_eq_true rfl) (Nat.le_refl 0) (Nat.le_refl 0) (fun r_19 U_18 h H hU => ?_)
            refine pr_iconst hC (-1) (by decide +kernel : decode cX12_whyNot 139 = .ok (.iconst (-1), 1)) rfl ?_
            have HJ_53 : ∀ (xs_20 : Int32), xs_20 = (if r_19 = (-1) then 1 else 0) → pw X Y.1 (pm_A hh sz) (pm_E X Y.1 hh sz 0 0 (pm_P Y h0 sz (pq_i post))) 148 [some (.ref (Y.2.1 o)), some (.int a1), none, some (.int a3), some (.int 0), some (.int x5_15), some (.int 0), none, none, none] [.int xs_20] h sz 0 0 := by
              intro xs_20 e_xs_20
              replace H := H xs_20 e_xs_20
              refine pr_istore hC (by decide +kernel : decode cX12_whyNot 148 = .ok (.istore 7, 2)) (by decide) rfl ?_
              refine pr_iconst hC (0) (by decide +kernel : decode cX12_whyNot 150 = .ok (.iconst 0, 1)) rfl ?_
              refine pr_istore hC (by decide +kernel : decode cX12_whyNot 151 = .ok (.istore 8, 2)) (by decide) rfl ?_
              obtain ⟨n_52, H⟩ := H
              refine pv_sub [some (.ref (Y.2.1 o)), some (.int a1), none, some (.int a3), some (.int 0), some (.int x5_15), some (.int 0), some (.int xs_20), some (.int 0), none] (And.intro rfl (And.intro rfl (And.intro rfl (And.intro rfl (And.intro rfl (And.intro rfl (And.intro rfl (And.intro rfl trivial)))))))) ?_
              refine tl_X12_whyNot_L153 _ _ _ _ _ ho hC hM hR (fun x4_45 x5_46 x6_47 x7_48 U_49 h H hU => ?_) n_52 _ _ _ _ _ U_18 h hU H
              refine pr_iload hC (by decide +kernel : decode cX12_whyNot 279 = .ok (.iload 4, 2)) rfl ?_
              refine pr_aload_n hC (by decide +kernel : decode cX12_whyNot 281 = .ok (.aload_n 0, 1)) rfl ?_
              refine pu_g1 hC fg_X12_43 (by decide +kernel : decode cX12_whyNot 282 = .ok (.getfield 43, 3)) hU ho (by decide) rfl (by decide) ?_
              refine pr_iconst hC (5) (by decide +kernel : decode cX12_whyNot 285 = .ok (.iconst 5, 1)) rfl ?_
              refine pu_iald hC (by decide +kernel : decode cX12_whyNot 286 = .ok (.iaload, 1)) hU ho rfl H.1 ?_
              replace H := H.2
              refine pr_icmp_lt hC 295 (by decide +kernel : decode cX12_whyNot 287 = .ok (.if_icmp .lt 8, 3)) (by decide) (fun c_287 => ?_) (fun c_287 => ?_)
              · replace H := H.1 c_287
                refine pr_iload hC (by decide +kernel : decode cX12_whyNot 295 = .ok (.iload 6, 2)) rfl ?_
                refine pr_if_eq hC 305 (by decide +kernel : decode cX12_whyNot 297 = .ok (.ifCond .eq 8, 3)) (by decide) (fun c_297 => ?_) (fun c_297 => ?_)
                · replace H := H.1 c_297
                  refine pr_iload hC (by decide +kernel : decode cX12_whyNot 305 = .ok (.iload 7, 2)) rfl ?_
                  refine pr_if_eq hC 315 (by decide +kernel : decode cX12_whyNot 307 = .ok (.ifCond .eq 8, 3)) (by decide) (fun c_307 => ?_) (fun c_307 => ?_)
                  · replace H := H.1 c_307
                    refine pr_iload hC (by decide +kernel : decode cX12_whyNot 315 = .ok (.iload 5, 2)) rfl ?_
                    refine vc_Si hC hR [.int x5_46] fv_X12_420 (by decide +kernel : decode cX12_whyNot 317 = .ok (.invokestatic 420, 3)) hU (t_X12_bits  H) rfl rfl (Nat.le_of_ble_eq_true rfl) (Nat.le_of_ble_eq_true rfl) (Nat.le_refl 0) (Nat.le_refl 0) (fun r_51 U_50 h H hU => ?_)
                    refine pr_iconst hC (2) (by decide +kernel : decode cX12_whyNot 320 = .ok (.iconst 2, 1)) rfl ?_
                    refine pr_icmp_le hC 329 (by decide +kernel : decode cX12_whyNot 321 = .ok (.if_icmp .le 8, 3)) (by decide) (fun c_321 => ?_) (fun c_321 => ?_)
                    · replace H := H.1 c_321
                      refine pr_iconst hC (0) (by decide +kernel : decode cX12_whyNot 329 = .ok (.iconst 0, 1)) rfl ?_
                      exact pv_iret hM (by decide +kernel : decode cX12_whyNot 330 = .ok (.ireturn, 1)) hU H
                    replace H := H.2 c_321
                    refine pr_bipush hC (11) (by decide +kernel : decode cX12_whyNot 324 = .ok (.bipush 11, 2)) rfl ?_
                    refine pr_goto hC 330 (by decide +kernel : decode cX12_whyNot 326 = .ok (.goto 4, 3)) (by decide) ?_
                    exact pv_iret hM (by decide +kernel : decode cX12_whyNot 330 = .ok (.ireturn, 1)) hU H
                  replace H := H.2 c_307
                  refine pr_bipush hC (10) (by decide +kernel : decode cX12_whyNot 310 = .ok (.bipush 10, 2)) rfl ?_
                  refine pr_goto hC 330 (by decide +kernel : decode cX12_whyNot 312 = .ok (.goto 18, 3)) (by decide) ?_
                  exact pv_iret hM (by decide +kernel : decode cX12_whyNot 330 = .ok (.ireturn, 1)) hU H
                replace H := H.2 c_297
                refine pr_bipush hC (9) (by decide +kernel : decode cX12_whyNot 300 = .ok (.bipush 9, 2)) rfl ?_
                refine pr_goto hC 330 (by decide +kernel : decode cX12_whyNot 302 = .ok (.goto 28, 3)) (by decide) ?_
                exact pv_iret hM (by decide +kernel : decode cX12_whyNot 330 = .ok (.ireturn, 1)) hU H
              replace H := H.2 c_287
              refine pr_bipush hC (8) (by decide +kernel : decode cX12_whyNot 290 = .ok (.bipush 8, 2)) rfl ?_
              refine pr_goto hC 330 (by decide +kernel : decode cX12_whyNot 292 = .ok (.goto 38, 3)) (by decide) ?_
              exact pv_iret hM (by decide +kernel : decode cX12_whyNot 330 = .ok (.ireturn, 1)) hU H
            replace H := trivial
            refine pr_icmp_ne hC 147 (by decide +kernel : decode cX12_whyNot 140 = .ok (.if_icmp .ne 7, 3)) (by decide) (fun c_140 => ?_) (fun c_140 => ?_)
            · skip
              refine pr_iconst hC (0) (by decide +kernel : decode cX12_whyNot 147 = .ok (.iconst 0, 1)) rfl ?_
              exact pv_sub [some (.ref (Y.2.1 o)), some (.int a1), none, some (.int a3), some (.int 0), some (.int x5_15), some (.int 0), none, none, none] (And.intro rfl (And.intro rfl (And.intro rfl (And.intro rfl (And.intro rfl (And.intro rfl trivial)))))) (HJ_53 _ (if_neg c_140).symm)
            skip
            refine pr_iconst hC (1) (by decide +kernel : decode cX12_whyNot 143 = .ok (.iconst 1, 1)) rfl ?_
            refine pr_goto hC 148 (by decide +kernel : decode cX12_whyNot 144 = .ok (.goto 4, 3)) (by decide) ?_
            exact pv_sub [some (.ref (Y.2.1 o)), some (.int a1), none, some (.int a3), some (.int 0), some (.int x5_15), some (.int 0), none, none, none] (And.intro rfl (And.intro rfl (And.intro rfl (And.intro rfl (And.intro rfl (And.intro rfl trivial)))))) (HJ_53 _ (if_pos c_140).symm)
          replace H := H.1 c_101
          refine pr_bipush hC (7) (by decide +kernel : decode cX12_whyNot 104 = .ok (.bipush 7, 2)) rfl ?_
          exact pv_iret hM (by decide +kernel : decode cX12_whyNot 106 = .ok (.ireturn, 1)) hU H
        replace H := H.1 c_79
        refine pr_bipush hC (6) (by decide +kernel : decode cX12_whyNot 82 = .ok (.bipush 6, 2)) rfl ?_
        exact pv_iret hM (by decide +kernel : decode cX12_whyNot 84 = .ok (.ireturn, 1)) hU H
      replace H := H.2 c_39
      refine pr_iconst hC (5) (by decide +kernel : decode cX12_whyNot 42 = .ok (.iconst 5, 1)) rfl ?_
      exact pv_iret hM (by decide +kernel : decode cX12_whyNot 43 = .ok (.ireturn, 1)) hU H
    replace H := H.2 c_22
    refine pr_iconst hC (4) (by decide +kernel : decode cX12_whyNot 25 = .ok (.iconst 4, 1)) rfl ?_
    exact pv_iret hM (by decide +kernel : decode cX12_whyNot 26 = .ok (.ireturn, 1)) hU H
  replace H := H.2 c_11
  refine pr_iconst hC (3) (by decide +kernel : decode cX12_whyNot 14 = .ok (.iconst 3, 1)) rfl ?_
  exact pv_iret hM (by decide +kernel : decode cX12_whyNot 15 = .ok (.ireturn, 1)) hU H
def w_X12_whyOf (o : Nat) (a1 : Int32) (a2 : Int32) (a3 : Int32) (U : Um) (post : Int32 → Um → Prop) : Prop :=
  w_X12_isSeat o a1 a2 U (fun r_2 U_1 => (r_2 = 0 → post 1 U_1) ∧ (¬ r_2 = 0 → w_X12_isOne o a3 U_1 (fun r_4 U_3 => (r_4 = 0 → post 1 U_3) ∧ (¬ r_4 = 0 → w_X12_isPlayed o a1 U_3 (fun r_6 U_5 => (r_6 = 0 → w_X12_whyNot o a1 a2 a3 U_5 (fun r_8 U_7 => post r_8 U_7)) ∧ (¬ r_6 = 0 → post 2 U_5))))))
set_option maxHeartbeats 4000000 in
theorem t_X12_whyOf {l : Launch} {Y : px_Y} {o : Nat} {a1 : Int32} {a2 : Int32} {a3 : Int32} {U : Um} {post : Int32 → Um → Prop} (ho : oc o = 10) (H : w_X12_whyOf o a1 a2 a3 U post) : um l Y 4 yX12_whyOf cX12_whyOf 4 (some (.int)) [.ref (Y.2.1 o), .int a1, .int a2, .int a3] U (pq_i post) := by
  unfold w_X12_whyOf at H
  refine um_of (by decide) (Nat.le_of_ble_eq_true rfl) [some (.ref (Y.2.1 o)), some (.int a1), some (.int a2), some (.int a3)] rfl (fun X h0 hh sz hM hU => ?_)
  have hC := hM.1
  have hR := hM.2.2.1
  refine pr_aload_n hC (by decide +kernel : decode cX12_whyOf 0 = .ok (.aload_n 0, 1)) rfl ?_
  refine pr_iload_n hC (by decide +kernel : decode cX12_whyOf 1 = .ok (.iload_n 1, 1)) rfl ?_
  refine pr_iload_n hC (by decide +kernel : decode cX12_whyOf 2 = .ok (.iload_n 2, 1)) rfl ?_
  refine vc_Vi hC hR [.int a1, .int a2] fv_X12_388 (by decide +kernel : decode cX12_whyOf 3 = .ok (.invokevirtual 388, 3)) hU (t_X12_isSeat ho H) ho (by decide) rfl rfl rfl (Nat.le_of_ble_eq_true rfl) (Nat.le_of_ble_eq_true rfl) (Nat.le_refl 0) (Nat.le_refl 0) (fun r_2 U_1 h H hU => ?_)
  refine pr_if_eq hC 17 (by decide +kernel : decode cX12_whyOf 6 = .ok (.ifCond .eq 11, 3)) (by decide) (fun c_6 => ?_) (fun c_6 => ?_)
  · replace H := H.1 c_6
    refine pr_iconst hC (1) (by decide +kernel : decode cX12_whyOf 17 = .ok (.iconst 1, 1)) rfl ?_
    exact pv_iret hM (by decide +kernel : decode cX12_whyOf 18 = .ok (.ireturn, 1)) hU H
  replace H := H.2 c_6
  refine pr_aload_n hC (by decide +kernel : decode cX12_whyOf 9 = .ok (.aload_n 0, 1)) rfl ?_
  refine pr_iload_n hC (by decide +kernel : decode cX12_whyOf 10 = .ok (.iload_n 3, 1)) rfl ?_
  refine vc_Vi hC hR [.int a3] fv_X12_368 (by decide +kernel : decode cX12_whyOf 11 = .ok (.invokevirtual 368, 3)) hU (t_X12_isOne ho H) ho (by decide) rfl rfl rfl (Nat.le_of_ble_eq_true rfl) (Nat.le_of_ble_eq_true rfl) (Nat.le_refl 0) (Nat.le_refl 0) (fun r_4 U_3 h H hU => ?_)
  refine pr_if_ne hC 19 (by decide +kernel : decode cX12_whyOf 14 = .ok (.ifCond .ne 5, 3)) (by decide) (fun c_14 => ?_) (fun c_14 => ?_)
  · replace H := H.2 c_14
    refine pr_aload_n hC (by decide +kernel : decode cX12_whyOf 19 = .ok (.aload_n 0, 1)) rfl ?_
    refine pr_iload_n hC (by decide +kernel : decode cX12_whyOf 20 = .ok (.iload_n 1, 1)) rfl ?_
    refine vc_Vi hC hR [.int a1] fv_X12_382 (by decide +kernel : decode cX12_whyOf 21 = .ok (.invokevirtual 382, 3)) hU (t_X12_isPlayed ho H) ho (by decide) rfl rfl rfl (Nat.le_of_ble_eq_true rfl) (Nat.le_of_ble_eq_true rfl) (Nat.le_refl 0) (Nat.le_refl 0) (fun r_6 U_5 h H hU => ?_)
    refine pr_if_eq hC 31 (by decide +kernel : decode cX12_whyOf 24 = .ok (.ifCond .eq 7, 3)) (by decide) (fun c_24 => ?_) (fun c_24 => ?_)
    · replace H := H.1 c_24
      refine pr_aload_n hC (by decide +kernel : decode cX12_whyOf 31 = .ok (.aload_n 0, 1)) rfl ?_
      refine pr_iload_n hC (by decide +kernel : decode cX12_whyOf 32 = .ok (.iload_n 1, 1)) rfl ?_
      refine pr_iload_n hC (by decide +kernel : decode cX12_whyOf 33 = .ok (.iload_n 2, 1)) rfl ?_
      refine pr_iload_n hC (by decide +kernel : decode cX12_whyOf 34 = .ok (.iload_n 3, 1)) rfl ?_
      refine vc_Vi hC hR [.int a1, .int a2, .int a3] fv_X12_423 (by decide +kernel : decode cX12_whyOf 35 = .ok (.invokevirtual 423, 3)) hU (t_X12_whyNot ho H) ho (by decide) rfl rfl rfl (Nat.le_of_ble_eq_true rfl) (Nat.le_of_ble_eq_true rfl) (Nat.le_refl 0) (Nat.le_refl 0) (fun r_8 U_7 h H hU => ?_)
      exact pv_iret hM (by decide +kernel : decode cX12_whyOf 38 = .ok (.ireturn, 1)) hU H
    replace H := H.2 c_24
    refine pr_iconst hC (2) (by decide +kernel : decode cX12_whyOf 27 = .ok (.iconst 2, 1)) rfl ?_
    refine pr_goto hC 38 (by decide +kernel : decode cX12_whyOf 28 = .ok (.goto 10, 3)) (by decide) ?_
    exact pv_iret hM (by decide +kernel : decode cX12_whyOf 38 = .ok (.ireturn, 1)) hU H
  replace H := H.1 c_14
  refine pr_iconst hC (1) (by decide +kernel : decode cX12_whyOf 17 = .ok (.iconst 1, 1)) rfl ?_
  exact pv_iret hM (by decide +kernel : decode cX12_whyOf 18 = .ok (.ireturn, 1)) hU H
def w_X12_why (o : Nat) (a1 : Int32) (a2 : Int32) (a3 : Int32) (U : Um) (post : Int32 → Um → Prop) : Prop :=
  ∀ (U_1 : Um), U_1 = sI U o 0 0 → w_X12_whyOf o a1 a2 a3 U_1 (fun r_3 U_2 => post r_3 U_2)
set_option maxHeartbeats 4000000 in
theorem t_X12_why {l : Launch} {Y : px_Y} {o : Nat} {a1 : Int32} {a2 : Int32} {a3 : Int32} {U : Um} {post : Int32 → Um → Prop} (ho : oc o = 10) (H : w_X12_why o a1 a2 a3 U post) : um l Y 5 yX12_why cX12_why 4 (some (.int)) [.ref (Y.2.1 o), .int a1, .int a2, .int a3] U (pq_i post) := by
  unfold w_X12_why at H
  refine um_of (by decide) (Nat.le_of_ble_eq_true rfl) [some (.ref (Y.2.1 o)), some (.int a1), some (.int a2), some (.int a3)] rfl (fun X h0 hh sz hM hU => ?_)
  have hC := hM.1
  have hR := hM.2.2.1
  refine pr_aload_n hC (by decide +kernel : decode cX12_why 0 = .ok (.aload_n 0, 1)) rfl ?_
  refine pr_iconst hC (0) (by decide +kernel : decode cX12_why 1 = .ok (.iconst 0, 1)) rfl ?_
  refine pv_p0 hC fp_X12_121 (by decide +kernel : decode cX12_why 2 = .ok (.putfield 121, 3)) hU ho (by decide) rfl rfl rfl rfl (fun U_1 h e_U_1 hU => ?_)
  replace H := H U_1 e_U_1
  refine pr_aload_n hC (by decide +kernel : decode cX12_why 5 = .ok (.aload_n 0, 1)) rfl ?_
  refine pr_iload_n hC (by decide +kernel : decode cX12_why 6 = .ok (.iload_n 1, 1)) rfl ?_
  refine pr_iload_n hC (by decide +kernel : decode cX12_why 7 = .ok (.iload_n 2, 1)) rfl ?_
  refine pr_iload_n hC (by decide +kernel : decode cX12_why 8 = .ok (.iload_n 3, 1)) rfl ?_
  refine vc_Vi hC hR [.int a1, .int a2, .int a3] fv_X12_427 (by decide +kernel : decode cX12_why 9 = .ok (.invokevirtual 427, 3)) hU (t_X12_whyOf ho H) ho (by decide) rfl rfl rfl (Nat.le_of_ble_eq_true rfl) (Nat.le_of_ble_eq_true rfl) (Nat.le_refl 0) (Nat.le_refl 0) (fun r_3 U_2 h H hU => ?_)
  exact pv_iret hM (by decide +kernel : decode cX12_why 12 = .ok (.ireturn, 1)) hU H
def w_X12_put (o : Nat) (a1 : Int32) (a2 : Int32) (a3 : Int32) (U : Um) (post : Int32 → Um → Prop) : Prop :=
  ∀ (U_1 : Um), U_1 = sI U o 0 0 → w_X12_whyOf o a1 a2 a3 U_1 (fun r_3 U_2 => (r_3 = 1 → post (-r_3) U_2) ∧ (¬ r_3 = 1 → (r_3 = 2 → post (-r_3) U_2) ∧ (¬ r_3 = 2 → w_X12_isLate o a1 U_2 (fun r_5 U_4 => (r_5 = 0 → (r_3 = 0 → w_X12_keeps o U_4 (fun U_6 => w_X12_at a1 a2 U_6 (fun r_9 U_8 => vp_in r_9 48 ∧ ∀ (U_10 : Um), U_10 = sA U_8 o 30 (va_up (uA U_8 o 30) (Int32.toNatClampNeg r_9) a3) → post 0 U_10))) ∧ (¬ r_3 = 0 → post (-r_3) U_4)) ∧ (¬ r_5 = 0 → post (-12) U_4)))))
set_option maxHeartbeats 4000000 in
theorem t_X12_put {l : Launch} {Y : px_Y} {o : Nat} {a1 : Int32} {a2 : Int32} {a3 : Int32} {U : Um} {post : Int32 → Um → Prop} (ho : oc o = 10) (H : w_X12_put o a1 a2 a3 U post) : um l Y 5 yX12_put cX12_put 5 (some (.int)) [.ref (Y.2.1 o), .int a1, .int a2, .int a3] U (pq_i post) := by
  unfold w_X12_put at H
  refine um_of (by decide) (Nat.le_of_ble_eq_true rfl) [some (.ref (Y.2.1 o)), some (.int a1), some (.int a2), some (.int a3), none] rfl (fun X h0 hh sz hM hU => ?_)
  have hC := hM.1
  have hR := hM.2.2.1
  refine pr_aload_n hC (by decide +kernel : decode cX12_put 0 = .ok (.aload_n 0, 1)) rfl ?_
  refine pr_iconst hC (0) (by decide +kernel : decode cX12_put 1 = .ok (.iconst 0, 1)) rfl ?_
  refine pv_p0 hC fp_X12_121 (by decide +kernel : decode cX12_put 2 = .ok (.putfield 121, 3)) hU ho (by decide) rfl rfl rfl rfl (fun U_1 h e_U_1 hU => ?_)
  replace H := H U_1 e_U_1
  refine pr_aload_n hC (by decide +kernel : decode cX12_put 5 = .ok (.aload_n 0, 1)) rfl ?_
  refine pr_iload_n hC (by decide +kernel : decode cX12_put 6 = .ok (.iload_n 1, 1)) rfl ?_
  refine pr_iload_n hC (by decide +kernel : decode cX12_put 7 = .ok (.iload_n 2, 1)) rfl ?_
  refine pr_iload_n hC (by decide +kernel : decode cX12_put 8 = .ok (.iload_n 3, 1)) rfl ?_
  refine vc_Vi hC hR [.int a1, .int a2, .int a3] fv_X12_427 (by decide +kernel : decode cX12_put 9 = .ok (.invokevirtual 427, 3)) hU (t_X12_whyOf ho H) ho (by decide) rfl rfl rfl (Nat.le_of_ble_eq_true rfl) (Nat.le_of_ble_eq_true rfl) (Nat.le_refl 0) (Nat.le_refl 0) (fun r_3 U_2 h H hU => ?_)
  refine pr_istore hC (by decide +kernel : decode cX12_put 12 = .ok (.istore 4, 2)) (by decide) rfl ?_
  refine pr_iload hC (by decide +kernel : decode cX12_put 14 = .ok (.iload 4, 2)) rfl ?_
  refine pr_iconst hC (1) (by decide +kernel : decode cX12_put 16 = .ok (.iconst 1, 1)) rfl ?_
  refine pr_icmp_eq hC 26 (by decide +kernel : decode cX12_put 17 = .ok (.if_icmp .eq 9, 3)) (by decide) (fun c_17 => ?_) (fun c_17 => ?_)
  · replace H := H.1 c_17
    refine pr_iload hC (by decide +kernel : decode cX12_put 26 = .ok (.iload 4, 2)) rfl ?_
    refine pr_ineg hC (by decide +kernel : decode cX12_put 28 = .ok (.ineg, 1)) ?_
    exact pv_iret hM (by decide +kernel : decode cX12_put 29 = .ok (.ireturn, 1)) hU H
  replace H := H.2 c_17
  refine pr_iload hC (by decide +kernel : decode cX12_put 20 = .ok (.iload 4, 2)) rfl ?_
  refine pr_iconst hC (2) (by decide +kernel : decode cX12_put 22 = .ok (.iconst 2, 1)) rfl ?_
  refine pr_icmp_ne hC 30 (by decide +kernel : decode cX12_put 23 = .ok (.if_icmp .ne 7, 3)) (by decide) (fun c_23 => ?_) (fun c_23 => ?_)
  · replace H := H.2 c_23
    refine pr_aload_n hC (by decide +kernel : decode cX12_put 30 = .ok (.aload_n 0, 1)) rfl ?_
    refine pr_iload_n hC (by decide +kernel : decode cX12_put 31 = .ok (.iload_n 1, 1)) rfl ?_
    refine vc_Vi hC hR [.int a1] fv_X12_385 (by decide +kernel : decode cX12_put 32 = .ok (.invokevirtual 385, 3)) hU (t_X12_isLate ho H) ho (by decide) rfl rfl rfl (Nat.le_of_ble_eq_true rfl) (Nat.le_of_ble_eq_true rfl) (Nat.le_refl 0) (Nat.le_refl 0) (fun r_5 U_4 h H hU => ?_)
    refine pr_if_eq hC 41 (by decide +kernel : decode cX12_put 35 = .ok (.ifCond .eq 6, 3)) (by decide) (fun c_35 => ?_) (fun c_35 => ?_)
    · replace H := H.1 c_35
      refine pr_iload hC (by decide +kernel : decode cX12_put 41 = .ok (.iload 4, 2)) rfl ?_
      refine pr_if_eq hC 50 (by decide +kernel : decode cX12_put 43 = .ok (.ifCond .eq 7, 3)) (by decide) (fun c_43 => ?_) (fun c_43 => ?_)
      · replace H := H.1 c_43
        refine pr_aload_n hC (by decide +kernel : decode cX12_put 50 = .ok (.aload_n 0, 1)) rfl ?_
        refine vc_Vv hC hR [] fv_X12_430 (by decide +kernel : decode cX12_put 51 = .ok (.invokevirtual 430, 3)) hU (t_X12_keeps ho H) ho (by decide) rfl rfl rfl (Nat.le_of_ble_eq_true rfl) (Nat.le_of_ble_eq_true rfl) (Nat.le_refl 0) (Nat.le_refl 0) (fun U_6 h H hU => ?_)
        refine pr_aload_n hC (by decide +kernel : decode cX12_put 54 = .ok (.aload_n 0, 1)) rfl ?_
        refine pu_g1 hC fg_X12_59 (by decide +kernel : decode cX12_put 55 = .ok (.getfield 59, 3)) hU ho (by decide) rfl (by decide) ?_
        refine pr_iload_n hC (by decide +kernel : decode cX12_put 58 = .ok (.iload_n 1, 1)) rfl ?_
        refine pr_iload_n hC (by decide +kernel : decode cX12_put 59 = .ok (.iload_n 2, 1)) rfl ?_
        refine vc_Si hC hR [.int a1, .int a2] fv_X12_360 (by decide +kernel : decode cX12_put 60 = .ok (.invokestatic 360, 3)) hU (t_X12_at  H) rfl rfl (Nat.le_of_ble_eq_true rfl) (Nat.le_of_ble_eq_true rfl) (Nat.le_refl 0) (Nat.le_refl 0) (fun r_9 U_8 h H hU => ?_)
        refine pr_iload_n hC (by decide +kernel : decode cX12_put 63 = .ok (.iload_n 3, 1)) rfl ?_
        refine pv_iast hC (by decide +kernel : decode cX12_put 64 = .ok (.iastore, 1)) hU ho rfl H.1 (fun U_10 h e_U_10 hU => ?_)
        replace H := H.2 U_10 e_U_10
        refine pr_iconst hC (0) (by decide +kernel : decode cX12_put 65 = .ok (.iconst 0, 1)) rfl ?_
        exact pv_iret hM (by decide +kernel : decode cX12_put 66 = .ok (.ireturn, 1)) hU H
      replace H := H.2 c_43
      refine pr_iload hC (by decide +kernel : decode cX12_put 46 = .ok (.iload 4, 2)) rfl ?_
      refine pr_ineg hC (by decide +kernel : decode cX12_put 48 = .ok (.ineg, 1)) ?_
      exact pv_iret hM (by decide +kernel : decode cX12_put 49 = .ok (.ireturn, 1)) hU H
    replace H := H.2 c_35
    refine pr_bipush hC (-12) (by decide +kernel : decode cX12_put 38 = .ok (.bipush (-12), 2)) rfl ?_
    exact pv_iret hM (by decide +kernel : decode cX12_put 40 = .ok (.ireturn, 1)) hU H
  replace H := H.1 c_23
  refine pr_iload hC (by decide +kernel : decode cX12_put 26 = .ok (.iload 4, 2)) rfl ?_
  refine pr_ineg hC (by decide +kernel : decode cX12_put 28 = .ok (.ineg, 1)) ?_
  exact pv_iret hM (by decide +kernel : decode cX12_put 29 = .ok (.ireturn, 1)) hU H
def w_X12_drop (o : Nat) (a1 : Int32) (a2 : Int32) (U : Um) (post : Int32 → Um → Prop) : Prop :=
  ∀ (U_1 : Um), U_1 = sI U o 0 0 → w_X12_isSeat o a1 a2 U_1 (fun r_3 U_2 => (r_3 = 0 → post (-2) U_2) ∧ (¬ r_3 = 0 → w_X12_at a1 a2 U_2 (fun r_5 U_4 => vp_in r_5 48 ∧ ((uA U_4 o 30 (Int32.toNatClampNeg r_5)) = (-1) → post (-2) U_4) ∧ (¬ (uA U_4 o 30 (Int32.toNatClampNeg r_5)) = (-1) → w_X12_isPlayed o a1 U_4 (fun r_7 U_6 => (r_7 = 0 → w_X12_isLate o a1 U_6 (fun r_9 U_8 => (r_9 = 0 → w_X12_keeps o U_8 (fun U_10 => w_X12_at a1 a2 U_10 (fun r_13 U_12 => vp_in r_13 48 ∧ ∀ (x3_14 : Int32), x3_14 = uA U_12 o 30 (Int32.toNatClampNeg r_13) → w_X12_at a1 a2 U_12 (fun r_16 U_15 => vp_in r_16 48 ∧ ∀ (U_17 : Um), U_17 = sA U_15 o 30 (va_up (uA U_15 o 30) (Int32.toNatClampNeg r_16) (-1)) → post x3_14 U_17)))) ∧ (¬ r_9 = 0 → post (-2) U_8))) ∧ (¬ r_7 = 0 → post (-2) U_6))))))
set_option maxHeartbeats 4000000 in
theorem t_X12_drop {l : Launch} {Y : px_Y} {o : Nat} {a1 : Int32} {a2 : Int32} {U : Um} {post : Int32 → Um → Prop} (ho : oc o = 10) (H : w_X12_drop o a1 a2 U post) : um l Y 3 yX12_drop cX12_drop 4 (some (.int)) [.ref (Y.2.1 o), .int a1, .int a2] U (pq_i post) := by
  unfold w_X12_drop at H
  refine um_of (by decide) (Nat.le_of_ble_eq_true rfl) [some (.ref (Y.2.1 o)), some (.int a1), some (.int a2), none] rfl (fun X h0 hh sz hM hU => ?_)
  have hC := hM.1
  have hR := hM.2.2.1
  refine pr_aload_n hC (by decide +kernel : decode cX12_drop 0 = .ok (.aload_n 0, 1)) rfl ?_
  refine pr_iconst hC (0) (by decide +kernel : decode cX12_drop 1 = .ok (.iconst 0, 1)) rfl ?_
  refine pv_p0 hC fp_X12_121 (by decide +kernel : decode cX12_drop 2 = .ok (.putfield 121, 3)) hU ho (by decide) rfl rfl rfl rfl (fun U_1 h e_U_1 hU => ?_)
  replace H := H U_1 e_U_1
  refine pr_aload_n hC (by decide +kernel : decode cX12_drop 5 = .ok (.aload_n 0, 1)) rfl ?_
  refine pr_iload_n hC (by decide +kernel : decode cX12_drop 6 = .ok (.iload_n 1, 1)) rfl ?_
  refine pr_iload_n hC (by decide +kernel : decode cX12_drop 7 = .ok (.iload_n 2, 1)) rfl ?_
  refine vc_Vi hC hR [.int a1, .int a2] fv_X12_388 (by decide +kernel : decode cX12_drop 8 = .ok (.invokevirtual 388, 3)) hU (t_X12_isSeat ho H) ho (by decide) rfl rfl rfl (Nat.le_of_ble_eq_true rfl) (Nat.le_of_ble_eq_true rfl) (Nat.le_refl 0) (Nat.le_refl 0) (fun r_3 U_2 h H hU => ?_)
  refine pr_if_eq hC 44 (by decide +kernel : decode cX12_drop 11 = .ok (.ifCond .eq 33, 3)) (by decide) (fun c_11 => ?_) (fun c_11 => ?_)
  · replace H := H.1 c_11
    refine pr_bipush hC (-2) (by decide +kernel : decode cX12_drop 44 = .ok (.bipush (-2), 2)) rfl ?_
    exact pv_iret hM (by decide +kernel : decode cX12_drop 46 = .ok (.ireturn, 1)) hU H
  replace H := H.2 c_11
  refine pr_aload_n hC (by decide +kernel : decode cX12_drop 14 = .ok (.aload_n 0, 1)) rfl ?_
  refine pu_g1 hC fg_X12_59 (by decide +kernel : decode cX12_drop 15 = .ok (.getfield 59, 3)) hU ho (by decide) rfl (by decide) ?_
  refine pr_iload_n hC (by decide +kernel : decode cX12_drop 18 = .ok (.iload_n 1, 1)) rfl ?_
  refine pr_iload_n hC (by decide +kernel : decode cX12_drop 19 = .ok (.iload_n 2, 1)) rfl ?_
  refine vc_Si hC hR [.int a1, .int a2] fv_X12_360 (by decide +kernel : decode cX12_drop 20 = .ok (.invokestatic 360, 3)) hU (t_X12_at  H) rfl rfl (Nat.le_of_ble_eq_true rfl) (Nat.le_of_ble_eq_true rfl) (Nat.le_refl 0) (Nat.le_refl 0) (fun r_5 U_4 h H hU => ?_)
  refine pu_iald hC (by decide +kernel : decode cX12_drop 23 = .ok (.iaload, 1)) hU ho rfl H.1 ?_
  replace H := H.2
  refine pr_iconst hC (-1) (by decide +kernel : decode cX12_drop 24 = .ok (.iconst (-1), 1)) rfl ?_
  refine pr_icmp_eq hC 44 (by decide +kernel : decode cX12_drop 25 = .ok (.if_icmp .eq 19, 3)) (by decide) (fun c_25 => ?_) (fun c_25 => ?_)
  · replace H := H.1 c_25
    refine pr_bipush hC (-2) (by decide +kernel : decode cX12_drop 44 = .ok (.bipush (-2), 2)) rfl ?_
    exact pv_iret hM (by decide +kernel : decode cX12_drop 46 = .ok (.ireturn, 1)) hU H
  replace H := H.2 c_25
  refine pr_aload_n hC (by decide +kernel : decode cX12_drop 28 = .ok (.aload_n 0, 1)) rfl ?_
  refine pr_iload_n hC (by decide +kernel : decode cX12_drop 29 = .ok (.iload_n 1, 1)) rfl ?_
  refine vc_Vi hC hR [.int a1] fv_X12_382 (by decide +kernel : decode cX12_drop 30 = .ok (.invokevirtual 382, 3)) hU (t_X12_isPlayed ho H) ho (by decide) rfl rfl rfl (Nat.le_of_ble_eq_true rfl) (Nat.le_of_ble_eq_true rfl) (Nat.le_refl 0) (Nat.le_refl 0) (fun r_7 U_6 h H hU => ?_)
  refine pr_if_ne hC 44 (by decide +kernel : decode cX12_drop 33 = .ok (.ifCond .ne 11, 3)) (by decide) (fun c_33 => ?_) (fun c_33 => ?_)
  · replace H := H.2 c_33
    refine pr_bipush hC (-2) (by decide +kernel : decode cX12_drop 44 = .ok (.bipush (-2), 2)) rfl ?_
    exact pv_iret hM (by decide +kernel : decode cX12_drop 46 = .ok (.ireturn, 1)) hU H
  replace H := H.1 c_33
  refine pr_aload_n hC (by decide +kernel : decode cX12_drop 36 = .ok (.aload_n 0, 1)) rfl ?_
  refine pr_iload_n hC (by decide +kernel : decode cX12_drop 37 = .ok (.iload_n 1, 1)) rfl ?_
  refine vc_Vi hC hR [.int a1] fv_X12_385 (by decide +kernel : decode cX12_drop 38 = .ok (.invokevirtual 385, 3)) hU (t_X12_isLate ho H) ho (by decide) rfl rfl rfl (Nat.le_of_ble_eq_true rfl) (Nat.le_of_ble_eq_true rfl) (Nat.le_refl 0) (Nat.le_refl 0) (fun r_9 U_8 h H hU => ?_)
  refine pr_if_eq hC 47 (by decide +kernel : decode cX12_drop 41 = .ok (.ifCond .eq 6, 3)) (by decide) (fun c_41 => ?_) (fun c_41 => ?_)
  · replace H := H.1 c_41
    refine pr_aload_n hC (by decide +kernel : decode cX12_drop 47 = .ok (.aload_n 0, 1)) rfl ?_
    refine vc_Vv hC hR [] fv_X12_430 (by decide +kernel : decode cX12_drop 48 = .ok (.invokevirtual 430, 3)) hU (t_X12_keeps ho H) ho (by decide) rfl rfl rfl (Nat.le_of_ble_eq_true rfl) (Nat.le_of_ble_eq_true rfl) (Nat.le_refl 0) (Nat.le_refl 0) (fun U_10 h H hU => ?_)
    refine pr_aload_n hC (by decide +kernel : decode cX12_drop 51 = .ok (.aload_n 0, 1)) rfl ?_
    refine pu_g1 hC fg_X12_59 (by decide +kernel : decode cX12_drop 52 = .ok (.getfield 59, 3)) hU ho (by decide) rfl (by decide) ?_
    refine pr_iload_n hC (by decide +kernel : decode cX12_drop 55 = .ok (.iload_n 1, 1)) rfl ?_
    refine pr_iload_n hC (by decide +kernel : decode cX12_drop 56 = .ok (.iload_n 2, 1)) rfl ?_
    refine vc_Si hC hR [.int a1, .int a2] fv_X12_360 (by decide +kernel : decode cX12_drop 57 = .ok (.invokestatic 360, 3)) hU (t_X12_at  H) rfl rfl (Nat.le_of_ble_eq_true rfl) (Nat.le_of_ble_eq_true rfl) (Nat.le_refl 0) (Nat.le_refl 0) (fun r_13 U_12 h H hU => ?_)
    refine pu_iald hC (by decide +kernel : decode cX12_drop 60 = .ok (.iaload, 1)) hU ho rfl H.1 ?_
    replace H := H.2
    refine pv_topi (fun x3_14 e_x3_14 => ?_)
    replace H := H x3_14 e_x3_14
    refine pr_istore_n hC (by decide +kernel : decode cX12_drop 61 = .ok (.istore_n 3, 1)) (by decide) rfl ?_
    refine pr_aload_n hC (by decide +kernel : decode cX12_drop 62 = .ok (.aload_n 0, 1)) rfl ?_
    refine pu_g1 hC fg_X12_59 (by decide +kernel : decode cX12_drop 63 = .ok (.getfield 59, 3)) hU ho (by decide) rfl (by decide) ?_
    refine pr_iload_n hC (by decide +kernel : decode cX12_drop 66 = .ok (.iload_n 1, 1)) rfl ?_
    refine pr_iload_n hC (by decide +kernel : decode cX12_drop 67 = .ok (.iload_n 2, 1)) rfl ?_
    refine vc_Si hC hR [.int a1, .int a2] fv_X12_360 (by decide +kernel : decode cX12_drop 68 = .ok (.invokestatic 360, 3)) hU (t_X12_at  H) rfl rfl (Nat.le_of_ble_eq_true rfl) (Nat.le_of_ble_eq_true rfl) (Nat.le_refl 0) (Nat.le_refl 0) (fun r_16 U_15 h H hU => ?_)
    refine pr_iconst hC (-1) (by decide +kernel : decode cX12_drop 71 = .ok (.iconst (-1), 1)) rfl ?_
    refine pv_iast hC (by decide +kernel : decode cX12_drop 72 = .ok (.iastore, 1)) hU ho rfl H.1 (fun U_17 h e_U_17 hU => ?_)
    replace H := H.2 U_17 e_U_17
    refine pr_iload_n hC (by decide +kernel : decode cX12_drop 73 = .ok (.iload_n 3, 1)) rfl ?_
    exact pv_iret hM (by decide +kernel : decode cX12_drop 74 = .ok (.ireturn, 1)) hU H
  replace H := H.2 c_41
  refine pr_bipush hC (-2) (by decide +kernel : decode cX12_drop 44 = .ok (.bipush (-2), 2)) rfl ?_
  exact pv_iret hM (by decide +kernel : decode cX12_drop 46 = .ok (.ireturn, 1)) hU H
def w_X12_swaps (o : Nat) (a1 : Int32) (a2 : Int32) (a3 : Int32) (a4 : Int32) (U : Um) (post : Int32 → Um → Prop) : Prop :=
  w_X12_isSeat o a1 a2 U (fun r_2 U_1 => (r_2 = 0 → post (-1) U_1) ∧ (¬ r_2 = 0 → w_X12_isSeat o a3 a4 U_1 (fun r_4 U_3 => (r_4 = 0 → post (-1) U_3) ∧ (¬ r_4 = 0 → w_X12_isPlayed o a1 U_3 (fun r_6 U_5 => (r_6 = 0 → w_X12_isPlayed o a3 U_5 (fun r_8 U_7 => (r_8 = 0 → w_X12_at a1 a2 U_7 (fun r_10 U_9 => vp_in r_10 48 ∧ ∀ (x5_11 : Int32), x5_11 = uA U_9 o 30 (Int32.toNatClampNeg r_10) → w_X12_at a3 a4 U_9 (fun r_13 U_12 => vp_in r_13 48 ∧ ∀ (x6_14 : Int32), x6_14 = uA U_12 o 30 (Int32.toNatClampNeg r_13) → (x5_11 = (-1) → post (-3) U_12) ∧ (¬ x5_11 = (-1) → (x6_14 = (-1) → post (-3) U_12) ∧ (¬ x6_14 = (-1) → (a1 = a3 → post (-4) U_12) ∧ (¬ a1 = a3 → (x5_11 = x6_14 → post (-4) U_12) ∧ (¬ x5_11 = x6_14 → vp_in x5_11 10 ∧ vp_in x6_14 10 ∧ ((uA U_12 o 32 (Int32.toNatClampNeg x5_11)) = (uA U_12 o 32 (Int32.toNatClampNeg x6_14)) → w_X12_at a1 a2 U_12 (fun r_16 U_15 => vp_in r_16 48 ∧ ∀ (U_17 : Um), U_17 = sA U_15 o 30 (va_up (uA U_15 o 30) (Int32.toNatClampNeg r_16) (-1)) → w_X12_at a3 a4 U_17 (fun r_19 U_18 => vp_in r_19 48 ∧ ∀ (U_20 : Um), U_20 = sA U_18 o 30 (va_up (uA U_18 o 30) (Int32.toNatClampNeg r_19) (-1)) → w_X12_whyNot o a1 a2 x6_14 U_20 (fun r_22 U_21 => (∀ K_23 : Int32 → Um → Prop, (∀ (xs_24 : Int32) (U_25 : Um), (w_X12_at a1 a2 U_25 (fun r_27 U_26 => vp_in r_27 48 ∧ ∀ (U_28 : Um), U_28 = sA U_26 o 30 (va_up (uA U_26 o 30) (Int32.toNatClampNeg r_27) x5_11) → w_X12_at a3 a4 U_28 (fun r_30 U_29 => vp_in r_30 48 ∧ ∀ (U_31 : Um), U_31 = sA U_29 o 30 (va_up (uA U_29 o 30) (Int32.toNatClampNeg r_30) x6_14) → (xs_24 = 0 → post (-6) U_31) ∧ (¬ xs_24 = 0 → post 0 U_31)))) → K_23 xs_24 U_25) → (r_22 = 0 → w_X12_whyNot o a3 a4 x5_11 U_21 (fun r_33 U_32 => (r_33 = 0 → K_23 1 U_32) ∧ (¬ r_33 = 0 → K_23 0 U_32))) ∧ (¬ r_22 = 0 → K_23 0 U_21)))))) ∧ (¬ (uA U_12 o 32 (Int32.toNatClampNeg x5_11)) = (uA U_12 o 32 (Int32.toNatClampNeg x6_14)) → post (-5) U_12)))))))) ∧ (¬ r_8 = 0 → post (-2) U_7))) ∧ (¬ r_6 = 0 → post (-2) U_5))))))
set_option maxHeartbeats 4000000 in
theorem t_X12_swaps {l : Launch} {Y : px_Y} {o : Nat} {a1 : Int32} {a2 : Int32} {a3 : Int32} {a4 : Int32} {U : Um} {post : Int32 → Um → Prop} (ho : oc o = 10) (H : w_X12_swaps o a1 a2 a3 a4 U post) : um l Y 4 yX12_swaps cX12_swaps 8 (some (.int)) [.ref (Y.2.1 o), .int a1, .int a2, .int a3, .int a4] U (pq_i post) := by
  unfold w_X12_swaps at H
  refine um_of (by decide) (Nat.le_of_ble_eq_true rfl) [some (.ref (Y.2.1 o)), some (.int a1), some (.int a2), some (.int a3), some (.int a4), none, none, none] rfl (fun X h0 hh sz hM hU => ?_)
  have hC := hM.1
  have hR := hM.2.2.1
  refine pr_aload_n hC (by decide +kernel : decode cX12_swaps 0 = .ok (.aload_n 0, 1)) rfl ?_
  refine pr_iload_n hC (by decide +kernel : decode cX12_swaps 1 = .ok (.iload_n 1, 1)) rfl ?_
  refine pr_iload_n hC (by decide +kernel : decode cX12_swaps 2 = .ok (.iload_n 2, 1)) rfl ?_
  refine vc_Vi hC hR [.int a1, .int a2] fv_X12_388 (by decide +kernel : decode cX12_swaps 3 = .ok (.invokevirtual 388, 3)) hU (t_X12_isSeat ho H) ho (by decide) rfl rfl rfl (Nat.le_of_ble_eq_true rfl) (Nat.le_of_ble_eq_true rfl) (Nat.le_refl 0) (Nat.le_refl 0) (fun r_2 U_1 h H hU => ?_)
  refine pr_if_eq hC 19 (by decide +kernel : decode cX12_swaps 6 = .ok (.ifCond .eq 13, 3)) (by decide) (fun c_6 => ?_) (fun c_6 => ?_)
  · replace H := H.1 c_6
    refine pr_iconst hC (-1) (by decide +kernel : decode cX12_swaps 19 = .ok (.iconst (-1), 1)) rfl ?_
    exact pv_iret hM (by decide +kernel : decode cX12_swaps 20 = .ok (.ireturn, 1)) hU H
  replace H := H.2 c_6
  refine pr_aload_n hC (by decide +kernel : decode cX12_swaps 9 = .ok (.aload_n 0, 1)) rfl ?_
  refine pr_iload_n hC (by decide +kernel : decode cX12_swaps 10 = .ok (.iload_n 3, 1)) rfl ?_
  refine pr_iload hC (by decide +kernel : decode cX12_swaps 11 = .ok (.iload 4, 2)) rfl ?_
  refine vc_Vi hC hR [.int a3, .int a4] fv_X12_388 (by decide +kernel : decode cX12_swaps 13 = .ok (.invokevirtual 388, 3)) hU (t_X12_isSeat ho H) ho (by decide) rfl rfl rfl (Nat.le_of_ble_eq_true rfl) (Nat.le_of_ble_eq_true rfl) (Nat.le_refl 0) (Nat.le_refl 0) (fun r_4 U_3 h H hU => ?_)
  refine pr_if_ne hC 21 (by decide +kernel : decode cX12_swaps 16 = .ok (.ifCond .ne 5, 3)) (by decide) (fun c_16 => ?_) (fun c_16 => ?_)
  · replace H := H.2 c_16
    refine pr_aload_n hC (by decide +kernel : decode cX12_swaps 21 = .ok (.aload_n 0, 1)) rfl ?_
    refine pr_iload_n hC (by decide +kernel : decode cX12_swaps 22 = .ok (.iload_n 1, 1)) rfl ?_
    refine vc_Vi hC hR [.int a1] fv_X12_382 (by decide +kernel : decode cX12_swaps 23 = .ok (.invokevirtual 382, 3)) hU (t_X12_isPlayed ho H) ho (by decide) rfl rfl rfl (Nat.le_of_ble_eq_true rfl) (Nat.le_of_ble_eq_true rfl) (Nat.le_refl 0) (Nat.le_refl 0) (fun r_6 U_5 h H hU => ?_)
    refine pr_if_ne hC 37 (by decide +kernel : decode cX12_swaps 26 = .ok (.ifCond .ne 11, 3)) (by decide) (fun c_26 => ?_) (fun c_26 => ?_)
    · replace H := H.2 c_26
      refine pr_bipush hC (-2) (by decide +kernel : decode cX12_swaps 37 = .ok (.bipush (-2), 2)) rfl ?_
      exact pv_iret hM (by decide +kernel : decode cX12_swaps 39 = .ok (.ireturn, 1)) hU H
    replace H := H.1 c_26
    refine pr_aload_n hC (by decide +kernel : decode cX12_swaps 29 = .ok (.aload_n 0, 1)) rfl ?_
    refine pr_iload_n hC (by decide +kernel : decode cX12_swaps 30 = .ok (.iload_n 3, 1)) rfl ?_
    refine vc_Vi hC hR [.int a3] fv_X12_382 (by decide +kernel : decode cX12_swaps 31 = .ok (.invokevirtual 382, 3)) hU (t_X12_isPlayed ho H) ho (by decide) rfl rfl rfl (Nat.le_of_ble_eq_true rfl) (Nat.le_of_ble_eq_true rfl) (Nat.le_refl 0) (Nat.le_refl 0) (fun r_8 U_7 h H hU => ?_)
    refine pr_if_eq hC 40 (by decide +kernel : decode cX12_swaps 34 = .ok (.ifCond .eq 6, 3)) (by decide) (fun c_34 => ?_) (fun c_34 => ?_)
    · replace H := H.1 c_34
      refine pr_aload_n hC (by decide +kernel : decode cX12_swaps 40 = .ok (.aload_n 0, 1)) rfl ?_
      refine pu_g1 hC fg_X12_59 (by decide +kernel : decode cX12_swaps 41 = .ok (.getfield 59, 3)) hU ho (by decide) rfl (by decide) ?_
      refine pr_iload_n hC (by decide +kernel : decode cX12_swaps 44 = .ok (.iload_n 1, 1)) rfl ?_
      refine pr_iload_n hC (by decide +kernel : decode cX12_swaps 45 = .ok (.iload_n 2, 1)) rfl ?_
      refine vc_Si hC hR [.int a1, .int a2] fv_X12_360 (by decide +kernel : decode cX12_swaps 46 = .ok (.invokestatic 360, 3)) hU (t_X12_at  H) rfl rfl (Nat.le_of_ble_eq_true rfl) (Nat.le_of_ble_eq_true rfl) (Nat.le_refl 0) (Nat.le_refl 0) (fun r_10 U_9 h H hU => ?_)
      refine pu_iald hC (by decide +kernel : decode cX12_swaps 49 = .ok (.iaload, 1)) hU ho rfl H.1 ?_
      replace H := H.2
      refine pv_topi (fun x5_11 e_x5_11 => ?_)
      replace H := H x5_11 e_x5_11
      refine pr_istore hC (by decide +kernel : decode cX12_swaps 50 = .ok (.istore 5, 2)) (by decide) rfl ?_
      refine pr_aload_n hC (by decide +kernel : decode cX12_swaps 52 = .ok (.aload_n 0, 1)) rfl ?_
      refine pu_g1 hC fg_X12_59 (by decide +kernel : decode cX12_swaps 53 = .ok (.getfield 59, 3)) hU ho (by decide) rfl (by decide) ?_
      refine pr_iload_n hC (by decide +kernel : decode cX12_swaps 56 = .ok (.iload_n 3, 1)) rfl ?_
      refine pr_iload hC (by decide +kernel : decode cX12_swaps 57 = .ok (.iload 4, 2)) rfl ?_
      refine vc_Si hC hR [.int a3, .int a4] fv_X12_360 (by decide +kernel : decode cX12_swaps 59 = .ok (.invokestatic 360, 3)) hU (t_X12_at  H) rfl rfl (Nat.le_of_ble_eq_true rfl) (Nat.le_of_ble_eq_true rfl) (Nat.le_refl 0) (Nat.le_refl 0) (fun r_13 U_12 h H hU => ?_)
      refine pu_iald hC (by decide +kernel : decode cX12_swaps 62 = .ok (.iaload, 1)) hU ho rfl H.1 ?_
      replace H := H.2
      refine pv_topi (fun x6_14 e_x6_14 => ?_)
      replace H := H x6_14 e_x6_14
      refine pr_istore hC (by decide +kernel : decode cX12_swaps 63 = .ok (.istore 6, 2)) (by decide) rfl ?_
      refine pr_iload hC (by decide +kernel : decode cX12_swaps 65 = .ok (.iload 5, 2)) rfl ?_
      refine pr_iconst hC (-1) (by decide +kernel : decode cX12_swaps 67 = .ok (.iconst (-1), 1)) rfl ?_
      refine pr_icmp_eq hC 77 (by decide +kernel : decode cX12_swaps 68 = .ok (.if_icmp .eq 9, 3)) (by decide) (fun c_68 => ?_) (fun c_68 => ?_)
      · replace H := H.1 c_68
        refine pr_bipush hC (-3) (by decide +kernel : decode cX12_swaps 77 = .ok (.bipush (-3), 2)) rfl ?_
        exact pv_iret hM (by decide +kernel : decode cX12_swaps 79 = .ok (.ireturn, 1)) hU H
      replace H := H.2 c_68
      refine pr_iload hC (by decide +kernel : decode cX12_swaps 71 = .ok (.iload 6, 2)) rfl ?_
      refine pr_iconst hC (-1) (by decide +kernel : decode cX12_swaps 73 = .ok (.iconst (-1), 1)) rfl ?_
      refine pr_icmp_ne hC 80 (by decide +kernel : decode cX12_swaps 74 = .ok (.if_icmp .ne 6, 3)) (by decide) (fun c_74 => ?_) (fun c_74 => ?_)
      · replace H := H.2 c_74
        refine pr_iload_n hC (by decide +kernel : decode cX12_swaps 80 = .ok (.iload_n 1, 1)) rfl ?_
        refine pr_iload_n hC (by decide +kernel : decode cX12_swaps 81 = .ok (.iload_n 3, 1)) rfl ?_
        refine pr_icmp_eq hC 92 (by decide +kernel : decode cX12_swaps 82 = .ok (.if_icmp .eq 10, 3)) (by decide) (fun c_82 => ?_) (fun c_82 => ?_)
        · replace H := H.1 c_82
          refine pr_bipush hC (-4) (by decide +kernel : decode cX12_swaps 92 = .ok (.bipush (-4), 2)) rfl ?_
          exact pv_iret hM (by decide +kernel : decode cX12_swaps 94 = .ok (.ireturn, 1)) hU H
        replace H := H.2 c_82
        refine pr_iload hC (by decide +kernel : decode cX12_swaps 85 = .ok (.iload 5, 2)) rfl ?_
        refine pr_iload hC (by decide +kernel : decode cX12_swaps 87 = .ok (.iload 6, 2)) rfl ?_
        refine pr_icmp_ne hC 95 (by decide +kernel : decode cX12_swaps 89 = .ok (.if_icmp .ne 6, 3)) (by decide) (fun c_89 => ?_) (fun c_89 => ?_)
        · replace H := H.2 c_89
          refine pr_aload_n hC (by decide +kernel : decode cX12_swaps 95 = .ok (.aload_n 0, 1)) rfl ?_
          refine pu_g1 hC fg_X12_65 (by decide +kernel : decode cX12_swaps 96 = .ok (.getfield 65, 3)) hU ho (by decide) rfl (by decide) ?_
          refine pr_iload hC (by decide +kernel : decode cX12_swaps 99 = .ok (.iload 5, 2)) rfl ?_
          refine pu_iald hC (by decide +kernel : decode cX12_swaps 101 = .ok (.iaload, 1)) hU ho rfl H.1 ?_
          replace H := H.2
          refine pr_aload_n hC (by decide +kernel : decode cX12_swaps 102 = .ok (.aload_n 0, 1)) rfl ?_
          refine pu_g1 hC fg_X12_65 (by decide +kernel : decode cX12_swaps 103 = .ok (.getfield 65, 3)) hU ho (by decide) rfl (by decide) ?_
          refine pr_iload hC (by decide +kernel : decode cX12_swaps 106 = .ok (.iload 6, 2)) rfl ?_
          refine pu_iald hC (by decide +kernel : decode cX12_swaps 108 = .ok (.iaload, 1)) hU ho rfl H.1 ?_
          replace H := H.2
          refine pr_icmp_eq hC 115 (by decide +kernel : decode cX12_swaps 109 = .ok (.if_icmp .eq 6, 3)) (by decide) (fun c_109 => ?_) (fun c_109 => ?_)
          · replace H := H.1 c_109
            refine pr_aload_n hC (by decide +kernel : decode cX12_swaps 115 = .ok (.aload_n 0, 1)) rfl ?_
            refine pu_g1 hC fg_X12_59 (by decide +kernel : decode cX12_swaps 116 = .ok (.getfield 59, 3)) hU ho (by decide) rfl (by decide) ?_
            refine pr_iload_n hC (by decide +kernel : decode cX12_swaps 119 = .ok (.iload_n 1, 1)) rfl ?_
            refine pr_iload_n hC (by decide +kernel : decode cX12_swaps 120 = .ok (.iload_n 2, 1)) rfl ?_
            refine vc_Si hC hR [.int a1, .int a2] fv_X12_360 (by decide +kernel : decode cX12_swaps 121 = .ok (.invokestatic 360, 3)) hU (t_X12_at  H) rfl rfl (Nat.le_of_ble_eq_true rfl) (Nat.le_of_ble_eq_true rfl) (Nat.le_refl 0) (Nat.le_refl 0) (fun r_16 U_15 h H hU => ?_)
            refine pr_iconst hC (-1) (by decide +kernel : decode cX12_swaps 124 = .ok (.iconst (-1), 1)) rfl ?_
            refine pv_iast hC (by decide +kernel : decode cX12_swaps 125 = .ok (.iastore, 1)) hU ho rfl H.1 (fun U_17 h e_U_17 hU => ?_)
            replace H := H.2 U_17 e_U_17
            refine pr_aload_n hC (by decide +kernel : decode cX12_swaps 126 = .ok (.aload_n 0, 1)) rfl ?_
            refine pu_g1 hC fg_X12_59 (by decide +kernel : decode cX12_swaps 127 = .ok (.getfield 59, 3)) hU ho (by decide) rfl (by decide) ?_
            refine pr_iload_n hC (by decide +kernel : decode cX12_swaps 130 = .ok (.iload_n 3, 1)) rfl ?_
            refine pr_iload hC (by decide +kernel : decode cX12_swaps 131 = .ok (.iload 4, 2)) rfl ?_
            refine vc_Si hC hR [.int a3, .int a4] fv_X12_360 (by decide +kernel : decode cX12_swaps 133 = .ok (.invokestatic 360, 3)) hU (t_X12_at  H) rfl rfl (Nat.le_of_ble_eq_true rfl) (Nat.le_of_ble_eq_true rfl) (Nat.le_refl 0) (Nat.le_refl 0) (fun r_19 U_18 h H hU => ?_)
            refine pr_iconst hC (-1) (by decide +kernel : decode cX12_swaps 136 = .ok (.iconst (-1), 1)) rfl ?_
            refine pv_iast hC (by decide +kernel : decode cX12_swaps 137 = .ok (.iastore, 1)) hU ho rfl H.1 (fun U_20 h e_U_20 hU => ?_)
            replace H := H.2 U_20 e_U_20
            refine pr_aload_n hC (by decide +kernel : decode cX12_swaps 138 = .ok (.aload_n 0, 1)) rfl ?_
            refine pr_iload_n hC (by decide +kernel : decode cX12_swaps 139 = .ok (.iload_n 1, 1)) rfl ?_
            refine pr_iload_n hC (by decide +kernel : decode cX12_swaps 140 = .ok (.iload_n 2, 1)) rfl ?_
            refine pr_iload hC (by decide +kernel : decode cX12_swaps 141 = .ok (.iload 6, 2)) rfl ?_
            refine vc_Vi hC hR [.int a1, .int a2, .int x6_14] fv_X12_423 (by decide +kernel : decode cX12_swaps 143 = .ok (.invokevirtual 423, 3)) hU (t_X12_whyNot ho H) ho (by decide) rfl rfl rfl (Nat.le_of_ble_eq_true rfl) (Nat.le_of_ble_eq_true rfl) (Nat.le_refl 0) (Nat.le_refl 0) (fun r_22 U_21 h H hU => ?_)
            replace H := H (fun xs_24 U_25 => ∀ h : pe_H, rF Y h0 U_25 h → pw X Y.1 (pm_A hh sz) (pm_E X Y.1 hh sz 0 0 (pm_P Y h0 sz (pq_i post))) 166 [some (.ref (Y.2.1 o)), some (.int a1), some (.int a2), some (.int a3), some (.int a4), some (.int x5_11), some (.int x6_14), none] [.int xs_24] h sz 0 0) (by
              intro xs_24 U_25 H h hU
              refine pr_istore hC (by decide +kernel : decode cX12_swaps 166 = .ok (.istore 7, 2)) (by decide) rfl ?_
              refine pr_aload_n hC (by decide +kernel : decode cX12_swaps 168 = .ok (.aload_n 0, 1)) rfl ?_
              refine pu_g1 hC fg_X12_59 (by decide +kernel : decode cX12_swaps 169 = .ok (.getfield 59, 3)) hU ho (by decide) rfl (by decide) ?_
              refine pr_iload_n hC (by decide +kernel : decode cX12_swaps 172 = .ok (.iload_n 1, 1)) rfl ?_
              refine pr_iload_n hC (by decide +kernel : decode cX12_swaps 173 = .ok (.iload_n 2, 1)) rfl ?_
              refine vc_Si hC hR [.int a1, .int a2] fv_X12_360 (by decide +kernel : decode cX12_swaps 174 = .ok (.invokestatic 360, 3)) hU (t_X12_at  H) rfl rfl (Nat.le_of_ble_eq_true rfl) (Nat.le_of_ble_eq_true rfl) (Nat.le_refl 0) (Nat.le_refl 0) (fun r_27 U_26 h H hU => ?_)
              refine pr_iload hC (by decide +kernel : decode cX12_swaps 177 = .ok (.iload 5, 2)) rfl ?_
              refine pv_iast hC (by decide +kernel : decode cX12_swaps 179 = .ok (.iastore, 1)) hU ho rfl H.1 (fun U_28 h e_U_28 hU => ?_)
              replace H := H.2 U_28 e_U_28
              refine pr_aload_n hC (by decide +kernel : decode cX12_swaps 180 = .ok (.aload_n 0, 1)) rfl ?_
              refine pu_g1 hC fg_X12_59 (by decide +kernel : decode cX12_swaps 181 = .ok (.getfield 59, 3)) hU ho (by decide) rfl (by decide) ?_
              refine pr_iload_n hC (by decide +kernel : decode cX12_swaps 184 = .ok (.iload_n 3, 1)) rfl ?_
              refine pr_iload hC (by decide +kernel : decode cX12_swaps 185 = .ok (.iload 4, 2)) rfl ?_
              refine vc_Si hC hR [.int a3, .int a4] fv_X12_360 (by decide +kernel : decode cX12_swaps 187 = .ok (.invokestatic 360, 3)) hU (t_X12_at  H) rfl rfl (Nat.le_of_ble_eq_true rfl) (Nat.le_of_ble_eq_true rfl) (Nat.le_refl 0) (Nat.le_refl 0) (fun r_30 U_29 h H hU => ?_)
              refine pr_iload hC (by decide +kernel : decode cX12_swaps 190 = .ok (.iload 6, 2)) rfl ?_
              refine pv_iast hC (by decide +kernel : decode cX12_swaps 192 = .ok (.iastore, 1)) hU ho rfl H.1 (fun U_31 h e_U_31 hU => ?_)
              replace H := H.2 U_31 e_U_31
              refine pr_iload hC (by decide +kernel : decode cX12_swaps 193 = .ok (.iload 7, 2)) rfl ?_
              refine pr_if_eq hC 202 (by decide +kernel : decode cX12_swaps 195 = .ok (.ifCond .eq 7, 3)) (by decide) (fun c_195 => ?_) (fun c_195 => ?_)
              · replace H := H.1 c_195
                refine pr_bipush hC (-6) (by decide +kernel : decode cX12_swaps 202 = .ok (.bipush (-6), 2)) rfl ?_
                exact pv_iret hM (by decide +kernel : decode cX12_swaps 204 = .ok (.ireturn, 1)) hU H
              replace H := H.2 c_195
              refine pr_iconst hC (0) (by decide +kernel : decode cX12_swaps 198 = .ok (.iconst 0, 1)) rfl ?_
              refine pr_goto hC 204 (by decide +kernel : decode cX12_swaps 199 = .ok (.goto 5, 3)) (by decide) ?_
              exact pv_iret hM (by decide +kernel : decode cX12_swaps 204 = .ok (.ireturn, 1)) hU H)
            refine pr_if_ne hC 165 (by decide +kernel : decode cX12_swaps 146 = .ok (.ifCond .ne 19, 3)) (by decide) (fun c_146 => ?_) (fun c_146 => ?_)
            · replace H := H.2 c_146
              refine pr_iconst hC (0) (by decide +kernel : decode cX12_swaps 165 = .ok (.iconst 0, 1)) rfl ?_
              exact pv_sub [some (.ref (Y.2.1 o)), some (.int a1), some (.int a2), some (.int a3), some (.int a4), some (.int x5_11), some (.int x6_14), none] (And.intro rfl (And.intro rfl (And.intro rfl (And.intro rfl (And.intro rfl (And.intro rfl (And.intro rfl trivial))))))) (H h hU)
            replace H := H.1 c_146
            refine pr_aload_n hC (by decide +kernel : decode cX12_swaps 149 = .ok (.aload_n 0, 1)) rfl ?_
            refine pr_iload_n hC (by decide +kernel : decode cX12_swaps 150 = .ok (.iload_n 3, 1)) rfl ?_
            refine pr_iload hC (by decide +kernel : decode cX12_swaps 151 = .ok (.iload 4, 2)) rfl ?_
            refine pr_iload hC (by decide +kernel : decode cX12_swaps 153 = .ok (.iload 5, 2)) rfl ?_
            refine vc_Vi hC hR [.int a3, .int a4, .int x5_11] fv_X12_423 (by decide +kernel : decode cX12_swaps 155 = .ok (.invokevirtual 423, 3)) hU (t_X12_whyNot ho H) ho (by decide) rfl rfl rfl (Nat.le_of_ble_eq_true rfl) (Nat.le_of_ble_eq_true rfl) (Nat.le_refl 0) (Nat.le_refl 0) (fun r_33 U_32 h H hU => ?_)
            refine pr_if_ne hC 165 (by decide +kernel : decode cX12_swaps 158 = .ok (.ifCond .ne 7, 3)) (by decide) (fun c_158 => ?_) (fun c_158 => ?_)
            · replace H := H.2 c_158
              refine pr_iconst hC (0) (by decide +kernel : decode cX12_swaps 165 = .ok (.iconst 0, 1)) rfl ?_
              exact pv_sub [some (.ref (Y.2.1 o)), some (.int a1), some (.int a2), some (.int a3), some (.int a4), some (.int x5_11), some (.int x6_14), none] (And.intro rfl (And.intro rfl (And.intro rfl (And.intro rfl (And.intro rfl (And.intro rfl (And.intro rfl trivial))))))) (H h hU)
            replace H := H.1 c_158
            refine pr_iconst hC (1) (by decide +kernel : decode cX12_swaps 161 = .ok (.iconst 1, 1)) rfl ?_
            refine pr_goto hC 166 (by decide +kernel : decode cX12_swaps 162 = .ok (.goto 4, 3)) (by decide) ?_
            exact pv_sub [some (.ref (Y.2.1 o)), some (.int a1), some (.int a2), some (.int a3), some (.int a4), some (.int x5_11), some (.int x6_14), none] (And.intro rfl (And.intro rfl (And.intro rfl (And.intro rfl (And.intro rfl (And.intro rfl (And.intro rfl trivial))))))) (H h hU)
          replace H := H.2 c_109
          refine pr_bipush hC (-5) (by decide +kernel : decode cX12_swaps 112 = .ok (.bipush (-5), 2)) rfl ?_
          exact pv_iret hM (by decide +kernel : decode cX12_swaps 114 = .ok (.ireturn, 1)) hU H
        replace H := H.1 c_89
        refine pr_bipush hC (-4) (by decide +kernel : decode cX12_swaps 92 = .ok (.bipush (-4), 2)) rfl ?_
        exact pv_iret hM (by decide +kernel : decode cX12_swaps 94 = .ok (.ireturn, 1)) hU H
      replace H := H.1 c_74
      refine pr_bipush hC (-3) (by decide +kernel : decode cX12_swaps 77 = .ok (.bipush (-3), 2)) rfl ?_
      exact pv_iret hM (by decide +kernel : decode cX12_swaps 79 = .ok (.ireturn, 1)) hU H
    replace H := H.2 c_34
    refine pr_bipush hC (-2) (by decide +kernel : decode cX12_swaps 37 = .ok (.bipush (-2), 2)) rfl ?_
    exact pv_iret hM (by decide +kernel : decode cX12_swaps 39 = .ok (.ireturn, 1)) hU H
  replace H := H.1 c_16
  refine pr_iconst hC (-1) (by decide +kernel : decode cX12_swaps 19 = .ok (.iconst (-1), 1)) rfl ?_
  exact pv_iret hM (by decide +kernel : decode cX12_swaps 20 = .ok (.ireturn, 1)) hU H
def w_X12_exchanges (o : Nat) (a1 : Int32) (a2 : Int32) (U : Um) (post : Um → Prop) : Prop :=
  vp_in a1 48 ∧ ∀ (x3_1 : Int32), x3_1 = uA U o 30 (Int32.toNatClampNeg a1) → vp_in a2 48 ∧ vp_in a1 48 ∧ ∀ (U_2 : Um), U_2 = sA U o 30 (va_up (uA U o 30) (Int32.toNatClampNeg a1) (uA U o 30 (Int32.toNatClampNeg a2))) → vp_in a2 48 ∧ ∀ (U_3 : Um), U_3 = sA U_2 o 30 (va_up (uA U_2 o 30) (Int32.toNatClampNeg a2) x3_1) → post U_3
set_option maxHeartbeats 4000000 in
theorem t_X12_exchanges {l : Launch} {Y : px_Y} {o : Nat} {a1 : Int32} {a2 : Int32} {U : Um} {post : Um → Prop} (ho : oc o = 10) (H : w_X12_exchanges o a1 a2 U post) : um l Y 0 yX12_exchanges cX12_exchanges 4 none [.ref (Y.2.1 o), .int a1, .int a2] U (pq_v post) := by
  unfold w_X12_exchanges at H
  refine um_of (by decide) (Nat.le_of_ble_eq_true rfl) [some (.ref (Y.2.1 o)), some (.int a1), some (.int a2), none] rfl (fun X h0 hh sz hM hU => ?_)
  have hC := hM.1
  have hR := hM.2.2.1
  refine pr_aload_n hC (by decide +kernel : decode cX12_exchanges 0 = .ok (.aload_n 0, 1)) rfl ?_
  refine pu_g1 hC fg_X12_59 (by decide +kernel : decode cX12_exchanges 1 = .ok (.getfield 59, 3)) hU ho (by decide) rfl (by decide) ?_
  refine pr_iload_n hC (by decide +kernel : decode cX12_exchanges 4 = .ok (.iload_n 1, 1)) rfl ?_
  refine pu_iald hC (by decide +kernel : decode cX12_exchanges 5 = .ok (.iaload, 1)) hU ho rfl H.1 ?_
  replace H := H.2
  refine pv_topi (fun x3_1 e_x3_1 => ?_)
  replace H := H x3_1 e_x3_1
  refine pr_istore_n hC (by decide +kernel : decode cX12_exchanges 6 = .ok (.istore_n 3, 1)) (by decide) rfl ?_
  refine pr_aload_n hC (by decide +kernel : decode cX12_exchanges 7 = .ok (.aload_n 0, 1)) rfl ?_
  refine pu_g1 hC fg_X12_59 (by decide +kernel : decode cX12_exchanges 8 = .ok (.getfield 59, 3)) hU ho (by decide) rfl (by decide) ?_
  refine pr_iload_n hC (by decide +kernel : decode cX12_exchanges 11 = .ok (.iload_n 1, 1)) rfl ?_
  refine pr_aload_n hC (by decide +kernel : decode cX12_exchanges 12 = .ok (.aload_n 0, 1)) rfl ?_
  refine pu_g1 hC fg_X12_59 (by decide +kernel : decode cX12_exchanges 13 = .ok (.getfield 59, 3)) hU ho (by decide) rfl (by decide) ?_
  refine pr_iload_n hC (by decide +kernel : decode cX12_exchanges 16 = .ok (.iload_n 2, 1)) rfl ?_
  refine pu_iald hC (by decide +kernel : decode cX12_exchanges 17 = .ok (.iaload, 1)) hU ho rfl H.1 ?_
  replace H := H.2
  refine pv_iast hC (by decide +kernel : decode cX12_exchanges 18 = .ok (.iastore, 1)) hU ho rfl H.1 (fun U_2 h e_U_2 hU => ?_)
  replace H := H.2 U_2 e_U_2
  refine pr_aload_n hC (by decide +kernel : decode cX12_exchanges 19 = .ok (.aload_n 0, 1)) rfl ?_
  refine pu_g1 hC fg_X12_59 (by decide +kernel : decode cX12_exchanges 20 = .ok (.getfield 59, 3)) hU ho (by decide) rfl (by decide) ?_
  refine pr_iload_n hC (by decide +kernel : decode cX12_exchanges 23 = .ok (.iload_n 2, 1)) rfl ?_
  refine pr_iload_n hC (by decide +kernel : decode cX12_exchanges 24 = .ok (.iload_n 3, 1)) rfl ?_
  refine pv_iast hC (by decide +kernel : decode cX12_exchanges 25 = .ok (.iastore, 1)) hU ho rfl H.1 (fun U_3 h e_U_3 hU => ?_)
  replace H := H.2 U_3 e_U_3
  exact pv_vret hM (by decide +kernel : decode cX12_exchanges 26 = .ok (.return_, 1)) hU H
def w_X12_swap (o : Nat) (a1 : Int32) (a2 : Int32) (a3 : Int32) (a4 : Int32) (U : Um) (post : Int32 → Um → Prop) : Prop :=
  ∀ (U_1 : Um), U_1 = sI U o 0 0 → w_X12_swaps o a1 a2 a3 a4 U_1 (fun r_3 U_2 => (r_3 = 0 → w_X12_keeps o U_2 (fun U_4 => w_X12_at a1 a2 U_4 (fun r_7 U_6 => w_X12_at a3 a4 U_6 (fun r_9 U_8 => w_X12_exchanges o r_7 r_9 U_8 (fun U_10 => post 0 U_10))))) ∧ (¬ r_3 = 0 → post r_3 U_2))
set_option maxHeartbeats 4000000 in
theorem t_X12_swap {l : Launch} {Y : px_Y} {o : Nat} {a1 : Int32} {a2 : Int32} {a3 : Int32} {a4 : Int32} {U : Um} {post : Int32 → Um → Prop} (ho : oc o = 10) (H : w_X12_swap o a1 a2 a3 a4 U post) : um l Y 5 yX12_swap cX12_swap 6 (some (.int)) [.ref (Y.2.1 o), .int a1, .int a2, .int a3, .int a4] U (pq_i post) := by
  unfold w_X12_swap at H
  refine um_of (by decide) (Nat.le_of_ble_eq_true rfl) [some (.ref (Y.2.1 o)), some (.int a1), some (.int a2), some (.int a3), some (.int a4), none] rfl (fun X h0 hh sz hM hU => ?_)
  have hC := hM.1
  have hR := hM.2.2.1
  refine pr_aload_n hC (by decide +kernel : decode cX12_swap 0 = .ok (.aload_n 0, 1)) rfl ?_
  refine pr_iconst hC (0) (by decide +kernel : decode cX12_swap 1 = .ok (.iconst 0, 1)) rfl ?_
  refine pv_p0 hC fp_X12_121 (by decide +kernel : decode cX12_swap 2 = .ok (.putfield 121, 3)) hU ho (by decide) rfl rfl rfl rfl (fun U_1 h e_U_1 hU => ?_)
  replace H := H U_1 e_U_1
  refine pr_aload_n hC (by decide +kernel : decode cX12_swap 5 = .ok (.aload_n 0, 1)) rfl ?_
  refine pr_iload_n hC (by decide +kernel : decode cX12_swap 6 = .ok (.iload_n 1, 1)) rfl ?_
  refine pr_iload_n hC (by decide +kernel : decode cX12_swap 7 = .ok (.iload_n 2, 1)) rfl ?_
  refine pr_iload_n hC (by decide +kernel : decode cX12_swap 8 = .ok (.iload_n 3, 1)) rfl ?_
  refine pr_iload hC (by decide +kernel : decode cX12_swap 9 = .ok (.iload 4, 2)) rfl ?_
  refine vc_Vi hC hR [.int a1, .int a2, .int a3, .int a4] fv_X12_433 (by decide +kernel : decode cX12_swap 11 = .ok (.invokevirtual 433, 3)) hU (t_X12_swaps ho H) ho (by decide) rfl rfl rfl (Nat.le_of_ble_eq_true rfl) (Nat.le_of_ble_eq_true rfl) (Nat.le_refl 0) (Nat.le_refl 0) (fun r_3 U_2 h H hU => ?_)
  refine pr_istore hC (by decide +kernel : decode cX12_swap 14 = .ok (.istore 5, 2)) (by decide) rfl ?_
  refine pr_iload hC (by decide +kernel : decode cX12_swap 16 = .ok (.iload 5, 2)) rfl ?_
  refine pr_if_eq hC 24 (by decide +kernel : decode cX12_swap 18 = .ok (.ifCond .eq 6, 3)) (by decide) (fun c_18 => ?_) (fun c_18 => ?_)
  · replace H := H.1 c_18
    refine pr_aload_n hC (by decide +kernel : decode cX12_swap 24 = .ok (.aload_n 0, 1)) rfl ?_
    refine vc_Vv hC hR [] fv_X12_430 (by decide +kernel : decode cX12_swap 25 = .ok (.invokevirtual 430, 3)) hU (t_X12_keeps ho H) ho (by decide) rfl rfl rfl (Nat.le_of_ble_eq_true rfl) (Nat.le_of_ble_eq_true rfl) (Nat.le_refl 0) (Nat.le_refl 0) (fun U_4 h H hU => ?_)
    refine pr_aload_n hC (by decide +kernel : decode cX12_swap 28 = .ok (.aload_n 0, 1)) rfl ?_
    refine pr_iload_n hC (by decide +kernel : decode cX12_swap 29 = .ok (.iload_n 1, 1)) rfl ?_
    refine pr_iload_n hC (by decide +kernel : decode cX12_swap 30 = .ok (.iload_n 2, 1)) rfl ?_
    refine vc_Si hC hR [.int a1, .int a2] fv_X12_360 (by decide +kernel : decode cX12_swap 31 = .ok (.invokestatic 360, 3)) hU (t_X12_at  H) rfl rfl (Nat.le_of_ble_eq_true rfl) (Nat.le_of_ble_eq_true rfl) (Nat.le_refl 0) (Nat.le_refl 0) (fun r_7 U_6 h H hU => ?_)
    refine pr_iload_n hC (by decide +kernel : decode cX12_swap 34 = .ok (.iload_n 3, 1)) rfl ?_
    refine pr_iload hC (by decide +kernel : decode cX12_swap 35 = .ok (.iload 4, 2)) rfl ?_
    refine vc_Si hC hR [.int a3, .int a4] fv_X12_360 (by decide +kernel : decode cX12_swap 37 = .ok (.invokestatic 360, 3)) hU (t_X12_at  H) rfl rfl (Nat.le_of_ble_eq_true rfl) (Nat.le_of_ble_eq_true rfl) (Nat.le_refl 0) (Nat.le_refl 0) (fun r_9 U_8 h H hU => ?_)
    refine vc_Vv hC hR [.int r_7, .int r_9] fv_X12_437 (by decide +kernel : decode cX12_swap 40 = .ok (.invokevirtual 437, 3)) hU (t_X12_exchanges ho H) ho (by decide) rfl rfl rfl (Nat.le_of_ble_eq_true rfl) (Nat.le_of_ble_eq_true rfl) (Nat.le_refl 0) (Nat.le_refl 0) (fun U_10 h H hU => ?_)
    refine pr_iconst hC (0) (by decide +kernel : decode cX12_swap 43 = .ok (.iconst 0, 1)) rfl ?_
    exact pv_iret hM (by decide +kernel : decode cX12_swap 44 = .ok (.ireturn, 1)) hU H
  replace H := H.2 c_18
  refine pr_iload hC (by decide +kernel : decode cX12_swap 21 = .ok (.iload 5, 2)) rfl ?_
  exact pv_iret hM (by decide +kernel : decode cX12_swap 23 = .ok (.ireturn, 1)) hU H
def w_X12_could (o : Nat) (a1 : Int32) (a2 : Int32) (a3 : Int32) (a4 : Int32) (U : Um) (post : Int32 → Um → Prop) : Prop :=
  ∀ (U_1 : Um), U_1 = sI U o 0 0 → w_X12_swaps o a1 a2 a3 a4 U_1 (fun r_3 U_2 => post r_3 U_2)
set_option maxHeartbeats 4000000 in
theorem t_X12_could {l : Launch} {Y : px_Y} {o : Nat} {a1 : Int32} {a2 : Int32} {a3 : Int32} {a4 : Int32} {U : Um} {post : Int32 → Um → Prop} (ho : oc o = 10) (H : w_X12_could o a1 a2 a3 a4 U post) : um l Y 5 yX12_could cX12_could 5 (some (.int)) [.ref (Y.2.1 o), .int a1, .int a2, .int a3, .int a4] U (pq_i post) := by
  unfold w_X12_could at H
  refine um_of (by decide) (Nat.le_of_ble_eq_true rfl) [some (.ref (Y.2.1 o)), some (.int a1), some (.int a2), some (.int a3), some (.int a4)] rfl (fun X h0 hh sz hM hU => ?_)
  have hC := hM.1
  have hR := hM.2.2.1
  refine pr_aload_n hC (by decide +kernel : decode cX12_could 0 = .ok (.aload_n 0, 1)) rfl ?_
  refine pr_iconst hC (0) (by decide +kernel : decode cX12_could 1 = .ok (.iconst 0, 1)) rfl ?_
  refine pv_p0 hC fp_X12_121 (by decide +kernel : decode cX12_could 2 = .ok (.putfield 121, 3)) hU ho (by decide) rfl rfl rfl rfl (fun U_1 h e_U_1 hU => ?_)
  replace H := H U_1 e_U_1
  refine pr_aload_n hC (by decide +kernel : decode cX12_could 5 = .ok (.aload_n 0, 1)) rfl ?_
  refine pr_iload_n hC (by decide +kernel : decode cX12_could 6 = .ok (.iload_n 1, 1)) rfl ?_
  refine pr_iload_n hC (by decide +kernel : decode cX12_could 7 = .ok (.iload_n 2, 1)) rfl ?_
  refine pr_iload_n hC (by decide +kernel : decode cX12_could 8 = .ok (.iload_n 3, 1)) rfl ?_
  refine pr_iload hC (by decide +kernel : decode cX12_could 9 = .ok (.iload 4, 2)) rfl ?_
  refine vc_Vi hC hR [.int a1, .int a2, .int a3, .int a4] fv_X12_433 (by decide +kernel : decode cX12_could 11 = .ok (.invokevirtual 433, 3)) hU (t_X12_swaps ho H) ho (by decide) rfl rfl rfl (Nat.le_of_ble_eq_true rfl) (Nat.le_of_ble_eq_true rfl) (Nat.le_refl 0) (Nat.le_refl 0) (fun r_3 U_2 h H hU => ?_)
  exact pv_iret hM (by decide +kernel : decode cX12_could 14 = .ok (.ireturn, 1)) hU H
def b_X12_able_L21 (o0 : Nat) (x1 : Int32) (x2 : Int32) (post : Int32 → Um → Prop) (k_63 : Int32 → Um → Prop) (rec_ : Int32 → Int32 → Um → Prop) (x3 : Int32) (x4 : Int32) (U : Um) : Prop :=
  vp_in 2 14 ∧ ((uA U o0 11 (Int32.toNatClampNeg 2)) ≤ x4 → k_63 x3 U) ∧ (¬ (uA U o0 11 (Int32.toNatClampNeg 2)) ≤ x4 → w_X12_whyOf o0 x1 x2 x4 U (fun r_5 U_4 => ∀ (xs_6 : Int32), xs_6 = (if r_5 = 0 then 1 else 0) → w_X12_one xs_6 U_4 (fun r_8 U_7 => ∀ (x3_9 : Int32), x3_9 = x3 ||| (r_8 <<< (x4 &&& 31)) → ∀ (x4_10 : Int32), x4_10 = x4 + 1 → rec_ x3_9 x4_10 U_7)))
def w_X12_able_L21 (o0 : Nat) (x1 : Int32) (x2 : Int32) (post : Int32 → Um → Prop) (k_63 : Int32 → Um → Prop) (n_ : Nat) : Int32 → Int32 → Um → Prop := Nat.rec (motive := fun _ => Int32 → Int32 → Um → Prop) (fun _ _ _ => False) (fun _ ih => b_X12_able_L21 o0 x1 x2 post k_63 ih) n_
def w_X12_able (o : Nat) (a1 : Int32) (a2 : Int32) (U : Um) (post : Int32 → Um → Prop) : Prop :=
  ∀ (U_1 : Um), U_1 = sI U o 0 0 → w_X12_isSeat o a1 a2 U_1 (fun r_3 U_2 => (r_3 = 0 → post (-1) U_2) ∧ (¬ r_3 = 0 → (∃ n_14, w_X12_able_L21 o a1 a2 post (fun x3_12 U_13 => post x3_12 U_13) n_14 0 0 U_2)))
set_option maxHeartbeats 4000000 in
theorem tl_X12_able_L21 {l : Launch} {Y : px_Y} {X : px_X} {h0 hh : pe_H} {sz : Nat} (o0 : Nat) (x1 : Int32) (x2 : Int32) (post : Int32 → Um → Prop) (k_63 : Int32 → Um → Prop) (ho0 : oc o0 = 10)  (hC : px_C X Y.1 (pm_A hh sz) cX12_able RX12 5) (hM : px_M l X Y.1 hh sz yX12_able cX12_able 5 (some (.int)) 5 0 0) (hR : X.2.2.2.1 = pm_rm 5 0 0) (hk_63 : ∀ (y3 : Int32) (U : Um) (h : pe_H), k_63 y3 U → rF Y h0 U h → pw X Y.1 (pm_A hh sz) (pm_E X Y.1 hh sz 0 0 (pm_P Y h0 sz (pq_i post))) 63 [none, none, none, some (.int y3), none] [] h sz 0 0) : ∀ (n_ : Nat) (x3 : Int32) (x4 : Int32) (U : Um) (h : pe_H), rF Y h0 U h → w_X12_able_L21 o0 x1 x2 post k_63 n_ x3 x4 U → pw X Y.1 (pm_A hh sz) (pm_E X Y.1 hh sz 0 0 (pm_P Y h0 sz (pq_i post))) 21 [some (.ref (Y.2.1 o0)), some (.int x1), some (.int x2), some (.int x3), some (.int x4)] [] h sz 0 0 := by
  intro n_
  induction n_ with
  | zero => intro x3 x4 U h hU H; exact False.elim H
  | succ n_ ih =>
    intro x3 x4 U h hU H
    replace H : b_X12_able_L21 o0 x1 x2 post k_63 (w_X12_able_L21 o0 x1 x2 post k_63 n_) x3 x4 U := H
    unfold b_X12_able_L21 at H
    refine pr_iload hC (by decide +kernel : decode cX12_able 21 = .ok (.iload 4, 2)) rfl ?_
    refine pr_aload_n hC (by decide +kernel : decode cX12_able 23 = .ok (.aload_n 0, 1)) rfl ?_
    refine pu_g1 hC fg_X12_43 (by decide +kernel : decode cX12_able 24 = .ok (.getfield 43, 3)) hU ho0 (by decide) rfl (by decide) ?_
    refine pr_iconst hC (2) (by decide +kernel : decode cX12_able 27 = .ok (.iconst 2, 1)) rfl ?_
    refine pu_iald hC (by decide +kernel : decode cX12_able 28 = .ok (.iaload, 1)) hU ho0 rfl H.1 ?_
    replace H := H.2
    refine pr_icmp_ge hC 63 (by decide +kernel : decode cX12_able 29 = .ok (.if_icmp .ge 34, 3)) (by decide) (fun c_29 => ?_) (fun c_29 => ?_)
    · replace H := H.1 c_29
      exact pv_sub [none, none, none, some (.int x3), none] (And.intro rfl trivial) (hk_63 _ U h H hU)
    replace H := H.2 c_29
    refine pr_iload_n hC (by decide +kernel : decode cX12_able 32 = .ok (.iload_n 3, 1)) rfl ?_
    refine pr_aload_n hC (by decide +kernel : decode cX12_able 33 = .ok (.aload_n 0, 1)) rfl ?_
    refine pr_iload_n hC (by decide +kernel : decode cX12_able 34 = .ok (.iload_n 1, 1)) rfl ?_
    refine pr_iload_n hC (by decide +kernel : decode cX12_able 35 = .ok (.iload_n 2, 1)) rfl ?_
    refine pr_iload hC (by decide +kernel : decode cX12_able 36 = .ok (.iload 4, 2)) rfl ?_
    refine vc_Vi hC hR [.int x1, .int x2, .int x4] fv_X12_427 (by decide +kernel : decode cX12_able 38 = .ok (.invokevirtual 427, 3)) hU (t_X12_whyOf ho0 H) ho0 (by decide) rfl rfl rfl (Nat.le_of_ble_eq_true rfl) (Nat.le_of_ble_eq_true rfl) (Nat.le_refl 0) (Nat.le_refl 0) (fun r_5 U_4 h H hU => ?_)
    have HJ_11 : ∀ (xs_6 : Int32), xs_6 = (if r_5 = 0 then 1 else 0) → pw X Y.1 (pm_A hh sz) (pm_E X Y.1 hh sz 0 0 (pm_P Y h0 sz (pq_i post))) 49 [some (.ref (Y.2.1 o0)), some (.int x1), some (.int x2), none, some (.int x4)] [.int xs_6, .int x3] h sz 0 0 := by
      intro xs_6 e_xs_6
      replace H := H xs_6 e_xs_6
      refine vc_Si hC hR [.int xs_6] fv_X12_357 (by decide +kernel : decode cX12_able 49 = .ok (.invokestatic 357, 3)) hU (t_X12_one  H) rfl rfl (Nat.le_of_ble_eq_true rfl) (Nat.le_of_ble_eq_true rfl) (Nat.le_refl 0) (Nat.le_refl 0) (fun r_8 U_7 h H hU => ?_)
      refine pr_iload hC (by decide +kernel : decode cX12_able 52 = .ok (.iload 4, 2)) rfl ?_
      refine pr_ishl hC (by decide +kernel : decode cX12_able 54 = .ok (.ishl, 1)) ?_
      refine pr_ior hC (by decide +kernel : decode cX12_able 55 = .ok (.ior, 1)) ?_
      refine pv_topi (fun x3_9 e_x3_9 => ?_)
      replace H := H x3_9 e_x3_9
      refine pr_istore_n hC (by decide +kernel : decode cX12_able 56 = .ok (.istore_n 3, 1)) (by decide) rfl ?_
      refine pv_iinc hC (v := x4 + 1) (by decide +kernel : decode cX12_able 57 = .ok (.iinc 4 1, 3)) rfl (by decide) rfl rfl (fun x4_10 e_x4_10 => ?_)
      replace H := H x4_10 e_x4_10
      refine pr_goto hC 21 (by decide +kernel : decode cX12_able 60 = .ok (.goto (-39), 3)) (by decide) ?_
      exact pv_sub [some (.ref (Y.2.1 o0)), some (.int x1), some (.int x2), some (.int x3_9), some (.int x4_10)] (And.intro rfl (And.intro rfl (And.intro rfl (And.intro rfl (And.intro rfl trivial))))) (ih _ _ U_7 h hU H)
    replace H := trivial
    refine pr_if_ne hC 48 (by decide +kernel : decode cX12_able 41 = .ok (.ifCond .ne 7, 3)) (by decide) (fun c_41 => ?_) (fun c_41 => ?_)
    · skip
      refine pr_iconst hC (0) (by decide +kernel : decode cX12_able 48 = .ok (.iconst 0, 1)) rfl ?_
      exact pv_sub [some (.ref (Y.2.1 o0)), some (.int x1), some (.int x2), none, some (.int x4)] (And.intro rfl (And.intro rfl (And.intro rfl (And.intro rfl trivial)))) (HJ_11 _ (if_neg c_41).symm)
    skip
    refine pr_iconst hC (1) (by decide +kernel : decode cX12_able 44 = .ok (.iconst 1, 1)) rfl ?_
    refine pr_goto hC 49 (by decide +kernel : decode cX12_able 45 = .ok (.goto 4, 3)) (by decide) ?_
    exact pv_sub [some (.ref (Y.2.1 o0)), some (.int x1), some (.int x2), none, some (.int x4)] (And.intro rfl (And.intro rfl (And.intro rfl (And.intro rfl trivial)))) (HJ_11 _ (if_pos c_41).symm)
set_option maxHeartbeats 4000000 in
theorem t_X12_able {l : Launch} {Y : px_Y} {o : Nat} {a1 : Int32} {a2 : Int32} {U : Um} {post : Int32 → Um → Prop} (ho : oc o = 10) (H : w_X12_able o a1 a2 U post) : um l Y 5 yX12_able cX12_able 5 (some (.int)) [.ref (Y.2.1 o), .int a1, .int a2] U (pq_i post) := by
  unfold w_X12_able at H
  refine um_of (by decide) (Nat.le_of_ble_eq_true rfl) [some (.ref (Y.2.1 o)), some (.int a1), some (.int a2), none, none] rfl (fun X h0 hh sz hM hU => ?_)
  have hC := hM.1
  have hR := hM.2.2.1
  refine pr_aload_n hC (by decide +kernel : decode cX12_able 0 = .ok (.aload_n 0, 1)) rfl ?_
  refine pr_iconst hC (0) (by decide +kernel : decode cX12_able 1 = .ok (.iconst 0, 1)) rfl ?_
  refine pv_p0 hC fp_X12_121 (by decide +kernel : decode cX12_able 2 = .ok (.putfield 121, 3)) hU ho (by decide) rfl rfl rfl rfl (fun U_1 h e_U_1 hU => ?_)
  replace H := H U_1 e_U_1
  refine pr_aload_n hC (by decide +kernel : decode cX12_able 5 = .ok (.aload_n 0, 1)) rfl ?_
  refine pr_iload_n hC (by decide +kernel : decode cX12_able 6 = .ok (.iload_n 1, 1)) rfl ?_
  refine pr_iload_n hC (by decide +kernel : decode cX12_able 7 = .ok (.iload_n 2, 1)) rfl ?_
  refine vc_Vi hC hR [.int a1, .int a2] fv_X12_388 (by decide +kernel : decode cX12_able 8 = .ok (.invokevirtual 388, 3)) hU (t_X12_isSeat ho H) ho (by decide) rfl rfl rfl (Nat.le_of_ble_eq_true rfl) (Nat.le_of_ble_eq_true rfl) (Nat.le_refl 0) (Nat.le_refl 0) (fun r_3 U_2 h H hU => ?_)
  refine pr_if_ne hC 16 (by decide +kernel : decode cX12_able 11 = .ok (.ifCond .ne 5, 3)) (by decide) (fun c_11 => ?_) (fun c_11 => ?_)
  · replace H := H.2 c_11
    refine pr_iconst hC (0) (by decide +kernel : decode cX12_able 16 = .ok (.iconst 0, 1)) rfl ?_
    refine pr_istore_n hC (by decide +kernel : decode cX12_able 17 = .ok (.istore_n 3, 1)) (by decide) rfl ?_
    refine pr_iconst hC (0) (by decide +kernel : decode cX12_able 18 = .ok (.iconst 0, 1)) rfl ?_
    refine pr_istore hC (by decide +kernel : decode cX12_able 19 = .ok (.istore 4, 2)) (by decide) rfl ?_
    obtain ⟨n_14, H⟩ := H
    refine pv_sub [some (.ref (Y.2.1 o)), some (.int a1), some (.int a2), some (.int 0), some (.int 0)] (And.intro rfl (And.intro rfl (And.intro rfl (And.intro rfl (And.intro rfl trivial))))) ?_
    refine tl_X12_able_L21 _ _ _ _ _ ho hC hM hR (fun x3_12 U_13 h H hU => ?_) n_14 _ _ U_2 h hU H
    refine pr_iload_n hC (by decide +kernel : decode cX12_able 63 = .ok (.iload_n 3, 1)) rfl ?_
    exact pv_iret hM (by decide +kernel : decode cX12_able 64 = .ok (.ireturn, 1)) hU H
  replace H := H.1 c_11
  refine pr_iconst hC (-1) (by decide +kernel : decode cX12_able 14 = .ok (.iconst (-1), 1)) rfl ?_
  exact pv_iret hM (by decide +kernel : decode cX12_able 15 = .ok (.ireturn, 1)) hU H
def b_X12_laysDay_L58 (o0 : Nat) (x1 : Int32) (x2 : Int32) (x3 : Int32) (x4 : Int32) (x5 : Int32) (x6 : Int32) (post : Int32 → Um → Prop) (k_109 : Int32 → Um → Prop) (rec_ : Int32 → Um → Prop) (x7 : Int32) (U : Um) : Prop :=
  (x7 ≤ 0 → k_109 x7 U) ∧ (¬ x7 ≤ 0 → vp_in (x7 - 1) 16 ∧ w_X12_of o0 (uA U o0 39 (Int32.toNatClampNeg (x7 - 1))) 4 U (fun r_8 U_7 => w_X12_of o0 x6 4 U_7 (fun r_10 U_9 => (r_8 ≤ r_10 → k_109 x7 U_9) ∧ (¬ r_8 ≤ r_10 → vp_in (x7 - 1) 16 ∧ vp_in x7 16 ∧ ∀ (U_11 : Um), U_11 = sA U_9 o0 39 (va_up (uA U_9 o0 39) (Int32.toNatClampNeg x7) (uA U_9 o0 39 (Int32.toNatClampNeg (x7 - 1)))) → ∀ (x7_12 : Int32), x7_12 = x7 + (-1) → rec_ x7_12 U_11))))
def w_X12_laysDay_L58 (o0 : Nat) (x1 : Int32) (x2 : Int32) (x3 : Int32) (x4 : Int32) (x5 : Int32) (x6 : Int32) (post : Int32 → Um → Prop) (k_109 : Int32 → Um → Prop) (n_ : Nat) : Int32 → Um → Prop := Nat.rec (motive := fun _ => Int32 → Um → Prop) (fun _ _ => False) (fun _ ih => b_X12_laysDay_L58 o0 x1 x2 x3 x4 x5 x6 post k_109 ih) n_
def b_X12_laysDay_L6 (o0 : Nat) (x1 : Int32) (x2 : Int32) (x3 : Int32) (x4 : Int32) (post : Int32 → Um → Prop) (k_127 : Int32 → Um → Prop) (rec_ : Int32 → Int32 → Um → Prop) (x5 : Int32) (x6 : Int32) (U : Um) : Prop :=
  vp_in 3 14 ∧ ((uA U o0 11 (Int32.toNatClampNeg 3)) ≤ x6 → k_127 x5 U) ∧ (¬ (uA U o0 11 (Int32.toNatClampNeg 3)) ≤ x6 → w_X12_of o0 x6 3 U (fun r_2 U_1 => (r_2 = x2 → (x6 = x3 → ∀ (x6_3 : Int32), x6_3 = x6 + 1 → rec_ x5 x6_3 U_1) ∧ (¬ x6 = x3 → (∀ K_4 : Um → Prop, (∀ (U_5 : Um), (∀ (x7_6 : Int32), x7_6 = x5 → (∃ n_18, w_X12_laysDay_L58 o0 x1 x2 x3 x4 x5 x6 post (fun x7_13 U_14 => vp_in x7_13 16 ∧ ∀ (U_15 : Um), U_15 = sA U_14 o0 39 (va_up (uA U_14 o0 39) (Int32.toNatClampNeg x7_13) x6) → ∀ (x5_16 : Int32), x5_16 = x5 + 1 → ∀ (x6_17 : Int32), x6_17 = x6 + 1 → rec_ x5_16 x6_17 U_15) n_18 x7_6 U_5)) → K_4 U_5) → (x6 = x4 → K_4 U_1) ∧ (¬ x6 = x4 → w_X12_isInGame o0 x1 x6 U_1 (fun r_20 U_19 => (r_20 = 0 → ∀ (x6_21 : Int32), x6_21 = x6 + 1 → rec_ x5 x6_21 U_19) ∧ (¬ r_20 = 0 → K_4 U_19)))))) ∧ (¬ r_2 = x2 → ∀ (x6_22 : Int32), x6_22 = x6 + 1 → rec_ x5 x6_22 U_1)))
def w_X12_laysDay_L6 (o0 : Nat) (x1 : Int32) (x2 : Int32) (x3 : Int32) (x4 : Int32) (post : Int32 → Um → Prop) (k_127 : Int32 → Um → Prop) (n_ : Nat) : Int32 → Int32 → Um → Prop := Nat.rec (motive := fun _ => Int32 → Int32 → Um → Prop) (fun _ _ _ => False) (fun _ ih => b_X12_laysDay_L6 o0 x1 x2 x3 x4 post k_127 ih) n_
def w_X12_laysDay (o : Nat) (a1 : Int32) (a2 : Int32) (a3 : Int32) (a4 : Int32) (U : Um) (post : Int32 → Um → Prop) : Prop :=
  (∃ n_25, w_X12_laysDay_L6 o a1 a2 a3 a4 post (fun x5_23 U_24 => post x5_23 U_24) n_25 0 0 U)
set_option maxHeartbeats 4000000 in
theorem tl_X12_laysDay_L58 {l : Launch} {Y : px_Y} {X : px_X} {h0 hh : pe_H} {sz : Nat} (o0 : Nat) (x1 : Int32) (x2 : Int32) (x3 : Int32) (x4 : Int32) (x5 : Int32) (x6 : Int32) (post : Int32 → Um → Prop) (k_109 : Int32 → Um → Prop) (ho0 : oc o0 = 10)  (hC : px_C X Y.1 (pm_A hh sz) cX12_laysDay RX12 8) (hM : px_M l X Y.1 hh sz yX12_laysDay cX12_laysDay 8 (some (.int)) 2 0 0) (hR : X.2.2.2.1 = pm_rm 2 0 0) (hk_109 : ∀ (y7 : Int32) (U : Um) (h : pe_H), k_109 y7 U → rF Y h0 U h → pw X Y.1 (pm_A hh sz) (pm_E X Y.1 hh sz 0 0 (pm_P Y h0 sz (pq_i post))) 109 [some (.ref (Y.2.1 o0)), some (.int x1), some (.int x2), some (.int x3), some (.int x4), some (.int x5), some (.int x6), some (.int y7)] [] h sz 0 0) : ∀ (n_ : Nat) (x7 : Int32) (U : Um) (h : pe_H), rF Y h0 U h → w_X12_laysDay_L58 o0 x1 x2 x3 x4 x5 x6 post k_109 n_ x7 U → pw X Y.1 (pm_A hh sz) (pm_E X Y.1 hh sz 0 0 (pm_P Y h0 sz (pq_i post))) 58 [some (.ref (Y.2.1 o0)), some (.int x1), some (.int x2), some (.int x3), some (.int x4), some (.int x5), some (.int x6), some (.int x7)] [] h sz 0 0 := by
  intro n_
  induction n_ with
  | zero => intro x7 U h hU H; exact False.elim H
  | succ n_ ih =>
    intro x7 U h hU H
    replace H : b_X12_laysDay_L58 o0 x1 x2 x3 x4 x5 x6 post k_109 (w_X12_laysDay_L58 o0 x1 x2 x3 x4 x5 x6 post k_109 n_) x7 U := H
    unfold b_X12_laysDay_L58 at H
    refine pr_iload hC (by decide +kernel : decode cX12_laysDay 58 = .ok (.iload 7, 2)) rfl ?_
    refine pr_if_le hC 109 (by decide +kernel : decode cX12_laysDay 60 = .ok (.ifCond .le 49, 3)) (by decide) (fun c_60 => ?_) (fun c_60 => ?_)
    · replace H := H.1 c_60
      exact pv_sub [some (.ref (Y.2.1 o0)), some (.int x1), some (.int x2), some (.int x3), some (.int x4), some (.int x5), some (.int x6), some (.int x7)] (And.intro rfl (And.intro rfl (And.intro rfl (And.intro rfl (And.intro rfl (And.intro rfl (And.intro rfl (And.intro rfl trivial)))))))) (hk_109 _ U h H hU)
    replace H := H.2 c_60
    refine pr_aload_n hC (by decide +kernel : decode cX12_laysDay 63 = .ok (.aload_n 0, 1)) rfl ?_
    refine pr_aload_n hC (by decide +kernel : decode cX12_laysDay 64 = .ok (.aload_n 0, 1)) rfl ?_
    refine pu_g1 hC fg_X12_84 (by decide +kernel : decode cX12_laysDay 65 = .ok (.getfield 84, 3)) hU ho0 (by decide) rfl (by decide) ?_
    refine pr_iload hC (by decide +kernel : decode cX12_laysDay 68 = .ok (.iload 7, 2)) rfl ?_
    refine pr_iconst hC (1) (by decide +kernel : decode cX12_laysDay 70 = .ok (.iconst 1, 1)) rfl ?_
    refine pr_isub hC (by decide +kernel : decode cX12_laysDay 71 = .ok (.isub, 1)) ?_
    refine pu_iald hC (by decide +kernel : decode cX12_laysDay 72 = .ok (.iaload, 1)) hU ho0 rfl H.1 ?_
    replace H := H.2
    refine pr_iconst hC (4) (by decide +kernel : decode cX12_laysDay 73 = .ok (.iconst 4, 1)) rfl ?_
    refine vc_Vi hC hR [.int (uA U o0 39 (Int32.toNatClampNeg (x7 - 1))), .int 4] fv_X12_353 (by decide +kernel : decode cX12_laysDay 74 = .ok (.invokevirtual 353, 3)) hU (t_X12_of ho0 H) ho0 (by decide) rfl rfl rfl (Nat.le_of_ble_eq_true rfl) (Nat.le_of_ble_eq_true rfl) (Nat.le_refl 0) (Nat.le_refl 0) (fun r_8 U_7 h H hU => ?_)
    refine pr_aload_n hC (by decide +kernel : decode cX12_laysDay 77 = .ok (.aload_n 0, 1)) rfl ?_
    refine pr_iload hC (by decide +kernel : decode cX12_laysDay 78 = .ok (.iload 6, 2)) rfl ?_
    refine pr_iconst hC (4) (by decide +kernel : decode cX12_laysDay 80 = .ok (.iconst 4, 1)) rfl ?_
    refine vc_Vi hC hR [.int x6, .int 4] fv_X12_353 (by decide +kernel : decode cX12_laysDay 81 = .ok (.invokevirtual 353, 3)) hU (t_X12_of ho0 H) ho0 (by decide) rfl rfl rfl (Nat.le_of_ble_eq_true rfl) (Nat.le_of_ble_eq_true rfl) (Nat.le_refl 0) (Nat.le_refl 0) (fun r_10 U_9 h H hU => ?_)
    refine pr_icmp_le hC 109 (by decide +kernel : decode cX12_laysDay 84 = .ok (.if_icmp .le 25, 3)) (by decide) (fun c_84 => ?_) (fun c_84 => ?_)
    · replace H := H.1 c_84
      exact pv_sub [some (.ref (Y.2.1 o0)), some (.int x1), some (.int x2), some (.int x3), some (.int x4), some (.int x5), some (.int x6), some (.int x7)] (And.intro rfl (And.intro rfl (And.intro rfl (And.intro rfl (And.intro rfl (And.intro rfl (And.intro rfl (And.intro rfl trivial)))))))) (hk_109 _ U_9 h H hU)
    replace H := H.2 c_84
    refine pr_aload_n hC (by decide +kernel : decode cX12_laysDay 87 = .ok (.aload_n 0, 1)) rfl ?_
    refine pu_g1 hC fg_X12_84 (by decide +kernel : decode cX12_laysDay 88 = .ok (.getfield 84, 3)) hU ho0 (by decide) rfl (by decide) ?_
    refine pr_iload hC (by decide +kernel : decode cX12_laysDay 91 = .ok (.iload 7, 2)) rfl ?_
    refine pr_aload_n hC (by decide +kernel : decode cX12_laysDay 93 = .ok (.aload_n 0, 1)) rfl ?_
    refine pu_g1 hC fg_X12_84 (by decide +kernel : decode cX12_laysDay 94 = .ok (.getfield 84, 3)) hU ho0 (by decide) rfl (by decide) ?_
    refine pr_iload hC (by decide +kernel : decode cX12_laysDay 97 = .ok (.iload 7, 2)) rfl ?_
    refine pr_iconst hC (1) (by decide +kernel : decode cX12_laysDay 99 = .ok (.iconst 1, 1)) rfl ?_
    refine pr_isub hC (by decide +kernel : decode cX12_laysDay 100 = .ok (.isub, 1)) ?_
    refine pu_iald hC (by decide +kernel : decode cX12_laysDay 101 = .ok (.iaload, 1)) hU ho0 rfl H.1 ?_
    replace H := H.2
    refine pv_iast hC (by decide +kernel : decode cX12_laysDay 102 = .ok (.iastore, 1)) hU ho0 rfl H.1 (fun U_11 h e_U_11 hU => ?_)
    replace H := H.2 U_11 e_U_11
    refine pv_iinc hC (v := x7 + (-1)) (by decide +kernel : decode cX12_laysDay 103 = .ok (.iinc 7 (-1), 3)) rfl (by decide) rfl rfl (fun x7_12 e_x7_12 => ?_)
    replace H := H x7_12 e_x7_12
    refine pr_goto hC 58 (by decide +kernel : decode cX12_laysDay 106 = .ok (.goto (-48), 3)) (by decide) ?_
    exact pv_sub [some (.ref (Y.2.1 o0)), some (.int x1), some (.int x2), some (.int x3), some (.int x4), some (.int x5), some (.int x6), some (.int x7_12)] (And.intro rfl (And.intro rfl (And.intro rfl (And.intro rfl (And.intro rfl (And.intro rfl (And.intro rfl (And.intro rfl trivial)))))))) (ih _ U_11 h hU H)
set_option maxHeartbeats 4000000 in
theorem tl_X12_laysDay_L6 {l : Launch} {Y : px_Y} {X : px_X} {h0 hh : pe_H} {sz : Nat} (o0 : Nat) (x1 : Int32) (x2 : Int32) (x3 : Int32) (x4 : Int32) (post : Int32 → Um → Prop) (k_127 : Int32 → Um → Prop) (ho0 : oc o0 = 10)  (hC : px_C X Y.1 (pm_A hh sz) cX12_laysDay RX12 8) (hM : px_M l X Y.1 hh sz yX12_laysDay cX12_laysDay 8 (some (.int)) 2 0 0) (hR : X.2.2.2.1 = pm_rm 2 0 0) (hk_127 : ∀ (y5 : Int32) (U : Um) (h : pe_H), k_127 y5 U → rF Y h0 U h → pw X Y.1 (pm_A hh sz) (pm_E X Y.1 hh sz 0 0 (pm_P Y h0 sz (pq_i post))) 127 [none, none, none, none, none, some (.int y5), none, none] [] h sz 0 0) : ∀ (n_ : Nat) (x5 : Int32) (x6 : Int32) (U : Um) (h : pe_H), rF Y h0 U h → w_X12_laysDay_L6 o0 x1 x2 x3 x4 post k_127 n_ x5 x6 U → pw X Y.1 (pm_A hh sz) (pm_E X Y.1 hh sz 0 0 (pm_P Y h0 sz (pq_i post))) 6 [some (.ref (Y.2.1 o0)), some (.int x1), some (.int x2), some (.int x3), some (.int x4), some (.int x5), some (.int x6), none] [] h sz 0 0 := by
  intro n_
  induction n_ with
  | zero => intro x5 x6 U h hU H; exact False.elim H
  | succ n_ ih =>
    intro x5 x6 U h hU H
    replace H : b_X12_laysDay_L6 o0 x1 x2 x3 x4 post k_127 (w_X12_laysDay_L6 o0 x1 x2 x3 x4 post k_127 n_) x5 x6 U := H
    unfold b_X12_laysDay_L6 at H
    refine pr_iload hC (by decide +kernel : decode cX12_laysDay 6 = .ok (.iload 6, 2)) rfl ?_
    refine pr_aload_n hC (by decide +kernel : decode cX12_laysDay 8 = .ok (.aload_n 0, 1)) rfl ?_
    refine pu_g1 hC fg_X12_43 (by decide +kernel : decode cX12_laysDay 9 = .ok (.getfield 43, 3)) hU ho0 (by decide) rfl (by decide) ?_
    refine pr_iconst hC (3) (by decide +kernel : decode cX12_laysDay 12 = .ok (.iconst 3, 1)) rfl ?_
    refine pu_iald hC (by decide +kernel : decode cX12_laysDay 13 = .ok (.iaload, 1)) hU ho0 rfl H.1 ?_
    replace H := H.2
    refine pr_icmp_ge hC 127 (by decide +kernel : decode cX12_laysDay 14 = .ok (.if_icmp .ge 113, 3)) (by decide) (fun c_14 => ?_) (fun c_14 => ?_)
    · replace H := H.1 c_14
      exact pv_sub [none, none, none, none, none, some (.int x5), none, none] (And.intro rfl trivial) (hk_127 _ U h H hU)
    replace H := H.2 c_14
    refine pr_aload_n hC (by decide +kernel : decode cX12_laysDay 17 = .ok (.aload_n 0, 1)) rfl ?_
    refine pr_iload hC (by decide +kernel : decode cX12_laysDay 18 = .ok (.iload 6, 2)) rfl ?_
    refine pr_iconst hC (3) (by decide +kernel : decode cX12_laysDay 20 = .ok (.iconst 3, 1)) rfl ?_
    refine vc_Vi hC hR [.int x6, .int 3] fv_X12_353 (by decide +kernel : decode cX12_laysDay 21 = .ok (.invokevirtual 353, 3)) hU (t_X12_of ho0 H) ho0 (by decide) rfl rfl rfl (Nat.le_of_ble_eq_true rfl) (Nat.le_of_ble_eq_true rfl) (Nat.le_refl 0) (Nat.le_refl 0) (fun r_2 U_1 h H hU => ?_)
    refine pr_iload_n hC (by decide +kernel : decode cX12_laysDay 24 = .ok (.iload_n 2, 1)) rfl ?_
    refine pr_icmp_ne hC 121 (by decide +kernel : decode cX12_laysDay 25 = .ok (.if_icmp .ne 96, 3)) (by decide) (fun c_25 => ?_) (fun c_25 => ?_)
    · replace H := H.2 c_25
      refine pv_iinc hC (v := x6 + 1) (by decide +kernel : decode cX12_laysDay 121 = .ok (.iinc 6 1, 3)) rfl (by decide) rfl rfl (fun x6_22 e_x6_22 => ?_)
      replace H := H x6_22 e_x6_22
      refine pr_goto hC 6 (by decide +kernel : decode cX12_laysDay 124 = .ok (.goto (-118), 3)) (by decide) ?_
      exact pv_sub [some (.ref (Y.2.1 o0)), some (.int x1), some (.int x2), some (.int x3), some (.int x4), some (.int x5), some (.int x6_22), none] (And.intro rfl (And.intro rfl (And.intro rfl (And.intro rfl (And.intro rfl (And.intro rfl (And.intro rfl trivial))))))) (ih _ _ U_1 h hU H)
    replace H := H.1 c_25
    refine pr_iload hC (by decide +kernel : decode cX12_laysDay 28 = .ok (.iload 6, 2)) rfl ?_
    refine pr_iload_n hC (by decide +kernel : decode cX12_laysDay 30 = .ok (.iload_n 3, 1)) rfl ?_
    refine pr_icmp_eq hC 121 (by decide +kernel : decode cX12_laysDay 31 = .ok (.if_icmp .eq 90, 3)) (by decide) (fun c_31 => ?_) (fun c_31 => ?_)
    · replace H := H.1 c_31
      refine pv_iinc hC (v := x6 + 1) (by decide +kernel : decode cX12_laysDay 121 = .ok (.iinc 6 1, 3)) rfl (by decide) rfl rfl (fun x6_3 e_x6_3 => ?_)
      replace H := H x6_3 e_x6_3
      refine pr_goto hC 6 (by decide +kernel : decode cX12_laysDay 124 = .ok (.goto (-118), 3)) (by decide) ?_
      exact pv_sub [some (.ref (Y.2.1 o0)), some (.int x1), some (.int x2), some (.int x3), some (.int x4), some (.int x5), some (.int x6_3), none] (And.intro rfl (And.intro rfl (And.intro rfl (And.intro rfl (And.intro rfl (And.intro rfl (And.intro rfl trivial))))))) (ih _ _ U_1 h hU H)
    replace H := H.2 c_31
    refine pr_iload hC (by decide +kernel : decode cX12_laysDay 34 = .ok (.iload 6, 2)) rfl ?_
    refine pr_iload hC (by decide +kernel : decode cX12_laysDay 36 = .ok (.iload 4, 2)) rfl ?_
    replace H := H (fun U_5 => ∀ h : pe_H, rF Y h0 U_5 h → pw X Y.1 (pm_A hh sz) (pm_E X Y.1 hh sz 0 0 (pm_P Y h0 sz (pq_i post))) 54 [some (.ref (Y.2.1 o0)), some (.int x1), some (.int x2), some (.int x3), some (.int x4), some (.int x5), some (.int x6), none] [] h sz 0 0) (by
      intro U_5 H h hU
      refine pr_iload hC (by decide +kernel : decode cX12_laysDay 54 = .ok (.iload 5, 2)) rfl ?_
      refine pv_topi (fun x7_6 e_x7_6 => ?_)
      replace H := H x7_6 e_x7_6
      refine pr_istore hC (by decide +kernel : decode cX12_laysDay 56 = .ok (.istore 7, 2)) (by decide) rfl ?_
      obtain ⟨n_18, H⟩ := H
      refine pv_sub [some (.ref (Y.2.1 o0)), some (.int x1), some (.int x2), some (.int x3), some (.int x4), some (.int x5), some (.int x6), some (.int x7_6)] (And.intro rfl (And.intro rfl (And.intro rfl (And.intro rfl (And.intro rfl (And.intro rfl (And.intro rfl (And.intro rfl trivial)))))))) ?_
      refine tl_X12_laysDay_L58 _ _ _ _ _ _ _ _ _ ho0 hC hM hR (fun x7_13 U_14 h H hU => ?_) n_18 _ U_5 h hU H
      refine pr_aload_n hC (by decide +kernel : decode cX12_laysDay 109 = .ok (.aload_n 0, 1)) rfl ?_
      refine pu_g1 hC fg_X12_84 (by decide +kernel : decode cX12_laysDay 110 = .ok (.getfield 84, 3)) hU ho0 (by decide) rfl (by decide) ?_
      refine pr_iload hC (by decide +kernel : decode cX12_laysDay 113 = .ok (.iload 7, 2)) rfl ?_
      refine pr_iload hC (by decide +kernel : decode cX12_laysDay 115 = .ok (.iload 6, 2)) rfl ?_
      refine pv_iast hC (by decide +kernel : decode cX12_laysDay 117 = .ok (.iastore, 1)) hU ho0 rfl H.1 (fun U_15 h e_U_15 hU => ?_)
      replace H := H.2 U_15 e_U_15
      refine pv_iinc hC (v := x5 + 1) (by decide +kernel : decode cX12_laysDay 118 = .ok (.iinc 5 1, 3)) rfl (by decide) rfl rfl (fun x5_16 e_x5_16 => ?_)
      replace H := H x5_16 e_x5_16
      refine pv_iinc hC (v := x6 + 1) (by decide +kernel : decode cX12_laysDay 121 = .ok (.iinc 6 1, 3)) rfl (by decide) rfl rfl (fun x6_17 e_x6_17 => ?_)
      replace H := H x6_17 e_x6_17
      refine pr_goto hC 6 (by decide +kernel : decode cX12_laysDay 124 = .ok (.goto (-118), 3)) (by decide) ?_
      exact pv_sub [some (.ref (Y.2.1 o0)), some (.int x1), some (.int x2), some (.int x3), some (.int x4), some (.int x5_16), some (.int x6_17), none] (And.intro rfl (And.intro rfl (And.intro rfl (And.intro rfl (And.intro rfl (And.intro rfl (And.intro rfl trivial))))))) (ih _ _ U_15 h hU H))
    refine pr_icmp_eq hC 54 (by decide +kernel : decode cX12_laysDay 38 = .ok (.if_icmp .eq 16, 3)) (by decide) (fun c_38 => ?_) (fun c_38 => ?_)
    · replace H := H.1 c_38
      exact pv_sub [some (.ref (Y.2.1 o0)), some (.int x1), some (.int x2), some (.int x3), some (.int x4), some (.int x5), some (.int x6), none] (And.intro rfl (And.intro rfl (And.intro rfl (And.intro rfl (And.intro rfl (And.intro rfl (And.intro rfl trivial))))))) (H h hU)
    replace H := H.2 c_38
    refine pr_aload_n hC (by decide +kernel : decode cX12_laysDay 41 = .ok (.aload_n 0, 1)) rfl ?_
    refine pr_iload_n hC (by decide +kernel : decode cX12_laysDay 42 = .ok (.iload_n 1, 1)) rfl ?_
    refine pr_iload hC (by decide +kernel : decode cX12_laysDay 43 = .ok (.iload 6, 2)) rfl ?_
    refine vc_Vi hC hR [.int x1, .int x6] fv_X12_405 (by decide +kernel : decode cX12_laysDay 45 = .ok (.invokevirtual 405, 3)) hU (t_X12_isInGame ho0 H) ho0 (by decide) rfl rfl rfl (Nat.le_of_ble_eq_true rfl) (Nat.le_of_ble_eq_true rfl) (Nat.le_refl 0) (Nat.le_refl 0) (fun r_20 U_19 h H hU => ?_)
    refine pr_if_ne hC 54 (by decide +kernel : decode cX12_laysDay 48 = .ok (.ifCond .ne 6, 3)) (by decide) (fun c_48 => ?_) (fun c_48 => ?_)
    · replace H := H.2 c_48
      exact pv_sub [some (.ref (Y.2.1 o0)), some (.int x1), some (.int x2), some (.int x3), some (.int x4), some (.int x5), some (.int x6), none] (And.intro rfl (And.intro rfl (And.intro rfl (And.intro rfl (And.intro rfl (And.intro rfl (And.intro rfl trivial))))))) (H h hU)
    replace H := H.1 c_48
    refine pr_goto hC 121 (by decide +kernel : decode cX12_laysDay 51 = .ok (.goto 70, 3)) (by decide) ?_
    refine pv_iinc hC (v := x6 + 1) (by decide +kernel : decode cX12_laysDay 121 = .ok (.iinc 6 1, 3)) rfl (by decide) rfl rfl (fun x6_21 e_x6_21 => ?_)
    replace H := H x6_21 e_x6_21
    refine pr_goto hC 6 (by decide +kernel : decode cX12_laysDay 124 = .ok (.goto (-118), 3)) (by decide) ?_
    exact pv_sub [some (.ref (Y.2.1 o0)), some (.int x1), some (.int x2), some (.int x3), some (.int x4), some (.int x5), some (.int x6_21), none] (And.intro rfl (And.intro rfl (And.intro rfl (And.intro rfl (And.intro rfl (And.intro rfl (And.intro rfl trivial))))))) (ih _ _ U_19 h hU H)
set_option maxHeartbeats 4000000 in
theorem t_X12_laysDay {l : Launch} {Y : px_Y} {o : Nat} {a1 : Int32} {a2 : Int32} {a3 : Int32} {a4 : Int32} {U : Um} {post : Int32 → Um → Prop} (ho : oc o = 10) (H : w_X12_laysDay o a1 a2 a3 a4 U post) : um l Y 2 yX12_laysDay cX12_laysDay 8 (some (.int)) [.ref (Y.2.1 o), .int a1, .int a2, .int a3, .int a4] U (pq_i post) := by
  unfold w_X12_laysDay at H
  refine um_of (by decide) (Nat.le_of_ble_eq_true rfl) [some (.ref (Y.2.1 o)), some (.int a1), some (.int a2), some (.int a3), some (.int a4), none, none, none] rfl (fun X h0 hh sz hM hU => ?_)
  have hC := hM.1
  have hR := hM.2.2.1
  refine pr_iconst hC (0) (by decide +kernel : decode cX12_laysDay 0 = .ok (.iconst 0, 1)) rfl ?_
  refine pr_istore hC (by decide +kernel : decode cX12_laysDay 1 = .ok (.istore 5, 2)) (by decide) rfl ?_
  refine pr_iconst hC (0) (by decide +kernel : decode cX12_laysDay 3 = .ok (.iconst 0, 1)) rfl ?_
  refine pr_istore hC (by decide +kernel : decode cX12_laysDay 4 = .ok (.istore 6, 2)) (by decide) rfl ?_
  obtain ⟨n_25, H⟩ := H
  refine pv_sub [some (.ref (Y.2.1 o)), some (.int a1), some (.int a2), some (.int a3), some (.int a4), some (.int 0), some (.int 0), none] (And.intro rfl (And.intro rfl (And.intro rfl (And.intro rfl (And.intro rfl (And.intro rfl (And.intro rfl trivial))))))) ?_
  refine tl_X12_laysDay_L6 _ _ _ _ _ _ _ ho hC hM hR (fun x5_23 U_24 h H hU => ?_) n_25 _ _ U hh hU H
  refine pr_iload hC (by decide +kernel : decode cX12_laysDay 127 = .ok (.iload 5, 2)) rfl ?_
  exact pv_iret hM (by decide +kernel : decode cX12_laysDay 129 = .ok (.ireturn, 1)) hU H
def w_X12_step (o : Nat) (a1 : Int32) (a2 : Int32) (U : Um) (post : Int32 → Um → Prop) : Prop :=
  w_X12_wayOf o a1 a2 U (fun r_2 U_1 => (r_2 = (-1) → post 999 U_1) ∧ (¬ r_2 = (-1) → w_X12_wayOf o a1 a2 U_1 (fun r_4 U_3 => post r_4 U_3)))
set_option maxHeartbeats 4000000 in
theorem t_X12_step {l : Launch} {Y : px_Y} {o : Nat} {a1 : Int32} {a2 : Int32} {U : Um} {post : Int32 → Um → Prop} (ho : oc o = 10) (H : w_X12_step o a1 a2 U post) : um l Y 1 yX12_step cX12_step 3 (some (.int)) [.ref (Y.2.1 o), .int a1, .int a2] U (pq_i post) := by
  unfold w_X12_step at H
  refine um_of (by decide) (Nat.le_of_ble_eq_true rfl) [some (.ref (Y.2.1 o)), some (.int a1), some (.int a2)] rfl (fun X h0 hh sz hM hU => ?_)
  have hC := hM.1
  have hR := hM.2.2.1
  refine pr_aload_n hC (by decide +kernel : decode cX12_step 0 = .ok (.aload_n 0, 1)) rfl ?_
  refine pr_iload_n hC (by decide +kernel : decode cX12_step 1 = .ok (.iload_n 1, 1)) rfl ?_
  refine pr_iload_n hC (by decide +kernel : decode cX12_step 2 = .ok (.iload_n 2, 1)) rfl ?_
  refine vc_Vi hC hR [.int a1, .int a2] fv_X12_394 (by decide +kernel : decode cX12_step 3 = .ok (.invokevirtual 394, 3)) hU (t_X12_wayOf ho H) ho (by decide) rfl rfl rfl (Nat.le_of_ble_eq_true rfl) (Nat.le_of_ble_eq_true rfl) (Nat.le_refl 0) (Nat.le_refl 0) (fun r_2 U_1 h H hU => ?_)
  refine pr_iconst hC (-1) (by decide +kernel : decode cX12_step 6 = .ok (.iconst (-1), 1)) rfl ?_
  refine pr_icmp_ne hC 16 (by decide +kernel : decode cX12_step 7 = .ok (.if_icmp .ne 9, 3)) (by decide) (fun c_7 => ?_) (fun c_7 => ?_)
  · replace H := H.2 c_7
    refine pr_aload_n hC (by decide +kernel : decode cX12_step 16 = .ok (.aload_n 0, 1)) rfl ?_
    refine pr_iload_n hC (by decide +kernel : decode cX12_step 17 = .ok (.iload_n 1, 1)) rfl ?_
    refine pr_iload_n hC (by decide +kernel : decode cX12_step 18 = .ok (.iload_n 2, 1)) rfl ?_
    refine vc_Vi hC hR [.int a1, .int a2] fv_X12_394 (by decide +kernel : decode cX12_step 19 = .ok (.invokevirtual 394, 3)) hU (t_X12_wayOf ho H) ho (by decide) rfl rfl rfl (Nat.le_of_ble_eq_true rfl) (Nat.le_of_ble_eq_true rfl) (Nat.le_refl 0) (Nat.le_refl 0) (fun r_4 U_3 h H hU => ?_)
    exact pv_iret hM (by decide +kernel : decode cX12_step 22 = .ok (.ireturn, 1)) hU H
  replace H := H.1 c_7
  refine pr_sipush hC (999) (by decide +kernel : decode cX12_step 10 = .ok (.sipush 999, 3)) rfl ?_
  refine pr_goto hC 22 (by decide +kernel : decode cX12_step 13 = .ok (.goto 9, 3)) (by decide) ?_
  exact pv_iret hM (by decide +kernel : decode cX12_step 22 = .ok (.ireturn, 1)) hU H
def b_X12_roundOf_L25 (o0 : Nat) (x1 : Int32) (x5 : Int32) (post : Int32 → Um → Prop) (k_75 : Int32 → Int32 → Um → Prop) (rec_ : Int32 → Int32 → Int32 → Um → Prop) (x6 : Int32) (x7 : Int32) (x8 : Int32) (U : Um) : Prop :=
  (x5 ≤ x8 → k_75 x6 x7 U) ∧ (¬ x5 ≤ x8 → vp_in x8 16 ∧ w_X12_of o0 (uA U o0 39 (Int32.toNatClampNeg x8)) 2 U (fun r_5 U_4 => w_X12_step o0 x6 r_5 U_4 (fun r_7 U_6 => ∀ (x7_8 : Int32), x7_8 = x7 + r_7 → vp_in x8 16 ∧ w_X12_of o0 (uA U_6 o0 39 (Int32.toNatClampNeg x8)) 2 U_6 (fun r_10 U_9 => ∀ (x8_11 : Int32), x8_11 = x8 + 1 → rec_ r_10 x7_8 x8_11 U_9))))
def w_X12_roundOf_L25 (o0 : Nat) (x1 : Int32) (x5 : Int32) (post : Int32 → Um → Prop) (k_75 : Int32 → Int32 → Um → Prop) (n_ : Nat) : Int32 → Int32 → Int32 → Um → Prop := Nat.rec (motive := fun _ => Int32 → Int32 → Int32 → Um → Prop) (fun _ _ _ _ => False) (fun _ ih => b_X12_roundOf_L25 o0 x1 x5 post k_75 ih) n_
def w_X12_roundOf (o : Nat) (a1 : Int32) (a2 : Int32) (a3 : Int32) (a4 : Int32) (U : Um) (post : Int32 → Um → Prop) : Prop :=
  w_X12_laysDay o a1 a2 a3 a4 U (fun r_2 U_1 => vp_in a1 20 ∧ ∀ (x6_3 : Int32), x6_3 = uA U_1 o 6 (Int32.toNatClampNeg a1) → (∃ n_17, w_X12_roundOf_L25 o a1 r_2 post (fun x6_12 x7_13 U_14 => vp_in a1 20 ∧ w_X12_step o x6_12 (uA U_14 o 6 (Int32.toNatClampNeg a1)) U_14 (fun r_16 U_15 => post (x7_13 + r_16) U_15)) n_17 x6_3 0 0 U_1))
set_option maxHeartbeats 4000000 in
theorem tl_X12_roundOf_L25 {l : Launch} {Y : px_Y} {X : px_X} {h0 hh : pe_H} {sz : Nat} (o0 : Nat) (x1 : Int32) (x5 : Int32) (post : Int32 → Um → Prop) (k_75 : Int32 → Int32 → Um → Prop) (ho0 : oc o0 = 10)  (hC : px_C X Y.1 (pm_A hh sz) cX12_roundOf RX12 9) (hM : px_M l X Y.1 hh sz yX12_roundOf cX12_roundOf 9 (some (.int)) 3 0 0) (hR : X.2.2.2.1 = pm_rm 3 0 0) (hk_75 : ∀ (y6 : Int32) (y7 : Int32) (U : Um) (h : pe_H), k_75 y6 y7 U → rF Y h0 U h → pw X Y.1 (pm_A hh sz) (pm_E X Y.1 hh sz 0 0 (pm_P Y h0 sz (pq_i post))) 75 [some (.ref (Y.2.1 o0)), some (.int x1), none, none, none, none, some (.int y6), some (.int y7), none] [] h sz 0 0) : ∀ (n_ : Nat) (x6 : Int32) (x7 : Int32) (x8 : Int32) (U : Um) (h : pe_H), rF Y h0 U h → w_X12_roundOf_L25 o0 x1 x5 post k_75 n_ x6 x7 x8 U → pw X Y.1 (pm_A hh sz) (pm_E X Y.1 hh sz 0 0 (pm_P Y h0 sz (pq_i post))) 25 [some (.ref (Y.2.1 o0)), some (.int x1), none, none, none, some (.int x5), some (.int x6), some (.int x7), some (.int x8)] [] h sz 0 0 := by
  intro n_
  induction n_ with
  | zero => intro x6 x7 x8 U h hU H; exact False.elim H
  | succ n_ ih =>
    intro x6 x7 x8 U h hU H
    replace H : b_X12_roundOf_L25 o0 x1 x5 post k_75 (w_X12_roundOf_L25 o0 x1 x5 post k_75 n_) x6 x7 x8 U := H
    unfold b_X12_roundOf_L25 at H
    refine pr_iload hC (by decide +kernel : decode cX12_roundOf 25 = .ok (.iload 8, 2)) rfl ?_
    refine pr_iload hC (by decide +kernel : decode cX12_roundOf 27 = .ok (.iload 5, 2)) rfl ?_
    refine pr_icmp_ge hC 75 (by decide +kernel : decode cX12_roundOf 29 = .ok (.if_icmp .ge 46, 3)) (by decide) (fun c_29 => ?_) (fun c_29 => ?_)
    · replace H := H.1 c_29
      exact pv_sub [some (.ref (Y.2.1 o0)), some (.int x1), none, none, none, none, some (.int x6), some (.int x7), none] (And.intro rfl (And.intro rfl (And.intro rfl (And.intro rfl trivial)))) (hk_75 _ _ U h H hU)
    replace H := H.2 c_29
    refine pr_iload hC (by decide +kernel : decode cX12_roundOf 32 = .ok (.iload 7, 2)) rfl ?_
    refine pr_aload_n hC (by decide +kernel : decode cX12_roundOf 34 = .ok (.aload_n 0, 1)) rfl ?_
    refine pr_iload hC (by decide +kernel : decode cX12_roundOf 35 = .ok (.iload 6, 2)) rfl ?_
    refine pr_aload_n hC (by decide +kernel : decode cX12_roundOf 37 = .ok (.aload_n 0, 1)) rfl ?_
    refine pr_aload_n hC (by decide +kernel : decode cX12_roundOf 38 = .ok (.aload_n 0, 1)) rfl ?_
    refine pu_g1 hC fg_X12_84 (by decide +kernel : decode cX12_roundOf 39 = .ok (.getfield 84, 3)) hU ho0 (by decide) rfl (by decide) ?_
    refine pr_iload hC (by decide +kernel : decode cX12_roundOf 42 = .ok (.iload 8, 2)) rfl ?_
    refine pu_iald hC (by decide +kernel : decode cX12_roundOf 44 = .ok (.iaload, 1)) hU ho0 rfl H.1 ?_
    replace H := H.2
    refine pr_iconst hC (2) (by decide +kernel : decode cX12_roundOf 45 = .ok (.iconst 2, 1)) rfl ?_
    refine vc_Vi hC hR [.int (uA U o0 39 (Int32.toNatClampNeg x8)), .int 2] fv_X12_353 (by decide +kernel : decode cX12_roundOf 46 = .ok (.invokevirtual 353, 3)) hU (t_X12_of ho0 H) ho0 (by decide) rfl rfl rfl (Nat.le_of_ble_eq_true rfl) (Nat.le_of_ble_eq_true rfl) (Nat.le_refl 0) (Nat.le_refl 0) (fun r_5 U_4 h H hU => ?_)
    refine vc_Vi hC hR [.int x6, .int r_5] fv_X12_443 (by decide +kernel : decode cX12_roundOf 49 = .ok (.invokevirtual 443, 3)) hU (t_X12_step ho0 H) ho0 (by decide) rfl rfl rfl (Nat.le_of_ble_eq_true rfl) (Nat.le_of_ble_eq_true rfl) (Nat.le_refl 0) (Nat.le_refl 0) (fun r_7 U_6 h H hU => ?_)
    refine pr_iadd hC (by decide +kernel : decode cX12_roundOf 52 = .ok (.iadd, 1)) ?_
    refine pv_topi (fun x7_8 e_x7_8 => ?_)
    replace H := H x7_8 e_x7_8
    refine pr_istore hC (by decide +kernel : decode cX12_roundOf 53 = .ok (.istore 7, 2)) (by decide) rfl ?_
    refine pr_aload_n hC (by decide +kernel : decode cX12_roundOf 55 = .ok (.aload_n 0, 1)) rfl ?_
    refine pr_aload_n hC (by decide +kernel : decode cX12_roundOf 56 = .ok (.aload_n 0, 1)) rfl ?_
    refine pu_g1 hC fg_X12_84 (by decide +kernel : decode cX12_roundOf 57 = .ok (.getfield 84, 3)) hU ho0 (by decide) rfl (by decide) ?_
    refine pr_iload hC (by decide +kernel : decode cX12_roundOf 60 = .ok (.iload 8, 2)) rfl ?_
    refine pu_iald hC (by decide +kernel : decode cX12_roundOf 62 = .ok (.iaload, 1)) hU ho0 rfl H.1 ?_
    replace H := H.2
    refine pr_iconst hC (2) (by decide +kernel : decode cX12_roundOf 63 = .ok (.iconst 2, 1)) rfl ?_
    refine vc_Vi hC hR [.int (uA U_6 o0 39 (Int32.toNatClampNeg x8)), .int 2] fv_X12_353 (by decide +kernel : decode cX12_roundOf 64 = .ok (.invokevirtual 353, 3)) hU (t_X12_of ho0 H) ho0 (by decide) rfl rfl rfl (Nat.le_of_ble_eq_true rfl) (Nat.le_of_ble_eq_true rfl) (Nat.le_refl 0) (Nat.le_refl 0) (fun r_10 U_9 h H hU => ?_)
    refine pr_istore hC (by decide +kernel : decode cX12_roundOf 67 = .ok (.istore 6, 2)) (by decide) rfl ?_
    refine pv_iinc hC (v := x8 + 1) (by decide +kernel : decode cX12_roundOf 69 = .ok (.iinc 8 1, 3)) rfl (by decide) rfl rfl (fun x8_11 e_x8_11 => ?_)
    replace H := H x8_11 e_x8_11
    refine pr_goto hC 25 (by decide +kernel : decode cX12_roundOf 72 = .ok (.goto (-47), 3)) (by decide) ?_
    exact pv_sub [some (.ref (Y.2.1 o0)), some (.int x1), none, none, none, some (.int x5), some (.int r_10), some (.int x7_8), some (.int x8_11)] (And.intro rfl (And.intro rfl (And.intro rfl (And.intro rfl (And.intro rfl (And.intro rfl trivial)))))) (ih _ _ _ U_9 h hU H)
set_option maxHeartbeats 4000000 in
theorem t_X12_roundOf {l : Launch} {Y : px_Y} {o : Nat} {a1 : Int32} {a2 : Int32} {a3 : Int32} {a4 : Int32} {U : Um} {post : Int32 → Um → Prop} (ho : oc o = 10) (H : w_X12_roundOf o a1 a2 a3 a4 U post) : um l Y 3 yX12_roundOf cX12_roundOf 9 (some (.int)) [.ref (Y.2.1 o), .int a1, .int a2, .int a3, .int a4] U (pq_i post) := by
  unfold w_X12_roundOf at H
  refine um_of (by decide) (Nat.le_of_ble_eq_true rfl) [some (.ref (Y.2.1 o)), some (.int a1), some (.int a2), some (.int a3), some (.int a4), none, none, none, none] rfl (fun X h0 hh sz hM hU => ?_)
  have hC := hM.1
  have hR := hM.2.2.1
  refine pr_aload_n hC (by decide +kernel : decode cX12_roundOf 0 = .ok (.aload_n 0, 1)) rfl ?_
  refine pr_iload_n hC (by decide +kernel : decode cX12_roundOf 1 = .ok (.iload_n 1, 1)) rfl ?_
  refine pr_iload_n hC (by decide +kernel : decode cX12_roundOf 2 = .ok (.iload_n 2, 1)) rfl ?_
  refine pr_iload_n hC (by decide +kernel : decode cX12_roundOf 3 = .ok (.iload_n 3, 1)) rfl ?_
  refine pr_iload hC (by decide +kernel : decode cX12_roundOf 4 = .ok (.iload 4, 2)) rfl ?_
  refine vc_Vi hC hR [.int a1, .int a2, .int a3, .int a4] fv_X12_440 (by decide +kernel : decode cX12_roundOf 6 = .ok (.invokevirtual 440, 3)) hU (t_X12_laysDay ho H) ho (by decide) rfl rfl rfl (Nat.le_of_ble_eq_true rfl) (Nat.le_of_ble_eq_true rfl) (Nat.le_refl 0) (Nat.le_refl 0) (fun r_2 U_1 h H hU => ?_)
  refine pr_istore hC (by decide +kernel : decode cX12_roundOf 9 = .ok (.istore 5, 2)) (by decide) rfl ?_
  refine pr_aload_n hC (by decide +kernel : decode cX12_roundOf 11 = .ok (.aload_n 0, 1)) rfl ?_
  refine pu_g1 hC fg_X12_28 (by decide +kernel : decode cX12_roundOf 12 = .ok (.getfield 28, 3)) hU ho (by decide) rfl (by decide) ?_
  refine pr_iload_n hC (by decide +kernel : decode cX12_roundOf 15 = .ok (.iload_n 1, 1)) rfl ?_
  refine pu_iald hC (by decide +kernel : decode cX12_roundOf 16 = .ok (.iaload, 1)) hU ho rfl H.1 ?_
  replace H := H.2
  refine pv_topi (fun x6_3 e_x6_3 => ?_)
  replace H := H x6_3 e_x6_3
  refine pr_istore hC (by decide +kernel : decode cX12_roundOf 17 = .ok (.istore 6, 2)) (by decide) rfl ?_
  refine pr_iconst hC (0) (by decide +kernel : decode cX12_roundOf 19 = .ok (.iconst 0, 1)) rfl ?_
  refine pr_istore hC (by decide +kernel : decode cX12_roundOf 20 = .ok (.istore 7, 2)) (by decide) rfl ?_
  refine pr_iconst hC (0) (by decide +kernel : decode cX12_roundOf 22 = .ok (.iconst 0, 1)) rfl ?_
  refine pr_istore hC (by decide +kernel : decode cX12_roundOf 23 = .ok (.istore 8, 2)) (by decide) rfl ?_
  obtain ⟨n_17, H⟩ := H
  refine pv_sub [some (.ref (Y.2.1 o)), some (.int a1), none, none, none, some (.int r_2), some (.int x6_3), some (.int 0), some (.int 0)] (And.intro rfl (And.intro rfl (And.intro rfl (And.intro rfl (And.intro rfl (And.intro rfl trivial)))))) ?_
  refine tl_X12_roundOf_L25 _ _ _ _ _ ho hC hM hR (fun x6_12 x7_13 U_14 h H hU => ?_) n_17 _ _ _ U_1 h hU H
  refine pr_iload hC (by decide +kernel : decode cX12_roundOf 75 = .ok (.iload 7, 2)) rfl ?_
  refine pr_aload_n hC (by decide +kernel : decode cX12_roundOf 77 = .ok (.aload_n 0, 1)) rfl ?_
  refine pr_iload hC (by decide +kernel : decode cX12_roundOf 78 = .ok (.iload 6, 2)) rfl ?_
  refine pr_aload_n hC (by decide +kernel : decode cX12_roundOf 80 = .ok (.aload_n 0, 1)) rfl ?_
  refine pu_g1 hC fg_X12_28 (by decide +kernel : decode cX12_roundOf 81 = .ok (.getfield 28, 3)) hU ho (by decide) rfl (by decide) ?_
  refine pr_iload_n hC (by decide +kernel : decode cX12_roundOf 84 = .ok (.iload_n 1, 1)) rfl ?_
  refine pu_iald hC (by decide +kernel : decode cX12_roundOf 85 = .ok (.iaload, 1)) hU ho rfl H.1 ?_
  replace H := H.2
  refine vc_Vi hC hR [.int x6_12, .int (uA U_14 o 6 (Int32.toNatClampNeg a1))] fv_X12_443 (by decide +kernel : decode cX12_roundOf 86 = .ok (.invokevirtual 443, 3)) hU (t_X12_step ho H) ho (by decide) rfl rfl rfl (Nat.le_of_ble_eq_true rfl) (Nat.le_of_ble_eq_true rfl) (Nat.le_refl 0) (Nat.le_refl 0) (fun r_16 U_15 h H hU => ?_)
  refine pr_iadd hC (by decide +kernel : decode cX12_roundOf 89 = .ok (.iadd, 1)) ?_
  exact pv_iret hM (by decide +kernel : decode cX12_roundOf 90 = .ok (.ireturn, 1)) hU H
def w_X12_extraOf (o : Nat) (a1 : Int32) (a2 : Int32) (a3 : Int32) (U : Um) (post : Int32 → Um → Prop) : Prop :=
  w_X12_of o a1 3 U (fun r_2 U_1 => w_X12_roundOf o a3 r_2 (-1) (-1) U_1 (fun r_4 U_3 => w_X12_at a1 a2 U_3 (fun r_6 U_5 => vp_in r_6 48 ∧ ((uA U_5 o 30 (Int32.toNatClampNeg r_6)) = a3 → w_X12_roundOf o a3 r_2 a1 (-1) U_5 (fun r_8 U_7 => post (r_4 - r_8) U_7)) ∧ (¬ (uA U_5 o 30 (Int32.toNatClampNeg r_6)) = a3 → w_X12_roundOf o a3 r_2 (-1) a1 U_5 (fun r_10 U_9 => post (r_10 - r_4) U_9)))))
set_option maxHeartbeats 4000000 in
theorem t_X12_extraOf {l : Launch} {Y : px_Y} {o : Nat} {a1 : Int32} {a2 : Int32} {a3 : Int32} {U : Um} {post : Int32 → Um → Prop} (ho : oc o = 10) (H : w_X12_extraOf o a1 a2 a3 U post) : um l Y 4 yX12_extraOf cX12_extraOf 6 (some (.int)) [.ref (Y.2.1 o), .int a1, .int a2, .int a3] U (pq_i post) := by
  unfold w_X12_extraOf at H
  refine um_of (by decide) (Nat.le_of_ble_eq_true rfl) [some (.ref (Y.2.1 o)), some (.int a1), some (.int a2), some (.int a3), none, none] rfl (fun X h0 hh sz hM hU => ?_)
  have hC := hM.1
  have hR := hM.2.2.1
  refine pr_aload_n hC (by decide +kernel : decode cX12_extraOf 0 = .ok (.aload_n 0, 1)) rfl ?_
  refine pr_iload_n hC (by decide +kernel : decode cX12_extraOf 1 = .ok (.iload_n 1, 1)) rfl ?_
  refine pr_iconst hC (3) (by decide +kernel : decode cX12_extraOf 2 = .ok (.iconst 3, 1)) rfl ?_
  refine vc_Vi hC hR [.int a1, .int 3] fv_X12_353 (by decide +kernel : decode cX12_extraOf 3 = .ok (.invokevirtual 353, 3)) hU (t_X12_of ho H) ho (by decide) rfl rfl rfl (Nat.le_of_ble_eq_true rfl) (Nat.le_of_ble_eq_true rfl) (Nat.le_refl 0) (Nat.le_refl 0) (fun r_2 U_1 h H hU => ?_)
  refine pr_istore hC (by decide +kernel : decode cX12_extraOf 6 = .ok (.istore 4, 2)) (by decide) rfl ?_
  refine pr_aload_n hC (by decide +kernel : decode cX12_extraOf 8 = .ok (.aload_n 0, 1)) rfl ?_
  refine pr_iload_n hC (by decide +kernel : decode cX12_extraOf 9 = .ok (.iload_n 3, 1)) rfl ?_
  refine pr_iload hC (by decide +kernel : decode cX12_extraOf 10 = .ok (.iload 4, 2)) rfl ?_
  refine pr_iconst hC (-1) (by decide +kernel : decode cX12_extraOf 12 = .ok (.iconst (-1), 1)) rfl ?_
  refine pr_iconst hC (-1) (by decide +kernel : decode cX12_extraOf 13 = .ok (.iconst (-1), 1)) rfl ?_
  refine vc_Vi hC hR [.int a3, .int r_2, .int (-1), .int (-1)] fv_X12_446 (by decide +kernel : decode cX12_extraOf 14 = .ok (.invokevirtual 446, 3)) hU (t_X12_roundOf ho H) ho (by decide) rfl rfl rfl (Nat.le_of_ble_eq_true rfl) (Nat.le_of_ble_eq_true rfl) (Nat.le_refl 0) (Nat.le_refl 0) (fun r_4 U_3 h H hU => ?_)
  refine pr_istore hC (by decide +kernel : decode cX12_extraOf 17 = .ok (.istore 5, 2)) (by decide) rfl ?_
  refine pr_aload_n hC (by decide +kernel : decode cX12_extraOf 19 = .ok (.aload_n 0, 1)) rfl ?_
  refine pu_g1 hC fg_X12_59 (by decide +kernel : decode cX12_extraOf 20 = .ok (.getfield 59, 3)) hU ho (by decide) rfl (by decide) ?_
  refine pr_iload_n hC (by decide +kernel : decode cX12_extraOf 23 = .ok (.iload_n 1, 1)) rfl ?_
  refine pr_iload_n hC (by decide +kernel : decode cX12_extraOf 24 = .ok (.iload_n 2, 1)) rfl ?_
  refine vc_Si hC hR [.int a1, .int a2] fv_X12_360 (by decide +kernel : decode cX12_extraOf 25 = .ok (.invokestatic 360, 3)) hU (t_X12_at  H) rfl rfl (Nat.le_of_ble_eq_true rfl) (Nat.le_of_ble_eq_true rfl) (Nat.le_refl 0) (Nat.le_refl 0) (fun r_6 U_5 h H hU => ?_)
  refine pu_iald hC (by decide +kernel : decode cX12_extraOf 28 = .ok (.iaload, 1)) hU ho rfl H.1 ?_
  replace H := H.2
  refine pr_iload_n hC (by decide +kernel : decode cX12_extraOf 29 = .ok (.iload_n 3, 1)) rfl ?_
  refine pr_icmp_ne hC 48 (by decide +kernel : decode cX12_extraOf 30 = .ok (.if_icmp .ne 18, 3)) (by decide) (fun c_30 => ?_) (fun c_30 => ?_)
  · replace H := H.2 c_30
    refine pr_aload_n hC (by decide +kernel : decode cX12_extraOf 48 = .ok (.aload_n 0, 1)) rfl ?_
    refine pr_iload_n hC (by decide +kernel : decode cX12_extraOf 49 = .ok (.iload_n 3, 1)) rfl ?_
    refine pr_iload hC (by decide +kernel : decode cX12_extraOf 50 = .ok (.iload 4, 2)) rfl ?_
    refine pr_iconst hC (-1) (by decide +kernel : decode cX12_extraOf 52 = .ok (.iconst (-1), 1)) rfl ?_
    refine pr_iload_n hC (by decide +kernel : decode cX12_extraOf 53 = .ok (.iload_n 1, 1)) rfl ?_
    refine vc_Vi hC hR [.int a3, .int r_2, .int (-1), .int a1] fv_X12_446 (by decide +kernel : decode cX12_extraOf 54 = .ok (.invokevirtual 446, 3)) hU (t_X12_roundOf ho H) ho (by decide) rfl rfl rfl (Nat.le_of_ble_eq_true rfl) (Nat.le_of_ble_eq_true rfl) (Nat.le_refl 0) (Nat.le_refl 0) (fun r_10 U_9 h H hU => ?_)
    refine pr_iload hC (by decide +kernel : decode cX12_extraOf 57 = .ok (.iload 5, 2)) rfl ?_
    refine pr_isub hC (by decide +kernel : decode cX12_extraOf 59 = .ok (.isub, 1)) ?_
    exact pv_iret hM (by decide +kernel : decode cX12_extraOf 60 = .ok (.ireturn, 1)) hU H
  replace H := H.1 c_30
  refine pr_iload hC (by decide +kernel : decode cX12_extraOf 33 = .ok (.iload 5, 2)) rfl ?_
  refine pr_aload_n hC (by decide +kernel : decode cX12_extraOf 35 = .ok (.aload_n 0, 1)) rfl ?_
  refine pr_iload_n hC (by decide +kernel : decode cX12_extraOf 36 = .ok (.iload_n 3, 1)) rfl ?_
  refine pr_iload hC (by decide +kernel : decode cX12_extraOf 37 = .ok (.iload 4, 2)) rfl ?_
  refine pr_iload_n hC (by decide +kernel : decode cX12_extraOf 39 = .ok (.iload_n 1, 1)) rfl ?_
  refine pr_iconst hC (-1) (by decide +kernel : decode cX12_extraOf 40 = .ok (.iconst (-1), 1)) rfl ?_
  refine vc_Vi hC hR [.int a3, .int r_2, .int a1, .int (-1)] fv_X12_446 (by decide +kernel : decode cX12_extraOf 41 = .ok (.invokevirtual 446, 3)) hU (t_X12_roundOf ho H) ho (by decide) rfl rfl rfl (Nat.le_of_ble_eq_true rfl) (Nat.le_of_ble_eq_true rfl) (Nat.le_refl 0) (Nat.le_refl 0) (fun r_8 U_7 h H hU => ?_)
  refine pr_isub hC (by decide +kernel : decode cX12_extraOf 44 = .ok (.isub, 1)) ?_
  refine pr_goto hC 60 (by decide +kernel : decode cX12_extraOf 45 = .ok (.goto 15, 3)) (by decide) ?_
  exact pv_iret hM (by decide +kernel : decode cX12_extraOf 60 = .ok (.ireturn, 1)) hU H
def w_X12_extra (o : Nat) (a1 : Int32) (a2 : Int32) (a3 : Int32) (U : Um) (post : Int32 → Um → Prop) : Prop :=
  ∀ (U_1 : Um), U_1 = sI U o 0 0 → w_X12_isSeat o a1 a2 U_1 (fun r_3 U_2 => (r_3 = 0 → post (-1) U_2) ∧ (¬ r_3 = 0 → w_X12_isOne o a3 U_2 (fun r_5 U_4 => (r_5 = 0 → post (-1) U_4) ∧ (¬ r_5 = 0 → w_X12_extraOf o a1 a2 a3 U_4 (fun r_7 U_6 => post r_7 U_6)))))
set_option maxHeartbeats 4000000 in
theorem t_X12_extra {l : Launch} {Y : px_Y} {o : Nat} {a1 : Int32} {a2 : Int32} {a3 : Int32} {U : Um} {post : Int32 → Um → Prop} (ho : oc o = 10) (H : w_X12_extra o a1 a2 a3 U post) : um l Y 5 yX12_extra cX12_extra 4 (some (.int)) [.ref (Y.2.1 o), .int a1, .int a2, .int a3] U (pq_i post) := by
  unfold w_X12_extra at H
  refine um_of (by decide) (Nat.le_of_ble_eq_true rfl) [some (.ref (Y.2.1 o)), some (.int a1), some (.int a2), some (.int a3)] rfl (fun X h0 hh sz hM hU => ?_)
  have hC := hM.1
  have hR := hM.2.2.1
  refine pr_aload_n hC (by decide +kernel : decode cX12_extra 0 = .ok (.aload_n 0, 1)) rfl ?_
  refine pr_iconst hC (0) (by decide +kernel : decode cX12_extra 1 = .ok (.iconst 0, 1)) rfl ?_
  refine pv_p0 hC fp_X12_121 (by decide +kernel : decode cX12_extra 2 = .ok (.putfield 121, 3)) hU ho (by decide) rfl rfl rfl rfl (fun U_1 h e_U_1 hU => ?_)
  replace H := H U_1 e_U_1
  refine pr_aload_n hC (by decide +kernel : decode cX12_extra 5 = .ok (.aload_n 0, 1)) rfl ?_
  refine pr_iload_n hC (by decide +kernel : decode cX12_extra 6 = .ok (.iload_n 1, 1)) rfl ?_
  refine pr_iload_n hC (by decide +kernel : decode cX12_extra 7 = .ok (.iload_n 2, 1)) rfl ?_
  refine vc_Vi hC hR [.int a1, .int a2] fv_X12_388 (by decide +kernel : decode cX12_extra 8 = .ok (.invokevirtual 388, 3)) hU (t_X12_isSeat ho H) ho (by decide) rfl rfl rfl (Nat.le_of_ble_eq_true rfl) (Nat.le_of_ble_eq_true rfl) (Nat.le_refl 0) (Nat.le_refl 0) (fun r_3 U_2 h H hU => ?_)
  refine pr_if_eq hC 32 (by decide +kernel : decode cX12_extra 11 = .ok (.ifCond .eq 21, 3)) (by decide) (fun c_11 => ?_) (fun c_11 => ?_)
  · replace H := H.1 c_11
    refine pr_iconst hC (-1) (by decide +kernel : decode cX12_extra 32 = .ok (.iconst (-1), 1)) rfl ?_
    exact pv_iret hM (by decide +kernel : decode cX12_extra 33 = .ok (.ireturn, 1)) hU H
  replace H := H.2 c_11
  refine pr_aload_n hC (by decide +kernel : decode cX12_extra 14 = .ok (.aload_n 0, 1)) rfl ?_
  refine pr_iload_n hC (by decide +kernel : decode cX12_extra 15 = .ok (.iload_n 3, 1)) rfl ?_
  refine vc_Vi hC hR [.int a3] fv_X12_368 (by decide +kernel : decode cX12_extra 16 = .ok (.invokevirtual 368, 3)) hU (t_X12_isOne ho H) ho (by decide) rfl rfl rfl (Nat.le_of_ble_eq_true rfl) (Nat.le_of_ble_eq_true rfl) (Nat.le_refl 0) (Nat.le_refl 0) (fun r_5 U_4 h H hU => ?_)
  refine pr_if_eq hC 32 (by decide +kernel : decode cX12_extra 19 = .ok (.ifCond .eq 13, 3)) (by decide) (fun c_19 => ?_) (fun c_19 => ?_)
  · replace H := H.1 c_19
    refine pr_iconst hC (-1) (by decide +kernel : decode cX12_extra 32 = .ok (.iconst (-1), 1)) rfl ?_
    exact pv_iret hM (by decide +kernel : decode cX12_extra 33 = .ok (.ireturn, 1)) hU H
  replace H := H.2 c_19
  refine pr_aload_n hC (by decide +kernel : decode cX12_extra 22 = .ok (.aload_n 0, 1)) rfl ?_
  refine pr_iload_n hC (by decide +kernel : decode cX12_extra 23 = .ok (.iload_n 1, 1)) rfl ?_
  refine pr_iload_n hC (by decide +kernel : decode cX12_extra 24 = .ok (.iload_n 2, 1)) rfl ?_
  refine pr_iload_n hC (by decide +kernel : decode cX12_extra 25 = .ok (.iload_n 3, 1)) rfl ?_
  refine vc_Vi hC hR [.int a1, .int a2, .int a3] fv_X12_449 (by decide +kernel : decode cX12_extra 26 = .ok (.invokevirtual 449, 3)) hU (t_X12_extraOf ho H) ho (by decide) rfl rfl rfl (Nat.le_of_ble_eq_true rfl) (Nat.le_of_ble_eq_true rfl) (Nat.le_refl 0) (Nat.le_refl 0) (fun r_7 U_6 h H hU => ?_)
  refine pr_goto hC 33 (by decide +kernel : decode cX12_extra 29 = .ok (.goto 4, 3)) (by decide) ?_
  exact pv_iret hM (by decide +kernel : decode cX12_extra 33 = .ok (.ireturn, 1)) hU H
