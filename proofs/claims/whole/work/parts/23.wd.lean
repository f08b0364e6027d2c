def w_X11_formBits (o : Nat) (a1 : Int32) (U : Um) (post : Int32 → Um → Prop) : Prop :=
  oc (uR U o 2) = 8 ∧ w_X9_isNamed (uR U o 2) 2 a1 U (fun r_3 U_2 => (r_3 = 0 → post (-1) U_2) ∧ (¬ r_3 = 0 → oc (uR U_2 o 4) = 5 ∧ w_X6_bitsOfForm (uR U_2 o 4) a1 U_2 (fun r_6 U_5 => post r_6 U_5)))
set_option maxHeartbeats 4000000 in
theorem t_X11_formBits {l : Launch} {Y : px_Y} {o : Nat} {a1 : Int32} {U : Um} {post : Int32 → Um → Prop} (ho : oc o = 9) (H : w_X11_formBits o a1 U post) : um l Y 1 yX11_formBits cX11_formBits 2 (some (.int)) [.ref (Y.2.1 o), .int a1] U (pq_i post) := by
  unfold w_X11_formBits at H
  refine um_of (by decide) (Nat.le_of_ble_eq_true rfl) [some (.ref (Y.2.1 o)), some (.int a1)] rfl (fun X h0 hh sz hM hU => ?_)
  have hC := hM.1
  have hR := hM.2.2.1
  refine pr_aload_n hC (by decide +kernel : decode cX11_formBits 0 = .ok (.aload_n 0, 1)) rfl ?_
  refine pu_g21 hC fg_X11_28 (by decide +kernel : decode cX11_formBits 1 = .ok (.getfield 28, 3)) hU ho (by decide) rfl rfl ?_
  have q_1 := H.1
  replace H := H.2
  refine pr_iconst hC (2) (by decide +kernel : decode cX11_formBits 4 = .ok (.iconst 2, 1)) rfl ?_
  refine pr_iload_n hC (by decide +kernel : decode cX11_formBits 5 = .ok (.iload_n 1, 1)) rfl ?_
  refine vc_Vi hC hR [.int 2, .int a1] fv_X11_114 (by decide +kernel : decode cX11_formBits 6 = .ok (.invokevirtual 114, 3)) hU (t_X9_isNamed q_1 H) q_1 (by decide) rfl rfl rfl (Nat.le_of_ble_eq_true rfl) (Nat.le_of_ble_eq_true rfl) (Nat.le_refl 0) (Nat.le_refl 0) (fun r_3 U_2 h H hU => ?_)
  refine pr_if_eq hC 23 (by decide +kernel : decode cX11_formBits 9 = .ok (.ifCond .eq 14, 3)) (by decide) (fun c_9 => ?_) (fun c_9 => ?_)
  · replace H := H.1 c_9
    refine pr_iconst hC (-1) (by decide +kernel : decode cX11_formBits 23 = .ok (.iconst (-1), 1)) rfl ?_
    exact pv_iret hM (by decide +kernel : decode cX11_formBits 24 = .ok (.ireturn, 1)) hU H
  replace H := H.2 c_9
  refine pr_aload_n hC (by decide +kernel : decode cX11_formBits 12 = .ok (.aload_n 0, 1)) rfl ?_
  refine pu_g21 hC fg_X11_40 (by decide +kernel : decode cX11_formBits 13 = .ok (.getfield 40, 3)) hU ho (by decide) rfl rfl ?_
  have q_4 := H.1
  replace H := H.2
  refine pr_iload_n hC (by decide +kernel : decode cX11_formBits 16 = .ok (.iload_n 1, 1)) rfl ?_
  refine vc_Vi hC hR [.int a1] fv_X11_154 (by decide +kernel : decode cX11_formBits 17 = .ok (.invokevirtual 154, 3)) hU (t_X6_bitsOfForm q_4 H) q_4 (by decide) rfl rfl rfl (Nat.le_of_ble_eq_true rfl) (Nat.le_of_ble_eq_true rfl) (Nat.le_refl 0) (Nat.le_refl 0) (fun r_6 U_5 h H hU => ?_)
  refine pr_goto hC 24 (by decide +kernel : decode cX11_formBits 20 = .ok (.goto 4, 3)) (by decide) ?_
  exact pv_iret hM (by decide +kernel : decode cX11_formBits 24 = .ok (.ireturn, 1)) hU H
def w_X11_game (o : Nat) (a1 : Int32) (a2 : Int32) (U : Um) (post : Int32 → Um → Prop) : Prop :=
  oc (uR U o 2) = 8 ∧ w_X9_isGame (uR U o 2) a1 U (fun r_3 U_2 => (r_3 = 0 → post (-1) U_2) ∧ (¬ r_3 = 0 → oc (uR U_2 o 2) = 8 ∧ vp_in a1 16 ∧ oc (uAR U_2 (uR U_2 o 2) 6 (Int32.toNatClampNeg a1)) = 1 ∧ (¬ a2 = 0 → ¬ a2 = 1 → ¬ a2 = 2 → ¬ a2 = 3 → ¬ a2 = 4 → ¬ a2 = 5 → ¬ a2 = 6 → ¬ a2 = 7 → ¬ a2 = 8 → post (-1) U_2) ∧ (a2 = 0 → post (uI U_2 (uAR U_2 (uR U_2 o 2) 6 (Int32.toNatClampNeg a1)) 0) U_2) ∧ (a2 = 1 → post (uI U_2 (uAR U_2 (uR U_2 o 2) 6 (Int32.toNatClampNeg a1)) 1) U_2) ∧ (a2 = 2 → post (uI U_2 (uAR U_2 (uR U_2 o 2) 6 (Int32.toNatClampNeg a1)) 2) U_2) ∧ (a2 = 3 → post (uI U_2 (uAR U_2 (uR U_2 o 2) 6 (Int32.toNatClampNeg a1)) 3) U_2) ∧ (a2 = 4 → post (uI U_2 (uAR U_2 (uR U_2 o 2) 6 (Int32.toNatClampNeg a1)) 4) U_2) ∧ (a2 = 5 → post (uI U_2 (uAR U_2 (uR U_2 o 2) 6 (Int32.toNatClampNeg a1)) 5) U_2) ∧ (a2 = 6 → post (uI U_2 (uAR U_2 (uR U_2 o 2) 6 (Int32.toNatClampNeg a1)) 6) U_2) ∧ (a2 = 7 → post (uI U_2 (uAR U_2 (uR U_2 o 2) 6 (Int32.toNatClampNeg a1)) 7) U_2) ∧ (a2 = 8 → oc (uR U_2 o 4) = 5 ∧ w_X6_isPlayed (uR U_2 o 4) a1 U_2 (fun r_9 U_8 => (r_9 = 0 → oc (uR U_8 o 4) = 5 ∧ w_X6_isLate (uR U_8 o 4) a1 U_8 (fun r_12 U_11 => (r_12 = 0 → post 0 U_11) ∧ (¬ r_12 = 0 → post 1 U_11))) ∧ (¬ r_9 = 0 → post 2 U_8)))))
set_option maxHeartbeats 4000000 in
theorem t_X11_game {l : Launch} {Y : px_Y} {o : Nat} {a1 : Int32} {a2 : Int32} {U : Um} {post : Int32 → Um → Prop} (ho : oc o = 9) (H : w_X11_game o a1 a2 U post) : um l Y 1 yX11_game cX11_game 4 (some (.int)) [.ref (Y.2.1 o), .int a1, .int a2] U (pq_i post) := by
  unfold w_X11_game at H
  refine um_of (by decide) (Nat.le_of_ble_eq_true rfl) [some (.ref (Y.2.1 o)), some (.int a1), some (.int a2), none] rfl (fun X h0 hh sz hM hU => ?_)
  have hC := hM.1
  have hR := hM.2.2.1
  refine pr_aload_n hC (by decide +kernel : decode cX11_game 0 = .ok (.aload_n 0, 1)) rfl ?_
  refine pu_g21 hC fg_X11_28 (by decide +kernel : decode cX11_game 1 = .ok (.getfield 28, 3)) hU ho (by decide) rfl rfl ?_
  have q_1 := H.1
  replace H := H.2
  refine pr_iload_n hC (by decide +kernel : decode cX11_game 4 = .ok (.iload_n 1, 1)) rfl ?_
  refine vc_Vi hC hR [.int a1] fv_X11_157 (by decide +kernel : decode cX11_game 5 = .ok (.invokevirtual 157, 3)) hU (t_X9_isGame q_1 H) q_1 (by decide) rfl rfl rfl (Nat.le_of_ble_eq_true rfl) (Nat.le_of_ble_eq_true rfl) (Nat.le_refl 0) (Nat.le_refl 0) (fun r_3 U_2 h H hU => ?_)
  refine pr_if_ne hC 13 (by decide +kernel : decode cX11_game 8 = .ok (.ifCond .ne 5, 3)) (by decide) (fun c_8 => ?_) (fun c_8 => ?_)
  · replace H := H.2 c_8
    refine pr_aload_n hC (by decide +kernel : decode cX11_game 13 = .ok (.aload_n 0, 1)) rfl ?_
    refine pu_g21 hC fg_X11_28 (by decide +kernel : decode cX11_game 14 = .ok (.getfield 28, 3)) hU ho (by decide) rfl rfl ?_
    have q_4 := H.1
    replace H := H.2
    refine pu_g1 hC fg_X11_161 (by decide +kernel : decode cX11_game 17 = .ok (.getfield 161, 3)) hU q_4 (by decide) rfl (by decide) ?_
    refine pr_iload_n hC (by decide +kernel : decode cX11_game 20 = .ok (.iload_n 1, 1)) rfl ?_
    have q_5 := H.1
    replace H := H.2
    refine pu_aald8 hC (by decide +kernel : decode cX11_game 21 = .ok (.aaload, 1)) hU q_4 rfl q_5 ?_
    have q_6 := H.1
    replace H := H.2
    refine pr_astore_n hC (by decide +kernel : decode cX11_game 22 = .ok (.astore_n 3, 1)) (by decide) rfl ?_
    refine pr_iload_n hC (by decide +kernel : decode cX11_game 23 = .ok (.iload_n 2, 1)) rfl ?_
    refine pv_table hC (by decide +kernel : decode cX11_game 24 = .ok (.tableswitch 124 0 8 #[52, 57, 62, 67, 72, 77, 82, 87, 92], 52)) 148 (by decide) (fun hq => ?_) (fun hq => ?_)
    · replace H := H.1 (fun e => absurd hq (by rw [e]; decide)) (fun e => absurd hq (by rw [e]; decide)) (fun e => absurd hq (by rw [e]; decide)) (fun e => absurd hq (by rw [e]; decide)) (fun e => absurd hq (by rw [e]; decide)) (fun e => absurd hq (by rw [e]; decide)) (fun e => absurd hq (by rw [e]; decide)) (fun e => absurd hq (by rw [e]; decide)) (fun e => absurd hq (by rw [e]; decide))
      refine pr_iconst hC (-1) (by decide +kernel : decode cX11_game 148 = .ok (.iconst (-1), 1)) rfl ?_
      exact pv_iret hM (by decide +kernel : decode cX11_game 149 = .ok (.ireturn, 1)) hU H
    · replace H := H.2
      rcases (show Int32.toInt a2 = 0 ∨ Int32.toInt a2 = 1 ∨ Int32.toInt a2 = 2 ∨ Int32.toInt a2 = 3 ∨ Int32.toInt a2 = 4 ∨ Int32.toInt a2 = 5 ∨ Int32.toInt a2 = 6 ∨ Int32.toInt a2 = 7 ∨ Int32.toInt a2 = 8 from by omega) with hq | hq | hq | hq | hq | hq | hq | hq | hq
      · have e_24 : a2 = 0 := Int32.toInt_inj.mp (hq.trans (by decide))
        replace H := H.1 e_24
        refine ⟨52, 76, by rw [hq]; rfl, by decide, ?_⟩
        refine pr_aload_n hC (by decide +kernel : decode cX11_game 76 = .ok (.aload_n 3, 1)) rfl ?_
        refine pu_g0 hC fg_X11_165 (by decide +kernel : decode cX11_game 77 = .ok (.getfield 165, 3)) hU q_6 (by decide) rfl rfl ?_
        exact pv_iret hM (by decide +kernel : decode cX11_game 80 = .ok (.ireturn, 1)) hU H
      · have e_24 : a2 = 1 := Int32.toInt_inj.mp (hq.trans (by decide))
        replace H := H.2.1 e_24
        refine ⟨57, 81, by rw [hq]; rfl, by decide, ?_⟩
        refine pr_aload_n hC (by decide +kernel : decode cX11_game 81 = .ok (.aload_n 3, 1)) rfl ?_
        refine pu_g0 hC fg_X11_170 (by decide +kernel : decode cX11_game 82 = .ok (.getfield 170, 3)) hU q_6 (by decide) rfl rfl ?_
        exact pv_iret hM (by decide +kernel : decode cX11_game 85 = .ok (.ireturn, 1)) hU H
      · have e_24 : a2 = 2 := Int32.toInt_inj.mp (hq.trans (by decide))
        replace H := H.2.2.1 e_24
        refine ⟨62, 86, by rw [hq]; rfl, by decide, ?_⟩
        refine pr_aload_n hC (by decide +kernel : decode cX11_game 86 = .ok (.aload_n 3, 1)) rfl ?_
        refine pu_g0 hC fg_X11_173 (by decide +kernel : decode cX11_game 87 = .ok (.getfield 173, 3)) hU q_6 (by decide) rfl rfl ?_
        exact pv_iret hM (by decide +kernel : decode cX11_game 90 = .ok (.ireturn, 1)) hU H
      · have e_24 : a2 = 3 := Int32.toInt_inj.mp (hq.trans (by decide))
        replace H := H.2.2.2.1 e_24
        refine ⟨67, 91, by rw [hq]; rfl, by decide, ?_⟩
        refine pr_aload_n hC (by decide +kernel : decode cX11_game 91 = .ok (.aload_n 3, 1)) rfl ?_
        refine pu_g0 hC fg_X11_176 (by decide +kernel : decode cX11_game 92 = .ok (.getfield 176, 3)) hU q_6 (by decide) rfl rfl ?_
        exact pv_iret hM (by decide +kernel : decode cX11_game 95 = .ok (.ireturn, 1)) hU H
      · have e_24 : a2 = 4 := Int32.toInt_inj.mp (hq.trans (by decide))
        replace H := H.2.2.2.2.1 e_24
        refine ⟨72, 96, by rw [hq]; rfl, by decide, ?_⟩
        refine pr_aload_n hC (by decide +kernel : decode cX11_game 96 = .ok (.aload_n 3, 1)) rfl ?_
        refine pu_g0 hC fg_X11_179 (by decide +kernel : decode cX11_game 97 = .ok (.getfield 179, 3)) hU q_6 (by decide) rfl rfl ?_
        exact pv_iret hM (by decide +kernel : decode cX11_game 100 = .ok (.ireturn, 1)) hU H
      · have e_24 : a2 = 5 := Int32.toInt_inj.mp (hq.trans (by decide))
        replace H := H.2.2.2.2.2.1 e_24
        refine ⟨77, 101, by rw [hq]; rfl, by decide, ?_⟩
        refine pr_aload_n hC (by decide +kernel : decode cX11_game 101 = .ok (.aload_n 3, 1)) rfl ?_
        refine pu_g0 hC fg_X11_182 (by decide +kernel : decode cX11_game 102 = .ok (.getfield 182, 3)) hU q_6 (by decide) rfl rfl ?_
        exact pv_iret hM (by decide +kernel : decode cX11_game 105 = .ok (.ireturn, 1)) hU H
      · have e_24 : a2 = 6 := Int32.toInt_inj.mp (hq.trans (by decide))
        replace H := H.2.2.2.2.2.2.1 e_24
        refine ⟨82, 106, by rw [hq]; rfl, by decide, ?_⟩
        refine pr_aload_n hC (by decide +kernel : decode cX11_game 106 = .ok (.aload_n 3, 1)) rfl ?_
        refine pu_g0 hC fg_X11_185 (by decide +kernel : decode cX11_game 107 = .ok (.getfield 185, 3)) hU q_6 (by decide) rfl rfl ?_
        exact pv_iret hM (by decide +kernel : decode cX11_game 110 = .ok (.ireturn, 1)) hU H
      · have e_24 : a2 = 7 := Int32.toInt_inj.mp (hq.trans (by decide))
        replace H := H.2.2.2.2.2.2.2.1 e_24
        refine ⟨87, 111, by rw [hq]; rfl, by decide, ?_⟩
        refine pr_aload_n hC (by decide +kernel : decode cX11_game 111 = .ok (.aload_n 3, 1)) rfl ?_
        refine pu_g0 hC fg_X11_187 (by decide +kernel : decode cX11_game 112 = .ok (.getfield 187, 3)) hU q_6 (by decide) rfl rfl ?_
        exact pv_iret hM (by decide +kernel : decode cX11_game 115 = .ok (.ireturn, 1)) hU H
      · have e_24 : a2 = 8 := Int32.toInt_inj.mp (hq.trans (by decide))
        replace H := H.2.2.2.2.2.2.2.2 e_24
        refine ⟨92, 116, by rw [hq]; rfl, by decide, ?_⟩
        refine pr_aload_n hC (by decide +kernel : decode cX11_game 116 = .ok (.aload_n 0, 1)) rfl ?_
        refine pu_g21 hC fg_X11_40 (by decide +kernel : decode cX11_game 117 = .ok (.getfield 40, 3)) hU ho (by decide) rfl rfl ?_
        have q_7 := H.1
        replace H := H.2
        refine pr_iload_n hC (by decide +kernel : decode cX11_game 120 = .ok (.iload_n 1, 1)) rfl ?_
        refine vc_Vi hC hR [.int a1] fv_X11_190 (by decide +kernel : decode cX11_game 121 = .ok (.invokevirtual 190, 3)) hU (t_X6_isPlayed q_7 H) q_7 (by decide) rfl rfl rfl (Nat.le_of_ble_eq_true rfl) (Nat.le_of_ble_eq_true rfl) (Nat.le_refl 0) (Nat.le_refl 0) (fun r_9 U_8 h H hU => ?_)
        refine pr_if_eq hC 131 (by decide +kernel : decode cX11_game 124 = .ok (.ifCond .eq 7, 3)) (by decide) (fun c_124 => ?_) (fun c_124 => ?_)
        · replace H := H.1 c_124
          refine pr_aload_n hC (by decide +kernel : decode cX11_game 131 = .ok (.aload_n 0, 1)) rfl ?_
          refine pu_g21 hC fg_X11_40 (by decide +kernel : decode cX11_game 132 = .ok (.getfield 40, 3)) hU ho (by decide) rfl rfl ?_
          have q_10 := H.1
          replace H := H.2
          refine pr_iload_n hC (by decide +kernel : decode cX11_game 135 = .ok (.iload_n 1, 1)) rfl ?_
          refine vc_Vi hC hR [.int a1] fv_X11_193 (by decide +kernel : decode cX11_game 136 = .ok (.invokevirtual 193, 3)) hU (t_X6_isLate q_10 H) q_10 (by decide) rfl rfl rfl (Nat.le_of_ble_eq_true rfl) (Nat.le_of_ble_eq_true rfl) (Nat.le_refl 0) (Nat.le_refl 0) (fun r_12 U_11 h H hU => ?_)
          refine pr_if_eq hC 146 (by decide +kernel : decode cX11_game 139 = .ok (.ifCond .eq 7, 3)) (by decide) (fun c_139 => ?_) (fun c_139 => ?_)
          · replace H := H.1 c_139
            refine pr_iconst hC (0) (by decide +kernel : decode cX11_game 146 = .ok (.iconst 0, 1)) rfl ?_
            exact pv_iret hM (by decide +kernel : decode cX11_game 147 = .ok (.ireturn, 1)) hU H
          replace H := H.2 c_139
          refine pr_iconst hC (1) (by decide +kernel : decode cX11_game 142 = .ok (.iconst 1, 1)) rfl ?_
          refine pr_goto hC 147 (by decide +kernel : decode cX11_game 143 = .ok (.goto 4, 3)) (by decide) ?_
          exact pv_iret hM (by decide +kernel : decode cX11_game 147 = .ok (.ireturn, 1)) hU H
        replace H := H.2 c_124
        refine pr_iconst hC (2) (by decide +kernel : decode cX11_game 127 = .ok (.iconst 2, 1)) rfl ?_
        refine pr_goto hC 147 (by decide +kernel : decode cX11_game 128 = .ok (.goto 19, 3)) (by decide) ?_
        exact pv_iret hM (by decide +kernel : decode cX11_game 147 = .ok (.ireturn, 1)) hU H
  replace H := H.1 c_8
  refine pr_iconst hC (-1) (by decide +kernel : decode cX11_game 11 = .ok (.iconst (-1), 1)) rfl ?_
  exact pv_iret hM (by decide +kernel : decode cX11_game 12 = .ok (.ireturn, 1)) hU H
def w_X11_seat (o : Nat) (a1 : Int32) (a2 : Int32) (a3 : Int32) (U : Um) (post : Int32 → Um → Prop) : Prop :=
  oc (uR U o 2) = 8 ∧ w_X9_isSeat (uR U o 2) a1 a2 U (fun r_3 U_2 => (r_3 = 0 → post (-2) U_2) ∧ (¬ r_3 = 0 → w_X9_placeOf a1 a2 U_2 (fun r_5 U_4 => (a3 = 0 → oc (uR U_4 o 4) = 5 ∧ vp_in r_5 48 ∧ post (uA U_4 (uR U_4 o 4) 2 (Int32.toNatClampNeg r_5)) U_4) ∧ (a3 = 1 → oc (uR U_4 o 4) = 5 ∧ vp_in r_5 48 ∧ post (uA U_4 (uR U_4 o 4) 3 (Int32.toNatClampNeg r_5)) U_4) ∧ (¬ a3 = 0 → ¬ a3 = 1 → post (-2) U_4))))
set_option maxHeartbeats 4000000 in
theorem t_X11_seat {l : Launch} {Y : px_Y} {o : Nat} {a1 : Int32} {a2 : Int32} {a3 : Int32} {U : Um} {post : Int32 → Um → Prop} (ho : oc o = 9) (H : w_X11_seat o a1 a2 a3 U post) : um l Y 2 yX11_seat cX11_seat 5 (some (.int)) [.ref (Y.2.1 o), .int a1, .int a2, .int a3] U (pq_i post) := by
  unfold w_X11_seat at H
  refine um_of (by decide) (Nat.le_of_ble_eq_true rfl) [some (.ref (Y.2.1 o)), some (.int a1), some (.int a2), some (.int a3), none] rfl (fun X h0 hh sz hM hU => ?_)
  have hC := hM.1
  have hR := hM.2.2.1
  refine pr_aload_n hC (by decide +kernel : decode cX11_seat 0 = .ok (.aload_n 0, 1)) rfl ?_
  refine pu_g21 hC fg_X11_28 (by decide +kernel : decode cX11_seat 1 = .ok (.getfield 28, 3)) hU ho (by decide) rfl rfl ?_
  have q_1 := H.1
  replace H := H.2
  refine pr_iload_n hC (by decide +kernel : decode cX11_seat 4 = .ok (.iload_n 1, 1)) rfl ?_
  refine pr_iload_n hC (by decide +kernel : decode cX11_seat 5 = .ok (.iload_n 2, 1)) rfl ?_
  refine vc_Vi hC hR [.int a1, .int a2] fv_X11_196 (by decide +kernel : decode cX11_seat 6 = .ok (.invokevirtual 196, 3)) hU (t_X9_isSeat q_1 H) q_1 (by decide) rfl rfl rfl (Nat.le_of_ble_eq_true rfl) (Nat.le_of_ble_eq_true rfl) (Nat.le_refl 0) (Nat.le_refl 0) (fun r_3 U_2 h H hU => ?_)
  refine pr_if_ne hC 15 (by decide +kernel : decode cX11_seat 9 = .ok (.ifCond .ne 6, 3)) (by decide) (fun c_9 => ?_) (fun c_9 => ?_)
  · replace H := H.2 c_9
    refine pr_iload_n hC (by decide +kernel : decode cX11_seat 15 = .ok (.iload_n 1, 1)) rfl ?_
    refine pr_iload_n hC (by decide +kernel : decode cX11_seat 16 = .ok (.iload_n 2, 1)) rfl ?_
    refine vc_Si hC hR [.int a1, .int a2] fv_X11_199 (by decide +kernel : decode cX11_seat 17 = .ok (.invokestatic 199, 3)) hU (t_X9_placeOf  H) rfl rfl (Nat.le_of_ble_eq_true rfl) (Nat.le_of_ble_eq_true rfl) (Nat.le_refl 0) (Nat.le_refl 0) (fun r_5 U_4 h H hU => ?_)
    refine pr_istore hC (by decide +kernel : decode cX11_seat 20 = .ok (.istore 4, 2)) (by decide) rfl ?_
    refine pr_iload_n hC (by decide +kernel : decode cX11_seat 22 = .ok (.iload_n 3, 1)) rfl ?_
    by_cases e_23_0 : a3 = 0
    · replace H := H.1 e_23_0
      refine pr_lookup hC 48 (by decide +kernel : decode cX11_seat 23 = .ok (.lookupswitch 47 #[(0, 25), (1, 36)], 25)) (by decide) (by rw [e_23_0]; rfl) (by decide) ?_
      refine pr_aload_n hC (by decide +kernel : decode cX11_seat 48 = .ok (.aload_n 0, 1)) rfl ?_
      refine pu_g21 hC fg_X11_40 (by decide +kernel : decode cX11_seat 49 = .ok (.getfield 40, 3)) hU ho (by decide) rfl rfl ?_
      have q_6 := H.1
      replace H := H.2
      refine pu_g1 hC fg_X11_202 (by decide +kernel : decode cX11_seat 52 = .ok (.getfield 202, 3)) hU q_6 (by decide) rfl (by decide) ?_
      refine pr_iload hC (by decide +kernel : decode cX11_seat 55 = .ok (.iload 4, 2)) rfl ?_
      refine pu_iald hC (by decide +kernel : decode cX11_seat 57 = .ok (.iaload, 1)) hU q_6 rfl H.1 ?_
      replace H := H.2
      exact pv_iret hM (by decide +kernel : decode cX11_seat 58 = .ok (.ireturn, 1)) hU H
    replace H := H.2
    by_cases e_23_1 : a3 = 1
    · replace H := H.1 e_23_1
      refine pr_lookup hC 59 (by decide +kernel : decode cX11_seat 23 = .ok (.lookupswitch 47 #[(0, 25), (1, 36)], 25)) (by decide) (by rw [e_23_1]; rfl) (by decide) ?_
      refine pr_aload_n hC (by decide +kernel : decode cX11_seat 59 = .ok (.aload_n 0, 1)) rfl ?_
      refine pu_g21 hC fg_X11_40 (by decide +kernel : decode cX11_seat 60 = .ok (.getfield 40, 3)) hU ho (by decide) rfl rfl ?_
      have q_7 := H.1
      replace H := H.2
      refine pu_g1 hC fg_X11_205 (by decide +kernel : decode cX11_seat 63 = .ok (.getfield 205, 3)) hU q_7 (by decide) rfl (by decide) ?_
      refine pr_iload hC (by decide +kernel : decode cX11_seat 66 = .ok (.iload 4, 2)) rfl ?_
      refine pu_iald hC (by decide +kernel : decode cX11_seat 68 = .ok (.iaload, 1)) hU q_7 rfl H.1 ?_
      replace H := H.2
      exact pv_iret hM (by decide +kernel : decode cX11_seat 69 = .ok (.ireturn, 1)) hU H
    replace H := H.2
    replace H := H e_23_0 e_23_1
    refine pr_lookup hC 70 (by decide +kernel : decode cX11_seat 23 = .ok (.lookupswitch 47 #[(0, 25), (1, 36)], 25)) (by decide) (pv_look01 e_23_0 e_23_1) (by decide) ?_
    refine pr_bipush hC (-2) (by decide +kernel : decode cX11_seat 70 = .ok (.bipush (-2), 2)) rfl ?_
    exact pv_iret hM (by decide +kernel : decode cX11_seat 72 = .ok (.ireturn, 1)) hU H
  replace H := H.1 c_9
  refine pr_bipush hC (-2) (by decide +kernel : decode cX11_seat 12 = .ok (.bipush (-2), 2)) rfl ?_
  exact pv_iret hM (by decide +kernel : decode cX11_seat 14 = .ok (.ireturn, 1)) hU H
def w_X11_way (o : Nat) (a1 : Int32) (a2 : Int32) (U : Um) (post : Int32 → Um → Prop) : Prop :=
  oc (uR U o 2) = 8 ∧ w_X9_areFields (uR U o 2) a1 a2 U (fun r_3 U_2 => (r_3 = 0 → post (-1) U_2) ∧ (¬ r_3 = 0 → oc (uR U_2 o 2) = 8 ∧ oc (uR U_2 (uR U_2 o 2) 10) = 4 ∧ vp_in a1 6 ∧ vp_in a2 6 ∧ post (uA U_2 (uR U_2 (uR U_2 o 2) 10) (ki 2 (Int32.toNatClampNeg a1)) (Int32.toNatClampNeg a2)) U_2))
set_option maxHeartbeats 4000000 in
theorem t_X11_way {l : Launch} {Y : px_Y} {o : Nat} {a1 : Int32} {a2 : Int32} {U : Um} {post : Int32 → Um → Prop} (ho : oc o = 9) (H : w_X11_way o a1 a2 U post) : um l Y 2 yX11_way cX11_way 3 (some (.int)) [.ref (Y.2.1 o), .int a1, .int a2] U (pq_i post) := by
  unfold w_X11_way at H
  refine um_of (by decide) (Nat.le_of_ble_eq_true rfl) [some (.ref (Y.2.1 o)), some (.int a1), some (.int a2)] rfl (fun X h0 hh sz hM hU => ?_)
  have hC := hM.1
  have hR := hM.2.2.1
  refine pr_aload_n hC (by decide +kernel : decode cX11_way 0 = .ok (.aload_n 0, 1)) rfl ?_
  refine pu_g21 hC fg_X11_28 (by decide +kernel : decode cX11_way 1 = .ok (.getfield 28, 3)) hU ho (by decide) rfl rfl ?_
  have q_1 := H.1
  replace H := H.2
  refine pr_iload_n hC (by decide +kernel : decode cX11_way 4 = .ok (.iload_n 1, 1)) rfl ?_
  refine pr_iload_n hC (by decide +kernel : decode cX11_way 5 = .ok (.iload_n 2, 1)) rfl ?_
  refine vc_Vi hC hR [.int a1, .int a2] fv_X11_208 (by decide +kernel : decode cX11_way 6 = .ok (.invokevirtual 208, 3)) hU (t_X9_areFields q_1 H) q_1 (by decide) rfl rfl rfl (Nat.le_of_ble_eq_true rfl) (Nat.le_of_ble_eq_true rfl) (Nat.le_refl 0) (Nat.le_refl 0) (fun r_3 U_2 h H hU => ?_)
  refine pr_if_eq hC 29 (by decide +kernel : decode cX11_way 9 = .ok (.ifCond .eq 20, 3)) (by decide) (fun c_9 => ?_) (fun c_9 => ?_)
  · replace H := H.1 c_9
    refine pr_iconst hC (-1) (by decide +kernel : decode cX11_way 29 = .ok (.iconst (-1), 1)) rfl ?_
    exact pv_iret hM (by decide +kernel : decode cX11_way 30 = .ok (.ireturn, 1)) hU H
  replace H := H.2 c_9
  refine pr_aload_n hC (by decide +kernel : decode cX11_way 12 = .ok (.aload_n 0, 1)) rfl ?_
  refine pu_g21 hC fg_X11_28 (by decide +kernel : decode cX11_way 13 = .ok (.getfield 28, 3)) hU ho (by decide) rfl rfl ?_
  have q_4 := H.1
  replace H := H.2
  refine pu_g21 hC fg_X11_211 (by decide +kernel : decode cX11_way 16 = .ok (.getfield 211, 3)) hU q_4 (by decide) rfl rfl ?_
  have q_5 := H.1
  replace H := H.2
  refine pu_g1 hC fg_X11_215 (by decide +kernel : decode cX11_way 19 = .ok (.getfield 215, 3)) hU q_5 (by decide) rfl (by decide) ?_
  refine pr_iload_n hC (by decide +kernel : decode cX11_way 22 = .ok (.iload_n 1, 1)) rfl ?_
  have q_6 := H.1
  replace H := H.2
  refine pu_aald6 hC (by decide +kernel : decode cX11_way 23 = .ok (.aaload, 1)) hU q_5 rfl q_6 ?_
  refine pr_iload_n hC (by decide +kernel : decode cX11_way 24 = .ok (.iload_n 2, 1)) rfl ?_
  refine pu_iald7 hC (by decide +kernel : decode cX11_way 25 = .ok (.iaload, 1)) hU q_5 rfl (vp_lt q_6) H.1 ?_
  replace H := H.2
  refine pr_goto hC 30 (by decide +kernel : decode cX11_way 26 = .ok (.goto 4, 3)) (by decide) ?_
  exact pv_iret hM (by decide +kernel : decode cX11_way 30 = .ok (.ireturn, 1)) hU H
def w_X11_toward (o : Nat) (a1 : Int32) (a2 : Int32) (U : Um) (post : Int32 → Um → Prop) : Prop :=
  oc (uR U o 2) = 8 ∧ w_X9_areFields (uR U o 2) a1 a2 U (fun r_3 U_2 => (r_3 = 0 → post (-1) U_2) ∧ (¬ r_3 = 0 → oc (uR U_2 o 2) = 8 ∧ oc (uR U_2 (uR U_2 o 2) 10) = 4 ∧ w_X5_firstOn (uR U_2 (uR U_2 o 2) 10) a1 a2 U_2 (fun r_7 U_6 => post r_7 U_6)))
set_option maxHeartbeats 4000000 in
theorem t_X11_toward {l : Launch} {Y : px_Y} {o : Nat} {a1 : Int32} {a2 : Int32} {U : Um} {post : Int32 → Um → Prop} (ho : oc o = 9) (H : w_X11_toward o a1 a2 U post) : um l Y 2 yX11_toward cX11_toward 3 (some (.int)) [.ref (Y.2.1 o), .int a1, .int a2] U (pq_i post) := by
  unfold w_X11_toward at H
  refine um_of (by decide) (Nat.le_of_ble_eq_true rfl) [some (.ref (Y.2.1 o)), some (.int a1), some (.int a2)] rfl (fun X h0 hh sz hM hU => ?_)
  have hC := hM.1
  have hR := hM.2.2.1
  refine pr_aload_n hC (by decide +kernel : decode cX11_toward 0 = .ok (.aload_n 0, 1)) rfl ?_
  refine pu_g21 hC fg_X11_28 (by decide +kernel : decode cX11_toward 1 = .ok (.getfield 28, 3)) hU ho (by decide) rfl rfl ?_
  have q_1 := H.1
  replace H := H.2
  refine pr_iload_n hC (by decide +kernel : decode cX11_toward 4 = .ok (.iload_n 1, 1)) rfl ?_
  refine pr_iload_n hC (by decide +kernel : decode cX11_toward 5 = .ok (.iload_n 2, 1)) rfl ?_
  refine vc_Vi hC hR [.int a1, .int a2] fv_X11_208 (by decide +kernel : decode cX11_toward 6 = .ok (.invokevirtual 208, 3)) hU (t_X9_areFields q_1 H) q_1 (by decide) rfl rfl rfl (Nat.le_of_ble_eq_true rfl) (Nat.le_of_ble_eq_true rfl) (Nat.le_refl 0) (Nat.le_refl 0) (fun r_3 U_2 h H hU => ?_)
  refine pr_if_eq hC 27 (by decide +kernel : decode cX11_toward 9 = .ok (.ifCond .eq 18, 3)) (by decide) (fun c_9 => ?_) (fun c_9 => ?_)
  · replace H := H.1 c_9
    refine pr_iconst hC (-1) (by decide +kernel : decode cX11_toward 27 = .ok (.iconst (-1), 1)) rfl ?_
    exact pv_iret hM (by decide +kernel : decode cX11_toward 28 = .ok (.ireturn, 1)) hU H
  replace H := H.2 c_9
  refine pr_aload_n hC (by decide +kernel : decode cX11_toward 12 = .ok (.aload_n 0, 1)) rfl ?_
  refine pu_g21 hC fg_X11_28 (by decide +kernel : decode cX11_toward 13 = .ok (.getfield 28, 3)) hU ho (by decide) rfl rfl ?_
  have q_4 := H.1
  replace H := H.2
  refine pu_g21 hC fg_X11_211 (by decide +kernel : decode cX11_toward 16 = .ok (.getfield 211, 3)) hU q_4 (by decide) rfl rfl ?_
  have q_5 := H.1
  replace H := H.2
  refine pr_iload_n hC (by decide +kernel : decode cX11_toward 19 = .ok (.iload_n 1, 1)) rfl ?_
  refine pr_iload_n hC (by decide +kernel : decode cX11_toward 20 = .ok (.iload_n 2, 1)) rfl ?_
  refine vc_Vi hC hR [.int a1, .int a2] fv_X11_220 (by decide +kernel : decode cX11_toward 21 = .ok (.invokevirtual 220, 3)) hU (t_X5_firstOn q_5 H) q_5 (by decide) rfl rfl rfl (Nat.le_of_ble_eq_true rfl) (Nat.le_of_ble_eq_true rfl) (Nat.le_refl 0) (Nat.le_refl 0) (fun r_7 U_6 h H hU => ?_)
  refine pr_goto hC 28 (by decide +kernel : decode cX11_toward 24 = .ok (.goto 4, 3)) (by decide) ?_
  exact pv_iret hM (by decide +kernel : decode cX11_toward 28 = .ok (.ireturn, 1)) hU H
def w_X11_hub (o : Nat) (U : Um) (post : Int32 → Um → Prop) : Prop :=
  oc (uR U o 2) = 8 ∧ oc (uR U (uR U o 2) 10) = 4 ∧ w_X5_middle (uR U (uR U o 2) 10) U (fun r_4 U_3 => post r_4 U_3)
set_option maxHeartbeats 4000000 in
theorem t_X11_hub {l : Launch} {Y : px_Y} {o : Nat} {U : Um} {post : Int32 → Um → Prop} (ho : oc o = 9) (H : w_X11_hub o U post) : um l Y 2 yX11_hub cX11_hub 1 (some (.int)) [.ref (Y.2.1 o)] U (pq_i post) := by
  unfold w_X11_hub at H
  refine um_of (by decide) (Nat.le_of_ble_eq_true rfl) [some (.ref (Y.2.1 o))] rfl (fun X h0 hh sz hM hU => ?_)
  have hC := hM.1
  have hR := hM.2.2.1
  refine pr_aload_n hC (by decide +kernel : decode cX11_hub 0 = .ok (.aload_n 0, 1)) rfl ?_
  refine pu_g21 hC fg_X11_28 (by decide +kernel : decode cX11_hub 1 = .ok (.getfield 28, 3)) hU ho (by decide) rfl rfl ?_
  have q_1 := H.1
  replace H := H.2
  refine pu_g21 hC fg_X11_211 (by decide +kernel : decode cX11_hub 4 = .ok (.getfield 211, 3)) hU q_1 (by decide) rfl rfl ?_
  have q_2 := H.1
  replace H := H.2
  refine vc_Vi hC hR [] fv_X11_223 (by decide +kernel : decode cX11_hub 7 = .ok (.invokevirtual 223, 3)) hU (t_X5_middle q_2 H) q_2 (by decide) rfl rfl rfl (Nat.le_of_ble_eq_true rfl) (Nat.le_of_ble_eq_true rfl) (Nat.le_refl 0) (Nat.le_refl 0) (fun r_4 U_3 h H hU => ?_)
  exact pv_iret hM (by decide +kernel : decode cX11_hub 10 = .ok (.ireturn, 1)) hU H
def w_X11_why (o : Nat) (a1 : Int32) (a2 : Int32) (a3 : Int32) (U : Um) (post : Int32 → Um → Prop) : Prop :=
  oc (uR U o 4) = 5 ∧ w_X6_reason (uR U o 4) a1 a2 a3 U (fun r_3 U_2 => post r_3 U_2)
set_option maxHeartbeats 4000000 in
theorem t_X11_why {l : Launch} {Y : px_Y} {o : Nat} {a1 : Int32} {a2 : Int32} {a3 : Int32} {U : Um} {post : Int32 → Um → Prop} (ho : oc o = 9) (H : w_X11_why o a1 a2 a3 U post) : um l Y 3 yX11_why cX11_why 4 (some (.int)) [.ref (Y.2.1 o), .int a1, .int a2, .int a3] U (pq_i post) := by
  unfold w_X11_why at H
  refine um_of (by decide) (Nat.le_of_ble_eq_true rfl) [some (.ref (Y.2.1 o)), some (.int a1), some (.int a2), some (.int a3)] rfl (fun X h0 hh sz hM hU => ?_)
  have hC := hM.1
  have hR := hM.2.2.1
  refine pr_aload_n hC (by decide +kernel : decode cX11_why 0 = .ok (.aload_n 0, 1)) rfl ?_
  refine pu_g21 hC fg_X11_40 (by decide +kernel : decode cX11_why 1 = .ok (.getfield 40, 3)) hU ho (by decide) rfl rfl ?_
  have q_1 := H.1
  replace H := H.2
  refine pr_iload_n hC (by decide +kernel : decode cX11_why 4 = .ok (.iload_n 1, 1)) rfl ?_
  refine pr_iload_n hC (by decide +kernel : decode cX11_why 5 = .ok (.iload_n 2, 1)) rfl ?_
  refine pr_iload_n hC (by decide +kernel : decode cX11_why 6 = .ok (.iload_n 3, 1)) rfl ?_
  refine vc_Vi hC hR [.int a1, .int a2, .int a3] fv_X11_226 (by decide +kernel : decode cX11_why 7 = .ok (.invokevirtual 226, 3)) hU (t_X6_reason q_1 H) q_1 (by decide) rfl rfl rfl (Nat.le_of_ble_eq_true rfl) (Nat.le_of_ble_eq_true rfl) (Nat.le_refl 0) (Nat.le_refl 0) (fun r_3 U_2 h H hU => ?_)
  exact pv_iret hM (by decide +kernel : decode cX11_why 10 = .ok (.ireturn, 1)) hU H
def w_X11_could (o : Nat) (a1 : Int32) (a2 : Int32) (a3 : Int32) (a4 : Int32) (U : Um) (post : Int32 → Um → Prop) : Prop :=
  oc (uR U o 4) = 5 ∧ w_X6_exchangeable (uR U o 4) a1 a2 a3 a4 U (fun r_3 U_2 => post r_3 U_2)
set_option maxHeartbeats 4000000 in
theorem t_X11_could {l : Launch} {Y : px_Y} {o : Nat} {a1 : Int32} {a2 : Int32} {a3 : Int32} {a4 : Int32} {U : Um} {post : Int32 → Um → Prop} (ho : oc o = 9) (H : w_X11_could o a1 a2 a3 a4 U post) : um l Y 3 yX11_could cX11_could 5 (some (.int)) [.ref (Y.2.1 o), .int a1, .int a2, .int a3, .int a4] U (pq_i post) := by
  unfold w_X11_could at H
  refine um_of (by decide) (Nat.le_of_ble_eq_true rfl) [some (.ref (Y.2.1 o)), some (.int a1), some (.int a2), some (.int a3), some (.int a4)] rfl (fun X h0 hh sz hM hU => ?_)
  have hC := hM.1
  have hR := hM.2.2.1
  refine pr_aload_n hC (by decide +kernel : decode cX11_could 0 = .ok (.aload_n 0, 1)) rfl ?_
  refine pu_g21 hC fg_X11_40 (by decide +kernel : decode cX11_could 1 = .ok (.getfield 40, 3)) hU ho (by decide) rfl rfl ?_
  have q_1 := H.1
  replace H := H.2
  refine pr_iload_n hC (by decide +kernel : decode cX11_could 4 = .ok (.iload_n 1, 1)) rfl ?_
  refine pr_iload_n hC (by decide +kernel : decode cX11_could 5 = .ok (.iload_n 2, 1)) rfl ?_
  refine pr_iload_n hC (by decide +kernel : decode cX11_could 6 = .ok (.iload_n 3, 1)) rfl ?_
  refine pr_iload hC (by decide +kernel : decode cX11_could 7 = .ok (.iload 4, 2)) rfl ?_
  refine vc_Vi hC hR [.int a1, .int a2, .int a3, .int a4] fv_X11_241 (by decide +kernel : decode cX11_could 9 = .ok (.invokevirtual 241, 3)) hU (t_X6_exchangeable q_1 H) q_1 (by decide) rfl rfl rfl (Nat.le_of_ble_eq_true rfl) (Nat.le_of_ble_eq_true rfl) (Nat.le_refl 0) (Nat.le_refl 0) (fun r_3 U_2 h H hU => ?_)
  exact pv_iret hM (by decide +kernel : decode cX11_could 12 = .ok (.ireturn, 1)) hU H
def b_X11_able_L19 (o0 : Nat) (x1 : Int32) (x2 : Int32) (post : Int32 → Um → Prop) (k_60 : Int32 → Um → Prop) (rec_ : Int32 → Int32 → Um → Prop) (x3 : Int32) (x4 : Int32) (U : Um) : Prop :=
  oc (uR U o0 2) = 8 ∧ vp_in 2 3 ∧ ((uA U (uR U o0 2) 1 (Int32.toNatClampNeg 2)) ≤ x4 → k_60 x3 U) ∧ (¬ (uA U (uR U o0 2) 1 (Int32.toNatClampNeg 2)) ≤ x4 → oc (uR U o0 4) = 5 ∧ w_X6_reason (uR U o0 4) x1 x2 x4 U (fun r_7 U_6 => (r_7 = 0 → ∀ (x3_8 : Int32), x3_8 = x3 ||| (1 <<< (x4 &&& 31)) → ∀ (x4_9 : Int32), x4_9 = x4 + 1 → rec_ x3_8 x4_9 U_6) ∧ (¬ r_7 = 0 → ∀ (x4_10 : Int32), x4_10 = x4 + 1 → rec_ x3 x4_10 U_6)))
def w_X11_able_L19 (o0 : Nat) (x1 : Int32) (x2 : Int32) (post : Int32 → Um → Prop) (k_60 : Int32 → Um → Prop) (n_ : Nat) : Int32 → Int32 → Um → Prop := Nat.rec (motive := fun _ => Int32 → Int32 → Um → Prop) (fun _ _ _ => False) (fun _ ih => b_X11_able_L19 o0 x1 x2 post k_60 ih) n_
def w_X11_able (o : Nat) (a1 : Int32) (a2 : Int32) (U : Um) (post : Int32 → Um → Prop) : Prop :=
  oc (uR U o 2) = 8 ∧ w_X9_isSeat (uR U o 2) a1 a2 U (fun r_3 U_2 => (r_3 = 0 → post (-1) U_2) ∧ (¬ r_3 = 0 → (∃ n_13, w_X11_able_L19 o a1 a2 post (fun x3_11 U_12 => post x3_11 U_12) n_13 0 0 U_2)))
set_option maxHeartbeats 4000000 in
theorem tl_X11_able_L19 {l : Launch} {Y : px_Y} {X : px_X} {h0 hh : pe_H} {sz : Nat} (o0 : Nat) (x1 : Int32) (x2 : Int32) (post : Int32 → Um → Prop) (k_60 : Int32 → Um → Prop) (ho0 : oc o0 = 9)  (hC : px_C X Y.1 (pm_A hh sz) cX11_able RX11 5) (hM : px_M l X Y.1 hh sz yX11_able cX11_able 5 (some (.int)) 3 0 0) (hR : X.2.2.2.1 = pm_rm 3 0 0) (hk_60 : ∀ (y3 : Int32) (U : Um) (h : pe_H), k_60 y3 U → rF Y h0 U h → pw X Y.1 (pm_A hh sz) (pm_E X Y.1 hh sz 0 0 (pm_P Y h0 sz (pq_i post))) 60 [none, none, none, some (.int y3), none] [] h sz 0 0) : ∀ (n_ : Nat) (x3 : Int32) (x4 : Int32) (U : Um) (h : pe_H), rF Y h0 U h → w_X11_able_L19 o0 x1 x2 post k_60 n_ x3 x4 U → pw X Y.1 (pm_A hh sz) (pm_E X Y.1 hh sz 0 0 (pm_P Y h0 sz (pq_i post))) 19 [some (.ref (Y.2.1 o0)), some (.int x1), some (.int x2), some (.int x3), some (.int x4)] [] h sz 0 0 := by
  intro n_
  induction n_ with
  | zero => intro x3 x4 U h hU H; exact False.elim H
  | succ n_ ih =>
    intro x3 x4 U h hU H
    replace H : b_X11_able_L19 o0 x1 x2 post k_60 (w_X11_able_L19 o0 x1 x2 post k_60 n_) x3 x4 U := H
    unfold b_X11_able_L19 at H
    refine pr_iload hC (by decide +kernel : decode cX11_able 19 = .ok (.iload 4, 2)) rfl ?_
    refine pr_aload_n hC (by decide +kernel : decode cX11_able 21 = .ok (.aload_n 0, 1)) rfl ?_
    refine pu_g21 hC fg_X11_28 (by decide +kernel : decode cX11_able 22 = .ok (.getfield 28, 3)) hU ho0 (by decide) rfl rfl ?_
    have q_4 := H.1
    replace H := H.2
    refine pu_g1 hC fg_X11_94 (by decide +kernel : decode cX11_able 25 = .ok (.getfield 94, 3)) hU q_4 (by decide) rfl (by decide) ?_
    refine pr_iconst hC (2) (by decide +kernel : decode cX11_able 28 = .ok (.iconst 2, 1)) rfl ?_
    refine pu_iald hC (by decide +kernel : decode cX11_able 29 = .ok (.iaload, 1)) hU q_4 rfl H.1 ?_
    replace H := H.2
    refine pr_icmp_ge hC 60 (by decide +kernel : decode cX11_able 30 = .ok (.if_icmp .ge 30, 3)) (by decide) (fun c_30 => ?_) (fun c_30 => ?_)
    · replace H := H.1 c_30
      exact pv_sub [none, none, none, some (.int x3), none] (And.intro rfl trivial) (hk_60 _ U h H hU)
    replace H := H.2 c_30
    refine pr_aload_n hC (by decide +kernel : decode cX11_able 33 = .ok (.aload_n 0, 1)) rfl ?_
    refine pu_g21 hC fg_X11_40 (by decide +kernel : decode cX11_able 34 = .ok (.getfield 40, 3)) hU ho0 (by decide) rfl rfl ?_
    have q_5 := H.1
    replace H := H.2
    refine pr_iload_n hC (by decide +kernel : decode cX11_able 37 = .ok (.iload_n 1, 1)) rfl ?_
    refine pr_iload_n hC (by decide +kernel : decode cX11_able 38 = .ok (.iload_n 2, 1)) rfl ?_
    refine pr_iload hC (by decide +kernel : decode cX11_able 39 = .ok (.iload 4, 2)) rfl ?_
    refine vc_Vi hC hR [.int x1, .int x2, .int x4] fv_X11_226 (by decide +kernel : decode cX11_able 41 = .ok (.invokevirtual 226, 3)) hU (t_X6_reason q_5 H) q_5 (by decide) rfl rfl rfl (Nat.le_of_ble_eq_true rfl) (Nat.le_of_ble_eq_true rfl) (Nat.le_refl 0) (Nat.le_refl 0) (fun r_7 U_6 h H hU => ?_)
    refine pr_if_ne hC 54 (by decide +kernel : decode cX11_able 44 = .ok (.ifCond .ne 10, 3)) (by decide) (fun c_44 => ?_) (fun c_44 => ?_)
    · replace H := H.2 c_44
      refine pv_iinc hC (v := x4 + 1) (by decide +kernel : decode cX11_able 54 = .ok (.iinc 4 1, 3)) rfl (by decide) rfl rfl (fun x4_10 e_x4_10 => ?_)
      replace H := H x4_10 e_x4_10
      refine pr_goto hC 19 (by decide +kernel : decode cX11_able 57 = .ok (.goto (-38), 3)) (by decide) ?_
      exact pv_sub [some (.ref (Y.2.1 o0)), some (.int x1), some (.int x2), some (.int x3), some (.int x4_10)] (And.intro rfl (And.intro rfl (And.intro rfl (And.intro rfl (And.intro rfl trivial))))) (ih _ _ U_6 h hU H)
    replace H := H.1 c_44
    refine pr_iload_n hC (by decide +kernel : decode cX11_able 47 = .ok (.iload_n 3, 1)) rfl ?_
    refine pr_iconst hC (1) (by decide +kernel : decode cX11_able 48 = .ok (.iconst 1, 1)) rfl ?_
    refine pr_iload hC (by decide +kernel : decode cX11_able 49 = .ok (.iload 4, 2)) rfl ?_
    refine pr_ishl hC (by decide +kernel : decode cX11_able 51 = .ok (.ishl, 1)) ?_
    refine pr_ior hC (by decide +kernel : decode cX11_able 52 = .ok (.ior, 1)) ?_
    refine pv_topi (fun x3_8 e_x3_8 => ?_)
    replace H := H x3_8 e_x3_8
    refine pr_istore_n hC (by decide +kernel : decode cX11_able 53 = .ok (.istore_n 3, 1)) (by decide) rfl ?_
    refine pv_iinc hC (v := x4 + 1) (by decide +kernel : decode cX11_able 54 = .ok (.iinc 4 1, 3)) rfl (by decide) rfl rfl (fun x4_9 e_x4_9 => ?_)
    replace H := H x4_9 e_x4_9
    refine pr_goto hC 19 (by decide +kernel : decode cX11_able 57 = .ok (.goto (-38), 3)) (by decide) ?_
    exact pv_sub [some (.ref (Y.2.1 o0)), some (.int x1), some (.int x2), some (.int x3_8), some (.int x4_9)] (And.intro rfl (And.intro rfl (And.intro rfl (And.intro rfl (And.intro rfl trivial))))) (ih _ _ U_6 h hU H)
set_option maxHeartbeats 4000000 in
theorem t_X11_able {l : Launch} {Y : px_Y} {o : Nat} {a1 : Int32} {a2 : Int32} {U : Um} {post : Int32 → Um → Prop} (ho : oc o = 9) (H : w_X11_able o a1 a2 U post) : um l Y 3 yX11_able cX11_able 5 (some (.int)) [.ref (Y.2.1 o), .int a1, .int a2] U (pq_i post) := by
  unfold w_X11_able at H
  refine um_of (by decide) (Nat.le_of_ble_eq_true rfl) [some (.ref (Y.2.1 o)), some (.int a1), some (.int a2), none, none] rfl (fun X h0 hh sz hM hU => ?_)
  have hC := hM.1
  have hR := hM.2.2.1
  refine pr_aload_n hC (by decide +kernel : decode cX11_able 0 = .ok (.aload_n 0, 1)) rfl ?_
  refine pu_g21 hC fg_X11_28 (by decide +kernel : decode cX11_able 1 = .ok (.getfield 28, 3)) hU ho (by decide) rfl rfl ?_
  have q_1 := H.1
  replace H := H.2
  refine pr_iload_n hC (by decide +kernel : decode cX11_able 4 = .ok (.iload_n 1, 1)) rfl ?_
  refine pr_iload_n hC (by decide +kernel : decode cX11_able 5 = .ok (.iload_n 2, 1)) rfl ?_
  refine vc_Vi hC hR [.int a1, .int a2] fv_X11_196 (by decide +kernel : decode cX11_able 6 = .ok (.invokevirtual 196, 3)) hU (t_X9_isSeat q_1 H) q_1 (by decide) rfl rfl rfl (Nat.le_of_ble_eq_true rfl) (Nat.le_of_ble_eq_true rfl) (Nat.le_refl 0) (Nat.le_refl 0) (fun r_3 U_2 h H hU => ?_)
  refine pr_if_ne hC 14 (by decide +kernel : decode cX11_able 9 = .ok (.ifCond .ne 5, 3)) (by decide) (fun c_9 => ?_) (fun c_9 => ?_)
  · replace H := H.2 c_9
    refine pr_iconst hC (0) (by decide +kernel : decode cX11_able 14 = .ok (.iconst 0, 1)) rfl ?_
    refine pr_istore_n hC (by decide +kernel : decode cX11_able 15 = .ok (.istore_n 3, 1)) (by decide) rfl ?_
    refine pr_iconst hC (0) (by decide +kernel : decode cX11_able 16 = .ok (.iconst 0, 1)) rfl ?_
    refine pr_istore hC (by decide +kernel : decode cX11_able 17 = .ok (.istore 4, 2)) (by decide) rfl ?_
    obtain ⟨n_13, H⟩ := H
    refine pv_sub [some (.ref (Y.2.1 o)), some (.int a1), some (.int a2), some (.int 0), some (.int 0)] (And.intro rfl (And.intro rfl (And.intro rfl (And.intro rfl (And.intro rfl trivial))))) ?_
    refine tl_X11_able_L19 _ _ _ _ _ ho hC hM hR (fun x3_11 U_12 h H hU => ?_) n_13 _ _ U_2 h hU H
    refine pr_iload_n hC (by decide +kernel : decode cX11_able 60 = .ok (.iload_n 3, 1)) rfl ?_
    exact pv_iret hM (by decide +kernel : decode cX11_able 61 = .ok (.ireturn, 1)) hU H
  replace H := H.1 c_9
  refine pr_iconst hC (-1) (by decide +kernel : decode cX11_able 12 = .ok (.iconst (-1), 1)) rfl ?_
  exact pv_iret hM (by decide +kernel : decode cX11_able 13 = .ok (.ireturn, 1)) hU H
def w_X11_best (o : Nat) (a1 : Int32) (a2 : Int32) (U : Um) (post : Int32 → Um → Prop) : Prop :=
  oc (uR U o 6) = 0 ∧ w_X1_nearest (uR U o 6) a1 a2 U (fun r_3 U_2 => post r_3 U_2)
set_option maxHeartbeats 4000000 in
theorem t_X11_best {l : Launch} {Y : px_Y} {o : Nat} {a1 : Int32} {a2 : Int32} {U : Um} {post : Int32 → Um → Prop} (ho : oc o = 9) (H : w_X11_best o a1 a2 U post) : um l Y 5 yX11_best cX11_best 3 (some (.int)) [.ref (Y.2.1 o), .int a1, .int a2] U (pq_i post) := by
  unfold w_X11_best at H
  refine um_of (by decide) (Nat.le_of_ble_eq_true rfl) [some (.ref (Y.2.1 o)), some (.int a1), some (.int a2)] rfl (fun X h0 hh sz hM hU => ?_)
  have hC := hM.1
  have hR := hM.2.2.1
  refine pr_aload_n hC (by decide +kernel : decode cX11_best 0 = .ok (.aload_n 0, 1)) rfl ?_
  refine pu_g21 hC fg_X11_52 (by decide +kernel : decode cX11_best 1 = .ok (.getfield 52, 3)) hU ho (by decide) rfl rfl ?_
  have q_1 := H.1
  replace H := H.2
  refine pr_iload_n hC (by decide +kernel : decode cX11_best 4 = .ok (.iload_n 1, 1)) rfl ?_
  refine pr_iload_n hC (by decide +kernel : decode cX11_best 5 = .ok (.iload_n 2, 1)) rfl ?_
  refine vc_Vi hC hR [.int a1, .int a2] fv_X11_249 (by decide +kernel : decode cX11_best 6 = .ok (.invokevirtual 249, 3)) hU (t_X1_nearest q_1 H) q_1 (by decide) rfl rfl rfl (Nat.le_of_ble_eq_true rfl) (Nat.le_of_ble_eq_true rfl) (Nat.le_refl 0) (Nat.le_refl 0) (fun r_3 U_2 h H hU => ?_)
  exact pv_iret hM (by decide +kernel : decode cX11_best 9 = .ok (.ireturn, 1)) hU H
def w_X11_extra (o : Nat) (a1 : Int32) (a2 : Int32) (a3 : Int32) (U : Um) (post : Int32 → Um → Prop) : Prop :=
  oc (uR U o 2) = 8 ∧ w_X9_isSeat (uR U o 2) a1 a2 U (fun r_3 U_2 => (r_3 = 0 → post (-1) U_2) ∧ (¬ r_3 = 0 → oc (uR U_2 o 2) = 8 ∧ w_X9_isNamed (uR U_2 o 2) 2 a3 U_2 (fun r_6 U_5 => (r_6 = 0 → post (-1) U_5) ∧ (¬ r_6 = 0 → oc (uR U_5 o 4) = 5 ∧ w_X6_detour (uR U_5 o 4) a1 a2 a3 U_5 (fun r_9 U_8 => post r_9 U_8)))))
set_option maxHeartbeats 4000000 in
theorem t_X11_extra {l : Launch} {Y : px_Y} {o : Nat} {a1 : Int32} {a2 : Int32} {a3 : Int32} {U : Um} {post : Int32 → Um → Prop} (ho : oc o = 9) (H : w_X11_extra o a1 a2 a3 U post) : um l Y 3 yX11_extra cX11_extra 4 (some (.int)) [.ref (Y.2.1 o), .int a1, .int a2, .int a3] U (pq_i post) := by
  unfold w_X11_extra at H
  refine um_of (by decide) (Nat.le_of_ble_eq_true rfl) [some (.ref (Y.2.1 o)), some (.int a1), some (.int a2), some (.int a3)] rfl (fun X h0 hh sz hM hU => ?_)
  have hC := hM.1
  have hR := hM.2.2.1
  refine pr_aload_n hC (by decide +kernel : decode cX11_extra 0 = .ok (.aload_n 0, 1)) rfl ?_
  refine pu_g21 hC fg_X11_28 (by decide +kernel : decode cX11_extra 1 = .ok (.getfield 28, 3)) hU ho (by decide) rfl rfl ?_
  have q_1 := H.1
  replace H := H.2
  refine pr_iload_n hC (by decide +kernel : decode cX11_extra 4 = .ok (.iload_n 1, 1)) rfl ?_
  refine pr_iload_n hC (by decide +kernel : decode cX11_extra 5 = .ok (.iload_n 2, 1)) rfl ?_
  refine vc_Vi hC hR [.int a1, .int a2] fv_X11_196 (by decide +kernel : decode cX11_extra 6 = .ok (.invokevirtual 196, 3)) hU (t_X9_isSeat q_1 H) q_1 (by decide) rfl rfl rfl (Nat.le_of_ble_eq_true rfl) (Nat.le_of_ble_eq_true rfl) (Nat.le_refl 0) (Nat.le_refl 0) (fun r_3 U_2 h H hU => ?_)
  refine pr_if_eq hC 24 (by decide +kernel : decode cX11_extra 9 = .ok (.ifCond .eq 15, 3)) (by decide) (fun c_9 => ?_) (fun c_9 => ?_)
  · replace H := H.1 c_9
    refine pr_iconst hC (-1) (by decide +kernel : decode cX11_extra 24 = .ok (.iconst (-1), 1)) rfl ?_
    exact pv_iret hM (by decide +kernel : decode cX11_extra 25 = .ok (.ireturn, 1)) hU H
  replace H := H.2 c_9
  refine pr_aload_n hC (by decide +kernel : decode cX11_extra 12 = .ok (.aload_n 0, 1)) rfl ?_
  refine pu_g21 hC fg_X11_28 (by decide +kernel : decode cX11_extra 13 = .ok (.getfield 28, 3)) hU ho (by decide) rfl rfl ?_
  have q_4 := H.1
  replace H := H.2
  refine pr_iconst hC (2) (by decide +kernel : decode cX11_extra 16 = .ok (.iconst 2, 1)) rfl ?_
  refine pr_iload_n hC (by decide +kernel : decode cX11_extra 17 = .ok (.iload_n 3, 1)) rfl ?_
  refine vc_Vi hC hR [.int 2, .int a3] fv_X11_114 (by decide +kernel : decode cX11_extra 18 = .ok (.invokevirtual 114, 3)) hU (t_X9_isNamed q_4 H) q_4 (by decide) rfl rfl rfl (Nat.le_of_ble_eq_true rfl) (Nat.le_of_ble_eq_true rfl) (Nat.le_refl 0) (Nat.le_refl 0) (fun r_6 U_5 h H hU => ?_)
  refine pr_if_ne hC 26 (by decide +kernel : decode cX11_extra 21 = .ok (.ifCond .ne 5, 3)) (by decide) (fun c_21 => ?_) (fun c_21 => ?_)
  · replace H := H.2 c_21
    refine pr_aload_n hC (by decide +kernel : decode cX11_extra 26 = .ok (.aload_n 0, 1)) rfl ?_
    refine pu_g21 hC fg_X11_40 (by decide +kernel : decode cX11_extra 27 = .ok (.getfield 40, 3)) hU ho (by decide) rfl rfl ?_
    have q_7 := H.1
    replace H := H.2
    refine pr_iload_n hC (by decide +kernel : decode cX11_extra 30 = .ok (.iload_n 1, 1)) rfl ?_
    refine pr_iload_n hC (by decide +kernel : decode cX11_extra 31 = .ok (.iload_n 2, 1)) rfl ?_
    refine pr_iload_n hC (by decide +kernel : decode cX11_extra 32 = .ok (.iload_n 3, 1)) rfl ?_
    refine vc_Vi hC hR [.int a1, .int a2, .int a3] fv_X11_252 (by decide +kernel : decode cX11_extra 33 = .ok (.invokevirtual 252, 3)) hU (t_X6_detour q_7 H) q_7 (by decide) rfl rfl rfl (Nat.le_of_ble_eq_true rfl) (Nat.le_of_ble_eq_true rfl) (Nat.le_refl 0) (Nat.le_refl 0) (fun r_9 U_8 h H hU => ?_)
    exact pv_iret hM (by decide +kernel : decode cX11_extra 36 = .ok (.ireturn, 1)) hU H
  replace H := H.1 c_21
  refine pr_iconst hC (-1) (by decide +kernel : decode cX11_extra 24 = .ok (.iconst (-1), 1)) rfl ?_
  exact pv_iret hM (by decide +kernel : decode cX11_extra 25 = .ok (.ireturn, 1)) hU H
def w_X11_fee (o : Nat) (a1 : Int32) (a2 : Int32) (a3 : Int32) (U : Um) (post : Int64 → Um → Prop) : Prop :=
  oc (uR U o 2) = 8 ∧ w_X9_isSeat (uR U o 2) a1 a2 U (fun r_3 U_2 => (r_3 = 0 → post (-9223372036854775808) U_2) ∧ (¬ r_3 = 0 → oc (uR U_2 o 2) = 8 ∧ w_X9_isNamed (uR U_2 o 2) 2 a3 U_2 (fun r_6 U_5 => (r_6 = 0 → post (-9223372036854775808) U_5) ∧ (¬ r_6 = 0 → oc (uR U_5 o 4) = 5 ∧ w_X6_pay (uR U_5 o 4) a1 a2 a3 U_5 (fun r_9 U_8 => post r_9 U_8)))))
set_option maxHeartbeats 4000000 in
theorem t_X11_fee {l : Launch} {Y : px_Y} {o : Nat} {a1 : Int32} {a2 : Int32} {a3 : Int32} {U : Um} {post : Int64 → Um → Prop} (ho : oc o = 9) (H : w_X11_fee o a1 a2 a3 U post) : um l Y 4 yX11_fee cX11_fee 4 (some (.long)) [.ref (Y.2.1 o), .int a1, .int a2, .int a3] U (pq_l post) := by
  unfold w_X11_fee at H
  refine um_of (by decide) (Nat.le_of_ble_eq_true rfl) [some (.ref (Y.2.1 o)), some (.int a1), some (.int a2), some (.int a3)] rfl (fun X h0 hh sz hM hU => ?_)
  have hC := hM.1
  have hR := hM.2.2.1
  refine pr_aload_n hC (by decide +kernel : decode cX11_fee 0 = .ok (.aload_n 0, 1)) rfl ?_
  refine pu_g21 hC fg_X11_28 (by decide +kernel : decode cX11_fee 1 = .ok (.getfield 28, 3)) hU ho (by decide) rfl rfl ?_
  have q_1 := H.1
  replace H := H.2
  refine pr_iload_n hC (by decide +kernel : decode cX11_fee 4 = .ok (.iload_n 1, 1)) rfl ?_
  refine pr_iload_n hC (by decide +kernel : decode cX11_fee 5 = .ok (.iload_n 2, 1)) rfl ?_
  refine vc_Vi hC hR [.int a1, .int a2] fv_X11_196 (by decide +kernel : decode cX11_fee 6 = .ok (.invokevirtual 196, 3)) hU (t_X9_isSeat q_1 H) q_1 (by decide) rfl rfl rfl (Nat.le_of_ble_eq_true rfl) (Nat.le_of_ble_eq_true rfl) (Nat.le_refl 0) (Nat.le_refl 0) (fun r_3 U_2 h H hU => ?_)
  refine pr_if_eq hC 24 (by decide +kernel : decode cX11_fee 9 = .ok (.ifCond .eq 15, 3)) (by decide) (fun c_9 => ?_) (fun c_9 => ?_)
  · replace H := H.1 c_9
    refine pr_ldc2 hC (-9223372036854775808) (by decide +kernel : decode cX11_fee 24 = .ok (.ldc2_w 255, 3)) fk_X11_255 ?_
    exact pv_lret hM (by decide +kernel : decode cX11_fee 27 = .ok (.lreturn, 1)) hU H
  replace H := H.2 c_9
  refine pr_aload_n hC (by decide +kernel : decode cX11_fee 12 = .ok (.aload_n 0, 1)) rfl ?_
  refine pu_g21 hC fg_X11_28 (by decide +kernel : decode cX11_fee 13 = .ok (.getfield 28, 3)) hU ho (by decide) rfl rfl ?_
  have q_4 := H.1
  replace H := H.2
  refine pr_iconst hC (2) (by decide +kernel : decode cX11_fee 16 = .ok (.iconst 2, 1)) rfl ?_
  refine pr_iload_n hC (by decide +kernel : decode cX11_fee 17 = .ok (.iload_n 3, 1)) rfl ?_
  refine vc_Vi hC hR [.int 2, .int a3] fv_X11_114 (by decide +kernel : decode cX11_fee 18 = .ok (.invokevirtual 114, 3)) hU (t_X9_isNamed q_4 H) q_4 (by decide) rfl rfl rfl (Nat.le_of_ble_eq_true rfl) (Nat.le_of_ble_eq_true rfl) (Nat.le_refl 0) (Nat.le_refl 0) (fun r_6 U_5 h H hU => ?_)
  refine pr_if_ne hC 28 (by decide +kernel : decode cX11_fee 21 = .ok (.ifCond .ne 7, 3)) (by decide) (fun c_21 => ?_) (fun c_21 => ?_)
  · replace H := H.2 c_21
    refine pr_aload_n hC (by decide +kernel : decode cX11_fee 28 = .ok (.aload_n 0, 1)) rfl ?_
    refine pu_g21 hC fg_X11_40 (by decide +kernel : decode cX11_fee 29 = .ok (.getfield 40, 3)) hU ho (by decide) rfl rfl ?_
    have q_7 := H.1
    replace H := H.2
    refine pr_iload_n hC (by decide +kernel : decode cX11_fee 32 = .ok (.iload_n 1, 1)) rfl ?_
    refine pr_iload_n hC (by decide +kernel : decode cX11_fee 33 = .ok (.iload_n 2, 1)) rfl ?_
    refine pr_iload_n hC (by decide +kernel : decode cX11_fee 34 = .ok (.iload_n 3, 1)) rfl ?_
    refine vc_Vl hC hR [.int a1, .int a2, .int a3] fv_X11_257 (by decide +kernel : decode cX11_fee 35 = .ok (.invokevirtual 257, 3)) hU (t_X6_pay q_7 H) q_7 (by decide) rfl rfl rfl (Nat.le_of_ble_eq_true rfl) (Nat.le_of_ble_eq_true rfl) (Nat.le_refl 0) (Nat.le_refl 0) (fun r_9 U_8 h H hU => ?_)
    exact pv_lret hM (by decide +kernel : decode cX11_fee 38 = .ok (.lreturn, 1)) hU H
  replace H := H.1 c_21
  refine pr_ldc2 hC (-9223372036854775808) (by decide +kernel : decode cX11_fee 24 = .ok (.ldc2_w 255, 3)) fk_X11_255 ?_
  exact pv_lret hM (by decide +kernel : decode cX11_fee 27 = .ok (.lreturn, 1)) hU H
def w_X11_fees (o : Nat) (a1 : Int32) (U : Um) (post : Int64 → Um → Prop) : Prop :=
  (∀ K_1 : Um → Prop, (∀ (U_2 : Um), (oc (uR U_2 o 4) = 5 ∧ w_X6_payOfAll (uR U_2 o 4) a1 U_2 (fun r_5 U_4 => post r_5 U_4)) → K_1 U_2) → (a1 = (-1) → K_1 U) ∧ (¬ a1 = (-1) → oc (uR U o 2) = 8 ∧ w_X9_isNamed (uR U o 2) 2 a1 U (fun r_8 U_7 => (r_8 = 0 → post (-9223372036854775808) U_7) ∧ (¬ r_8 = 0 → K_1 U_7))))
set_option maxHeartbeats 4000000 in
theorem t_X11_fees {l : Launch} {Y : px_Y} {o : Nat} {a1 : Int32} {U : Um} {post : Int64 → Um → Prop} (ho : oc o = 9) (H : w_X11_fees o a1 U post) : um l Y 5 yX11_fees cX11_fees 2 (some (.long)) [.ref (Y.2.1 o), .int a1] U (pq_l post) := by
  unfold w_X11_fees at H
  refine um_of (by decide) (Nat.le_of_ble_eq_true rfl) [some (.ref (Y.2.1 o)), some (.int a1)] rfl (fun X h0 hh sz hM hU => ?_)
  have hC := hM.1
  have hR := hM.2.2.1
  refine pr_iload_n hC (by decide +kernel : decode cX11_fees 0 = .ok (.iload_n 1, 1)) rfl ?_
  refine pr_iconst hC (-1) (by decide +kernel : decode cX11_fees 1 = .ok (.iconst (-1), 1)) rfl ?_
  replace H := H (fun U_2 => ∀ h : pe_H, rF Y h0 U_2 h → pw X Y.1 (pm_A hh sz) (pm_E X Y.1 hh sz 0 0 (pm_P Y h0 sz (pq_l post))) 21 [some (.ref (Y.2.1 o)), some (.int a1)] [] h sz 0 0) (by
    intro U_2 H h hU
    refine pr_aload_n hC (by decide +kernel : decode cX11_fees 21 = .ok (.aload_n 0, 1)) rfl ?_
    refine pu_g21 hC fg_X11_40 (by decide +kernel : decode cX11_fees 22 = .ok (.getfield 40, 3)) hU ho (by decide) rfl rfl ?_
    have q_3 := H.1
    replace H := H.2
    refine pr_iload_n hC (by decide +kernel : decode cX11_fees 25 = .ok (.iload_n 1, 1)) rfl ?_
    refine vc_Vl hC hR [.int a1] fv_X11_261 (by decide +kernel : decode cX11_fees 26 = .ok (.invokevirtual 261, 3)) hU (t_X6_payOfAll q_3 H) q_3 (by decide) rfl rfl rfl (Nat.le_of_ble_eq_true rfl) (Nat.le_of_ble_eq_true rfl) (Nat.le_refl 0) (Nat.le_refl 0) (fun r_5 U_4 h H hU => ?_)
    exact pv_lret hM (by decide +kernel : decode cX11_fees 29 = .ok (.lreturn, 1)) hU H)
  refine pr_icmp_eq hC 21 (by decide +kernel : decode cX11_fees 2 = .ok (.if_icmp .eq 19, 3)) (by decide) (fun c_2 => ?_) (fun c_2 => ?_)
  · replace H := H.1 c_2
    exact pv_sub [some (.ref (Y.2.1 o)), some (.int a1)] (And.intro rfl (And.intro rfl trivial)) (H hh hU)
  replace H := H.2 c_2
  refine pr_aload_n hC (by decide +kernel : decode cX11_fees 5 = .ok (.aload_n 0, 1)) rfl ?_
  refine pu_g21 hC fg_X11_28 (by decide +kernel : decode cX11_fees 6 = .ok (.getfield 28, 3)) hU ho (by decide) rfl rfl ?_
  have q_6 := H.1
  replace H := H.2
  refine pr_iconst hC (2) (by decide +kernel : decode cX11_fees 9 = .ok (.iconst 2, 1)) rfl ?_
  refine pr_iload_n hC (by decide +kernel : decode cX11_fees 10 = .ok (.iload_n 1, 1)) rfl ?_
  refine vc_Vi hC hR [.int 2, .int a1] fv_X11_114 (by decide +kernel : decode cX11_fees 11 = .ok (.invokevirtual 114, 3)) hU (t_X9_isNamed q_6 H) q_6 (by decide) rfl rfl rfl (Nat.le_of_ble_eq_true rfl) (Nat.le_of_ble_eq_true rfl) (Nat.le_refl 0) (Nat.le_refl 0) (fun r_8 U_7 h H hU => ?_)
  refine pr_if_ne hC 21 (by decide +kernel : decode cX11_fees 14 = .ok (.ifCond .ne 7, 3)) (by decide) (fun c_14 => ?_) (fun c_14 => ?_)
  · replace H := H.2 c_14
    exact pv_sub [some (.ref (Y.2.1 o)), some (.int a1)] (And.intro rfl (And.intro rfl trivial)) (H h hU)
  replace H := H.1 c_14
  refine pr_ldc2 hC (-9223372036854775808) (by decide +kernel : decode cX11_fees 17 = .ok (.ldc2_w 255, 3)) fk_X11_255 ?_
  exact pv_lret hM (by decide +kernel : decode cX11_fees 20 = .ok (.lreturn, 1)) hU H
def w_X11_steps (o : Nat) (a1 : Int32) (a2 : Int32) (a3 : Int32) (U : Um) (post : Int32 → Um → Prop) : Prop :=
  (a3 < 0 → post (-1) U) ∧ (¬ a3 < 0 → ((4 : Int32) < a3 → post (-1) U) ∧ (¬ (4 : Int32) < a3 → oc (uR U o 2) = 8 ∧ w_X9_isSeat (uR U o 2) a1 a2 U (fun r_3 U_2 => (r_3 = 0 → post (-1) U_2) ∧ (¬ r_3 = 0 → oc (uR U_2 o 4) = 5 ∧ w_X6_isPlayed (uR U_2 o 4) a1 U_2 (fun r_6 U_5 => (r_6 = 0 → oc (uR U_5 o 6) = 0 ∧ w_X1_findStep (uR U_5 o 6) a1 a2 a3 U_5 (fun r_9 U_8 => post r_9 U_8)) ∧ (¬ r_6 = 0 → post (-1) U_5))))))
set_option maxHeartbeats 4000000 in
theorem t_X11_steps {l : Launch} {Y : px_Y} {o : Nat} {a1 : Int32} {a2 : Int32} {a3 : Int32} {U : Um} {post : Int32 → Um → Prop} (ho : oc o = 9) (H : w_X11_steps o a1 a2 a3 U post) : um l Y 5 yX11_steps cX11_steps 4 (some (.int)) [.ref (Y.2.1 o), .int a1, .int a2, .int a3] U (pq_i post) := by
  unfold w_X11_steps at H
  refine um_of (by decide) (Nat.le_of_ble_eq_true rfl) [some (.ref (Y.2.1 o)), some (.int a1), some (.int a2), some (.int a3)] rfl (fun X h0 hh sz hM hU => ?_)
  have hC := hM.1
  have hR := hM.2.2.1
  refine pr_iload_n hC (by decide +kernel : decode cX11_steps 0 = .ok (.iload_n 3, 1)) rfl ?_
  refine pr_if_lt hC 32 (by decide +kernel : decode cX11_steps 1 = .ok (.ifCond .lt 31, 3)) (by decide) (fun c_1 => ?_) (fun c_1 => ?_)
  · replace H := H.1 c_1
    refine pr_iconst hC (-1) (by decide +kernel : decode cX11_steps 32 = .ok (.iconst (-1), 1)) rfl ?_
    exact pv_iret hM (by decide +kernel : decode cX11_steps 33 = .ok (.ireturn, 1)) hU H
  replace H := H.2 c_1
  refine pr_iload_n hC (by decide +kernel : decode cX11_steps 4 = .ok (.iload_n 3, 1)) rfl ?_
  refine pr_iconst hC (4) (by decide +kernel : decode cX11_steps 5 = .ok (.iconst 4, 1)) rfl ?_
  refine pr_icmp_gt hC 32 (by decide +kernel : decode cX11_steps 6 = .ok (.if_icmp .gt 26, 3)) (by decide) (fun c_6 => ?_) (fun c_6 => ?_)
  · replace H := H.1 c_6
    refine pr_iconst hC (-1) (by decide +kernel : decode cX11_steps 32 = .ok (.iconst (-1), 1)) rfl ?_
    exact pv_iret hM (by decide +kernel : decode cX11_steps 33 = .ok (.ireturn, 1)) hU H
  replace H := H.2 c_6
  refine pr_aload_n hC (by decide +kernel : decode cX11_steps 9 = .ok (.aload_n 0, 1)) rfl ?_
  refine pu_g21 hC fg_X11_28 (by decide +kernel : decode cX11_steps 10 = .ok (.getfield 28, 3)) hU ho (by decide) rfl rfl ?_
  have q_1 := H.1
  replace H := H.2
  refine pr_iload_n hC (by decide +kernel : decode cX11_steps 13 = .ok (.iload_n 1, 1)) rfl ?_
  refine pr_iload_n hC (by decide +kernel : decode cX11_steps 14 = .ok (.iload_n 2, 1)) rfl ?_
  refine vc_Vi hC hR [.int a1, .int a2] fv_X11_196 (by decide +kernel : decode cX11_steps 15 = .ok (.invokevirtual 196, 3)) hU (t_X9_isSeat q_1 H) q_1 (by decide) rfl rfl rfl (Nat.le_of_ble_eq_true rfl) (Nat.le_of_ble_eq_true rfl) (Nat.le_refl 0) (Nat.le_refl 0) (fun r_3 U_2 h H hU => ?_)
  refine pr_if_eq hC 32 (by decide +kernel : decode cX11_steps 18 = .ok (.ifCond .eq 14, 3)) (by decide) (fun c_18 => ?_) (fun c_18 => ?_)
  · replace H := H.1 c_18
    refine pr_iconst hC (-1) (by decide +kernel : decode cX11_steps 32 = .ok (.iconst (-1), 1)) rfl ?_
    exact pv_iret hM (by decide +kernel : decode cX11_steps 33 = .ok (.ireturn, 1)) hU H
  replace H := H.2 c_18
  refine pr_aload_n hC (by decide +kernel : decode cX11_steps 21 = .ok (.aload_n 0, 1)) rfl ?_
  refine pu_g21 hC fg_X11_40 (by decide +kernel : decode cX11_steps 22 = .ok (.getfield 40, 3)) hU ho (by decide) rfl rfl ?_
  have q_4 := H.1
  replace H := H.2
  refine pr_iload_n hC (by decide +kernel : decode cX11_steps 25 = .ok (.iload_n 1, 1)) rfl ?_
  refine vc_Vi hC hR [.int a1] fv_X11_190 (by decide +kernel : decode cX11_steps 26 = .ok (.invokevirtual 190, 3)) hU (t_X6_isPlayed q_4 H) q_4 (by decide) rfl rfl rfl (Nat.le_of_ble_eq_true rfl) (Nat.le_of_ble_eq_true rfl) (Nat.le_refl 0) (Nat.le_refl 0) (fun r_6 U_5 h H hU => ?_)
  refine pr_if_eq hC 34 (by decide +kernel : decode cX11_steps 29 = .ok (.ifCond .eq 5, 3)) (by decide) (fun c_29 => ?_) (fun c_29 => ?_)
  · replace H := H.1 c_29
    refine pr_aload_n hC (by decide +kernel : decode cX11_steps 34 = .ok (.aload_n 0, 1)) rfl ?_
    refine pu_g21 hC fg_X11_52 (by decide +kernel : decode cX11_steps 35 = .ok (.getfield 52, 3)) hU ho (by decide) rfl rfl ?_
    have q_7 := H.1
    replace H := H.2
    refine pr_iload_n hC (by decide +kernel : decode cX11_steps 38 = .ok (.iload_n 1, 1)) rfl ?_
    refine pr_iload_n hC (by decide +kernel : decode cX11_steps 39 = .ok (.iload_n 2, 1)) rfl ?_
    refine pr_iload_n hC (by decide +kernel : decode cX11_steps 40 = .ok (.iload_n 3, 1)) rfl ?_
    refine vc_Vi hC hR [.int a1, .int a2, .int a3] fv_X11_274 (by decide +kernel : decode cX11_steps 41 = .ok (.invokevirtual 274, 3)) hU (t_X1_findStep q_7 H) q_7 (by decide) rfl rfl rfl (Nat.le_of_ble_eq_true rfl) (Nat.le_of_ble_eq_true rfl) (Nat.le_refl 0) (Nat.le_refl 0) (fun r_9 U_8 h H hU => ?_)
    exact pv_iret hM (by decide +kernel : decode cX11_steps 44 = .ok (.ireturn, 1)) hU H
  replace H := H.2 c_29
  refine pr_iconst hC (-1) (by decide +kernel : decode cX11_steps 32 = .ok (.iconst (-1), 1)) rfl ?_
  exact pv_iret hM (by decide +kernel : decode cX11_steps 33 = .ok (.ireturn, 1)) hU H
def w_X11_unsound (o : Nat) (a1 : Int32) (U : Um) (post : Int32 → Um → Prop) : Prop :=
  oc (uR U o 4) = 5 ∧ w_X6_unsoundPlace (uR U o 4) a1 U (fun r_3 U_2 => post r_3 U_2)
set_option maxHeartbeats 4000000 in
theorem t_X11_unsound {l : Launch} {Y : px_Y} {o : Nat} {a1 : Int32} {U : Um} {post : Int32 → Um → Prop} (ho : oc o = 9) (H : w_X11_unsound o a1 U post) : um l Y 3 yX11_unsound cX11_unsound 2 (some (.int)) [.ref (Y.2.1 o), .int a1] U (pq_i post) := by
  unfold w_X11_unsound at H
  refine um_of (by decide) (Nat.le_of_ble_eq_true rfl) [some (.ref (Y.2.1 o)), some (.int a1)] rfl (fun X h0 hh sz hM hU => ?_)
  have hC := hM.1
  have hR := hM.2.2.1
  refine pr_aload_n hC (by decide +kernel : decode cX11_unsound 0 = .ok (.aload_n 0, 1)) rfl ?_
  refine pu_g21 hC fg_X11_40 (by decide +kernel : decode cX11_unsound 1 = .ok (.getfield 40, 3)) hU ho (by decide) rfl rfl ?_
  have q_1 := H.1
  replace H := H.2
  refine pr_iload_n hC (by decide +kernel : decode cX11_unsound 4 = .ok (.iload_n 1, 1)) rfl ?_
  refine vc_Vi hC hR [.int a1] fv_X11_277 (by decide +kernel : decode cX11_unsound 5 = .ok (.invokevirtual 277, 3)) hU (t_X6_unsoundPlace q_1 H) q_1 (by decide) rfl rfl rfl (Nat.le_of_ble_eq_true rfl) (Nat.le_of_ble_eq_true rfl) (Nat.le_refl 0) (Nat.le_refl 0) (fun r_3 U_2 h H hU => ?_)
  exact pv_iret hM (by decide +kernel : decode cX11_unsound 8 = .ok (.ireturn, 1)) hU H
def w_X11_exchange (o : Nat) (a1 : Int32) (U : Um) (post : Int32 → Um → Prop) : Prop :=
  (a1 < 0 → post (-2) U) ∧ (¬ a1 < 0 → (a1 ≤ 4 → oc (uR U o 6) = 0 ∧ w_X1_findExchange (uR U o 6) a1 U (fun r_3 U_2 => post r_3 U_2)) ∧ (¬ a1 ≤ 4 → post (-2) U))
set_option maxHeartbeats 4000000 in
theorem t_X11_exchange {l : Launch} {Y : px_Y} {o : Nat} {a1 : Int32} {U : Um} {post : Int32 → Um → Prop} (ho : oc o = 9) (H : w_X11_exchange o a1 U post) : um l Y 5 yX11_exchange cX11_exchange 2 (some (.int)) [.ref (Y.2.1 o), .int a1] U (pq_i post) := by
  unfold w_X11_exchange at H
  refine um_of (by decide) (Nat.le_of_ble_eq_true rfl) [some (.ref (Y.2.1 o)), some (.int a1)] rfl (fun X h0 hh sz hM hU => ?_)
  have hC := hM.1
  have hR := hM.2.2.1
  refine pr_iload_n hC (by decide +kernel : decode cX11_exchange 0 = .ok (.iload_n 1, 1)) rfl ?_
  refine pr_if_lt hC 9 (by decide +kernel : decode cX11_exchange 1 = .ok (.ifCond .lt 8, 3)) (by decide) (fun c_1 => ?_) (fun c_1 => ?_)
  · replace H := H.1 c_1
    refine pr_bipush hC (-2) (by decide +kernel : decode cX11_exchange 9 = .ok (.bipush (-2), 2)) rfl ?_
    refine pr_goto hC 22 (by decide +kernel : decode cX11_exchange 11 = .ok (.goto 11, 3)) (by decide) ?_
    exact pv_iret hM (by decide +kernel : decode cX11_exchange 22 = .ok (.ireturn, 1)) hU H
  replace H := H.2 c_1
  refine pr_iload_n hC (by decide +kernel : decode cX11_exchange 4 = .ok (.iload_n 1, 1)) rfl ?_
  refine pr_iconst hC (4) (by decide +kernel : decode cX11_exchange 5 = .ok (.iconst 4, 1)) rfl ?_
  refine pr_icmp_le hC 14 (by decide +kernel : decode cX11_exchange 6 = .ok (.if_icmp .le 8, 3)) (by decide) (fun c_6 => ?_) (fun c_6 => ?_)
  · replace H := H.1 c_6
    refine pr_aload_n hC (by decide +kernel : decode cX11_exchange 14 = .ok (.aload_n 0, 1)) rfl ?_
    refine pu_g21 hC fg_X11_52 (by decide +kernel : decode cX11_exchange 15 = .ok (.getfield 52, 3)) hU ho (by decide) rfl rfl ?_
    have q_1 := H.1
    replace H := H.2
    refine pr_iload_n hC (by decide +kernel : decode cX11_exchange 18 = .ok (.iload_n 1, 1)) rfl ?_
    refine vc_Vi hC hR [.int a1] fv_X11_280 (by decide +kernel : decode cX11_exchange 19 = .ok (.invokevirtual 280, 3)) hU (t_X1_findExchange q_1 H) q_1 (by decide) rfl rfl rfl (Nat.le_of_ble_eq_true rfl) (Nat.le_of_ble_eq_true rfl) (Nat.le_refl 0) (Nat.le_refl 0) (fun r_3 U_2 h H hU => ?_)
    exact pv_iret hM (by decide +kernel : decode cX11_exchange 22 = .ok (.ireturn, 1)) hU H
  replace H := H.2 c_6
  refine pr_bipush hC (-2) (by decide +kernel : decode cX11_exchange 9 = .ok (.bipush (-2), 2)) rfl ?_
  refine pr_goto hC 22 (by decide +kernel : decode cX11_exchange 11 = .ok (.goto 11, 3)) (by decide) ?_
  exact pv_iret hM (by decide +kernel : decode cX11_exchange 22 = .ok (.ireturn, 1)) hU H
def w_X11_round (o : Nat) (a1 : Int32) (a2 : Int32) (U : Um) (post : Int32 → Um → Prop) : Prop :=
  oc (uR U o 2) = 8 ∧ w_X9_isNamed (uR U o 2) 2 a1 U (fun r_3 U_2 => (r_3 = 0 → post (-1) U_2) ∧ (¬ r_3 = 0 → (a2 < 0 → post (-1) U_2) ∧ (¬ a2 < 0 → (a2 < 7 → oc (uR U_2 o 4) = 5 ∧ oc (uR U_2 o 4) = 5 ∧ vp_in a1 10 ∧ w_X6_roundOn (uR U_2 o 4) a1 (uA U_2 (uR U_2 o 4) 7 (Int32.toNatClampNeg a1)) a2 U_2 (fun r_7 U_6 => post r_7 U_6)) ∧ (¬ a2 < 7 → post (-1) U_2))))
set_option maxHeartbeats 4000000 in
theorem t_X11_round {l : Launch} {Y : px_Y} {o : Nat} {a1 : Int32} {a2 : Int32} {U : Um} {post : Int32 → Um → Prop} (ho : oc o = 9) (H : w_X11_round o a1 a2 U post) : um l Y 2 yX11_round cX11_round 3 (some (.int)) [.ref (Y.2.1 o), .int a1, .int a2] U (pq_i post) := by
  unfold w_X11_round at H
  refine um_of (by decide) (Nat.le_of_ble_eq_true rfl) [some (.ref (Y.2.1 o)), some (.int a1), some (.int a2)] rfl (fun X h0 hh sz hM hU => ?_)
  have hC := hM.1
  have hR := hM.2.2.1
  refine pr_aload_n hC (by decide +kernel : decode cX11_round 0 = .ok (.aload_n 0, 1)) rfl ?_
  refine pu_g21 hC fg_X11_28 (by decide +kernel : decode cX11_round 1 = .ok (.getfield 28, 3)) hU ho (by decide) rfl rfl ?_
  have q_1 := H.1
  replace H := H.2
  refine pr_iconst hC (2) (by decide +kernel : decode cX11_round 4 = .ok (.iconst 2, 1)) rfl ?_
  refine pr_iload_n hC (by decide +kernel : decode cX11_round 5 = .ok (.iload_n 1, 1)) rfl ?_
  refine vc_Vi hC hR [.int 2, .int a1] fv_X11_114 (by decide +kernel : decode cX11_round 6 = .ok (.invokevirtual 114, 3)) hU (t_X9_isNamed q_1 H) q_1 (by decide) rfl rfl rfl (Nat.le_of_ble_eq_true rfl) (Nat.le_of_ble_eq_true rfl) (Nat.le_refl 0) (Nat.le_refl 0) (fun r_3 U_2 h H hU => ?_)
  refine pr_if_eq hC 22 (by decide +kernel : decode cX11_round 9 = .ok (.ifCond .eq 13, 3)) (by decide) (fun c_9 => ?_) (fun c_9 => ?_)
  · replace H := H.1 c_9
    refine pr_iconst hC (-1) (by decide +kernel : decode cX11_round 22 = .ok (.iconst (-1), 1)) rfl ?_
    exact pv_iret hM (by decide +kernel : decode cX11_round 23 = .ok (.ireturn, 1)) hU H
  replace H := H.2 c_9
  refine pr_iload_n hC (by decide +kernel : decode cX11_round 12 = .ok (.iload_n 2, 1)) rfl ?_
  refine pr_if_lt hC 22 (by decide +kernel : decode cX11_round 13 = .ok (.ifCond .lt 9, 3)) (by decide) (fun c_13 => ?_) (fun c_13 => ?_)
  · replace H := H.1 c_13
    refine pr_iconst hC (-1) (by decide +kernel : decode cX11_round 22 = .ok (.iconst (-1), 1)) rfl ?_
    exact pv_iret hM (by decide +kernel : decode cX11_round 23 = .ok (.ireturn, 1)) hU H
  replace H := H.2 c_13
  refine pr_iload_n hC (by decide +kernel : decode cX11_round 16 = .ok (.iload_n 2, 1)) rfl ?_
  refine pr_bipush hC (7) (by decide +kernel : decode cX11_round 17 = .ok (.bipush 7, 2)) rfl ?_
  refine pr_icmp_lt hC 24 (by decide +kernel : decode cX11_round 19 = .ok (.if_icmp .lt 5, 3)) (by decide) (fun c_19 => ?_) (fun c_19 => ?_)
  · replace H := H.1 c_19
    refine pr_aload_n hC (by decide +kernel : decode cX11_round 24 = .ok (.aload_n 0, 1)) rfl ?_
    refine pu_g21 hC fg_X11_40 (by decide +kernel : decode cX11_round 25 = .ok (.getfield 40, 3)) hU ho (by decide) rfl rfl ?_
    have q_4 := H.1
    replace H := H.2
    refine pr_iload_n hC (by decide +kernel : decode cX11_round 28 = .ok (.iload_n 1, 1)) rfl ?_
    refine pr_aload_n hC (by decide +kernel : decode cX11_round 29 = .ok (.aload_n 0, 1)) rfl ?_
    refine pu_g21 hC fg_X11_40 (by decide +kernel : decode cX11_round 30 = .ok (.getfield 40, 3)) hU ho (by decide) rfl rfl ?_
    have q_5 := H.1
    replace H := H.2
    refine pu_g1 hC fg_X11_145 (by decide +kernel : decode cX11_round 33 = .ok (.getfield 145, 3)) hU q_5 (by decide) rfl (by decide) ?_
    refine pr_iload_n hC (by decide +kernel : decode cX11_round 36 = .ok (.iload_n 1, 1)) rfl ?_
    refine pu_iald hC (by decide +kernel : decode cX11_round 37 = .ok (.iaload, 1)) hU q_5 rfl H.1 ?_
    replace H := H.2
    refine pr_iload_n hC (by decide +kernel : decode cX11_round 38 = .ok (.iload_n 2, 1)) rfl ?_
    refine vc_Vi hC hR [.int a1, .int (uA U_2 (uR U_2 o 4) 7 (Int32.toNatClampNeg a1)), .int a2] fv_X11_283 (by decide +kernel : decode cX11_round 39 = .ok (.invokevirtual 283, 3)) hU (t_X6_roundOn q_4 H) q_4 (by decide) rfl rfl rfl (Nat.le_of_ble_eq_true rfl) (Nat.le_of_ble_eq_true rfl) (Nat.le_refl 0) (Nat.le_refl 0) (fun r_7 U_6 h H hU => ?_)
    exact pv_iret hM (by decide +kernel : decode cX11_round 42 = .ok (.ireturn, 1)) hU H
  replace H := H.2 c_19
  refine pr_iconst hC (-1) (by decide +kernel : decode cX11_round 22 = .ok (.iconst (-1), 1)) rfl ?_
  exact pv_iret hM (by decide +kernel : decode cX11_round 23 = .ok (.ireturn, 1)) hU H
def w_X11_trip (o : Nat) (a1 : Int32) (a2 : Int32) (a3 : Int32) (U : Um) (post : Int32 → Um → Prop) : Prop :=
  oc (uR U o 2) = 8 ∧ w_X9_isNamed (uR U o 2) 2 a1 U (fun r_3 U_2 => (r_3 = 0 → post (-10000) U_2) ∧ (¬ r_3 = 0 → (a2 < 0 → post (-10000) U_2) ∧ (¬ a2 < 0 → (a2 < 7 → oc (uR U_2 o 4) = 5 ∧ w_X6_journey (uR U_2 o 4) a1 a2 a3 U_2 (fun r_6 U_5 => post r_6 U_5)) ∧ (¬ a2 < 7 → post (-10000) U_2))))
set_option maxHeartbeats 4000000 in
theorem t_X11_trip {l : Launch} {Y : px_Y} {o : Nat} {a1 : Int32} {a2 : Int32} {a3 : Int32} {U : Um} {post : Int32 → Um → Prop} (ho : oc o = 9) (H : w_X11_trip o a1 a2 a3 U post) : um l Y 3 yX11_trip cX11_trip 4 (some (.int)) [.ref (Y.2.1 o), .int a1, .int a2, .int a3] U (pq_i post) := by
  unfold w_X11_trip at H
  refine um_of (by decide) (Nat.le_of_ble_eq_true rfl) [some (.ref (Y.2.1 o)), some (.int a1), some (.int a2), some (.int a3)] rfl (fun X h0 hh sz hM hU => ?_)
  have hC := hM.1
  have hR := hM.2.2.1
  refine pr_aload_n hC (by decide +kernel : decode cX11_trip 0 = .ok (.aload_n 0, 1)) rfl ?_
  refine pu_g21 hC fg_X11_28 (by decide +kernel : decode cX11_trip 1 = .ok (.getfield 28, 3)) hU ho (by decide) rfl rfl ?_
  have q_1 := H.1
  replace H := H.2
  refine pr_iconst hC (2) (by decide +kernel : decode cX11_trip 4 = .ok (.iconst 2, 1)) rfl ?_
  refine pr_iload_n hC (by decide +kernel : decode cX11_trip 5 = .ok (.iload_n 1, 1)) rfl ?_
  refine vc_Vi hC hR [.int 2, .int a1] fv_X11_114 (by decide +kernel : decode cX11_trip 6 = .ok (.invokevirtual 114, 3)) hU (t_X9_isNamed q_1 H) q_1 (by decide) rfl rfl rfl (Nat.le_of_ble_eq_true rfl) (Nat.le_of_ble_eq_true rfl) (Nat.le_refl 0) (Nat.le_refl 0) (fun r_3 U_2 h H hU => ?_)
  refine pr_if_eq hC 22 (by decide +kernel : decode cX11_trip 9 = .ok (.ifCond .eq 13, 3)) (by decide) (fun c_9 => ?_) (fun c_9 => ?_)
  · replace H := H.1 c_9
    refine pr_sipush hC (-10000) (by decide +kernel : decode cX11_trip 22 = .ok (.sipush (-10000), 3)) rfl ?_
    exact pv_iret hM (by decide +kernel : decode cX11_trip 25 = .ok (.ireturn, 1)) hU H
  replace H := H.2 c_9
  refine pr_iload_n hC (by decide +kernel : decode cX11_trip 12 = .ok (.iload_n 2, 1)) rfl ?_
  refine pr_if_lt hC 22 (by decide +kernel : decode cX11_trip 13 = .ok (.ifCond .lt 9, 3)) (by decide) (fun c_13 => ?_) (fun c_13 => ?_)
  · replace H := H.1 c_13
    refine pr_sipush hC (-10000) (by decide +kernel : decode cX11_trip 22 = .ok (.sipush (-10000), 3)) rfl ?_
    exact pv_iret hM (by decide +kernel : decode cX11_trip 25 = .ok (.ireturn, 1)) hU H
  replace H := H.2 c_13
  refine pr_iload_n hC (by decide +kernel : decode cX11_trip 16 = .ok (.iload_n 2, 1)) rfl ?_
  refine pr_bipush hC (7) (by decide +kernel : decode cX11_trip 17 = .ok (.bipush 7, 2)) rfl ?_
  refine pr_icmp_lt hC 26 (by decide +kernel : decode cX11_trip 19 = .ok (.if_icmp .lt 7, 3)) (by decide) (fun c_19 => ?_) (fun c_19 => ?_)
  · replace H := H.1 c_19
    refine pr_aload_n hC (by decide +kernel : decode cX11_trip 26 = .ok (.aload_n 0, 1)) rfl ?_
    refine pu_g21 hC fg_X11_40 (by decide +kernel : decode cX11_trip 27 = .ok (.getfield 40, 3)) hU ho (by decide) rfl rfl ?_
    have q_4 := H.1
    replace H := H.2
    refine pr_iload_n hC (by decide +kernel : decode cX11_trip 30 = .ok (.iload_n 1, 1)) rfl ?_
    refine pr_iload_n hC (by decide +kernel : decode cX11_trip 31 = .ok (.iload_n 2, 1)) rfl ?_
    refine pr_iload_n hC (by decide +kernel : decode cX11_trip 32 = .ok (.iload_n 3, 1)) rfl ?_
    refine vc_Vi hC hR [.int a1, .int a2, .int a3] fv_X11_286 (by decide +kernel : decode cX11_trip 33 = .ok (.invokevirtual 286, 3)) hU (t_X6_journey q_4 H) q_4 (by decide) rfl rfl rfl (Nat.le_of_ble_eq_true rfl) (Nat.le_of_ble_eq_true rfl) (Nat.le_refl 0) (Nat.le_refl 0) (fun r_6 U_5 h H hU => ?_)
    exact pv_iret hM (by decide +kernel : decode cX11_trip 36 = .ok (.ireturn, 1)) hU H
  replace H := H.2 c_19
  refine pr_sipush hC (-10000) (by decide +kernel : decode cX11_trip 22 = .ok (.sipush (-10000), 3)) rfl ?_
  exact pv_iret hM (by decide +kernel : decode cX11_trip 25 = .ok (.ireturn, 1)) hU H
def w_X11_spread (o : Nat) (a1 : Int32) (U : Um) (post : Int32 → Um → Prop) : Prop :=
  oc (uR U o 4) = 5 ∧ w_X6_spreadOfSeats (uR U o 4) a1 U (fun r_3 U_2 => post r_3 U_2)
set_option maxHeartbeats 4000000 in
theorem t_X11_spread {l : Launch} {Y : px_Y} {o : Nat} {a1 : Int32} {U : Um} {post : Int32 → Um → Prop} (ho : oc o = 9) (H : w_X11_spread o a1 U post) : um l Y 2 yX11_spread cX11_spread 2 (some (.int)) [.ref (Y.2.1 o), .int a1] U (pq_i post) := by
  unfold w_X11_spread at H
  refine um_of (by decide) (Nat.le_of_ble_eq_true rfl) [some (.ref (Y.2.1 o)), some (.int a1)] rfl (fun X h0 hh sz hM hU => ?_)
  have hC := hM.1
  have hR := hM.2.2.1
  refine pr_aload_n hC (by decide +kernel : decode cX11_spread 0 = .ok (.aload_n 0, 1)) rfl ?_
  refine pu_g21 hC fg_X11_40 (by decide +kernel : decode cX11_spread 1 = .ok (.getfield 40, 3)) hU ho (by decide) rfl rfl ?_
  have q_1 := H.1
  replace H := H.2
  refine pr_iload_n hC (by decide +kernel : decode cX11_spread 4 = .ok (.iload_n 1, 1)) rfl ?_
  refine vc_Vi hC hR [.int a1] fv_X11_289 (by decide +kernel : decode cX11_spread 5 = .ok (.invokevirtual 289, 3)) hU (t_X6_spreadOfSeats q_1 H) q_1 (by decide) rfl rfl rfl (Nat.le_of_ble_eq_true rfl) (Nat.le_of_ble_eq_true rfl) (Nat.le_refl 0) (Nat.le_refl 0) (fun r_3 U_2 h H hU => ?_)
  exact pv_iret hM (by decide +kernel : decode cX11_spread 8 = .ok (.ireturn, 1)) hU H
def w_X11_rank (o : Nat) (a1 : Int32) (U : Um) (post : Int32 → Um → Prop) : Prop :=
  oc (uR U o 2) = 8 ∧ w_X9_isNamed (uR U o 2) 2 a1 U (fun r_3 U_2 => (r_3 = 0 → post (-1) U_2) ∧ (¬ r_3 = 0 → oc (uR U_2 o 4) = 5 ∧ w_X6_sortByForm (uR U_2 o 4) U_2 (fun U_5 => oc (uR U_5 o 4) = 5 ∧ vp_in a1 10 ∧ post (uA U_5 (uR U_5 o 4) 8 (Int32.toNatClampNeg a1)) U_5)))
set_option maxHeartbeats 4000000 in
theorem t_X11_rank {l : Launch} {Y : px_Y} {o : Nat} {a1 : Int32} {U : Um} {post : Int32 → Um → Prop} (ho : oc o = 9) (H : w_X11_rank o a1 U post) : um l Y 2 yX11_rank cX11_rank 2 (some (.int)) [.ref (Y.2.1 o), .int a1] U (pq_i post) := by
  unfold w_X11_rank at H
  refine um_of (by decide) (Nat.le_of_ble_eq_true rfl) [some (.ref (Y.2.1 o)), some (.int a1)] rfl (fun X h0 hh sz hM hU => ?_)
  have hC := hM.1
  have hR := hM.2.2.1
  refine pr_aload_n hC (by decide +kernel : decode cX11_rank 0 = .ok (.aload_n 0, 1)) rfl ?_
  refine pu_g21 hC fg_X11_28 (by decide +kernel : decode cX11_rank 1 = .ok (.getfield 28, 3)) hU ho (by decide) rfl rfl ?_
  have q_1 := H.1
  replace H := H.2
  refine pr_iconst hC (2) (by decide +kernel : decode cX11_rank 4 = .ok (.iconst 2, 1)) rfl ?_
  refine pr_iload_n hC (by decide +kernel : decode cX11_rank 5 = .ok (.iload_n 1, 1)) rfl ?_
  refine vc_Vi hC hR [.int 2, .int a1] fv_X11_114 (by decide +kernel : decode cX11_rank 6 = .ok (.invokevirtual 114, 3)) hU (t_X9_isNamed q_1 H) q_1 (by decide) rfl rfl rfl (Nat.le_of_ble_eq_true rfl) (Nat.le_of_ble_eq_true rfl) (Nat.le_refl 0) (Nat.le_refl 0) (fun r_3 U_2 h H hU => ?_)
  refine pr_if_ne hC 14 (by decide +kernel : decode cX11_rank 9 = .ok (.ifCond .ne 5, 3)) (by decide) (fun c_9 => ?_) (fun c_9 => ?_)
  · replace H := H.2 c_9
    refine pr_aload_n hC (by decide +kernel : decode cX11_rank 14 = .ok (.aload_n 0, 1)) rfl ?_
    refine pu_g21 hC fg_X11_40 (by decide +kernel : decode cX11_rank 15 = .ok (.getfield 40, 3)) hU ho (by decide) rfl rfl ?_
    have q_4 := H.1
    replace H := H.2
    refine vc_Vv hC hR [] fv_X11_304 (by decide +kernel : decode cX11_rank 18 = .ok (.invokevirtual 304, 3)) hU (t_X6_sortByForm q_4 H) q_4 (by decide) rfl rfl rfl (Nat.le_of_ble_eq_true rfl) (Nat.le_of_ble_eq_true rfl) (Nat.le_refl 0) (Nat.le_refl 0) (fun U_5 h H hU => ?_)
    refine pr_aload_n hC (by decide +kernel : decode cX11_rank 21 = .ok (.aload_n 0, 1)) rfl ?_
    refine pu_g21 hC fg_X11_40 (by decide +kernel : decode cX11_rank 22 = .ok (.getfield 40, 3)) hU ho (by decide) rfl rfl ?_
    have q_7 := H.1
    replace H := H.2
    refine pu_g1 hC fg_X11_307 (by decide +kernel : decode cX11_rank 25 = .ok (.getfield 307, 3)) hU q_7 (by decide) rfl (by decide) ?_
    refine pr_iload_n hC (by decide +kernel : decode cX11_rank 28 = .ok (.iload_n 1, 1)) rfl ?_
    refine pu_iald hC (by decide +kernel : decode cX11_rank 29 = .ok (.iaload, 1)) hU q_7 rfl H.1 ?_
    replace H := H.2
    exact pv_iret hM (by decide +kernel : decode cX11_rank 30 = .ok (.ireturn, 1)) hU H
  replace H := H.1 c_9
  refine pr_iconst hC (-1) (by decide +kernel : decode cX11_rank 12 = .ok (.iconst (-1), 1)) rfl ?_
  exact pv_iret hM (by decide +kernel : decode cX11_rank 13 = .ok (.ireturn, 1)) hU H
def w_X11_isShelf (o : Nat) (a1 : Int32) (U : Um) (post : Int32 → Um → Prop) : Prop :=
  (a1 < 0 → post 0 U) ∧ (¬ a1 < 0 → ((3 : Int32) ≤ a1 → post 0 U) ∧ (¬ (3 : Int32) ≤ a1 → post 1 U))
set_option maxHeartbeats 4000000 in
theorem t_X11_isShelf {l : Launch} {Y : px_Y} {o : Nat} {a1 : Int32} {U : Um} {post : Int32 → Um → Prop} (ho : oc o = 9) (H : w_X11_isShelf o a1 U post) : um l Y 0 yX11_isShelf cX11_isShelf 2 (some (.boolean)) [.ref (Y.2.1 o), .int a1] U (pq_i post) := by
  unfold w_X11_isShelf at H
  refine um_of (by decide) (Nat.le_of_ble_eq_true rfl) [some (.ref (Y.2.1 o)), some (.int a1)] rfl (fun X h0 hh sz hM hU => ?_)
  have hC := hM.1
  have hR := hM.2.2.1
  refine pr_iload_n hC (by decide +kernel : decode cX11_isShelf 0 = .ok (.iload_n 1, 1)) rfl ?_
  refine pr_if_lt hC 17 (by decide +kernel : decode cX11_isShelf 1 = .ok (.ifCond .lt 16, 3)) (by decide) (fun c_1 => ?_) (fun c_1 => ?_)
  · replace H := H.1 c_1
    refine pr_iconst hC (0) (by decide +kernel : decode cX11_isShelf 17 = .ok (.iconst 0, 1)) rfl ?_
    exact pv_zret hM (by decide +kernel : decode cX11_isShelf 18 = .ok (.ireturn, 1)) (Or.inl rfl) hU H
  replace H := H.2 c_1
  refine pr_iload_n hC (by decide +kernel : decode cX11_isShelf 4 = .ok (.iload_n 1, 1)) rfl ?_
  refine pr_aload_n hC (by decide +kernel : decode cX11_isShelf 5 = .ok (.aload_n 0, 1)) rfl ?_
  refine pu_g1 hC fg_X11_63 (by decide +kernel : decode cX11_isShelf 6 = .ok (.getfield 63, 3)) hU ho (by decide) rfl (by decide) ?_
  refine pu_len8 hC (by decide +kernel : decode cX11_isShelf 9 = .ok (.arraylength, 1)) hU ho rfl (v := 3) rfl ?_
  refine pr_icmp_ge hC 17 (by decide +kernel : decode cX11_isShelf 10 = .ok (.if_icmp .ge 7, 3)) (by decide) (fun c_10 => ?_) (fun c_10 => ?_)
  · replace H := H.1 c_10
    refine pr_iconst hC (0) (by decide +kernel : decode cX11_isShelf 17 = .ok (.iconst 0, 1)) rfl ?_
    exact pv_zret hM (by decide +kernel : decode cX11_isShelf 18 = .ok (.ireturn, 1)) (Or.inl rfl) hU H
  replace H := H.2 c_10
  refine pr_iconst hC (1) (by decide +kernel : decode cX11_isShelf 13 = .ok (.iconst 1, 1)) rfl ?_
  refine pr_goto hC 18 (by decide +kernel : decode cX11_isShelf 14 = .ok (.goto 4, 3)) (by decide) ?_
  exact pv_zret hM (by decide +kernel : decode cX11_isShelf 18 = .ok (.ireturn, 1)) (Or.inr rfl) hU H
def w_X12_thrown (o : Nat) (U : Um) (post : Int32 → Um → Prop) : Prop :=
  post (uI U o 0) U
set_option maxHeartbeats 4000000 in
theorem t_X12_thrown {l : Launch} {Y : px_Y} {o : Nat} {U : Um} {post : Int32 → Um → Prop} (ho : oc o = 10) (H : w_X12_thrown o U post) : um l Y 0 yX12_thrown cX12_thrown 1 (some (.int)) [.ref (Y.2.1 o)] U (pq_i post) := by
  unfold w_X12_thrown at H
  refine um_of (by decide) (Nat.le_of_ble_eq_true rfl) [some (.ref (Y.2.1 o))] rfl (fun X h0 hh sz hM hU => ?_)
  have hC := hM.1
  have hR := hM.2.2.1
  refine pr_aload_n hC (by decide +kernel : decode cX12_thrown 0 = .ok (.aload_n 0, 1)) rfl ?_
  refine pu_g0 hC fg_X12_121 (by decide +kernel : decode cX12_thrown 1 = .ok (.getfield 121, 3)) hU ho (by decide) rfl rfl ?_
  exact pv_iret hM (by decide +kernel : decode cX12_thrown 4 = .ok (.ireturn, 1)) hU H
def w_X12_isIn (a1 : Int64) (a2 : Int64) (a3 : Int64) (U : Um) (post : Int32 → Um → Prop) : Prop :=
  ((lg_cmp a1 a2) < 0 → post 0 U) ∧ (¬ (lg_cmp a1 a2) < 0 → ((0 : Int32) < (lg_cmp a1 a3) → post 0 U) ∧ (¬ (0 : Int32) < (lg_cmp a1 a3) → post 1 U))
set_option maxHeartbeats 4000000 in
theorem t_X12_isIn {l : Launch} {Y : px_Y} {a1 : Int64} {a2 : Int64} {a3 : Int64} {U : Um} {post : Int32 → Um → Prop}  (H : w_X12_isIn a1 a2 a3 U post) : um l Y 0 yX12_isIn cX12_isIn 6 (some (.boolean)) [.long a1, .long a2, .long a3] U (pq_i post) := by
  unfold w_X12_isIn at H
  refine um_of (by decide) (Nat.le_of_ble_eq_true rfl) [some (.long a1), none, some (.long a2), none, some (.long a3), none] rfl (fun X h0 hh sz hM hU => ?_)
  have hC := hM.1
  have hR := hM.2.2.1
  refine pr_lload_n hC (by decide +kernel : decode cX12_isIn 0 = .ok (.lload_n 0, 1)) rfl ?_
  refine pr_lload_n hC (by decide +kernel : decode cX12_isIn 1 = .ok (.lload_n 2, 1)) rfl ?_
  refine pr_lcmp hC (by decide +kernel : decode cX12_isIn 2 = .ok (.lcmp, 1)) ?_
  refine pr_if_lt hC 17 (by decide +kernel : decode cX12_isIn 3 = .ok (.ifCond .lt 14, 3)) (by decide) (fun c_3 => ?_) (fun c_3 => ?_)
  · replace H := H.1 c_3
    refine pr_iconst hC (0) (by decide +kernel : decode cX12_isIn 17 = .ok (.iconst 0, 1)) rfl ?_
    exact pv_zret hM (by decide +kernel : decode cX12_isIn 18 = .ok (.ireturn, 1)) (Or.inl rfl) hU H
  replace H := H.2 c_3
  refine pr_lload_n hC (by decide +kernel : decode cX12_isIn 6 = .ok (.lload_n 0, 1)) rfl ?_
  refine pr_lload hC (by decide +kernel : decode cX12_isIn 7 = .ok (.lload 4, 2)) rfl ?_
  refine pr_lcmp hC (by decide +kernel : decode cX12_isIn 9 = .ok (.lcmp, 1)) ?_
  refine pr_if_gt hC 17 (by decide +kernel : decode cX12_isIn 10 = .ok (.ifCond .gt 7, 3)) (by decide) (fun c_10 => ?_) (fun c_10 => ?_)
  · replace H := H.1 c_10
    refine pr_iconst hC (0) (by decide +kernel : decode cX12_isIn 17 = .ok (.iconst 0, 1)) rfl ?_
    exact pv_zret hM (by decide +kernel : decode cX12_isIn 18 = .ok (.ireturn, 1)) (Or.inl rfl) hU H
  replace H := H.2 c_10
  refine pr_iconst hC (1) (by decide +kernel : decode cX12_isIn 13 = .ok (.iconst 1, 1)) rfl ?_
  refine pr_goto hC 18 (by decide +kernel : decode cX12_isIn 14 = .ok (.goto 4, 3)) (by decide) ?_
  exact pv_zret hM (by decide +kernel : decode cX12_isIn 18 = .ok (.ireturn, 1)) (Or.inr rfl) hU H
def w_X12_one (a1 : Int32) (U : Um) (post : Int32 → Um → Prop) : Prop :=
  (a1 = 0 → post 0 U) ∧ (¬ a1 = 0 → post 1 U)
set_option maxHeartbeats 4000000 in
theorem t_X12_one {l : Launch} {Y : px_Y} {a1 : Int32} {U : Um} {post : Int32 → Um → Prop}  (H : w_X12_one a1 U post) : um l Y 0 yX12_one cX12_one 1 (some (.int)) [.int a1] U (pq_i post) := by
  unfold w_X12_one at H
  refine um_of (by decide) (Nat.le_of_ble_eq_true rfl) [some (.int a1)] rfl (fun X h0 hh sz hM hU => ?_)
  have hC := hM.1
  have hR := hM.2.2.1
  refine pr_iload_n hC (by decide +kernel : decode cX12_one 0 = .ok (.iload_n 0, 1)) rfl ?_
  refine pr_if_eq hC 8 (by decide +kernel : decode cX12_one 1 = .ok (.ifCond .eq 7, 3)) (by decide) (fun c_1 => ?_) (fun c_1 => ?_)
  · replace H := H.1 c_1
    refine pr_iconst hC (0) (by decide +kernel : decode cX12_one 8 = .ok (.iconst 0, 1)) rfl ?_
    exact pv_iret hM (by decide +kernel : decode cX12_one 9 = .ok (.ireturn, 1)) hU H
  replace H := H.2 c_1
  refine pr_iconst hC (1) (by decide +kernel : decode cX12_one 4 = .ok (.iconst 1, 1)) rfl ?_
  refine pr_goto hC 9 (by decide +kernel : decode cX12_one 5 = .ok (.goto 4, 3)) (by decide) ?_
  exact pv_iret hM (by decide +kernel : decode cX12_one 9 = .ok (.ireturn, 1)) hU H
def b_X12_four_L3 (o0 : Nat) (x1 : Int32) (post : Um → Prop) (k_39 : Um → Prop) (rec_ : Int32 → Um → Prop) (x2 : Int32) (U : Um) : Prop :=
  (x2 < 0 → k_39 U) ∧ (¬ x2 < 0 → vp_in (uI U o0 17) 1200 ∧ ∀ (U_1 : Um), U_1 = sA U o0 16 (va_up (uA U o0 16) (Int32.toNatClampNeg (uI U o0 17)) ((x1 >>> (x2 &&& 31)) &&& 255)) → ∀ (U_2 : Um), U_2 = sI U_1 o0 17 ((uI U_1 o0 17) + 1) → ∀ (x2_3 : Int32), x2_3 = x2 + (-8) → rec_ x2_3 U_2)
def w_X12_four_L3 (o0 : Nat) (x1 : Int32) (post : Um → Prop) (k_39 : Um → Prop) (n_ : Nat) : Int32 → Um → Prop := Nat.rec (motive := fun _ => Int32 → Um → Prop) (fun _ _ => False) (fun _ ih => b_X12_four_L3 o0 x1 post k_39 ih) n_
def w_X12_four (o : Nat) (a1 : Int32) (U : Um) (post : Um → Prop) : Prop :=
  (∃ n_5, w_X12_four_L3 o a1 post (fun U_4 => post U_4) n_5 24 U)
set_option maxHeartbeats 4000000 in
theorem tl_X12_four_L3 {l : Launch} {Y : px_Y} {X : px_X} {h0 hh : pe_H} {sz : Nat} (o0 : Nat) (x1 : Int32) (post : Um → Prop) (k_39 : Um → Prop) (ho0 : oc o0 = 10)  (hC : px_C X Y.1 (pm_A hh sz) cX12_four RX12 3) (hM : px_M l X Y.1 hh sz yX12_four cX12_four 3 none 0 0 0) (hR : X.2.2.2.1 = pm_rm 0 0 0) (hk_39 : ∀ (U : Um) (h : pe_H), k_39 U → rF Y h0 U h → pw X Y.1 (pm_A hh sz) (pm_E X Y.1 hh sz 0 0 (pm_P Y h0 sz (pq_v post))) 39 [none, none, none] [] h sz 0 0) : ∀ (n_ : Nat) (x2 : Int32) (U : Um) (h : pe_H), rF Y h0 U h → w_X12_four_L3 o0 x1 post k_39 n_ x2 U → pw X Y.1 (pm_A hh sz) (pm_E X Y.1 hh sz 0 0 (pm_P Y h0 sz (pq_v post))) 3 [some (.ref (Y.2.1 o0)), some (.int x1), some (.int x2)] [] h sz 0 0 := by
  intro n_
  induction n_ with
  | zero => intro x2 U h hU H; exact False.elim H
  | succ n_ ih =>
    intro x2 U h hU H
    replace H : b_X12_four_L3 o0 x1 post k_39 (w_X12_four_L3 o0 x1 post k_39 n_) x2 U := H
    unfold b_X12_four_L3 at H
    refine pr_iload_n hC (by decide +kernel : decode cX12_four 3 = .ok (.iload_n 2, 1)) rfl ?_
    refine pr_if_lt hC 39 (by decide +kernel : decode cX12_four 4 = .ok (.ifCond .lt 35, 3)) (by decide) (fun c_4 => ?_) (fun c_4 => ?_)
    · replace H := H.1 c_4
      exact pv_sub [none, none, none] (trivial) (hk_39 U h H hU)
    replace H := H.2 c_4
    refine pr_aload_n hC (by decide +kernel : decode cX12_four 7 = .ok (.aload_n 0, 1)) rfl ?_
    refine pu_g1 hC fg_X12_52 (by decide +kernel : decode cX12_four 8 = .ok (.getfield 52, 3)) hU ho0 (by decide) rfl (by decide) ?_
    refine pr_aload_n hC (by decide +kernel : decode cX12_four 11 = .ok (.aload_n 0, 1)) rfl ?_
    refine pu_g0 hC fg_X12_124 (by decide +kernel : decode cX12_four 12 = .ok (.getfield 124, 3)) hU ho0 (by decide) rfl rfl ?_
    refine pr_iload_n hC (by decide +kernel : decode cX12_four 15 = .ok (.iload_n 1, 1)) rfl ?_
    refine pr_iload_n hC (by decide +kernel : decode cX12_four 16 = .ok (.iload_n 2, 1)) rfl ?_
    refine pr_ishr hC (by decide +kernel : decode cX12_four 17 = .ok (.ishr, 1)) ?_
    refine pr_sipush hC (255) (by decide +kernel : decode cX12_four 18 = .ok (.sipush 255, 3)) rfl ?_
    refine pr_iand hC (by decide +kernel : decode cX12_four 21 = .ok (.iand, 1)) ?_
    refine pv_iast hC (by decide +kernel : decode cX12_four 22 = .ok (.iastore, 1)) hU ho0 rfl H.1 (fun U_1 h e_U_1 hU => ?_)
    replace H := H.2 U_1 e_U_1
    refine pr_aload_n hC (by decide +kernel : decode cX12_four 23 = .ok (.aload_n 0, 1)) rfl ?_
    refine pr_dup hC (by decide +kernel : decode cX12_four 24 = .ok (.dup, 1)) rfl ?_
    refine pu_g0 hC fg_X12_124 (by decide +kernel : decode cX12_four 25 = .ok (.getfield 124, 3)) hU ho0 (by decide) rfl rfl ?_
    refine pr_iconst hC (1) (by decide +kernel : decode cX12_four 28 = .ok (.iconst 1, 1)) rfl ?_
    refine pr_iadd hC (by decide +kernel : decode cX12_four 29 = .ok (.iadd, 1)) ?_
    refine pv_p0 hC fp_X12_124 (by decide +kernel : decode cX12_four 30 = .ok (.putfield 124, 3)) hU ho0 (by decide) rfl rfl rfl rfl (fun U_2 h e_U_2 hU => ?_)
    replace H := H U_2 e_U_2
    refine pv_iinc hC (v := x2 + (-8)) (by decide +kernel : decode cX12_four 33 = .ok (.iinc 2 (-8), 3)) rfl (by decide) rfl rfl (fun x2_3 e_x2_3 => ?_)
    replace H := H x2_3 e_x2_3
    refine pr_goto hC 3 (by decide +kernel : decode cX12_four 36 = .ok (.goto (-33), 3)) (by decide) ?_
    exact pv_sub [some (.ref (Y.2.1 o0)), some (.int x1), some (.int x2_3)] (And.intro rfl (And.intro rfl (And.intro rfl trivial))) (ih _ U_2 h hU H)
set_option maxHeartbeats 4000000 in
theorem t_X12_four {l : Launch} {Y : px_Y} {o : Nat} {a1 : Int32} {U : Um} {post : Um → Prop} (ho : oc o = 10) (H : w_X12_four o a1 U post) : um l Y 0 yX12_four cX12_four 3 none [.ref (Y.2.1 o), .int a1] U (pq_v post) := by
  unfold w_X12_four at H
  refine um_of (by decide) (Nat.le_of_ble_eq_true rfl) [some (.ref (Y.2.1 o)), some (.int a1), none] rfl (fun X h0 hh sz hM hU => ?_)
  have hC := hM.1
  have hR := hM.2.2.1
  refine pr_bipush hC (24) (by decide +kernel : decode cX12_four 0 = .ok (.bipush 24, 2)) rfl ?_
  refine pr_istore_n hC (by decide +kernel : decode cX12_four 2 = .ok (.istore_n 2, 1)) (by decide) rfl ?_
  obtain ⟨n_5, H⟩ := H
  refine pv_sub [some (.ref (Y.2.1 o)), some (.int a1), some (.int 24)] (And.intro rfl (And.intro rfl (And.intro rfl trivial))) ?_
  refine tl_X12_four_L3 _ _ _ _ ho hC hM hR (fun U_4 h H hU => ?_) n_5 _ U hh hU H
  exact pv_vret hM (by decide +kernel : decode cX12_four 39 = .ok (.return_, 1)) hU H
def w_X12_feed (o : Nat) (a1 : Int32) (a2 : Int32) (a3 : Int32) (a4 : Int32) (a5 : Int32) (U : Um) (post : Int32 → Um → Prop) : Prop :=
  ∀ (U_1 : Um), U_1 = sI U o 0 0 → (((uI U_1 o 17) + 20) ≤ 1200 → w_X12_four o a1 U_1 (fun U_2 => w_X12_four o a2 U_2 (fun U_4 => w_X12_four o a3 U_4 (fun U_6 => w_X12_four o a4 U_6 (fun U_8 => w_X12_four o a5 U_8 (fun U_10 => post (uI U_10 o 17) U_10)))))) ∧ (¬ ((uI U_1 o 17) + 20) ≤ 1200 → post (-1) U_1)
set_option maxHeartbeats 4000000 in
theorem t_X12_feed {l : Launch} {Y : px_Y} {o : Nat} {a1 : Int32} {a2 : Int32} {a3 : Int32} {a4 : Int32} {a5 : Int32} {U : Um} {post : Int32 → Um → Prop} (ho : oc o = 10) (H : w_X12_feed o a1 a2 a3 a4 a5 U post) : um l Y 1 yX12_feed cX12_feed 6 (some (.int)) [.ref (Y.2.1 o), .int a1, .int a2, .int a3, .int a4, .int a5] U (pq_i post) := by
  unfold w_X12_feed at H
  refine um_of (by decide) (Nat.le_of_ble_eq_true rfl) [some (.ref (Y.2.1 o)), some (.int a1), some (.int a2), some (.int a3), some (.int a4), some (.int a5)] rfl (fun X h0 hh sz hM hU => ?_)
  have hC := hM.1
  have hR := hM.2.2.1
  refine pr_aload_n hC (by decide +kernel : decode cX12_feed 0 = .ok (.aload_n 0, 1)) rfl ?_
  refine pr_iconst hC (0) (by decide +kernel : decode cX12_feed 1 = .ok (.iconst 0, 1)) rfl ?_
  refine pv_p0 hC fp_X12_121 (by decide +kernel : decode cX12_feed 2 = .ok (.putfield 121, 3)) hU ho (by decide) rfl rfl rfl rfl (fun U_1 h e_U_1 hU => ?_)
  replace H := H U_1 e_U_1
  refine pr_aload_n hC (by decide +kernel : decode cX12_feed 5 = .ok (.aload_n 0, 1)) rfl ?_
  refine pu_g0 hC fg_X12_124 (by decide +kernel : decode cX12_feed 6 = .ok (.getfield 124, 3)) hU ho (by decide) rfl rfl ?_
  refine pr_bipush hC (20) (by decide +kernel : decode cX12_feed 9 = .ok (.bipush 20, 2)) rfl ?_
  refine pr_iadd hC (by decide +kernel : decode cX12_feed 11 = .ok (.iadd, 1)) ?_
  refine pr_sipush hC (1200) (by decide +kernel : decode cX12_feed 12 = .ok (.sipush 1200, 3)) rfl ?_
  refine pr_icmp_le hC 20 (by decide +kernel : decode cX12_feed 15 = .ok (.if_icmp .le 5, 3)) (by decide) (fun c_15 => ?_) (fun c_15 => ?_)
  · replace H := H.1 c_15
    refine pr_aload_n hC (by decide +kernel : decode cX12_feed 20 = .ok (.aload_n 0, 1)) rfl ?_
    refine pr_iload_n hC (by decide +kernel : decode cX12_feed 21 = .ok (.iload_n 1, 1)) rfl ?_
    refine vc_Vv hC hR [.int a1] fv_X12_127 (by decide +kernel : decode cX12_feed 22 = .ok (.invokevirtual 127, 3)) hU (t_X12_four ho H) ho (by decide) rfl rfl rfl (Nat.le_of_ble_eq_true rfl) (Nat.le_of_ble_eq_true rfl) (Nat.le_refl 0) (Nat.le_refl 0) (fun U_2 h H hU => ?_)
    refine pr_aload_n hC (by decide +kernel : decode cX12_feed 25 = .ok (.aload_n 0, 1)) rfl ?_
    refine pr_iload_n hC (by decide +kernel : decode cX12_feed 26 = .ok (.iload_n 2, 1)) rfl ?_
    refine vc_Vv hC hR [.int a2] fv_X12_127 (by decide +kernel : decode cX12_feed 27 = .ok (.invokevirtual 127, 3)) hU (t_X12_four ho H) ho (by decide) rfl rfl rfl (Nat.le_of_ble_eq_true rfl) (Nat.le_of_ble_eq_true rfl) (Nat.le_refl 0) (Nat.le_refl 0) (fun U_4 h H hU => ?_)
    refine pr_aload_n hC (by decide +kernel : decode cX12_feed 30 = .ok (.aload_n 0, 1)) rfl ?_
    refine pr_iload_n hC (by decide +kernel : decode cX12_feed 31 = .ok (.iload_n 3, 1)) rfl ?_
    refine vc_Vv hC hR [.int a3] fv_X12_127 (by decide +kernel : decode cX12_feed 32 = .ok (.invokevirtual 127, 3)) hU (t_X12_four ho H) ho (by decide) rfl rfl rfl (Nat.le_of_ble_eq_true rfl) (Nat.le_of_ble_eq_true rfl) (Nat.le_refl 0) (Nat.le_refl 0) (fun U_6 h H hU => ?_)
    refine pr_aload_n hC (by decide +kernel : decode cX12_feed 35 = .ok (.aload_n 0, 1)) rfl ?_
    refine pr_iload hC (by decide +kernel : decode cX12_feed 36 = .ok (.iload 4, 2)) rfl ?_
    refine vc_Vv hC hR [.int a4] fv_X12_127 (by decide +kernel : decode cX12_feed 38 = .ok (.invokevirtual 127, 3)) hU (t_X12_four ho H) ho (by decide) rfl rfl rfl (Nat.le_of_ble_eq_true rfl) (Nat.le_of_ble_eq_true rfl) (Nat.le_refl 0) (Nat.le_refl 0) (fun U_8 h H hU => ?_)
    refine pr_aload_n hC (by decide +kernel : decode cX12_feed 41 = .ok (.aload_n 0, 1)) rfl ?_
    refine pr_iload hC (by decide +kernel : decode cX12_feed 42 = .ok (.iload 5, 2)) rfl ?_
    refine vc_Vv hC hR [.int a5] fv_X12_127 (by decide +kernel : decode cX12_feed 44 = .ok (.invokevirtual 127, 3)) hU (t_X12_four ho H) ho (by decide) rfl rfl rfl (Nat.le_of_ble_eq_true rfl) (Nat.le_of_ble_eq_true rfl) (Nat.le_refl 0) (Nat.le_refl 0) (fun U_10 h H hU => ?_)
    refine pr_aload_n hC (by decide +kernel : decode cX12_feed 47 = .ok (.aload_n 0, 1)) rfl ?_
    refine pu_g0 hC fg_X12_124 (by decide +kernel : decode cX12_feed 48 = .ok (.getfield 124, 3)) hU ho (by decide) rfl rfl ?_
    exact pv_iret hM (by decide +kernel : decode cX12_feed 51 = .ok (.ireturn, 1)) hU H
  replace H := H.2 c_15
  refine pr_iconst hC (-1) (by decide +kernel : decode cX12_feed 18 = .ok (.iconst (-1), 1)) rfl ?_
  exact pv_iret hM (by decide +kernel : decode cX12_feed 19 = .ok (.ireturn, 1)) hU H
def w_X12_end (o : Nat) (a1 : Int32) (U : Um) (post : Int32 → Um → Prop) : Prop :=
  ∀ (U_1 : Um), U_1 = sI U o 0 0 → w_X12_isIn (Int32.toInt64 a1) 0 (Int32.toInt64 (uI U_1 o 17)) U_1 (fun r_3 U_2 => (r_3 = 0 → post 0 U_2) ∧ (¬ r_3 = 0 → ∀ (U_4 : Um), U_4 = sI U_2 o 17 a1 → post 1 U_4))
set_option maxHeartbeats 4000000 in
theorem t_X12_end {l : Launch} {Y : px_Y} {o : Nat} {a1 : Int32} {U : Um} {post : Int32 → Um → Prop} (ho : oc o = 10) (H : w_X12_end o a1 U post) : um l Y 1 yX12_end cX12_end 2 (some (.boolean)) [.ref (Y.2.1 o), .int a1] U (pq_i post) := by
  unfold w_X12_end at H
  refine um_of (by decide) (Nat.le_of_ble_eq_true rfl) [some (.ref (Y.2.1 o)), some (.int a1)] rfl (fun X h0 hh sz hM hU => ?_)
  have hC := hM.1
  have hR := hM.2.2.1
  refine pr_aload_n hC (by decide +kernel : decode cX12_end 0 = .ok (.aload_n 0, 1)) rfl ?_
  refine pr_iconst hC (0) (by decide +kernel : decode cX12_end 1 = .ok (.iconst 0, 1)) rfl ?_
  refine pv_p0 hC fp_X12_121 (by decide +kernel : decode cX12_end 2 = .ok (.putfield 121, 3)) hU ho (by decide) rfl rfl rfl rfl (fun U_1 h e_U_1 hU => ?_)
  replace H := H U_1 e_U_1
  refine pr_iload_n hC (by decide +kernel : decode cX12_end 5 = .ok (.iload_n 1, 1)) rfl ?_
  refine pr_i2l hC (by decide +kernel : decode cX12_end 6 = .ok (.i2l, 1)) ?_
  refine pr_lconst hC (0) (by decide +kernel : decode cX12_end 7 = .ok (.lconst 0, 1)) rfl ?_
  refine pr_aload_n hC (by decide +kernel : decode cX12_end 8 = .ok (.aload_n 0, 1)) rfl ?_
  refine pu_g0 hC fg_X12_124 (by decide +kernel : decode cX12_end 9 = .ok (.getfield 124, 3)) hU ho (by decide) rfl rfl ?_
  refine pr_i2l hC (by decide +kernel : decode cX12_end 12 = .ok (.i2l, 1)) ?_
  refine vc_Si hC hR [.long (Int32.toInt64 a1), .long 0, .long (Int32.toInt64 (uI U_1 o 17))] fv_X12_131 (by decide +kernel : decode cX12_end 13 = .ok (.invokestatic 131, 3)) hU (t_X12_isIn  H) rfl rfl (Nat.le_of_ble_eq_true rfl) (Nat.le_of_ble_eq_true rfl) (Nat.le_refl 0) (Nat.le_refl 0) (fun r_3 U_2 h H hU => ?_)
  refine pr_if_ne hC 21 (by decide +kernel : decode cX12_end 16 = .ok (.ifCond .ne 5, 3)) (by decide) (fun c_16 => ?_) (fun c_16 => ?_)
  · replace H := H.2 c_16
    refine pr_aload_n hC (by decide +kernel : decode cX12_end 21 = .ok (.aload_n 0, 1)) rfl ?_
    refine pr_iload_n hC (by decide +kernel : decode cX12_end 22 = .ok (.iload_n 1, 1)) rfl ?_
    refine pv_p0 hC fp_X12_124 (by decide +kernel : decode cX12_end 23 = .ok (.putfield 124, 3)) hU ho (by decide) rfl rfl rfl rfl (fun U_4 h e_U_4 hU => ?_)
    replace H := H U_4 e_U_4
    refine pr_iconst hC (1) (by decide +kernel : decode cX12_end 26 = .ok (.iconst 1, 1)) rfl ?_
    exact pv_zret hM (by decide +kernel : decode cX12_end 27 = .ok (.ireturn, 1)) (Or.inr rfl) hU H
  replace H := H.1 c_16
  refine pr_iconst hC (0) (by decide +kernel : decode cX12_end 19 = .ok (.iconst 0, 1)) rfl ?_
  exact pv_zret hM (by decide +kernel : decode cX12_end 20 = .ok (.ireturn, 1)) (Or.inl rfl) hU H
def w_X12_see (o : Nat) (a1 : Int32) (U : Um) (post : Int32 → Um → Prop) : Prop :=
  ((uI U o 17) ≤ a1 → post (-1) U) ∧ (¬ (uI U o 17) ≤ a1 → vp_in a1 1200 ∧ post (uA U o 16 (Int32.toNatClampNeg a1)) U)
set_option maxHeartbeats 4000000 in
theorem t_X12_see {l : Launch} {Y : px_Y} {o : Nat} {a1 : Int32} {U : Um} {post : Int32 → Um → Prop} (ho : oc o = 10) (H : w_X12_see o a1 U post) : um l Y 0 yX12_see cX12_see 2 (some (.int)) [.ref (Y.2.1 o), .int a1] U (pq_i post) := by
  unfold w_X12_see at H
  refine um_of (by decide) (Nat.le_of_ble_eq_true rfl) [some (.ref (Y.2.1 o)), some (.int a1)] rfl (fun X h0 hh sz hM hU => ?_)
  have hC := hM.1
  have hR := hM.2.2.1
  refine pr_iload_n hC (by decide +kernel : decode cX12_see 0 = .ok (.iload_n 1, 1)) rfl ?_
  refine pr_aload_n hC (by decide +kernel : decode cX12_see 1 = .ok (.aload_n 0, 1)) rfl ?_
  refine pu_g0 hC fg_X12_124 (by decide +kernel : decode cX12_see 2 = .ok (.getfield 124, 3)) hU ho (by decide) rfl rfl ?_
  refine pr_icmp_ge hC 17 (by decide +kernel : decode cX12_see 5 = .ok (.if_icmp .ge 12, 3)) (by decide) (fun c_5 => ?_) (fun c_5 => ?_)
  · replace H := H.1 c_5
    refine pr_iconst hC (-1) (by decide +kernel : decode cX12_see 17 = .ok (.iconst (-1), 1)) rfl ?_
    exact pv_iret hM (by decide +kernel : decode cX12_see 18 = .ok (.ireturn, 1)) hU H
  replace H := H.2 c_5
  refine pr_aload_n hC (by decide +kernel : decode cX12_see 8 = .ok (.aload_n 0, 1)) rfl ?_
  refine pu_g1 hC fg_X12_52 (by decide +kernel : decode cX12_see 9 = .ok (.getfield 52, 3)) hU ho (by decide) rfl (by decide) ?_
  refine pr_iload_n hC (by decide +kernel : decode cX12_see 12 = .ok (.iload_n 1, 1)) rfl ?_
  refine pu_iald hC (by decide +kernel : decode cX12_see 13 = .ok (.iaload, 1)) hU ho rfl H.1 ?_
  replace H := H.2
  refine pr_goto hC 18 (by decide +kernel : decode cX12_see 14 = .ok (.goto 4, 3)) (by decide) ?_
  exact pv_iret hM (by decide +kernel : decode cX12_see 18 = .ok (.ireturn, 1)) hU H
def b_X12_next_L0 (o0 : Nat) (post : Um → Prop) (k_39 : Um → Prop) (rec_ : Um → Prop)  (U : Um) : Prop :=
  w_X12_see o0 (uI U o0 24) U (fun r_2 U_1 => (r_2 = 32 → ∀ (U_3 : Um), U_3 = sI U_1 o0 24 ((uI U_1 o0 24) + 1) → rec_ U_3) ∧ (¬ r_2 = 32 → w_X12_see o0 (uI U_1 o0 24) U_1 (fun r_5 U_4 => (r_5 = 10 → ∀ (U_6 : Um), U_6 = sI U_4 o0 24 ((uI U_4 o0 24) + 1) → rec_ U_6) ∧ (¬ r_5 = 10 → k_39 U_4))))
def w_X12_next_L0 (o0 : Nat) (post : Um → Prop) (k_39 : Um → Prop) (n_ : Nat) : Um → Prop := Nat.rec (motive := fun _ => Um → Prop) (fun _ => False) (fun _ ih => b_X12_next_L0 o0 post k_39 ih) n_
def b_X12_next_L196 (o0 : Nat) (post : Um → Prop) (k_286 : Um → Prop) (rec_ : Um → Prop)  (U : Um) : Prop :=
  w_X12_see o0 (uI U o0 24) U (fun r_24 U_23 => w_X12_isIn (Int32.toInt64 r_24) 48 57 U_23 (fun r_26 U_25 => (r_26 = 0 → k_286 U_25) ∧ (¬ r_26 = 0 → ((4 : Int32) ≤ ((uI U_25 o0 24) - (uI U_25 o0 23)) → ∀ (U_27 : Um), U_27 = sI U_25 o0 24 ((uI U_25 o0 24) + 1) → rec_ U_27) ∧ (¬ (4 : Int32) ≤ ((uI U_25 o0 24) - (uI U_25 o0 23)) → w_X12_see o0 (uI U_25 o0 24) U_25 (fun r_29 U_28 => ∀ (U_30 : Um), U_30 = sI U_28 o0 26 (((10 * (uI U_25 o0 26)) + r_29) - 48) → ∀ (U_31 : Um), U_31 = sI U_30 o0 24 ((uI U_30 o0 24) + 1) → rec_ U_31)))))
def w_X12_next_L196 (o0 : Nat) (post : Um → Prop) (k_286 : Um → Prop) (n_ : Nat) : Um → Prop := Nat.rec (motive := fun _ => Um → Prop) (fun _ => False) (fun _ ih => b_X12_next_L196 o0 post k_286 ih) n_
def b_X12_next_L103 (o0 : Nat) (post : Um → Prop) (k_286 : Um → Prop) (rec_ : Um → Prop)  (U : Um) : Prop :=
  w_X12_see o0 (uI U o0 24) U (fun r_36 U_35 => w_X12_isIn (Int32.toInt64 r_36) 97 122 U_35 (fun r_38 U_37 => (r_38 = 0 → k_286 U_37) ∧ (¬ r_38 = 0 → ((6 : Int32) ≤ ((uI U_37 o0 24) - (uI U_37 o0 23)) → ∀ (U_39 : Um), U_39 = sI U_37 o0 24 ((uI U_37 o0 24) + 1) → rec_ U_39) ∧ (¬ (6 : Int32) ≤ ((uI U_37 o0 24) - (uI U_37 o0 23)) → w_X12_see o0 (uI U_37 o0 24) U_37 (fun r_41 U_40 => ∀ (U_42 : Um), U_42 = sL U_40 o0 25 (((27 * (uL U_37 o0 25)) + (Int32.toInt64 r_41)) - 96) → ∀ (U_43 : Um), U_43 = sI U_42 o0 24 ((uI U_42 o0 24) + 1) → rec_ U_43)))))
def w_X12_next_L103 (o0 : Nat) (post : Um → Prop) (k_286 : Um → Prop) (n_ : Nat) : Um → Prop := Nat.rec (motive := fun _ => Um → Prop) (fun _ => False) (fun _ ih => b_X12_next_L103 o0 post k_286 ih) n_
def w_X12_next (o : Nat) (U : Um) (post : Um → Prop) : Prop :=
  (∃ n_46, w_X12_next_L0 o post (fun U_7 => ∀ (U_8 : Um), U_8 = sI U_7 o 23 (uI U_7 o 24) → w_X12_see o (uI U_8 o 24) U_8 (fun r_10 U_9 => ∀ (U_11 : Um), U_11 = sL U_9 o 25 0 → ∀ (U_12 : Um), U_12 = sI U_11 o 26 0 → ∀ (U_13 : Um), U_13 = sI U_12 o 27 0 → (r_10 = (-1) → ∀ (U_14 : Um), U_14 = sI U_13 o 22 0 → post U_14) ∧ (¬ r_10 = (-1) → w_X12_isIn (Int32.toInt64 r_10) 97 122 U_13 (fun r_16 U_15 => (r_16 = 0 → w_X12_isIn (Int32.toInt64 r_10) 48 57 U_15 (fun r_18 U_17 => (r_18 = 0 → ∀ (U_19 : Um), U_19 = sI U_17 o 22 3 → ∀ (U_20 : Um), U_20 = sI U_19 o 27 r_10 → ∀ (U_21 : Um), U_21 = sI U_20 o 24 ((uI U_20 o 24) + 1) → post U_21) ∧ (¬ r_18 = 0 → ∀ (U_22 : Um), U_22 = sI U_17 o 22 2 → (∃ n_33, w_X12_next_L196 o post (fun U_32 => post U_32) n_33  U_22)))) ∧ (¬ r_16 = 0 → ∀ (U_34 : Um), U_34 = sI U_15 o 22 1 → (∃ n_45, w_X12_next_L103 o post (fun U_44 => post U_44) n_45  U_34)))))) n_46  U)
set_option maxHeartbeats 4000000 in
theorem tl_X12_next_L0 {l : Launch} {Y : px_Y} {X : px_X} {h0 hh : pe_H} {sz : Nat} (o0 : Nat) (post : Um → Prop) (k_39 : Um → Prop) (ho0 : oc o0 = 10)  (hC : px_C X Y.1 (pm_A hh sz) cX12_next RX12 2) (hM : px_M l X Y.1 hh sz yX12_next cX12_next 2 none 1 0 0) (hR : X.2.2.2.1 = pm_rm 1 0 0) (hk_39 : ∀ (U : Um) (h : pe_H), k_39 U → rF Y h0 U h → pw X Y.1 (pm_A hh sz) (pm_E X Y.1 hh sz 0 0 (pm_P Y h0 sz (pq_v post))) 39 [some (.ref (Y.2.1 o0)), none] [] h sz 0 0) : ∀ (n_ : Nat)  (U : Um) (h : pe_H), rF Y h0 U h → w_X12_next_L0 o0 post k_39 n_  U → pw X Y.1 (pm_A hh sz) (pm_E X Y.1 hh sz 0 0 (pm_P Y h0 sz (pq_v post))) 0 [some (.ref (Y.2.1 o0)), none] [] h sz 0 0 := by
  intro n_
  induction n_ with
  | zero => intro  U h hU H; exact False.elim H
  | succ n_ ih =>
    intro  U h hU H
    replace H : b_X12_next_L0 o0 post k_39 (w_X12_next_L0 o0 post k_39 n_)  U := H
    unfold b_X12_next_L0 at H
    refine pr_aload_n hC (by decide +kernel : decode cX12_next 0 = .ok (.aload_n 0, 1)) rfl ?_
    refine pr_aload_n hC (by decide +kernel : decode cX12_next 1 = .ok (.aload_n 0, 1)) rfl ?_
    refine pu_g0 hC fg_X12_135 (by decide +kernel : decode cX12_next 2 = .ok (.getfield 135, 3)) hU ho0 (by decide) rfl rfl ?_
    refine vc_Vi hC hR [.int (uI U o0 24)] fv_X12_138 (by decide +kernel : decode cX12_next 5 = .ok (.invokevirtual 138, 3)) hU (t_X12_see ho0 H) ho0 (by decide) rfl rfl rfl (Nat.le_of_ble_eq_true rfl) (Nat.le_of_ble_eq_true rfl) (Nat.le_refl 0) (Nat.le_refl 0) (fun r_2 U_1 h H hU => ?_)
    refine pr_bipush hC (32) (by decide +kernel : decode cX12_next 8 = .ok (.bipush 32, 2)) rfl ?_
    refine pr_icmp_eq hC 26 (by decide +kernel : decode cX12_next 10 = .ok (.if_icmp .eq 16, 3)) (by decide) (fun c_10 => ?_) (fun c_10 => ?_)
    · replace H := H.1 c_10
      refine pr_aload_n hC (by decide +kernel : decode cX12_next 26 = .ok (.aload_n 0, 1)) rfl ?_
      refine pr_dup hC (by decide +kernel : decode cX12_next 27 = .ok (.dup, 1)) rfl ?_
      refine pu_g0 hC fg_X12_135 (by decide +kernel : decode cX12_next 28 = .ok (.getfield 135, 3)) hU ho0 (by decide) rfl rfl ?_
      refine pr_iconst hC (1) (by decide +kernel : decode cX12_next 31 = .ok (.iconst 1, 1)) rfl ?_
      refine pr_iadd hC (by decide +kernel : decode cX12_next 32 = .ok (.iadd, 1)) ?_
      refine pv_p0 hC fp_X12_135 (by decide +kernel : decode cX12_next 33 = .ok (.putfield 135, 3)) hU ho0 (by decide) rfl rfl rfl rfl (fun U_3 h e_U_3 hU => ?_)
      replace H := H U_3 e_U_3
      refine pr_goto hC 0 (by decide +kernel : decode cX12_next 36 = .ok (.goto (-36), 3)) (by decide) ?_
      exact pv_sub [some (.ref (Y.2.1 o0)), none] (And.intro rfl trivial) (ih U_3 h hU H)
    replace H := H.2 c_10
    refine pr_aload_n hC (by decide +kernel : decode cX12_next 13 = .ok (.aload_n 0, 1)) rfl ?_
    refine pr_aload_n hC (by decide +kernel : decode cX12_next 14 = .ok (.aload_n 0, 1)) rfl ?_
    refine pu_g0 hC fg_X12_135 (by decide +kernel : decode cX12_next 15 = .ok (.getfield 135, 3)) hU ho0 (by decide) rfl rfl ?_
    refine vc_Vi hC hR [.int (uI U_1 o0 24)] fv_X12_138 (by decide +kernel : decode cX12_next 18 = .ok (.invokevirtual 138, 3)) hU (t_X12_see ho0 H) ho0 (by decide) rfl rfl rfl (Nat.le_of_ble_eq_true rfl) (Nat.le_of_ble_eq_true rfl) (Nat.le_refl 0) (Nat.le_refl 0) (fun r_5 U_4 h H hU => ?_)
    refine pr_bipush hC (10) (by decide +kernel : decode cX12_next 21 = .ok (.bipush 10, 2)) rfl ?_
    refine pr_icmp_ne hC 39 (by decide +kernel : decode cX12_next 23 = .ok (.if_icmp .ne 16, 3)) (by decide) (fun c_23 => ?_) (fun c_23 => ?_)
    · replace H := H.2 c_23
      exact pv_sub [some (.ref (Y.2.1 o0)), none] (And.intro rfl trivial) (hk_39 U_4 h H hU)
    replace H := H.1 c_23
    refine pr_aload_n hC (by decide +kernel : decode cX12_next 26 = .ok (.aload_n 0, 1)) rfl ?_
    refine pr_dup hC (by decide +kernel : decode cX12_next 27 = .ok (.dup, 1)) rfl ?_
    refine pu_g0 hC fg_X12_135 (by decide +kernel : decode cX12_next 28 = .ok (.getfield 135, 3)) hU ho0 (by decide) rfl rfl ?_
    refine pr_iconst hC (1) (by decide +kernel : decode cX12_next 31 = .ok (.iconst 1, 1)) rfl ?_
    refine pr_iadd hC (by decide +kernel : decode cX12_next 32 = .ok (.iadd, 1)) ?_
    refine pv_p0 hC fp_X12_135 (by decide +kernel : decode cX12_next 33 = .ok (.putfield 135, 3)) hU ho0 (by decide) rfl rfl rfl rfl (fun U_6 h e_U_6 hU => ?_)
    replace H := H U_6 e_U_6
    refine pr_goto hC 0 (by decide +kernel : decode cX12_next 36 = .ok (.goto (-36), 3)) (by decide) ?_
    exact pv_sub [some (.ref (Y.2.1 o0)), none] (And.intro rfl trivial) (ih U_6 h hU H)
set_option maxHeartbeats 4000000 in
theorem tl_X12_next_L196 {l : Launch} {Y : px_Y} {X : px_X} {h0 hh : pe_H} {sz : Nat} (o0 : Nat) (post : Um → Prop) (k_286 : Um → Prop) (ho0 : oc o0 = 10)  (hC : px_C X Y.1 (pm_A hh sz) cX12_next RX12 2) (hM : px_M l X Y.1 hh sz yX12_next cX12_next 2 none 1 0 0) (hR : X.2.2.2.1 = pm_rm 1 0 0) (hk_286 : ∀ (U : Um) (h : pe_H), k_286 U → rF Y h0 U h → pw X Y.1 (pm_A hh sz) (pm_E X Y.1 hh sz 0 0 (pm_P Y h0 sz (pq_v post))) 286 [none, none] [] h sz 0 0) : ∀ (n_ : Nat)  (U : Um) (h : pe_H), rF Y h0 U h → w_X12_next_L196 o0 post k_286 n_  U → pw X Y.1 (pm_A hh sz) (pm_E X Y.1 hh sz 0 0 (pm_P Y h0 sz (pq_v post))) 196 [some (.ref (Y.2.1 o0)), none] [] h sz 0 0 := by
  intro n_
  induction n_ with
  | zero => intro  U h hU H; exact False.elim H
  | succ n_ ih =>
    intro  U h hU H
    replace H : b_X12_next_L196 o0 post k_286 (w_X12_next_L196 o0 post k_286 n_)  U := H
    unfold b_X12_next_L196 at H
    refine pr_aload_n hC (by decide +kernel : decode cX12_next 196 = .ok (.aload_n 0, 1)) rfl ?_
    refine pr_aload_n hC (by decide +kernel : decode cX12_next 197 = .ok (.aload_n 0, 1)) rfl ?_
    refine pu_g0 hC fg_X12_135 (by decide +kernel : decode cX12_next 198 = .ok (.getfield 135, 3)) hU ho0 (by decide) rfl rfl ?_
    refine vc_Vi hC hR [.int (uI U o0 24)] fv_X12_138 (by decide +kernel : decode cX12_next 201 = .ok (.invokevirtual 138, 3)) hU (t_X12_see ho0 H) ho0 (by decide) rfl rfl rfl (Nat.le_of_ble_eq_true rfl) (Nat.le_of_ble_eq_true rfl) (Nat.le_refl 0) (Nat.le_refl 0) (fun r_24 U_23 h H hU => ?_)
    refine pr_i2l hC (by decide +kernel : decode cX12_next 204 = .ok (.i2l, 1)) ?_
    refine pr_ldc2 hC (48) (by decide +kernel : decode cX12_next 205 = .ok (.ldc2_w 166, 3)) fk_X12_166 ?_
    refine pr_ldc2 hC (57) (by decide +kernel : decode cX12_next 208 = .ok (.ldc2_w 168, 3)) fk_X12_168 ?_
    refine vc_Si hC hR [.long (Int32.toInt64 r_24), .long 48, .long 57] fv_X12_131 (by decide +kernel : decode cX12_next 211 = .ok (.invokestatic 131, 3)) hU (t_X12_isIn  H) rfl rfl (Nat.le_of_ble_eq_true rfl) (Nat.le_of_ble_eq_true rfl) (Nat.le_refl 0) (Nat.le_refl 0) (fun r_26 U_25 h H hU => ?_)
    refine pr_if_eq hC 286 (by decide +kernel : decode cX12_next 214 = .ok (.ifCond .eq 72, 3)) (by decide) (fun c_214 => ?_) (fun c_214 => ?_)
    · replace H := H.1 c_214
      exact pv_sub [none, none] (trivial) (hk_286 U_25 h H hU)
    replace H := H.2 c_214
    refine pr_aload_n hC (by decide +kernel : decode cX12_next 217 = .ok (.aload_n 0, 1)) rfl ?_
    refine pu_g0 hC fg_X12_135 (by decide +kernel : decode cX12_next 218 = .ok (.getfield 135, 3)) hU ho0 (by decide) rfl rfl ?_
    refine pr_aload_n hC (by decide +kernel : decode cX12_next 221 = .ok (.aload_n 0, 1)) rfl ?_
    refine pu_g0 hC fg_X12_142 (by decide +kernel : decode cX12_next 222 = .ok (.getfield 142, 3)) hU ho0 (by decide) rfl rfl ?_
    refine pr_isub hC (by decide +kernel : decode cX12_next 225 = .ok (.isub, 1)) ?_
    refine pr_iconst hC (4) (by decide +kernel : decode cX12_next 226 = .ok (.iconst 4, 1)) rfl ?_
    refine pr_icmp_ge hC 253 (by decide +kernel : decode cX12_next 227 = .ok (.if_icmp .ge 26, 3)) (by decide) (fun c_227 => ?_) (fun c_227 => ?_)
    · replace H := H.1 c_227
      refine pr_aload_n hC (by decide +kernel : decode cX12_next 253 = .ok (.aload_n 0, 1)) rfl ?_
      refine pr_dup hC (by decide +kernel : decode cX12_next 254 = .ok (.dup, 1)) rfl ?_
      refine pu_g0 hC fg_X12_135 (by decide +kernel : decode cX12_next 255 = .ok (.getfield 135, 3)) hU ho0 (by decide) rfl rfl ?_
      refine pr_iconst hC (1) (by decide +kernel : decode cX12_next 258 = .ok (.iconst 1, 1)) rfl ?_
      refine pr_iadd hC (by decide +kernel : decode cX12_next 259 = .ok (.iadd, 1)) ?_
      refine pv_p0 hC fp_X12_135 (by decide +kernel : decode cX12_next 260 = .ok (.putfield 135, 3)) hU ho0 (by decide) rfl rfl rfl rfl (fun U_27 h e_U_27 hU => ?_)
      replace H := H U_27 e_U_27
      refine pr_goto hC 196 (by decide +kernel : decode cX12_next 263 = .ok (.goto (-67), 3)) (by decide) ?_
      exact pv_sub [some (.ref (Y.2.1 o0)), none] (And.intro rfl trivial) (ih U_27 h hU H)
    replace H := H.2 c_227
    refine pr_aload_n hC (by decide +kernel : decode cX12_next 230 = .ok (.aload_n 0, 1)) rfl ?_
    refine pr_bipush hC (10) (by decide +kernel : decode cX12_next 231 = .ok (.bipush 10, 2)) rfl ?_
    refine pr_aload_n hC (by decide +kernel : decode cX12_next 233 = .ok (.aload_n 0, 1)) rfl ?_
    refine pu_g0 hC fg_X12_149 (by decide +kernel : decode cX12_next 234 = .ok (.getfield 149, 3)) hU ho0 (by decide) rfl rfl ?_
    refine pr_imul hC (by decide +kernel : decode cX12_next 237 = .ok (.imul, 1)) ?_
    refine pr_aload_n hC (by decide +kernel : decode cX12_next 238 = .ok (.aload_n 0, 1)) rfl ?_
    refine pr_aload_n hC (by decide +kernel : decode cX12_next 239 = .ok (.aload_n 0, 1)) rfl ?_
    refine pu_g0 hC fg_X12_135 (by decide +kernel : decode cX12_next 240 = .ok (.getfield 135, 3)) hU ho0 (by decide) rfl rfl ?_
    refine vc_Vi hC hR [.int (uI U_25 o0 24)] fv_X12_138 (by decide +kernel : decode cX12_next 243 = .ok (.invokevirtual 138, 3)) hU (t_X12_see ho0 H) ho0 (by decide) rfl rfl rfl (Nat.le_of_ble_eq_true rfl) (Nat.le_of_ble_eq_true rfl) (Nat.le_refl 0) (Nat.le_refl 0) (fun r_29 U_28 h H hU => ?_)
    refine pr_iadd hC (by decide +kernel : decode cX12_next 246 = .ok (.iadd, 1)) ?_
    refine pr_bipush hC (48) (by decide +kernel : decode cX12_next 247 = .ok (.bipush 48, 2)) rfl ?_
    refine pr_isub hC (by decide +kernel : decode cX12_next 249 = .ok (.isub, 1)) ?_
    refine pv_p0 hC fp_X12_149 (by decide +kernel : decode cX12_next 250 = .ok (.putfield 149, 3)) hU ho0 (by decide) rfl rfl rfl rfl (fun U_30 h e_U_30 hU => ?_)
    replace H := H U_30 e_U_30
    refine pr_aload_n hC (by decide +kernel : decode cX12_next 253 = .ok (.aload_n 0, 1)) rfl ?_
    refine pr_dup hC (by decide +kernel : decode cX12_next 254 = .ok (.dup, 1)) rfl ?_
    refine pu_g0 hC fg_X12_135 (by decide +kernel : decode cX12_next 255 = .ok (.getfield 135, 3)) hU ho0 (by decide) rfl rfl ?_
    refine pr_iconst hC (1) (by decide +kernel : decode cX12_next 258 = .ok (.iconst 1, 1)) rfl ?_
    refine pr_iadd hC (by decide +kernel : decode cX12_next 259 = .ok (.iadd, 1)) ?_
    refine pv_p0 hC fp_X12_135 (by decide +kernel : decode cX12_next 260 = .ok (.putfield 135, 3)) hU ho0 (by decide) rfl rfl rfl rfl (fun U_31 h e_U_31 hU => ?_)
    replace H := H U_31 e_U_31
    refine pr_goto hC 196 (by decide +kernel : decode cX12_next 263 = .ok (.goto (-67), 3)) (by decide) ?_
    exact pv_sub [some (.ref (Y.2.1 o0)), none] (And.intro rfl trivial) (ih U_31 h hU H)
set_option maxHeartbeats 4000000 in
theorem tl_X12_next_L103 {l : Launch} {Y : px_Y} {X : px_X} {h0 hh : pe_H} {sz : Nat} (o0 : Nat) (post : Um → Prop) (k_286 : Um → Prop) (ho0 : oc o0 = 10)  (hC : px_C X Y.1 (pm_A hh sz) cX12_next RX12 2) (hM : px_M l X Y.1 hh sz yX12_next cX12_next 2 none 1 0 0) (hR : X.2.2.2.1 = pm_rm 1 0 0) (hk_286 : ∀ (U : Um) (h : pe_H), k_286 U → rF Y h0 U h → pw X Y.1 (pm_A hh sz) (pm_E X Y.1 hh sz 0 0 (pm_P Y h0 sz (pq_v post))) 286 [none, none] [] h sz 0 0) : ∀ (n_ : Nat)  (U : Um) (h : pe_H), rF Y h0 U h → w_X12_next_L103 o0 post k_286 n_  U → pw X Y.1 (pm_A hh sz) (pm_E X Y.1 hh sz 0 0 (pm_P Y h0 sz (pq_v post))) 103 [some (.ref (Y.2.1 o0)), none] [] h sz 0 0 := by
  intro n_
  induction n_ with
  | zero => intro  U h hU H; exact False.elim H
  | succ n_ ih =>
    intro  U h hU H
    replace H : b_X12_next_L103 o0 post k_286 (w_X12_next_L103 o0 post k_286 n_)  U := H
    unfold b_X12_next_L103 at H
    refine pr_aload_n hC (by decide +kernel : decode cX12_next 103 = .ok (.aload_n 0, 1)) rfl ?_
    refine pr_aload_n hC (by decide +kernel : decode cX12_next 104 = .ok (.aload_n 0, 1)) rfl ?_
    refine pu_g0 hC fg_X12_135 (by decide +kernel : decode cX12_next 105 = .ok (.getfield 135, 3)) hU ho0 (by decide) rfl rfl ?_
    refine vc_Vi hC hR [.int (uI U o0 24)] fv_X12_138 (by decide +kernel : decode cX12_next 108 = .ok (.invokevirtual 138, 3)) hU (t_X12_see ho0 H) ho0 (by decide) rfl rfl rfl (Nat.le_of_ble_eq_true rfl) (Nat.le_of_ble_eq_true rfl) (Nat.le_refl 0) (Nat.le_refl 0) (fun r_36 U_35 h H hU => ?_)
    refine pr_i2l hC (by decide +kernel : decode cX12_next 111 = .ok (.i2l, 1)) ?_
    refine pr_ldc2 hC (97) (by decide +kernel : decode cX12_next 112 = .ok (.ldc2_w 158, 3)) fk_X12_158 ?_
    refine pr_ldc2 hC (122) (by decide +kernel : decode cX12_next 115 = .ok (.ldc2_w 160, 3)) fk_X12_160 ?_
    refine vc_Si hC hR [.long (Int32.toInt64 r_36), .long 97, .long 122] fv_X12_131 (by decide +kernel : decode cX12_next 118 = .ok (.invokestatic 131, 3)) hU (t_X12_isIn  H) rfl rfl (Nat.le_of_ble_eq_true rfl) (Nat.le_of_ble_eq_true rfl) (Nat.le_refl 0) (Nat.le_refl 0) (fun r_38 U_37 h H hU => ?_)
    refine pr_if_eq hC 286 (by decide +kernel : decode cX12_next 121 = .ok (.ifCond .eq 165, 3)) (by decide) (fun c_121 => ?_) (fun c_121 => ?_)
    · replace H := H.1 c_121
      exact pv_sub [none, none] (trivial) (hk_286 U_37 h H hU)
    replace H := H.2 c_121
    refine pr_aload_n hC (by decide +kernel : decode cX12_next 124 = .ok (.aload_n 0, 1)) rfl ?_
    refine pu_g0 hC fg_X12_135 (by decide +kernel : decode cX12_next 125 = .ok (.getfield 135, 3)) hU ho0 (by decide) rfl rfl ?_
    refine pr_aload_n hC (by decide +kernel : decode cX12_next 128 = .ok (.aload_n 0, 1)) rfl ?_
    refine pu_g0 hC fg_X12_142 (by decide +kernel : decode cX12_next 129 = .ok (.getfield 142, 3)) hU ho0 (by decide) rfl rfl ?_
    refine pr_isub hC (by decide +kernel : decode cX12_next 132 = .ok (.isub, 1)) ?_
    refine pr_bipush hC (6) (by decide +kernel : decode cX12_next 133 = .ok (.bipush 6, 2)) rfl ?_
    refine pr_icmp_ge hC 164 (by decide +kernel : decode cX12_next 135 = .ok (.if_icmp .ge 29, 3)) (by decide) (fun c_135 => ?_) (fun c_135 => ?_)
    · replace H := H.1 c_135
      refine pr_aload_n hC (by decide +kernel : decode cX12_next 164 = .ok (.aload_n 0, 1)) rfl ?_
      refine pr_dup hC (by decide +kernel : decode cX12_next 165 = .ok (.dup, 1)) rfl ?_
      refine pu_g0 hC fg_X12_135 (by decide +kernel : decode cX12_next 166 = .ok (.getfield 135, 3)) hU ho0 (by decide) rfl rfl ?_
      refine pr_iconst hC (1) (by decide +kernel : decode cX12_next 169 = .ok (.iconst 1, 1)) rfl ?_
      refine pr_iadd hC (by decide +kernel : decode cX12_next 170 = .ok (.iadd, 1)) ?_
      refine pv_p0 hC fp_X12_135 (by decide +kernel : decode cX12_next 171 = .ok (.putfield 135, 3)) hU ho0 (by decide) rfl rfl rfl rfl (fun U_39 h e_U_39 hU => ?_)
      replace H := H U_39 e_U_39
      refine pr_goto hC 103 (by decide +kernel : decode cX12_next 174 = .ok (.goto (-71), 3)) (by decide) ?_
      exact pv_sub [some (.ref (Y.2.1 o0)), none] (And.intro rfl trivial) (ih U_39 h hU H)
    replace H := H.2 c_135
    refine pr_aload_n hC (by decide +kernel : decode cX12_next 138 = .ok (.aload_n 0, 1)) rfl ?_
    refine pr_ldc2 hC (27) (by decide +kernel : decode cX12_next 139 = .ok (.ldc2_w 162, 3)) fk_X12_162 ?_
    refine pr_aload_n hC (by decide +kernel : decode cX12_next 142 = .ok (.aload_n 0, 1)) rfl ?_
    refine pu_g20 hC fg_X12_145 (by decide +kernel : decode cX12_next 143 = .ok (.getfield 145, 3)) hU ho0 (by decide) rfl rfl ?_
    refine pr_lmul hC (by decide +kernel : decode cX12_next 146 = .ok (.lmul, 1)) ?_
    refine pr_aload_n hC (by decide +kernel : decode cX12_next 147 = .ok (.aload_n 0, 1)) rfl ?_
    refine pr_aload_n hC (by decide +kernel : decode cX12_next 148 = .ok (.aload_n 0, 1)) rfl ?_
    refine pu_g0 hC fg_X12_135 (by decide +kernel : decode cX12_next 149 = .ok (.getfield 135, 3)) hU ho0 (by decide) rfl rfl ?_
    refine vc_Vi hC hR [.int (uI U_37 o0 24)] fv_X12_138 (by decide +kernel : decode cX12_next 152 = .ok (.invokevirtual 138, 3)) hU (t_X12_see ho0 H) ho0 (by decide) rfl rfl rfl (Nat.le_of_ble_eq_true rfl) (Nat.le_of_ble_eq_true rfl) (Nat.le_refl 0) (Nat.le_refl 0) (fun r_41 U_40 h H hU => ?_)
    refine pr_i2l hC (by decide +kernel : decode cX12_next 155 = .ok (.i2l, 1)) ?_
    refine pr_ladd hC (by decide +kernel : decode cX12_next 156 = .ok (.ladd, 1)) ?_
    refine pr_ldc2 hC (96) (by decide +kernel : decode cX12_next 157 = .ok (.ldc2_w 164, 3)) fk_X12_164 ?_
    refine pr_lsub hC (by decide +kernel : decode cX12_next 160 = .ok (.lsub, 1)) ?_
    refine pv_p20 hC fp_X12_145 (by decide +kernel : decode cX12_next 161 = .ok (.putfield 145, 3)) hU ho0 (by decide) rfl rfl rfl rfl (fun U_42 h e_U_42 hU => ?_)
    replace H := H U_42 e_U_42
    refine pr_aload_n hC (by decide +kernel : decode cX12_next 164 = .ok (.aload_n 0, 1)) rfl ?_
    refine pr_dup hC (by decide +kernel : decode cX12_next 165 = .ok (.dup, 1)) rfl ?_
    refine pu_g0 hC fg_X12_135 (by decide +kernel : decode cX12_next 166 = .ok (.getfield 135, 3)) hU ho0 (by decide) rfl rfl ?_
    refine pr_iconst hC (1) (by decide +kernel : decode cX12_next 169 = .ok (.iconst 1, 1)) rfl ?_
    refine pr_iadd hC (by decide +kernel : decode cX12_next 170 = .ok (.iadd, 1)) ?_
    refine pv_p0 hC fp_X12_135 (by decide +kernel : decode cX12_next 171 = .ok (.putfield 135, 3)) hU ho0 (by decide) rfl rfl rfl rfl (fun U_43 h e_U_43 hU => ?_)
    replace H := H U_43 e_U_43
    refine pr_goto hC 103 (by decide +kernel : decode cX12_next 174 = .ok (.goto (-71), 3)) (by decide) ?_
    exact pv_sub [some (.ref (Y.2.1 o0)), none] (And.intro rfl trivial) (ih U_43 h hU H)
set_option maxHeartbeats 4000000 in
theorem t_X12_next {l : Launch} {Y : px_Y} {o : Nat} {U : Um} {post : Um → Prop} (ho : oc o = 10) (H : w_X12_next o U post) : um l Y 1 yX12_next cX12_next 2 none [.ref (Y.2.1 o)] U (pq_v post) := by
  unfold w_X12_next at H
  refine um_of (by decide) (Nat.le_of_ble_eq_true rfl) [some (.ref (Y.2.1 o)), none] rfl (fun X h0 hh sz hM hU => ?_)
  have hC := hM.1
  have hR := hM.2.2.1
  obtain ⟨n_46, H⟩ := H
  refine pv_sub [some (.ref (Y.2.1 o)), none] (And.intro rfl trivial) ?_
  refine tl_X12_next_L0 _ _ _ ho hC hM hR (fun U_7 h H hU => ?_) n_46 U hh hU H
  refine pr_aload_n hC (by decide +kernel : decode cX12_next 39 = .ok (.aload_n 0, 1)) rfl ?_
  refine pr_aload_n hC (by decide +kernel : decode cX12_next 40 = .ok (.aload_n 0, 1)) rfl ?_
  refine pu_g0 hC fg_X12_135 (by decide +kernel : decode cX12_next 41 = .ok (.getfield 135, 3)) hU ho (by decide) rfl rfl ?_
  refine pv_p0 hC fp_X12_142 (by decide +kernel : decode cX12_next 44 = .ok (.putfield 142, 3)) hU ho (by decide) rfl rfl rfl rfl (fun U_8 h e_U_8 hU => ?_)
  replace H := H U_8 e_U_8
  refine pr_aload_n hC (by decide +kernel : decode cX12_next 47 = .ok (.aload_n 0, 1)) rfl ?_
  refine pr_aload_n hC (by decide +kernel : decode cX12_next 48 = .ok (.aload_n 0, 1)) rfl ?_
  refine pu_g0 hC fg_X12_135 (by decide +kernel : decode cX12_next 49 = .ok (.getfield 135, 3)) hU ho (by decide) rfl rfl ?_
  refine vc_Vi hC hR [.int (uI U_8 o 24)] fv_X12_138 (by decide +kernel : decode cX12_next 52 = .ok (.invokevirtual 138, 3)) hU (t_X12_see ho H) ho (by decide) rfl rfl rfl (Nat.le_of_ble_eq_true rfl) (Nat.le_of_ble_eq_true rfl) (Nat.le_refl 0) (Nat.le_refl 0) (fun r_10 U_9 h H hU => ?_)
  refine pr_istore_n hC (by decide +kernel : decode cX12_next 55 = .ok (.istore_n 1, 1)) (by decide) rfl ?_
  refine pr_aload_n hC (by decide +kernel : decode cX12_next 56 = .ok (.aload_n 0, 1)) rfl ?_
  refine pr_lconst hC (0) (by decide +kernel : decode cX12_next 57 = .ok (.lconst 0, 1)) rfl ?_
  refine pv_p20 hC fp_X12_145 (by decide +kernel : decode cX12_next 58 = .ok (.putfield 145, 3)) hU ho (by decide) rfl rfl rfl rfl (fun U_11 h e_U_11 hU => ?_)
  replace H := H U_11 e_U_11
  refine pr_aload_n hC (by decide +kernel : decode cX12_next 61 = .ok (.aload_n 0, 1)) rfl ?_
  refine pr_iconst hC (0) (by decide +kernel : decode cX12_next 62 = .ok (.iconst 0, 1)) rfl ?_
  refine pv_p0 hC fp_X12_149 (by decide +kernel : decode cX12_next 63 = .ok (.putfield 149, 3)) hU ho (by decide) rfl rfl rfl rfl (fun U_12 h e_U_12 hU => ?_)
  replace H := H U_12 e_U_12
  refine pr_aload_n hC (by decide +kernel : decode cX12_next 66 = .ok (.aload_n 0, 1)) rfl ?_
  refine pr_iconst hC (0) (by decide +kernel : decode cX12_next 67 = .ok (.iconst 0, 1)) rfl ?_
  refine pv_p0 hC fp_X12_152 (by decide +kernel : decode cX12_next 68 = .ok (.putfield 152, 3)) hU ho (by decide) rfl rfl rfl rfl (fun U_13 h e_U_13 hU => ?_)
  replace H := H U_13 e_U_13
  refine pr_iload_n hC (by decide +kernel : decode cX12_next 71 = .ok (.iload_n 1, 1)) rfl ?_
  refine pr_iconst hC (-1) (by decide +kernel : decode cX12_next 72 = .ok (.iconst (-1), 1)) rfl ?_
  refine pr_icmp_ne hC 84 (by decide +kernel : decode cX12_next 73 = .ok (.if_icmp .ne 11, 3)) (by decide) (fun c_73 => ?_) (fun c_73 => ?_)
  · replace H := H.2 c_73
    refine pr_iload_n hC (by decide +kernel : decode cX12_next 84 = .ok (.iload_n 1, 1)) rfl ?_
    refine pr_i2l hC (by decide +kernel : decode cX12_next 85 = .ok (.i2l, 1)) ?_
    refine pr_ldc2 hC (97) (by decide +kernel : decode cX12_next 86 = .ok (.ldc2_w 158, 3)) fk_X12_158 ?_
    refine pr_ldc2 hC (122) (by decide +kernel : decode cX12_next 89 = .ok (.ldc2_w 160, 3)) fk_X12_160 ?_
    refine vc_Si hC hR [.long (Int32.toInt64 r_10), .long 97, .long 122] fv_X12_131 (by decide +kernel : decode cX12_next 92 = .ok (.invokestatic 131, 3)) hU (t_X12_isIn  H) rfl rfl (Nat.le_of_ble_eq_true rfl) (Nat.le_of_ble_eq_true rfl) (Nat.le_refl 0) (Nat.le_refl 0) (fun r_16 U_15 h H hU => ?_)
    refine pr_if_eq hC 177 (by decide +kernel : decode cX12_next 95 = .ok (.ifCond .eq 82, 3)) (by decide) (fun c_95 => ?_) (fun c_95 => ?_)
    · replace H := H.1 c_95
      refine pr_iload_n hC (by decide +kernel : decode cX12_next 177 = .ok (.iload_n 1, 1)) rfl ?_
      refine pr_i2l hC (by decide +kernel : decode cX12_next 178 = .ok (.i2l, 1)) ?_
      refine pr_ldc2 hC (48) (by decide +kernel : decode cX12_next 179 = .ok (.ldc2_w 166, 3)) fk_X12_166 ?_
      refine pr_ldc2 hC (57) (by decide +kernel : decode cX12_next 182 = .ok (.ldc2_w 168, 3)) fk_X12_168 ?_
      refine vc_Si hC hR [.long (Int32.toInt64 r_10), .long 48, .long 57] fv_X12_131 (by decide +kernel : decode cX12_next 185 = .ok (.invokestatic 131, 3)) hU (t_X12_isIn  H) rfl rfl (Nat.le_of_ble_eq_true rfl) (Nat.le_of_ble_eq_true rfl) (Nat.le_refl 0) (Nat.le_refl 0) (fun r_18 U_17 h H hU => ?_)
      refine pr_if_eq hC 266 (by decide +kernel : decode cX12_next 188 = .ok (.ifCond .eq 78, 3)) (by decide) (fun c_188 => ?_) (fun c_188 => ?_)
      · replace H := H.1 c_188
        refine pr_aload_n hC (by decide +kernel : decode cX12_next 266 = .ok (.aload_n 0, 1)) rfl ?_
        refine pr_iconst hC (3) (by decide +kernel : decode cX12_next 267 = .ok (.iconst 3, 1)) rfl ?_
        refine pv_p0 hC fp_X12_155 (by decide +kernel : decode cX12_next 268 = .ok (.putfield 155, 3)) hU ho (by decide) rfl rfl rfl rfl (fun U_19 h e_U_19 hU => ?_)
        replace H := H U_19 e_U_19
        refine pr_aload_n hC (by decide +kernel : decode cX12_next 271 = .ok (.aload_n 0, 1)) rfl ?_
        refine pr_iload_n hC (by decide +kernel : decode cX12_next 272 = .ok (.iload_n 1, 1)) rfl ?_
        refine pv_p0 hC fp_X12_152 (by decide +kernel : decode cX12_next 273 = .ok (.putfield 152, 3)) hU ho (by decide) rfl rfl rfl rfl (fun U_20 h e_U_20 hU => ?_)
        replace H := H U_20 e_U_20
        refine pr_aload_n hC (by decide +kernel : decode cX12_next 276 = .ok (.aload_n 0, 1)) rfl ?_
        refine pr_dup hC (by decide +kernel : decode cX12_next 277 = .ok (.dup, 1)) rfl ?_
        refine pu_g0 hC fg_X12_135 (by decide +kernel : decode cX12_next 278 = .ok (.getfield 135, 3)) hU ho (by decide) rfl rfl ?_
        refine pr_iconst hC (1) (by decide +kernel : decode cX12_next 281 = .ok (.iconst 1, 1)) rfl ?_
        refine pr_iadd hC (by decide +kernel : decode cX12_next 282 = .ok (.iadd, 1)) ?_
        refine pv_p0 hC fp_X12_135 (by decide +kernel : decode cX12_next 283 = .ok (.putfield 135, 3)) hU ho (by decide) rfl rfl rfl rfl (fun U_21 h e_U_21 hU => ?_)
        replace H := H U_21 e_U_21
        exact pv_vret hM (by decide +kernel : decode cX12_next 286 = .ok (.return_, 1)) hU H
      replace H := H.2 c_188
      refine pr_aload_n hC (by decide +kernel : decode cX12_next 191 = .ok (.aload_n 0, 1)) rfl ?_
      refine pr_iconst hC (2) (by decide +kernel : decode cX12_next 192 = .ok (.iconst 2, 1)) rfl ?_
      refine pv_p0 hC fp_X12_155 (by decide +kernel : decode cX12_next 193 = .ok (.putfield 155, 3)) hU ho (by decide) rfl rfl rfl rfl (fun U_22 h e_U_22 hU => ?_)
      replace H := H U_22 e_U_22
      obtain ⟨n_33, H⟩ := H
      refine pv_sub [some (.ref (Y.2.1 o)), none] (And.intro rfl trivial) ?_
      refine tl_X12_next_L196 _ _ _ ho hC hM hR (fun U_32 h H hU => ?_) n_33 U_22 h hU H
      exact pv_vret hM (by decide +kernel : decode cX12_next 286 = .ok (.return_, 1)) hU H
    replace H := H.2 c_95
    refine pr_aload_n hC (by decide +kernel : decode cX12_next 98 = .ok (.aload_n 0, 1)) rfl ?_
    refine pr_iconst hC (1) (by decide +kernel : decode cX12_next 99 = .ok (.iconst 1, 1)) rfl ?_
    refine pv_p0 hC fp_X12_155 (by decide +kernel : decode cX12_next 100 = .ok (.putfield 155, 3)) hU ho (by decide) rfl rfl rfl rfl (fun U_34 h e_U_34 hU => ?_)
    replace H := H U_34 e_U_34
    obtain ⟨n_45, H⟩ := H
    refine pv_sub [some (.ref (Y.2.1 o)), none] (And.intro rfl trivial) ?_
    refine tl_X12_next_L103 _ _ _ ho hC hM hR (fun U_44 h H hU => ?_) n_45 U_34 h hU H
    exact pv_vret hM (by decide +kernel : decode cX12_next 286 = .ok (.return_, 1)) hU H
  replace H := H.1 c_73
  refine pr_aload_n hC (by decide +kernel : decode cX12_next 76 = .ok (.aload_n 0, 1)) rfl ?_
  refine pr_iconst hC (0) (by decide +kernel : decode cX12_next 77 = .ok (.iconst 0, 1)) rfl ?_
  refine pv_p0 hC fp_X12_155 (by decide +kernel : decode cX12_next 78 = .ok (.putfield 155, 3)) hU ho (by decide) rfl rfl rfl rfl (fun U_14 h e_U_14 hU => ?_)
  replace H := H U_14 e_U_14
  refine pr_goto hC 286 (by decide +kernel : decode cX12_next 81 = .ok (.goto 205, 3)) (by decide) ?_
  exact pv_vret hM (by decide +kernel : decode cX12_next 286 = .ok (.return_, 1)) hU H
def w_X12_fails (o : Nat) (a1 : Int32) (U : Um) (post : Int32 → Um → Prop) : Prop :=
  ((uI U o 20) = 0 → ∀ (U_1 : Um), U_1 = sI U o 20 a1 → ∀ (U_2 : Um), U_2 = sI U_1 o 21 (uI U_1 o 23) → post 0 U_2) ∧ (¬ (uI U o 20) = 0 → post 0 U)
set_option maxHeartbeats 4000000 in
theorem t_X12_fails {l : Launch} {Y : px_Y} {o : Nat} {a1 : Int32} {U : Um} {post : Int32 → Um → Prop} (ho : oc o = 10) (H : w_X12_fails o a1 U post) : um l Y 0 yX12_fails cX12_fails 2 (some (.boolean)) [.ref (Y.2.1 o), .int a1] U (pq_i post) := by
  unfold w_X12_fails at H
  refine um_of (by decide) (Nat.le_of_ble_eq_true rfl) [some (.ref (Y.2.1 o)), some (.int a1)] rfl (fun X h0 hh sz hM hU => ?_)
  have hC := hM.1
  have hR := hM.2.2.1
  refine pr_aload_n hC (by decide +kernel : decode cX12_fails 0 = .ok (.aload_n 0, 1)) rfl ?_
  refine pu_g0 hC fg_X12_170 (by decide +kernel : decode cX12_fails 1 = .ok (.getfield 170, 3)) hU ho (by decide) rfl rfl ?_
  refine pr_if_ne hC 20 (by decide +kernel : decode cX12_fails 4 = .ok (.ifCond .ne 16, 3)) (by decide) (fun c_4 => ?_) (fun c_4 => ?_)
  · replace H := H.2 c_4
    refine pr_iconst hC (0) (by decide +kernel : decode cX12_fails 20 = .ok (.iconst 0, 1)) rfl ?_
    exact pv_zret hM (by decide +kernel : decode cX12_fails 21 = .ok (.ireturn, 1)) (Or.inl rfl) hU H
  replace H := H.1 c_4
  refine pr_aload_n hC (by decide +kernel : decode cX12_fails 7 = .ok (.aload_n 0, 1)) rfl ?_
  refine pr_iload_n hC (by decide +kernel : decode cX12_fails 8 = .ok (.iload_n 1, 1)) rfl ?_
  refine pv_p0 hC fp_X12_170 (by decide +kernel : decode cX12_fails 9 = .ok (.putfield 170, 3)) hU ho (by decide) rfl rfl rfl rfl (fun U_1 h e_U_1 hU => ?_)
  replace H := H U_1 e_U_1
  refine pr_aload_n hC (by decide +kernel : decode cX12_fails 12 = .ok (.aload_n 0, 1)) rfl ?_
  refine pr_aload_n hC (by decide +kernel : decode cX12_fails 13 = .ok (.aload_n 0, 1)) rfl ?_
  refine pu_g0 hC fg_X12_142 (by decide +kernel : decode cX12_fails 14 = .ok (.getfield 142, 3)) hU ho (by decide) rfl rfl ?_
  refine pv_p0 hC fp_X12_173 (by decide +kernel : decode cX12_fails 17 = .ok (.putfield 173, 3)) hU ho (by decide) rfl rfl rfl rfl (fun U_2 h e_U_2 hU => ?_)
  replace H := H U_2 e_U_2
  refine pr_iconst hC (0) (by decide +kernel : decode cX12_fails 20 = .ok (.iconst 0, 1)) rfl ?_
  exact pv_zret hM (by decide +kernel : decode cX12_fails 21 = .ok (.ireturn, 1)) (Or.inl rfl) hU H
def w_X12_isSign (o : Nat) (a1 : Int32) (U : Um) (post : Int32 → Um → Prop) : Prop :=
  ((uI U o 22) = 3 → ((uI U o 27) = a1 → post 1 U) ∧ (¬ (uI U o 27) = a1 → post 0 U)) ∧ (¬ (uI U o 22) = 3 → post 0 U)
set_option maxHeartbeats 4000000 in
theorem t_X12_isSign {l : Launch} {Y : px_Y} {o : Nat} {a1 : Int32} {U : Um} {post : Int32 → Um → Prop} (ho : oc o = 10) (H : w_X12_isSign o a1 U post) : um l Y 0 yX12_isSign cX12_isSign 2 (some (.boolean)) [.ref (Y.2.1 o), .int a1] U (pq_i post) := by
  unfold w_X12_isSign at H
  refine um_of (by decide) (Nat.le_of_ble_eq_true rfl) [some (.ref (Y.2.1 o)), some (.int a1)] rfl (fun X h0 hh sz hM hU => ?_)
  have hC := hM.1
  have hR := hM.2.2.1
  refine pr_aload_n hC (by decide +kernel : decode cX12_isSign 0 = .ok (.aload_n 0, 1)) rfl ?_
  refine pu_g0 hC fg_X12_155 (by decide +kernel : decode cX12_isSign 1 = .ok (.getfield 155, 3)) hU ho (by decide) rfl rfl ?_
  refine pr_iconst hC (3) (by decide +kernel : decode cX12_isSign 4 = .ok (.iconst 3, 1)) rfl ?_
  refine pr_icmp_ne hC 20 (by decide +kernel : decode cX12_isSign 5 = .ok (.if_icmp .ne 15, 3)) (by decide) (fun c_5 => ?_) (fun c_5 => ?_)
  · replace H := H.2 c_5
    refine pr_iconst hC (0) (by decide +kernel : decode cX12_isSign 20 = .ok (.iconst 0, 1)) rfl ?_
    exact pv_zret hM (by decide +kernel : decode cX12_isSign 21 = .ok (.ireturn, 1)) (Or.inl rfl) hU H
  replace H := H.1 c_5
  refine pr_aload_n hC (by decide +kernel : decode cX12_isSign 8 = .ok (.aload_n 0, 1)) rfl ?_
  refine pu_g0 hC fg_X12_152 (by decide +kernel : decode cX12_isSign 9 = .ok (.getfield 152, 3)) hU ho (by decide) rfl rfl ?_
  refine pr_iload_n hC (by decide +kernel : decode cX12_isSign 12 = .ok (.iload_n 1, 1)) rfl ?_
  refine pr_icmp_ne hC 20 (by decide +kernel : decode cX12_isSign 13 = .ok (.if_icmp .ne 7, 3)) (by decide) (fun c_13 => ?_) (fun c_13 => ?_)
  · replace H := H.2 c_13
    refine pr_iconst hC (0) (by decide +kernel : decode cX12_isSign 20 = .ok (.iconst 0, 1)) rfl ?_
    exact pv_zret hM (by decide +kernel : decode cX12_isSign 21 = .ok (.ireturn, 1)) (Or.inl rfl) hU H
  replace H := H.1 c_13
  refine pr_iconst hC (1) (by decide +kernel : decode cX12_isSign 16 = .ok (.iconst 1, 1)) rfl ?_
  refine pr_goto hC 21 (by decide +kernel : decode cX12_isSign 17 = .ok (.goto 4, 3)) (by decide) ?_
  exact pv_zret hM (by decide +kernel : decode cX12_isSign 21 = .ok (.ireturn, 1)) (Or.inr rfl) hU H
def w_X12_readNumber (o : Nat) (a1 : Int32) (a2 : Int32) (U : Um) (post : Int32 → Um → Prop) : Prop :=
  (∀ K_1 : Prop, ((w_X12_fails o 1 U (fun r_3 U_2 => (r_3 = 0 ∨ r_3 = 1) ∧ post r_3 U_2)) → K_1 ) → ((uI U o 22) = 2 → (((uI U o 24) - (uI U o 23)) ≤ 4 → w_X12_isIn (Int32.toInt64 (uI U o 26)) (Int32.toInt64 a1) (Int32.toInt64 a2) U (fun r_5 U_4 => (r_5 = 0 → w_X12_fails o 2 U_4 (fun r_7 U_6 => (r_7 = 0 ∨ r_7 = 1) ∧ post r_7 U_6)) ∧ (¬ r_5 = 0 → ∀ (U_8 : Um), U_8 = sI U_4 o 28 (uI U_4 o 26) → w_X12_next o U_8 (fun U_9 => post 1 U_9)))) ∧ (¬ ((uI U o 24) - (uI U o 23)) ≤ 4 → K_1)) ∧ (¬ (uI U o 22) = 2 → K_1))
set_option maxHeartbeats 4000000 in
theorem t_X12_readNumber {l : Launch} {Y : px_Y} {o : Nat} {a1 : Int32} {a2 : Int32} {U : Um} {post : Int32 → Um → Prop} (ho : oc o = 10) (H : w_X12_readNumber o a1 a2 U post) : um l Y 2 yX12_readNumber cX12_readNumber 3 (some (.boolean)) [.ref (Y.2.1 o), .int a1, .int a2] U (pq_i post) := by
  unfold w_X12_readNumber at H
  refine um_of (by decide) (Nat.le_of_ble_eq_true rfl) [some (.ref (Y.2.1 o)), some (.int a1), some (.int a2)] rfl (fun X h0 hh sz hM hU => ?_)
  have hC := hM.1
  have hR := hM.2.2.1
  refine pr_aload_n hC (by decide +kernel : decode cX12_readNumber 0 = .ok (.aload_n 0, 1)) rfl ?_
  refine pu_g0 hC fg_X12_155 (by decide +kernel : decode cX12_readNumber 1 = .ok (.getfield 155, 3)) hU ho (by decide) rfl rfl ?_
  refine pr_iconst hC (2) (by decide +kernel : decode cX12_readNumber 4 = .ok (.iconst 2, 1)) rfl ?_
  replace H := H (pw X Y.1 (pm_A hh sz) (pm_E X Y.1 hh sz 0 0 (pm_P Y h0 sz (pq_i post))) 21 [some (.ref (Y.2.1 o)), none, none] [] hh sz 0 0) (by
    intro  H
    refine pr_aload_n hC (by decide +kernel : decode cX12_readNumber 21 = .ok (.aload_n 0, 1)) rfl ?_
    refine pr_iconst hC (1) (by decide +kernel : decode cX12_readNumber 22 = .ok (.iconst 1, 1)) rfl ?_
    refine vc_Vi hC hR [.int 1] fv_X12_238 (by decide +kernel : decode cX12_readNumber 23 = .ok (.invokevirtual 238, 3)) hU (t_X12_fails ho H) ho (by decide) rfl rfl rfl (Nat.le_of_ble_eq_true rfl) (Nat.le_of_ble_eq_true rfl) (Nat.le_refl 0) (Nat.le_refl 0) (fun r_3 U_2 h H hU => ?_)
    exact pv_zret hM (by decide +kernel : decode cX12_readNumber 26 = .ok (.ireturn, 1)) H.1 hU H.2)
  refine pr_icmp_ne hC 21 (by decide +kernel : decode cX12_readNumber 5 = .ok (.if_icmp .ne 16, 3)) (by decide) (fun c_5 => ?_) (fun c_5 => ?_)
  · replace H := H.2 c_5
    exact pv_sub [some (.ref (Y.2.1 o)), none, none] (And.intro rfl trivial) (H )
  replace H := H.1 c_5
  refine pr_aload_n hC (by decide +kernel : decode cX12_readNumber 8 = .ok (.aload_n 0, 1)) rfl ?_
  refine pu_g0 hC fg_X12_135 (by decide +kernel : decode cX12_readNumber 9 = .ok (.getfield 135, 3)) hU ho (by decide) rfl rfl ?_
  refine pr_aload_n hC (by decide +kernel : decode cX12_readNumber 12 = .ok (.aload_n 0, 1)) rfl ?_
  refine pu_g0 hC fg_X12_142 (by decide +kernel : decode cX12_readNumber 13 = .ok (.getfield 142, 3)) hU ho (by decide) rfl rfl ?_
  refine pr_isub hC (by decide +kernel : decode cX12_readNumber 16 = .ok (.isub, 1)) ?_
  refine pr_iconst hC (4) (by decide +kernel : decode cX12_readNumber 17 = .ok (.iconst 4, 1)) rfl ?_
  refine pr_icmp_le hC 27 (by decide +kernel : decode cX12_readNumber 18 = .ok (.if_icmp .le 9, 3)) (by decide) (fun c_18 => ?_) (fun c_18 => ?_)
  · replace H := H.1 c_18
    refine pr_aload_n hC (by decide +kernel : decode cX12_readNumber 27 = .ok (.aload_n 0, 1)) rfl ?_
    refine pu_g0 hC fg_X12_149 (by decide +kernel : decode cX12_readNumber 28 = .ok (.getfield 149, 3)) hU ho (by decide) rfl rfl ?_
    refine pr_i2l hC (by decide +kernel : decode cX12_readNumber 31 = .ok (.i2l, 1)) ?_
    refine pr_iload_n hC (by decide +kernel : decode cX12_readNumber 32 = .ok (.iload_n 1, 1)) rfl ?_
    refine pr_i2l hC (by decide +kernel : decode cX12_readNumber 33 = .ok (.i2l, 1)) ?_
    refine pr_iload_n hC (by decide +kernel : decode cX12_readNumber 34 = .ok (.iload_n 2, 1)) rfl ?_
    refine pr_i2l hC (by decide +kernel : decode cX12_readNumber 35 = .ok (.i2l, 1)) ?_
    refine vc_Si hC hR [.long (Int32.toInt64 (uI U o 26)), .long (Int32.toInt64 a1), .long (Int32.toInt64 a2)] fv_X12_131 (by decide +kernel : decode cX12_readNumber 36 = .ok (.invokestatic 131, 3)) hU (t_X12_isIn  H) rfl rfl (Nat.le_of_ble_eq_true rfl) (Nat.le_of_ble_eq_true rfl) (Nat.le_refl 0) (Nat.le_refl 0) (fun r_5 U_4 h H hU => ?_)
    refine pr_if_ne hC 48 (by decide +kernel : decode cX12_readNumber 39 = .ok (.ifCond .ne 9, 3)) (by decide) (fun c_39 => ?_) (fun c_39 => ?_)
    · replace H := H.2 c_39
      refine pr_aload_n hC (by decide +kernel : decode cX12_readNumber 48 = .ok (.aload_n 0, 1)) rfl ?_
      refine pr_aload_n hC (by decide +kernel : decode cX12_readNumber 49 = .ok (.aload_n 0, 1)) rfl ?_
      refine pu_g0 hC fg_X12_149 (by decide +kernel : decode cX12_readNumber 50 = .ok (.getfield 149, 3)) hU ho (by decide) rfl rfl ?_
      refine pv_p0 hC fp_X12_245 (by decide +kernel : decode cX12_readNumber 53 = .ok (.putfield 245, 3)) hU ho (by decide) rfl rfl rfl rfl (fun U_8 h e_U_8 hU => ?_)
      replace H := H U_8 e_U_8
      refine pr_aload_n hC (by decide +kernel : decode cX12_readNumber 56 = .ok (.aload_n 0, 1)) rfl ?_
      refine vc_Vv hC hR [] fv_X12_242 (by decide +kernel : decode cX12_readNumber 57 = .ok (.invokevirtual 242, 3)) hU (t_X12_next ho H) ho (by decide) rfl rfl rfl (Nat.le_of_ble_eq_true rfl) (Nat.le_of_ble_eq_true rfl) (Nat.le_refl 0) (Nat.le_refl 0) (fun U_9 h H hU => ?_)
      refine pr_iconst hC (1) (by decide +kernel : decode cX12_readNumber 60 = .ok (.iconst 1, 1)) rfl ?_
      exact pv_zret hM (by decide +kernel : decode cX12_readNumber 61 = .ok (.ireturn, 1)) (Or.inr rfl) hU H
    replace H := H.1 c_39
    refine pr_aload_n hC (by decide +kernel : decode cX12_readNumber 42 = .ok (.aload_n 0, 1)) rfl ?_
    refine pr_iconst hC (2) (by decide +kernel : decode cX12_readNumber 43 = .ok (.iconst 2, 1)) rfl ?_
    refine vc_Vi hC hR [.int 2] fv_X12_238 (by decide +kernel : decode cX12_readNumber 44 = .ok (.invokevirtual 238, 3)) hU (t_X12_fails ho H) ho (by decide) rfl rfl rfl (Nat.le_of_ble_eq_true rfl) (Nat.le_of_ble_eq_true rfl) (Nat.le_refl 0) (Nat.le_refl 0) (fun r_7 U_6 h H hU => ?_)
    exact pv_zret hM (by decide +kernel : decode cX12_readNumber 47 = .ok (.ireturn, 1)) H.1 hU H.2
  replace H := H.2 c_18
  exact pv_sub [some (.ref (Y.2.1 o)), none, none] (And.intro rfl trivial) (H )
def b_X12_placeOf_L3 (k0 : Nat) (x1 : Int32) (x2 : Int32) (x3 : Int64) (post : Int32 → Um → Prop) (k_29 : Um → Prop) (rec_ : Int32 → Um → Prop) (x5 : Int32) (U : Um) : Prop :=
  (x2 ≤ x5 → k_29 U) ∧ (¬ x2 ≤ x5 → vp_in (x1 + x5) (ln 10 k0) ∧ ((lg_cmp (uJ U 55 k0 (Int32.toNatClampNeg (x1 + x5))) x3) = 0 → post x5 U) ∧ (¬ (lg_cmp (uJ U 55 k0 (Int32.toNatClampNeg (x1 + x5))) x3) = 0 → ∀ (x5_1 : Int32), x5_1 = x5 + 1 → rec_ x5_1 U))
def w_X12_placeOf_L3 (k0 : Nat) (x1 : Int32) (x2 : Int32) (x3 : Int64) (post : Int32 → Um → Prop) (k_29 : Um → Prop) (n_ : Nat) : Int32 → Um → Prop := Nat.rec (motive := fun _ => Int32 → Um → Prop) (fun _ _ => False) (fun _ ih => b_X12_placeOf_L3 k0 x1 x2 x3 post k_29 ih) n_
def w_X12_placeOf (a1 : Nat) (a2 : Int32) (a3 : Int32) (a4 : Int64) (U : Um) (post : Int32 → Um → Prop) : Prop :=
  (∃ n_3, w_X12_placeOf_L3 a1 a2 a3 a4 post (fun U_2 => post (-1) U_2) n_3 0 U)
set_option maxHeartbeats 4000000 in
theorem tl_X12_placeOf_L3 {l : Launch} {Y : px_Y} {X : px_X} {h0 hh : pe_H} {sz : Nat} (k0 : Nat) (x1 : Int32) (x2 : Int32) (x3 : Int64) (post : Int32 → Um → Prop) (k_29 : Um → Prop) (hk0 : kf 10 k0 = 2)  (hC : px_C X Y.1 (pm_A hh sz) cX12_placeOf RX12 6) (hM : px_M l X Y.1 hh sz yX12_placeOf cX12_placeOf 6 (some (.int)) 0 0 0) (hR : X.2.2.2.1 = pm_rm 0 0 0) (hk_29 : ∀ (U : Um) (h : pe_H), k_29 U → rF Y h0 U h → pw X Y.1 (pm_A hh sz) (pm_E X Y.1 hh sz 0 0 (pm_P Y h0 sz (pq_i post))) 29 [none, none, none, none, none, none] [] h sz 0 0) : ∀ (n_ : Nat) (x5 : Int32) (U : Um) (h : pe_H), rF Y h0 U h → w_X12_placeOf_L3 k0 x1 x2 x3 post k_29 n_ x5 U → pw X Y.1 (pm_A hh sz) (pm_E X Y.1 hh sz 0 0 (pm_P Y h0 sz (pq_i post))) 3 [some (.ref (Y.2.2 55 k0)), some (.int x1), some (.int x2), some (.long x3), none, some (.int x5)] [] h sz 0 0 := by
  intro n_
  induction n_ with
  | zero => intro x5 U h hU H; exact False.elim H
  | succ n_ ih =>
    intro x5 U h hU H
    replace H : b_X12_placeOf_L3 k0 x1 x2 x3 post k_29 (w_X12_placeOf_L3 k0 x1 x2 x3 post k_29 n_) x5 U := H
    unfold b_X12_placeOf_L3 at H
    refine pr_iload hC (by decide +kernel : decode cX12_placeOf 3 = .ok (.iload 5, 2)) rfl ?_
    refine pr_iload_n hC (by decide +kernel : decode cX12_placeOf 5 = .ok (.iload_n 2, 1)) rfl ?_
    refine pr_icmp_ge hC 29 (by decide +kernel : decode cX12_placeOf 6 = .ok (.if_icmp .ge 23, 3)) (by decide) (fun c_6 => ?_) (fun c_6 => ?_)
    · replace H := H.1 c_6
      exact pv_sub [none, none, none, none, none, none] (trivial) (hk_29 U h H hU)
    replace H := H.2 c_6
    refine pr_aload_n hC (by decide +kernel : decode cX12_placeOf 9 = .ok (.aload_n 0, 1)) rfl ?_
    refine pr_iload_n hC (by decide +kernel : decode cX12_placeOf 10 = .ok (.iload_n 1, 1)) rfl ?_
    refine pr_iload hC (by decide +kernel : decode cX12_placeOf 11 = .ok (.iload 5, 2)) rfl ?_
    refine pr_iadd hC (by decide +kernel : decode cX12_placeOf 13 = .ok (.iadd, 1)) ?_
    refine pu_lald hC (by decide +kernel : decode cX12_placeOf 14 = .ok (.laload, 1)) hU (rfl : oc 55 = 10) hk0 H.1 ?_
    replace H := H.2
    refine pr_lload_n hC (by decide +kernel : decode cX12_placeOf 15 = .ok (.lload_n 3, 1)) rfl ?_
    refine pr_lcmp hC (by decide +kernel : decode cX12_placeOf 16 = .ok (.lcmp, 1)) ?_
    refine pr_if_ne hC 23 (by decide +kernel : decode cX12_placeOf 17 = .ok (.ifCond .ne 6, 3)) (by decide) (fun c_17 => ?_) (fun c_17 => ?_)
    · replace H := H.2 c_17
      refine pv_iinc hC (v := x5 + 1) (by decide +kernel : decode cX12_placeOf 23 = .ok (.iinc 5 1, 3)) rfl (by decide) rfl rfl (fun x5_1 e_x5_1 => ?_)
      replace H := H x5_1 e_x5_1
      refine pr_goto hC 3 (by decide +kernel : decode cX12_placeOf 26 = .ok (.goto (-23), 3)) (by decide) ?_
      exact pv_sub [some (.ref (Y.2.2 55 k0)), some (.int x1), some (.int x2), some (.long x3), none, some (.int x5_1)] (And.intro rfl (And.intro rfl (And.intro rfl (And.intro rfl (And.intro rfl trivial))))) (ih _ U h hU H)
    replace H := H.1 c_17
    refine pr_iload hC (by decide +kernel : decode cX12_placeOf 20 = .ok (.iload 5, 2)) rfl ?_
    exact pv_iret hM (by decide +kernel : decode cX12_placeOf 22 = .ok (.ireturn, 1)) hU H
set_option maxHeartbeats 4000000 in
theorem t_X12_placeOf {l : Launch} {Y : px_Y} {a1 : Nat} {a2 : Int32} {a3 : Int32} {a4 : Int64} {U : Um} {post : Int32 → Um → Prop} (ha1 : kf 10 a1 = 2) (H : w_X12_placeOf a1 a2 a3 a4 U post) : um l Y 0 yX12_placeOf cX12_placeOf 6 (some (.int)) [.ref (Y.2.2 55 a1), .int a2, .int a3, .long a4] U (pq_i post) := by
  unfold w_X12_placeOf at H
  refine um_of (by decide) (Nat.le_of_ble_eq_true rfl) [some (.ref (Y.2.2 55 a1)), some (.int a2), some (.int a3), some (.long a4), none, none] rfl (fun X h0 hh sz hM hU => ?_)
  have hC := hM.1
  have hR := hM.2.2.1
  refine pr_iconst hC (0) (by decide +kernel : decode cX12_placeOf 0 = .ok (.iconst 0, 1)) rfl ?_
  refine pr_istore hC (by decide +kernel : decode cX12_placeOf 1 = .ok (.istore 5, 2)) (by decide) rfl ?_
  obtain ⟨n_3, H⟩ := H
  refine pv_sub [some (.ref (Y.2.2 55 a1)), some (.int a2), some (.int a3), some (.long a4), none, some (.int 0)] (And.intro rfl (And.intro rfl (And.intro rfl (And.intro rfl (And.intro rfl trivial))))) ?_
  refine tl_X12_placeOf_L3 _ _ _ _ _ _ ha1 hC hM hR (fun U_2 h H hU => ?_) n_3 _ U hh hU H
  refine pr_iconst hC (-1) (by decide +kernel : decode cX12_placeOf 29 = .ok (.iconst (-1), 1)) rfl ?_
  exact pv_iret hM (by decide +kernel : decode cX12_placeOf 30 = .ok (.ireturn, 1)) hU H
def w_X12_isFull (o : Nat) (a1 : Int32) (a2 : Int32) (U : Um) (post : Int32 → Um → Prop) : Prop :=
  vp_in (7 + a1) 14 ∧ (a2 ≤ (uA U o 11 (Int32.toNatClampNeg (7 + a1))) → w_X12_fails o 4 U (fun r_2 U_1 => post 1 U_1)) ∧ (¬ a2 ≤ (uA U o 11 (Int32.toNatClampNeg (7 + a1))) → post 0 U)
set_option maxHeartbeats 4000000 in
theorem t_X12_isFull {l : Launch} {Y : px_Y} {o : Nat} {a1 : Int32} {a2 : Int32} {U : Um} {post : Int32 → Um → Prop} (ho : oc o = 10) (H : w_X12_isFull o a1 a2 U post) : um l Y 1 yX12_isFull cX12_isFull 3 (some (.boolean)) [.ref (Y.2.1 o), .int a1, .int a2] U (pq_i post) := by
  unfold w_X12_isFull at H
  refine um_of (by decide) (Nat.le_of_ble_eq_true rfl) [some (.ref (Y.2.1 o)), some (.int a1), some (.int a2)] rfl (fun X h0 hh sz hM hU => ?_)
  have hC := hM.1
  have hR := hM.2.2.1
  refine pr_aload_n hC (by decide +kernel : decode cX12_isFull 0 = .ok (.aload_n 0, 1)) rfl ?_
  refine pu_g1 hC fg_X12_43 (by decide +kernel : decode cX12_isFull 1 = .ok (.getfield 43, 3)) hU ho (by decide) rfl (by decide) ?_
  refine pr_bipush hC (7) (by decide +kernel : decode cX12_isFull 4 = .ok (.bipush 7, 2)) rfl ?_
  refine pr_iload_n hC (by decide +kernel : decode cX12_isFull 6 = .ok (.iload_n 1, 1)) rfl ?_
  refine pr_iadd hC (by decide +kernel : decode cX12_isFull 7 = .ok (.iadd, 1)) ?_
  refine pu_iald hC (by decide +kernel : decode cX12_isFull 8 = .ok (.iaload, 1)) hU ho rfl H.1 ?_
  replace H := H.2
  refine pr_iload_n hC (by decide +kernel : decode cX12_isFull 9 = .ok (.iload_n 2, 1)) rfl ?_
  refine pr_icmp_ge hC 15 (by decide +kernel : decode cX12_isFull 10 = .ok (.if_icmp .ge 5, 3)) (by decide) (fun c_10 => ?_) (fun c_10 => ?_)
  · replace H := H.1 c_10
    refine pr_aload_n hC (by decide +kernel : decode cX12_isFull 15 = .ok (.aload_n 0, 1)) rfl ?_
    refine pr_iconst hC (4) (by decide +kernel : decode cX12_isFull 16 = .ok (.iconst 4, 1)) rfl ?_
    refine vc_Vi hC hR [.int 4] fv_X12_238 (by decide +kernel : decode cX12_isFull 17 = .ok (.invokevirtual 238, 3)) hU (t_X12_fails ho H) ho (by decide) rfl rfl rfl (Nat.le_of_ble_eq_true rfl) (Nat.le_of_ble_eq_true rfl) (Nat.le_refl 0) (Nat.le_refl 0) (fun r_2 U_1 h H hU => ?_)
    refine pr_pop hC (by decide +kernel : decode cX12_isFull 20 = .ok (.pop, 1)) rfl ?_
    refine pr_iconst hC (1) (by decide +kernel : decode cX12_isFull 21 = .ok (.iconst 1, 1)) rfl ?_
    exact pv_zret hM (by decide +kernel : decode cX12_isFull 22 = .ok (.ireturn, 1)) (Or.inr rfl) hU H
  replace H := H.2 c_10
  refine pr_iconst hC (0) (by decide +kernel : decode cX12_isFull 13 = .ok (.iconst 0, 1)) rfl ?_
  exact pv_zret hM (by decide +kernel : decode cX12_isFull 14 = .ok (.ireturn, 1)) (Or.inl rfl) hU H
def w_X12_readKept (o : Nat) (a1 : Int32) (a2 : Int32) (a3 : Int32) (U : Um) (post : Int32 → Um → Prop) : Prop :=
  w_X12_next o U (fun U_1 => w_X12_readNumber o a2 a3 U_1 (fun r_4 U_3 => (r_4 = 0 → post 0 U_3) ∧ (¬ r_4 = 0 → vp_in (7 + a1) 14 ∧ ∀ (U_5 : Um), U_5 = sA U_3 o 11 (va_up (uA U_3 o 11) (Int32.toNatClampNeg (7 + a1)) (uI U_3 o 28)) → post 1 U_5)))
set_option maxHeartbeats 4000000 in
theorem t_X12_readKept {l : Launch} {Y : px_Y} {o : Nat} {a1 : Int32} {a2 : Int32} {a3 : Int32} {U : Um} {post : Int32 → Um → Prop} (ho : oc o = 10) (H : w_X12_readKept o a1 a2 a3 U post) : um l Y 3 yX12_readKept cX12_readKept 4 (some (.boolean)) [.ref (Y.2.1 o), .int a1, .int a2, .int a3] U (pq_i post) := by
  unfold w_X12_readKept at H
  refine um_of (by decide) (Nat.le_of_ble_eq_true rfl) [some (.ref (Y.2.1 o)), some (.int a1), some (.int a2), some (.int a3)] rfl (fun X h0 hh sz hM hU => ?_)
  have hC := hM.1
  have hR := hM.2.2.1
  refine pr_aload_n hC (by decide +kernel : decode cX12_readKept 0 = .ok (.aload_n 0, 1)) rfl ?_
  refine vc_Vv hC hR [] fv_X12_242 (by decide +kernel : decode cX12_readKept 1 = .ok (.invokevirtual 242, 3)) hU (t_X12_next ho H) ho (by decide) rfl rfl rfl (Nat.le_of_ble_eq_true rfl) (Nat.le_of_ble_eq_true rfl) (Nat.le_refl 0) (Nat.le_refl 0) (fun U_1 h H hU => ?_)
  refine pr_aload_n hC (by decide +kernel : decode cX12_readKept 4 = .ok (.aload_n 0, 1)) rfl ?_
  refine pr_iload_n hC (by decide +kernel : decode cX12_readKept 5 = .ok (.iload_n 2, 1)) rfl ?_
  refine pr_iload_n hC (by decide +kernel : decode cX12_readKept 6 = .ok (.iload_n 3, 1)) rfl ?_
  refine vc_Vi hC hR [.int a2, .int a3] fv_X12_251 (by decide +kernel : decode cX12_readKept 7 = .ok (.invokevirtual 251, 3)) hU (t_X12_readNumber ho H) ho (by decide) rfl rfl rfl (Nat.le_of_ble_eq_true rfl) (Nat.le_of_ble_eq_true rfl) (Nat.le_refl 0) (Nat.le_refl 0) (fun r_4 U_3 h H hU => ?_)
  refine pr_if_ne hC 15 (by decide +kernel : decode cX12_readKept 10 = .ok (.ifCond .ne 5, 3)) (by decide) (fun c_10 => ?_) (fun c_10 => ?_)
  · replace H := H.2 c_10
    refine pr_aload_n hC (by decide +kernel : decode cX12_readKept 15 = .ok (.aload_n 0, 1)) rfl ?_
    refine pu_g1 hC fg_X12_43 (by decide +kernel : decode cX12_readKept 16 = .ok (.getfield 43, 3)) hU ho (by decide) rfl (by decide) ?_
    refine pr_bipush hC (7) (by decide +kernel : decode cX12_readKept 19 = .ok (.bipush 7, 2)) rfl ?_
    refine pr_iload_n hC (by decide +kernel : decode cX12_readKept 21 = .ok (.iload_n 1, 1)) rfl ?_
    refine pr_iadd hC (by decide +kernel : decode cX12_readKept 22 = .ok (.iadd, 1)) ?_
    refine pr_aload_n hC (by decide +kernel : decode cX12_readKept 23 = .ok (.aload_n 0, 1)) rfl ?_
    refine pu_g0 hC fg_X12_245 (by decide +kernel : decode cX12_readKept 24 = .ok (.getfield 245, 3)) hU ho (by decide) rfl rfl ?_
    refine pv_iast hC (by decide +kernel : decode cX12_readKept 27 = .ok (.iastore, 1)) hU ho rfl H.1 (fun U_5 h e_U_5 hU => ?_)
    replace H := H.2 U_5 e_U_5
    refine pr_iconst hC (1) (by decide +kernel : decode cX12_readKept 28 = .ok (.iconst 1, 1)) rfl ?_
    exact pv_zret hM (by decide +kernel : decode cX12_readKept 29 = .ok (.ireturn, 1)) (Or.inr rfl) hU H
  replace H := H.1 c_10
  refine pr_iconst hC (0) (by decide +kernel : decode cX12_readKept 13 = .ok (.iconst 0, 1)) rfl ?_
  exact pv_zret hM (by decide +kernel : decode cX12_readKept 14 = .ok (.ireturn, 1)) (Or.inl rfl) hU H
def w_X12_puts (o : Nat) (a1 : Int32) (a2 : Int32) (U : Um) (post : Um → Prop) : Prop :=
  vp_in (1300 + (uI U o 15)) 2600 ∧ ∀ (U_1 : Um), U_1 = sA U o 13 (va_up (uA U o 13) (Int32.toNatClampNeg (1300 + (uI U o 15))) a1) → vp_in (1300 + (uI U_1 o 15)) 2600 ∧ ∀ (U_2 : Um), U_2 = sA U_1 o 12 (va_up (uA U_1 o 12) (Int32.toNatClampNeg (1300 + (uI U_1 o 15))) a2) → ∀ (U_3 : Um), U_3 = sI U_2 o 15 ((uI U_2 o 15) + 1) → post U_3
set_option maxHeartbeats 4000000 in
theorem t_X12_puts {l : Launch} {Y : px_Y} {o : Nat} {a1 : Int32} {a2 : Int32} {U : Um} {post : Um → Prop} (ho : oc o = 10) (H : w_X12_puts o a1 a2 U post) : um l Y 0 yX12_puts cX12_puts 3 none [.ref (Y.2.1 o), .int a1, .int a2] U (pq_v post) := by
  unfold w_X12_puts at H
  refine um_of (by decide) (Nat.le_of_ble_eq_true rfl) [some (.ref (Y.2.1 o)), some (.int a1), some (.int a2)] rfl (fun X h0 hh sz hM hU => ?_)
  have hC := hM.1
  have hR := hM.2.2.1
  refine pr_aload_n hC (by decide +kernel : decode cX12_puts 0 = .ok (.aload_n 0, 1)) rfl ?_
  refine pu_g1 hC fg_X12_49 (by decide +kernel : decode cX12_puts 1 = .ok (.getfield 49, 3)) hU ho (by decide) rfl (by decide) ?_
  refine pr_sipush hC (1300) (by decide +kernel : decode cX12_puts 4 = .ok (.sipush 1300, 3)) rfl ?_
  refine pr_aload_n hC (by decide +kernel : decode cX12_puts 7 = .ok (.aload_n 0, 1)) rfl ?_
  refine pu_g0 hC fg_X12_278 (by decide +kernel : decode cX12_puts 8 = .ok (.getfield 278, 3)) hU ho (by decide) rfl rfl ?_
  refine pr_iadd hC (by decide +kernel : decode cX12_puts 11 = .ok (.iadd, 1)) ?_
  refine pr_iload_n hC (by decide +kernel : decode cX12_puts 12 = .ok (.iload_n 1, 1)) rfl ?_
  refine pv_iast hC (by decide +kernel : decode cX12_puts 13 = .ok (.iastore, 1)) hU ho rfl H.1 (fun U_1 h e_U_1 hU => ?_)
  replace H := H.2 U_1 e_U_1
  refine pr_aload_n hC (by decide +kernel : decode cX12_puts 14 = .ok (.aload_n 0, 1)) rfl ?_
  refine pu_g1 hC fg_X12_46 (by decide +kernel : decode cX12_puts 15 = .ok (.getfield 46, 3)) hU ho (by decide) rfl (by decide) ?_
  refine pr_sipush hC (1300) (by decide +kernel : decode cX12_puts 18 = .ok (.sipush 1300, 3)) rfl ?_
  refine pr_aload_n hC (by decide +kernel : decode cX12_puts 21 = .ok (.aload_n 0, 1)) rfl ?_
  refine pu_g0 hC fg_X12_278 (by decide +kernel : decode cX12_puts 22 = .ok (.getfield 278, 3)) hU ho (by decide) rfl rfl ?_
  refine pr_iadd hC (by decide +kernel : decode cX12_puts 25 = .ok (.iadd, 1)) ?_
  refine pr_iload_n hC (by decide +kernel : decode cX12_puts 26 = .ok (.iload_n 2, 1)) rfl ?_
  refine pv_iast hC (by decide +kernel : decode cX12_puts 27 = .ok (.iastore, 1)) hU ho rfl H.1 (fun U_2 h e_U_2 hU => ?_)
  replace H := H.2 U_2 e_U_2
  refine pr_aload_n hC (by decide +kernel : decode cX12_puts 28 = .ok (.aload_n 0, 1)) rfl ?_
  refine pr_dup hC (by decide +kernel : decode cX12_puts 29 = .ok (.dup, 1)) rfl ?_
  refine pu_g0 hC fg_X12_278 (by decide +kernel : decode cX12_puts 30 = .ok (.getfield 278, 3)) hU ho (by decide) rfl rfl ?_
  refine pr_iconst hC (1) (by decide +kernel : decode cX12_puts 33 = .ok (.iconst 1, 1)) rfl ?_
  refine pr_iadd hC (by decide +kernel : decode cX12_puts 34 = .ok (.iadd, 1)) ?_
  refine pv_p0 hC fp_X12_278 (by decide +kernel : decode cX12_puts 35 = .ok (.putfield 278, 3)) hU ho (by decide) rfl rfl rfl rfl (fun U_3 h e_U_3 hU => ?_)
  replace H := H U_3 e_U_3
  exact pv_vret hM (by decide +kernel : decode cX12_puts 38 = .ok (.return_, 1)) hU H
def b_X12_readBracket (rec : Nat → Um → (Int32 → Um → Prop) → Prop) (o : Nat) (U : Um) (post : Int32 → Um → Prop) : Prop :=
  w_X12_isSign o 40 U (fun r_2 U_1 => (r_2 = 0 → w_X12_fails o 1 U_1 (fun r_4 U_3 => (r_4 = 0 ∨ r_4 = 1) ∧ post r_4 U_3)) ∧ (¬ r_2 = 0 → ((uI U_1 o 29) = 4 → w_X12_fails o 5 U_1 (fun r_6 U_5 => (r_6 = 0 ∨ r_6 = 1) ∧ post r_6 U_5)) ∧ (¬ (uI U_1 o 29) = 4 → ∀ (U_7 : Um), U_7 = sI U_1 o 29 ((uI U_1 o 29) + 1) → w_X12_next o U_7 (fun U_8 => rec o U_8 (fun r_11 U_10 => (r_11 = 0 → post 0 U_10) ∧ (¬ r_11 = 0 → w_X12_isSign o 41 U_10 (fun r_13 U_12 => (r_13 = 0 → w_X12_fails o 1 U_12 (fun r_15 U_14 => (r_15 = 0 ∨ r_15 = 1) ∧ post r_15 U_14)) ∧ (¬ r_13 = 0 → ∀ (U_16 : Um), U_16 = sI U_12 o 29 ((uI U_12 o 29) - 1) → w_X12_next o U_16 (fun U_17 => post 1 U_17)))))))))
set_option maxHeartbeats 4000000 in
theorem tb_X12_readBracket {l : Launch} {Y : px_Y} {dd : Nat} {rec : Nat → Um → (Int32 → Um → Prop) → Prop} (hrec : ∀ (l : Launch) (o : Nat) (U : Um) (post : Int32 → Um → Prop), oc o = 10 → rec o U post → um l Y dd yX12_readSum cX12_readSum 2 (some (.boolean)) [.ref (Y.2.1 o)] U (pq_i post)) (hD : 5 ≤ dd) {o : Nat} {U : Um} {post : Int32 → Um → Prop} (ho : oc o = 10) (H : b_X12_readBracket rec o U post) : um l Y (dd + 1) yX12_readBracket cX12_readBracket 1 (some (.boolean)) [.ref (Y.2.1 o)] U (pq_i post) := by
  unfold b_X12_readBracket at H
  refine um_of (by decide) (Nat.le_of_ble_eq_true rfl) [some (.ref (Y.2.1 o))] rfl (fun X h0 hh sz hM hU => ?_)
  have hC := hM.1
  have hR := hM.2.2.1
  refine pr_aload_n hC (by decide +kernel : decode cX12_readBracket 0 = .ok (.aload_n 0, 1)) rfl ?_
  refine pr_bipush hC (40) (by decide +kernel : decode cX12_readBracket 1 = .ok (.bipush 40, 2)) rfl ?_
  refine vc_Vi hC hR [.int 40] fv_X12_290 (by decide +kernel : decode cX12_readBracket 3 = .ok (.invokevirtual 290, 3)) hU (t_X12_isSign ho H) ho (by decide) rfl rfl rfl (Nat.le_of_ble_eq_true rfl) (by omega) (Nat.le_refl 0) (Nat.le_refl 0) (fun r_2 U_1 h H hU => ?_)
  refine pr_if_ne hC 15 (by decide +kernel : decode cX12_readBracket 6 = .ok (.ifCond .ne 9, 3)) (by decide) (fun c_6 => ?_) (fun c_6 => ?_)
  · replace H := H.2 c_6
    refine pr_aload_n hC (by decide +kernel : decode cX12_readBracket 15 = .ok (.aload_n 0, 1)) rfl ?_
    refine pu_g0 hC fg_X12_281 (by decide +kernel : decode cX12_readBracket 16 = .ok (.getfield 281, 3)) hU ho (by decide) rfl rfl ?_
    refine pr_iconst hC (4) (by decide +kernel : decode cX12_readBracket 19 = .ok (.iconst 4, 1)) rfl ?_
    refine pr_icmp_ne hC 29 (by decide +kernel : decode cX12_readBracket 20 = .ok (.if_icmp .ne 9, 3)) (by decide) (fun c_20 => ?_) (fun c_20 => ?_)
    · replace H := H.2 c_20
      refine pr_aload_n hC (by decide +kernel : decode cX12_readBracket 29 = .ok (.aload_n 0, 1)) rfl ?_
      refine pr_dup hC (by decide +kernel : decode cX12_readBracket 30 = .ok (.dup, 1)) rfl ?_
      refine pu_g0 hC fg_X12_281 (by decide +kernel : decode cX12_readBracket 31 = .ok (.getfield 281, 3)) hU ho (by decide) rfl rfl ?_
      refine pr_iconst hC (1) (by decide +kernel : decode cX12_readBracket 34 = .ok (.iconst 1, 1)) rfl ?_
      refine pr_iadd hC (by decide +kernel : decode cX12_readBracket 35 = .ok (.iadd, 1)) ?_
      refine pv_p0 hC fp_X12_281 (by decide +kernel : decode cX12_readBracket 36 = .ok (.putfield 281, 3)) hU ho (by decide) rfl rfl rfl rfl (fun U_7 h e_U_7 hU => ?_)
      replace H := H U_7 e_U_7
      refine pr_aload_n hC (by decide +kernel : decode cX12_readBracket 39 = .ok (.aload_n 0, 1)) rfl ?_
      refine vc_Vv hC hR [] fv_X12_242 (by decide +kernel : decode cX12_readBracket 40 = .ok (.invokevirtual 242, 3)) hU (t_X12_next ho H) ho (by decide) rfl rfl rfl (Nat.le_of_ble_eq_true rfl) (by omega) (Nat.le_refl 0) (Nat.le_refl 0) (fun U_8 h H hU => ?_)
      refine pr_aload_n hC (by decide +kernel : decode cX12_readBracket 43 = .ok (.aload_n 0, 1)) rfl ?_
      refine vc_Vi hC hR [] fv_X12_284 (by decide +kernel : decode cX12_readBracket 44 = .ok (.invokevirtual 284, 3)) hU (hrec _ _ _ _ ho H) ho (by decide) rfl rfl rfl (Nat.le_of_ble_eq_true rfl) (by omega) (Nat.le_refl 0) (Nat.le_refl 0) (fun r_11 U_10 h H hU => ?_)
      refine pr_if_ne hC 52 (by decide +kernel : decode cX12_readBracket 47 = .ok (.ifCond .ne 5, 3)) (by decide) (fun c_47 => ?_) (fun c_47 => ?_)
      · replace H := H.2 c_47
        refine pr_aload_n hC (by decide +kernel : decode cX12_readBracket 52 = .ok (.aload_n 0, 1)) rfl ?_
        refine pr_bipush hC (41) (by decide +kernel : decode cX12_readBracket 53 = .ok (.bipush 41, 2)) rfl ?_
        refine vc_Vi hC hR [.int 41] fv_X12_290 (by decide +kernel : decode cX12_readBracket 55 = .ok (.invokevirtual 290, 3)) hU (t_X12_isSign ho H) ho (by decide) rfl rfl rfl (Nat.le_of_ble_eq_true rfl) (by omega) (Nat.le_refl 0) (Nat.le_refl 0) (fun r_13 U_12 h H hU => ?_)
        refine pr_if_ne hC 67 (by decide +kernel : decode cX12_readBracket 58 = .ok (.ifCond .ne 9, 3)) (by decide) (fun c_58 => ?_) (fun c_58 => ?_)
        · replace H := H.2 c_58
          refine pr_aload_n hC (by decide +kernel : decode cX12_readBracket 67 = .ok (.aload_n 0, 1)) rfl ?_
          refine pr_dup hC (by decide +kernel : decode cX12_readBracket 68 = .ok (.dup, 1)) rfl ?_
          refine pu_g0 hC fg_X12_281 (by decide +kernel : decode cX12_readBracket 69 = .ok (.getfield 281, 3)) hU ho (by decide) rfl rfl ?_
          refine pr_iconst hC (1) (by decide +kernel : decode cX12_readBracket 72 = .ok (.iconst 1, 1)) rfl ?_
          refine pr_isub hC (by decide +kernel : decode cX12_readBracket 73 = .ok (.isub, 1)) ?_
          refine pv_p0 hC fp_X12_281 (by decide +kernel : decode cX12_readBracket 74 = .ok (.putfield 281, 3)) hU ho (by decide) rfl rfl rfl rfl (fun U_16 h e_U_16 hU => ?_)
          replace H := H U_16 e_U_16
          refine pr_aload_n hC (by decide +kernel : decode cX12_readBracket 77 = .ok (.aload_n 0, 1)) rfl ?_
          refine vc_Vv hC hR [] fv_X12_242 (by decide +kernel : decode cX12_readBracket 78 = .ok (.invokevirtual 242, 3)) hU (t_X12_next ho H) ho (by decide) rfl rfl rfl (Nat.le_of_ble_eq_true rfl) (by omega) (Nat.le_refl 0) (Nat.le_refl 0) (fun U_17 h H hU => ?_)
          refine pr_iconst hC (1) (by decide +kernel : decode cX12_readBracket 81 = .ok (.iconst 1, 1)) rfl ?_
          exact pv_zret hM (by decide +kernel : decode cX12_readBracket 82 = .ok (.ireturn, 1)) (Or.inr rfl) hU H
        replace H := H.1 c_58
        refine pr_aload_n hC (by decide +kernel : decode cX12_readBracket 61 = .ok (.aload_n 0, 1)) rfl ?_
        refine pr_iconst hC (1) (by decide +kernel : decode cX12_readBracket 62 = .ok (.iconst 1, 1)) rfl ?_
        refine vc_Vi hC hR [.int 1] fv_X12_238 (by decide +kernel : decode cX12_readBracket 63 = .ok (.invokevirtual 238, 3)) hU (t_X12_fails ho H) ho (by decide) rfl rfl rfl (Nat.le_of_ble_eq_true rfl) (by omega) (Nat.le_refl 0) (Nat.le_refl 0) (fun r_15 U_14 h H hU => ?_)
        exact pv_zret hM (by decide +kernel : decode cX12_readBracket 66 = .ok (.ireturn, 1)) H.1 hU H.2
      replace H := H.1 c_47
      refine pr_iconst hC (0) (by decide +kernel : decode cX12_readBracket 50 = .ok (.iconst 0, 1)) rfl ?_
      exact pv_zret hM (by decide +kernel : decode cX12_readBracket 51 = .ok (.ireturn, 1)) (Or.inl rfl) hU H
    replace H := H.1 c_20
    refine pr_aload_n hC (by decide +kernel : decode cX12_readBracket 23 = .ok (.aload_n 0, 1)) rfl ?_
    refine pr_iconst hC (5) (by decide +kernel : decode cX12_readBracket 24 = .ok (.iconst 5, 1)) rfl ?_
    refine vc_Vi hC hR [.int 5] fv_X12_238 (by decide +kernel : decode cX12_readBracket 25 = .ok (.invokevirtual 238, 3)) hU (t_X12_fails ho H) ho (by decide) rfl rfl rfl (Nat.le_of_ble_eq_true rfl) (by omega) (Nat.le_refl 0) (Nat.le_refl 0) (fun r_6 U_5 h H hU => ?_)
    exact pv_zret hM (by decide +kernel : decode cX12_readBracket 28 = .ok (.ireturn, 1)) H.1 hU H.2
  replace H := H.1 c_6
  refine pr_aload_n hC (by decide +kernel : decode cX12_readBracket 9 = .ok (.aload_n 0, 1)) rfl ?_
  refine pr_iconst hC (1) (by decide +kernel : decode cX12_readBracket 10 = .ok (.iconst 1, 1)) rfl ?_
  refine vc_Vi hC hR [.int 1] fv_X12_238 (by decide +kernel : decode cX12_readBracket 11 = .ok (.invokevirtual 238, 3)) hU (t_X12_fails ho H) ho (by decide) rfl rfl rfl (Nat.le_of_ble_eq_true rfl) (by omega) (Nat.le_refl 0) (Nat.le_refl 0) (fun r_4 U_3 h H hU => ?_)
  exact pv_zret hM (by decide +kernel : decode cX12_readBracket 14 = .ok (.ireturn, 1)) H.1 hU H.2
def b_X12_readTerm_L9 (rec : Nat → Um → (Int32 → Um → Prop) → Prop) (o0 : Nat) (post : Int32 → Um → Prop) (k_54 : Um → Prop) (rec_ : Um → Prop)  (U : Um) : Prop :=
  w_X12_isSign o0 42 U (fun r_4 U_3 => (∀ K_5 : Um → Prop, (∀ (U_6 : Um), (∀ (x1_7 : Int32), x1_7 = uI U_6 o0 27 → w_X12_next o0 U_6 (fun U_8 => b_X12_readAtom rec o0 U_8 (fun r_11 U_10 => (r_11 = 0 → post 0 U_10) ∧ (¬ r_11 = 0 → w_X12_puts o0 x1_7 0 U_10 (fun U_12 => rec_ U_12))))) → K_5 U_6) → (r_4 = 0 → w_X12_isSign o0 47 U_3 (fun r_15 U_14 => (r_15 = 0 → k_54 U_14) ∧ (¬ r_15 = 0 → K_5 U_14))) ∧ (¬ r_4 = 0 → K_5 U_3)))
def w_X12_readTerm_L9 (rec : Nat → Um → (Int32 → Um → Prop) → Prop) (o0 : Nat) (post : Int32 → Um → Prop) (k_54 : Um → Prop) (n_ : Nat) : Um → Prop := Nat.rec (motive := fun _ => Um → Prop) (fun _ => False) (fun _ ih => b_X12_readTerm_L9 rec o0 post k_54 ih) n_
def b_X12_readTerm (rec : Nat → Um → (Int32 → Um → Prop) → Prop) (o : Nat) (U : Um) (post : Int32 → Um → Prop) : Prop :=
  b_X12_readAtom rec o U (fun r_2 U_1 => (r_2 = 0 → post 0 U_1) ∧ (¬ r_2 = 0 → (∃ n_17, w_X12_readTerm_L9 rec o post (fun U_16 => post 1 U_16) n_17  U_1)))
set_option maxHeartbeats 4000000 in
theorem tl_X12_readTerm_L9 {l : Launch} {Y : px_Y} {X : px_X} {h0 hh : pe_H} {sz : Nat} {dd : Nat} (rec : Nat → Um → (Int32 → Um → Prop) → Prop) (o0 : Nat) (post : Int32 → Um → Prop) (k_54 : Um → Prop) (ho0 : oc o0 = 10) (hrec : ∀ (l : Launch) (o : Nat) (U : Um) (post : Int32 → Um → Prop), oc o = 10 → rec o U post → um l Y dd yX12_readSum cX12_readSum 2 (some (.boolean)) [.ref (Y.2.1 o)] U (pq_i post)) (hD : 5 ≤ dd) (hC : px_C X Y.1 (pm_A hh sz) cX12_readTerm RX12 2) (hM : px_M l X Y.1 hh sz yX12_readTerm cX12_readTerm 2 (some (.boolean)) (dd + 3) 0 0) (hR : X.2.2.2.1 = pm_rm (dd + 3) 0 0) (hk_54 : ∀ (U : Um) (h : pe_H), k_54 U → rF Y h0 U h → pw X Y.1 (pm_A hh sz) (pm_E X Y.1 hh sz 0 0 (pm_P Y h0 sz (pq_i post))) 54 [none, none] [] h sz 0 0) : ∀ (n_ : Nat)  (U : Um) (h : pe_H), rF Y h0 U h → w_X12_readTerm_L9 rec o0 post k_54 n_  U → pw X Y.1 (pm_A hh sz) (pm_E X Y.1 hh sz 0 0 (pm_P Y h0 sz (pq_i post))) 9 [some (.ref (Y.2.1 o0)), none] [] h sz 0 0 := by
  intro n_
  induction n_ with
  | zero => intro  U h hU H; exact False.elim H
  | succ n_ ih =>
    intro  U h hU H
    replace H : b_X12_readTerm_L9 rec o0 post k_54 (w_X12_readTerm_L9 rec o0 post k_54 n_)  U := H
    unfold b_X12_readTerm_L9 at H
    refine pr_aload_n hC (by decide +kernel : decode cX12_readTerm 9 = .ok (.aload_n 0, 1)) rfl ?_
    refine pr_bipush hC (42) (by decide +kernel : decode cX12_readTerm 10 = .ok (.bipush 42, 2)) rfl ?_
    refine vc_Vi hC hR [.int 42] fv_X12_290 (by decide +kernel : decode cX12_readTerm 12 = .ok (.invokevirtual 290, 3)) hU (t_X12_isSign ho0 H) ho0 (by decide) rfl rfl rfl (Nat.le_of_ble_eq_true rfl) (by omega) (Nat.le_refl 0) (Nat.le_refl 0) (fun r_4 U_3 h H hU => ?_)
    replace H := H (fun U_6 => ∀ h : pe_H, rF Y h0 U_6 h → pw X Y.1 (pm_A hh sz) (pm_E X Y.1 hh sz 0 0 (pm_P Y h0 sz (pq_i post))) 27 [some (.ref (Y.2.1 o0)), none] [] h sz 0 0) (by
      intro U_6 H h hU
      refine pr_aload_n hC (by decide +kernel : decode cX12_readTerm 27 = .ok (.aload_n 0, 1)) rfl ?_
      refine pu_g0 hC fg_X12_152 (by decide +kernel : decode cX12_readTerm 28 = .ok (.getfield 152, 3)) hU ho0 (by decide) rfl rfl ?_
      refine pv_topi (fun x1_7 e_x1_7 => ?_)
      replace H := H x1_7 e_x1_7
      refine pr_istore_n hC (by decide +kernel : decode cX12_readTerm 31 = .ok (.istore_n 1, 1)) (by decide) rfl ?_
      refine pr_aload_n hC (by decide +kernel : decode cX12_readTerm 32 = .ok (.aload_n 0, 1)) rfl ?_
      refine vc_Vv hC hR [] fv_X12_242 (by decide +kernel : decode cX12_readTerm 33 = .ok (.invokevirtual 242, 3)) hU (t_X12_next ho0 H) ho0 (by decide) rfl rfl rfl (Nat.le_of_ble_eq_true rfl) (by omega) (Nat.le_refl 0) (Nat.le_refl 0) (fun U_8 h H hU => ?_)
      refine pr_aload_n hC (by decide +kernel : decode cX12_readTerm 36 = .ok (.aload_n 0, 1)) rfl ?_
      refine vc_Vi hC hR [] fv_X12_297 (by decide +kernel : decode cX12_readTerm 37 = .ok (.invokevirtual 297, 3)) hU (tb_X12_readAtom hrec hD ho0 H) ho0 (by decide) rfl rfl rfl (Nat.le_of_ble_eq_true rfl) (by omega) (Nat.le_refl 0) (Nat.le_refl 0) (fun r_11 U_10 h H hU => ?_)
      refine pr_if_ne hC 45 (by decide +kernel : decode cX12_readTerm 40 = .ok (.ifCond .ne 5, 3)) (by decide) (fun c_40 => ?_) (fun c_40 => ?_)
      · replace H := H.2 c_40
        refine pr_aload_n hC (by decide +kernel : decode cX12_readTerm 45 = .ok (.aload_n 0, 1)) rfl ?_
        refine pr_iload_n hC (by decide +kernel : decode cX12_readTerm 46 = .ok (.iload_n 1, 1)) rfl ?_
        refine pr_iconst hC (0) (by decide +kernel : decode cX12_readTerm 47 = .ok (.iconst 0, 1)) rfl ?_
        refine vc_Vv hC hR [.int x1_7, .int 0] fv_X12_293 (by decide +kernel : decode cX12_readTerm 48 = .ok (.invokevirtual 293, 3)) hU (t_X12_puts ho0 H) ho0 (by decide) rfl rfl rfl (Nat.le_of_ble_eq_true rfl) (by omega) (Nat.le_refl 0) (Nat.le_refl 0) (fun U_12 h H hU => ?_)
        refine pr_goto hC 9 (by decide +kernel : decode cX12_readTerm 51 = .ok (.goto (-42), 3)) (by decide) ?_
        exact pv_sub [some (.ref (Y.2.1 o0)), none] (And.intro rfl trivial) (ih U_12 h hU H)
      replace H := H.1 c_40
      refine pr_iconst hC (0) (by decide +kernel : decode cX12_readTerm 43 = .ok (.iconst 0, 1)) rfl ?_
      exact pv_zret hM (by decide +kernel : decode cX12_readTerm 44 = .ok (.ireturn, 1)) (Or.inl rfl) hU H)
    refine pr_if_ne hC 27 (by decide +kernel : decode cX12_readTerm 15 = .ok (.ifCond .ne 12, 3)) (by decide) (fun c_15 => ?_) (fun c_15 => ?_)
    · replace H := H.2 c_15
      exact pv_sub [some (.ref (Y.2.1 o0)), none] (And.intro rfl trivial) (H h hU)
    replace H := H.1 c_15
    refine pr_aload_n hC (by decide +kernel : decode cX12_readTerm 18 = .ok (.aload_n 0, 1)) rfl ?_
    refine pr_bipush hC (47) (by decide +kernel : decode cX12_readTerm 19 = .ok (.bipush 47, 2)) rfl ?_
    refine vc_Vi hC hR [.int 47] fv_X12_290 (by decide +kernel : decode cX12_readTerm 21 = .ok (.invokevirtual 290, 3)) hU (t_X12_isSign ho0 H) ho0 (by decide) rfl rfl rfl (Nat.le_of_ble_eq_true rfl) (by omega) (Nat.le_refl 0) (Nat.le_refl 0) (fun r_15 U_14 h H hU => ?_)
    refine pr_if_eq hC 54 (by decide +kernel : decode cX12_readTerm 24 = .ok (.ifCond .eq 30, 3)) (by decide) (fun c_24 => ?_) (fun c_24 => ?_)
    · replace H := H.1 c_24
      exact pv_sub [none, none] (trivial) (hk_54 U_14 h H hU)
    replace H := H.2 c_24
    exact pv_sub [some (.ref (Y.2.1 o0)), none] (And.intro rfl trivial) (H h hU)
set_option maxHeartbeats 4000000 in
theorem tb_X12_readTerm {l : Launch} {Y : px_Y} {dd : Nat} {rec : Nat → Um → (Int32 → Um → Prop) → Prop} (hrec : ∀ (l : Launch) (o : Nat) (U : Um) (post : Int32 → Um → Prop), oc o = 10 → rec o U post → um l Y dd yX12_readSum cX12_readSum 2 (some (.boolean)) [.ref (Y.2.1 o)] U (pq_i post)) (hD : 5 ≤ dd) {o : Nat} {U : Um} {post : Int32 → Um → Prop} (ho : oc o = 10) (H : b_X12_readTerm rec o U post) : um l Y (dd + 3) yX12_readTerm cX12_readTerm 2 (some (.boolean)) [.ref (Y.2.1 o)] U (pq_i post) := by
  unfold b_X12_readTerm at H
  refine um_of (by decide) (Nat.le_of_ble_eq_true rfl) [some (.ref (Y.2.1 o)), none] rfl (fun X h0 hh sz hM hU => ?_)
  have hC := hM.1
  have hR := hM.2.2.1
  refine pr_aload_n hC (by decide +kernel : decode cX12_readTerm 0 = .ok (.aload_n 0, 1)) rfl ?_
  refine vc_Vi hC hR [] fv_X12_297 (by decide +kernel : decode cX12_readTerm 1 = .ok (.invokevirtual 297, 3)) hU (tb_X12_readAtom hrec hD ho H) ho (by decide) rfl rfl rfl (Nat.le_of_ble_eq_true rfl) (by omega) (Nat.le_refl 0) (Nat.le_refl 0) (fun r_2 U_1 h H hU => ?_)
  refine pr_if_ne hC 9 (by decide +kernel : decode cX12_readTerm 4 = .ok (.ifCond .ne 5, 3)) (by decide) (fun c_4 => ?_) (fun c_4 => ?_)
  · replace H := H.2 c_4
    obtain ⟨n_17, H⟩ := H
    refine pv_sub [some (.ref (Y.2.1 o)), none] (And.intro rfl trivial) ?_
    refine tl_X12_readTerm_L9 _ _ _ _ ho hrec hD hC hM hR (fun U_16 h H hU => ?_) n_17 U_1 h hU H
    refine pr_iconst hC (1) (by decide +kernel : decode cX12_readTerm 54 = .ok (.iconst 1, 1)) rfl ?_
    exact pv_zret hM (by decide +kernel : decode cX12_readTerm 55 = .ok (.ireturn, 1)) (Or.inr rfl) hU H
  replace H := H.1 c_4
  refine pr_iconst hC (0) (by decide +kernel : decode cX12_readTerm 7 = .ok (.iconst 0, 1)) rfl ?_
  exact pv_zret hM (by decide +kernel : decode cX12_readTerm 8 = .ok (.ireturn, 1)) (Or.inl rfl) hU H
def b_X12_readSum_L9 (rec : Nat → Um → (Int32 → Um → Prop) → Prop) (o0 : Nat) (post : Int32 → Um → Prop) (k_54 : Um → Prop) (rec_ : Um → Prop)  (U : Um) : Prop :=
  w_X12_isSign o0 43 U (fun r_4 U_3 => (∀ K_5 : Um → Prop, (∀ (U_6 : Um), (∀ (x1_7 : Int32), x1_7 = uI U_6 o0 27 → w_X12_next o0 U_6 (fun U_8 => b_X12_readTerm rec o0 U_8 (fun r_11 U_10 => (r_11 = 0 → post 0 U_10) ∧ (¬ r_11 = 0 → w_X12_puts o0 x1_7 0 U_10 (fun U_12 => rec_ U_12))))) → K_5 U_6) → (r_4 = 0 → w_X12_isSign o0 45 U_3 (fun r_15 U_14 => (r_15 = 0 → k_54 U_14) ∧ (¬ r_15 = 0 → K_5 U_14))) ∧ (¬ r_4 = 0 → K_5 U_3)))
def w_X12_readSum_L9 (rec : Nat → Um → (Int32 → Um → Prop) → Prop) (o0 : Nat) (post : Int32 → Um → Prop) (k_54 : Um → Prop) (n_ : Nat) : Um → Prop := Nat.rec (motive := fun _ => Um → Prop) (fun _ => False) (fun _ ih => b_X12_readSum_L9 rec o0 post k_54 ih) n_
def b_X12_readSum (rec : Nat → Um → (Int32 → Um → Prop) → Prop) (o : Nat) (U : Um) (post : Int32 → Um → Prop) : Prop :=
  b_X12_readTerm rec o U (fun r_2 U_1 => (r_2 = 0 → post 0 U_1) ∧ (¬ r_2 = 0 → (∃ n_17, w_X12_readSum_L9 rec o post (fun U_16 => post 1 U_16) n_17  U_1)))
def w_X12_readSum (n_ : Nat) : Nat → Um → (Int32 → Um → Prop) → Prop := Nat.rec (motive := fun _ => Nat → Um → (Int32 → Um → Prop) → Prop) (fun _ _ _ => False) (fun _ ih => b_X12_readSum ih) n_
set_option maxHeartbeats 4000000 in
theorem tl_X12_readSum_L9 {l : Launch} {Y : px_Y} {X : px_X} {h0 hh : pe_H} {sz : Nat} {dd : Nat} (rec : Nat → Um → (Int32 → Um → Prop) → Prop) (o0 : Nat) (post : Int32 → Um → Prop) (k_54 : Um → Prop) (ho0 : oc o0 = 10) (hrec : ∀ (l : Launch) (o : Nat) (U : Um) (post : Int32 → Um → Prop), oc o = 10 → rec o U post → um l Y dd yX12_readSum cX12_readSum 2 (some (.boolean)) [.ref (Y.2.1 o)] U (pq_i post)) (hD : 5 ≤ dd) (hC : px_C X Y.1 (pm_A hh sz) cX12_readSum RX12 2) (hM : px_M l X Y.1 hh sz yX12_readSum cX12_readSum 2 (some (.boolean)) (dd + 4) 0 0) (hR : X.2.2.2.1 = pm_rm (dd + 4) 0 0) (hk_54 : ∀ (U : Um) (h : pe_H), k_54 U → rF Y h0 U h → pw X Y.1 (pm_A hh sz) (pm_E X Y.1 hh sz 0 0 (pm_P Y h0 sz (pq_i post))) 54 [none, none] [] h sz 0 0) : ∀ (n_ : Nat)  (U : Um) (h : pe_H), rF Y h0 U h → w_X12_readSum_L9 rec o0 post k_54 n_  U → pw X Y.1 (pm_A hh sz) (pm_E X Y.1 hh sz 0 0 (pm_P Y h0 sz (pq_i post))) 9 [some (.ref (Y.2.1 o0)), none] [] h sz 0 0 := by
  intro n_
  induction n_ with
  | zero => intro  U h hU H; exact False.elim H
  | succ n_ ih =>
    intro  U h hU H
    replace H : b_X12_readSum_L9 rec o0 post k_54 (w_X12_readSum_L9 rec o0 post k_54 n_)  U := H
    unfold b_X12_readSum_L9 at H
    refine pr_aload_n hC (by decide +kernel : decode cX12_readSum 9 = .ok (.aload_n 0, 1)) rfl ?_
    refine pr_bipush hC (43) (by decide +kernel : decode cX12_readSum 10 = .ok (.bipush 43, 2)) rfl ?_
    refine vc_Vi hC hR [.int 43] fv_X12_290 (by decide +kernel : decode cX12_readSum 12 = .ok (.invokevirtual 290, 3)) hU (t_X12_isSign ho0 H) ho0 (by decide) rfl rfl rfl (Nat.le_of_ble_eq_true rfl) (by omega) (Nat.le_refl 0) (Nat.le_refl 0) (fun r_4 U_3 h H hU => ?_)
    replace H := H (fun U_6 => ∀ h : pe_H, rF Y h0 U_6 h → pw X Y.1 (pm_A hh sz) (pm_E X Y.1 hh sz 0 0 (pm_P Y h0 sz (pq_i post))) 27 [some (.ref (Y.2.1 o0)), none] [] h sz 0 0) (by
      intro U_6 H h hU
      refine pr_aload_n hC (by decide +kernel : decode cX12_readSum 27 = .ok (.aload_n 0, 1)) rfl ?_
      refine pu_g0 hC fg_X12_152 (by decide +kernel : decode cX12_readSum 28 = .ok (.getfield 152, 3)) hU ho0 (by decide) rfl rfl ?_
      refine pv_topi (fun x1_7 e_x1_7 => ?_)
      replace H := H x1_7 e_x1_7
      refine pr_istore_n hC (by decide +kernel : decode cX12_readSum 31 = .ok (.istore_n 1, 1)) (by decide) rfl ?_
      refine pr_aload_n hC (by decide +kernel : decode cX12_readSum 32 = .ok (.aload_n 0, 1)) rfl ?_
      refine vc_Vv hC hR [] fv_X12_242 (by decide +kernel : decode cX12_readSum 33 = .ok (.invokevirtual 242, 3)) hU (t_X12_next ho0 H) ho0 (by decide) rfl rfl rfl (Nat.le_of_ble_eq_true rfl) (by omega) (Nat.le_refl 0) (Nat.le_refl 0) (fun U_8 h H hU => ?_)
      refine pr_aload_n hC (by decide +kernel : decode cX12_readSum 36 = .ok (.aload_n 0, 1)) rfl ?_
      refine vc_Vi hC hR [] fv_X12_287 (by decide +kernel : decode cX12_readSum 37 = .ok (.invokevirtual 287, 3)) hU (tb_X12_readTerm hrec hD ho0 H) ho0 (by decide) rfl rfl rfl (Nat.le_of_ble_eq_true rfl) (by omega) (Nat.le_refl 0) (Nat.le_refl 0) (fun r_11 U_10 h H hU => ?_)
      refine pr_if_ne hC 45 (by decide +kernel : decode cX12_readSum 40 = .ok (.ifCond .ne 5, 3)) (by decide) (fun c_40 => ?_) (fun c_40 => ?_)
      · replace H := H.2 c_40
        refine pr_aload_n hC (by decide +kernel : decode cX12_readSum 45 = .ok (.aload_n 0, 1)) rfl ?_
        refine pr_iload_n hC (by decide +kernel : decode cX12_readSum 46 = .ok (.iload_n 1, 1)) rfl ?_
        refine pr_iconst hC (0) (by decide +kernel : decode cX12_readSum 47 = .ok (.iconst 0, 1)) rfl ?_
        refine vc_Vv hC hR [.int x1_7, .int 0] fv_X12_293 (by decide +kernel : decode cX12_readSum 48 = .ok (.invokevirtual 293, 3)) hU (t_X12_puts ho0 H) ho0 (by decide) rfl rfl rfl (Nat.le_of_ble_eq_true rfl) (by omega) (Nat.le_refl 0) (Nat.le_refl 0) (fun U_12 h H hU => ?_)
        refine pr_goto hC 9 (by decide +kernel : decode cX12_readSum 51 = .ok (.goto (-42), 3)) (by decide) ?_
        exact pv_sub [some (.ref (Y.2.1 o0)), none] (And.intro rfl trivial) (ih U_12 h hU H)
      replace H := H.1 c_40
      refine pr_iconst hC (0) (by decide +kernel : decode cX12_readSum 43 = .ok (.iconst 0, 1)) rfl ?_
      exact pv_zret hM (by decide +kernel : decode cX12_readSum 44 = .ok (.ireturn, 1)) (Or.inl rfl) hU H)
    refine pr_if_ne hC 27 (by decide +kernel : decode cX12_readSum 15 = .ok (.ifCond .ne 12, 3)) (by decide) (fun c_15 => ?_) (fun c_15 => ?_)
    · replace H := H.2 c_15
      exact pv_sub [some (.ref (Y.2.1 o0)), none] (And.intro rfl trivial) (H h hU)
    replace H := H.1 c_15
    refine pr_aload_n hC (by decide +kernel : decode cX12_readSum 18 = .ok (.aload_n 0, 1)) rfl ?_
    refine pr_bipush hC (45) (by decide +kernel : decode cX12_readSum 19 = .ok (.bipush 45, 2)) rfl ?_
    refine vc_Vi hC hR [.int 45] fv_X12_290 (by decide +kernel : decode cX12_readSum 21 = .ok (.invokevirtual 290, 3)) hU (t_X12_isSign ho0 H) ho0 (by decide) rfl rfl rfl (Nat.le_of_ble_eq_true rfl) (by omega) (Nat.le_refl 0) (Nat.le_refl 0) (fun r_15 U_14 h H hU => ?_)
    refine pr_if_eq hC 54 (by decide +kernel : decode cX12_readSum 24 = .ok (.ifCond .eq 30, 3)) (by decide) (fun c_24 => ?_) (fun c_24 => ?_)
    · replace H := H.1 c_24
      exact pv_sub [none, none] (trivial) (hk_54 U_14 h H hU)
    replace H := H.2 c_24
    exact pv_sub [some (.ref (Y.2.1 o0)), none] (And.intro rfl trivial) (H h hU)
set_option maxHeartbeats 4000000 in
theorem tb_X12_readSum {l : Launch} {Y : px_Y} {dd : Nat} {rec : Nat → Um → (Int32 → Um → Prop) → Prop} (hrec : ∀ (l : Launch) (o : Nat) (U : Um) (post : Int32 → Um → Prop), oc o = 10 → rec o U post → um l Y dd yX12_readSum cX12_readSum 2 (some (.boolean)) [.ref (Y.2.1 o)] U (pq_i post)) (hD : 5 ≤ dd) {o : Nat} {U : Um} {post : Int32 → Um → Prop} (ho : oc o = 10) (H : b_X12_readSum rec o U post) : um l Y (dd + 4) yX12_readSum cX12_readSum 2 (some (.boolean)) [.ref (Y.2.1 o)] U (pq_i post) := by
  unfold b_X12_readSum at H
  refine um_of (by decide) (Nat.le_of_ble_eq_true rfl) [some (.ref (Y.2.1 o)), none] rfl (fun X h0 hh sz hM hU => ?_)
  have hC := hM.1
  have hR := hM.2.2.1
  refine pr_aload_n hC (by decide +kernel : decode cX12_readSum 0 = .ok (.aload_n 0, 1)) rfl ?_
  refine vc_Vi hC hR [] fv_X12_287 (by decide +kernel : decode cX12_readSum 1 = .ok (.invokevirtual 287, 3)) hU (tb_X12_readTerm hrec hD ho H) ho (by decide) rfl rfl rfl (Nat.le_of_ble_eq_true rfl) (by omega) (Nat.le_refl 0) (Nat.le_refl 0) (fun r_2 U_1 h H hU => ?_)
  refine pr_if_ne hC 9 (by decide +kernel : decode cX12_readSum 4 = .ok (.ifCond .ne 5, 3)) (by decide) (fun c_4 => ?_) (fun c_4 => ?_)
  · replace H := H.2 c_4
    obtain ⟨n_17, H⟩ := H
    refine pv_sub [some (.ref (Y.2.1 o)), none] (And.intro rfl trivial) ?_
    refine tl_X12_readSum_L9 _ _ _ _ ho hrec hD hC hM hR (fun U_16 h H hU => ?_) n_17 U_1 h hU H
    refine pr_iconst hC (1) (by decide +kernel : decode cX12_readSum 54 = .ok (.iconst 1, 1)) rfl ?_
    exact pv_zret hM (by decide +kernel : decode cX12_readSum 55 = .ok (.ireturn, 1)) (Or.inr rfl) hU H
  replace H := H.1 c_4
  refine pr_iconst hC (0) (by decide +kernel : decode cX12_readSum 7 = .ok (.iconst 0, 1)) rfl ?_
  exact pv_zret hM (by decide +kernel : decode cX12_readSum 8 = .ok (.ireturn, 1)) (Or.inl rfl) hU H
theorem tn_X12_readSum {l : Launch} {Y : px_Y} : ∀ (n_ : Nat) (o : Nat) (U : Um) (post : Int32 → Um → Prop), oc o = 10 → w_X12_readSum n_ o U post → um l Y (5 + 4 * n_) yX12_readSum cX12_readSum 2 (some (.boolean)) [.ref (Y.2.1 o)] U (pq_i post)
  | 0 => fun _ _ _ _ H => False.elim H
  | n_ + 1 => fun o U post ho H => tb_X12_readSum (fun _ => tn_X12_readSum n_) (Nat.le_add_right _ _) ho H
theorem t_X12_readSum {l : Launch} {Y : px_Y} (n_ : Nat) {o : Nat} {U : Um} {post : Int32 → Um → Prop} (ho : oc o = 10) (H : w_X12_readSum n_ o U post) : um l Y (5 + 4 * n_) yX12_readSum cX12_readSum 2 (some (.boolean)) [.ref (Y.2.1 o)] U (pq_i post) := tn_X12_readSum n_ _ _ _ ho H
def w_X12_readFee (o : Nat) (U : Um) (post : Int32 → Um → Prop) : Prop :=
  vp_in 13 14 ∧ ((uA U o 11 (Int32.toNatClampNeg 13)) = 1 → w_X12_fails o 4 U (fun r_2 U_1 => (r_2 = 0 ∨ r_2 = 1) ∧ post r_2 U_1)) ∧ (¬ (uA U o 11 (Int32.toNatClampNeg 13)) = 1 → vp_in 13 14 ∧ ∀ (U_3 : Um), U_3 = sA U o 11 (va_up (uA U o 11) (Int32.toNatClampNeg 13) 1) → w_X12_next o U_3 (fun U_4 => ∀ (U_6 : Um), U_6 = sI U_4 o 29 0 → w_X12_readSum 5 o U_6 (fun r_8 U_7 => (r_8 = 0 ∨ r_8 = 1) ∧ post r_8 U_7)))
set_option maxHeartbeats 4000000 in
theorem t_X12_readFee {l : Launch} {Y : px_Y} {o : Nat} {U : Um} {post : Int32 → Um → Prop} (ho : oc o = 10) (H : w_X12_readFee o U post) : um l Y 26 yX12_readFee cX12_readFee 1 (some (.boolean)) [.ref (Y.2.1 o)] U (pq_i post) := by
  unfold w_X12_readFee at H
  refine um_of (by decide) (Nat.le_of_ble_eq_true rfl) [some (.ref (Y.2.1 o))] rfl (fun X h0 hh sz hM hU => ?_)
  have hC := hM.1
  have hR := hM.2.2.1
  refine pr_aload_n hC (by decide +kernel : decode cX12_readFee 0 = .ok (.aload_n 0, 1)) rfl ?_
  refine pu_g1 hC fg_X12_43 (by decide +kernel : decode cX12_readFee 1 = .ok (.getfield 43, 3)) hU ho (by decide) rfl (by decide) ?_
  refine pr_bipush hC (13) (by decide +kernel : decode cX12_readFee 4 = .ok (.bipush 13, 2)) rfl ?_
  refine pu_iald hC (by decide +kernel : decode cX12_readFee 6 = .ok (.iaload, 1)) hU ho rfl H.1 ?_
  replace H := H.2
  refine pr_iconst hC (1) (by decide +kernel : decode cX12_readFee 7 = .ok (.iconst 1, 1)) rfl ?_
  refine pr_icmp_ne hC 17 (by decide +kernel : decode cX12_readFee 8 = .ok (.if_icmp .ne 9, 3)) (by decide) (fun c_8 => ?_) (fun c_8 => ?_)
  · replace H := H.2 c_8
    refine pr_aload_n hC (by decide +kernel : decode cX12_readFee 17 = .ok (.aload_n 0, 1)) rfl ?_
    refine pu_g1 hC fg_X12_43 (by decide +kernel : decode cX12_readFee 18 = .ok (.getfield 43, 3)) hU ho (by decide) rfl (by decide) ?_
    refine pr_bipush hC (13) (by decide +kernel : decode cX12_readFee 21 = .ok (.bipush 13, 2)) rfl ?_
    refine pr_iconst hC (1) (by decide +kernel : decode cX12_readFee 23 = .ok (.iconst 1, 1)) rfl ?_
    refine pv_iast hC (by decide +kernel : decode cX12_readFee 24 = .ok (.iastore, 1)) hU ho rfl H.1 (fun U_3 h e_U_3 hU => ?_)
    replace H := H.2 U_3 e_U_3
    refine pr_aload_n hC (by decide +kernel : decode cX12_readFee 25 = .ok (.aload_n 0, 1)) rfl ?_
    refine vc_Vv hC hR [] fv_X12_242 (by decide +kernel : decode cX12_readFee 26 = .ok (.invokevirtual 242, 3)) hU (t_X12_next ho H) ho (by decide) rfl rfl rfl (Nat.le_of_ble_eq_true rfl) (Nat.le_of_ble_eq_true rfl) (Nat.le_refl 0) (Nat.le_refl 0) (fun U_4 h H hU => ?_)
    refine pr_aload_n hC (by decide +kernel : decode cX12_readFee 29 = .ok (.aload_n 0, 1)) rfl ?_
    refine pr_iconst hC (0) (by decide +kernel : decode cX12_readFee 30 = .ok (.iconst 0, 1)) rfl ?_
    refine pv_p0 hC fp_X12_281 (by decide +kernel : decode cX12_readFee 31 = .ok (.putfield 281, 3)) hU ho (by decide) rfl rfl rfl rfl (fun U_6 h e_U_6 hU => ?_)
    replace H := H U_6 e_U_6
    refine pr_aload_n hC (by decide +kernel : decode cX12_readFee 34 = .ok (.aload_n 0, 1)) rfl ?_
    refine vc_Vi hC hR [] fv_X12_284 (by decide +kernel : decode cX12_readFee 35 = .ok (.invokevirtual 284, 3)) hU (t_X12_readSum 5 ho H) ho (by decide) rfl rfl rfl (Nat.le_of_ble_eq_true rfl) (Nat.le_of_ble_eq_true rfl) (Nat.le_refl 0) (Nat.le_refl 0) (fun r_8 U_7 h H hU => ?_)
    exact pv_zret hM (by decide +kernel : decode cX12_readFee 38 = .ok (.ireturn, 1)) H.1 hU H.2
  replace H := H.1 c_8
  refine pr_aload_n hC (by decide +kernel : decode cX12_readFee 11 = .ok (.aload_n 0, 1)) rfl ?_
  refine pr_iconst hC (4) (by decide +kernel : decode cX12_readFee 12 = .ok (.iconst 4, 1)) rfl ?_
  refine vc_Vi hC hR [.int 4] fv_X12_238 (by decide +kernel : decode cX12_readFee 13 = .ok (.invokevirtual 238, 3)) hU (t_X12_fails ho H) ho (by decide) rfl rfl rfl (Nat.le_of_ble_eq_true rfl) (Nat.le_of_ble_eq_true rfl) (Nat.le_refl 0) (Nat.le_refl 0) (fun r_2 U_1 h H hU => ?_)
  exact pv_zret hM (by decide +kernel : decode cX12_readFee 16 = .ok (.ireturn, 1)) H.1 hU H.2
def b_X12_laysWays_L10 (o0 : Nat) (x1 : Int32) (post : Um → Prop) (k_71 : Um → Prop) (rec_ : Int32 → Um → Prop) (x2 : Int32) (U : Um) : Prop :=
  ((6 : Int32) ≤ x2 → k_71 U) ∧ (¬ (6 : Int32) ≤ x2 → (x1 = x2 → vp_in ((6 * x1) + x2) 36 ∧ ∀ (U_1 : Um), U_1 = sA U o0 3 (va_up (uA U o0 3) (Int32.toNatClampNeg ((6 * x1) + x2)) 0) → ∀ (x2_2 : Int32), x2_2 = x2 + 1 → rec_ x2_2 U_1) ∧ (¬ x1 = x2 → vp_in ((6 * x1) + x2) 72 ∧ ((uA U o0 2 (Int32.toNatClampNeg ((6 * x1) + x2))) ≤ 0 → vp_in ((6 * x1) + x2) 36 ∧ ∀ (U_3 : Um), U_3 = sA U o0 3 (va_up (uA U o0 3) (Int32.toNatClampNeg ((6 * x1) + x2)) (-1)) → ∀ (x2_4 : Int32), x2_4 = x2 + 1 → rec_ x2_4 U_3) ∧ (¬ (uA U o0 2 (Int32.toNatClampNeg ((6 * x1) + x2))) ≤ 0 → vp_in ((6 * x1) + x2) 72 ∧ vp_in ((6 * x1) + x2) 36 ∧ ∀ (U_5 : Um), U_5 = sA U o0 3 (va_up (uA U o0 3) (Int32.toNatClampNeg ((6 * x1) + x2)) (uA U o0 2 (Int32.toNatClampNeg ((6 * x1) + x2)))) → ∀ (x2_6 : Int32), x2_6 = x2 + 1 → rec_ x2_6 U_5)))
def w_X12_laysWays_L10 (o0 : Nat) (x1 : Int32) (post : Um → Prop) (k_71 : Um → Prop) (n_ : Nat) : Int32 → Um → Prop := Nat.rec (motive := fun _ => Int32 → Um → Prop) (fun _ _ => False) (fun _ ih => b_X12_laysWays_L10 o0 x1 post k_71 ih) n_
def b_X12_laysWays_L2 (o0 : Nat) (post : Um → Prop) (k_77 : Um → Prop) (rec_ : Int32 → Um → Prop) (x1 : Int32) (U : Um) : Prop :=
  ((6 : Int32) ≤ x1 → k_77 U) ∧ (¬ (6 : Int32) ≤ x1 → (∃ n_9, w_X12_laysWays_L10 o0 x1 post (fun U_7 => ∀ (x1_8 : Int32), x1_8 = x1 + 1 → rec_ x1_8 U_7) n_9 0 U))
def w_X12_laysWays_L2 (o0 : Nat) (post : Um → Prop) (k_77 : Um → Prop) (n_ : Nat) : Int32 → Um → Prop := Nat.rec (motive := fun _ => Int32 → Um → Prop) (fun _ _ => False) (fun _ ih => b_X12_laysWays_L2 o0 post k_77 ih) n_
def b_X12_laysWays_L95 (o0 : Nat) (x1 : Int32) (x2 : Int32) (post : Um → Prop) (k_195 : Um → Prop) (rec_ : Int32 → Um → Prop) (x3 : Int32) (U : Um) : Prop :=
  ((6 : Int32) ≤ x3 → k_195 U) ∧ (¬ (6 : Int32) ≤ x3 → vp_in ((6 * x2) + x1) 36 ∧ ∀ (x4_11 : Int32), x4_11 = uA U o0 3 (Int32.toNatClampNeg ((6 * x2) + x1)) → vp_in ((6 * x1) + x3) 36 ∧ ∀ (x5_12 : Int32), x5_12 = uA U o0 3 (Int32.toNatClampNeg ((6 * x1) + x3)) → (x4_11 = (-1) → ∀ (x3_13 : Int32), x3_13 = x3 + 1 → rec_ x3_13 U) ∧ (¬ x4_11 = (-1) → (x5_12 = (-1) → ∀ (x3_14 : Int32), x3_14 = x3 + 1 → rec_ x3_14 U) ∧ (¬ x5_12 = (-1) → vp_in ((6 * x2) + x3) 36 ∧ (∀ K_15 : Prop, ((vp_in ((6 * x2) + x3) 36 ∧ ∀ (U_16 : Um), U_16 = sA U o0 3 (va_up (uA U o0 3) (Int32.toNatClampNeg ((6 * x2) + x3)) (x4_11 + x5_12)) → ∀ (x3_17 : Int32), x3_17 = x3 + 1 → rec_ x3_17 U_16) → K_15 ) → ((uA U o0 3 (Int32.toNatClampNeg ((6 * x2) + x3))) = (-1) → K_15) ∧ (¬ (uA U o0 3 (Int32.toNatClampNeg ((6 * x2) + x3))) = (-1) → vp_in ((6 * x2) + x3) 36 ∧ ((uA U o0 3 (Int32.toNatClampNeg ((6 * x2) + x3))) ≤ (x4_11 + x5_12) → ∀ (x3_18 : Int32), x3_18 = x3 + 1 → rec_ x3_18 U) ∧ (¬ (uA U o0 3 (Int32.toNatClampNeg ((6 * x2) + x3))) ≤ (x4_11 + x5_12) → K_15))))))
def w_X12_laysWays_L95 (o0 : Nat) (x1 : Int32) (x2 : Int32) (post : Um → Prop) (k_195 : Um → Prop) (n_ : Nat) : Int32 → Um → Prop := Nat.rec (motive := fun _ => Int32 → Um → Prop) (fun _ _ => False) (fun _ ih => b_X12_laysWays_L95 o0 x1 x2 post k_195 ih) n_
def b_X12_laysWays_L87 (o0 : Nat) (x1 : Int32) (post : Um → Prop) (k_201 : Um → Prop) (rec_ : Int32 → Um → Prop) (x2 : Int32) (U : Um) : Prop :=
  ((6 : Int32) ≤ x2 → k_201 U) ∧ (¬ (6 : Int32) ≤ x2 → (∃ n_21, w_X12_laysWays_L95 o0 x1 x2 post (fun U_19 => ∀ (x2_20 : Int32), x2_20 = x2 + 1 → rec_ x2_20 U_19) n_21 0 U))
def w_X12_laysWays_L87 (o0 : Nat) (x1 : Int32) (post : Um → Prop) (k_201 : Um → Prop) (n_ : Nat) : Int32 → Um → Prop := Nat.rec (motive := fun _ => Int32 → Um → Prop) (fun _ _ => False) (fun _ ih => b_X12_laysWays_L87 o0 x1 post k_201 ih) n_
def b_X12_laysWays_L79 (o0 : Nat) (post : Um → Prop) (k_207 : Um → Prop) (rec_ : Int32 → Um → Prop) (x1 : Int32) (U : Um) : Prop :=
  ((6 : Int32) ≤ x1 → k_207 U) ∧ (¬ (6 : Int32) ≤ x1 → (∃ n_24, w_X12_laysWays_L87 o0 x1 post (fun U_22 => ∀ (x1_23 : Int32), x1_23 = x1 + 1 → rec_ x1_23 U_22) n_24 0 U))
def w_X12_laysWays_L79 (o0 : Nat) (post : Um → Prop) (k_207 : Um → Prop) (n_ : Nat) : Int32 → Um → Prop := Nat.rec (motive := fun _ => Int32 → Um → Prop) (fun _ _ => False) (fun _ ih => b_X12_laysWays_L79 o0 post k_207 ih) n_
def w_X12_laysWays (o : Nat) (U : Um) (post : Um → Prop) : Prop :=
  (∃ n_27, w_X12_laysWays_L2 o post (fun U_10 => (∃ n_26, w_X12_laysWays_L79 o post (fun U_25 => post U_25) n_26 0 U_10)) n_27 0 U)
set_option maxHeartbeats 4000000 in
theorem tl_X12_laysWays_L10 {l : Launch} {Y : px_Y} {X : px_X} {h0 hh : pe_H} {sz : Nat} (o0 : Nat) (x1 : Int32) (post : Um → Prop) (k_71 : Um → Prop) (ho0 : oc o0 = 10)  (hC : px_C X Y.1 (pm_A hh sz) cX12_laysWays RX12 6) (hM : px_M l X Y.1 hh sz yX12_laysWays cX12_laysWays 6 none 0 0 0) (hR : X.2.2.2.1 = pm_rm 0 0 0) (hk_71 : ∀ (U : Um) (h : pe_H), k_71 U → rF Y h0 U h → pw X Y.1 (pm_A hh sz) (pm_E X Y.1 hh sz 0 0 (pm_P Y h0 sz (pq_v post))) 71 [some (.ref (Y.2.1 o0)), some (.int x1), none, none, none, none] [] h sz 0 0) : ∀ (n_ : Nat) (x2 : Int32) (U : Um) (h : pe_H), rF Y h0 U h → w_X12_laysWays_L10 o0 x1 post k_71 n_ x2 U → pw X Y.1 (pm_A hh sz) (pm_E X Y.1 hh sz 0 0 (pm_P Y h0 sz (pq_v post))) 10 [some (.ref (Y.2.1 o0)), some (.int x1), some (.int x2), none, none, none] [] h sz 0 0 := by
  intro n_
  induction n_ with
  | zero => intro x2 U h hU H; exact False.elim H
  | succ n_ ih =>
    intro x2 U h hU H
    replace H : b_X12_laysWays_L10 o0 x1 post k_71 (w_X12_laysWays_L10 o0 x1 post k_71 n_) x2 U := H
    unfold b_X12_laysWays_L10 at H
    refine pr_iload_n hC (by decide +kernel : decode cX12_laysWays 10 = .ok (.iload_n 2, 1)) rfl ?_
    refine pr_bipush hC (6) (by decide +kernel : decode cX12_laysWays 11 = .ok (.bipush 6, 2)) rfl ?_
    refine pr_icmp_ge hC 71 (by decide +kernel : decode cX12_laysWays 13 = .ok (.if_icmp .ge 58, 3)) (by decide) (fun c_13 => ?_) (fun c_13 => ?_)
    · replace H := H.1 c_13
      exact pv_sub [some (.ref (Y.2.1 o0)), some (.int x1), none, none, none, none] (And.intro rfl (And.intro rfl trivial)) (hk_71 U h H hU)
    replace H := H.2 c_13
    refine pr_aload_n hC (by decide +kernel : decode cX12_laysWays 16 = .ok (.aload_n 0, 1)) rfl ?_
    refine pu_g1 hC fg_X12_19 (by decide +kernel : decode cX12_laysWays 17 = .ok (.getfield 19, 3)) hU ho0 (by decide) rfl (by decide) ?_
    refine pr_bipush hC (6) (by decide +kernel : decode cX12_laysWays 20 = .ok (.bipush 6, 2)) rfl ?_
    refine pr_iload_n hC (by decide +kernel : decode cX12_laysWays 22 = .ok (.iload_n 1, 1)) rfl ?_
    refine pr_imul hC (by decide +kernel : decode cX12_laysWays 23 = .ok (.imul, 1)) ?_
    refine pr_iload_n hC (by decide +kernel : decode cX12_laysWays 24 = .ok (.iload_n 2, 1)) rfl ?_
    refine pr_iadd hC (by decide +kernel : decode cX12_laysWays 25 = .ok (.iadd, 1)) ?_
    refine pr_iload_n hC (by decide +kernel : decode cX12_laysWays 26 = .ok (.iload_n 1, 1)) rfl ?_
    refine pr_iload_n hC (by decide +kernel : decode cX12_laysWays 27 = .ok (.iload_n 2, 1)) rfl ?_
    refine pr_icmp_ne hC 35 (by decide +kernel : decode cX12_laysWays 28 = .ok (.if_icmp .ne 7, 3)) (by decide) (fun c_28 => ?_) (fun c_28 => ?_)
    · replace H := H.2 c_28
      refine pr_aload_n hC (by decide +kernel : decode cX12_laysWays 35 = .ok (.aload_n 0, 1)) rfl ?_
      refine pu_g1 hC fg_X12_15 (by decide +kernel : decode cX12_laysWays 36 = .ok (.getfield 15, 3)) hU ho0 (by decide) rfl (by decide) ?_
      refine pr_bipush hC (6) (by decide +kernel : decode cX12_laysWays 39 = .ok (.bipush 6, 2)) rfl ?_
      refine pr_iload_n hC (by decide +kernel : decode cX12_laysWays 41 = .ok (.iload_n 1, 1)) rfl ?_
      refine pr_imul hC (by decide +kernel : decode cX12_laysWays 42 = .ok (.imul, 1)) ?_
      refine pr_iload_n hC (by decide +kernel : decode cX12_laysWays 43 = .ok (.iload_n 2, 1)) rfl ?_
      refine pr_iadd hC (by decide +kernel : decode cX12_laysWays 44 = .ok (.iadd, 1)) ?_
      refine pu_iald hC (by decide +kernel : decode cX12_laysWays 45 = .ok (.iaload, 1)) hU ho0 rfl H.1 ?_
      replace H := H.2
      refine pr_if_le hC 63 (by decide +kernel : decode cX12_laysWays 46 = .ok (.ifCond .le 17, 3)) (by decide) (fun c_46 => ?_) (fun c_46 => ?_)
      · replace H := H.1 c_46
        refine pr_iconst hC (-1) (by decide +kernel : decode cX12_laysWays 63 = .ok (.iconst (-1), 1)) rfl ?_
        refine pv_iast hC (by decide +kernel : decode cX12_laysWays 64 = .ok (.iastore, 1)) hU ho0 rfl H.1 (fun U_3 h e_U_3 hU => ?_)
        replace H := H.2 U_3 e_U_3
        refine pv_iinc hC (v := x2 + 1) (by decide +kernel : decode cX12_laysWays 65 = .ok (.iinc 2 1, 3)) rfl (by decide) rfl rfl (fun x2_4 e_x2_4 => ?_)
        replace H := H x2_4 e_x2_4
        refine pr_goto hC 10 (by decide +kernel : decode cX12_laysWays 68 = .ok (.goto (-58), 3)) (by decide) ?_
        exact pv_sub [some (.ref (Y.2.1 o0)), some (.int x1), some (.int x2_4), none, none, none] (And.intro rfl (And.intro rfl (And.intro rfl trivial))) (ih _ U_3 h hU H)
      replace H := H.2 c_46
      refine pr_aload_n hC (by decide +kernel : decode cX12_laysWays 49 = .ok (.aload_n 0, 1)) rfl ?_
      refine pu_g1 hC fg_X12_15 (by decide +kernel : decode cX12_laysWays 50 = .ok (.getfield 15, 3)) hU ho0 (by decide) rfl (by decide) ?_
      refine pr_bipush hC (6) (by decide +kernel : decode cX12_laysWays 53 = .ok (.bipush 6, 2)) rfl ?_
      refine pr_iload_n hC (by decide +kernel : decode cX12_laysWays 55 = .ok (.iload_n 1, 1)) rfl ?_
      refine pr_imul hC (by decide +kernel : decode cX12_laysWays 56 = .ok (.imul, 1)) ?_
      refine pr_iload_n hC (by decide +kernel : decode cX12_laysWays 57 = .ok (.iload_n 2, 1)) rfl ?_
      refine pr_iadd hC (by decide +kernel : decode cX12_laysWays 58 = .ok (.iadd, 1)) ?_
      refine pu_iald hC (by decide +kernel : decode cX12_laysWays 59 = .ok (.iaload, 1)) hU ho0 rfl H.1 ?_
      replace H := H.2
      refine pr_goto hC 64 (by decide +kernel : decode cX12_laysWays 60 = .ok (.goto 4, 3)) (by decide) ?_
      refine pv_iast hC (by decide +kernel : decode cX12_laysWays 64 = .ok (.iastore, 1)) hU ho0 rfl H.1 (fun U_5 h e_U_5 hU => ?_)
      replace H := H.2 U_5 e_U_5
      refine pv_iinc hC (v := x2 + 1) (by decide +kernel : decode cX12_laysWays 65 = .ok (.iinc 2 1, 3)) rfl (by decide) rfl rfl (fun x2_6 e_x2_6 => ?_)
      replace H := H x2_6 e_x2_6
      refine pr_goto hC 10 (by decide +kernel : decode cX12_laysWays 68 = .ok (.goto (-58), 3)) (by decide) ?_
      exact pv_sub [some (.ref (Y.2.1 o0)), some (.int x1), some (.int x2_6), none, none, none] (And.intro rfl (And.intro rfl (And.intro rfl trivial))) (ih _ U_5 h hU H)
    replace H := H.1 c_28
    refine pr_iconst hC (0) (by decide +kernel : decode cX12_laysWays 31 = .ok (.iconst 0, 1)) rfl ?_
    refine pr_goto hC 64 (by decide +kernel : decode cX12_laysWays 32 = .ok (.goto 32, 3)) (by decide) ?_
    refine pv_iast hC (by decide +kernel : decode cX12_laysWays 64 = .ok (.iastore, 1)) hU ho0 rfl H.1 (fun U_1 h e_U_1 hU => ?_)
    replace H := H.2 U_1 e_U_1
    refine pv_iinc hC (v := x2 + 1) (by decide +kernel : decode cX12_laysWays 65 = .ok (.iinc 2 1, 3)) rfl (by decide) rfl rfl (fun x2_2 e_x2_2 => ?_)
    replace H := H x2_2 e_x2_2
    refine pr_goto hC 10 (by decide +kernel : decode cX12_laysWays 68 = .ok (.goto (-58), 3)) (by decide) ?_
    exact pv_sub [some (.ref (Y.2.1 o0)), some (.int x1), some (.int x2_2), none, none, none] (And.intro rfl (And.intro rfl (And.intro rfl trivial))) (ih _ U_1 h hU H)
set_option maxHeartbeats 4000000 in
theorem tl_X12_laysWays_L2 {l : Launch} {Y : px_Y} {X : px_X} {h0 hh : pe_H} {sz : Nat} (o0 : Nat) (post : Um → Prop) (k_77 : Um → Prop) (ho0 : oc o0 = 10)  (hC : px_C X Y.1 (pm_A hh sz) cX12_laysWays RX12 6) (hM : px_M l X Y.1 hh sz yX12_laysWays cX12_laysWays 6 none 0 0 0) (hR : X.2.2.2.1 = pm_rm 0 0 0) (hk_77 : ∀ (U : Um) (h : pe_H), k_77 U → rF Y h0 U h → pw X Y.1 (pm_A hh sz) (pm_E X Y.1 hh sz 0 0 (pm_P Y h0 sz (pq_v post))) 77 [some (.ref (Y.2.1 o0)), none, none, none, none, none] [] h sz 0 0) : ∀ (n_ : Nat) (x1 : Int32) (U : Um) (h : pe_H), rF Y h0 U h → w_X12_laysWays_L2 o0 post k_77 n_ x1 U → pw X Y.1 (pm_A hh sz) (pm_E X Y.1 hh sz 0 0 (pm_P Y h0 sz (pq_v post))) 2 [some (.ref (Y.2.1 o0)), some (.int x1), none, none, none, none] [] h sz 0 0 := by
  intro n_
  induction n_ with
  | zero => intro x1 U h hU H; exact False.elim H
  | succ n_ ih =>
    intro x1 U h hU H
    replace H : b_X12_laysWays_L2 o0 post k_77 (w_X12_laysWays_L2 o0 post k_77 n_) x1 U := H
    unfold b_X12_laysWays_L2 at H
    refine pr_iload_n hC (by decide +kernel : decode cX12_laysWays 2 = .ok (.iload_n 1, 1)) rfl ?_
    refine pr_bipush hC (6) (by decide +kernel : decode cX12_laysWays 3 = .ok (.bipush 6, 2)) rfl ?_
    refine pr_icmp_ge hC 77 (by decide +kernel : decode cX12_laysWays 5 = .ok (.if_icmp .ge 72, 3)) (by decide) (fun c_5 => ?_) (fun c_5 => ?_)
    · replace H := H.1 c_5
      exact pv_sub [some (.ref (Y.2.1 o0)), none, none, none, none, none] (And.intro rfl trivial) (hk_77 U h H hU)
    replace H := H.2 c_5
    refine pr_iconst hC (0) (by decide +kernel : decode cX12_laysWays 8 = .ok (.iconst 0, 1)) rfl ?_
    refine pr_istore_n hC (by decide +kernel : decode cX12_laysWays 9 = .ok (.istore_n 2, 1)) (by decide) rfl ?_
    obtain ⟨n_9, H⟩ := H
    refine pv_sub [some (.ref (Y.2.1 o0)), some (.int x1), some (.int 0), none, none, none] (And.intro rfl (And.intro rfl (And.intro rfl trivial))) ?_
    refine tl_X12_laysWays_L10 _ _ _ _ ho0 hC hM hR (fun U_7 h H hU => ?_) n_9 _ U h hU H
    refine pv_iinc hC (v := x1 + 1) (by decide +kernel : decode cX12_laysWays 71 = .ok (.iinc 1 1, 3)) rfl (by decide) rfl rfl (fun x1_8 e_x1_8 => ?_)
    replace H := H x1_8 e_x1_8
    refine pr_goto hC 2 (by decide +kernel : decode cX12_laysWays 74 = .ok (.goto (-72), 3)) (by decide) ?_
    exact pv_sub [some (.ref (Y.2.1 o0)), some (.int x1_8), none, none, none, none] (And.intro rfl (And.intro rfl trivial)) (ih _ U_7 h hU H)
set_option maxHeartbeats 4000000 in
theorem tl_X12_laysWays_L95 {l : Launch} {Y : px_Y} {X : px_X} {h0 hh : pe_H} {sz : Nat} (o0 : Nat) (x1 : Int32) (x2 : Int32) (post : Um → Prop) (k_195 : Um → Prop) (ho0 : oc o0 = 10)  (hC : px_C X Y.1 (pm_A hh sz) cX12_laysWays RX12 6) (hM : px_M l X Y.1 hh sz yX12_laysWays cX12_laysWays 6 none 0 0 0) (hR : X.2.2.2.1 = pm_rm 0 0 0) (hk_195 : ∀ (U : Um) (h : pe_H), k_195 U → rF Y h0 U h → pw X Y.1 (pm_A hh sz) (pm_E X Y.1 hh sz 0 0 (pm_P Y h0 sz (pq_v post))) 195 [some (.ref (Y.2.1 o0)), some (.int x1), some (.int x2), none, none, none] [] h sz 0 0) : ∀ (n_ : Nat) (x3 : Int32) (U : Um) (h : pe_H), rF Y h0 U h → w_X12_laysWays_L95 o0 x1 x2 post k_195 n_ x3 U → pw X Y.1 (pm_A hh sz) (pm_E X Y.1 hh sz 0 0 (pm_P Y h0 sz (pq_v post))) 95 [some (.ref (Y.2.1 o0)), some (.int x1), some (.int x2), some (.int x3), none, none] [] h sz 0 0 := by
  intro n_
  induction n_ with
  | zero => intro x3 U h hU H; exact False.elim H
  | succ n_ ih =>
    intro x3 U h hU H
    replace H : b_X12_laysWays_L95 o0 x1 x2 post k_195 (w_X12_laysWays_L95 o0 x1 x2 post k_195 n_) x3 U := H
    unfold b_X12_laysWays_L95 at H
    refine pr_iload_n hC (by decide +kernel : decode cX12_laysWays 95 = .ok (.iload_n 3, 1)) rfl ?_
    refine pr_bipush hC (6) (by decide +kernel : decode cX12_laysWays 96 = .ok (.bipush 6, 2)) rfl ?_
    refine pr_icmp_ge hC 195 (by decide +kernel : decode cX12_laysWays 98 = .ok (.if_icmp .ge 97, 3)) (by decide) (fun c_98 => ?_) (fun c_98 => ?_)
    · replace H := H.1 c_98
      exact pv_sub [some (.ref (Y.2.1 o0)), some (.int x1), some (.int x2), none, none, none] (And.intro rfl (And.intro rfl (And.intro rfl trivial))) (hk_195 U h H hU)
    replace H := H.2 c_98
    refine pr_aload_n hC (by decide +kernel : decode cX12_laysWays 101 = .ok (.aload_n 0, 1)) rfl ?_
    refine pu_g1 hC fg_X12_19 (by decide +kernel : decode cX12_laysWays 102 = .ok (.getfield 19, 3)) hU ho0 (by decide) rfl (by decide) ?_
    refine pr_bipush hC (6) (by decide +kernel : decode cX12_laysWays 105 = .ok (.bipush 6, 2)) rfl ?_
    refine pr_iload_n hC (by decide +kernel : decode cX12_laysWays 107 = .ok (.iload_n 2, 1)) rfl ?_
    refine pr_imul hC (by decide +kernel : decode cX12_laysWays 108 = .ok (.imul, 1)) ?_
    refine pr_iload_n hC (by decide +kernel : decode cX12_laysWays 109 = .ok (.iload_n 1, 1)) rfl ?_
    refine pr_iadd hC (by decide +kernel : decode cX12_laysWays 110 = .ok (.iadd, 1)) ?_
    refine pu_iald hC (by decide +kernel : decode cX12_laysWays 111 = .ok (.iaload, 1)) hU ho0 rfl H.1 ?_
    replace H := H.2
    refine pv_topi (fun x4_11 e_x4_11 => ?_)
    replace H := H x4_11 e_x4_11
    refine pr_istore hC (by decide +kernel : decode cX12_laysWays 112 = .ok (.istore 4, 2)) (by decide) rfl ?_
    refine pr_aload_n hC (by decide +kernel : decode cX12_laysWays 114 = .ok (.aload_n 0, 1)) rfl ?_
    refine pu_g1 hC fg_X12_19 (by decide +kernel : decode cX12_laysWays 115 = .ok (.getfield 19, 3)) hU ho0 (by decide) rfl (by decide) ?_
    refine pr_bipush hC (6) (by decide +kernel : decode cX12_laysWays 118 = .ok (.bipush 6, 2)) rfl ?_
    refine pr_iload_n hC (by decide +kernel : decode cX12_laysWays 120 = .ok (.iload_n 1, 1)) rfl ?_
    refine pr_imul hC (by decide +kernel : decode cX12_laysWays 121 = .ok (.imul, 1)) ?_
    refine pr_iload_n hC (by decide +kernel : decode cX12_laysWays 122 = .ok (.iload_n 3, 1)) rfl ?_
    refine pr_iadd hC (by decide +kernel : decode cX12_laysWays 123 = .ok (.iadd, 1)) ?_
    refine pu_iald hC (by decide +kernel : decode cX12_laysWays 124 = .ok (.iaload, 1)) hU ho0 rfl H.1 ?_
    replace H := H.2
    refine pv_topi (fun x5_12 e_x5_12 => ?_)
    replace H := H x5_12 e_x5_12
    refine pr_istore hC (by decide +kernel : decode cX12_laysWays 125 = .ok (.istore 5, 2)) (by decide) rfl ?_
    refine pr_iload hC (by decide +kernel : decode cX12_laysWays 127 = .ok (.iload 4, 2)) rfl ?_
    refine pr_iconst hC (-1) (by decide +kernel : decode cX12_laysWays 129 = .ok (.iconst (-1), 1)) rfl ?_
    refine pr_icmp_eq hC 189 (by decide +kernel : decode cX12_laysWays 130 = .ok (.if_icmp .eq 59, 3)) (by decide) (fun c_130 => ?_) (fun c_130 => ?_)
    · replace H := H.1 c_130
      refine pv_iinc hC (v := x3 + 1) (by decide +kernel : decode cX12_laysWays 189 = .ok (.iinc 3 1, 3)) rfl (by decide) rfl rfl (fun x3_13 e_x3_13 => ?_)
      replace H := H x3_13 e_x3_13
      refine pr_goto hC 95 (by decide +kernel : decode cX12_laysWays 192 = .ok (.goto (-97), 3)) (by decide) ?_
      exact pv_sub [some (.ref (Y.2.1 o0)), some (.int x1), some (.int x2), some (.int x3_13), none, none] (And.intro rfl (And.intro rfl (And.intro rfl (And.intro rfl trivial)))) (ih _ U h hU H)
    replace H := H.2 c_130
    refine pr_iload hC (by decide +kernel : decode cX12_laysWays 133 = .ok (.iload 5, 2)) rfl ?_
    refine pr_iconst hC (-1) (by decide +kernel : decode cX12_laysWays 135 = .ok (.iconst (-1), 1)) rfl ?_
    refine pr_icmp_eq hC 189 (by decide +kernel : decode cX12_laysWays 136 = .ok (.if_icmp .eq 53, 3)) (by decide) (fun c_136 => ?_) (fun c_136 => ?_)
    · replace H := H.1 c_136
      refine pv_iinc hC (v := x3 + 1) (by decide +kernel : decode cX12_laysWays 189 = .ok (.iinc 3 1, 3)) rfl (by decide) rfl rfl (fun x3_14 e_x3_14 => ?_)
      replace H := H x3_14 e_x3_14
      refine pr_goto hC 95 (by decide +kernel : decode cX12_laysWays 192 = .ok (.goto (-97), 3)) (by decide) ?_
      exact pv_sub [some (.ref (Y.2.1 o0)), some (.int x1), some (.int x2), some (.int x3_14), none, none] (And.intro rfl (And.intro rfl (And.intro rfl (And.intro rfl trivial)))) (ih _ U h hU H)
    replace H := H.2 c_136
    refine pr_aload_n hC (by decide +kernel : decode cX12_laysWays 139 = .ok (.aload_n 0, 1)) rfl ?_
    refine pu_g1 hC fg_X12_19 (by decide +kernel : decode cX12_laysWays 140 = .ok (.getfield 19, 3)) hU ho0 (by decide) rfl (by decide) ?_
    refine pr_bipush hC (6) (by decide +kernel : decode cX12_laysWays 143 = .ok (.bipush 6, 2)) rfl ?_
    refine pr_iload_n hC (by decide +kernel : decode cX12_laysWays 145 = .ok (.iload_n 2, 1)) rfl ?_
    refine pr_imul hC (by decide +kernel : decode cX12_laysWays 146 = .ok (.imul, 1)) ?_
    refine pr_iload_n hC (by decide +kernel : decode cX12_laysWays 147 = .ok (.iload_n 3, 1)) rfl ?_
    refine pr_iadd hC (by decide +kernel : decode cX12_laysWays 148 = .ok (.iadd, 1)) ?_
    refine pu_iald hC (by decide +kernel : decode cX12_laysWays 149 = .ok (.iaload, 1)) hU ho0 rfl H.1 ?_
    replace H := H.2
    refine pr_iconst hC (-1) (by decide +kernel : decode cX12_laysWays 150 = .ok (.iconst (-1), 1)) rfl ?_
    replace H := H (pw X Y.1 (pm_A hh sz) (pm_E X Y.1 hh sz 0 0 (pm_P Y h0 sz (pq_v post))) 173 [some (.ref (Y.2.1 o0)), some (.int x1), some (.int x2), some (.int x3), some (.int x4_11), some (.int x5_12)] [] h sz 0 0) (by
      intro  H
      refine pr_aload_n hC (by decide +kernel : decode cX12_laysWays 173 = .ok (.aload_n 0, 1)) rfl ?_
      refine pu_g1 hC fg_X12_19 (by decide +kernel : decode cX12_laysWays 174 = .ok (.getfield 19, 3)) hU ho0 (by decide) rfl (by decide) ?_
      refine pr_bipush hC (6) (by decide +kernel : decode cX12_laysWays 177 = .ok (.bipush 6, 2)) rfl ?_
      refine pr_iload_n hC (by decide +kernel : decode cX12_laysWays 179 = .ok (.iload_n 2, 1)) rfl ?_
      refine pr_imul hC (by decide +kernel : decode cX12_laysWays 180 = .ok (.imul, 1)) ?_
      refine pr_iload_n hC (by decide +kernel : decode cX12_laysWays 181 = .ok (.iload_n 3, 1)) rfl ?_
      refine pr_iadd hC (by decide +kernel : decode cX12_laysWays 182 = .ok (.iadd, 1)) ?_
      refine pr_iload hC (by decide +kernel : decode cX12_laysWays 183 = .ok (.iload 4, 2)) rfl ?_
      refine pr_iload hC (by decide +kernel : decode cX12_laysWays 185 = .ok (.iload 5, 2)) rfl ?_
      refine pr_iadd hC (by decide +kernel : decode cX12_laysWays 187 = .ok (.iadd, 1)) ?_
      refine pv_iast hC (by decide +kernel : decode cX12_laysWays 188 = .ok (.iastore, 1)) hU ho0 rfl H.1 (fun U_16 h e_U_16 hU => ?_)
      replace H := H.2 U_16 e_U_16
      refine pv_iinc hC (v := x3 + 1) (by decide +kernel : decode cX12_laysWays 189 = .ok (.iinc 3 1, 3)) rfl (by decide) rfl rfl (fun x3_17 e_x3_17 => ?_)
      replace H := H x3_17 e_x3_17
      refine pr_goto hC 95 (by decide +kernel : decode cX12_laysWays 192 = .ok (.goto (-97), 3)) (by decide) ?_
      exact pv_sub [some (.ref (Y.2.1 o0)), some (.int x1), some (.int x2), some (.int x3_17), none, none] (And.intro rfl (And.intro rfl (And.intro rfl (And.intro rfl trivial)))) (ih _ U_16 h hU H))
    refine pr_icmp_eq hC 173 (by decide +kernel : decode cX12_laysWays 151 = .ok (.if_icmp .eq 22, 3)) (by decide) (fun c_151 => ?_) (fun c_151 => ?_)
    · replace H := H.1 c_151
      exact pv_sub [some (.ref (Y.2.1 o0)), some (.int x1), some (.int x2), some (.int x3), some (.int x4_11), some (.int x5_12)] (And.intro rfl (And.intro rfl (And.intro rfl (And.intro rfl (And.intro rfl (And.intro rfl trivial)))))) (H )
    replace H := H.2 c_151
    refine pr_iload hC (by decide +kernel : decode cX12_laysWays 154 = .ok (.iload 4, 2)) rfl ?_
    refine pr_iload hC (by decide +kernel : decode cX12_laysWays 156 = .ok (.iload 5, 2)) rfl ?_
    refine pr_iadd hC (by decide +kernel : decode cX12_laysWays 158 = .ok (.iadd, 1)) ?_
    refine pr_aload_n hC (by decide +kernel : decode cX12_laysWays 159 = .ok (.aload_n 0, 1)) rfl ?_
    refine pu_g1 hC fg_X12_19 (by decide +kernel : decode cX12_laysWays 160 = .ok (.getfield 19, 3)) hU ho0 (by decide) rfl (by decide) ?_
    refine pr_bipush hC (6) (by decide +kernel : decode cX12_laysWays 163 = .ok (.bipush 6, 2)) rfl ?_
    refine pr_iload_n hC (by decide +kernel : decode cX12_laysWays 165 = .ok (.iload_n 2, 1)) rfl ?_
    refine pr_imul hC (by decide +kernel : decode cX12_laysWays 166 = .ok (.imul, 1)) ?_
    refine pr_iload_n hC (by decide +kernel : decode cX12_laysWays 167 = .ok (.iload_n 3, 1)) rfl ?_
    refine pr_iadd hC (by decide +kernel : decode cX12_laysWays 168 = .ok (.iadd, 1)) ?_
    refine pu_iald hC (by decide +kernel : decode cX12_laysWays 169 = .ok (.iaload, 1)) hU ho0 rfl H.1 ?_
    replace H := H.2
    refine pr_icmp_ge hC 189 (by decide +kernel : decode cX12_laysWays 170 = .ok (.if_icmp .ge 19, 3)) (by decide) (fun c_170 => ?_) (fun c_170 => ?_)
    · replace H := H.1 c_170
      refine pv_iinc hC (v := x3 + 1) (by decide +kernel : decode cX12_laysWays 189 = .ok (.iinc 3 1, 3)) rfl (by decide) rfl rfl (fun x3_18 e_x3_18 => ?_)
      replace H := H x3_18 e_x3_18
      refine pr_goto hC 95 (by decide +kernel : decode cX12_laysWays 192 = .ok (.goto (-97), 3)) (by decide) ?_
      exact pv_sub [some (.ref (Y.2.1 o0)), some (.int x1), some (.int x2), some (.int x3_18), none, none] (And.intro rfl (And.intro rfl (And.intro rfl (And.intro rfl trivial)))) (ih _ U h hU H)
    replace H := H.2 c_170
    exact pv_sub [some (.ref (Y.2.1 o0)), some (.int x1), some (.int x2), some (.int x3), some (.int x4_11), some (.int x5_12)] (And.intro rfl (And.intro rfl (And.intro rfl (And.intro rfl (And.intro rfl (And.intro rfl trivial)))))) (H )
set_option maxHeartbeats 4000000 in
theorem tl_X12_laysWays_L87 {l : Launch} {Y : px_Y} {X : px_X} {h0 hh : pe_H} {sz : Nat} (o0 : Nat) (x1 : Int32) (post : Um → Prop) (k_201 : Um → Prop) (ho0 : oc o0 = 10)  (hC : px_C X Y.1 (pm_A hh sz) cX12_laysWays RX12 6) (hM : px_M l X Y.1 hh sz yX12_laysWays cX12_laysWays 6 none 0 0 0) (hR : X.2.2.2.1 = pm_rm 0 0 0) (hk_201 : ∀ (U : Um) (h : pe_H), k_201 U → rF Y h0 U h → pw X Y.1 (pm_A hh sz) (pm_E X Y.1 hh sz 0 0 (pm_P Y h0 sz (pq_v post))) 201 [some (.ref (Y.2.1 o0)), some (.int x1), none, none, none, none] [] h sz 0 0) : ∀ (n_ : Nat) (x2 : Int32) (U : Um) (h : pe_H), rF Y h0 U h → w_X12_laysWays_L87 o0 x1 post k_201 n_ x2 U → pw X Y.1 (pm_A hh sz) (pm_E X Y.1 hh sz 0 0 (pm_P Y h0 sz (pq_v post))) 87 [some (.ref (Y.2.1 o0)), some (.int x1), some (.int x2), none, none, none] [] h sz 0 0 := by
  intro n_
  induction n_ with
  | zero => intro x2 U h hU H; exact False.elim H
  | succ n_ ih =>
    intro x2 U h hU H
    replace H : b_X12_laysWays_L87 o0 x1 post k_201 (w_X12_laysWays_L87 o0 x1 post k_201 n_) x2 U := H
    unfold b_X12_laysWays_L87 at H
    refine pr_iload_n hC (by decide +kernel : decode cX12_laysWays 87 = .ok (.iload_n 2, 1)) rfl ?_
    refine pr_bipush hC (6) (by decide +kernel : decode cX12_laysWays 88 = .ok (.bipush 6, 2)) rfl ?_
    refine pr_icmp_ge hC 201 (by decide +kernel : decode cX12_laysWays 90 = .ok (.if_icmp .ge 111, 3)) (by decide) (fun c_90 => ?_) (fun c_90 => ?_)
    · replace H := H.1 c_90
      exact pv_sub [some (.ref (Y.2.1 o0)), some (.int x1), none, none, none, none] (And.intro rfl (And.intro rfl trivial)) (hk_201 U h H hU)
    replace H := H.2 c_90
    refine pr_iconst hC (0) (by decide +kernel : decode cX12_laysWays 93 = .ok (.iconst 0, 1)) rfl ?_
    refine pr_istore_n hC (by decide +kernel : decode cX12_laysWays 94 = .ok (.istore_n 3, 1)) (by decide) rfl ?_
    obtain ⟨n_21, H⟩ := H
    refine pv_sub [some (.ref (Y.2.1 o0)), some (.int x1), some (.int x2), some (.int 0), none, none] (And.intro rfl (And.intro rfl (And.intro rfl (And.intro rfl trivial)))) ?_
    refine tl_X12_laysWays_L95 _ _ _ _ _ ho0 hC hM hR (fun U_19 h H hU => ?_) n_21 _ U h hU H
    refine pv_iinc hC (v := x2 + 1) (by decide +kernel : decode cX12_laysWays 195 = .ok (.iinc 2 1, 3)) rfl (by decide) rfl rfl (fun x2_20 e_x2_20 => ?_)
    replace H := H x2_20 e_x2_20
    refine pr_goto hC 87 (by decide +kernel : decode cX12_laysWays 198 = .ok (.goto (-111), 3)) (by decide) ?_
    exact pv_sub [some (.ref (Y.2.1 o0)), some (.int x1), some (.int x2_20), none, none, none] (And.intro rfl (And.intro rfl (And.intro rfl trivial))) (ih _ U_19 h hU H)
set_option maxHeartbeats 4000000 in
theorem tl_X12_laysWays_L79 {l : Launch} {Y : px_Y} {X : px_X} {h0 hh : pe_H} {sz : Nat} (o0 : Nat) (post : Um → Prop) (k_207 : Um → Prop) (ho0 : oc o0 = 10)  (hC : px_C X Y.1 (pm_A hh sz) cX12_laysWays RX12 6) (hM : px_M l X Y.1 hh sz yX12_laysWays cX12_laysWays 6 none 0 0 0) (hR : X.2.2.2.1 = pm_rm 0 0 0) (hk_207 : ∀ (U : Um) (h : pe_H), k_207 U → rF Y h0 U h → pw X Y.1 (pm_A hh sz) (pm_E X Y.1 hh sz 0 0 (pm_P Y h0 sz (pq_v post))) 207 [none, none, none, none, none, none] [] h sz 0 0) : ∀ (n_ : Nat) (x1 : Int32) (U : Um) (h : pe_H), rF Y h0 U h → w_X12_laysWays_L79 o0 post k_207 n_ x1 U → pw X Y.1 (pm_A hh sz) (pm_E X Y.1 hh sz 0 0 (pm_P Y h0 sz (pq_v post))) 79 [some (.ref (Y.2.1 o0)), some (.int x1), none, none, none, none] [] h sz 0 0 := by
  intro n_
  induction n_ with
  | zero => intro x1 U h hU H; exact False.elim H
  | succ n_ ih =>
    intro x1 U h hU H
    replace H : b_X12_laysWays_L79 o0 post k_207 (w_X12_laysWays_L79 o0 post k_207 n_) x1 U := H
    unfold b_X12_laysWays_L79 at H
    refine pr_iload_n hC (by decide +kernel : decode cX12_laysWays 79 = .ok (.iload_n 1, 1)) rfl ?_
    refine pr_bipush hC (6) (by decide +kernel : decode cX12_laysWays 80 = .ok (.bipush 6, 2)) rfl ?_
    refine pr_icmp_ge hC 207 (by decide +kernel : decode cX12_laysWays 82 = .ok (.if_icmp .ge 125, 3)) (by decide) (fun c_82 => ?_) (fun c_82 => ?_)
    · replace H := H.1 c_82
      exact pv_sub [none, none, none, none, none, none] (trivial) (hk_207 U h H hU)
    replace H := H.2 c_82
    refine pr_iconst hC (0) (by decide +kernel : decode cX12_laysWays 85 = .ok (.iconst 0, 1)) rfl ?_
    refine pr_istore_n hC (by decide +kernel : decode cX12_laysWays 86 = .ok (.istore_n 2, 1)) (by decide) rfl ?_
    obtain ⟨n_24, H⟩ := H
    refine pv_sub [some (.ref (Y.2.1 o0)), some (.int x1), some (.int 0), none, none, none] (And.intro rfl (And.intro rfl (And.intro rfl trivial))) ?_
    refine tl_X12_laysWays_L87 _ _ _ _ ho0 hC hM hR (fun U_22 h H hU => ?_) n_24 _ U h hU H
    refine pv_iinc hC (v := x1 + 1) (by decide +kernel : decode cX12_laysWays 201 = .ok (.iinc 1 1, 3)) rfl (by decide) rfl rfl (fun x1_23 e_x1_23 => ?_)
    replace H := H x1_23 e_x1_23
    refine pr_goto hC 79 (by decide +kernel : decode cX12_laysWays 204 = .ok (.goto (-125), 3)) (by decide) ?_
    exact pv_sub [some (.ref (Y.2.1 o0)), some (.int x1_23), none, none, none, none] (And.intro rfl (And.intro rfl trivial)) (ih _ U_22 h hU H)
set_option maxHeartbeats 4000000 in
theorem t_X12_laysWays {l : Launch} {Y : px_Y} {o : Nat} {U : Um} {post : Um → Prop} (ho : oc o = 10) (H : w_X12_laysWays o U post) : um l Y 0 yX12_laysWays cX12_laysWays 6 none [.ref (Y.2.1 o)] U (pq_v post) := by
  unfold w_X12_laysWays at H
  refine um_of (by decide) (Nat.le_of_ble_eq_true rfl) [some (.ref (Y.2.1 o)), none, none, none, none, none] rfl (fun X h0 hh sz hM hU => ?_)
  have hC := hM.1
  have hR := hM.2.2.1
  refine pr_iconst hC (0) (by decide +kernel : decode cX12_laysWays 0 = .ok (.iconst 0, 1)) rfl ?_
  refine pr_istore_n hC (by decide +kernel : decode cX12_laysWays 1 = .ok (.istore_n 1, 1)) (by decide) rfl ?_
  obtain ⟨n_27, H⟩ := H
  refine pv_sub [some (.ref (Y.2.1 o)), some (.int 0), none, none, none, none] (And.intro rfl (And.intro rfl trivial)) ?_
  refine tl_X12_laysWays_L2 _ _ _ ho hC hM hR (fun U_10 h H hU => ?_) n_27 _ U hh hU H
  refine pr_iconst hC (0) (by decide +kernel : decode cX12_laysWays 77 = .ok (.iconst 0, 1)) rfl ?_
  refine pr_istore_n hC (by decide +kernel : decode cX12_laysWays 78 = .ok (.istore_n 1, 1)) (by decide) rfl ?_
  obtain ⟨n_26, H⟩ := H
  refine pv_sub [some (.ref (Y.2.1 o)), some (.int 0), none, none, none, none] (And.intro rfl (And.intro rfl trivial)) ?_
  refine tl_X12_laysWays_L79 _ _ _ ho hC hM hR (fun U_25 h H hU => ?_) n_26 _ U_10 h hU H
  exact pv_vret hM (by decide +kernel : decode cX12_laysWays 207 = .ok (.return_, 1)) hU H
def b_X12_takesOver_L2 (o0 : Nat) (post : Um → Prop) (k_29 : Um → Prop) (rec_ : Int32 → Um → Prop) (x1 : Int32) (U : Um) : Prop :=
  ((7 : Int32) ≤ x1 → k_29 U) ∧ (¬ (7 : Int32) ≤ x1 → vp_in (7 + x1) 14 ∧ vp_in x1 14 ∧ ∀ (U_1 : Um), U_1 = sA U o0 11 (va_up (uA U o0 11) (Int32.toNatClampNeg x1) (uA U o0 11 (Int32.toNatClampNeg (7 + x1)))) → ∀ (x1_2 : Int32), x1_2 = x1 + 1 → rec_ x1_2 U_1)
def w_X12_takesOver_L2 (o0 : Nat) (post : Um → Prop) (k_29 : Um → Prop) (n_ : Nat) : Int32 → Um → Prop := Nat.rec (motive := fun _ => Int32 → Um → Prop) (fun _ _ => False) (fun _ ih => b_X12_takesOver_L2 o0 post k_29 ih) n_
def b_X12_takesOver_L31 (o0 : Nat) (post : Um → Prop) (k_58 : Um → Prop) (rec_ : Int32 → Um → Prop) (x1 : Int32) (U : Um) : Prop :=
  ((6 : Int32) ≤ x1 → k_58 U) ∧ (¬ (6 : Int32) ≤ x1 → vp_in (6 + x1) 12 ∧ vp_in x1 12 ∧ ∀ (U_4 : Um), U_4 = sJ U o0 1 (va_up (uJ U o0 1) (Int32.toNatClampNeg x1) (uJ U o0 1 (Int32.toNatClampNeg (6 + x1)))) → ∀ (x1_5 : Int32), x1_5 = x1 + 1 → rec_ x1_5 U_4)
def w_X12_takesOver_L31 (o0 : Nat) (post : Um → Prop) (k_58 : Um → Prop) (n_ : Nat) : Int32 → Um → Prop := Nat.rec (motive := fun _ => Int32 → Um → Prop) (fun _ _ => False) (fun _ ih => b_X12_takesOver_L31 o0 post k_58 ih) n_
def b_X12_takesOver_L60 (o0 : Nat) (post : Um → Prop) (k_87 : Um → Prop) (rec_ : Int32 → Um → Prop) (x1 : Int32) (U : Um) : Prop :=
  ((36 : Int32) ≤ x1 → k_87 U) ∧ (¬ (36 : Int32) ≤ x1 → vp_in (36 + x1) 72 ∧ vp_in x1 72 ∧ ∀ (U_7 : Um), U_7 = sA U o0 2 (va_up (uA U o0 2) (Int32.toNatClampNeg x1) (uA U o0 2 (Int32.toNatClampNeg (36 + x1)))) → ∀ (x1_8 : Int32), x1_8 = x1 + 1 → rec_ x1_8 U_7)
def w_X12_takesOver_L60 (o0 : Nat) (post : Um → Prop) (k_87 : Um → Prop) (n_ : Nat) : Int32 → Um → Prop := Nat.rec (motive := fun _ => Int32 → Um → Prop) (fun _ _ => False) (fun _ ih => b_X12_takesOver_L60 o0 post k_87 ih) n_
def b_X12_takesOver_L89 (o0 : Nat) (post : Um → Prop) (k_116 : Um → Prop) (rec_ : Int32 → Um → Prop) (x1 : Int32) (U : Um) : Prop :=
  ((8 : Int32) ≤ x1 → k_116 U) ∧ (¬ (8 : Int32) ≤ x1 → vp_in (8 + x1) 16 ∧ vp_in x1 16 ∧ ∀ (U_10 : Um), U_10 = sJ U o0 4 (va_up (uJ U o0 4) (Int32.toNatClampNeg x1) (uJ U o0 4 (Int32.toNatClampNeg (8 + x1)))) → ∀ (x1_11 : Int32), x1_11 = x1 + 1 → rec_ x1_11 U_10)
def w_X12_takesOver_L89 (o0 : Nat) (post : Um → Prop) (k_116 : Um → Prop) (n_ : Nat) : Int32 → Um → Prop := Nat.rec (motive := fun _ => Int32 → Um → Prop) (fun _ _ => False) (fun _ ih => b_X12_takesOver_L89 o0 post k_116 ih) n_
def b_X12_takesOver_L118 (o0 : Nat) (post : Um → Prop) (k_147 : Um → Prop) (rec_ : Int32 → Um → Prop) (x1 : Int32) (U : Um) : Prop :=
  ((128 : Int32) ≤ x1 → k_147 U) ∧ (¬ (128 : Int32) ≤ x1 → vp_in (128 + x1) 256 ∧ vp_in x1 256 ∧ ∀ (U_13 : Um), U_13 = sA U o0 10 (va_up (uA U o0 10) (Int32.toNatClampNeg x1) (uA U o0 10 (Int32.toNatClampNeg (128 + x1)))) → ∀ (x1_14 : Int32), x1_14 = x1 + 1 → rec_ x1_14 U_13)
def w_X12_takesOver_L118 (o0 : Nat) (post : Um → Prop) (k_147 : Um → Prop) (n_ : Nat) : Int32 → Um → Prop := Nat.rec (motive := fun _ => Int32 → Um → Prop) (fun _ _ => False) (fun _ ih => b_X12_takesOver_L118 o0 post k_147 ih) n_
def b_X12_takesOver_L157 (o0 : Nat) (post : Um → Prop) (k_203 : Um → Prop) (rec_ : Int32 → Um → Prop) (x1 : Int32) (U : Um) : Prop :=
  ((uI U o0 14) ≤ x1 → k_203 U) ∧ (¬ (uI U o0 14) ≤ x1 → vp_in (1300 + x1) 2600 ∧ vp_in x1 2600 ∧ ∀ (U_17 : Um), U_17 = sA U o0 12 (va_up (uA U o0 12) (Int32.toNatClampNeg x1) (uA U o0 12 (Int32.toNatClampNeg (1300 + x1)))) → vp_in (1300 + x1) 2600 ∧ vp_in x1 2600 ∧ ∀ (U_18 : Um), U_18 = sA U_17 o0 13 (va_up (uA U_17 o0 13) (Int32.toNatClampNeg x1) (uA U_17 o0 13 (Int32.toNatClampNeg (1300 + x1)))) → ∀ (x1_19 : Int32), x1_19 = x1 + 1 → rec_ x1_19 U_18)
def w_X12_takesOver_L157 (o0 : Nat) (post : Um → Prop) (k_203 : Um → Prop) (n_ : Nat) : Int32 → Um → Prop := Nat.rec (motive := fun _ => Int32 → Um → Prop) (fun _ _ => False) (fun _ ih => b_X12_takesOver_L157 o0 post k_203 ih) n_
def b_X12_takesOver_L205 (o0 : Nat) (post : Um → Prop) (k_308 : Um → Prop) (rec_ : Int32 → Um → Prop) (x1 : Int32) (U : Um) : Prop :=
  ((10 : Int32) ≤ x1 → k_308 U) ∧ (¬ (10 : Int32) ≤ x1 → vp_in (10 + x1) 20 ∧ vp_in x1 20 ∧ ∀ (U_21 : Um), U_21 = sJ U o0 5 (va_up (uJ U o0 5) (Int32.toNatClampNeg x1) (uJ U o0 5 (Int32.toNatClampNeg (10 + x1)))) → vp_in (10 + x1) 20 ∧ vp_in x1 20 ∧ ∀ (U_22 : Um), U_22 = sA U_21 o0 6 (va_up (uA U_21 o0 6) (Int32.toNatClampNeg x1) (uA U_21 o0 6 (Int32.toNatClampNeg (10 + x1)))) → vp_in (10 + x1) 20 ∧ vp_in x1 20 ∧ ∀ (U_23 : Um), U_23 = sA U_22 o0 7 (va_up (uA U_22 o0 7) (Int32.toNatClampNeg x1) (uA U_22 o0 7 (Int32.toNatClampNeg (10 + x1)))) → vp_in (10 + x1) 20 ∧ vp_in x1 20 ∧ ∀ (U_24 : Um), U_24 = sA U_23 o0 8 (va_up (uA U_23 o0 8) (Int32.toNatClampNeg x1) (uA U_23 o0 8 (Int32.toNatClampNeg (10 + x1)))) → vp_in (10 + x1) 20 ∧ vp_in x1 10 ∧ ∀ (U_25 : Um), U_25 = sA U_24 o0 32 (va_up (uA U_24 o0 32) (Int32.toNatClampNeg x1) (uA U_24 o0 9 (Int32.toNatClampNeg (10 + x1)))) → vp_in x1 10 ∧ ∀ (U_26 : Um), U_26 = sA U_25 o0 33 (va_up (uA U_25 o0 33) (Int32.toNatClampNeg x1) 0) → vp_in x1 10 ∧ ∀ (U_27 : Um), U_27 = sF U_26 o0 34 (va_up (uF U_26 o0 34) (Int32.toNatClampNeg x1) 1112014848) → ∀ (x1_28 : Int32), x1_28 = x1 + 1 → rec_ x1_28 U_27)
def w_X12_takesOver_L205 (o0 : Nat) (post : Um → Prop) (k_308 : Um → Prop) (n_ : Nat) : Int32 → Um → Prop := Nat.rec (motive := fun _ => Int32 → Um → Prop) (fun _ _ => False) (fun _ ih => b_X12_takesOver_L205 o0 post k_308 ih) n_
def b_X12_takesOver_L310 (o0 : Nat) (post : Um → Prop) (k_336 : Um → Prop) (rec_ : Int32 → Um → Prop) (x1 : Int32) (U : Um) : Prop :=
  ((48 : Int32) ≤ x1 → k_336 U) ∧ (¬ (48 : Int32) ≤ x1 → vp_in x1 48 ∧ ∀ (U_30 : Um), U_30 = sA U o0 30 (va_up (uA U o0 30) (Int32.toNatClampNeg x1) (-1)) → vp_in x1 48 ∧ ∀ (U_31 : Um), U_31 = sA U_30 o0 31 (va_up (uA U_30 o0 31) (Int32.toNatClampNeg x1) (-1)) → ∀ (x1_32 : Int32), x1_32 = x1 + 1 → rec_ x1_32 U_31)
def w_X12_takesOver_L310 (o0 : Nat) (post : Um → Prop) (k_336 : Um → Prop) (n_ : Nat) : Int32 → Um → Prop := Nat.rec (motive := fun _ => Int32 → Um → Prop) (fun _ _ => False) (fun _ ih => b_X12_takesOver_L310 o0 post k_336 ih) n_
def w_X12_takesOver (o : Nat) (U : Um) (post : Um → Prop) : Prop :=
  (∃ n_45, w_X12_takesOver_L2 o post (fun U_3 => (∃ n_44, w_X12_takesOver_L31 o post (fun U_6 => (∃ n_43, w_X12_takesOver_L60 o post (fun U_9 => (∃ n_42, w_X12_takesOver_L89 o post (fun U_12 => (∃ n_41, w_X12_takesOver_L118 o post (fun U_15 => ∀ (U_16 : Um), U_16 = sI U_15 o 14 (uI U_15 o 15) → (∃ n_40, w_X12_takesOver_L157 o post (fun U_20 => (∃ n_39, w_X12_takesOver_L205 o post (fun U_29 => (∃ n_38, w_X12_takesOver_L310 o post (fun U_33 => ∀ (U_34 : Um), U_34 = sI U_33 o 35 (-1) → ∀ (U_35 : Um), U_35 = sI U_34 o 38 0 → w_X12_laysWays o U_35 (fun U_36 => post U_36)) n_38 0 U_29)) n_39 0 U_20)) n_40 0 U_16)) n_41 0 U_12)) n_42 0 U_9)) n_43 0 U_6)) n_44 0 U_3)) n_45 0 U)
set_option maxHeartbeats 4000000 in
theorem tl_X12_takesOver_L2 {l : Launch} {Y : px_Y} {X : px_X} {h0 hh : pe_H} {sz : Nat} (o0 : Nat) (post : Um → Prop) (k_29 : Um → Prop) (ho0 : oc o0 = 10)  (hC : px_C X Y.1 (pm_A hh sz) cX12_takesOver RX12 2) (hM : px_M l X Y.1 hh sz yX12_takesOver cX12_takesOver 2 none 1 0 0) (hR : X.2.2.2.1 = pm_rm 1 0 0) (hk_29 : ∀ (U : Um) (h : pe_H), k_29 U → rF Y h0 U h → pw X Y.1 (pm_A hh sz) (pm_E X Y.1 hh sz 0 0 (pm_P Y h0 sz (pq_v post))) 29 [some (.ref (Y.2.1 o0)), none] [] h sz 0 0) : ∀ (n_ : Nat) (x1 : Int32) (U : Um) (h : pe_H), rF Y h0 U h → w_X12_takesOver_L2 o0 post k_29 n_ x1 U → pw X Y.1 (pm_A hh sz) (pm_E X Y.1 hh sz 0 0 (pm_P Y h0 sz (pq_v post))) 2 [some (.ref (Y.2.1 o0)), some (.int x1)] [] h sz 0 0 := by
  intro n_
  induction n_ with
  | zero => intro x1 U h hU H; exact False.elim H
  | succ n_ ih =>
    intro x1 U h hU H
    replace H : b_X12_takesOver_L2 o0 post k_29 (w_X12_takesOver_L2 o0 post k_29 n_) x1 U := H
    unfold b_X12_takesOver_L2 at H
    refine pr_iload_n hC (by decide +kernel : decode cX12_takesOver 2 = .ok (.iload_n 1, 1)) rfl ?_
    refine pr_bipush hC (7) (by decide +kernel : decode cX12_takesOver 3 = .ok (.bipush 7, 2)) rfl ?_
    refine pr_icmp_ge hC 29 (by decide +kernel : decode cX12_takesOver 5 = .ok (.if_icmp .ge 24, 3)) (by decide) (fun c_5 => ?_) (fun c_5 => ?_)
    · replace H := H.1 c_5
      exact pv_sub [some (.ref (Y.2.1 o0)), none] (And.intro rfl trivial) (hk_29 U h H hU)
    replace H := H.2 c_5
    refine pr_aload_n hC (by decide +kernel : decode cX12_takesOver 8 = .ok (.aload_n 0, 1)) rfl ?_
    refine pu_g1 hC fg_X12_43 (by decide +kernel : decode cX12_takesOver 9 = .ok (.getfield 43, 3)) hU ho0 (by decide) rfl (by decide) ?_
    refine pr_iload_n hC (by decide +kernel : decode cX12_takesOver 12 = .ok (.iload_n 1, 1)) rfl ?_
    refine pr_aload_n hC (by decide +kernel : decode cX12_takesOver 13 = .ok (.aload_n 0, 1)) rfl ?_
    refine pu_g1 hC fg_X12_43 (by decide +kernel : decode cX12_takesOver 14 = .ok (.getfield 43, 3)) hU ho0 (by decide) rfl (by decide) ?_
    refine pr_bipush hC (7) (by decide +kernel : decode cX12_takesOver 17 = .ok (.bipush 7, 2)) rfl ?_
    refine pr_iload_n hC (by decide +kernel : decode cX12_takesOver 19 = .ok (.iload_n 1, 1)) rfl ?_
    refine pr_iadd hC (by decide +kernel : decode cX12_takesOver 20 = .ok (.iadd, 1)) ?_
    refine pu_iald hC (by decide +kernel : decode cX12_takesOver 21 = .ok (.iaload, 1)) hU ho0 rfl H.1 ?_
    replace H := H.2
    refine pv_iast hC (by decide +kernel : decode cX12_takesOver 22 = .ok (.iastore, 1)) hU ho0 rfl H.1 (fun U_1 h e_U_1 hU => ?_)
    replace H := H.2 U_1 e_U_1
    refine pv_iinc hC (v := x1 + 1) (by decide +kernel : decode cX12_takesOver 23 = .ok (.iinc 1 1, 3)) rfl (by decide) rfl rfl (fun x1_2 e_x1_2 => ?_)
    replace H := H x1_2 e_x1_2
    refine pr_goto hC 2 (by decide +kernel : decode cX12_takesOver 26 = .ok (.goto (-24), 3)) (by decide) ?_
    exact pv_sub [some (.ref (Y.2.1 o0)), some (.int x1_2)] (And.intro rfl (And.intro rfl trivial)) (ih _ U_1 h hU H)
set_option maxHeartbeats 4000000 in
theorem tl_X12_takesOver_L31 {l : Launch} {Y : px_Y} {X : px_X} {h0 hh : pe_H} {sz : Nat} (o0 : Nat) (post : Um → Prop) (k_58 : Um → Prop) (ho0 : oc o0 = 10)  (hC : px_C X Y.1 (pm_A hh sz) cX12_takesOver RX12 2) (hM : px_M l X Y.1 hh sz yX12_takesOver cX12_takesOver 2 none 1 0 0) (hR : X.2.2.2.1 = pm_rm 1 0 0) (hk_58 : ∀ (U : Um) (h : pe_H), k_58 U → rF Y h0 U h → pw X Y.1 (pm_A hh sz) (pm_E X Y.1 hh sz 0 0 (pm_P Y h0 sz (pq_v post))) 58 [some (.ref (Y.2.1 o0)), none] [] h sz 0 0) : ∀ (n_ : Nat) (x1 : Int32) (U : Um) (h : pe_H), rF Y h0 U h → w_X12_takesOver_L31 o0 post k_58 n_ x1 U → pw X Y.1 (pm_A hh sz) (pm_E X Y.1 hh sz 0 0 (pm_P Y h0 sz (pq_v post))) 31 [some (.ref (Y.2.1 o0)), some (.int x1)] [] h sz 0 0 := by
  intro n_
  induction n_ with
  | zero => intro x1 U h hU H; exact False.elim H
  | succ n_ ih =>
    intro x1 U h hU H
    replace H : b_X12_takesOver_L31 o0 post k_58 (w_X12_takesOver_L31 o0 post k_58 n_) x1 U := H
    unfold b_X12_takesOver_L31 at H
    refine pr_iload_n hC (by decide +kernel : decode cX12_takesOver 31 = .ok (.iload_n 1, 1)) rfl ?_
    refine pr_bipush hC (6) (by decide +kernel : decode cX12_takesOver 32 = .ok (.bipush 6, 2)) rfl ?_
    refine pr_icmp_ge hC 58 (by decide +kernel : decode cX12_takesOver 34 = .ok (.if_icmp .ge 24, 3)) (by decide) (fun c_34 => ?_) (fun c_34 => ?_)
    · replace H := H.1 c_34
      exact pv_sub [some (.ref (Y.2.1 o0)), none] (And.intro rfl trivial) (hk_58 U h H hU)
    replace H := H.2 c_34
    refine pr_aload_n hC (by decide +kernel : decode cX12_takesOver 37 = .ok (.aload_n 0, 1)) rfl ?_
    refine pu_g1 hC fg_X12_9 (by decide +kernel : decode cX12_takesOver 38 = .ok (.getfield 9, 3)) hU ho0 (by decide) rfl (by decide) ?_
    refine pr_iload_n hC (by decide +kernel : decode cX12_takesOver 41 = .ok (.iload_n 1, 1)) rfl ?_
    refine pr_aload_n hC (by decide +kernel : decode cX12_takesOver 42 = .ok (.aload_n 0, 1)) rfl ?_
    refine pu_g1 hC fg_X12_9 (by decide +kernel : decode cX12_takesOver 43 = .ok (.getfield 9, 3)) hU ho0 (by decide) rfl (by decide) ?_
    refine pr_bipush hC (6) (by decide +kernel : decode cX12_takesOver 46 = .ok (.bipush 6, 2)) rfl ?_
    refine pr_iload_n hC (by decide +kernel : decode cX12_takesOver 48 = .ok (.iload_n 1, 1)) rfl ?_
    refine pr_iadd hC (by decide +kernel : decode cX12_takesOver 49 = .ok (.iadd, 1)) ?_
    refine pu_lald hC (by decide +kernel : decode cX12_takesOver 50 = .ok (.laload, 1)) hU ho0 rfl H.1 ?_
    replace H := H.2
    refine pv_last hC (by decide +kernel : decode cX12_takesOver 51 = .ok (.lastore, 1)) hU ho0 rfl H.1 (fun U_4 h e_U_4 hU => ?_)
    replace H := H.2 U_4 e_U_4
    refine pv_iinc hC (v := x1 + 1) (by decide +kernel : decode cX12_takesOver 52 = .ok (.iinc 1 1, 3)) rfl (by decide) rfl rfl (fun x1_5 e_x1_5 => ?_)
    replace H := H x1_5 e_x1_5
    refine pr_goto hC 31 (by decide +kernel : decode cX12_takesOver 55 = .ok (.goto (-24), 3)) (by decide) ?_
    exact pv_sub [some (.ref (Y.2.1 o0)), some (.int x1_5)] (And.intro rfl (And.intro rfl trivial)) (ih _ U_4 h hU H)
set_option maxHeartbeats 4000000 in
theorem tl_X12_takesOver_L60 {l : Launch} {Y : px_Y} {X : px_X} {h0 hh : pe_H} {sz : Nat} (o0 : Nat) (post : Um → Prop) (k_87 : Um → Prop) (ho0 : oc o0 = 10)  (hC : px_C X Y.1 (pm_A hh sz) cX12_takesOver RX12 2) (hM : px_M l X Y.1 hh sz yX12_takesOver cX12_takesOver 2 none 1 0 0) (hR : X.2.2.2.1 = pm_rm 1 0 0) (hk_87 : ∀ (U : Um) (h : pe_H), k_87 U → rF Y h0 U h → pw X Y.1 (pm_A hh sz) (pm_E X Y.1 hh sz 0 0 (pm_P Y h0 sz (pq_v post))) 87 [some (.ref (Y.2.1 o0)), none] [] h sz 0 0) : ∀ (n_ : Nat) (x1 : Int32) (U : Um) (h : pe_H), rF Y h0 U h → w_X12_takesOver_L60 o0 post k_87 n_ x1 U → pw X Y.1 (pm_A hh sz) (pm_E X Y.1 hh sz 0 0 (pm_P Y h0 sz (pq_v post))) 60 [some (.ref (Y.2.1 o0)), some (.int x1)] [] h sz 0 0 := by
  intro n_
  induction n_ with
  | zero => intro x1 U h hU H; exact False.elim H
  | succ n_ ih =>
    intro x1 U h hU H
    replace H : b_X12_takesOver_L60 o0 post k_87 (w_X12_takesOver_L60 o0 post k_87 n_) x1 U := H
    unfold b_X12_takesOver_L60 at H
    refine pr_iload_n hC (by decide +kernel : decode cX12_takesOver 60 = .ok (.iload_n 1, 1)) rfl ?_
    refine pr_bipush hC (36) (by decide +kernel : decode cX12_takesOver 61 = .ok (.bipush 36, 2)) rfl ?_
    refine pr_icmp_ge hC 87 (by decide +kernel : decode cX12_takesOver 63 = .ok (.if_icmp .ge 24, 3)) (by decide) (fun c_63 => ?_) (fun c_63 => ?_)
    · replace H := H.1 c_63
      exact pv_sub [some (.ref (Y.2.1 o0)), none] (And.intro rfl trivial) (hk_87 U h H hU)
    replace H := H.2 c_63
    refine pr_aload_n hC (by decide +kernel : decode cX12_takesOver 66 = .ok (.aload_n 0, 1)) rfl ?_
    refine pu_g1 hC fg_X12_15 (by decide +kernel : decode cX12_takesOver 67 = .ok (.getfield 15, 3)) hU ho0 (by decide) rfl (by decide) ?_
    refine pr_iload_n hC (by decide +kernel : decode cX12_takesOver 70 = .ok (.iload_n 1, 1)) rfl ?_
    refine pr_aload_n hC (by decide +kernel : decode cX12_takesOver 71 = .ok (.aload_n 0, 1)) rfl ?_
    refine pu_g1 hC fg_X12_15 (by decide +kernel : decode cX12_takesOver 72 = .ok (.getfield 15, 3)) hU ho0 (by decide) rfl (by decide) ?_
    refine pr_bipush hC (36) (by decide +kernel : decode cX12_takesOver 75 = .ok (.bipush 36, 2)) rfl ?_
    refine pr_iload_n hC (by decide +kernel : decode cX12_takesOver 77 = .ok (.iload_n 1, 1)) rfl ?_
    refine pr_iadd hC (by decide +kernel : decode cX12_takesOver 78 = .ok (.iadd, 1)) ?_
    refine pu_iald hC (by decide +kernel : decode cX12_takesOver 79 = .ok (.iaload, 1)) hU ho0 rfl H.1 ?_
    replace H := H.2
    refine pv_iast hC (by decide +kernel : decode cX12_takesOver 80 = .ok (.iastore, 1)) hU ho0 rfl H.1 (fun U_7 h e_U_7 hU => ?_)
    replace H := H.2 U_7 e_U_7
    refine pv_iinc hC (v := x1 + 1) (by decide +kernel : decode cX12_takesOver 81 = .ok (.iinc 1 1, 3)) rfl (by decide) rfl rfl (fun x1_8 e_x1_8 => ?_)
    replace H := H x1_8 e_x1_8
    refine pr_goto hC 60 (by decide +kernel : decode cX12_takesOver 84 = .ok (.goto (-24), 3)) (by decide) ?_
    exact pv_sub [some (.ref (Y.2.1 o0)), some (.int x1_8)] (And.intro rfl (And.intro rfl trivial)) (ih _ U_7 h hU H)
set_option maxHeartbeats 4000000 in
theorem tl_X12_takesOver_L89 {l : Launch} {Y : px_Y} {X : px_X} {h0 hh : pe_H} {sz : Nat} (o0 : Nat) (post : Um → Prop) (k_116 : Um → Prop) (ho0 : oc o0 = 10)  (hC : px_C X Y.1 (pm_A hh sz) cX12_takesOver RX12 2) (hM : px_M l X Y.1 hh sz yX12_takesOver cX12_takesOver 2 none 1 0 0) (hR : X.2.2.2.1 = pm_rm 1 0 0) (hk_116 : ∀ (U : Um) (h : pe_H), k_116 U → rF Y h0 U h → pw X Y.1 (pm_A hh sz) (pm_E X Y.1 hh sz 0 0 (pm_P Y h0 sz (pq_v post))) 116 [some (.ref (Y.2.1 o0)), none] [] h sz 0 0) : ∀ (n_ : Nat) (x1 : Int32) (U : Um) (h : pe_H), rF Y h0 U h → w_X12_takesOver_L89 o0 post k_116 n_ x1 U → pw X Y.1 (pm_A hh sz) (pm_E X Y.1 hh sz 0 0 (pm_P Y h0 sz (pq_v post))) 89 [some (.ref (Y.2.1 o0)), some (.int x1)] [] h sz 0 0 := by
  intro n_
  induction n_ with
  | zero => intro x1 U h hU H; exact False.elim H
  | succ n_ ih =>
    intro x1 U h hU H
    replace H : b_X12_takesOver_L89 o0 post k_116 (w_X12_takesOver_L89 o0 post k_116 n_) x1 U := H
    unfold b_X12_takesOver_L89 at H
    refine pr_iload_n hC (by decide +kernel : decode cX12_takesOver 89 = .ok (.iload_n 1, 1)) rfl ?_
    refine pr_bipush hC (8) (by decide +kernel : decode cX12_takesOver 90 = .ok (.bipush 8, 2)) rfl ?_
    refine pr_icmp_ge hC 116 (by decide +kernel : decode cX12_takesOver 92 = .ok (.if_icmp .ge 24, 3)) (by decide) (fun c_92 => ?_) (fun c_92 => ?_)
    · replace H := H.1 c_92
      exact pv_sub [some (.ref (Y.2.1 o0)), none] (And.intro rfl trivial) (hk_116 U h H hU)
    replace H := H.2 c_92
    refine pr_aload_n hC (by decide +kernel : decode cX12_takesOver 95 = .ok (.aload_n 0, 1)) rfl ?_
    refine pu_g1 hC fg_X12_22 (by decide +kernel : decode cX12_takesOver 96 = .ok (.getfield 22, 3)) hU ho0 (by decide) rfl (by decide) ?_
    refine pr_iload_n hC (by decide +kernel : decode cX12_takesOver 99 = .ok (.iload_n 1, 1)) rfl ?_
    refine pr_aload_n hC (by decide +kernel : decode cX12_takesOver 100 = .ok (.aload_n 0, 1)) rfl ?_
    refine pu_g1 hC fg_X12_22 (by decide +kernel : decode cX12_takesOver 101 = .ok (.getfield 22, 3)) hU ho0 (by decide) rfl (by decide) ?_
    refine pr_bipush hC (8) (by decide +kernel : decode cX12_takesOver 104 = .ok (.bipush 8, 2)) rfl ?_
    refine pr_iload_n hC (by decide +kernel : decode cX12_takesOver 106 = .ok (.iload_n 1, 1)) rfl ?_
    refine pr_iadd hC (by decide +kernel : decode cX12_takesOver 107 = .ok (.iadd, 1)) ?_
    refine pu_lald hC (by decide +kernel : decode cX12_takesOver 108 = .ok (.laload, 1)) hU ho0 rfl H.1 ?_
    replace H := H.2
    refine pv_last hC (by decide +kernel : decode cX12_takesOver 109 = .ok (.lastore, 1)) hU ho0 rfl H.1 (fun U_10 h e_U_10 hU => ?_)
    replace H := H.2 U_10 e_U_10
    refine pv_iinc hC (v := x1 + 1) (by decide +kernel : decode cX12_takesOver 110 = .ok (.iinc 1 1, 3)) rfl (by decide) rfl rfl (fun x1_11 e_x1_11 => ?_)
    replace H := H x1_11 e_x1_11
    refine pr_goto hC 89 (by decide +kernel : decode cX12_takesOver 113 = .ok (.goto (-24), 3)) (by decide) ?_
    exact pv_sub [some (.ref (Y.2.1 o0)), some (.int x1_11)] (And.intro rfl (And.intro rfl trivial)) (ih _ U_10 h hU H)
set_option maxHeartbeats 4000000 in
theorem tl_X12_takesOver_L118 {l : Launch} {Y : px_Y} {X : px_X} {h0 hh : pe_H} {sz : Nat} (o0 : Nat) (post : Um → Prop) (k_147 : Um → Prop) (ho0 : oc o0 = 10)  (hC : px_C X Y.1 (pm_A hh sz) cX12_takesOver RX12 2) (hM : px_M l X Y.1 hh sz yX12_takesOver cX12_takesOver 2 none 1 0 0) (hR : X.2.2.2.1 = pm_rm 1 0 0) (hk_147 : ∀ (U : Um) (h : pe_H), k_147 U → rF Y h0 U h → pw X Y.1 (pm_A hh sz) (pm_E X Y.1 hh sz 0 0 (pm_P Y h0 sz (pq_v post))) 147 [some (.ref (Y.2.1 o0)), none] [] h sz 0 0) : ∀ (n_ : Nat) (x1 : Int32) (U : Um) (h : pe_H), rF Y h0 U h → w_X12_takesOver_L118 o0 post k_147 n_ x1 U → pw X Y.1 (pm_A hh sz) (pm_E X Y.1 hh sz 0 0 (pm_P Y h0 sz (pq_v post))) 118 [some (.ref (Y.2.1 o0)), some (.int x1)] [] h sz 0 0 := by
  intro n_
  induction n_ with
  | zero => intro x1 U h hU H; exact False.elim H
  | succ n_ ih =>
    intro x1 U h hU H
    replace H : b_X12_takesOver_L118 o0 post k_147 (w_X12_takesOver_L118 o0 post k_147 n_) x1 U := H
    unfold b_X12_takesOver_L118 at H
    refine pr_iload_n hC (by decide +kernel : decode cX12_takesOver 118 = .ok (.iload_n 1, 1)) rfl ?_
    refine pr_sipush hC (128) (by decide +kernel : decode cX12_takesOver 119 = .ok (.sipush 128, 3)) rfl ?_
    refine pr_icmp_ge hC 147 (by decide +kernel : decode cX12_takesOver 122 = .ok (.if_icmp .ge 25, 3)) (by decide) (fun c_122 => ?_) (fun c_122 => ?_)
    · replace H := H.1 c_122
      exact pv_sub [some (.ref (Y.2.1 o0)), none] (And.intro rfl trivial) (hk_147 U h H hU)
    replace H := H.2 c_122
    refine pr_aload_n hC (by decide +kernel : decode cX12_takesOver 125 = .ok (.aload_n 0, 1)) rfl ?_
    refine pu_g1 hC fg_X12_40 (by decide +kernel : decode cX12_takesOver 126 = .ok (.getfield 40, 3)) hU ho0 (by decide) rfl (by decide) ?_
    refine pr_iload_n hC (by decide +kernel : decode cX12_takesOver 129 = .ok (.iload_n 1, 1)) rfl ?_
    refine pr_aload_n hC (by decide +kernel : decode cX12_takesOver 130 = .ok (.aload_n 0, 1)) rfl ?_
    refine pu_g1 hC fg_X12_40 (by decide +kernel : decode cX12_takesOver 131 = .ok (.getfield 40, 3)) hU ho0 (by decide) rfl (by decide) ?_
    refine pr_sipush hC (128) (by decide +kernel : decode cX12_takesOver 134 = .ok (.sipush 128, 3)) rfl ?_
    refine pr_iload_n hC (by decide +kernel : decode cX12_takesOver 137 = .ok (.iload_n 1, 1)) rfl ?_
    refine pr_iadd hC (by decide +kernel : decode cX12_takesOver 138 = .ok (.iadd, 1)) ?_
    refine pu_iald hC (by decide +kernel : decode cX12_takesOver 139 = .ok (.iaload, 1)) hU ho0 rfl H.1 ?_
    replace H := H.2
    refine pv_iast hC (by decide +kernel : decode cX12_takesOver 140 = .ok (.iastore, 1)) hU ho0 rfl H.1 (fun U_13 h e_U_13 hU => ?_)
    replace H := H.2 U_13 e_U_13
    refine pv_iinc hC (v := x1 + 1) (by decide +kernel : decode cX12_takesOver 141 = .ok (.iinc 1 1, 3)) rfl (by decide) rfl rfl (fun x1_14 e_x1_14 => ?_)
    replace H := H x1_14 e_x1_14
    refine pr_goto hC 118 (by decide +kernel : decode cX12_takesOver 144 = .ok (.goto (-26), 3)) (by decide) ?_
    exact pv_sub [some (.ref (Y.2.1 o0)), some (.int x1_14)] (And.intro rfl (And.intro rfl trivial)) (ih _ U_13 h hU H)
set_option maxHeartbeats 4000000 in
theorem tl_X12_takesOver_L157 {l : Launch} {Y : px_Y} {X : px_X} {h0 hh : pe_H} {sz : Nat} (o0 : Nat) (post : Um → Prop) (k_203 : Um → Prop) (ho0 : oc o0 = 10)  (hC : px_C X Y.1 (pm_A hh sz) cX12_takesOver RX12 2) (hM : px_M l X Y.1 hh sz yX12_takesOver cX12_takesOver 2 none 1 0 0) (hR : X.2.2.2.1 = pm_rm 1 0 0) (hk_203 : ∀ (U : Um) (h : pe_H), k_203 U → rF Y h0 U h → pw X Y.1 (pm_A hh sz) (pm_E X Y.1 hh sz 0 0 (pm_P Y h0 sz (pq_v post))) 203 [some (.ref (Y.2.1 o0)), none] [] h sz 0 0) : ∀ (n_ : Nat) (x1 : Int32) (U : Um) (h : pe_H), rF Y h0 U h → w_X12_takesOver_L157 o0 post k_203 n_ x1 U → pw X Y.1 (pm_A hh sz) (pm_E X Y.1 hh sz 0 0 (pm_P Y h0 sz (pq_v post))) 157 [some (.ref (Y.2.1 o0)), some (.int x1)] [] h sz 0 0 := by
  intro n_
  induction n_ with
  | zero => intro x1 U h hU H; exact False.elim H
  | succ n_ ih =>
    intro x1 U h hU H
    replace H : b_X12_takesOver_L157 o0 post k_203 (w_X12_takesOver_L157 o0 post k_203 n_) x1 U := H
    unfold b_X12_takesOver_L157 at H
    refine pr_iload_n hC (by decide +kernel : decode cX12_takesOver 157 = .ok (.iload_n 1, 1)) rfl ?_
    refine pr_aload_n hC (by decide +kernel : decode cX12_takesOver 158 = .ok (.aload_n 0, 1)) rfl ?_
    refine pu_g0 hC fg_X12_340 (by decide +kernel : decode cX12_takesOver 159 = .ok (.getfield 340, 3)) hU ho0 (by decide) rfl rfl ?_
    refine pr_icmp_ge hC 203 (by decide +kernel : decode cX12_takesOver 162 = .ok (.if_icmp .ge 41, 3)) (by decide) (fun c_162 => ?_) (fun c_162 => ?_)
    · replace H := H.1 c_162
      exact pv_sub [some (.ref (Y.2.1 o0)), none] (And.intro rfl trivial) (hk_203 U h H hU)
    replace H := H.2 c_162
    refine pr_aload_n hC (by decide +kernel : decode cX12_takesOver 165 = .ok (.aload_n 0, 1)) rfl ?_
    refine pu_g1 hC fg_X12_46 (by decide +kernel : decode cX12_takesOver 166 = .ok (.getfield 46, 3)) hU ho0 (by decide) rfl (by decide) ?_
    refine pr_iload_n hC (by decide +kernel : decode cX12_takesOver 169 = .ok (.iload_n 1, 1)) rfl ?_
    refine pr_aload_n hC (by decide +kernel : decode cX12_takesOver 170 = .ok (.aload_n 0, 1)) rfl ?_
    refine pu_g1 hC fg_X12_46 (by decide +kernel : decode cX12_takesOver 171 = .ok (.getfield 46, 3)) hU ho0 (by decide) rfl (by decide) ?_
    refine pr_sipush hC (1300) (by decide +kernel : decode cX12_takesOver 174 = .ok (.sipush 1300, 3)) rfl ?_
    refine pr_iload_n hC (by decide +kernel : decode cX12_takesOver 177 = .ok (.iload_n 1, 1)) rfl ?_
    refine pr_iadd hC (by decide +kernel : decode cX12_takesOver 178 = .ok (.iadd, 1)) ?_
    refine pu_iald hC (by decide +kernel : decode cX12_takesOver 179 = .ok (.iaload, 1)) hU ho0 rfl H.1 ?_
    replace H := H.2
    refine pv_iast hC (by decide +kernel : decode cX12_takesOver 180 = .ok (.iastore, 1)) hU ho0 rfl H.1 (fun U_17 h e_U_17 hU => ?_)
    replace H := H.2 U_17 e_U_17
    refine pr_aload_n hC (by decide +kernel : decode cX12_takesOver 181 = .ok (.aload_n 0, 1)) rfl ?_
    refine pu_g1 hC fg_X12_49 (by decide +kernel : decode cX12_takesOver 182 = .ok (.getfield 49, 3)) hU ho0 (by decide) rfl (by decide) ?_
    refine pr_iload_n hC (by decide +kernel : decode cX12_takesOver 185 = .ok (.iload_n 1, 1)) rfl ?_
    refine pr_aload_n hC (by decide +kernel : decode cX12_takesOver 186 = .ok (.aload_n 0, 1)) rfl ?_
    refine pu_g1 hC fg_X12_49 (by decide +kernel : decode cX12_takesOver 187 = .ok (.getfield 49, 3)) hU ho0 (by decide) rfl (by decide) ?_
    refine pr_sipush hC (1300) (by decide +kernel : decode cX12_takesOver 190 = .ok (.sipush 1300, 3)) rfl ?_
    refine pr_iload_n hC (by decide +kernel : decode cX12_takesOver 193 = .ok (.iload_n 1, 1)) rfl ?_
    refine pr_iadd hC (by decide +kernel : decode cX12_takesOver 194 = .ok (.iadd, 1)) ?_
    refine pu_iald hC (by decide +kernel : decode cX12_takesOver 195 = .ok (.iaload, 1)) hU ho0 rfl H.1 ?_
    replace H := H.2
    refine pv_iast hC (by decide +kernel : decode cX12_takesOver 196 = .ok (.iastore, 1)) hU ho0 rfl H.1 (fun U_18 h e_U_18 hU => ?_)
    replace H := H.2 U_18 e_U_18
    refine pv_iinc hC (v := x1 + 1) (by decide +kernel : decode cX12_takesOver 197 = .ok (.iinc 1 1, 3)) rfl (by decide) rfl rfl (fun x1_19 e_x1_19 => ?_)
    replace H := H x1_19 e_x1_19
    refine pr_goto hC 157 (by decide +kernel : decode cX12_takesOver 200 = .ok (.goto (-43), 3)) (by decide) ?_
    exact pv_sub [some (.ref (Y.2.1 o0)), some (.int x1_19)] (And.intro rfl (And.intro rfl trivial)) (ih _ U_18 h hU H)
set_option maxHeartbeats 4000000 in
theorem tl_X12_takesOver_L205 {l : Launch} {Y : px_Y} {X : px_X} {h0 hh : pe_H} {sz : Nat} (o0 : Nat) (post : Um → Prop) (k_308 : Um → Prop) (ho0 : oc o0 = 10)  (hC : px_C X Y.1 (pm_A hh sz) cX12_takesOver RX12 2) (hM : px_M l X Y.1 hh sz yX12_takesOver cX12_takesOver 2 none 1 0 0) (hR : X.2.2.2.1 = pm_rm 1 0 0) (hk_308 : ∀ (U : Um) (h : pe_H), k_308 U → rF Y h0 U h → pw X Y.1 (pm_A hh sz) (pm_E X Y.1 hh sz 0 0 (pm_P Y h0 sz (pq_v post))) 308 [some (.ref (Y.2.1 o0)), none] [] h sz 0 0) : ∀ (n_ : Nat) (x1 : Int32) (U : Um) (h : pe_H), rF Y h0 U h → w_X12_takesOver_L205 o0 post k_308 n_ x1 U → pw X Y.1 (pm_A hh sz) (pm_E X Y.1 hh sz 0 0 (pm_P Y h0 sz (pq_v post))) 205 [some (.ref (Y.2.1 o0)), some (.int x1)] [] h sz 0 0 := by
  intro n_
  induction n_ with
  | zero => intro x1 U h hU H; exact False.elim H
  | succ n_ ih =>
    intro x1 U h hU H
    replace H : b_X12_takesOver_L205 o0 post k_308 (w_X12_takesOver_L205 o0 post k_308 n_) x1 U := H
    unfold b_X12_takesOver_L205 at H
    refine pr_iload_n hC (by decide +kernel : decode cX12_takesOver 205 = .ok (.iload_n 1, 1)) rfl ?_
    refine pr_bipush hC (10) (by decide +kernel : decode cX12_takesOver 206 = .ok (.bipush 10, 2)) rfl ?_
    refine pr_icmp_ge hC 308 (by decide +kernel : decode cX12_takesOver 208 = .ok (.if_icmp .ge 100, 3)) (by decide) (fun c_208 => ?_) (fun c_208 => ?_)
    · replace H := H.1 c_208
      exact pv_sub [some (.ref (Y.2.1 o0)), none] (And.intro rfl trivial) (hk_308 U h H hU)
    replace H := H.2 c_208
    refine pr_aload_n hC (by decide +kernel : decode cX12_takesOver 211 = .ok (.aload_n 0, 1)) rfl ?_
    refine pu_g1 hC fg_X12_25 (by decide +kernel : decode cX12_takesOver 212 = .ok (.getfield 25, 3)) hU ho0 (by decide) rfl (by decide) ?_
    refine pr_iload_n hC (by decide +kernel : decode cX12_takesOver 215 = .ok (.iload_n 1, 1)) rfl ?_
    refine pr_aload_n hC (by decide +kernel : decode cX12_takesOver 216 = .ok (.aload_n 0, 1)) rfl ?_
    refine pu_g1 hC fg_X12_25 (by decide +kernel : decode cX12_takesOver 217 = .ok (.getfield 25, 3)) hU ho0 (by decide) rfl (by decide) ?_
    refine pr_bipush hC (10) (by decide +kernel : decode cX12_takesOver 220 = .ok (.bipush 10, 2)) rfl ?_
    refine pr_iload_n hC (by decide +kernel : decode cX12_takesOver 222 = .ok (.iload_n 1, 1)) rfl ?_
    refine pr_iadd hC (by decide +kernel : decode cX12_takesOver 223 = .ok (.iadd, 1)) ?_
    refine pu_lald hC (by decide +kernel : decode cX12_takesOver 224 = .ok (.laload, 1)) hU ho0 rfl H.1 ?_
    replace H := H.2
    refine pv_last hC (by decide +kernel : decode cX12_takesOver 225 = .ok (.lastore, 1)) hU ho0 rfl H.1 (fun U_21 h e_U_21 hU => ?_)
    replace H := H.2 U_21 e_U_21
    refine pr_aload_n hC (by decide +kernel : decode cX12_takesOver 226 = .ok (.aload_n 0, 1)) rfl ?_
    refine pu_g1 hC fg_X12_28 (by decide +kernel : decode cX12_takesOver 227 = .ok (.getfield 28, 3)) hU ho0 (by decide) rfl (by decide) ?_
    refine pr_iload_n hC (by decide +kernel : decode cX12_takesOver 230 = .ok (.iload_n 1, 1)) rfl ?_
    refine pr_aload_n hC (by decide +kernel : decode cX12_takesOver 231 = .ok (.aload_n 0, 1)) rfl ?_
    refine pu_g1 hC fg_X12_28 (by decide +kernel : decode cX12_takesOver 232 = .ok (.getfield 28, 3)) hU ho0 (by decide) rfl (by decide) ?_
    refine pr_bipush hC (10) (by decide +kernel : decode cX12_takesOver 235 = .ok (.bipush 10, 2)) rfl ?_
    refine pr_iload_n hC (by decide +kernel : decode cX12_takesOver 237 = .ok (.iload_n 1, 1)) rfl ?_
    refine pr_iadd hC (by decide +kernel : decode cX12_takesOver 238 = .ok (.iadd, 1)) ?_
    refine pu_iald hC (by decide +kernel : decode cX12_takesOver 239 = .ok (.iaload, 1)) hU ho0 rfl H.1 ?_
    replace H := H.2
    refine pv_iast hC (by decide +kernel : decode cX12_takesOver 240 = .ok (.iastore, 1)) hU ho0 rfl H.1 (fun U_22 h e_U_22 hU => ?_)
    replace H := H.2 U_22 e_U_22
    refine pr_aload_n hC (by decide +kernel : decode cX12_takesOver 241 = .ok (.aload_n 0, 1)) rfl ?_
    refine pu_g1 hC fg_X12_31 (by decide +kernel : decode cX12_takesOver 242 = .ok (.getfield 31, 3)) hU ho0 (by decide) rfl (by decide) ?_
    refine pr_iload_n hC (by decide +kernel : decode cX12_takesOver 245 = .ok (.iload_n 1, 1)) rfl ?_
    refine pr_aload_n hC (by decide +kernel : decode cX12_takesOver 246 = .ok (.aload_n 0, 1)) rfl ?_
    refine pu_g1 hC fg_X12_31 (by decide +kernel : decode cX12_takesOver 247 = .ok (.getfield 31, 3)) hU ho0 (by decide) rfl (by decide) ?_
    refine pr_bipush hC (10) (by decide +kernel : decode cX12_takesOver 250 = .ok (.bipush 10, 2)) rfl ?_
    refine pr_iload_n hC (by decide +kernel : decode cX12_takesOver 252 = .ok (.iload_n 1, 1)) rfl ?_
    refine pr_iadd hC (by decide +kernel : decode cX12_takesOver 253 = .ok (.iadd, 1)) ?_
    refine pu_iald hC (by decide +kernel : decode cX12_takesOver 254 = .ok (.iaload, 1)) hU ho0 rfl H.1 ?_
    replace H := H.2
    refine pv_iast hC (by decide +kernel : decode cX12_takesOver 255 = .ok (.iastore, 1)) hU ho0 rfl H.1 (fun U_23 h e_U_23 hU => ?_)
    replace H := H.2 U_23 e_U_23
    refine pr_aload_n hC (by decide +kernel : decode cX12_takesOver 256 = .ok (.aload_n 0, 1)) rfl ?_
    refine pu_g1 hC fg_X12_34 (by decide +kernel : decode cX12_takesOver 257 = .ok (.getfield 34, 3)) hU ho0 (by decide) rfl (by decide) ?_
    refine pr_iload_n hC (by decide +kernel : decode cX12_takesOver 260 = .ok (.iload_n 1, 1)) rfl ?_
    refine pr_aload_n hC (by decide +kernel : decode cX12_takesOver 261 = .ok (.aload_n 0, 1)) rfl ?_
    refine pu_g1 hC fg_X12_34 (by decide +kernel : decode cX12_takesOver 262 = .ok (.getfield 34, 3)) hU ho0 (by decide) rfl (by decide) ?_
    refine pr_bipush hC (10) (by decide +kernel : decode cX12_takesOver 265 = .ok (.bipush 10, 2)) rfl ?_
    refine pr_iload_n hC (by decide +kernel : decode cX12_takesOver 267 = .ok (.iload_n 1, 1)) rfl ?_
    refine pr_iadd hC (by decide +kernel : decode cX12_takesOver 268 = .ok (.iadd, 1)) ?_
    refine pu_iald hC (by decide +kernel : decode cX12_takesOver 269 = .ok (.iaload, 1)) hU ho0 rfl H.1 ?_
    replace H := H.2
    refine pv_iast hC (by decide +kernel : decode cX12_takesOver 270 = .ok (.iastore, 1)) hU ho0 rfl H.1 (fun U_24 h e_U_24 hU => ?_)
    replace H := H.2 U_24 e_U_24
    refine pr_aload_n hC (by decide +kernel : decode cX12_takesOver 271 = .ok (.aload_n 0, 1)) rfl ?_
    refine pu_g1 hC fg_X12_65 (by decide +kernel : decode cX12_takesOver 272 = .ok (.getfield 65, 3)) hU ho0 (by decide) rfl (by decide) ?_
    refine pr_iload_n hC (by decide +kernel : decode cX12_takesOver 275 = .ok (.iload_n 1, 1)) rfl ?_
    refine pr_aload_n hC (by decide +kernel : decode cX12_takesOver 276 = .ok (.aload_n 0, 1)) rfl ?_
    refine pu_g1 hC fg_X12_37 (by decide +kernel : decode cX12_takesOver 277 = .ok (.getfield 37, 3)) hU ho0 (by decide) rfl (by decide) ?_
    refine pr_bipush hC (10) (by decide +kernel : decode cX12_takesOver 280 = .ok (.bipush 10, 2)) rfl ?_
    refine pr_iload_n hC (by decide +kernel : decode cX12_takesOver 282 = .ok (.iload_n 1, 1)) rfl ?_
    refine pr_iadd hC (by decide +kernel : decode cX12_takesOver 283 = .ok (.iadd, 1)) ?_
    refine pu_iald hC (by decide +kernel : decode cX12_takesOver 284 = .ok (.iaload, 1)) hU ho0 rfl H.1 ?_
    replace H := H.2
    refine pv_iast hC (by decide +kernel : decode cX12_takesOver 285 = .ok (.iastore, 1)) hU ho0 rfl H.1 (fun U_25 h e_U_25 hU => ?_)
    replace H := H.2 U_25 e_U_25
    refine pr_aload_n hC (by decide +kernel : decode cX12_takesOver 286 = .ok (.aload_n 0, 1)) rfl ?_
    refine pu_g1 hC fg_X12_68 (by decide +kernel : decode cX12_takesOver 287 = .ok (.getfield 68, 3)) hU ho0 (by decide) rfl (by decide) ?_
    refine pr_iload_n hC (by decide +kernel : decode cX12_takesOver 290 = .ok (.iload_n 1, 1)) rfl ?_
    refine pr_iconst hC (0) (by decide +kernel : decode cX12_takesOver 291 = .ok (.iconst 0, 1)) rfl ?_
    refine pv_iast hC (by decide +kernel : decode cX12_takesOver 292 = .ok (.iastore, 1)) hU ho0 rfl H.1 (fun U_26 h e_U_26 hU => ?_)
    replace H := H.2 U_26 e_U_26
    refine pr_aload_n hC (by decide +kernel : decode cX12_takesOver 293 = .ok (.aload_n 0, 1)) rfl ?_
    refine pu_g1 hC fg_X12_71 (by decide +kernel : decode cX12_takesOver 294 = .ok (.getfield 71, 3)) hU ho0 (by decide) rfl (by decide) ?_
    refine pr_iload_n hC (by decide +kernel : decode cX12_takesOver 297 = .ok (.iload_n 1, 1)) rfl ?_
    refine pr_ldcf hC (1112014848) (by decide +kernel : decode cX12_takesOver 298 = .ok (.ldc_w 343, 3)) fk_X12_343 ?_
    refine pv_fast hC (by decide +kernel : decode cX12_takesOver 301 = .ok (.fastore, 1)) hU ho0 rfl H.1 (fun U_27 h e_U_27 hU => ?_)
    replace H := H.2 U_27 e_U_27
    refine pv_iinc hC (v := x1 + 1) (by decide +kernel : decode cX12_takesOver 302 = .ok (.iinc 1 1, 3)) rfl (by decide) rfl rfl (fun x1_28 e_x1_28 => ?_)
    replace H := H x1_28 e_x1_28
    refine pr_goto hC 205 (by decide +kernel : decode cX12_takesOver 305 = .ok (.goto (-100), 3)) (by decide) ?_
    exact pv_sub [some (.ref (Y.2.1 o0)), some (.int x1_28)] (And.intro rfl (And.intro rfl trivial)) (ih _ U_27 h hU H)
set_option maxHeartbeats 4000000 in
theorem tl_X12_takesOver_L310 {l : Launch} {Y : px_Y} {X : px_X} {h0 hh : pe_H} {sz : Nat} (o0 : Nat) (post : Um → Prop) (k_336 : Um → Prop) (ho0 : oc o0 = 10)  (hC : px_C X Y.1 (pm_A hh sz) cX12_takesOver RX12 2) (hM : px_M l X Y.1 hh sz yX12_takesOver cX12_takesOver 2 none 1 0 0) (hR : X.2.2.2.1 = pm_rm 1 0 0) (hk_336 : ∀ (U : Um) (h : pe_H), k_336 U → rF Y h0 U h → pw X Y.1 (pm_A hh sz) (pm_E X Y.1 hh sz 0 0 (pm_P Y h0 sz (pq_v post))) 336 [some (.ref (Y.2.1 o0)), none] [] h sz 0 0) : ∀ (n_ : Nat) (x1 : Int32) (U : Um) (h : pe_H), rF Y h0 U h → w_X12_takesOver_L310 o0 post k_336 n_ x1 U → pw X Y.1 (pm_A hh sz) (pm_E X Y.1 hh sz 0 0 (pm_P Y h0 sz (pq_v post))) 310 [some (.ref (Y.2.1 o0)), some (.int x1)] [] h sz 0 0 := by
  intro n_
  induction n_ with
  | zero => intro x1 U h hU H; exact False.elim H
  | succ n_ ih =>
    intro x1 U h hU H
    replace H : b_X12_takesOver_L310 o0 post k_336 (w_X12_takesOver_L310 o0 post k_336 n_) x1 U := H
    unfold b_X12_takesOver_L310 at H
    refine pr_iload_n hC (by decide +kernel : decode cX12_takesOver 310 = .ok (.iload_n 1, 1)) rfl ?_
    refine pr_bipush hC (48) (by decide +kernel : decode cX12_takesOver 311 = .ok (.bipush 48, 2)) rfl ?_
    refine pr_icmp_ge hC 336 (by decide +kernel : decode cX12_takesOver 313 = .ok (.if_icmp .ge 23, 3)) (by decide) (fun c_313 => ?_) (fun c_313 => ?_)
    · replace H := H.1 c_313
      exact pv_sub [some (.ref (Y.2.1 o0)), none] (And.intro rfl trivial) (hk_336 U h H hU)
    replace H := H.2 c_313
    refine pr_aload_n hC (by decide +kernel : decode cX12_takesOver 316 = .ok (.aload_n 0, 1)) rfl ?_
    refine pu_g1 hC fg_X12_59 (by decide +kernel : decode cX12_takesOver 317 = .ok (.getfield 59, 3)) hU ho0 (by decide) rfl (by decide) ?_
    refine pr_iload_n hC (by decide +kernel : decode cX12_takesOver 320 = .ok (.iload_n 1, 1)) rfl ?_
    refine pr_iconst hC (-1) (by decide +kernel : decode cX12_takesOver 321 = .ok (.iconst (-1), 1)) rfl ?_
    refine pv_iast hC (by decide +kernel : decode cX12_takesOver 322 = .ok (.iastore, 1)) hU ho0 rfl H.1 (fun U_30 h e_U_30 hU => ?_)
    replace H := H.2 U_30 e_U_30
    refine pr_aload_n hC (by decide +kernel : decode cX12_takesOver 323 = .ok (.aload_n 0, 1)) rfl ?_
    refine pu_g1 hC fg_X12_62 (by decide +kernel : decode cX12_takesOver 324 = .ok (.getfield 62, 3)) hU ho0 (by decide) rfl (by decide) ?_
    refine pr_iload_n hC (by decide +kernel : decode cX12_takesOver 327 = .ok (.iload_n 1, 1)) rfl ?_
    refine pr_iconst hC (-1) (by decide +kernel : decode cX12_takesOver 328 = .ok (.iconst (-1), 1)) rfl ?_
    refine pv_iast hC (by decide +kernel : decode cX12_takesOver 329 = .ok (.iastore, 1)) hU ho0 rfl H.1 (fun U_31 h e_U_31 hU => ?_)
    replace H := H.2 U_31 e_U_31
    refine pv_iinc hC (v := x1 + 1) (by decide +kernel : decode cX12_takesOver 330 = .ok (.iinc 1 1, 3)) rfl (by decide) rfl rfl (fun x1_32 e_x1_32 => ?_)
    replace H := H x1_32 e_x1_32
    refine pr_goto hC 310 (by decide +kernel : decode cX12_takesOver 333 = .ok (.goto (-23), 3)) (by decide) ?_
    exact pv_sub [some (.ref (Y.2.1 o0)), some (.int x1_32)] (And.intro rfl (And.intro rfl trivial)) (ih _ U_31 h hU H)
set_option maxHeartbeats 4000000 in
theorem t_X12_takesOver {l : Launch} {Y : px_Y} {o : Nat} {U : Um} {post : Um → Prop} (ho : oc o = 10) (H : w_X12_takesOver o U post) : um l Y 1 yX12_takesOver cX12_takesOver 2 none [.ref (Y.2.1 o)] U (pq_v post) := by
  unfold w_X12_takesOver at H
  refine um_of (by decide) (Nat.le_of_ble_eq_true rfl) [some (.ref (Y.2.1 o)), none] rfl (fun X h0 hh sz hM hU => ?_)
  have hC := hM.1
  have hR := hM.2.2.1
  refine pr_iconst hC (0) (by decide +kernel : decode cX12_takesOver 0 = .ok (.iconst 0, 1)) rfl ?_
  refine pr_istore_n hC (by decide +kernel : decode cX12_takesOver 1 = .ok (.istore_n 1, 1)) (by decide) rfl ?_
  obtain ⟨n_45, H⟩ := H
  refine pv_sub [some (.ref (Y.2.1 o)), some (.int 0)] (And.intro rfl (And.intro rfl trivial)) ?_
  refine tl_X12_takesOver_L2 _ _ _ ho hC hM hR (fun U_3 h H hU => ?_) n_45 _ U hh hU H
  refine pr_iconst hC (0) (by decide +kernel : decode cX12_takesOver 29 = .ok (.iconst 0, 1)) rfl ?_
  refine pr_istore_n hC (by decide +kernel : decode cX12_takesOver 30 = .ok (.istore_n 1, 1)) (by decide) rfl ?_
  obtain ⟨n_44, H⟩ := H
  refine pv_sub [some (.ref (Y.2.1 o)), some (.int 0)] (And.intro rfl (And.intro rfl trivial)) ?_
  refine tl_X12_takesOver_L31 _ _ _ ho hC hM hR (fun U_6 h H hU => ?_) n_44 _ U_3 h hU H
  refine pr_iconst hC (0) (by decide +kernel : decode cX12_takesOver 58 = .ok (.iconst 0, 1)) rfl ?_
  refine pr_istore_n hC (by decide +kernel : decode cX12_takesOver 59 = .ok (.istore_n 1, 1)) (by decide) rfl ?_
  obtain ⟨n_43, H⟩ := H
  refine pv_sub [some (.ref (Y.2.1 o)), some (.int 0)] (And.intro rfl (And.intro rfl trivial)) ?_
  refine tl_X12_takesOver_L60 _ _ _ ho hC hM hR (fun U_9 h H hU => ?_) n_43 _ U_6 h hU H
  refine pr_iconst hC (0) (by decide +kernel : decode cX12_takesOver 87 = .ok (.iconst 0, 1)) rfl ?_
  refine pr_istore_n hC (by decide +kernel : decode cX12_takesOver 88 = .ok (.istore_n 1, 1)) (by decide) rfl ?_
  obtain ⟨n_42, H⟩ := H
  refine pv_sub [some (.ref (Y.2.1 o)), some (.int 0)] (And.intro rfl (And.intro rfl trivial)) ?_
  refine tl_X12_takesOver_L89 _ _ _ ho hC hM hR (fun U_12 h H hU => ?_) n_42 _ U_9 h hU H
  refine pr_iconst hC (0) (by decide +kernel : decode cX12_takesOver 116 = .ok (.iconst 0, 1)) rfl ?_
  refine pr_istore_n hC (by decide +kernel : decode cX12_takesOver 117 = .ok (.istore_n 1, 1)) (by decide) rfl ?_
  obtain ⟨n_41, H⟩ := H
  refine pv_sub [some (.ref (Y.2.1 o)), some (.int 0)] (And.intro rfl (And.intro rfl trivial)) ?_
  refine tl_X12_takesOver_L118 _ _ _ ho hC hM hR (fun U_15 h H hU => ?_) n_41 _ U_12 h hU H
  refine pr_aload_n hC (by decide +kernel : decode cX12_takesOver 147 = .ok (.aload_n 0, 1)) rfl ?_
  refine pr_aload_n hC (by decide +kernel : decode cX12_takesOver 148 = .ok (.aload_n 0, 1)) rfl ?_
  refine pu_g0 hC fg_X12_278 (by decide +kernel : decode cX12_takesOver 149 = .ok (.getfield 278, 3)) hU ho (by decide) rfl rfl ?_
  refine pv_p0 hC fp_X12_340 (by decide +kernel : decode cX12_takesOver 152 = .ok (.putfield 340, 3)) hU ho (by decide) rfl rfl rfl rfl (fun U_16 h e_U_16 hU => ?_)
  replace H := H U_16 e_U_16
  refine pr_iconst hC (0) (by decide +kernel : decode cX12_takesOver 155 = .ok (.iconst 0, 1)) rfl ?_
  refine pr_istore_n hC (by decide +kernel : decode cX12_takesOver 156 = .ok (.istore_n 1, 1)) (by decide) rfl ?_
  obtain ⟨n_40, H⟩ := H
  refine pv_sub [some (.ref (Y.2.1 o)), some (.int 0)] (And.intro rfl (And.intro rfl trivial)) ?_
  refine tl_X12_takesOver_L157 _ _ _ ho hC hM hR (fun U_20 h H hU => ?_) n_40 _ U_16 h hU H
  refine pr_iconst hC (0) (by decide +kernel : decode cX12_takesOver 203 = .ok (.iconst 0, 1)) rfl ?_
  refine pr_istore_n hC (by decide +kernel : decode cX12_takesOver 204 = .ok (.istore_n 1, 1)) (by decide) rfl ?_
  obtain ⟨n_39, H⟩ := H
  refine pv_sub [some (.ref (Y.2.1 o)), some (.int 0)] (And.intro rfl (And.intro rfl trivial)) ?_
  refine tl_X12_takesOver_L205 _ _ _ ho hC hM hR (fun U_29 h H hU => ?_) n_39 _ U_20 h hU H
  refine pr_iconst hC (0) (by decide +kernel : decode cX12_takesOver 308 = .ok (.iconst 0, 1)) rfl ?_
  refine pr_istore_n hC (by decide +kernel : decode cX12_takesOver 309 = .ok (.istore_n 1, 1)) (by decide) rfl ?_
  obtain ⟨n_38, H⟩ := H
  refine pv_sub [some (.ref (Y.2.1 o)), some (.int 0)] (And.intro rfl (And.intro rfl trivial)) ?_
  refine tl_X12_takesOver_L310 _ _ _ ho hC hM hR (fun U_33 h H hU => ?_) n_38 _ U_29 h hU H
  refine pr_aload_n hC (by decide +kernel : decode cX12_takesOver 336 = .ok (.aload_n 0, 1)) rfl ?_
  refine pr_iconst hC (-1) (by decide +kernel : decode cX12_takesOver 337 = .ok (.iconst (-1), 1)) rfl ?_
  refine pv_p0 hC fp_X12_75 (by decide +kernel : decode cX12_takesOver 338 = .ok (.putfield 75, 3)) hU ho (by decide) rfl rfl rfl rfl (fun U_34 h e_U_34 hU => ?_)
  replace H := H U_34 e_U_34
  refine pr_aload_n hC (by decide +kernel : decode cX12_takesOver 341 = .ok (.aload_n 0, 1)) rfl ?_
  refine pr_iconst hC (0) (by decide +kernel : decode cX12_takesOver 342 = .ok (.iconst 0, 1)) rfl ?_
  refine pv_p0 hC fp_X12_344 (by decide +kernel : decode cX12_takesOver 343 = .ok (.putfield 344, 3)) hU ho (by decide) rfl rfl rfl rfl (fun U_35 h e_U_35 hU => ?_)
  replace H := H U_35 e_U_35
  refine pr_aload_n hC (by decide +kernel : decode cX12_takesOver 346 = .ok (.aload_n 0, 1)) rfl ?_
  refine vc_Vv hC hR [] fv_X12_347 (by decide +kernel : decode cX12_takesOver 347 = .ok (.invokevirtual 347, 3)) hU (t_X12_laysWays ho H) ho (by decide) rfl rfl rfl (Nat.le_of_ble_eq_true rfl) (Nat.le_of_ble_eq_true rfl) (Nat.le_refl 0) (Nat.le_refl 0) (fun U_36 h H hU => ?_)
  exact pv_vret hM (by decide +kernel : decode cX12_takesOver 350 = .ok (.return_, 1)) hU H
def w_X12_fault (o : Nat) (a1 : Int32) (U : Um) (post : Int32 → Um → Prop) : Prop :=
  ∀ (U_1 : Um), U_1 = sI U o 0 0 → (a1 = 0 → post (uI U_1 o 18) U_1) ∧ (¬ a1 = 0 → (a1 = 1 → post (uI U_1 o 19) U_1) ∧ (¬ a1 = 1 → post (-1) U_1))
set_option maxHeartbeats 4000000 in
theorem t_X12_fault {l : Launch} {Y : px_Y} {o : Nat} {a1 : Int32} {U : Um} {post : Int32 → Um → Prop} (ho : oc o = 10) (H : w_X12_fault o a1 U post) : um l Y 0 yX12_fault cX12_fault 2 (some (.int)) [.ref (Y.2.1 o), .int a1] U (pq_i post) := by
  unfold w_X12_fault at H
  refine um_of (by decide) (Nat.le_of_ble_eq_true rfl) [some (.ref (Y.2.1 o)), some (.int a1)] rfl (fun X h0 hh sz hM hU => ?_)
  have hC := hM.1
  have hR := hM.2.2.1
  refine pr_aload_n hC (by decide +kernel : decode cX12_fault 0 = .ok (.aload_n 0, 1)) rfl ?_
  refine pr_iconst hC (0) (by decide +kernel : decode cX12_fault 1 = .ok (.iconst 0, 1)) rfl ?_
  refine pv_p0 hC fp_X12_121 (by decide +kernel : decode cX12_fault 2 = .ok (.putfield 121, 3)) hU ho (by decide) rfl rfl rfl rfl (fun U_1 h e_U_1 hU => ?_)
  replace H := H U_1 e_U_1
  refine pr_iload_n hC (by decide +kernel : decode cX12_fault 5 = .ok (.iload_n 1, 1)) rfl ?_
  refine pr_if_ne hC 16 (by decide +kernel : decode cX12_fault 6 = .ok (.ifCond .ne 10, 3)) (by decide) (fun c_6 => ?_) (fun c_6 => ?_)
  · replace H := H.2 c_6
    refine pr_iload_n hC (by decide +kernel : decode cX12_fault 16 = .ok (.iload_n 1, 1)) rfl ?_
    refine pr_iconst hC (1) (by decide +kernel : decode cX12_fault 17 = .ok (.iconst 1, 1)) rfl ?_
    refine pr_icmp_ne hC 28 (by decide +kernel : decode cX12_fault 18 = .ok (.if_icmp .ne 10, 3)) (by decide) (fun c_18 => ?_) (fun c_18 => ?_)
    · replace H := H.2 c_18
      refine pr_iconst hC (-1) (by decide +kernel : decode cX12_fault 28 = .ok (.iconst (-1), 1)) rfl ?_
      exact pv_iret hM (by decide +kernel : decode cX12_fault 29 = .ok (.ireturn, 1)) hU H
    replace H := H.1 c_18
    refine pr_aload_n hC (by decide +kernel : decode cX12_fault 21 = .ok (.aload_n 0, 1)) rfl ?_
    refine pu_g0 hC fg_X12_55 (by decide +kernel : decode cX12_fault 22 = .ok (.getfield 55, 3)) hU ho (by decide) rfl rfl ?_
    refine pr_goto hC 29 (by decide +kernel : decode cX12_fault 25 = .ok (.goto 4, 3)) (by decide) ?_
    exact pv_iret hM (by decide +kernel : decode cX12_fault 29 = .ok (.ireturn, 1)) hU H
  replace H := H.1 c_6
  refine pr_aload_n hC (by decide +kernel : decode cX12_fault 9 = .ok (.aload_n 0, 1)) rfl ?_
  refine pu_g0 hC fg_X12_334 (by decide +kernel : decode cX12_fault 10 = .ok (.getfield 334, 3)) hU ho (by decide) rfl rfl ?_
  refine pr_goto hC 29 (by decide +kernel : decode cX12_fault 13 = .ok (.goto 16, 3)) (by decide) ?_
  exact pv_iret hM (by decide +kernel : decode cX12_fault 29 = .ok (.ireturn, 1)) hU H
def b_X12_keeps_L11 (o0 : Nat) (post : Um → Prop) (k_39 : Um → Prop) (rec_ : Int32 → Um → Prop) (x1 : Int32) (U : Um) : Prop :=
  ((819 : Int32) ≤ x1 → k_39 U) ∧ (¬ (819 : Int32) ≤ x1 → vp_in (x1 + 117) 936 ∧ vp_in x1 936 ∧ ∀ (U_1 : Um), U_1 = sA U o0 36 (va_up (uA U o0 36) (Int32.toNatClampNeg x1) (uA U o0 36 (Int32.toNatClampNeg (x1 + 117)))) → ∀ (x1_2 : Int32), x1_2 = x1 + 1 → rec_ x1_2 U_1)
def w_X12_keeps_L11 (o0 : Nat) (post : Um → Prop) (k_39 : Um → Prop) (n_ : Nat) : Int32 → Um → Prop := Nat.rec (motive := fun _ => Int32 → Um → Prop) (fun _ _ => False) (fun _ ih => b_X12_keeps_L11 o0 post k_39 ih) n_
def b_X12_keeps_L41 (o0 : Nat) (post : Um → Prop) (k_68 : Um → Prop) (rec_ : Int32 → Um → Prop) (x1 : Int32) (U : Um) : Prop :=
  ((70 : Int32) ≤ x1 → k_68 U) ∧ (¬ (70 : Int32) ≤ x1 → vp_in (x1 + 10) 80 ∧ vp_in x1 80 ∧ ∀ (U_4 : Um), U_4 = sF U o0 37 (va_up (uF U o0 37) (Int32.toNatClampNeg x1) (uF U o0 37 (Int32.toNatClampNeg (x1 + 10)))) → ∀ (x1_5 : Int32), x1_5 = x1 + 1 → rec_ x1_5 U_4)
def w_X12_keeps_L41 (o0 : Nat) (post : Um → Prop) (k_68 : Um → Prop) (n_ : Nat) : Int32 → Um → Prop := Nat.rec (motive := fun _ => Int32 → Um → Prop) (fun _ _ => False) (fun _ ih => b_X12_keeps_L41 o0 post k_68 ih) n_
def b_X12_keeps_L88 (o0 : Nat) (x1 : Int32) (post : Um → Prop) (k_131 : Um → Prop) (rec_ : Int32 → Um → Prop) (x2 : Int32) (U : Um) : Prop :=
  ((48 : Int32) ≤ x2 → k_131 U) ∧ (¬ (48 : Int32) ≤ x2 → vp_in x2 48 ∧ vp_in (x1 + x2) 936 ∧ ∀ (U_9 : Um), U_9 = sA U o0 36 (va_up (uA U o0 36) (Int32.toNatClampNeg (x1 + x2)) (uA U o0 30 (Int32.toNatClampNeg x2))) → vp_in x2 48 ∧ vp_in ((x1 + 48) + x2) 936 ∧ ∀ (U_10 : Um), U_10 = sA U_9 o0 36 (va_up (uA U_9 o0 36) (Int32.toNatClampNeg ((x1 + 48) + x2)) (uA U_9 o0 31 (Int32.toNatClampNeg x2))) → ∀ (x2_11 : Int32), x2_11 = x2 + 1 → rec_ x2_11 U_10)
def w_X12_keeps_L88 (o0 : Nat) (x1 : Int32) (post : Um → Prop) (k_131 : Um → Prop) (n_ : Nat) : Int32 → Um → Prop := Nat.rec (motive := fun _ => Int32 → Um → Prop) (fun _ _ => False) (fun _ ih => b_X12_keeps_L88 o0 x1 post k_131 ih) n_
def b_X12_keeps_L133 (o0 : Nat) (x1 : Int32) (post : Um → Prop) (k_199 : Um → Prop) (rec_ : Int32 → Um → Prop) (x2 : Int32) (U : Um) : Prop :=
  ((10 : Int32) ≤ x2 → k_199 U) ∧ (¬ (10 : Int32) ≤ x2 → vp_in x2 10 ∧ vp_in ((x1 + 96) + x2) 936 ∧ ∀ (U_13 : Um), U_13 = sA U o0 36 (va_up (uA U o0 36) (Int32.toNatClampNeg ((x1 + 96) + x2)) (uA U o0 32 (Int32.toNatClampNeg x2))) → vp_in x2 10 ∧ vp_in ((x1 + 106) + x2) 936 ∧ ∀ (U_14 : Um), U_14 = sA U_13 o0 36 (va_up (uA U_13 o0 36) (Int32.toNatClampNeg ((x1 + 106) + x2)) (uA U_13 o0 33 (Int32.toNatClampNeg x2))) → vp_in x2 10 ∧ vp_in ((10 * (uI U_14 o0 38)) + x2) 80 ∧ ∀ (U_15 : Um), U_15 = sF U_14 o0 37 (va_up (uF U_14 o0 37) (Int32.toNatClampNeg ((10 * (uI U_14 o0 38)) + x2)) (uF U_14 o0 34 (Int32.toNatClampNeg x2))) → ∀ (x2_16 : Int32), x2_16 = x2 + 1 → rec_ x2_16 U_15)
def w_X12_keeps_L133 (o0 : Nat) (x1 : Int32) (post : Um → Prop) (k_199 : Um → Prop) (n_ : Nat) : Int32 → Um → Prop := Nat.rec (motive := fun _ => Int32 → Um → Prop) (fun _ _ => False) (fun _ ih => b_X12_keeps_L133 o0 x1 post k_199 ih) n_
def w_X12_keeps (o : Nat) (U : Um) (post : Um → Prop) : Prop :=
  ((uI U o 38) = 8 → (∃ n_23, w_X12_keeps_L11 o post (fun U_3 => (∃ n_22, w_X12_keeps_L41 o post (fun U_6 => ∀ (U_7 : Um), U_7 = sI U_6 o 38 ((uI U_6 o 38) - 1) → ∀ (x1_8 : Int32), x1_8 = 117 * (uI U_7 o 38) → (∃ n_21, w_X12_keeps_L88 o x1_8 post (fun U_12 => (∃ n_20, w_X12_keeps_L133 o x1_8 post (fun U_17 => vp_in (x1_8 + 116) 936 ∧ ∀ (U_18 : Um), U_18 = sA U_17 o 36 (va_up (uA U_17 o 36) (Int32.toNatClampNeg (x1_8 + 116)) (uI U_17 o 35)) → ∀ (U_19 : Um), U_19 = sI U_18 o 38 ((uI U_18 o 38) + 1) → post U_19) n_20 0 U_12)) n_21 0 U_7)) n_22 0 U_3)) n_23 0 U)) ∧ (¬ (uI U o 38) = 8 → ∀ (x1_24 : Int32), x1_24 = 117 * (uI U o 38) → (∃ n_30, w_X12_keeps_L88 o x1_24 post (fun U_25 => (∃ n_29, w_X12_keeps_L133 o x1_24 post (fun U_26 => vp_in (x1_24 + 116) 936 ∧ ∀ (U_27 : Um), U_27 = sA U_26 o 36 (va_up (uA U_26 o 36) (Int32.toNatClampNeg (x1_24 + 116)) (uI U_26 o 35)) → ∀ (U_28 : Um), U_28 = sI U_27 o 38 ((uI U_27 o 38) + 1) → post U_28) n_29 0 U_25)) n_30 0 U))
set_option maxHeartbeats 4000000 in
theorem tl_X12_keeps_L11 {l : Launch} {Y : px_Y} {X : px_X} {h0 hh : pe_H} {sz : Nat} (o0 : Nat) (post : Um → Prop) (k_39 : Um → Prop) (ho0 : oc o0 = 10)  (hC : px_C X Y.1 (pm_A hh sz) cX12_keeps RX12 3) (hM : px_M l X Y.1 hh sz yX12_keeps cX12_keeps 3 none 0 0 0) (hR : X.2.2.2.1 = pm_rm 0 0 0) (hk_39 : ∀ (U : Um) (h : pe_H), k_39 U → rF Y h0 U h → pw X Y.1 (pm_A hh sz) (pm_E X Y.1 hh sz 0 0 (pm_P Y h0 sz (pq_v post))) 39 [some (.ref (Y.2.1 o0)), none, none] [] h sz 0 0) : ∀ (n_ : Nat) (x1 : Int32) (U : Um) (h : pe_H), rF Y h0 U h → w_X12_keeps_L11 o0 post k_39 n_ x1 U → pw X Y.1 (pm_A hh sz) (pm_E X Y.1 hh sz 0 0 (pm_P Y h0 sz (pq_v post))) 11 [some (.ref (Y.2.1 o0)), some (.int x1), none] [] h sz 0 0 := by
  intro n_
  induction n_ with
  | zero => intro x1 U h hU H; exact False.elim H
  | succ n_ ih =>
    intro x1 U h hU H
    replace H : b_X12_keeps_L11 o0 post k_39 (w_X12_keeps_L11 o0 post k_39 n_) x1 U := H
    unfold b_X12_keeps_L11 at H
    refine pr_iload_n hC (by decide +kernel : decode cX12_keeps 11 = .ok (.iload_n 1, 1)) rfl ?_
    refine pr_sipush hC (819) (by decide +kernel : decode cX12_keeps 12 = .ok (.sipush 819, 3)) rfl ?_
    refine pr_icmp_ge hC 39 (by decide +kernel : decode cX12_keeps 15 = .ok (.if_icmp .ge 24, 3)) (by decide) (fun c_15 => ?_) (fun c_15 => ?_)
    · replace H := H.1 c_15
      exact pv_sub [some (.ref (Y.2.1 o0)), none, none] (And.intro rfl trivial) (hk_39 U h H hU)
    replace H := H.2 c_15
    refine pr_aload_n hC (by decide +kernel : decode cX12_keeps 18 = .ok (.aload_n 0, 1)) rfl ?_
    refine pu_g1 hC fg_X12_78 (by decide +kernel : decode cX12_keeps 19 = .ok (.getfield 78, 3)) hU ho0 (by decide) rfl (by decide) ?_
    refine pr_iload_n hC (by decide +kernel : decode cX12_keeps 22 = .ok (.iload_n 1, 1)) rfl ?_
    refine pr_aload_n hC (by decide +kernel : decode cX12_keeps 23 = .ok (.aload_n 0, 1)) rfl ?_
    refine pu_g1 hC fg_X12_78 (by decide +kernel : decode cX12_keeps 24 = .ok (.getfield 78, 3)) hU ho0 (by decide) rfl (by decide) ?_
    refine pr_iload_n hC (by decide +kernel : decode cX12_keeps 27 = .ok (.iload_n 1, 1)) rfl ?_
    refine pr_bipush hC (117) (by decide +kernel : decode cX12_keeps 28 = .ok (.bipush 117, 2)) rfl ?_
    refine pr_iadd hC (by decide +kernel : decode cX12_keeps 30 = .ok (.iadd, 1)) ?_
    refine pu_iald hC (by decide +kernel : decode cX12_keeps 31 = .ok (.iaload, 1)) hU ho0 rfl H.1 ?_
    replace H := H.2
    refine pv_iast hC (by decide +kernel : decode cX12_keeps 32 = .ok (.iastore, 1)) hU ho0 rfl H.1 (fun U_1 h e_U_1 hU => ?_)
    replace H := H.2 U_1 e_U_1
    refine pv_iinc hC (v := x1 + 1) (by decide +kernel : decode cX12_keeps 33 = .ok (.iinc 1 1, 3)) rfl (by decide) rfl rfl (fun x1_2 e_x1_2 => ?_)
    replace H := H x1_2 e_x1_2
    refine pr_goto hC 11 (by decide +kernel : decode cX12_keeps 36 = .ok (.goto (-25), 3)) (by decide) ?_
    exact pv_sub [some (.ref (Y.2.1 o0)), some (.int x1_2), none] (And.intro rfl (And.intro rfl trivial)) (ih _ U_1 h hU H)
set_option maxHeartbeats 4000000 in
theorem tl_X12_keeps_L41 {l : Launch} {Y : px_Y} {X : px_X} {h0 hh : pe_H} {sz : Nat} (o0 : Nat) (post : Um → Prop) (k_68 : Um → Prop) (ho0 : oc o0 = 10)  (hC : px_C X Y.1 (pm_A hh sz) cX12_keeps RX12 3) (hM : px_M l X Y.1 hh sz yX12_keeps cX12_keeps 3 none 0 0 0) (hR : X.2.2.2.1 = pm_rm 0 0 0) (hk_68 : ∀ (U : Um) (h : pe_H), k_68 U → rF Y h0 U h → pw X Y.1 (pm_A hh sz) (pm_E X Y.1 hh sz 0 0 (pm_P Y h0 sz (pq_v post))) 68 [some (.ref (Y.2.1 o0)), none, none] [] h sz 0 0) : ∀ (n_ : Nat) (x1 : Int32) (U : Um) (h : pe_H), rF Y h0 U h → w_X12_keeps_L41 o0 post k_68 n_ x1 U → pw X Y.1 (pm_A hh sz) (pm_E X Y.1 hh sz 0 0 (pm_P Y h0 sz (pq_v post))) 41 [some (.ref (Y.2.1 o0)), some (.int x1), none] [] h sz 0 0 := by
  intro n_
  induction n_ with
  | zero => intro x1 U h hU H; exact False.elim H
  | succ n_ ih =>
    intro x1 U h hU H
    replace H : b_X12_keeps_L41 o0 post k_68 (w_X12_keeps_L41 o0 post k_68 n_) x1 U := H
    unfold b_X12_keeps_L41 at H
    refine pr_iload_n hC (by decide +kernel : decode cX12_keeps 41 = .ok (.iload_n 1, 1)) rfl ?_
    refine pr_bipush hC (70) (by decide +kernel : decode cX12_keeps 42 = .ok (.bipush 70, 2)) rfl ?_
    refine pr_icmp_ge hC 68 (by decide +kernel : decode cX12_keeps 44 = .ok (.if_icmp .ge 24, 3)) (by decide) (fun c_44 => ?_) (fun c_44 => ?_)
    · replace H := H.1 c_44
      exact pv_sub [some (.ref (Y.2.1 o0)), none, none] (And.intro rfl trivial) (hk_68 U h H hU)
    replace H := H.2 c_44
    refine pr_aload_n hC (by decide +kernel : decode cX12_keeps 47 = .ok (.aload_n 0, 1)) rfl ?_
    refine pu_g1 hC fg_X12_81 (by decide +kernel : decode cX12_keeps 48 = .ok (.getfield 81, 3)) hU ho0 (by decide) rfl (by decide) ?_
    refine pr_iload_n hC (by decide +kernel : decode cX12_keeps 51 = .ok (.iload_n 1, 1)) rfl ?_
    refine pr_aload_n hC (by decide +kernel : decode cX12_keeps 52 = .ok (.aload_n 0, 1)) rfl ?_
    refine pu_g1 hC fg_X12_81 (by decide +kernel : decode cX12_keeps 53 = .ok (.getfield 81, 3)) hU ho0 (by decide) rfl (by decide) ?_
    refine pr_iload_n hC (by decide +kernel : decode cX12_keeps 56 = .ok (.iload_n 1, 1)) rfl ?_
    refine pr_bipush hC (10) (by decide +kernel : decode cX12_keeps 57 = .ok (.bipush 10, 2)) rfl ?_
    refine pr_iadd hC (by decide +kernel : decode cX12_keeps 59 = .ok (.iadd, 1)) ?_
    refine pu_fald hC (by decide +kernel : decode cX12_keeps 60 = .ok (.faload, 1)) hU ho0 rfl H.1 ?_
    replace H := H.2
    refine pv_fast hC (by decide +kernel : decode cX12_keeps 61 = .ok (.fastore, 1)) hU ho0 rfl H.1 (fun U_4 h e_U_4 hU => ?_)
    replace H := H.2 U_4 e_U_4
    refine pv_iinc hC (v := x1 + 1) (by decide +kernel : decode cX12_keeps 62 = .ok (.iinc 1 1, 3)) rfl (by decide) rfl rfl (fun x1_5 e_x1_5 => ?_)
    replace H := H x1_5 e_x1_5
    refine pr_goto hC 41 (by decide +kernel : decode cX12_keeps 65 = .ok (.goto (-24), 3)) (by decide) ?_
    exact pv_sub [some (.ref (Y.2.1 o0)), some (.int x1_5), none] (And.intro rfl (And.intro rfl trivial)) (ih _ U_4 h hU H)
set_option maxHeartbeats 4000000 in
theorem tl_X12_keeps_L88 {l : Launch} {Y : px_Y} {X : px_X} {h0 hh : pe_H} {sz : Nat} (o0 : Nat) (x1 : Int32) (post : Um → Prop) (k_131 : Um → Prop) (ho0 : oc o0 = 10)  (hC : px_C X Y.1 (pm_A hh sz) cX12_keeps RX12 3) (hM : px_M l X Y.1 hh sz yX12_keeps cX12_keeps 3 none 0 0 0) (hR : X.2.2.2.1 = pm_rm 0 0 0) (hk_131 : ∀ (U : Um) (h : pe_H), k_131 U → rF Y h0 U h → pw X Y.1 (pm_A hh sz) (pm_E X Y.1 hh sz 0 0 (pm_P Y h0 sz (pq_v post))) 131 [some (.ref (Y.2.1 o0)), some (.int x1), none] [] h sz 0 0) : ∀ (n_ : Nat) (x2 : Int32) (U : Um) (h : pe_H), rF Y h0 U h → w_X12_keeps_L88 o0 x1 post k_131 n_ x2 U → pw X Y.1 (pm_A hh sz) (pm_E X Y.1 hh sz 0 0 (pm_P Y h0 sz (pq_v post))) 88 [some (.ref (Y.2.1 o0)), some (.int x1), some (.int x2)] [] h sz 0 0 := by
  intro n_
  induction n_ with
  | zero => intro x2 U h hU H; exact False.elim H
  | succ n_ ih =>
    intro x2 U h hU H
    replace H : b_X12_keeps_L88 o0 x1 post k_131 (w_X12_keeps_L88 o0 x1 post k_131 n_) x2 U := H
    unfold b_X12_keeps_L88 at H
    refine pr_iload_n hC (by decide +kernel : decode cX12_keeps 88 = .ok (.iload_n 2, 1)) rfl ?_
    refine pr_bipush hC (48) (by decide +kernel : decode cX12_keeps 89 = .ok (.bipush 48, 2)) rfl ?_
    refine pr_icmp_ge hC 131 (by decide +kernel : decode cX12_keeps 91 = .ok (.if_icmp .ge 40, 3)) (by decide) (fun c_91 => ?_) (fun c_91 => ?_)
    · replace H := H.1 c_91
      exact pv_sub [some (.ref (Y.2.1 o0)), some (.int x1), none] (And.intro rfl (And.intro rfl trivial)) (hk_131 U h H hU)
    replace H := H.2 c_91
    refine pr_aload_n hC (by decide +kernel : decode cX12_keeps 94 = .ok (.aload_n 0, 1)) rfl ?_
    refine pu_g1 hC fg_X12_78 (by decide +kernel : decode cX12_keeps 95 = .ok (.getfield 78, 3)) hU ho0 (by decide) rfl (by decide) ?_
    refine pr_iload_n hC (by decide +kernel : decode cX12_keeps 98 = .ok (.iload_n 1, 1)) rfl ?_
    refine pr_iload_n hC (by decide +kernel : decode cX12_keeps 99 = .ok (.iload_n 2, 1)) rfl ?_
    refine pr_iadd hC (by decide +kernel : decode cX12_keeps 100 = .ok (.iadd, 1)) ?_
    refine pr_aload_n hC (by decide +kernel : decode cX12_keeps 101 = .ok (.aload_n 0, 1)) rfl ?_
    refine pu_g1 hC fg_X12_59 (by decide +kernel : decode cX12_keeps 102 = .ok (.getfield 59, 3)) hU ho0 (by decide) rfl (by decide) ?_
    refine pr_iload_n hC (by decide +kernel : decode cX12_keeps 105 = .ok (.iload_n 2, 1)) rfl ?_
    refine pu_iald hC (by decide +kernel : decode cX12_keeps 106 = .ok (.iaload, 1)) hU ho0 rfl H.1 ?_
    replace H := H.2
    refine pv_iast hC (by decide +kernel : decode cX12_keeps 107 = .ok (.iastore, 1)) hU ho0 rfl H.1 (fun U_9 h e_U_9 hU => ?_)
    replace H := H.2 U_9 e_U_9
    refine pr_aload_n hC (by decide +kernel : decode cX12_keeps 108 = .ok (.aload_n 0, 1)) rfl ?_
    refine pu_g1 hC fg_X12_78 (by decide +kernel : decode cX12_keeps 109 = .ok (.getfield 78, 3)) hU ho0 (by decide) rfl (by decide) ?_
    refine pr_iload_n hC (by decide +kernel : decode cX12_keeps 112 = .ok (.iload_n 1, 1)) rfl ?_
    refine pr_bipush hC (48) (by decide +kernel : decode cX12_keeps 113 = .ok (.bipush 48, 2)) rfl ?_
    refine pr_iadd hC (by decide +kernel : decode cX12_keeps 115 = .ok (.iadd, 1)) ?_
    refine pr_iload_n hC (by decide +kernel : decode cX12_keeps 116 = .ok (.iload_n 2, 1)) rfl ?_
    refine pr_iadd hC (by decide +kernel : decode cX12_keeps 117 = .ok (.iadd, 1)) ?_
    refine pr_aload_n hC (by decide +kernel : decode cX12_keeps 118 = .ok (.aload_n 0, 1)) rfl ?_
    refine pu_g1 hC fg_X12_62 (by decide +kernel : decode cX12_keeps 119 = .ok (.getfield 62, 3)) hU ho0 (by decide) rfl (by decide) ?_
    refine pr_iload_n hC (by decide +kernel : decode cX12_keeps 122 = .ok (.iload_n 2, 1)) rfl ?_
    refine pu_iald hC (by decide +kernel : decode cX12_keeps 123 = .ok (.iaload, 1)) hU ho0 rfl H.1 ?_
    replace H := H.2
    refine pv_iast hC (by decide +kernel : decode cX12_keeps 124 = .ok (.iastore, 1)) hU ho0 rfl H.1 (fun U_10 h e_U_10 hU => ?_)
    replace H := H.2 U_10 e_U_10
    refine pv_iinc hC (v := x2 + 1) (by decide +kernel : decode cX12_keeps 125 = .ok (.iinc 2 1, 3)) rfl (by decide) rfl rfl (fun x2_11 e_x2_11 => ?_)
    replace H := H x2_11 e_x2_11
    refine pr_goto hC 88 (by decide +kernel : decode cX12_keeps 128 = .ok (.goto (-40), 3)) (by decide) ?_
    exact pv_sub [some (.ref (Y.2.1 o0)), some (.int x1), some (.int x2_11)] (And.intro rfl (And.intro rfl (And.intro rfl trivial))) (ih _ U_10 h hU H)
set_option maxHeartbeats 4000000 in
theorem tl_X12_keeps_L133 {l : Launch} {Y : px_Y} {X : px_X} {h0 hh : pe_H} {sz : Nat} (o0 : Nat) (x1 : Int32) (post : Um → Prop) (k_199 : Um → Prop) (ho0 : oc o0 = 10)  (hC : px_C X Y.1 (pm_A hh sz) cX12_keeps RX12 3) (hM : px_M l X Y.1 hh sz yX12_keeps cX12_keeps 3 none 0 0 0) (hR : X.2.2.2.1 = pm_rm 0 0 0) (hk_199 : ∀ (U : Um) (h : pe_H), k_199 U → rF Y h0 U h → pw X Y.1 (pm_A hh sz) (pm_E X Y.1 hh sz 0 0 (pm_P Y h0 sz (pq_v post))) 199 [some (.ref (Y.2.1 o0)), some (.int x1), none] [] h sz 0 0) : ∀ (n_ : Nat) (x2 : Int32) (U : Um) (h : pe_H), rF Y h0 U h → w_X12_keeps_L133 o0 x1 post k_199 n_ x2 U → pw X Y.1 (pm_A hh sz) (pm_E X Y.1 hh sz 0 0 (pm_P Y h0 sz (pq_v post))) 133 [some (.ref (Y.2.1 o0)), some (.int x1), some (.int x2)] [] h sz 0 0 := by
  intro n_
  induction n_ with
  | zero => intro x2 U h hU H; exact False.elim H
  | succ n_ ih =>
    intro x2 U h hU H
    replace H : b_X12_keeps_L133 o0 x1 post k_199 (w_X12_keeps_L133 o0 x1 post k_199 n_) x2 U := H
    unfold b_X12_keeps_L133 at H
    refine pr_iload_n hC (by decide +kernel : decode cX12_keeps 133 = .ok (.iload_n 2, 1)) rfl ?_
    refine pr_bipush hC (10) (by decide +kernel : decode cX12_keeps 134 = .ok (.bipush 10, 2)) rfl ?_
    refine pr_icmp_ge hC 199 (by decide +kernel : decode cX12_keeps 136 = .ok (.if_icmp .ge 63, 3)) (by decide) (fun c_136 => ?_) (fun c_136 => ?_)
    · replace H := H.1 c_136
      exact pv_sub [some (.ref (Y.2.1 o0)), some (.int x1), none] (And.intro rfl (And.intro rfl trivial)) (hk_199 U h H hU)
    replace H := H.2 c_136
    refine pr_aload_n hC (by decide +kernel : decode cX12_keeps 139 = .ok (.aload_n 0, 1)) rfl ?_
    refine pu_g1 hC fg_X12_78 (by decide +kernel : decode cX12_keeps 140 = .ok (.getfield 78, 3)) hU ho0 (by decide) rfl (by decide) ?_
    refine pr_iload_n hC (by decide +kernel : decode cX12_keeps 143 = .ok (.iload_n 1, 1)) rfl ?_
    refine pr_bipush hC (96) (by decide +kernel : decode cX12_keeps 144 = .ok (.bipush 96, 2)) rfl ?_
    refine pr_iadd hC (by decide +kernel : decode cX12_keeps 146 = .ok (.iadd, 1)) ?_
    refine pr_iload_n hC (by decide +kernel : decode cX12_keeps 147 = .ok (.iload_n 2, 1)) rfl ?_
    refine pr_iadd hC (by decide +kernel : decode cX12_keeps 148 = .ok (.iadd, 1)) ?_
    refine pr_aload_n hC (by decide +kernel : decode cX12_keeps 149 = .ok (.aload_n 0, 1)) rfl ?_
    refine pu_g1 hC fg_X12_65 (by decide +kernel : decode cX12_keeps 150 = .ok (.getfield 65, 3)) hU ho0 (by decide) rfl (by decide) ?_
    refine pr_iload_n hC (by decide +kernel : decode cX12_keeps 153 = .ok (.iload_n 2, 1)) rfl ?_
    refine pu_iald hC (by decide +kernel : decode cX12_keeps 154 = .ok (.iaload, 1)) hU ho0 rfl H.1 ?_
    replace H := H.2
    refine pv_iast hC (by decide +kernel : decode cX12_keeps 155 = .ok (.iastore, 1)) hU ho0 rfl H.1 (fun U_13 h e_U_13 hU => ?_)
    replace H := H.2 U_13 e_U_13
    refine pr_aload_n hC (by decide +kernel : decode cX12_keeps 156 = .ok (.aload_n 0, 1)) rfl ?_
    refine pu_g1 hC fg_X12_78 (by decide +kernel : decode cX12_keeps 157 = .ok (.getfield 78, 3)) hU ho0 (by decide) rfl (by decide) ?_
    refine pr_iload_n hC (by decide +kernel : decode cX12_keeps 160 = .ok (.iload_n 1, 1)) rfl ?_
    refine pr_bipush hC (106) (by decide +kernel : decode cX12_keeps 161 = .ok (.bipush 106, 2)) rfl ?_
    refine pr_iadd hC (by decide +kernel : decode cX12_keeps 163 = .ok (.iadd, 1)) ?_
    refine pr_iload_n hC (by decide +kernel : decode cX12_keeps 164 = .ok (.iload_n 2, 1)) rfl ?_
    refine pr_iadd hC (by decide +kernel : decode cX12_keeps 165 = .ok (.iadd, 1)) ?_
    refine pr_aload_n hC (by decide +kernel : decode cX12_keeps 166 = .ok (.aload_n 0, 1)) rfl ?_
    refine pu_g1 hC fg_X12_68 (by decide +kernel : decode cX12_keeps 167 = .ok (.getfield 68, 3)) hU ho0 (by decide) rfl (by decide) ?_
    refine pr_iload_n hC (by decide +kernel : decode cX12_keeps 170 = .ok (.iload_n 2, 1)) rfl ?_
    refine pu_iald hC (by decide +kernel : decode cX12_keeps 171 = .ok (.iaload, 1)) hU ho0 rfl H.1 ?_
    replace H := H.2
    refine pv_iast hC (by decide +kernel : decode cX12_keeps 172 = .ok (.iastore, 1)) hU ho0 rfl H.1 (fun U_14 h e_U_14 hU => ?_)
    replace H := H.2 U_14 e_U_14
    refine pr_aload_n hC (by decide +kernel : decode cX12_keeps 173 = .ok (.aload_n 0, 1)) rfl ?_
    refine pu_g1 hC fg_X12_81 (by decide +kernel : decode cX12_keeps 174 = .ok (.getfield 81, 3)) hU ho0 (by decide) rfl (by decide) ?_
    refine pr_bipush hC (10) (by decide +kernel : decode cX12_keeps 177 = .ok (.bipush 10, 2)) rfl ?_
    refine pr_aload_n hC (by decide +kernel : decode cX12_keeps 179 = .ok (.aload_n 0, 1)) rfl ?_
    refine pu_g0 hC fg_X12_344 (by decide +kernel : decode cX12_keeps 180 = .ok (.getfield 344, 3)) hU ho0 (by decide) rfl rfl ?_
    refine pr_imul hC (by decide +kernel : decode cX12_keeps 183 = .ok (.imul, 1)) ?_
    refine pr_iload_n hC (by decide +kernel : decode cX12_keeps 184 = .ok (.iload_n 2, 1)) rfl ?_
    refine pr_iadd hC (by decide +kernel : decode cX12_keeps 185 = .ok (.iadd, 1)) ?_
    refine pr_aload_n hC (by decide +kernel : decode cX12_keeps 186 = .ok (.aload_n 0, 1)) rfl ?_
    refine pu_g1 hC fg_X12_71 (by decide +kernel : decode cX12_keeps 187 = .ok (.getfield 71, 3)) hU ho0 (by decide) rfl (by decide) ?_
    refine pr_iload_n hC (by decide +kernel : decode cX12_keeps 190 = .ok (.iload_n 2, 1)) rfl ?_
    refine pu_fald hC (by decide +kernel : decode cX12_keeps 191 = .ok (.faload, 1)) hU ho0 rfl H.1 ?_
    replace H := H.2
    refine pv_fast hC (by decide +kernel : decode cX12_keeps 192 = .ok (.fastore, 1)) hU ho0 rfl H.1 (fun U_15 h e_U_15 hU => ?_)
    replace H := H.2 U_15 e_U_15
    refine pv_iinc hC (v := x2 + 1) (by decide +kernel : decode cX12_keeps 193 = .ok (.iinc 2 1, 3)) rfl (by decide) rfl rfl (fun x2_16 e_x2_16 => ?_)
    replace H := H x2_16 e_x2_16
    refine pr_goto hC 133 (by decide +kernel : decode cX12_keeps 196 = .ok (.goto (-63), 3)) (by decide) ?_
    exact pv_sub [some (.ref (Y.2.1 o0)), some (.int x1), some (.int x2_16)] (And.intro rfl (And.intro rfl (And.intro rfl trivial))) (ih _ U_15 h hU H)
set_option maxHeartbeats 4000000 in
theorem t_X12_keeps {l : Launch} {Y : px_Y} {o : Nat} {U : Um} {post : Um → Prop} (ho : oc o = 10) (H : w_X12_keeps o U post) : um l Y 0 yX12_keeps cX12_keeps 3 none [.ref (Y.2.1 o)] U (pq_v post) := by
  unfold w_X12_keeps at H
  refine um_of (by decide) (Nat.le_of_ble_eq_true rfl) [some (.ref (Y.2.1 o)), none, none] rfl (fun X h0 hh sz hM hU => ?_)
  have hC := hM.1
  have hR := hM.2.2.1
  refine pr_aload_n hC (by decide +kernel : decode cX12_keeps 0 = .ok (.aload_n 0, 1)) rfl ?_
  refine pu_g0 hC fg_X12_344 (by decide +kernel : decode cX12_keeps 1 = .ok (.getfield 344, 3)) hU ho (by decide) rfl rfl ?_
  refine pr_bipush hC (8) (by decide +kernel : decode cX12_keeps 4 = .ok (.bipush 8, 2)) rfl ?_
  refine pr_icmp_ne hC 78 (by decide +kernel : decode cX12_keeps 6 = .ok (.if_icmp .ne 72, 3)) (by decide) (fun c_6 => ?_) (fun c_6 => ?_)
  · replace H := H.2 c_6
    refine pr_bipush hC (117) (by decide +kernel : decode cX12_keeps 78 = .ok (.bipush 117, 2)) rfl ?_
    refine pr_aload_n hC (by decide +kernel : decode cX12_keeps 80 = .ok (.aload_n 0, 1)) rfl ?_
    refine pu_g0 hC fg_X12_344 (by decide +kernel : decode cX12_keeps 81 = .ok (.getfield 344, 3)) hU ho (by decide) rfl rfl ?_
    refine pr_imul hC (by decide +kernel : decode cX12_keeps 84 = .ok (.imul, 1)) ?_
    refine pv_topi (fun x1_24 e_x1_24 => ?_)
    replace H := H x1_24 e_x1_24
    refine pr_istore_n hC (by decide +kernel : decode cX12_keeps 85 = .ok (.istore_n 1, 1)) (by decide) rfl ?_
    refine pr_iconst hC (0) (by decide +kernel : decode cX12_keeps 86 = .ok (.iconst 0, 1)) rfl ?_
    refine pr_istore_n hC (by decide +kernel : decode cX12_keeps 87 = .ok (.istore_n 2, 1)) (by decide) rfl ?_
    obtain ⟨n_30, H⟩ := H
    refine pv_sub [some (.ref (Y.2.1 o)), some (.int x1_24), some (.int 0)] (And.intro rfl (And.intro rfl (And.intro rfl trivial))) ?_
    refine tl_X12_keeps_L88 _ _ _ _ ho hC hM hR (fun U_25 h H hU => ?_) n_30 _ U hh hU H
    refine pr_iconst hC (0) (by decide +kernel : decode cX12_keeps 131 = .ok (.iconst 0, 1)) rfl ?_
    refine pr_istore_n hC (by decide +kernel : decode cX12_keeps 132 = .ok (.istore_n 2, 1)) (by decide) rfl ?_
    obtain ⟨n_29, H⟩ := H
    refine pv_sub [some (.ref (Y.2.1 o)), some (.int x1_24), some (.int 0)] (And.intro rfl (And.intro rfl (And.intro rfl trivial))) ?_
    refine tl_X12_keeps_L133 _ _ _ _ ho hC hM hR (fun U_26 h H hU => ?_) n_29 _ U_25 h hU H
    refine pr_aload_n hC (by decide +kernel : decode cX12_keeps 199 = .ok (.aload_n 0, 1)) rfl ?_
    refine pu_g1 hC fg_X12_78 (by decide +kernel : decode cX12_keeps 200 = .ok (.getfield 78, 3)) hU ho (by decide) rfl (by decide) ?_
    refine pr_iload_n hC (by decide +kernel : decode cX12_keeps 203 = .ok (.iload_n 1, 1)) rfl ?_
    refine pr_bipush hC (116) (by decide +kernel : decode cX12_keeps 204 = .ok (.bipush 116, 2)) rfl ?_
    refine pr_iadd hC (by decide +kernel : decode cX12_keeps 206 = .ok (.iadd, 1)) ?_
    refine pr_aload_n hC (by decide +kernel : decode cX12_keeps 207 = .ok (.aload_n 0, 1)) rfl ?_
    refine pu_g0 hC fg_X12_75 (by decide +kernel : decode cX12_keeps 208 = .ok (.getfield 75, 3)) hU ho (by decide) rfl rfl ?_
    refine pv_iast hC (by decide +kernel : decode cX12_keeps 211 = .ok (.iastore, 1)) hU ho rfl H.1 (fun U_27 h e_U_27 hU => ?_)
    replace H := H.2 U_27 e_U_27
    refine pr_aload_n hC (by decide +kernel : decode cX12_keeps 212 = .ok (.aload_n 0, 1)) rfl ?_
    refine pr_dup hC (by decide +kernel : decode cX12_keeps 213 = .ok (.dup, 1)) rfl ?_
    refine pu_g0 hC fg_X12_344 (by decide +kernel : decode cX12_keeps 214 = .ok (.getfield 344, 3)) hU ho (by decide) rfl rfl ?_
    refine pr_iconst hC (1) (by decide +kernel : decode cX12_keeps 217 = .ok (.iconst 1, 1)) rfl ?_
    refine pr_iadd hC (by decide +kernel : decode cX12_keeps 218 = .ok (.iadd, 1)) ?_
    refine pv_p0 hC fp_X12_344 (by decide +kernel : decode cX12_keeps 219 = .ok (.putfield 344, 3)) hU ho (by decide) rfl rfl rfl rfl (fun U_28 h e_U_28 hU => ?_)
    replace H := H U_28 e_U_28
    exact pv_vret hM (by decide +kernel : decode cX12_keeps 222 = .ok (.return_, 1)) hU H
  replace H := H.1 c_6
  refine pr_iconst hC (0) (by decide +kernel : decode cX12_keeps 9 = .ok (.iconst 0, 1)) rfl ?_
  refine pr_istore_n hC (by decide +kernel : decode cX12_keeps 10 = .ok (.istore_n 1, 1)) (by decide) rfl ?_
  obtain ⟨n_23, H⟩ := H
  refine pv_sub [some (.ref (Y.2.1 o)), some (.int 0), none] (And.intro rfl (And.intro rfl trivial)) ?_
  refine tl_X12_keeps_L11 _ _ _ ho hC hM hR (fun U_3 h H hU => ?_) n_23 _ U hh hU H
  refine pr_iconst hC (0) (by decide +kernel : decode cX12_keeps 39 = .ok (.iconst 0, 1)) rfl ?_
  refine pr_istore_n hC (by decide +kernel : decode cX12_keeps 40 = .ok (.istore_n 1, 1)) (by decide) rfl ?_
  obtain ⟨n_22, H⟩ := H
  refine pv_sub [some (.ref (Y.2.1 o)), some (.int 0), none] (And.intro rfl (And.intro rfl trivial)) ?_
  refine tl_X12_keeps_L41 _ _ _ ho hC hM hR (fun U_6 h H hU => ?_) n_22 _ U_3 h hU H
  refine pr_aload_n hC (by decide +kernel : decode cX12_keeps 68 = .ok (.aload_n 0, 1)) rfl ?_
  refine pr_dup hC (by decide +kernel : decode cX12_keeps 69 = .ok (.dup, 1)) rfl ?_
  refine pu_g0 hC fg_X12_344 (by decide +kernel : decode cX12_keeps 70 = .ok (.getfield 344, 3)) hU ho (by decide) rfl rfl ?_
  refine pr_iconst hC (1) (by decide +kernel : decode cX12_keeps 73 = .ok (.iconst 1, 1)) rfl ?_
  refine pr_isub hC (by decide +kernel : decode cX12_keeps 74 = .ok (.isub, 1)) ?_
  refine pv_p0 hC fp_X12_344 (by decide +kernel : decode cX12_keeps 75 = .ok (.putfield 344, 3)) hU ho (by decide) rfl rfl rfl rfl (fun U_7 h e_U_7 hU => ?_)
  replace H := H U_7 e_U_7
  refine pr_bipush hC (117) (by decide +kernel : decode cX12_keeps 78 = .ok (.bipush 117, 2)) rfl ?_
  refine pr_aload_n hC (by decide +kernel : decode cX12_keeps 80 = .ok (.aload_n 0, 1)) rfl ?_
  refine pu_g0 hC fg_X12_344 (by decide +kernel : decode cX12_keeps 81 = .ok (.getfield 344, 3)) hU ho (by decide) rfl rfl ?_
  refine pr_imul hC (by decide +kernel : decode cX12_keeps 84 = .ok (.imul, 1)) ?_
  refine pv_topi (fun x1_8 e_x1_8 => ?_)
  replace H := H x1_8 e_x1_8
  refine pr_istore_n hC (by decide +kernel : decode cX12_keeps 85 = .ok (.istore_n 1, 1)) (by decide) rfl ?_
  refine pr_iconst hC (0) (by decide +kernel : decode cX12_keeps 86 = .ok (.iconst 0, 1)) rfl ?_
  refine pr_istore_n hC (by decide +kernel : decode cX12_keeps 87 = .ok (.istore_n 2, 1)) (by decide) rfl ?_
  obtain ⟨n_21, H⟩ := H
  refine pv_sub [some (.ref (Y.2.1 o)), some (.int x1_8), some (.int 0)] (And.intro rfl (And.intro rfl (And.intro rfl trivial))) ?_
  refine tl_X12_keeps_L88 _ _ _ _ ho hC hM hR (fun U_12 h H hU => ?_) n_21 _ U_7 h hU H
  refine pr_iconst hC (0) (by decide +kernel : decode cX12_keeps 131 = .ok (.iconst 0, 1)) rfl ?_
  refine pr_istore_n hC (by decide +kernel : decode cX12_keeps 132 = .ok (.istore_n 2, 1)) (by decide) rfl ?_
  obtain ⟨n_20, H⟩ := H
  refine pv_sub [some (.ref (Y.2.1 o)), some (.int x1_8), some (.int 0)] (And.intro rfl (And.intro rfl (And.intro rfl trivial))) ?_
  refine tl_X12_keeps_L133 _ _ _ _ ho hC hM hR (fun U_17 h H hU => ?_) n_20 _ U_12 h hU H
  refine pr_aload_n hC (by decide +kernel : decode cX12_keeps 199 = .ok (.aload_n 0, 1)) rfl ?_
  refine pu_g1 hC fg_X12_78 (by decide +kernel : decode cX12_keeps 200 = .ok (.getfield 78, 3)) hU ho (by decide) rfl (by decide) ?_
  refine pr_iload_n hC (by decide +kernel : decode cX12_keeps 203 = .ok (.iload_n 1, 1)) rfl ?_
  refine pr_bipush hC (116) (by decide +kernel : decode cX12_keeps 204 = .ok (.bipush 116, 2)) rfl ?_
  refine pr_iadd hC (by decide +kernel : decode cX12_keeps 206 = .ok (.iadd, 1)) ?_
  refine pr_aload_n hC (by decide +kernel : decode cX12_keeps 207 = .ok (.aload_n 0, 1)) rfl ?_
  refine pu_g0 hC fg_X12_75 (by decide +kernel : decode cX12_keeps 208 = .ok (.getfield 75, 3)) hU ho (by decide) rfl rfl ?_
  refine pv_iast hC (by decide +kernel : decode cX12_keeps 211 = .ok (.iastore, 1)) hU ho rfl H.1 (fun U_18 h e_U_18 hU => ?_)
  replace H := H.2 U_18 e_U_18
  refine pr_aload_n hC (by decide +kernel : decode cX12_keeps 212 = .ok (.aload_n 0, 1)) rfl ?_
  refine pr_dup hC (by decide +kernel : decode cX12_keeps 213 = .ok (.dup, 1)) rfl ?_
  refine pu_g0 hC fg_X12_344 (by decide +kernel : decode cX12_keeps 214 = .ok (.getfield 344, 3)) hU ho (by decide) rfl rfl ?_
  refine pr_iconst hC (1) (by decide +kernel : decode cX12_keeps 217 = .ok (.iconst 1, 1)) rfl ?_
  refine pr_iadd hC (by decide +kernel : decode cX12_keeps 218 = .ok (.iadd, 1)) ?_
  refine pv_p0 hC fp_X12_344 (by decide +kernel : decode cX12_keeps 219 = .ok (.putfield 344, 3)) hU ho (by decide) rfl rfl rfl rfl (fun U_19 h e_U_19 hU => ?_)
  replace H := H U_19 e_U_19
  exact pv_vret hM (by decide +kernel : decode cX12_keeps 222 = .ok (.return_, 1)) hU H
