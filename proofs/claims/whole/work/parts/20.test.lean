set_option maxHeartbeats 4000000 in
theorem k9_placeOf (l : Launch) (G : px_D) (h : pe_H) (sz : Nat) (a b : Int32)  : pm l G 0 yX9_placeOf cX9_placeOf 2 (some (.int)) [.int a, .int b] h sz 0 0 (fun v h1 sz1 => v = some (.int (3 * a + b)) ∧ h1 = h ∧ sz1 = sz) := by
  refine pm_of (by decide) (Nat.le_of_ble_eq_true rfl) [some (.int a), some (.int b)] rfl ?_
  intro X hM
  have hC := hM.1
  have hR := hM.2.2.1
  refine pr_iconst hC (3) (by decide +kernel : decode cX9_placeOf 0 = .ok (.iconst 3, 1)) (by decide) ?_
  refine pr_iload_n hC (by decide +kernel : decode cX9_placeOf 1 = .ok (.iload_n 0, 1)) rfl ?_
  refine pr_imul hC (by decide +kernel : decode cX9_placeOf 2 = .ok (.imul, 1)) ?_
  refine pr_iload_n hC (by decide +kernel : decode cX9_placeOf 3 = .ok (.iload_n 1, 1)) rfl ?_
  refine pr_iadd hC (by decide +kernel : decode cX9_placeOf 4 = .ok (.iadd, 1)) ?_
  exact pr_iret hM (by decide +kernel : decode cX9_placeOf 5 = .ok (.ireturn, 1)) (⟨rfl, rfl, rfl⟩)
set_option maxHeartbeats 4000000 in
theorem k9_isNamed (l : Launch) (G : px_D) (h : pe_H) (sz : Nat) (w r : Nat) (F : Nat → Value) (f : Nat → Int32) (a b : Int32) (hw : h w = some (po 8 15 F)) (hF : F 1 = .ref r) (hr : h r = some (pa_i G 3 f)) (hi : vp_in a 3) : pm l G 0 yX9_isNamed cX9_isNamed 3 (some (.boolean)) [.ref w, .int a, .int b] h sz 0 0 (fun v h1 sz1 => v = some (.int (if 0 ≤ b ∧ b < f a.toNatClampNeg then 1 else 0)) ∧ h1 = h ∧ sz1 = sz) := by
  refine pm_of (by decide) (Nat.le_of_ble_eq_true rfl) [some (.ref w), some (.int a), some (.int b)] rfl ?_
  intro X hM
  have hC := hM.1
  have hR := hM.2.2.1
  refine pr_iload_n hC (by decide +kernel : decode cX9_isNamed 0 = .ok (.iload_n 2, 1)) rfl ?_
  refine pr_if_lt hC 18 (by decide +kernel : decode cX9_isNamed 1 = .ok (.ifCond .lt 17, 3)) (by decide) (fun c_1 => ?_) (fun c_1 => ?_)
  · refine pr_iconst hC (0) (by decide +kernel : decode cX9_isNamed 18 = .ok (.iconst 0, 1)) (by decide) ?_
    exact pr_zret hM (by decide +kernel : decode cX9_isNamed 19 = .ok (.ireturn, 1)) (rfl) (⟨by simp [*], rfl, rfl⟩)
  refine pr_iload_n hC (by decide +kernel : decode cX9_isNamed 4 = .ok (.iload_n 2, 1)) rfl ?_
  refine pr_aload_n hC (by decide +kernel : decode cX9_isNamed 5 = .ok (.aload_n 0, 1)) rfl ?_
  refine pr_get hC fg_X9_16 (by decide +kernel : decode cX9_isNamed 6 = .ok (.getfield 16, 3)) (by assumption) (hF) ?_
  refine pr_iload_n hC (by decide +kernel : decode cX9_isNamed 9 = .ok (.iload_n 1, 1)) rfl ?_
  refine pr_iaload hC (by decide +kernel : decode cX9_isNamed 10 = .ok (.iaload, 1)) (by assumption) (hi) ?_
  refine pr_icmp_ge hC 18 (by decide +kernel : decode cX9_isNamed 11 = .ok (.if_icmp .ge 7, 3)) (by decide) (fun c_11 => ?_) (fun c_11 => ?_)
  · refine pr_iconst hC (0) (by decide +kernel : decode cX9_isNamed 18 = .ok (.iconst 0, 1)) (by decide) ?_
    exact pr_zret hM (by decide +kernel : decode cX9_isNamed 19 = .ok (.ireturn, 1)) (rfl) (⟨by simp [*], rfl, rfl⟩)
  refine pr_iconst hC (1) (by decide +kernel : decode cX9_isNamed 14 = .ok (.iconst 1, 1)) (by decide) ?_
  refine pr_goto hC 19 (by decide +kernel : decode cX9_isNamed 15 = .ok (.goto 4, 3)) (by decide) ?_
  exact pr_zret hM (by decide +kernel : decode cX9_isNamed 19 = .ok (.ireturn, 1)) (rfl) (⟨by simp [*], rfl, rfl⟩)
