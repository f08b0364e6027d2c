def g_X8_init (G : px_D) (b : Nat) (t : Nat → Option va_E) (c n : Nat) : Nat → Option va_E :=
  (tu (tu t (n) (pa_b G 1200 (fun _ => 0))) (c) (po 7 8 (va_up (dF 7) 0 (.ref (b + n)))))
set_option maxRecDepth 100000 in
set_option maxHeartbeats 40000000 in
theorem c_X8_init {l : Launch} {G : px_D} {h0 : pe_H} {b : Nat} {t : Nat → Option va_E} {c n : Nat} (ht : t c = some (po 7 8 (dF 7))) (hc : c < n) : cn l G 1 yX8_init cX8_init 1 [.ref (b + c)] h0 b t n 1 1200 (g_X8_init G b t c n) (n + 1) := by
  refine pn_of (by decide) (Nat.le_of_ble_eq_true rfl) [some (.ref (b + c))] rfl (fun X hM hE => ?_)
  have hC := hM.1
  have hR := hM.2.2.1
  have hI := hM.2.2.2.2
  have e_c_n : c ≠ n := by omega
  refine pr_aload_n hC (by decide +kernel : decode cX8_init 0 = .ok (.aload_n 0, 1)) rfl ?_
  refine pr_objInit hC hR fo_X8_3 (by decide +kernel : decode cX8_init 1 = .ok (.invokespecial 3, 3)) (Nat.le_of_ble_eq_true rfl) (Nat.le_of_ble_eq_true rfl) ?_
  refine pr_aload_n hC (by decide +kernel : decode cX8_init 4 = .ok (.aload_n 0, 1)) rfl ?_
  refine pr_sipush hC (1200) (by decide +kernel : decode cX8_init 5 = .ok (.sipush 1200, 3)) rfl ?_
  refine pg_newb hC hR 1200 (n + 1) 1 1200 rfl rfl rfl fy_byte (by decide +kernel : decode cX8_init 8 = .ok (.newarray .byte, 2)) (by decide) rfl (Nat.le_of_ble_eq_true rfl) (Nat.le_of_ble_eq_true rfl) (Nat.le_of_ble_eq_true rfl) ?_
  refine pg_putF hC fp_X8_11 (by decide +kernel : decode cX8_init 10 = .ok (.putfield 11, 3)) hI ((tu_ne e_c_n).trans (ht)) rfl rfl ?_
  exact pg_ret hM (by decide +kernel : decode cX8_init 13 = .ok (.return_, 1))
def F_X8_init (b : Nat) (c n : Nat) : Nat → Value := (va_up (dF 7) 0 (.ref (b + n)))
theorem gv_X8_init {G : px_D} {b : Nat} {t : Nat → Option va_E} {c n : Nat} (hc : c < n) : g_X8_init G b t c n c = some (po 7 8 (F_X8_init b c n)) := by
  unfold g_X8_init F_X8_init
  exact tu_eq
theorem gf_X8_init {G : px_D} {b : Nat} {t : Nat → Option va_E} {c n : Nat} {a : Nat} (h1 : a ≠ c) (h2 : a < n) : g_X8_init G b t c n a = t a := by
  unfold g_X8_init
  have e_a_c : a ≠ c := by omega
  have e_a_n : a ≠ n := by omega
  exact ((tu_ne e_a_c).trans (tu_ne e_a_n))
def g_X2_init (G : px_D) (b : Nat) (t : Nat → Option va_E) (c n : Nat) : Nat → Option va_E :=
  t
set_option maxRecDepth 100000 in
set_option maxHeartbeats 40000000 in
theorem c_X2_init {l : Launch} {G : px_D} {h0 : pe_H} {b : Nat} {t : Nat → Option va_E} {c n : Nat} (ht : t c = some (po 1 10 (dF 1))) (hc : c < n) : cn l G 1 yX2_init cX2_init 1 [.ref (b + c)] h0 b t n 0 0 (g_X2_init G b t c n) (n) := by
  refine pn_of (by decide) (Nat.le_of_ble_eq_true rfl) [some (.ref (b + c))] rfl (fun X hM hE => ?_)
  have hC := hM.1
  have hR := hM.2.2.1
  have hI := hM.2.2.2.2
  refine pr_aload_n hC (by decide +kernel : decode cX2_init 0 = .ok (.aload_n 0, 1)) rfl ?_
  refine pr_objInit hC hR fo_X2_3 (by decide +kernel : decode cX2_init 1 = .ok (.invokespecial 3, 3)) (Nat.le_of_ble_eq_true rfl) (Nat.le_of_ble_eq_true rfl) ?_
  exact pg_ret hM (by decide +kernel : decode cX2_init 4 = .ok (.return_, 1))
def F_X2_init (b : Nat) (c n : Nat) : Nat → Value := (dF 1)
theorem gf_X2_init {G : px_D} {b : Nat} {t : Nat → Option va_E} {c n : Nat} {a : Nat} : g_X2_init G b t c n a = t a := rfl
def g_X5_init (G : px_D) (b : Nat) (t : Nat → Option va_E) (c n : Nat) : Nat → Option va_E :=
  (tu (tmu G b (tu (tmu G b t (n) 6 6) (c) (po 4 3 (va_up (dF 4) 1 (.ref (b + n))))) (n + 7) 6 6) (c) (po 4 3 (va_up (va_up (dF 4) 1 (.ref (b + n))) 2 (.ref (b + (n + 7))))))
set_option maxRecDepth 100000 in
set_option maxHeartbeats 40000000 in
theorem c_X5_init {l : Launch} {G : px_D} {h0 : pe_H} {b : Nat} {t : Nat → Option va_E} {c n : Nat} (ht : t c = some (po 4 3 (dF 4))) (hc : c < n) : cn l G 1 yX5_init cX5_init 1 [.ref (b + c)] h0 b t n 14 84 (g_X5_init G b t c n) (n + 14) := by
  refine pn_of (by decide) (Nat.le_of_ble_eq_true rfl) [some (.ref (b + c))] rfl (fun X hM hE => ?_)
  have hC := hM.1
  have hR := hM.2.2.1
  have hI := hM.2.2.2.2
  have f_c_n : c < n ∨ n + 6 < c := by omega
  have f_c_n_7 : c < n + 7 ∨ n + 7 + 6 < c := by omega
  refine pr_aload_n hC (by decide +kernel : decode cX5_init 0 = .ok (.aload_n 0, 1)) rfl ?_
  refine pr_objInit hC hR fo_X5_3 (by decide +kernel : decode cX5_init 1 = .ok (.invokespecial 3, 3)) (Nat.le_of_ble_eq_true rfl) (Nat.le_of_ble_eq_true rfl) ?_
  refine pr_aload_n hC (by decide +kernel : decode cX5_init 4 = .ok (.aload_n 0, 1)) rfl ?_
  refine pr_bipush hC (6) (by decide +kernel : decode cX5_init 5 = .ok (.bipush 6, 2)) rfl ?_
  refine pr_bipush hC (6) (by decide +kernel : decode cX5_init 7 = .ok (.bipush 6, 2)) rfl ?_
  refine pg_multi hC hE hR 6 6 (n + 7) 7 42 rfl rfl rfl fm_X5_11 (by decide +kernel : decode cX5_init 9 = .ok (.multianewarray 11 2, 4)) (by decide) rfl (by decide) rfl (by decide) (by decide) (Nat.le_of_ble_eq_true rfl) (Nat.le_of_ble_eq_true rfl) ?_
  refine pg_putF hC fp_X5_13 (by decide +kernel : decode cX5_init 13 = .ok (.putfield 13, 3)) hI ((tmu_ne f_c_n).trans (ht)) rfl rfl ?_
  refine pr_aload_n hC (by decide +kernel : decode cX5_init 16 = .ok (.aload_n 0, 1)) rfl ?_
  refine pr_bipush hC (6) (by decide +kernel : decode cX5_init 17 = .ok (.bipush 6, 2)) rfl ?_
  refine pr_bipush hC (6) (by decide +kernel : decode cX5_init 19 = .ok (.bipush 6, 2)) rfl ?_
  refine pg_multi hC hE hR 6 6 (n + 14) 14 84 rfl rfl rfl fm_X5_11 (by decide +kernel : decode cX5_init 21 = .ok (.multianewarray 11 2, 4)) (by decide) rfl (by decide) rfl (by decide) (by decide) (Nat.le_of_ble_eq_true rfl) (Nat.le_of_ble_eq_true rfl) ?_
  refine pg_putF hC fp_X5_16 (by decide +kernel : decode cX5_init 25 = .ok (.putfield 16, 3)) hI ((tmu_ne f_c_n_7).trans (tu_eq)) rfl rfl ?_
  exact pg_ret hM (by decide +kernel : decode cX5_init 28 = .ok (.return_, 1))
def F_X5_init (b : Nat) (c n : Nat) : Nat → Value := (va_up (va_up (dF 4) 1 (.ref (b + n))) 2 (.ref (b + (n + 7))))
theorem gv_X5_init {G : px_D} {b : Nat} {t : Nat → Option va_E} {c n : Nat} (hc : c < n) : g_X5_init G b t c n c = some (po 4 3 (F_X5_init b c n)) := by
  unfold g_X5_init F_X5_init
  exact tu_eq
theorem gf_X5_init {G : px_D} {b : Nat} {t : Nat → Option va_E} {c n : Nat} {a : Nat} (h1 : a ≠ c) (h2 : a < n) : g_X5_init G b t c n a = t a := by
  unfold g_X5_init
  have e_a_c : a ≠ c := by omega
  have f_a_n_7 : a < n + 7 ∨ n + 7 + 6 < a := by omega
  have f_a_n : a < n ∨ n + 6 < a := by omega
  exact ((tu_ne e_a_c).trans ((tmu_ne f_a_n_7).trans ((tu_ne e_a_c).trans (tmu_ne f_a_n))))
def g_X3_init (G : px_D) (b : Nat) (t : Nat → Option va_E) (c n : Nat) : Nat → Option va_E :=
  (tu (tu (tu (tu (tu (tu t (n) (pa_i G 1200 (fun _ => 0))) (c) (po 2 5 (va_up (dF 2) 0 (.ref (b + n))))) (n + 1) (pa_i G 8 (fun _ => 0))) (c) (po 2 5 (va_up (va_up (dF 2) 0 (.ref (b + n))) 2 (.ref (b + (n + 1)))))) (n + 2) (pa_l G 16 (fun _ => 0))) (c) (po 2 5 (va_up (va_up (va_up (dF 2) 0 (.ref (b + n))) 2 (.ref (b + (n + 1)))) 3 (.ref (b + (n + 2))))))
set_option maxRecDepth 100000 in
set_option maxHeartbeats 40000000 in
theorem c_X3_init {l : Launch} {G : px_D} {h0 : pe_H} {b : Nat} {t : Nat → Option va_E} {c n : Nat} (ht : t c = some (po 2 5 (dF 2))) (hc : c < n) : cn l G 1 yX3_init cX3_init 1 [.ref (b + c)] h0 b t n 3 1224 (g_X3_init G b t c n) (n + 3) := by
  refine pn_of (by decide) (Nat.le_of_ble_eq_true rfl) [some (.ref (b + c))] rfl (fun X hM hE => ?_)
  have hC := hM.1
  have hR := hM.2.2.1
  have hI := hM.2.2.2.2
  have e_c_n : c ≠ n := by omega
  have e_c_n_1 : c ≠ n + 1 := by omega
  have e_c_n_2 : c ≠ n + 2 := by omega
  refine pr_aload_n hC (by decide +kernel : decode cX3_init 0 = .ok (.aload_n 0, 1)) rfl ?_
  refine pr_objInit hC hR fo_X3_3 (by decide +kernel : decode cX3_init 1 = .ok (.invokespecial 3, 3)) (Nat.le_of_ble_eq_true rfl) (Nat.le_of_ble_eq_true rfl) ?_
  refine pr_aload_n hC (by decide +kernel : decode cX3_init 4 = .ok (.aload_n 0, 1)) rfl ?_
  refine pr_sipush hC (1200) (by decide +kernel : decode cX3_init 5 = .ok (.sipush 1200, 3)) rfl ?_
  refine pg_newi hC hR 1200 (n + 1) 1 1200 rfl rfl rfl fy_int (by decide +kernel : decode cX3_init 8 = .ok (.newarray .int, 2)) (by decide) rfl (Nat.le_of_ble_eq_true rfl) (Nat.le_of_ble_eq_true rfl) (Nat.le_of_ble_eq_true rfl) ?_
  refine pg_putF hC fp_X3_11 (by decide +kernel : decode cX3_init 10 = .ok (.putfield 11, 3)) hI ((tu_ne e_c_n).trans (ht)) rfl rfl ?_
  refine pr_aload_n hC (by decide +kernel : decode cX3_init 13 = .ok (.aload_n 0, 1)) rfl ?_
  refine pr_bipush hC (8) (by decide +kernel : decode cX3_init 14 = .ok (.bipush 8, 2)) rfl ?_
  refine pg_newi hC hR 8 (n + 2) 2 1208 rfl rfl rfl fy_int (by decide +kernel : decode cX3_init 16 = .ok (.newarray .int, 2)) (by decide) rfl (Nat.le_of_ble_eq_true rfl) (Nat.le_of_ble_eq_true rfl) (Nat.le_of_ble_eq_true rfl) ?_
  refine pg_putF hC fp_X3_17 (by decide +kernel : decode cX3_init 18 = .ok (.putfield 17, 3)) hI ((tu_ne e_c_n_1).trans (tu_eq)) rfl rfl ?_
  refine pr_aload_n hC (by decide +kernel : decode cX3_init 21 = .ok (.aload_n 0, 1)) rfl ?_
  refine pr_bipush hC (16) (by decide +kernel : decode cX3_init 22 = .ok (.bipush 16, 2)) rfl ?_
  refine pg_newl hC hR 16 (n + 3) 3 1224 rfl rfl rfl fy_long (by decide +kernel : decode cX3_init 24 = .ok (.newarray .long, 2)) (by decide) rfl (Nat.le_of_ble_eq_true rfl) (Nat.le_of_ble_eq_true rfl) (Nat.le_of_ble_eq_true rfl) ?_
  refine pg_putF hC fp_X3_20 (by decide +kernel : decode cX3_init 26 = .ok (.putfield 20, 3)) hI ((tu_ne e_c_n_2).trans (tu_eq)) rfl rfl ?_
  exact pg_ret hM (by decide +kernel : decode cX3_init 29 = .ok (.return_, 1))
def F_X3_init (b : Nat) (c n : Nat) : Nat → Value := (va_up (va_up (va_up (dF 2) 0 (.ref (b + n))) 2 (.ref (b + (n + 1)))) 3 (.ref (b + (n + 2))))
theorem gv_X3_init {G : px_D} {b : Nat} {t : Nat → Option va_E} {c n : Nat} (hc : c < n) : g_X3_init G b t c n c = some (po 2 5 (F_X3_init b c n)) := by
  unfold g_X3_init F_X3_init
  exact tu_eq
theorem gf_X3_init {G : px_D} {b : Nat} {t : Nat → Option va_E} {c n : Nat} {a : Nat} (h1 : a ≠ c) (h2 : a < n) : g_X3_init G b t c n a = t a := by
  unfold g_X3_init
  have e_a_c : a ≠ c := by omega
  have e_a_n_2 : a ≠ n + 2 := by omega
  have e_a_n_1 : a ≠ n + 1 := by omega
  have e_a_n : a ≠ n := by omega
  exact ((tu_ne e_a_c).trans ((tu_ne e_a_n_2).trans ((tu_ne e_a_c).trans ((tu_ne e_a_n_1).trans ((tu_ne e_a_c).trans (tu_ne e_a_n))))))
def g_X7_init (G : px_D) (b : Nat) (t : Nat → Option va_E) (c n : Nat) : Nat → Option va_E :=
  (tu (tu t (n) (pa_i G 20 (fun _ => 0))) (c) (po 6 3 (va_up (dF 6) 0 (.ref (b + n)))))
set_option maxRecDepth 100000 in
set_option maxHeartbeats 40000000 in
theorem c_X7_init {l : Launch} {G : px_D} {h0 : pe_H} {b : Nat} {t : Nat → Option va_E} {c n : Nat} (ht : t c = some (po 6 3 (dF 6))) (hc : c < n) : cn l G 1 yX7_init cX7_init 1 [.ref (b + c)] h0 b t n 1 20 (g_X7_init G b t c n) (n + 1) := by
  refine pn_of (by decide) (Nat.le_of_ble_eq_true rfl) [some (.ref (b + c))] rfl (fun X hM hE => ?_)
  have hC := hM.1
  have hR := hM.2.2.1
  have hI := hM.2.2.2.2
  have e_c_n : c ≠ n := by omega
  refine pr_aload_n hC (by decide +kernel : decode cX7_init 0 = .ok (.aload_n 0, 1)) rfl ?_
  refine pr_objInit hC hR fo_X7_3 (by decide +kernel : decode cX7_init 1 = .ok (.invokespecial 3, 3)) (Nat.le_of_ble_eq_true rfl) (Nat.le_of_ble_eq_true rfl) ?_
  refine pr_aload_n hC (by decide +kernel : decode cX7_init 4 = .ok (.aload_n 0, 1)) rfl ?_
  refine pr_bipush hC (20) (by decide +kernel : decode cX7_init 5 = .ok (.bipush 20, 2)) rfl ?_
  refine pg_newi hC hR 20 (n + 1) 1 20 rfl rfl rfl fy_int (by decide +kernel : decode cX7_init 7 = .ok (.newarray .int, 2)) (by decide) rfl (Nat.le_of_ble_eq_true rfl) (Nat.le_of_ble_eq_true rfl) (Nat.le_of_ble_eq_true rfl) ?_
  refine pg_putF hC fp_X7_11 (by decide +kernel : decode cX7_init 9 = .ok (.putfield 11, 3)) hI ((tu_ne e_c_n).trans (ht)) rfl rfl ?_
  exact pg_ret hM (by decide +kernel : decode cX7_init 12 = .ok (.return_, 1))
def F_X7_init (b : Nat) (c n : Nat) : Nat → Value := (va_up (dF 6) 0 (.ref (b + n)))
theorem gv_X7_init {G : px_D} {b : Nat} {t : Nat → Option va_E} {c n : Nat} (hc : c < n) : g_X7_init G b t c n c = some (po 6 3 (F_X7_init b c n)) := by
  unfold g_X7_init F_X7_init
  exact tu_eq
theorem gf_X7_init {G : px_D} {b : Nat} {t : Nat → Option va_E} {c n : Nat} {a : Nat} (h1 : a ≠ c) (h2 : a < n) : g_X7_init G b t c n a = t a := by
  unfold g_X7_init
  have e_a_c : a ≠ c := by omega
  have e_a_n : a ≠ n := by omega
  exact ((tu_ne e_a_c).trans (tu_ne e_a_n))
def g_X4_init (G : px_D) (b : Nat) (t : Nat → Option va_E) (c w n : Nat) : Nat → Option va_E :=
  (tu (tu t (c) (po 3 5 (va_up (dF 3) 0 (.ref (b + w))))) (c) (po 3 5 (va_up (va_up (dF 3) 0 (.ref (b + w))) 3 (.int (-1)))))
set_option maxRecDepth 100000 in
set_option maxHeartbeats 40000000 in
theorem c_X4_init {l : Launch} {G : px_D} {h0 : pe_H} {b : Nat} {t : Nat → Option va_E} {c w n : Nat} (ht : t c = some (po 3 5 (dF 3))) (hc : c < n) : cn l G 1 yX4_init cX4_init 2 [.ref (b + c), .ref (b + w)] h0 b t n 0 0 (g_X4_init G b t c w n) (n) := by
  refine pn_of (by decide) (Nat.le_of_ble_eq_true rfl) [some (.ref (b + c)), some (.ref (b + w))] rfl (fun X hM hE => ?_)
  have hC := hM.1
  have hR := hM.2.2.1
  have hI := hM.2.2.2.2
  refine pr_aload_n hC (by decide +kernel : decode cX4_init 0 = .ok (.aload_n 0, 1)) rfl ?_
  refine pr_objInit hC hR fo_X4_3 (by decide +kernel : decode cX4_init 1 = .ok (.invokespecial 3, 3)) (Nat.le_of_ble_eq_true rfl) (Nat.le_of_ble_eq_true rfl) ?_
  refine pr_aload_n hC (by decide +kernel : decode cX4_init 4 = .ok (.aload_n 0, 1)) rfl ?_
  refine pr_aload_n hC (by decide +kernel : decode cX4_init 5 = .ok (.aload_n 1, 1)) rfl ?_
  refine pg_putF hC fp_X4_9 (by decide +kernel : decode cX4_init 6 = .ok (.putfield 9, 3)) hI ht rfl rfl ?_
  refine pr_aload_n hC (by decide +kernel : decode cX4_init 9 = .ok (.aload_n 0, 1)) rfl ?_
  refine pr_iconst hC (-1) (by decide +kernel : decode cX4_init 10 = .ok (.iconst (-1), 1)) rfl ?_
  refine pg_put hC fp_X4_15 (by decide +kernel : decode cX4_init 11 = .ok (.putfield 15, 3)) tu_eq rfl rfl ?_
  exact pg_ret hM (by decide +kernel : decode cX4_init 14 = .ok (.return_, 1))
def F_X4_init (b : Nat) (c w n : Nat) : Nat → Value := (va_up (va_up (dF 3) 0 (.ref (b + w))) 3 (.int (-1)))
theorem gv_X4_init {G : px_D} {b : Nat} {t : Nat → Option va_E} {c w n : Nat} (hc : c < n) : g_X4_init G b t c w n c = some (po 3 5 (F_X4_init b c w n)) := by
  unfold g_X4_init F_X4_init
  exact tu_eq
theorem gf_X4_init {G : px_D} {b : Nat} {t : Nat → Option va_E} {c w n : Nat} {a : Nat} (h1 : a ≠ c) (h2 : a < n) : g_X4_init G b t c w n a = t a := by
  unfold g_X4_init
  have e_a_c : a ≠ c := by omega
  exact ((tu_ne e_a_c).trans (tu_ne e_a_c))
def g_X1_init (G : px_D) (b : Nat) (t : Nat → Option va_E) (c w n : Nat) : Nat → Option va_E :=
  (tu (tu (tu (tu (tu (tu (tu (tu (tu t (c) (po 0 7 (va_up (dF 0) 0 (.ref (b + w))))) (n) (pa_i G 48 (fun _ => 0))) (c) (po 0 7 (va_up (va_up (dF 0) 0 (.ref (b + w))) 1 (.ref (b + n))))) (n + 1) (pa_i G 48 (fun _ => 0))) (c) (po 0 7 (va_up (va_up (va_up (dF 0) 0 (.ref (b + w))) 1 (.ref (b + n))) 2 (.ref (b + (n + 1)))))) (n + 2) (pa_i G 3 (fun _ => 0))) (c) (po 0 7 (va_up (va_up (va_up (va_up (dF 0) 0 (.ref (b + w))) 1 (.ref (b + n))) 2 (.ref (b + (n + 1)))) 3 (.ref (b + (n + 2)))))) (n + 3) (pa_i G 5 (fun _ => 0))) (c) (po 0 7 (va_up (va_up (va_up (va_up (va_up (dF 0) 0 (.ref (b + w))) 1 (.ref (b + n))) 2 (.ref (b + (n + 1)))) 3 (.ref (b + (n + 2)))) 6 (.ref (b + (n + 3))))))
set_option maxRecDepth 100000 in
set_option maxHeartbeats 40000000 in
theorem c_X1_init {l : Launch} {G : px_D} {h0 : pe_H} {b : Nat} {t : Nat → Option va_E} {c w n : Nat} (ht : t c = some (po 0 7 (dF 0))) (hc : c < n) : cn l G 1 yX1_init cX1_init 2 [.ref (b + c), .ref (b + w)] h0 b t n 4 104 (g_X1_init G b t c w n) (n + 4) := by
  refine pn_of (by decide) (Nat.le_of_ble_eq_true rfl) [some (.ref (b + c)), some (.ref (b + w))] rfl (fun X hM hE => ?_)
  have hC := hM.1
  have hR := hM.2.2.1
  have hI := hM.2.2.2.2
  have e_c_n : c ≠ n := by omega
  have e_c_n_1 : c ≠ n + 1 := by omega
  have e_c_n_2 : c ≠ n + 2 := by omega
  have e_c_n_3 : c ≠ n + 3 := by omega
  refine pr_aload_n hC (by decide +kernel : decode cX1_init 0 = .ok (.aload_n 0, 1)) rfl ?_
  refine pr_objInit hC hR fo_X1_3 (by decide +kernel : decode cX1_init 1 = .ok (.invokespecial 3, 3)) (Nat.le_of_ble_eq_true rfl) (Nat.le_of_ble_eq_true rfl) ?_
  refine pr_aload_n hC (by decide +kernel : decode cX1_init 4 = .ok (.aload_n 0, 1)) rfl ?_
  refine pr_aload_n hC (by decide +kernel : decode cX1_init 5 = .ok (.aload_n 1, 1)) rfl ?_
  refine pg_putF hC fp_X1_9 (by decide +kernel : decode cX1_init 6 = .ok (.putfield 9, 3)) hI ht rfl rfl ?_
  refine pr_aload_n hC (by decide +kernel : decode cX1_init 9 = .ok (.aload_n 0, 1)) rfl ?_
  refine pr_bipush hC (48) (by decide +kernel : decode cX1_init 10 = .ok (.bipush 48, 2)) rfl ?_
  refine pg_newi hC hR 48 (n + 1) 1 48 rfl rfl rfl fy_int (by decide +kernel : decode cX1_init 12 = .ok (.newarray .int, 2)) (by decide) rfl (Nat.le_of_ble_eq_true rfl) (Nat.le_of_ble_eq_true rfl) (Nat.le_of_ble_eq_true rfl) ?_
  refine pg_putF hC fp_X1_15 (by decide +kernel : decode cX1_init 14 = .ok (.putfield 15, 3)) hI ((tu_ne e_c_n).trans (tu_eq)) rfl rfl ?_
  refine pr_aload_n hC (by decide +kernel : decode cX1_init 17 = .ok (.aload_n 0, 1)) rfl ?_
  refine pr_bipush hC (48) (by decide +kernel : decode cX1_init 18 = .ok (.bipush 48, 2)) rfl ?_
  refine pg_newi hC hR 48 (n + 2) 2 96 rfl rfl rfl fy_int (by decide +kernel : decode cX1_init 20 = .ok (.newarray .int, 2)) (by decide) rfl (Nat.le_of_ble_eq_true rfl) (Nat.le_of_ble_eq_true rfl) (Nat.le_of_ble_eq_true rfl) ?_
  refine pg_putF hC fp_X1_19 (by decide +kernel : decode cX1_init 22 = .ok (.putfield 19, 3)) hI ((tu_ne e_c_n_1).trans (tu_eq)) rfl rfl ?_
  refine pr_aload_n hC (by decide +kernel : decode cX1_init 25 = .ok (.aload_n 0, 1)) rfl ?_
  refine pr_iconst hC (3) (by decide +kernel : decode cX1_init 26 = .ok (.iconst 3, 1)) rfl ?_
  refine pg_newi hC hR 3 (n + 3) 3 99 rfl rfl rfl fy_int (by decide +kernel : decode cX1_init 27 = .ok (.newarray .int, 2)) (by decide) rfl (Nat.le_of_ble_eq_true rfl) (Nat.le_of_ble_eq_true rfl) (Nat.le_of_ble_eq_true rfl) ?_
  refine pg_putF hC fp_X1_22 (by decide +kernel : decode cX1_init 29 = .ok (.putfield 22, 3)) hI ((tu_ne e_c_n_2).trans (tu_eq)) rfl rfl ?_
  refine pr_aload_n hC (by decide +kernel : decode cX1_init 32 = .ok (.aload_n 0, 1)) rfl ?_
  refine pr_iconst hC (5) (by decide +kernel : decode cX1_init 33 = .ok (.iconst 5, 1)) rfl ?_
  refine pg_newi hC hR 5 (n + 4) 4 104 rfl rfl rfl fy_int (by decide +kernel : decode cX1_init 34 = .ok (.newarray .int, 2)) (by decide) rfl (Nat.le_of_ble_eq_true rfl) (Nat.le_of_ble_eq_true rfl) (Nat.le_of_ble_eq_true rfl) ?_
  refine pg_putF hC fp_X1_25 (by decide +kernel : decode cX1_init 36 = .ok (.putfield 25, 3)) hI ((tu_ne e_c_n_3).trans (tu_eq)) rfl rfl ?_
  exact pg_ret hM (by decide +kernel : decode cX1_init 39 = .ok (.return_, 1))
def F_X1_init (b : Nat) (c w n : Nat) : Nat → Value := (va_up (va_up (va_up (va_up (va_up (dF 0) 0 (.ref (b + w))) 1 (.ref (b + n))) 2 (.ref (b + (n + 1)))) 3 (.ref (b + (n + 2)))) 6 (.ref (b + (n + 3))))
theorem gv_X1_init {G : px_D} {b : Nat} {t : Nat → Option va_E} {c w n : Nat} (hc : c < n) : g_X1_init G b t c w n c = some (po 0 7 (F_X1_init b c w n)) := by
  unfold g_X1_init F_X1_init
  exact tu_eq
theorem gf_X1_init {G : px_D} {b : Nat} {t : Nat → Option va_E} {c w n : Nat} {a : Nat} (h1 : a ≠ c) (h2 : a < n) : g_X1_init G b t c w n a = t a := by
  unfold g_X1_init
  have e_a_c : a ≠ c := by omega
  have e_a_n_3 : a ≠ n + 3 := by omega
  have e_a_n_2 : a ≠ n + 2 := by omega
  have e_a_n_1 : a ≠ n + 1 := by omega
  have e_a_n : a ≠ n := by omega
  exact ((tu_ne e_a_c).trans ((tu_ne e_a_n_3).trans ((tu_ne e_a_c).trans ((tu_ne e_a_n_2).trans ((tu_ne e_a_c).trans ((tu_ne e_a_n_1).trans ((tu_ne e_a_c).trans ((tu_ne e_a_n).trans (tu_ne e_a_c)))))))))
