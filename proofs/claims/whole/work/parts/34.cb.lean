def g_X6_open (G : px_D) (b : Nat) (t : Nat → Option va_E) (c w m : Nat) (F : Nat → Value) : Nat → Option va_E :=
  (tu (tu (tu (tu (tu t (c) (po 5 10 (va_up F 0 (.ref (b + w))))) (c) (po 5 10 (va_up (va_up F 0 (.ref (b + w))) 1 (.int (-1))))) (m) (pa_i G 48 (rw_ 0 (-1) 48))) (m + 1) (pa_i G 48 (rw_ 0 (-1) 48))) (m + 3) (pa_f G 10 (rw_ 0 1112014848 10)))
set_option maxRecDepth 100000 in
set_option maxHeartbeats 40000000 in
theorem c_X6_open {l : Launch} {G : px_D} {h0 : pe_H} {b : Nat} {t : Nat → Option va_E} {c w m ga n : Nat} {F FW : Nat → Value} (ht : t c = some (po 5 10 F)) (hF2 : F 2 = .ref (b + m)) (hr0 : t (m) = some (pa_i G 48 (fun _ => 0))) (hF3 : F 3 = .ref (b + (m + 1))) (hr1 : t (m + 1) = some (pa_i G 48 (fun _ => 0))) (hF4 : F 4 = .ref (b + (m + 2))) (hr2 : t (m + 2) = some (pa_i G 10 (fun _ => 0))) (hF5 : F 5 = .ref (b + (m + 3))) (hr3 : t (m + 3) = some (pa_f G 10 (fun _ => 0))) (hF6 : F 6 = .ref (b + (m + 4))) (hr4 : t (m + 4) = some (pa_i G 10 (fun _ => 0))) (hF7 : F 7 = .ref (b + (m + 5))) (hr5 : t (m + 5) = some (pa_i G 10 (fun _ => 0))) (hF8 : F 8 = .ref (b + (m + 6))) (hr6 : t (m + 6) = some (pa_i G 10 (fun _ => 0))) (hF9 : F 9 = .ref (b + (m + 7))) (hr7 : t (m + 7) = some (pa_i G 10 (fun _ => 0))) (hw : t w = some (po 8 15 FW)) (hW2 : FW 2 = .ref (b + ga)) (hga : t ga = some (pa_i G 10 (fun _ => 0))) (h1 : c < m) (h2 : w < m) (h3 : ga < m) (h4 : c ≠ w) (h5 : c ≠ ga) (h6 : w ≠ ga) : cn l G 1 yX6_open cX6_open 3 [.ref (b + c), .ref (b + w)] h0 b t n 0 0 (g_X6_open G b t c w m F) n := by
  refine pn_of (by decide) (Nat.le_of_ble_eq_true rfl) [some (.ref (b + c)), some (.ref (b + w)), none] rfl (fun X hM hE => ?_)
  have hC := hM.1
  have hR := hM.2.2.1
  have e_m_c : m ≠ c := by omega
  have e_m_1_c : m + 1 ≠ c := by omega
  have e_c_m_1 : c ≠ m + 1 := by omega
  have e_c_m : c ≠ m := by omega
  have e_m_2_m_1 : m + 2 ≠ m + 1 := by omega
  have e_m_2_m : m + 2 ≠ m := by omega
  have e_m_2_c : m + 2 ≠ c := by omega
  have e_m_3_m_1 : m + 3 ≠ m + 1 := by omega
  have e_m_3_m : m + 3 ≠ m := by omega
  have e_m_3_c : m + 3 ≠ c := by omega
  have e_m_4_m_1 : m + 4 ≠ m + 1 := by omega
  have e_m_4_m : m + 4 ≠ m := by omega
  have e_m_4_c : m + 4 ≠ c := by omega
  have e_m_5_m_1 : m + 5 ≠ m + 1 := by omega
  have e_m_5_m : m + 5 ≠ m := by omega
  have e_m_5_c : m + 5 ≠ c := by omega
  have e_w_m_1 : w ≠ m + 1 := by omega
  have e_w_m : w ≠ m := by omega
  have e_w_c : w ≠ c := by omega
  have e_ga_m_1 : ga ≠ m + 1 := by omega
  have e_ga_m : ga ≠ m := by omega
  have e_ga_c : ga ≠ c := by omega
  refine pr_aload_n hC (by decide +kernel : decode cX6_open 0 = .ok (.aload_n 0, 1)) rfl ?_
  refine pr_aload_n hC (by decide +kernel : decode cX6_open 1 = .ok (.aload_n 1, 1)) rfl ?_
  refine pg_put hC fp_X6_41 (by decide +kernel : decode cX6_open 2 = .ok (.putfield 41, 3)) ht rfl rfl ?_
  refine pr_aload_n hC (by decide +kernel : decode cX6_open 5 = .ok (.aload_n 0, 1)) rfl ?_
  refine pr_iconst hC (-1) (by decide +kernel : decode cX6_open 6 = .ok (.iconst (-1), 1)) rfl ?_
  refine pg_put hC fp_X6_45 (by decide +kernel : decode cX6_open 7 = .ok (.putfield 45, 3)) tu_eq rfl rfl ?_
  refine pr_iconst hC (0) (by decide +kernel : decode cX6_open 10 = .ok (.iconst 0, 1)) rfl ?_
  refine pr_istore_n hC (by decide +kernel : decode cX6_open 11 = .ok (.istore_n 2, 1)) (by decide) rfl ?_
  refine lp_X6o_12 hC tu_eq hF2 hF3 h1 ((tu_ne e_m_c).trans ((tu_ne e_m_c).trans (hr0))) ((tu_ne e_m_1_c).trans ((tu_ne e_m_1_c).trans (hr1))) ?_
  refine pr_iconst hC (0) (by decide +kernel : decode cX6_open 41 = .ok (.iconst 0, 1)) rfl ?_
  refine pr_istore_n hC (by decide +kernel : decode cX6_open 42 = .ok (.istore_n 2, 1)) (by decide) rfl ?_
  refine lp_X6o_43 hC ((tu_ne e_c_m_1).trans ((tu_ne e_c_m).trans (tu_eq))) rfl hF4 hF5 hF6 hF7 ((tu_ne e_w_m_1).trans ((tu_ne e_w_m).trans ((tu_ne e_w_c).trans ((tu_ne e_w_c).trans (hw))))) hW2 ((tu_ne e_ga_m_1).trans ((tu_ne e_ga_m).trans ((tu_ne e_ga_c).trans ((tu_ne e_ga_c).trans (hga))))) h1 h2 h3 ((tu_ne e_m_2_m_1).trans ((tu_ne e_m_2_m).trans ((tu_ne e_m_2_c).trans ((tu_ne e_m_2_c).trans (hr2))))) ((tu_ne e_m_3_m_1).trans ((tu_ne e_m_3_m).trans ((tu_ne e_m_3_c).trans ((tu_ne e_m_3_c).trans (hr3))))) ((tu_ne e_m_4_m_1).trans ((tu_ne e_m_4_m).trans ((tu_ne e_m_4_c).trans ((tu_ne e_m_4_c).trans (hr4))))) ((tu_ne e_m_5_m_1).trans ((tu_ne e_m_5_m).trans ((tu_ne e_m_5_c).trans ((tu_ne e_m_5_c).trans (hr5))))) ?_
  exact pg_ret hM (by decide +kernel : decode cX6_open 95 = .ok (.return_, 1))
set_option maxRecDepth 100000 in
theorem gf_X6_open {G : px_D} {b : Nat} {t : Nat → Option va_E} {c w m : Nat} {F : Nat → Value} {a : Nat} (h1 : a ≠ c) (h2 : a < m) : g_X6_open G b t c w m F a = t a := by
  unfold g_X6_open
  have e_a_m_3 : a ≠ m + 3 := by omega
  have e_a_m_1 : a ≠ m + 1 := by omega
  have e_a_m : a ≠ m := by omega
  have e_a_c : a ≠ c := by omega
  exact ((tu_ne e_a_m_3).trans ((tu_ne e_a_m_1).trans ((tu_ne e_a_m).trans ((tu_ne e_a_c).trans (tu_ne e_a_c)))))
set_option maxRecDepth 100000 in
theorem gv_X6_open {G : px_D} {b : Nat} {t : Nat → Option va_E} {c w m : Nat} {F : Nat → Value} (h1 : c < m) : g_X6_open G b t c w m F c = some (po 5 10 (va_up (va_up F 0 (.ref (b + w))) 1 (.int (-1)))) := by
  unfold g_X6_open
  have e_c_m_3 : c ≠ m + 3 := by omega
  have e_c_m_1 : c ≠ m + 1 := by omega
  have e_c_m : c ≠ m := by omega
  exact ((tu_ne e_c_m_3).trans ((tu_ne e_c_m_1).trans ((tu_ne e_c_m).trans (tu_eq))))
def g_X6_init (G : px_D) (b : Nat) (t : Nat → Option va_E) (c w n : Nat) : Nat → Option va_E :=
  (g_X6_open G b (tu (tu (tu (tu (tu (tu (tu (tu (tu (tu (tu (tu (tu (tu (tu (tu t (n) (pa_i G 48 (fun _ => 0))) (c) (po 5 10 (va_up (dF 5) 2 (.ref (b + n))))) (n + 1) (pa_i G 48 (fun _ => 0))) (c) (po 5 10 (va_up (va_up (dF 5) 2 (.ref (b + n))) 3 (.ref (b + (n + 1)))))) (n + 2) (pa_i G 10 (fun _ => 0))) (c) (po 5 10 (va_up (va_up (va_up (dF 5) 2 (.ref (b + n))) 3 (.ref (b + (n + 1)))) 4 (.ref (b + (n + 2)))))) (n + 3) (pa_f G 10 (fun _ => 0))) (c) (po 5 10 (va_up (va_up (va_up (va_up (dF 5) 2 (.ref (b + n))) 3 (.ref (b + (n + 1)))) 4 (.ref (b + (n + 2)))) 5 (.ref (b + (n + 3)))))) (n + 4) (pa_i G 10 (fun _ => 0))) (c) (po 5 10 (va_up (va_up (va_up (va_up (va_up (dF 5) 2 (.ref (b + n))) 3 (.ref (b + (n + 1)))) 4 (.ref (b + (n + 2)))) 5 (.ref (b + (n + 3)))) 6 (.ref (b + (n + 4)))))) (n + 5) (pa_i G 10 (fun _ => 0))) (c) (po 5 10 (va_up (va_up (va_up (va_up (va_up (va_up (dF 5) 2 (.ref (b + n))) 3 (.ref (b + (n + 1)))) 4 (.ref (b + (n + 2)))) 5 (.ref (b + (n + 3)))) 6 (.ref (b + (n + 4)))) 7 (.ref (b + (n + 5)))))) (n + 6) (pa_i G 10 (fun _ => 0))) (c) (po 5 10 (va_up (va_up (va_up (va_up (va_up (va_up (va_up (dF 5) 2 (.ref (b + n))) 3 (.ref (b + (n + 1)))) 4 (.ref (b + (n + 2)))) 5 (.ref (b + (n + 3)))) 6 (.ref (b + (n + 4)))) 7 (.ref (b + (n + 5)))) 8 (.ref (b + (n + 6)))))) (n + 7) (pa_i G 10 (fun _ => 0))) (c) (po 5 10 (va_up (va_up (va_up (va_up (va_up (va_up (va_up (va_up (dF 5) 2 (.ref (b + n))) 3 (.ref (b + (n + 1)))) 4 (.ref (b + (n + 2)))) 5 (.ref (b + (n + 3)))) 6 (.ref (b + (n + 4)))) 7 (.ref (b + (n + 5)))) 8 (.ref (b + (n + 6)))) 9 (.ref (b + (n + 7)))))) (c) (w) n (va_up (va_up (va_up (va_up (va_up (va_up (va_up (va_up (dF 5) 2 (.ref (b + n))) 3 (.ref (b + (n + 1)))) 4 (.ref (b + (n + 2)))) 5 (.ref (b + (n + 3)))) 6 (.ref (b + (n + 4)))) 7 (.ref (b + (n + 5)))) 8 (.ref (b + (n + 6)))) 9 (.ref (b + (n + 7)))))
set_option maxRecDepth 100000 in
set_option maxHeartbeats 40000000 in
theorem c_X6_init {l : Launch} {G : px_D} {h0 : pe_H} {b : Nat} {t : Nat → Option va_E} {c w ga n : Nat} {FW : Nat → Value} (ht : t c = some (po 5 10 (dF 5))) (hw : t w = some (po 8 15 FW)) (hW2 : FW 2 = .ref (b + ga)) (hga : t ga = some (pa_i G 10 (fun _ => 0))) (h1 : c < n) (h2 : w < n) (h3 : ga < n) (h4 : c ≠ w) (h5 : c ≠ ga) (h6 : w ≠ ga) : cn l G 2 yX6_init cX6_init 2 [.ref (b + c), .ref (b + w)] h0 b t n 8 156 (g_X6_init G b t c w n) (n + 8) := by
  refine pn_of (by decide) (Nat.le_of_ble_eq_true rfl) [some (.ref (b + c)), some (.ref (b + w))] rfl (fun X hM hE => ?_)
  have hC := hM.1
  have hR := hM.2.2.1
  have hI := hM.2.2.2.2
  have e_c_n : c ≠ n := by omega
  have e_c_n_1 : c ≠ n + 1 := by omega
  have e_c_n_2 : c ≠ n + 2 := by omega
  have e_c_n_3 : c ≠ n + 3 := by omega
  have e_c_n_4 : c ≠ n + 4 := by omega
  have e_c_n_5 : c ≠ n + 5 := by omega
  have e_c_n_6 : c ≠ n + 6 := by omega
  have e_c_n_7 : c ≠ n + 7 := by omega
  have e_n_c : n ≠ c := by omega
  have e_n_n_7 : n ≠ n + 7 := by omega
  have e_n_n_6 : n ≠ n + 6 := by omega
  have e_n_n_5 : n ≠ n + 5 := by omega
  have e_n_n_4 : n ≠ n + 4 := by omega
  have e_n_n_3 : n ≠ n + 3 := by omega
  have e_n_n_2 : n ≠ n + 2 := by omega
  have e_n_n_1 : n ≠ n + 1 := by omega
  have e_n_1_c : n + 1 ≠ c := by omega
  have e_n_1_n_7 : n + 1 ≠ n + 7 := by omega
  have e_n_1_n_6 : n + 1 ≠ n + 6 := by omega
  have e_n_1_n_5 : n + 1 ≠ n + 5 := by omega
  have e_n_1_n_4 : n + 1 ≠ n + 4 := by omega
  have e_n_1_n_3 : n + 1 ≠ n + 3 := by omega
  have e_n_1_n_2 : n + 1 ≠ n + 2 := by omega
  have e_n_2_c : n + 2 ≠ c := by omega
  have e_n_2_n_7 : n + 2 ≠ n + 7 := by omega
  have e_n_2_n_6 : n + 2 ≠ n + 6 := by omega
  have e_n_2_n_5 : n + 2 ≠ n + 5 := by omega
  have e_n_2_n_4 : n + 2 ≠ n + 4 := by omega
  have e_n_2_n_3 : n + 2 ≠ n + 3 := by omega
  have e_n_3_c : n + 3 ≠ c := by omega
  have e_n_3_n_7 : n + 3 ≠ n + 7 := by omega
  have e_n_3_n_6 : n + 3 ≠ n + 6 := by omega
  have e_n_3_n_5 : n + 3 ≠ n + 5 := by omega
  have e_n_3_n_4 : n + 3 ≠ n + 4 := by omega
  have e_n_4_c : n + 4 ≠ c := by omega
  have e_n_4_n_7 : n + 4 ≠ n + 7 := by omega
  have e_n_4_n_6 : n + 4 ≠ n + 6 := by omega
  have e_n_4_n_5 : n + 4 ≠ n + 5 := by omega
  have e_n_5_c : n + 5 ≠ c := by omega
  have e_n_5_n_7 : n + 5 ≠ n + 7 := by omega
  have e_n_5_n_6 : n + 5 ≠ n + 6 := by omega
  have e_n_6_c : n + 6 ≠ c := by omega
  have e_n_6_n_7 : n + 6 ≠ n + 7 := by omega
  have e_n_7_c : n + 7 ≠ c := by omega
  have e_w_c : w ≠ c := by omega
  have e_w_n_7 : w ≠ n + 7 := by omega
  have e_w_n_6 : w ≠ n + 6 := by omega
  have e_w_n_5 : w ≠ n + 5 := by omega
  have e_w_n_4 : w ≠ n + 4 := by omega
  have e_w_n_3 : w ≠ n + 3 := by omega
  have e_w_n_2 : w ≠ n + 2 := by omega
  have e_w_n_1 : w ≠ n + 1 := by omega
  have e_w_n : w ≠ n := by omega
  have e_ga_c : ga ≠ c := by omega
  have e_ga_n_7 : ga ≠ n + 7 := by omega
  have e_ga_n_6 : ga ≠ n + 6 := by omega
  have e_ga_n_5 : ga ≠ n + 5 := by omega
  have e_ga_n_4 : ga ≠ n + 4 := by omega
  have e_ga_n_3 : ga ≠ n + 3 := by omega
  have e_ga_n_2 : ga ≠ n + 2 := by omega
  have e_ga_n_1 : ga ≠ n + 1 := by omega
  have e_ga_n : ga ≠ n := by omega
  refine pr_aload_n hC (by decide +kernel : decode cX6_init 0 = .ok (.aload_n 0, 1)) rfl ?_
  refine pr_objInit hC hR fo_X6_3 (by decide +kernel : decode cX6_init 1 = .ok (.invokespecial 3, 3)) (Nat.le_of_ble_eq_true rfl) (Nat.le_of_ble_eq_true rfl) ?_
  refine pr_aload_n hC (by decide +kernel : decode cX6_init 4 = .ok (.aload_n 0, 1)) rfl ?_
  refine pr_bipush hC (48) (by decide +kernel : decode cX6_init 5 = .ok (.bipush 48, 2)) rfl ?_
  refine pg_newi hC hR 48 (n + 1) 1 48 rfl rfl rfl fy_int (by decide +kernel : decode cX6_init 7 = .ok (.newarray .int, 2)) (by decide) rfl (Nat.le_of_ble_eq_true rfl) (Nat.le_of_ble_eq_true rfl) (Nat.le_of_ble_eq_true rfl) ?_
  refine pg_putF hC fp_X6_9 (by decide +kernel : decode cX6_init 9 = .ok (.putfield 9, 3)) hI ((tu_ne e_c_n).trans (ht)) rfl rfl ?_
  refine pr_aload_n hC (by decide +kernel : decode cX6_init 12 = .ok (.aload_n 0, 1)) rfl ?_
  refine pr_bipush hC (48) (by decide +kernel : decode cX6_init 13 = .ok (.bipush 48, 2)) rfl ?_
  refine pg_newi hC hR 48 (n + 2) 2 96 rfl rfl rfl fy_int (by decide +kernel : decode cX6_init 15 = .ok (.newarray .int, 2)) (by decide) rfl (Nat.le_of_ble_eq_true rfl) (Nat.le_of_ble_eq_true rfl) (Nat.le_of_ble_eq_true rfl) ?_
  refine pg_putF hC fp_X6_15 (by decide +kernel : decode cX6_init 17 = .ok (.putfield 15, 3)) hI ((tu_ne e_c_n_1).trans (tu_eq)) rfl rfl ?_
  refine pr_aload_n hC (by decide +kernel : decode cX6_init 20 = .ok (.aload_n 0, 1)) rfl ?_
  refine pr_bipush hC (10) (by decide +kernel : decode cX6_init 21 = .ok (.bipush 10, 2)) rfl ?_
  refine pg_newi hC hR 10 (n + 3) 3 106 rfl rfl rfl fy_int (by decide +kernel : decode cX6_init 23 = .ok (.newarray .int, 2)) (by decide) rfl (Nat.le_of_ble_eq_true rfl) (Nat.le_of_ble_eq_true rfl) (Nat.le_of_ble_eq_true rfl) ?_
  refine pg_putF hC fp_X6_18 (by decide +kernel : decode cX6_init 25 = .ok (.putfield 18, 3)) hI ((tu_ne e_c_n_2).trans (tu_eq)) rfl rfl ?_
  refine pr_aload_n hC (by decide +kernel : decode cX6_init 28 = .ok (.aload_n 0, 1)) rfl ?_
  refine pr_bipush hC (10) (by decide +kernel : decode cX6_init 29 = .ok (.bipush 10, 2)) rfl ?_
  refine pg_newf hC hR 10 (n + 4) 4 116 rfl rfl rfl fy_float (by decide +kernel : decode cX6_init 31 = .ok (.newarray .float, 2)) (by decide) rfl (Nat.le_of_ble_eq_true rfl) (Nat.le_of_ble_eq_true rfl) (Nat.le_of_ble_eq_true rfl) ?_
  refine pg_putF hC fp_X6_21 (by decide +kernel : decode cX6_init 33 = .ok (.putfield 21, 3)) hI ((tu_ne e_c_n_3).trans (tu_eq)) rfl rfl ?_
  refine pr_aload_n hC (by decide +kernel : decode cX6_init 36 = .ok (.aload_n 0, 1)) rfl ?_
  refine pr_bipush hC (10) (by decide +kernel : decode cX6_init 37 = .ok (.bipush 10, 2)) rfl ?_
  refine pg_newi hC hR 10 (n + 5) 5 126 rfl rfl rfl fy_int (by decide +kernel : decode cX6_init 39 = .ok (.newarray .int, 2)) (by decide) rfl (Nat.le_of_ble_eq_true rfl) (Nat.le_of_ble_eq_true rfl) (Nat.le_of_ble_eq_true rfl) ?_
  refine pg_putF hC fp_X6_25 (by decide +kernel : decode cX6_init 41 = .ok (.putfield 25, 3)) hI ((tu_ne e_c_n_4).trans (tu_eq)) rfl rfl ?_
  refine pr_aload_n hC (by decide +kernel : decode cX6_init 44 = .ok (.aload_n 0, 1)) rfl ?_
  refine pr_bipush hC (10) (by decide +kernel : decode cX6_init 45 = .ok (.bipush 10, 2)) rfl ?_
  refine pg_newi hC hR 10 (n + 6) 6 136 rfl rfl rfl fy_int (by decide +kernel : decode cX6_init 47 = .ok (.newarray .int, 2)) (by decide) rfl (Nat.le_of_ble_eq_true rfl) (Nat.le_of_ble_eq_true rfl) (Nat.le_of_ble_eq_true rfl) ?_
  refine pg_putF hC fp_X6_28 (by decide +kernel : decode cX6_init 49 = .ok (.putfield 28, 3)) hI ((tu_ne e_c_n_5).trans (tu_eq)) rfl rfl ?_
  refine pr_aload_n hC (by decide +kernel : decode cX6_init 52 = .ok (.aload_n 0, 1)) rfl ?_
  refine pr_bipush hC (10) (by decide +kernel : decode cX6_init 53 = .ok (.bipush 10, 2)) rfl ?_
  refine pg_newi hC hR 10 (n + 7) 7 146 rfl rfl rfl fy_int (by decide +kernel : decode cX6_init 55 = .ok (.newarray .int, 2)) (by decide) rfl (Nat.le_of_ble_eq_true rfl) (Nat.le_of_ble_eq_true rfl) (Nat.le_of_ble_eq_true rfl) ?_
  refine pg_putF hC fp_X6_31 (by decide +kernel : decode cX6_init 57 = .ok (.putfield 31, 3)) hI ((tu_ne e_c_n_6).trans (tu_eq)) rfl rfl ?_
  refine pr_aload_n hC (by decide +kernel : decode cX6_init 60 = .ok (.aload_n 0, 1)) rfl ?_
  refine pr_bipush hC (10) (by decide +kernel : decode cX6_init 61 = .ok (.bipush 10, 2)) rfl ?_
  refine pg_newi hC hR 10 (n + 8) 8 156 rfl rfl rfl fy_int (by decide +kernel : decode cX6_init 63 = .ok (.newarray .int, 2)) (by decide) rfl (Nat.le_of_ble_eq_true rfl) (Nat.le_of_ble_eq_true rfl) (Nat.le_of_ble_eq_true rfl) ?_
  refine pg_putF hC fp_X6_34 (by decide +kernel : decode cX6_init 65 = .ok (.putfield 34, 3)) hI ((tu_ne e_c_n_7).trans (tu_eq)) rfl rfl ?_
  refine pr_aload_n hC (by decide +kernel : decode cX6_init 68 = .ok (.aload_n 0, 1)) rfl ?_
  refine pr_aload_n hC (by decide +kernel : decode cX6_init 69 = .ok (.aload_n 1, 1)) rfl ?_
  refine pg_callV hC hE hR [.ref (b + w)] (n' := n + 8) 8 156 rfl rfl fv_X6_37 (by decide +kernel : decode cX6_init 70 = .ok (.invokevirtual 37, 3)) (c_X6_open tu_eq rfl ((tu_ne e_n_c).trans ((tu_ne e_n_n_7).trans ((tu_ne e_n_c).trans ((tu_ne e_n_n_6).trans ((tu_ne e_n_c).trans ((tu_ne e_n_n_5).trans ((tu_ne e_n_c).trans ((tu_ne e_n_n_4).trans ((tu_ne e_n_c).trans ((tu_ne e_n_n_3).trans ((tu_ne e_n_c).trans ((tu_ne e_n_n_2).trans ((tu_ne e_n_c).trans ((tu_ne e_n_n_1).trans ((tu_ne e_n_c).trans (tu_eq)))))))))))))))) rfl ((tu_ne e_n_1_c).trans ((tu_ne e_n_1_n_7).trans ((tu_ne e_n_1_c).trans ((tu_ne e_n_1_n_6).trans ((tu_ne e_n_1_c).trans ((tu_ne e_n_1_n_5).trans ((tu_ne e_n_1_c).trans ((tu_ne e_n_1_n_4).trans ((tu_ne e_n_1_c).trans ((tu_ne e_n_1_n_3).trans ((tu_ne e_n_1_c).trans ((tu_ne e_n_1_n_2).trans ((tu_ne e_n_1_c).trans (tu_eq)))))))))))))) rfl ((tu_ne e_n_2_c).trans ((tu_ne e_n_2_n_7).trans ((tu_ne e_n_2_c).trans ((tu_ne e_n_2_n_6).trans ((tu_ne e_n_2_c).trans ((tu_ne e_n_2_n_5).trans ((tu_ne e_n_2_c).trans ((tu_ne e_n_2_n_4).trans ((tu_ne e_n_2_c).trans ((tu_ne e_n_2_n_3).trans ((tu_ne e_n_2_c).trans (tu_eq)))))))))))) rfl ((tu_ne e_n_3_c).trans ((tu_ne e_n_3_n_7).trans ((tu_ne e_n_3_c).trans ((tu_ne e_n_3_n_6).trans ((tu_ne e_n_3_c).trans ((tu_ne e_n_3_n_5).trans ((tu_ne e_n_3_c).trans ((tu_ne e_n_3_n_4).trans ((tu_ne e_n_3_c).trans (tu_eq)))))))))) rfl ((tu_ne e_n_4_c).trans ((tu_ne e_n_4_n_7).trans ((tu_ne e_n_4_c).trans ((tu_ne e_n_4_n_6).trans ((tu_ne e_n_4_c).trans ((tu_ne e_n_4_n_5).trans ((tu_ne e_n_4_c).trans (tu_eq)))))))) rfl ((tu_ne e_n_5_c).trans ((tu_ne e_n_5_n_7).trans ((tu_ne e_n_5_c).trans ((tu_ne e_n_5_n_6).trans ((tu_ne e_n_5_c).trans (tu_eq)))))) rfl ((tu_ne e_n_6_c).trans ((tu_ne e_n_6_n_7).trans ((tu_ne e_n_6_c).trans (tu_eq)))) rfl ((tu_ne e_n_7_c).trans (tu_eq)) ((tu_ne e_w_c).trans ((tu_ne e_w_n_7).trans ((tu_ne e_w_c).trans ((tu_ne e_w_n_6).trans ((tu_ne e_w_c).trans ((tu_ne e_w_n_5).trans ((tu_ne e_w_c).trans ((tu_ne e_w_n_4).trans ((tu_ne e_w_c).trans ((tu_ne e_w_n_3).trans ((tu_ne e_w_c).trans ((tu_ne e_w_n_2).trans ((tu_ne e_w_c).trans ((tu_ne e_w_n_1).trans ((tu_ne e_w_c).trans ((tu_ne e_w_n).trans (hw))))))))))))))))) hW2 ((tu_ne e_ga_c).trans ((tu_ne e_ga_n_7).trans ((tu_ne e_ga_c).trans ((tu_ne e_ga_n_6).trans ((tu_ne e_ga_c).trans ((tu_ne e_ga_n_5).trans ((tu_ne e_ga_c).trans ((tu_ne e_ga_n_4).trans ((tu_ne e_ga_c).trans ((tu_ne e_ga_n_3).trans ((tu_ne e_ga_c).trans ((tu_ne e_ga_n_2).trans ((tu_ne e_ga_c).trans ((tu_ne e_ga_n_1).trans ((tu_ne e_ga_c).trans ((tu_ne e_ga_n).trans (hga))))))))))))))))) (by omega) (by omega) (by omega) (by omega) (by omega) (by omega)) tu_eq rfl rfl rfl (Nat.le_of_ble_eq_true rfl) (Nat.le_of_ble_eq_true rfl) (Nat.le_of_ble_eq_true rfl) (Nat.le_of_ble_eq_true rfl) ?_
  exact pg_ret hM (by decide +kernel : decode cX6_init 73 = .ok (.return_, 1))
theorem gf_X6_init {G : px_D} {b : Nat} {t : Nat → Option va_E} {c w n : Nat} {a : Nat} (h1 : a ≠ c) (h2 : a < n) : g_X6_init G b t c w n a = t a := by
  unfold g_X6_init
  have e_a_c : a ≠ c := by omega
  have l_a_n : a < n := by omega
  have e_a_n_7 : a ≠ n + 7 := by omega
  have e_a_n_6 : a ≠ n + 6 := by omega
  have e_a_n_5 : a ≠ n + 5 := by omega
  have e_a_n_4 : a ≠ n + 4 := by omega
  have e_a_n_3 : a ≠ n + 3 := by omega
  have e_a_n_2 : a ≠ n + 2 := by omega
  have e_a_n_1 : a ≠ n + 1 := by omega
  have e_a_n : a ≠ n := by omega
  exact ((gf_X6_open e_a_c l_a_n).trans ((tu_ne e_a_c).trans ((tu_ne e_a_n_7).trans ((tu_ne e_a_c).trans ((tu_ne e_a_n_6).trans ((tu_ne e_a_c).trans ((tu_ne e_a_n_5).trans ((tu_ne e_a_c).trans ((tu_ne e_a_n_4).trans ((tu_ne e_a_c).trans ((tu_ne e_a_n_3).trans ((tu_ne e_a_c).trans ((tu_ne e_a_n_2).trans ((tu_ne e_a_c).trans ((tu_ne e_a_n_1).trans ((tu_ne e_a_c).trans (tu_ne e_a_n)))))))))))))))))
def F_X6_init (b w n : Nat) : Nat → Value := (va_up (va_up (va_up (va_up (va_up (va_up (va_up (va_up (va_up (va_up (dF 5) 2 (.ref (b + n))) 3 (.ref (b + (n + 1)))) 4 (.ref (b + (n + 2)))) 5 (.ref (b + (n + 3)))) 6 (.ref (b + (n + 4)))) 7 (.ref (b + (n + 5)))) 8 (.ref (b + (n + 6)))) 9 (.ref (b + (n + 7)))) 0 (.ref (b + w))) 1 (.int (-1)))
theorem gv_X6_init {G : px_D} {b : Nat} {t : Nat → Option va_E} {c w n : Nat} (h1 : c < n) : g_X6_init G b t c w n c = some (po 5 10 (F_X6_init b w n)) := by
  unfold g_X6_init F_X6_init
  exact gv_X6_open (by omega)
