def g_X11_init (G : px_D) (b : Nat) (t : Nat → Option va_E) (c n : Nat) : Nat → Option va_E :=
  (tu (tu (g_X7_init G b (tu (tu (g_X7_init G b (tu (tu (g_X7_init G b (tu (tu (tu (g_X6_init G b (tu (tu (g_X6_init G b (tu (tu (g_X6_init G b (tu (tu (g_X6_init G b (tu (tu (g_X6_init G b (tu (tu (g_X6_init G b (tu (tu (g_X6_init G b (tu (tu (g_X6_init G b (tu (tu (tu (tu (g_X1_init G b (tu (tu (g_X6_init G b (tu (tu (g_X6_init G b (tu (tu (g_X9_init G b (tu (tu (g_X9_init G b (tu (tu (g_X4_init G b (tu (tu (g_X8_init G b (tu t (n) (po 7 8 (dF 7))) (n) (n + 1)) (c) (po 9 11 (va_up (dF 9) 0 (.ref (b + n))))) (n + 2) (po 3 5 (dF 3))) (n + 2) (n) (n + 3)) (c) (po 9 11 (va_up (va_up (dF 9) 0 (.ref (b + n))) 1 (.ref (b + (n + 2)))))) (n + 3) (po 8 15 (dF 8))) (n + 3) (n + 4)) (c) (po 9 11 (va_up (va_up (va_up (dF 9) 0 (.ref (b + n))) 1 (.ref (b + (n + 2)))) 2 (.ref (b + (n + 3)))))) (n + 52) (po 8 15 (dF 8))) (n + 52) (n + 53)) (c) (po 9 11 (va_up (va_up (va_up (va_up (dF 9) 0 (.ref (b + n))) 1 (.ref (b + (n + 2)))) 2 (.ref (b + (n + 3)))) 3 (.ref (b + (n + 52)))))) (n + 101) (po 5 10 (dF 5))) (n + 101) (n + 3) (n + 102)) (c) (po 9 11 (va_up (va_up (va_up (va_up (va_up (dF 9) 0 (.ref (b + n))) 1 (.ref (b + (n + 2)))) 2 (.ref (b + (n + 3)))) 3 (.ref (b + (n + 52)))) 4 (.ref (b + (n + 101)))))) (n + 110) (po 5 10 (dF 5))) (n + 110) (n + 3) (n + 111)) (c) (po 9 11 (va_up (va_up (va_up (va_up (va_up (va_up (dF 9) 0 (.ref (b + n))) 1 (.ref (b + (n + 2)))) 2 (.ref (b + (n + 3)))) 3 (.ref (b + (n + 52)))) 4 (.ref (b + (n + 101)))) 5 (.ref (b + (n + 110)))))) (n + 119) (po 0 7 (dF 0))) (n + 119) (n + 101) (n + 120)) (c) (po 9 11 (va_up (va_up (va_up (va_up (va_up (va_up (va_up (dF 9) 0 (.ref (b + n))) 1 (.ref (b + (n + 2)))) 2 (.ref (b + (n + 3)))) 3 (.ref (b + (n + 52)))) 4 (.ref (b + (n + 101)))) 5 (.ref (b + (n + 110)))) 6 (.ref (b + (n + 119)))))) (n + 124) (pa_r G 6 8 (fun _ => none))) (c) (po 9 11 (va_up (va_up (va_up (va_up (va_up (va_up (va_up (va_up (dF 9) 0 (.ref (b + n))) 1 (.ref (b + (n + 2)))) 2 (.ref (b + (n + 3)))) 3 (.ref (b + (n + 52)))) 4 (.ref (b + (n + 101)))) 5 (.ref (b + (n + 110)))) 6 (.ref (b + (n + 119)))) 7 (.ref (b + (n + 124)))))) (n + 125) (po 5 10 (dF 5))) (n + 125) (n + 3) (n + 126)) (n + 124) (pa_r G 6 8 (va_up (fun _ => none) (Int32.toNatClampNeg 0) (some (b + (n + 125)))))) (n + 134) (po 5 10 (dF 5))) (n + 134) (n + 3) (n + 135)) (n + 124) (pa_r G 6 8 (va_up (va_up (fun _ => none) (Int32.toNatClampNeg 0) (some (b + (n + 125)))) (Int32.toNatClampNeg 1) (some (b + (n + 134)))))) (n + 143) (po 5 10 (dF 5))) (n + 143) (n + 3) (n + 144)) (n + 124) (pa_r G 6 8 (va_up (va_up (va_up (fun _ => none) (Int32.toNatClampNeg 0) (some (b + (n + 125)))) (Int32.toNatClampNeg 1) (some (b + (n + 134)))) (Int32.toNatClampNeg 2) (some (b + (n + 143)))))) (n + 152) (po 5 10 (dF 5))) (n + 152) (n + 3) (n + 153)) (n + 124) (pa_r G 6 8 (va_up (va_up (va_up (va_up (fun _ => none) (Int32.toNatClampNeg 0) (some (b + (n + 125)))) (Int32.toNatClampNeg 1) (some (b + (n + 134)))) (Int32.toNatClampNeg 2) (some (b + (n + 143)))) (Int32.toNatClampNeg 3) (some (b + (n + 152)))))) (n + 161) (po 5 10 (dF 5))) (n + 161) (n + 3) (n + 162)) (n + 124) (pa_r G 6 8 (va_up (va_up (va_up (va_up (va_up (fun _ => none) (Int32.toNatClampNeg 0) (some (b + (n + 125)))) (Int32.toNatClampNeg 1) (some (b + (n + 134)))) (Int32.toNatClampNeg 2) (some (b + (n + 143)))) (Int32.toNatClampNeg 3) (some (b + (n + 152)))) (Int32.toNatClampNeg 4) (some (b + (n + 161)))))) (n + 170) (po 5 10 (dF 5))) (n + 170) (n + 3) (n + 171)) (n + 124) (pa_r G 6 8 (va_up (va_up (va_up (va_up (va_up (va_up (fun _ => none) (Int32.toNatClampNeg 0) (some (b + (n + 125)))) (Int32.toNatClampNeg 1) (some (b + (n + 134)))) (Int32.toNatClampNeg 2) (some (b + (n + 143)))) (Int32.toNatClampNeg 3) (some (b + (n + 152)))) (Int32.toNatClampNeg 4) (some (b + (n + 161)))) (Int32.toNatClampNeg 5) (some (b + (n + 170)))))) (n + 179) (po 5 10 (dF 5))) (n + 179) (n + 3) (n + 180)) (n + 124) (pa_r G 6 8 (va_up (va_up (va_up (va_up (va_up (va_up (va_up (fun _ => none) (Int32.toNatClampNeg 0) (some (b + (n + 125)))) (Int32.toNatClampNeg 1) (some (b + (n + 134)))) (Int32.toNatClampNeg 2) (some (b + (n + 143)))) (Int32.toNatClampNeg 3) (some (b + (n + 152)))) (Int32.toNatClampNeg 4) (some (b + (n + 161)))) (Int32.toNatClampNeg 5) (some (b + (n + 170)))) (Int32.toNatClampNeg 6) (some (b + (n + 179)))))) (n + 188) (po 5 10 (dF 5))) (n + 188) (n + 3) (n + 189)) (n + 124) (pa_r G 6 8 (va_up (va_up (va_up (va_up (va_up (va_up (va_up (va_up (fun _ => none) (Int32.toNatClampNeg 0) (some (b + (n + 125)))) (Int32.toNatClampNeg 1) (some (b + (n + 134)))) (Int32.toNatClampNeg 2) (some (b + (n + 143)))) (Int32.toNatClampNeg 3) (some (b + (n + 152)))) (Int32.toNatClampNeg 4) (some (b + (n + 161)))) (Int32.toNatClampNeg 5) (some (b + (n + 170)))) (Int32.toNatClampNeg 6) (some (b + (n + 179)))) (Int32.toNatClampNeg 7) (some (b + (n + 188)))))) (n + 197) (pa_r G 7 3 (fun _ => none))) (n + 198) (po 6 3 (dF 6))) (n + 198) (n + 199)) (n + 197) (pa_r G 7 3 (va_up (fun _ => none) (Int32.toNatClampNeg 0) (some (b + (n + 198)))))) (n + 200) (po 6 3 (dF 6))) (n + 200) (n + 201)) (n + 197) (pa_r G 7 3 (va_up (va_up (fun _ => none) (Int32.toNatClampNeg 0) (some (b + (n + 198)))) (Int32.toNatClampNeg 1) (some (b + (n + 200)))))) (n + 202) (po 6 3 (dF 6))) (n + 202) (n + 203)) (n + 197) (pa_r G 7 3 (va_up (va_up (va_up (fun _ => none) (Int32.toNatClampNeg 0) (some (b + (n + 198)))) (Int32.toNatClampNeg 1) (some (b + (n + 200)))) (Int32.toNatClampNeg 2) (some (b + (n + 202)))))) (c) (po 9 11 (va_up (va_up (va_up (va_up (va_up (va_up (va_up (va_up (va_up (dF 9) 0 (.ref (b + n))) 1 (.ref (b + (n + 2)))) 2 (.ref (b + (n + 3)))) 3 (.ref (b + (n + 52)))) 4 (.ref (b + (n + 101)))) 5 (.ref (b + (n + 110)))) 6 (.ref (b + (n + 119)))) 7 (.ref (b + (n + 124)))) 10 (.ref (b + (n + 197))))))
set_option maxRecDepth 100000 in
set_option maxHeartbeats 40000000 in
theorem c_X11_init {l : Launch} {G : px_D} {h0 : pe_H} {b : Nat} {t : Nat → Option va_E} {c n : Nat} (ht : t c = some (po 9 11 (dF 9))) (hc : c < n) : cn l G 3 yX11_init cX11_init 2 [.ref (b + c)] h0 b t n 204 6288 (g_X11_init G b t c n) (n + 204) := by
  refine pn_of (by decide) (Nat.le_of_ble_eq_true rfl) [some (.ref (b + c)), none] rfl (fun X hM hE => ?_)
  have hC := hM.1
  have hR := hM.2.2.1
  have hI := hM.2.2.2.2
  have e_c_n : c ≠ n := by omega
  have l_c_n_1 : c < n + 1 := by omega
  have e_c_n_2 : c ≠ n + 2 := by omega
  have l_c_n_3 : c < n + 3 := by omega
  have e_c_n_3 : c ≠ n + 3 := by omega
  have l_c_n_4 : c < n + 4 := by omega
  have e_c_n_52 : c ≠ n + 52 := by omega
  have l_c_n_53 : c < n + 53 := by omega
  have e_c_n_101 : c ≠ n + 101 := by omega
  have e_n_3_n_101 : n + 3 ≠ n + 101 := by omega
  have e_n_3_c : n + 3 ≠ c := by omega
  have e_n_3_n_52 : n + 3 ≠ n + 52 := by omega
  have l_n_3_n_53 : n + 3 < n + 53 := by omega
  have e_n_9_n_101 : n + 9 ≠ n + 101 := by omega
  have e_n_9_c : n + 9 ≠ c := by omega
  have e_n_9_n_52 : n + 9 ≠ n + 52 := by omega
  have l_n_9_n_53 : n + 9 < n + 53 := by omega
  have l_c_n_102 : c < n + 102 := by omega
  have e_c_n_110 : c ≠ n + 110 := by omega
  have e_n_3_n_110 : n + 3 ≠ n + 110 := by omega
  have l_n_3_n_102 : n + 3 < n + 102 := by omega
  have e_n_9_n_110 : n + 9 ≠ n + 110 := by omega
  have l_n_9_n_102 : n + 9 < n + 102 := by omega
  have l_c_n_111 : c < n + 111 := by omega
  have e_c_n_119 : c ≠ n + 119 := by omega
  have l_c_n_120 : c < n + 120 := by omega
  have e_c_n_124 : c ≠ n + 124 := by omega
  have e_c_n_125 : c ≠ n + 125 := by omega
  have e_n_3_n_125 : n + 3 ≠ n + 125 := by omega
  have e_n_3_n_124 : n + 3 ≠ n + 124 := by omega
  have e_n_3_n_119 : n + 3 ≠ n + 119 := by omega
  have l_n_3_n_120 : n + 3 < n + 120 := by omega
  have l_n_3_n_111 : n + 3 < n + 111 := by omega
  have e_n_9_n_125 : n + 9 ≠ n + 125 := by omega
  have e_n_9_n_124 : n + 9 ≠ n + 124 := by omega
  have e_n_9_n_119 : n + 9 ≠ n + 119 := by omega
  have l_n_9_n_120 : n + 9 < n + 120 := by omega
  have l_n_9_n_111 : n + 9 < n + 111 := by omega
  have e_n_124_n_125 : n + 124 ≠ n + 125 := by omega
  have l_n_124_n_126 : n + 124 < n + 126 := by omega
  have e_n_124_c : n + 124 ≠ c := by omega
  have l_c_n_126 : c < n + 126 := by omega
  have e_c_n_134 : c ≠ n + 134 := by omega
  have e_n_3_n_134 : n + 3 ≠ n + 134 := by omega
  have l_n_3_n_126 : n + 3 < n + 126 := by omega
  have e_n_9_n_134 : n + 9 ≠ n + 134 := by omega
  have l_n_9_n_126 : n + 9 < n + 126 := by omega
  have e_n_124_n_134 : n + 124 ≠ n + 134 := by omega
  have l_n_124_n_135 : n + 124 < n + 135 := by omega
  have l_c_n_135 : c < n + 135 := by omega
  have e_c_n_143 : c ≠ n + 143 := by omega
  have e_n_3_n_143 : n + 3 ≠ n + 143 := by omega
  have l_n_3_n_135 : n + 3 < n + 135 := by omega
  have e_n_9_n_143 : n + 9 ≠ n + 143 := by omega
  have l_n_9_n_135 : n + 9 < n + 135 := by omega
  have e_n_124_n_143 : n + 124 ≠ n + 143 := by omega
  have l_n_124_n_144 : n + 124 < n + 144 := by omega
  have l_c_n_144 : c < n + 144 := by omega
  have e_c_n_152 : c ≠ n + 152 := by omega
  have e_n_3_n_152 : n + 3 ≠ n + 152 := by omega
  have l_n_3_n_144 : n + 3 < n + 144 := by omega
  have e_n_9_n_152 : n + 9 ≠ n + 152 := by omega
  have l_n_9_n_144 : n + 9 < n + 144 := by omega
  have e_n_124_n_152 : n + 124 ≠ n + 152 := by omega
  have l_n_124_n_153 : n + 124 < n + 153 := by omega
  have l_c_n_153 : c < n + 153 := by omega
  have e_c_n_161 : c ≠ n + 161 := by omega
  have e_n_3_n_161 : n + 3 ≠ n + 161 := by omega
  have l_n_3_n_153 : n + 3 < n + 153 := by omega
  have e_n_9_n_161 : n + 9 ≠ n + 161 := by omega
  have l_n_9_n_153 : n + 9 < n + 153 := by omega
  have e_n_124_n_161 : n + 124 ≠ n + 161 := by omega
  have l_n_124_n_162 : n + 124 < n + 162 := by omega
  have l_c_n_162 : c < n + 162 := by omega
  have e_c_n_170 : c ≠ n + 170 := by omega
  have e_n_3_n_170 : n + 3 ≠ n + 170 := by omega
  have l_n_3_n_162 : n + 3 < n + 162 := by omega
  have e_n_9_n_170 : n + 9 ≠ n + 170 := by omega
  have l_n_9_n_162 : n + 9 < n + 162 := by omega
  have e_n_124_n_170 : n + 124 ≠ n + 170 := by omega
  have l_n_124_n_171 : n + 124 < n + 171 := by omega
  have l_c_n_171 : c < n + 171 := by omega
  have e_c_n_179 : c ≠ n + 179 := by omega
  have e_n_3_n_179 : n + 3 ≠ n + 179 := by omega
  have l_n_3_n_171 : n + 3 < n + 171 := by omega
  have e_n_9_n_179 : n + 9 ≠ n + 179 := by omega
  have l_n_9_n_171 : n + 9 < n + 171 := by omega
  have e_n_124_n_179 : n + 124 ≠ n + 179 := by omega
  have l_n_124_n_180 : n + 124 < n + 180 := by omega
  have l_c_n_180 : c < n + 180 := by omega
  have e_c_n_188 : c ≠ n + 188 := by omega
  have e_n_3_n_188 : n + 3 ≠ n + 188 := by omega
  have l_n_3_n_180 : n + 3 < n + 180 := by omega
  have e_n_9_n_188 : n + 9 ≠ n + 188 := by omega
  have l_n_9_n_180 : n + 9 < n + 180 := by omega
  have e_n_124_n_188 : n + 124 ≠ n + 188 := by omega
  have l_n_124_n_189 : n + 124 < n + 189 := by omega
  have e_n_197_n_198 : n + 197 ≠ n + 198 := by omega
  have l_n_197_n_199 : n + 197 < n + 199 := by omega
  have e_n_197_n_200 : n + 197 ≠ n + 200 := by omega
  have l_n_197_n_201 : n + 197 < n + 201 := by omega
  have e_n_197_n_202 : n + 197 ≠ n + 202 := by omega
  have l_n_197_n_203 : n + 197 < n + 203 := by omega
  have e_c_n_197 : c ≠ n + 197 := by omega
  have e_c_n_202 : c ≠ n + 202 := by omega
  have l_c_n_203 : c < n + 203 := by omega
  have e_c_n_200 : c ≠ n + 200 := by omega
  have l_c_n_201 : c < n + 201 := by omega
  have e_c_n_198 : c ≠ n + 198 := by omega
  have l_c_n_199 : c < n + 199 := by omega
  have l_c_n_189 : c < n + 189 := by omega
  refine pr_aload_n hC (by decide +kernel : decode cX11_init 0 = .ok (.aload_n 0, 1)) rfl ?_
  refine pr_objInit hC hR fo_X11_1 (by decide +kernel : decode cX11_init 1 = .ok (.invokespecial 1, 3)) (Nat.le_of_ble_eq_true rfl) (Nat.le_of_ble_eq_true rfl) ?_
  refine pr_aload_n hC (by decide +kernel : decode cX11_init 4 = .ok (.aload_n 0, 1)) rfl ?_
  refine pg_new hC hR (n + 1) 1 8 rfl rfl rfl fn_X11_7 (by decide +kernel : decode cX11_init 5 = .ok (.new 7, 3)) (Nat.le_of_ble_eq_true rfl) (Nat.le_of_ble_eq_true rfl) ?_
  refine pr_dup hC (by decide +kernel : decode cX11_init 8 = .ok (.dup, 1)) rfl ?_
  refine pg_callI hC hE hR [] (n' := n + 2) 2 1208 rfl rfl fv_X11_9 (by decide +kernel : decode cX11_init 9 = .ok (.invokespecial 9, 3)) (c_X8_init tu_eq (by omega)) rfl rfl (Nat.le_of_ble_eq_true rfl) (Nat.le_of_ble_eq_true rfl) (Nat.le_of_ble_eq_true rfl) (Nat.le_of_ble_eq_true rfl) ?_
  refine pg_putF hC fp_X11_10 (by decide +kernel : decode cX11_init 12 = .ok (.putfield 10, 3)) hI ((gf_X8_init e_c_n l_c_n_1).trans ((tu_ne e_c_n).trans (ht))) rfl rfl ?_
  refine pr_aload_n hC (by decide +kernel : decode cX11_init 15 = .ok (.aload_n 0, 1)) rfl ?_
  refine pg_new hC hR (n + 3) 3 1213 rfl rfl rfl fn_X11_16 (by decide +kernel : decode cX11_init 16 = .ok (.new 16, 3)) (Nat.le_of_ble_eq_true rfl) (Nat.le_of_ble_eq_true rfl) ?_
  refine pr_dup hC (by decide +kernel : decode cX11_init 19 = .ok (.dup, 1)) rfl ?_
  refine pr_aload_n hC (by decide +kernel : decode cX11_init 20 = .ok (.aload_n 0, 1)) rfl ?_
  refine pg_get hC (v := .ref (b + n)) fg_X11_10 (by decide +kernel : decode cX11_init 21 = .ok (.getfield 10, 3)) ((tu_ne e_c_n_2).trans (tu_eq)) rfl ?_
  refine pg_callI hC hE hR [.ref (b + n)] (n' := n + 3) 3 1213 rfl rfl fv_X11_18 (by decide +kernel : decode cX11_init 24 = .ok (.invokespecial 18, 3)) (c_X4_init tu_eq (by omega)) rfl rfl (Nat.le_of_ble_eq_true rfl) (Nat.le_of_ble_eq_true rfl) (Nat.le_of_ble_eq_true rfl) (Nat.le_of_ble_eq_true rfl) ?_
  refine pg_putF hC fp_X11_21 (by decide +kernel : decode cX11_init 27 = .ok (.putfield 21, 3)) hI ((gf_X4_init e_c_n_2 l_c_n_3).trans ((tu_ne e_c_n_2).trans (tu_eq))) rfl rfl ?_
  refine pr_aload_n hC (by decide +kernel : decode cX11_init 30 = .ok (.aload_n 0, 1)) rfl ?_
  refine pg_new hC hR (n + 4) 4 1228 rfl rfl rfl fn_X11_25 (by decide +kernel : decode cX11_init 31 = .ok (.new 25, 3)) (Nat.le_of_ble_eq_true rfl) (Nat.le_of_ble_eq_true rfl) ?_
  refine pr_dup hC (by decide +kernel : decode cX11_init 34 = .ok (.dup, 1)) rfl ?_
  refine pg_callI hC hE hR [] (n' := n + 52) 52 2825 rfl rfl fv_X11_27 (by decide +kernel : decode cX11_init 35 = .ok (.invokespecial 27, 3)) (c_X9_init tu_eq (by omega)) rfl rfl (Nat.le_of_ble_eq_true rfl) (Nat.le_of_ble_eq_true rfl) (Nat.le_of_ble_eq_true rfl) (Nat.le_of_ble_eq_true rfl) ?_
  refine pg_put hC fp_X11_28 (by decide +kernel : decode cX11_init 38 = .ok (.putfield 28, 3)) ((gf_X9_init e_c_n_3 l_c_n_4).trans ((tu_ne e_c_n_3).trans (tu_eq))) rfl rfl ?_
  refine pr_aload_n hC (by decide +kernel : decode cX11_init 41 = .ok (.aload_n 0, 1)) rfl ?_
  refine pg_new hC hR (n + 53) 53 2840 rfl rfl rfl fn_X11_25 (by decide +kernel : decode cX11_init 42 = .ok (.new 25, 3)) (Nat.le_of_ble_eq_true rfl) (Nat.le_of_ble_eq_true rfl) ?_
  refine pr_dup hC (by decide +kernel : decode cX11_init 45 = .ok (.dup, 1)) rfl ?_
  refine pg_callI hC hE hR [] (n' := n + 101) 101 4437 rfl rfl fv_X11_27 (by decide +kernel : decode cX11_init 46 = .ok (.invokespecial 27, 3)) (c_X9_init tu_eq (by omega)) rfl rfl (Nat.le_of_ble_eq_true rfl) (Nat.le_of_ble_eq_true rfl) (Nat.le_of_ble_eq_true rfl) (Nat.le_of_ble_eq_true rfl) ?_
  refine pg_put hC fp_X11_32 (by decide +kernel : decode cX11_init 49 = .ok (.putfield 32, 3)) ((gf_X9_init e_c_n_52 l_c_n_53).trans ((tu_ne e_c_n_52).trans (tu_eq))) rfl rfl ?_
  refine pr_aload_n hC (by decide +kernel : decode cX11_init 52 = .ok (.aload_n 0, 1)) rfl ?_
  refine pg_new hC hR (n + 102) 102 4447 rfl rfl rfl fn_X11_35 (by decide +kernel : decode cX11_init 53 = .ok (.new 35, 3)) (Nat.le_of_ble_eq_true rfl) (Nat.le_of_ble_eq_true rfl) ?_
  refine pr_dup hC (by decide +kernel : decode cX11_init 56 = .ok (.dup, 1)) rfl ?_
  refine pr_aload_n hC (by decide +kernel : decode cX11_init 57 = .ok (.aload_n 0, 1)) rfl ?_
  refine pg_get hC (v := .ref (b + (n + 3))) fg_X11_28 (by decide +kernel : decode cX11_init 58 = .ok (.getfield 28, 3)) ((tu_ne e_c_n_101).trans (tu_eq)) rfl ?_
  refine pg_callI hC hE hR [.ref (b + (n + 3))] (n' := n + 110) 110 4603 rfl rfl fv_X11_37 (by decide +kernel : decode cX11_init 61 = .ok (.invokespecial 37, 3)) (c_X6_init tu_eq ((tu_ne e_n_3_n_101).trans ((tu_ne e_n_3_c).trans ((gf_X9_init e_n_3_n_52 l_n_3_n_53).trans ((tu_ne e_n_3_n_52).trans ((tu_ne e_n_3_c).trans (gv_X9_init (by omega))))))) (ga := n + 9) rfl ((tu_ne e_n_9_n_101).trans ((tu_ne e_n_9_c).trans ((gf_X9_init e_n_9_n_52 l_n_9_n_53).trans ((tu_ne e_n_9_n_52).trans ((tu_ne e_n_9_c).trans (gr_X9_init (by omega))))))) (by omega) (by omega) (by omega) (by omega) (by omega) (by omega)) rfl rfl (Nat.le_of_ble_eq_true rfl) (Nat.le_of_ble_eq_true rfl) (Nat.le_of_ble_eq_true rfl) (Nat.le_of_ble_eq_true rfl) ?_
  refine pg_putF hC fp_X11_40 (by decide +kernel : decode cX11_init 64 = .ok (.putfield 40, 3)) hI ((gf_X6_init e_c_n_101 l_c_n_102).trans ((tu_ne e_c_n_101).trans (tu_eq))) rfl rfl ?_
  refine pr_aload_n hC (by decide +kernel : decode cX11_init 67 = .ok (.aload_n 0, 1)) rfl ?_
  refine pg_new hC hR (n + 111) 111 4613 rfl rfl rfl fn_X11_35 (by decide +kernel : decode cX11_init 68 = .ok (.new 35, 3)) (Nat.le_of_ble_eq_true rfl) (Nat.le_of_ble_eq_true rfl) ?_
  refine pr_dup hC (by decide +kernel : decode cX11_init 71 = .ok (.dup, 1)) rfl ?_
  refine pr_aload_n hC (by decide +kernel : decode cX11_init 72 = .ok (.aload_n 0, 1)) rfl ?_
  refine pg_get hC (v := .ref (b + (n + 3))) fg_X11_28 (by decide +kernel : decode cX11_init 73 = .ok (.getfield 28, 3)) ((tu_ne e_c_n_110).trans (tu_eq)) rfl ?_
  refine pg_callI hC hE hR [.ref (b + (n + 3))] (n' := n + 119) 119 4769 rfl rfl fv_X11_37 (by decide +kernel : decode cX11_init 76 = .ok (.invokespecial 37, 3)) (c_X6_init tu_eq ((tu_ne e_n_3_n_110).trans ((tu_ne e_n_3_c).trans ((gf_X6_init e_n_3_n_101 l_n_3_n_102).trans ((tu_ne e_n_3_n_101).trans ((tu_ne e_n_3_c).trans ((gf_X9_init e_n_3_n_52 l_n_3_n_53).trans ((tu_ne e_n_3_n_52).trans ((tu_ne e_n_3_c).trans (gv_X9_init (by omega)))))))))) (ga := n + 9) rfl ((tu_ne e_n_9_n_110).trans ((tu_ne e_n_9_c).trans ((gf_X6_init e_n_9_n_101 l_n_9_n_102).trans ((tu_ne e_n_9_n_101).trans ((tu_ne e_n_9_c).trans ((gf_X9_init e_n_9_n_52 l_n_9_n_53).trans ((tu_ne e_n_9_n_52).trans ((tu_ne e_n_9_c).trans (gr_X9_init (by omega)))))))))) (by omega) (by omega) (by omega) (by omega) (by omega) (by omega)) rfl rfl (Nat.le_of_ble_eq_true rfl) (Nat.le_of_ble_eq_true rfl) (Nat.le_of_ble_eq_true rfl) (Nat.le_of_ble_eq_true rfl) ?_
  refine pg_putF hC fp_X11_44 (by decide +kernel : decode cX11_init 79 = .ok (.putfield 44, 3)) hI ((gf_X6_init e_c_n_110 l_c_n_111).trans ((tu_ne e_c_n_110).trans (tu_eq))) rfl rfl ?_
  refine pr_aload_n hC (by decide +kernel : decode cX11_init 82 = .ok (.aload_n 0, 1)) rfl ?_
  refine pg_new hC hR (n + 120) 120 4776 rfl rfl rfl fn_X11_47 (by decide +kernel : decode cX11_init 83 = .ok (.new 47, 3)) (Nat.le_of_ble_eq_true rfl) (Nat.le_of_ble_eq_true rfl) ?_
  refine pr_dup hC (by decide +kernel : decode cX11_init 86 = .ok (.dup, 1)) rfl ?_
  refine pr_aload_n hC (by decide +kernel : decode cX11_init 87 = .ok (.aload_n 0, 1)) rfl ?_
  refine pg_get hC (v := .ref (b + (n + 101))) fg_X11_40 (by decide +kernel : decode cX11_init 88 = .ok (.getfield 40, 3)) ((tu_ne e_c_n_119).trans (tu_eq)) rfl ?_
  refine pg_callI hC hE hR [.ref (b + (n + 101))] (n' := n + 124) 124 4880 rfl rfl fv_X11_49 (by decide +kernel : decode cX11_init 91 = .ok (.invokespecial 49, 3)) (c_X1_init tu_eq (by omega)) rfl rfl (Nat.le_of_ble_eq_true rfl) (Nat.le_of_ble_eq_true rfl) (Nat.le_of_ble_eq_true rfl) (Nat.le_of_ble_eq_true rfl) ?_
  refine pg_putF hC fp_X11_52 (by decide +kernel : decode cX11_init 94 = .ok (.putfield 52, 3)) hI ((gf_X1_init e_c_n_119 l_c_n_120).trans ((tu_ne e_c_n_119).trans (tu_eq))) rfl rfl ?_
  refine pr_aload_n hC (by decide +kernel : decode cX11_init 97 = .ok (.aload_n 0, 1)) rfl ?_
  refine pr_bipush hC (8) (by decide +kernel : decode cX11_init 98 = .ok (.bipush 8, 2)) rfl ?_
  refine pg_anew hC hR 6 8 (n + 125) 125 4888 rfl rfl rfl fa_X11_35 hE.2.2.1 rfl (by decide +kernel : decode cX11_init 100 = .ok (.anewarray 35, 3)) (by decide) rfl (Nat.le_of_ble_eq_true rfl) (Nat.le_of_ble_eq_true rfl) (Nat.le_of_ble_eq_true rfl) ?_
  refine pg_putF hC fp_X11_56 (by decide +kernel : decode cX11_init 103 = .ok (.putfield 56, 3)) hI ((tu_ne e_c_n_124).trans (tu_eq)) rfl rfl ?_
  refine pr_iconst hC (0) (by decide +kernel : decode cX11_init 106 = .ok (.iconst 0, 1)) rfl ?_
  refine pr_istore_n hC (by decide +kernel : decode cX11_init 107 = .ok (.istore_n 1, 1)) (by decide) rfl ?_
  refine pr_iload_n hC (by decide +kernel : decode cX11_init 108 = .ok (.iload_n 1, 1)) rfl ?_
  refine pr_bipush hC (8) (by decide +kernel : decode cX11_init 109 = .ok (.bipush 8, 2)) rfl ?_
  refine pr_icmp_ge hC 137 (by decide +kernel : decode cX11_init 111 = .ok (.if_icmp .ge 26, 3)) (by decide) (fun q => absurd q (by decide)) (fun _ => ?_)
  refine pr_aload_n hC (by decide +kernel : decode cX11_init 114 = .ok (.aload_n 0, 1)) rfl ?_
  refine pg_get hC (v := .ref (b + (n + 124))) fg_X11_56 (by decide +kernel : decode cX11_init 115 = .ok (.getfield 56, 3)) tu_eq rfl ?_
  refine pr_iload_n hC (by decide +kernel : decode cX11_init 118 = .ok (.iload_n 1, 1)) rfl ?_
  refine pg_new hC hR (n + 126) 126 4898 rfl rfl rfl fn_X11_35 (by decide +kernel : decode cX11_init 119 = .ok (.new 35, 3)) (Nat.le_of_ble_eq_true rfl) (Nat.le_of_ble_eq_true rfl) ?_
  refine pr_dup hC (by decide +kernel : decode cX11_init 122 = .ok (.dup, 1)) rfl ?_
  refine pr_aload_n hC (by decide +kernel : decode cX11_init 123 = .ok (.aload_n 0, 1)) rfl ?_
  refine pg_get hC (v := .ref (b + (n + 3))) fg_X11_28 (by decide +kernel : decode cX11_init 124 = .ok (.getfield 28, 3)) ((tu_ne e_c_n_125).trans (tu_eq)) rfl ?_
  refine pg_callI hC hE hR [.ref (b + (n + 3))] (n' := n + 134) 134 5054 rfl rfl fv_X11_37 (by decide +kernel : decode cX11_init 127 = .ok (.invokespecial 37, 3)) (c_X6_init tu_eq ((tu_ne e_n_3_n_125).trans ((tu_ne e_n_3_c).trans ((tu_ne e_n_3_n_124).trans ((tu_ne e_n_3_c).trans ((gf_X1_init e_n_3_n_119 l_n_3_n_120).trans ((tu_ne e_n_3_n_119).trans ((tu_ne e_n_3_c).trans ((gf_X6_init e_n_3_n_110 l_n_3_n_111).trans ((tu_ne e_n_3_n_110).trans ((tu_ne e_n_3_c).trans ((gf_X6_init e_n_3_n_101 l_n_3_n_102).trans ((tu_ne e_n_3_n_101).trans ((tu_ne e_n_3_c).trans ((gf_X9_init e_n_3_n_52 l_n_3_n_53).trans ((tu_ne e_n_3_n_52).trans ((tu_ne e_n_3_c).trans (gv_X9_init (by omega)))))))))))))))))) (ga := n + 9) rfl ((tu_ne e_n_9_n_125).trans ((tu_ne e_n_9_c).trans ((tu_ne e_n_9_n_124).trans ((tu_ne e_n_9_c).trans ((gf_X1_init e_n_9_n_119 l_n_9_n_120).trans ((tu_ne e_n_9_n_119).trans ((tu_ne e_n_9_c).trans ((gf_X6_init e_n_9_n_110 l_n_9_n_111).trans ((tu_ne e_n_9_n_110).trans ((tu_ne e_n_9_c).trans ((gf_X6_init e_n_9_n_101 l_n_9_n_102).trans ((tu_ne e_n_9_n_101).trans ((tu_ne e_n_9_c).trans ((gf_X9_init e_n_9_n_52 l_n_9_n_53).trans ((tu_ne e_n_9_n_52).trans ((tu_ne e_n_9_c).trans (gr_X9_init (by omega)))))))))))))))))) (by omega) (by omega) (by omega) (by omega) (by omega) (by omega)) rfl rfl (Nat.le_of_ble_eq_true rfl) (Nat.le_of_ble_eq_true rfl) (Nat.le_of_ble_eq_true rfl) (Nat.le_of_ble_eq_true rfl) ?_
  refine pg_aast hC (by decide +kernel : decode cX11_init 130 = .ok (.aastore, 1)) ((gf_X6_init e_n_124_n_125 l_n_124_n_126).trans ((tu_ne e_n_124_n_125).trans ((tu_ne e_n_124_c).trans (tu_eq)))) (gv_X6_init (by omega)) rfl rfl (vd_in rfl) ?_
  refine pg_iinc hC (1) (by decide +kernel : decode cX11_init 131 = .ok (.iinc 1 1, 3)) rfl (by decide) rfl rfl ?_
  refine pr_goto hC 108 (by decide +kernel : decode cX11_init 134 = .ok (.goto (-26), 3)) (by decide) ?_
  refine pr_iload_n hC (by decide +kernel : decode cX11_init 108 = .ok (.iload_n 1, 1)) rfl ?_
  refine pr_bipush hC (8) (by decide +kernel : decode cX11_init 109 = .ok (.bipush 8, 2)) rfl ?_
  refine pr_icmp_ge hC 137 (by decide +kernel : decode cX11_init 111 = .ok (.if_icmp .ge 26, 3)) (by decide) (fun q => absurd q (by decide)) (fun _ => ?_)
  refine pr_aload_n hC (by decide +kernel : decode cX11_init 114 = .ok (.aload_n 0, 1)) rfl ?_
  refine pg_get hC (v := .ref (b + (n + 124))) fg_X11_56 (by decide +kernel : decode cX11_init 115 = .ok (.getfield 56, 3)) ((tu_ne e_c_n_124).trans ((gf_X6_init e_c_n_125 l_c_n_126).trans ((tu_ne e_c_n_125).trans (tu_eq)))) rfl ?_
  refine pr_iload_n hC (by decide +kernel : decode cX11_init 118 = .ok (.iload_n 1, 1)) rfl ?_
  refine pg_new hC hR (n + 135) 135 5064 rfl rfl rfl fn_X11_35 (by decide +kernel : decode cX11_init 119 = .ok (.new 35, 3)) (Nat.le_of_ble_eq_true rfl) (Nat.le_of_ble_eq_true rfl) ?_
  refine pr_dup hC (by decide +kernel : decode cX11_init 122 = .ok (.dup, 1)) rfl ?_
  refine pr_aload_n hC (by decide +kernel : decode cX11_init 123 = .ok (.aload_n 0, 1)) rfl ?_
  refine pg_get hC (v := .ref (b + (n + 3))) fg_X11_28 (by decide +kernel : decode cX11_init 124 = .ok (.getfield 28, 3)) ((tu_ne e_c_n_134).trans ((tu_ne e_c_n_124).trans ((gf_X6_init e_c_n_125 l_c_n_126).trans ((tu_ne e_c_n_125).trans (tu_eq))))) rfl ?_
  refine pg_callI hC hE hR [.ref (b + (n + 3))] (n' := n + 143) 143 5220 rfl rfl fv_X11_37 (by decide +kernel : decode cX11_init 127 = .ok (.invokespecial 37, 3)) (c_X6_init tu_eq ((tu_ne e_n_3_n_134).trans ((tu_ne e_n_3_n_124).trans ((gf_X6_init e_n_3_n_125 l_n_3_n_126).trans ((tu_ne e_n_3_n_125).trans ((tu_ne e_n_3_c).trans ((tu_ne e_n_3_n_124).trans ((tu_ne e_n_3_c).trans ((gf_X1_init e_n_3_n_119 l_n_3_n_120).trans ((tu_ne e_n_3_n_119).trans ((tu_ne e_n_3_c).trans ((gf_X6_init e_n_3_n_110 l_n_3_n_111).trans ((tu_ne e_n_3_n_110).trans ((tu_ne e_n_3_c).trans ((gf_X6_init e_n_3_n_101 l_n_3_n_102).trans ((tu_ne e_n_3_n_101).trans ((tu_ne e_n_3_c).trans ((gf_X9_init e_n_3_n_52 l_n_3_n_53).trans ((tu_ne e_n_3_n_52).trans ((tu_ne e_n_3_c).trans (gv_X9_init (by omega))))))))))))))))))))) (ga := n + 9) rfl ((tu_ne e_n_9_n_134).trans ((tu_ne e_n_9_n_124).trans ((gf_X6_init e_n_9_n_125 l_n_9_n_126).trans ((tu_ne e_n_9_n_125).trans ((tu_ne e_n_9_c).trans ((tu_ne e_n_9_n_124).trans ((tu_ne e_n_9_c).trans ((gf_X1_init e_n_9_n_119 l_n_9_n_120).trans ((tu_ne e_n_9_n_119).trans ((tu_ne e_n_9_c).trans ((gf_X6_init e_n_9_n_110 l_n_9_n_111).trans ((tu_ne e_n_9_n_110).trans ((tu_ne e_n_9_c).trans ((gf_X6_init e_n_9_n_101 l_n_9_n_102).trans ((tu_ne e_n_9_n_101).trans ((tu_ne e_n_9_c).trans ((gf_X9_init e_n_9_n_52 l_n_9_n_53).trans ((tu_ne e_n_9_n_52).trans ((tu_ne e_n_9_c).trans (gr_X9_init (by omega))))))))))))))))))))) (by omega) (by omega) (by omega) (by omega) (by omega) (by omega)) rfl rfl (Nat.le_of_ble_eq_true rfl) (Nat.le_of_ble_eq_true rfl) (Nat.le_of_ble_eq_true rfl) (Nat.le_of_ble_eq_true rfl) ?_
  refine pg_aast hC (by decide +kernel : decode cX11_init 130 = .ok (.aastore, 1)) ((gf_X6_init e_n_124_n_134 l_n_124_n_135).trans ((tu_ne e_n_124_n_134).trans (tu_eq))) (gv_X6_init (by omega)) rfl rfl (vd_in rfl) ?_
  refine pg_iinc hC (2) (by decide +kernel : decode cX11_init 131 = .ok (.iinc 1 1, 3)) rfl (by decide) rfl rfl ?_
  refine pr_goto hC 108 (by decide +kernel : decode cX11_init 134 = .ok (.goto (-26), 3)) (by decide) ?_
  refine pr_iload_n hC (by decide +kernel : decode cX11_init 108 = .ok (.iload_n 1, 1)) rfl ?_
  refine pr_bipush hC (8) (by decide +kernel : decode cX11_init 109 = .ok (.bipush 8, 2)) rfl ?_
  refine pr_icmp_ge hC 137 (by decide +kernel : decode cX11_init 111 = .ok (.if_icmp .ge 26, 3)) (by decide) (fun q => absurd q (by decide)) (fun _ => ?_)
  refine pr_aload_n hC (by decide +kernel : decode cX11_init 114 = .ok (.aload_n 0, 1)) rfl ?_
  refine pg_get hC (v := .ref (b + (n + 124))) fg_X11_56 (by decide +kernel : decode cX11_init 115 = .ok (.getfield 56, 3)) ((tu_ne e_c_n_124).trans ((gf_X6_init e_c_n_134 l_c_n_135).trans ((tu_ne e_c_n_134).trans ((tu_ne e_c_n_124).trans ((gf_X6_init e_c_n_125 l_c_n_126).trans ((tu_ne e_c_n_125).trans (tu_eq))))))) rfl ?_
  refine pr_iload_n hC (by decide +kernel : decode cX11_init 118 = .ok (.iload_n 1, 1)) rfl ?_
  refine pg_new hC hR (n + 144) 144 5230 rfl rfl rfl fn_X11_35 (by decide +kernel : decode cX11_init 119 = .ok (.new 35, 3)) (Nat.le_of_ble_eq_true rfl) (Nat.le_of_ble_eq_true rfl) ?_
  refine pr_dup hC (by decide +kernel : decode cX11_init 122 = .ok (.dup, 1)) rfl ?_
  refine pr_aload_n hC (by decide +kernel : decode cX11_init 123 = .ok (.aload_n 0, 1)) rfl ?_
  refine pg_get hC (v := .ref (b + (n + 3))) fg_X11_28 (by decide +kernel : decode cX11_init 124 = .ok (.getfield 28, 3)) ((tu_ne e_c_n_143).trans ((tu_ne e_c_n_124).trans ((gf_X6_init e_c_n_134 l_c_n_135).trans ((tu_ne e_c_n_134).trans ((tu_ne e_c_n_124).trans ((gf_X6_init e_c_n_125 l_c_n_126).trans ((tu_ne e_c_n_125).trans (tu_eq)))))))) rfl ?_
  refine pg_callI hC hE hR [.ref (b + (n + 3))] (n' := n + 152) 152 5386 rfl rfl fv_X11_37 (by decide +kernel : decode cX11_init 127 = .ok (.invokespecial 37, 3)) (c_X6_init tu_eq ((tu_ne e_n_3_n_143).trans ((tu_ne e_n_3_n_124).trans ((gf_X6_init e_n_3_n_134 l_n_3_n_135).trans ((tu_ne e_n_3_n_134).trans ((tu_ne e_n_3_n_124).trans ((gf_X6_init e_n_3_n_125 l_n_3_n_126).trans ((tu_ne e_n_3_n_125).trans ((tu_ne e_n_3_c).trans ((tu_ne e_n_3_n_124).trans ((tu_ne e_n_3_c).trans ((gf_X1_init e_n_3_n_119 l_n_3_n_120).trans ((tu_ne e_n_3_n_119).trans ((tu_ne e_n_3_c).trans ((gf_X6_init e_n_3_n_110 l_n_3_n_111).trans ((tu_ne e_n_3_n_110).trans ((tu_ne e_n_3_c).trans ((gf_X6_init e_n_3_n_101 l_n_3_n_102).trans ((tu_ne e_n_3_n_101).trans ((tu_ne e_n_3_c).trans ((gf_X9_init e_n_3_n_52 l_n_3_n_53).trans ((tu_ne e_n_3_n_52).trans ((tu_ne e_n_3_c).trans (gv_X9_init (by omega)))))))))))))))))))))))) (ga := n + 9) rfl ((tu_ne e_n_9_n_143).trans ((tu_ne e_n_9_n_124).trans ((gf_X6_init e_n_9_n_134 l_n_9_n_135).trans ((tu_ne e_n_9_n_134).trans ((tu_ne e_n_9_n_124).trans ((gf_X6_init e_n_9_n_125 l_n_9_n_126).trans ((tu_ne e_n_9_n_125).trans ((tu_ne e_n_9_c).trans ((tu_ne e_n_9_n_124).trans ((tu_ne e_n_9_c).trans ((gf_X1_init e_n_9_n_119 l_n_9_n_120).trans ((tu_ne e_n_9_n_119).trans ((tu_ne e_n_9_c).trans ((gf_X6_init e_n_9_n_110 l_n_9_n_111).trans ((tu_ne e_n_9_n_110).trans ((tu_ne e_n_9_c).trans ((gf_X6_init e_n_9_n_101 l_n_9_n_102).trans ((tu_ne e_n_9_n_101).trans ((tu_ne e_n_9_c).trans ((gf_X9_init e_n_9_n_52 l_n_9_n_53).trans ((tu_ne e_n_9_n_52).trans ((tu_ne e_n_9_c).trans (gr_X9_init (by omega)))))))))))))))))))))))) (by omega) (by omega) (by omega) (by omega) (by omega) (by omega)) rfl rfl (Nat.le_of_ble_eq_true rfl) (Nat.le_of_ble_eq_true rfl) (Nat.le_of_ble_eq_true rfl) (Nat.le_of_ble_eq_true rfl) ?_
  refine pg_aast hC (by decide +kernel : decode cX11_init 130 = .ok (.aastore, 1)) ((gf_X6_init e_n_124_n_143 l_n_124_n_144).trans ((tu_ne e_n_124_n_143).trans (tu_eq))) (gv_X6_init (by omega)) rfl rfl (vd_in rfl) ?_
  refine pg_iinc hC (3) (by decide +kernel : decode cX11_init 131 = .ok (.iinc 1 1, 3)) rfl (by decide) rfl rfl ?_
  refine pr_goto hC 108 (by decide +kernel : decode cX11_init 134 = .ok (.goto (-26), 3)) (by decide) ?_
  refine pr_iload_n hC (by decide +kernel : decode cX11_init 108 = .ok (.iload_n 1, 1)) rfl ?_
  refine pr_bipush hC (8) (by decide +kernel : decode cX11_init 109 = .ok (.bipush 8, 2)) rfl ?_
  refine pr_icmp_ge hC 137 (by decide +kernel : decode cX11_init 111 = .ok (.if_icmp .ge 26, 3)) (by decide) (fun q => absurd q (by decide)) (fun _ => ?_)
  refine pr_aload_n hC (by decide +kernel : decode cX11_init 114 = .ok (.aload_n 0, 1)) rfl ?_
  refine pg_get hC (v := .ref (b + (n + 124))) fg_X11_56 (by decide +kernel : decode cX11_init 115 = .ok (.getfield 56, 3)) ((tu_ne e_c_n_124).trans ((gf_X6_init e_c_n_143 l_c_n_144).trans ((tu_ne e_c_n_143).trans ((tu_ne e_c_n_124).trans ((gf_X6_init e_c_n_134 l_c_n_135).trans ((tu_ne e_c_n_134).trans ((tu_ne e_c_n_124).trans ((gf_X6_init e_c_n_125 l_c_n_126).trans ((tu_ne e_c_n_125).trans (tu_eq)))))))))) rfl ?_
  refine pr_iload_n hC (by decide +kernel : decode cX11_init 118 = .ok (.iload_n 1, 1)) rfl ?_
  refine pg_new hC hR (n + 153) 153 5396 rfl rfl rfl fn_X11_35 (by decide +kernel : decode cX11_init 119 = .ok (.new 35, 3)) (Nat.le_of_ble_eq_true rfl) (Nat.le_of_ble_eq_true rfl) ?_
  refine pr_dup hC (by decide +kernel : decode cX11_init 122 = .ok (.dup, 1)) rfl ?_
  refine pr_aload_n hC (by decide +kernel : decode cX11_init 123 = .ok (.aload_n 0, 1)) rfl ?_
  refine pg_get hC (v := .ref (b + (n + 3))) fg_X11_28 (by decide +kernel : decode cX11_init 124 = .ok (.getfield 28, 3)) ((tu_ne e_c_n_152).trans ((tu_ne e_c_n_124).trans ((gf_X6_init e_c_n_143 l_c_n_144).trans ((tu_ne e_c_n_143).trans ((tu_ne e_c_n_124).trans ((gf_X6_init e_c_n_134 l_c_n_135).trans ((tu_ne e_c_n_134).trans ((tu_ne e_c_n_124).trans ((gf_X6_init e_c_n_125 l_c_n_126).trans ((tu_ne e_c_n_125).trans (tu_eq))))))))))) rfl ?_
  refine pg_callI hC hE hR [.ref (b + (n + 3))] (n' := n + 161) 161 5552 rfl rfl fv_X11_37 (by decide +kernel : decode cX11_init 127 = .ok (.invokespecial 37, 3)) (c_X6_init tu_eq ((tu_ne e_n_3_n_152).trans ((tu_ne e_n_3_n_124).trans ((gf_X6_init e_n_3_n_143 l_n_3_n_144).trans ((tu_ne e_n_3_n_143).trans ((tu_ne e_n_3_n_124).trans ((gf_X6_init e_n_3_n_134 l_n_3_n_135).trans ((tu_ne e_n_3_n_134).trans ((tu_ne e_n_3_n_124).trans ((gf_X6_init e_n_3_n_125 l_n_3_n_126).trans ((tu_ne e_n_3_n_125).trans ((tu_ne e_n_3_c).trans ((tu_ne e_n_3_n_124).trans ((tu_ne e_n_3_c).trans ((gf_X1_init e_n_3_n_119 l_n_3_n_120).trans ((tu_ne e_n_3_n_119).trans ((tu_ne e_n_3_c).trans ((gf_X6_init e_n_3_n_110 l_n_3_n_111).trans ((tu_ne e_n_3_n_110).trans ((tu_ne e_n_3_c).trans ((gf_X6_init e_n_3_n_101 l_n_3_n_102).trans ((tu_ne e_n_3_n_101).trans ((tu_ne e_n_3_c).trans ((gf_X9_init e_n_3_n_52 l_n_3_n_53).trans ((tu_ne e_n_3_n_52).trans ((tu_ne e_n_3_c).trans (gv_X9_init (by omega))))))))))))))))))))))))))) (ga := n + 9) rfl ((tu_ne e_n_9_n_152).trans ((tu_ne e_n_9_n_124).trans ((gf_X6_init e_n_9_n_143 l_n_9_n_144).trans ((tu_ne e_n_9_n_143).trans ((tu_ne e_n_9_n_124).trans ((gf_X6_init e_n_9_n_134 l_n_9_n_135).trans ((tu_ne e_n_9_n_134).trans ((tu_ne e_n_9_n_124).trans ((gf_X6_init e_n_9_n_125 l_n_9_n_126).trans ((tu_ne e_n_9_n_125).trans ((tu_ne e_n_9_c).trans ((tu_ne e_n_9_n_124).trans ((tu_ne e_n_9_c).trans ((gf_X1_init e_n_9_n_119 l_n_9_n_120).trans ((tu_ne e_n_9_n_119).trans ((tu_ne e_n_9_c).trans ((gf_X6_init e_n_9_n_110 l_n_9_n_111).trans ((tu_ne e_n_9_n_110).trans ((tu_ne e_n_9_c).trans ((gf_X6_init e_n_9_n_101 l_n_9_n_102).trans ((tu_ne e_n_9_n_101).trans ((tu_ne e_n_9_c).trans ((gf_X9_init e_n_9_n_52 l_n_9_n_53).trans ((tu_ne e_n_9_n_52).trans ((tu_ne e_n_9_c).trans (gr_X9_init (by omega))))))))))))))))))))))))))) (by omega) (by omega) (by omega) (by omega) (by omega) (by omega)) rfl rfl (Nat.le_of_ble_eq_true rfl) (Nat.le_of_ble_eq_true rfl) (Nat.le_of_ble_eq_true rfl) (Nat.le_of_ble_eq_true rfl) ?_
  refine pg_aast hC (by decide +kernel : decode cX11_init 130 = .ok (.aastore, 1)) ((gf_X6_init e_n_124_n_152 l_n_124_n_153).trans ((tu_ne e_n_124_n_152).trans (tu_eq))) (gv_X6_init (by omega)) rfl rfl (vd_in rfl) ?_
  refine pg_iinc hC (4) (by decide +kernel : decode cX11_init 131 = .ok (.iinc 1 1, 3)) rfl (by decide) rfl rfl ?_
  refine pr_goto hC 108 (by decide +kernel : decode cX11_init 134 = .ok (.goto (-26), 3)) (by decide) ?_
  refine pr_iload_n hC (by decide +kernel : decode cX11_init 108 = .ok (.iload_n 1, 1)) rfl ?_
  refine pr_bipush hC (8) (by decide +kernel : decode cX11_init 109 = .ok (.bipush 8, 2)) rfl ?_
  refine pr_icmp_ge hC 137 (by decide +kernel : decode cX11_init 111 = .ok (.if_icmp .ge 26, 3)) (by decide) (fun q => absurd q (by decide)) (fun _ => ?_)
  refine pr_aload_n hC (by decide +kernel : decode cX11_init 114 = .ok (.aload_n 0, 1)) rfl ?_
  refine pg_get hC (v := .ref (b + (n + 124))) fg_X11_56 (by decide +kernel : decode cX11_init 115 = .ok (.getfield 56, 3)) ((tu_ne e_c_n_124).trans ((gf_X6_init e_c_n_152 l_c_n_153).trans ((tu_ne e_c_n_152).trans ((tu_ne e_c_n_124).trans ((gf_X6_init e_c_n_143 l_c_n_144).trans ((tu_ne e_c_n_143).trans ((tu_ne e_c_n_124).trans ((gf_X6_init e_c_n_134 l_c_n_135).trans ((tu_ne e_c_n_134).trans ((tu_ne e_c_n_124).trans ((gf_X6_init e_c_n_125 l_c_n_126).trans ((tu_ne e_c_n_125).trans (tu_eq))))))))))))) rfl ?_
  refine pr_iload_n hC (by decide +kernel : decode cX11_init 118 = .ok (.iload_n 1, 1)) rfl ?_
  refine pg_new hC hR (n + 162) 162 5562 rfl rfl rfl fn_X11_35 (by decide +kernel : decode cX11_init 119 = .ok (.new 35, 3)) (Nat.le_of_ble_eq_true rfl) (Nat.le_of_ble_eq_true rfl) ?_
  refine pr_dup hC (by decide +kernel : decode cX11_init 122 = .ok (.dup, 1)) rfl ?_
  refine pr_aload_n hC (by decide +kernel : decode cX11_init 123 = .ok (.aload_n 0, 1)) rfl ?_
  refine pg_get hC (v := .ref (b + (n + 3))) fg_X11_28 (by decide +kernel : decode cX11_init 124 = .ok (.getfield 28, 3)) ((tu_ne e_c_n_161).trans ((tu_ne e_c_n_124).trans ((gf_X6_init e_c_n_152 l_c_n_153).trans ((tu_ne e_c_n_152).trans ((tu_ne e_c_n_124).trans ((gf_X6_init e_c_n_143 l_c_n_144).trans ((tu_ne e_c_n_143).trans ((tu_ne e_c_n_124).trans ((gf_X6_init e_c_n_134 l_c_n_135).trans ((tu_ne e_c_n_134).trans ((tu_ne e_c_n_124).trans ((gf_X6_init e_c_n_125 l_c_n_126).trans ((tu_ne e_c_n_125).trans (tu_eq)))))))))))))) rfl ?_
  refine pg_callI hC hE hR [.ref (b + (n + 3))] (n' := n + 170) 170 5718 rfl rfl fv_X11_37 (by decide +kernel : decode cX11_init 127 = .ok (.invokespecial 37, 3)) (c_X6_init tu_eq ((tu_ne e_n_3_n_161).trans ((tu_ne e_n_3_n_124).trans ((gf_X6_init e_n_3_n_152 l_n_3_n_153).trans ((tu_ne e_n_3_n_152).trans ((tu_ne e_n_3_n_124).trans ((gf_X6_init e_n_3_n_143 l_n_3_n_144).trans ((tu_ne e_n_3_n_143).trans ((tu_ne e_n_3_n_124).trans ((gf_X6_init e_n_3_n_134 l_n_3_n_135).trans ((tu_ne e_n_3_n_134).trans ((tu_ne e_n_3_n_124).trans ((gf_X6_init e_n_3_n_125 l_n_3_n_126).trans ((tu_ne e_n_3_n_125).trans ((tu_ne e_n_3_c).trans ((tu_ne e_n_3_n_124).trans ((tu_ne e_n_3_c).trans ((gf_X1_init e_n_3_n_119 l_n_3_n_120).trans ((tu_ne e_n_3_n_119).trans ((tu_ne e_n_3_c).trans ((gf_X6_init e_n_3_n_110 l_n_3_n_111).trans ((tu_ne e_n_3_n_110).trans ((tu_ne e_n_3_c).trans ((gf_X6_init e_n_3_n_101 l_n_3_n_102).trans ((tu_ne e_n_3_n_101).trans ((tu_ne e_n_3_c).trans ((gf_X9_init e_n_3_n_52 l_n_3_n_53).trans ((tu_ne e_n_3_n_52).trans ((tu_ne e_n_3_c).trans (gv_X9_init (by omega)))))))))))))))))))))))))))))) (ga := n + 9) rfl ((tu_ne e_n_9_n_161).trans ((tu_ne e_n_9_n_124).trans ((gf_X6_init e_n_9_n_152 l_n_9_n_153).trans ((tu_ne e_n_9_n_152).trans ((tu_ne e_n_9_n_124).trans ((gf_X6_init e_n_9_n_143 l_n_9_n_144).trans ((tu_ne e_n_9_n_143).trans ((tu_ne e_n_9_n_124).trans ((gf_X6_init e_n_9_n_134 l_n_9_n_135).trans ((tu_ne e_n_9_n_134).trans ((tu_ne e_n_9_n_124).trans ((gf_X6_init e_n_9_n_125 l_n_9_n_126).trans ((tu_ne e_n_9_n_125).trans ((tu_ne e_n_9_c).trans ((tu_ne e_n_9_n_124).trans ((tu_ne e_n_9_c).trans ((gf_X1_init e_n_9_n_119 l_n_9_n_120).trans ((tu_ne e_n_9_n_119).trans ((tu_ne e_n_9_c).trans ((gf_X6_init e_n_9_n_110 l_n_9_n_111).trans ((tu_ne e_n_9_n_110).trans ((tu_ne e_n_9_c).trans ((gf_X6_init e_n_9_n_101 l_n_9_n_102).trans ((tu_ne e_n_9_n_101).trans ((tu_ne e_n_9_c).trans ((gf_X9_init e_n_9_n_52 l_n_9_n_53).trans ((tu_ne e_n_9_n_52).trans ((tu_ne e_n_9_c).trans (gr_X9_init (by omega)))))))))))))))))))))))))))))) (by omega) (by omega) (by omega) (by omega) (by omega) (by omega)) rfl rfl (Nat.le_of_ble_eq_true rfl) (Nat.le_of_ble_eq_true rfl) (Nat.le_of_ble_eq_true rfl) (Nat.le_of_ble_eq_true rfl) ?_
  refine pg_aast hC (by decide +kernel : decode cX11_init 130 = .ok (.aastore, 1)) ((gf_X6_init e_n_124_n_161 l_n_124_n_162).trans ((tu_ne e_n_124_n_161).trans (tu_eq))) (gv_X6_init (by omega)) rfl rfl (vd_in rfl) ?_
  refine pg_iinc hC (5) (by decide +kernel : decode cX11_init 131 = .ok (.iinc 1 1, 3)) rfl (by decide) rfl rfl ?_
  refine pr_goto hC 108 (by decide +kernel : decode cX11_init 134 = .ok (.goto (-26), 3)) (by decide) ?_
  refine pr_iload_n hC (by decide +kernel : decode cX11_init 108 = .ok (.iload_n 1, 1)) rfl ?_
  refine pr_bipush hC (8) (by decide +kernel : decode cX11_init 109 = .ok (.bipush 8, 2)) rfl ?_
  refine pr_icmp_ge hC 137 (by decide +kernel : decode cX11_init 111 = .ok (.if_icmp .ge 26, 3)) (by decide) (fun q => absurd q (by decide)) (fun _ => ?_)
  refine pr_aload_n hC (by decide +kernel : decode cX11_init 114 = .ok (.aload_n 0, 1)) rfl ?_
  refine pg_get hC (v := .ref (b + (n + 124))) fg_X11_56 (by decide +kernel : decode cX11_init 115 = .ok (.getfield 56, 3)) ((tu_ne e_c_n_124).trans ((gf_X6_init e_c_n_161 l_c_n_162).trans ((tu_ne e_c_n_161).trans ((tu_ne e_c_n_124).trans ((gf_X6_init e_c_n_152 l_c_n_153).trans ((tu_ne e_c_n_152).trans ((tu_ne e_c_n_124).trans ((gf_X6_init e_c_n_143 l_c_n_144).trans ((tu_ne e_c_n_143).trans ((tu_ne e_c_n_124).trans ((gf_X6_init e_c_n_134 l_c_n_135).trans ((tu_ne e_c_n_134).trans ((tu_ne e_c_n_124).trans ((gf_X6_init e_c_n_125 l_c_n_126).trans ((tu_ne e_c_n_125).trans (tu_eq)))))))))))))))) rfl ?_
  refine pr_iload_n hC (by decide +kernel : decode cX11_init 118 = .ok (.iload_n 1, 1)) rfl ?_
  refine pg_new hC hR (n + 171) 171 5728 rfl rfl rfl fn_X11_35 (by decide +kernel : decode cX11_init 119 = .ok (.new 35, 3)) (Nat.le_of_ble_eq_true rfl) (Nat.le_of_ble_eq_true rfl) ?_
  refine pr_dup hC (by decide +kernel : decode cX11_init 122 = .ok (.dup, 1)) rfl ?_
  refine pr_aload_n hC (by decide +kernel : decode cX11_init 123 = .ok (.aload_n 0, 1)) rfl ?_
  refine pg_get hC (v := .ref (b + (n + 3))) fg_X11_28 (by decide +kernel : decode cX11_init 124 = .ok (.getfield 28, 3)) ((tu_ne e_c_n_170).trans ((tu_ne e_c_n_124).trans ((gf_X6_init e_c_n_161 l_c_n_162).trans ((tu_ne e_c_n_161).trans ((tu_ne e_c_n_124).trans ((gf_X6_init e_c_n_152 l_c_n_153).trans ((tu_ne e_c_n_152).trans ((tu_ne e_c_n_124).trans ((gf_X6_init e_c_n_143 l_c_n_144).trans ((tu_ne e_c_n_143).trans ((tu_ne e_c_n_124).trans ((gf_X6_init e_c_n_134 l_c_n_135).trans ((tu_ne e_c_n_134).trans ((tu_ne e_c_n_124).trans ((gf_X6_init e_c_n_125 l_c_n_126).trans ((tu_ne e_c_n_125).trans (tu_eq))))))))))))))))) rfl ?_
  refine pg_callI hC hE hR [.ref (b + (n + 3))] (n' := n + 179) 179 5884 rfl rfl fv_X11_37 (by decide +kernel : decode cX11_init 127 = .ok (.invokespecial 37, 3)) (c_X6_init tu_eq ((tu_ne e_n_3_n_170).trans ((tu_ne e_n_3_n_124).trans ((gf_X6_init e_n_3_n_161 l_n_3_n_162).trans ((tu_ne e_n_3_n_161).trans ((tu_ne e_n_3_n_124).trans ((gf_X6_init e_n_3_n_152 l_n_3_n_153).trans ((tu_ne e_n_3_n_152).trans ((tu_ne e_n_3_n_124).trans ((gf_X6_init e_n_3_n_143 l_n_3_n_144).trans ((tu_ne e_n_3_n_143).trans ((tu_ne e_n_3_n_124).trans ((gf_X6_init e_n_3_n_134 l_n_3_n_135).trans ((tu_ne e_n_3_n_134).trans ((tu_ne e_n_3_n_124).trans ((gf_X6_init e_n_3_n_125 l_n_3_n_126).trans ((tu_ne e_n_3_n_125).trans ((tu_ne e_n_3_c).trans ((tu_ne e_n_3_n_124).trans ((tu_ne e_n_3_c).trans ((gf_X1_init e_n_3_n_119 l_n_3_n_120).trans ((tu_ne e_n_3_n_119).trans ((tu_ne e_n_3_c).trans ((gf_X6_init e_n_3_n_110 l_n_3_n_111).trans ((tu_ne e_n_3_n_110).trans ((tu_ne e_n_3_c).trans ((gf_X6_init e_n_3_n_101 l_n_3_n_102).trans ((tu_ne e_n_3_n_101).trans ((tu_ne e_n_3_c).trans ((gf_X9_init e_n_3_n_52 l_n_3_n_53).trans ((tu_ne e_n_3_n_52).trans ((tu_ne e_n_3_c).trans (gv_X9_init (by omega))))))))))))))))))))))))))))))))) (ga := n + 9) rfl ((tu_ne e_n_9_n_170).trans ((tu_ne e_n_9_n_124).trans ((gf_X6_init e_n_9_n_161 l_n_9_n_162).trans ((tu_ne e_n_9_n_161).trans ((tu_ne e_n_9_n_124).trans ((gf_X6_init e_n_9_n_152 l_n_9_n_153).trans ((tu_ne e_n_9_n_152).trans ((tu_ne e_n_9_n_124).trans ((gf_X6_init e_n_9_n_143 l_n_9_n_144).trans ((tu_ne e_n_9_n_143).trans ((tu_ne e_n_9_n_124).trans ((gf_X6_init e_n_9_n_134 l_n_9_n_135).trans ((tu_ne e_n_9_n_134).trans ((tu_ne e_n_9_n_124).trans ((gf_X6_init e_n_9_n_125 l_n_9_n_126).trans ((tu_ne e_n_9_n_125).trans ((tu_ne e_n_9_c).trans ((tu_ne e_n_9_n_124).trans ((tu_ne e_n_9_c).trans ((gf_X1_init e_n_9_n_119 l_n_9_n_120).trans ((tu_ne e_n_9_n_119).trans ((tu_ne e_n_9_c).trans ((gf_X6_init e_n_9_n_110 l_n_9_n_111).trans ((tu_ne e_n_9_n_110).trans ((tu_ne e_n_9_c).trans ((gf_X6_init e_n_9_n_101 l_n_9_n_102).trans ((tu_ne e_n_9_n_101).trans ((tu_ne e_n_9_c).trans ((gf_X9_init e_n_9_n_52 l_n_9_n_53).trans ((tu_ne e_n_9_n_52).trans ((tu_ne e_n_9_c).trans (gr_X9_init (by omega))))))))))))))))))))))))))))))))) (by omega) (by omega) (by omega) (by omega) (by omega) (by omega)) rfl rfl (Nat.le_of_ble_eq_true rfl) (Nat.le_of_ble_eq_true rfl) (Nat.le_of_ble_eq_true rfl) (Nat.le_of_ble_eq_true rfl) ?_
  refine pg_aast hC (by decide +kernel : decode cX11_init 130 = .ok (.aastore, 1)) ((gf_X6_init e_n_124_n_170 l_n_124_n_171).trans ((tu_ne e_n_124_n_170).trans (tu_eq))) (gv_X6_init (by omega)) rfl rfl (vd_in rfl) ?_
  refine pg_iinc hC (6) (by decide +kernel : decode cX11_init 131 = .ok (.iinc 1 1, 3)) rfl (by decide) rfl rfl ?_
  refine pr_goto hC 108 (by decide +kernel : decode cX11_init 134 = .ok (.goto (-26), 3)) (by decide) ?_
  refine pr_iload_n hC (by decide +kernel : decode cX11_init 108 = .ok (.iload_n 1, 1)) rfl ?_
  refine pr_bipush hC (8) (by decide +kernel : decode cX11_init 109 = .ok (.bipush 8, 2)) rfl ?_
  refine pr_icmp_ge hC 137 (by decide +kernel : decode cX11_init 111 = .ok (.if_icmp .ge 26, 3)) (by decide) (fun q => absurd q (by decide)) (fun _ => ?_)
  refine pr_aload_n hC (by decide +kernel : decode cX11_init 114 = .ok (.aload_n 0, 1)) rfl ?_
  refine pg_get hC (v := .ref (b + (n + 124))) fg_X11_56 (by decide +kernel : decode cX11_init 115 = .ok (.getfield 56, 3)) ((tu_ne e_c_n_124).trans ((gf_X6_init e_c_n_170 l_c_n_171).trans ((tu_ne e_c_n_170).trans ((tu_ne e_c_n_124).trans ((gf_X6_init e_c_n_161 l_c_n_162).trans ((tu_ne e_c_n_161).trans ((tu_ne e_c_n_124).trans ((gf_X6_init e_c_n_152 l_c_n_153).trans ((tu_ne e_c_n_152).trans ((tu_ne e_c_n_124).trans ((gf_X6_init e_c_n_143 l_c_n_144).trans ((tu_ne e_c_n_143).trans ((tu_ne e_c_n_124).trans ((gf_X6_init e_c_n_134 l_c_n_135).trans ((tu_ne e_c_n_134).trans ((tu_ne e_c_n_124).trans ((gf_X6_init e_c_n_125 l_c_n_126).trans ((tu_ne e_c_n_125).trans (tu_eq))))))))))))))))))) rfl ?_
  refine pr_iload_n hC (by decide +kernel : decode cX11_init 118 = .ok (.iload_n 1, 1)) rfl ?_
  refine pg_new hC hR (n + 180) 180 5894 rfl rfl rfl fn_X11_35 (by decide +kernel : decode cX11_init 119 = .ok (.new 35, 3)) (Nat.le_of_ble_eq_true rfl) (Nat.le_of_ble_eq_true rfl) ?_
  refine pr_dup hC (by decide +kernel : decode cX11_init 122 = .ok (.dup, 1)) rfl ?_
  refine pr_aload_n hC (by decide +kernel : decode cX11_init 123 = .ok (.aload_n 0, 1)) rfl ?_
  refine pg_get hC (v := .ref (b + (n + 3))) fg_X11_28 (by decide +kernel : decode cX11_init 124 = .ok (.getfield 28, 3)) ((tu_ne e_c_n_179).trans ((tu_ne e_c_n_124).trans ((gf_X6_init e_c_n_170 l_c_n_171).trans ((tu_ne e_c_n_170).trans ((tu_ne e_c_n_124).trans ((gf_X6_init e_c_n_161 l_c_n_162).trans ((tu_ne e_c_n_161).trans ((tu_ne e_c_n_124).trans ((gf_X6_init e_c_n_152 l_c_n_153).trans ((tu_ne e_c_n_152).trans ((tu_ne e_c_n_124).trans ((gf_X6_init e_c_n_143 l_c_n_144).trans ((tu_ne e_c_n_143).trans ((tu_ne e_c_n_124).trans ((gf_X6_init e_c_n_134 l_c_n_135).trans ((tu_ne e_c_n_134).trans ((tu_ne e_c_n_124).trans ((gf_X6_init e_c_n_125 l_c_n_126).trans ((tu_ne e_c_n_125).trans (tu_eq)))))))))))))))))))) rfl ?_
  refine pg_callI hC hE hR [.ref (b + (n + 3))] (n' := n + 188) 188 6050 rfl rfl fv_X11_37 (by decide +kernel : decode cX11_init 127 = .ok (.invokespecial 37, 3)) (c_X6_init tu_eq ((tu_ne e_n_3_n_179).trans ((tu_ne e_n_3_n_124).trans ((gf_X6_init e_n_3_n_170 l_n_3_n_171).trans ((tu_ne e_n_3_n_170).trans ((tu_ne e_n_3_n_124).trans ((gf_X6_init e_n_3_n_161 l_n_3_n_162).trans ((tu_ne e_n_3_n_161).trans ((tu_ne e_n_3_n_124).trans ((gf_X6_init e_n_3_n_152 l_n_3_n_153).trans ((tu_ne e_n_3_n_152).trans ((tu_ne e_n_3_n_124).trans ((gf_X6_init e_n_3_n_143 l_n_3_n_144).trans ((tu_ne e_n_3_n_143).trans ((tu_ne e_n_3_n_124).trans ((gf_X6_init e_n_3_n_134 l_n_3_n_135).trans ((tu_ne e_n_3_n_134).trans ((tu_ne e_n_3_n_124).trans ((gf_X6_init e_n_3_n_125 l_n_3_n_126).trans ((tu_ne e_n_3_n_125).trans ((tu_ne e_n_3_c).trans ((tu_ne e_n_3_n_124).trans ((tu_ne e_n_3_c).trans ((gf_X1_init e_n_3_n_119 l_n_3_n_120).trans ((tu_ne e_n_3_n_119).trans ((tu_ne e_n_3_c).trans ((gf_X6_init e_n_3_n_110 l_n_3_n_111).trans ((tu_ne e_n_3_n_110).trans ((tu_ne e_n_3_c).trans ((gf_X6_init e_n_3_n_101 l_n_3_n_102).trans ((tu_ne e_n_3_n_101).trans ((tu_ne e_n_3_c).trans ((gf_X9_init e_n_3_n_52 l_n_3_n_53).trans ((tu_ne e_n_3_n_52).trans ((tu_ne e_n_3_c).trans (gv_X9_init (by omega)))))))))))))))))))))))))))))))))))) (ga := n + 9) rfl ((tu_ne e_n_9_n_179).trans ((tu_ne e_n_9_n_124).trans ((gf_X6_init e_n_9_n_170 l_n_9_n_171).trans ((tu_ne e_n_9_n_170).trans ((tu_ne e_n_9_n_124).trans ((gf_X6_init e_n_9_n_161 l_n_9_n_162).trans ((tu_ne e_n_9_n_161).trans ((tu_ne e_n_9_n_124).trans ((gf_X6_init e_n_9_n_152 l_n_9_n_153).trans ((tu_ne e_n_9_n_152).trans ((tu_ne e_n_9_n_124).trans ((gf_X6_init e_n_9_n_143 l_n_9_n_144).trans ((tu_ne e_n_9_n_143).trans ((tu_ne e_n_9_n_124).trans ((gf_X6_init e_n_9_n_134 l_n_9_n_135).trans ((tu_ne e_n_9_n_134).trans ((tu_ne e_n_9_n_124).trans ((gf_X6_init e_n_9_n_125 l_n_9_n_126).trans ((tu_ne e_n_9_n_125).trans ((tu_ne e_n_9_c).trans ((tu_ne e_n_9_n_124).trans ((tu_ne e_n_9_c).trans ((gf_X1_init e_n_9_n_119 l_n_9_n_120).trans ((tu_ne e_n_9_n_119).trans ((tu_ne e_n_9_c).trans ((gf_X6_init e_n_9_n_110 l_n_9_n_111).trans ((tu_ne e_n_9_n_110).trans ((tu_ne e_n_9_c).trans ((gf_X6_init e_n_9_n_101 l_n_9_n_102).trans ((tu_ne e_n_9_n_101).trans ((tu_ne e_n_9_c).trans ((gf_X9_init e_n_9_n_52 l_n_9_n_53).trans ((tu_ne e_n_9_n_52).trans ((tu_ne e_n_9_c).trans (gr_X9_init (by omega)))))))))))))))))))))))))))))))))))) (by omega) (by omega) (by omega) (by omega) (by omega) (by omega)) rfl rfl (Nat.le_of_ble_eq_true rfl) (Nat.le_of_ble_eq_true rfl) (Nat.le_of_ble_eq_true rfl) (Nat.le_of_ble_eq_true rfl) ?_
  refine pg_aast hC (by decide +kernel : decode cX11_init 130 = .ok (.aastore, 1)) ((gf_X6_init e_n_124_n_179 l_n_124_n_180).trans ((tu_ne e_n_124_n_179).trans (tu_eq))) (gv_X6_init (by omega)) rfl rfl (vd_in rfl) ?_
  refine pg_iinc hC (7) (by decide +kernel : decode cX11_init 131 = .ok (.iinc 1 1, 3)) rfl (by decide) rfl rfl ?_
  refine pr_goto hC 108 (by decide +kernel : decode cX11_init 134 = .ok (.goto (-26), 3)) (by decide) ?_
  refine pr_iload_n hC (by decide +kernel : decode cX11_init 108 = .ok (.iload_n 1, 1)) rfl ?_
  refine pr_bipush hC (8) (by decide +kernel : decode cX11_init 109 = .ok (.bipush 8, 2)) rfl ?_
  refine pr_icmp_ge hC 137 (by decide +kernel : decode cX11_init 111 = .ok (.if_icmp .ge 26, 3)) (by decide) (fun q => absurd q (by decide)) (fun _ => ?_)
  refine pr_aload_n hC (by decide +kernel : decode cX11_init 114 = .ok (.aload_n 0, 1)) rfl ?_
  refine pg_get hC (v := .ref (b + (n + 124))) fg_X11_56 (by decide +kernel : decode cX11_init 115 = .ok (.getfield 56, 3)) ((tu_ne e_c_n_124).trans ((gf_X6_init e_c_n_179 l_c_n_180).trans ((tu_ne e_c_n_179).trans ((tu_ne e_c_n_124).trans ((gf_X6_init e_c_n_170 l_c_n_171).trans ((tu_ne e_c_n_170).trans ((tu_ne e_c_n_124).trans ((gf_X6_init e_c_n_161 l_c_n_162).trans ((tu_ne e_c_n_161).trans ((tu_ne e_c_n_124).trans ((gf_X6_init e_c_n_152 l_c_n_153).trans ((tu_ne e_c_n_152).trans ((tu_ne e_c_n_124).trans ((gf_X6_init e_c_n_143 l_c_n_144).trans ((tu_ne e_c_n_143).trans ((tu_ne e_c_n_124).trans ((gf_X6_init e_c_n_134 l_c_n_135).trans ((tu_ne e_c_n_134).trans ((tu_ne e_c_n_124).trans ((gf_X6_init e_c_n_125 l_c_n_126).trans ((tu_ne e_c_n_125).trans (tu_eq)))))))))))))))))))))) rfl ?_
  refine pr_iload_n hC (by decide +kernel : decode cX11_init 118 = .ok (.iload_n 1, 1)) rfl ?_
  refine pg_new hC hR (n + 189) 189 6060 rfl rfl rfl fn_X11_35 (by decide +kernel : decode cX11_init 119 = .ok (.new 35, 3)) (Nat.le_of_ble_eq_true rfl) (Nat.le_of_ble_eq_true rfl) ?_
  refine pr_dup hC (by decide +kernel : decode cX11_init 122 = .ok (.dup, 1)) rfl ?_
  refine pr_aload_n hC (by decide +kernel : decode cX11_init 123 = .ok (.aload_n 0, 1)) rfl ?_
  refine pg_get hC (v := .ref (b + (n + 3))) fg_X11_28 (by decide +kernel : decode cX11_init 124 = .ok (.getfield 28, 3)) ((tu_ne e_c_n_188).trans ((tu_ne e_c_n_124).trans ((gf_X6_init e_c_n_179 l_c_n_180).trans ((tu_ne e_c_n_179).trans ((tu_ne e_c_n_124).trans ((gf_X6_init e_c_n_170 l_c_n_171).trans ((tu_ne e_c_n_170).trans ((tu_ne e_c_n_124).trans ((gf_X6_init e_c_n_161 l_c_n_162).trans ((tu_ne e_c_n_161).trans ((tu_ne e_c_n_124).trans ((gf_X6_init e_c_n_152 l_c_n_153).trans ((tu_ne e_c_n_152).trans ((tu_ne e_c_n_124).trans ((gf_X6_init e_c_n_143 l_c_n_144).trans ((tu_ne e_c_n_143).trans ((tu_ne e_c_n_124).trans ((gf_X6_init e_c_n_134 l_c_n_135).trans ((tu_ne e_c_n_134).trans ((tu_ne e_c_n_124).trans ((gf_X6_init e_c_n_125 l_c_n_126).trans ((tu_ne e_c_n_125).trans (tu_eq))))))))))))))))))))))) rfl ?_
  refine pg_callI hC hE hR [.ref (b + (n + 3))] (n' := n + 197) 197 6216 rfl rfl fv_X11_37 (by decide +kernel : decode cX11_init 127 = .ok (.invokespecial 37, 3)) (c_X6_init tu_eq ((tu_ne e_n_3_n_188).trans ((tu_ne e_n_3_n_124).trans ((gf_X6_init e_n_3_n_179 l_n_3_n_180).trans ((tu_ne e_n_3_n_179).trans ((tu_ne e_n_3_n_124).trans ((gf_X6_init e_n_3_n_170 l_n_3_n_171).trans ((tu_ne e_n_3_n_170).trans ((tu_ne e_n_3_n_124).trans ((gf_X6_init e_n_3_n_161 l_n_3_n_162).trans ((tu_ne e_n_3_n_161).trans ((tu_ne e_n_3_n_124).trans ((gf_X6_init e_n_3_n_152 l_n_3_n_153).trans ((tu_ne e_n_3_n_152).trans ((tu_ne e_n_3_n_124).trans ((gf_X6_init e_n_3_n_143 l_n_3_n_144).trans ((tu_ne e_n_3_n_143).trans ((tu_ne e_n_3_n_124).trans ((gf_X6_init e_n_3_n_134 l_n_3_n_135).trans ((tu_ne e_n_3_n_134).trans ((tu_ne e_n_3_n_124).trans ((gf_X6_init e_n_3_n_125 l_n_3_n_126).trans ((tu_ne e_n_3_n_125).trans ((tu_ne e_n_3_c).trans ((tu_ne e_n_3_n_124).trans ((tu_ne e_n_3_c).trans ((gf_X1_init e_n_3_n_119 l_n_3_n_120).trans ((tu_ne e_n_3_n_119).trans ((tu_ne e_n_3_c).trans ((gf_X6_init e_n_3_n_110 l_n_3_n_111).trans ((tu_ne e_n_3_n_110).trans ((tu_ne e_n_3_c).trans ((gf_X6_init e_n_3_n_101 l_n_3_n_102).trans ((tu_ne e_n_3_n_101).trans ((tu_ne e_n_3_c).trans ((gf_X9_init e_n_3_n_52 l_n_3_n_53).trans ((tu_ne e_n_3_n_52).trans ((tu_ne e_n_3_c).trans (gv_X9_init (by omega))))))))))))))))))))))))))))))))))))))) (ga := n + 9) rfl ((tu_ne e_n_9_n_188).trans ((tu_ne e_n_9_n_124).trans ((gf_X6_init e_n_9_n_179 l_n_9_n_180).trans ((tu_ne e_n_9_n_179).trans ((tu_ne e_n_9_n_124).trans ((gf_X6_init e_n_9_n_170 l_n_9_n_171).trans ((tu_ne e_n_9_n_170).trans ((tu_ne e_n_9_n_124).trans ((gf_X6_init e_n_9_n_161 l_n_9_n_162).trans ((tu_ne e_n_9_n_161).trans ((tu_ne e_n_9_n_124).trans ((gf_X6_init e_n_9_n_152 l_n_9_n_153).trans ((tu_ne e_n_9_n_152).trans ((tu_ne e_n_9_n_124).trans ((gf_X6_init e_n_9_n_143 l_n_9_n_144).trans ((tu_ne e_n_9_n_143).trans ((tu_ne e_n_9_n_124).trans ((gf_X6_init e_n_9_n_134 l_n_9_n_135).trans ((tu_ne e_n_9_n_134).trans ((tu_ne e_n_9_n_124).trans ((gf_X6_init e_n_9_n_125 l_n_9_n_126).trans ((tu_ne e_n_9_n_125).trans ((tu_ne e_n_9_c).trans ((tu_ne e_n_9_n_124).trans ((tu_ne e_n_9_c).trans ((gf_X1_init e_n_9_n_119 l_n_9_n_120).trans ((tu_ne e_n_9_n_119).trans ((tu_ne e_n_9_c).trans ((gf_X6_init e_n_9_n_110 l_n_9_n_111).trans ((tu_ne e_n_9_n_110).trans ((tu_ne e_n_9_c).trans ((gf_X6_init e_n_9_n_101 l_n_9_n_102).trans ((tu_ne e_n_9_n_101).trans ((tu_ne e_n_9_c).trans ((gf_X9_init e_n_9_n_52 l_n_9_n_53).trans ((tu_ne e_n_9_n_52).trans ((tu_ne e_n_9_c).trans (gr_X9_init (by omega))))))))))))))))))))))))))))))))))))))) (by omega) (by omega) (by omega) (by omega) (by omega) (by omega)) rfl rfl (Nat.le_of_ble_eq_true rfl) (Nat.le_of_ble_eq_true rfl) (Nat.le_of_ble_eq_true rfl) (Nat.le_of_ble_eq_true rfl) ?_
  refine pg_aast hC (by decide +kernel : decode cX11_init 130 = .ok (.aastore, 1)) ((gf_X6_init e_n_124_n_188 l_n_124_n_189).trans ((tu_ne e_n_124_n_188).trans (tu_eq))) (gv_X6_init (by omega)) rfl rfl (vd_in rfl) ?_
  refine pg_iinc hC (8) (by decide +kernel : decode cX11_init 131 = .ok (.iinc 1 1, 3)) rfl (by decide) rfl rfl ?_
  refine pr_goto hC 108 (by decide +kernel : decode cX11_init 134 = .ok (.goto (-26), 3)) (by decide) ?_
  refine pr_iload_n hC (by decide +kernel : decode cX11_init 108 = .ok (.iload_n 1, 1)) rfl ?_
  refine pr_bipush hC (8) (by decide +kernel : decode cX11_init 109 = .ok (.bipush 8, 2)) rfl ?_
  refine pr_icmp_ge hC 137 (by decide +kernel : decode cX11_init 111 = .ok (.if_icmp .ge 26, 3)) (by decide) (fun _ => ?_) (fun q => absurd (by decide) q)
  refine pr_aload_n hC (by decide +kernel : decode cX11_init 137 = .ok (.aload_n 0, 1)) rfl ?_
  refine pr_iconst hC (3) (by decide +kernel : decode cX11_init 138 = .ok (.iconst 3, 1)) rfl ?_
  refine pg_anew hC hR 7 3 (n + 198) 198 6219 rfl rfl rfl fa_X11_60 hE.2.2.2.1 rfl (by decide +kernel : decode cX11_init 139 = .ok (.anewarray 60, 3)) (by decide) rfl (Nat.le_of_ble_eq_true rfl) (Nat.le_of_ble_eq_true rfl) (Nat.le_of_ble_eq_true rfl) ?_
  refine pr_dup hC (by decide +kernel : decode cX11_init 142 = .ok (.dup, 1)) rfl ?_
  refine pr_iconst hC (0) (by decide +kernel : decode cX11_init 143 = .ok (.iconst 0, 1)) rfl ?_
  refine pg_new hC hR (n + 199) 199 6222 rfl rfl rfl fn_X11_60 (by decide +kernel : decode cX11_init 144 = .ok (.new 60, 3)) (Nat.le_of_ble_eq_true rfl) (Nat.le_of_ble_eq_true rfl) ?_
  refine pr_dup hC (by decide +kernel : decode cX11_init 147 = .ok (.dup, 1)) rfl ?_
  refine pg_callI hC hE hR [] (n' := n + 200) 200 6242 rfl rfl fv_X11_62 (by decide +kernel : decode cX11_init 148 = .ok (.invokespecial 62, 3)) (c_X7_init tu_eq (by omega)) rfl rfl (Nat.le_of_ble_eq_true rfl) (Nat.le_of_ble_eq_true rfl) (Nat.le_of_ble_eq_true rfl) (Nat.le_of_ble_eq_true rfl) ?_
  refine pg_aast hC (by decide +kernel : decode cX11_init 151 = .ok (.aastore, 1)) ((gf_X7_init e_n_197_n_198 l_n_197_n_199).trans ((tu_ne e_n_197_n_198).trans (tu_eq))) (gv_X7_init (by omega)) rfl rfl (vd_in rfl) ?_
  refine pr_dup hC (by decide +kernel : decode cX11_init 152 = .ok (.dup, 1)) rfl ?_
  refine pr_iconst hC (1) (by decide +kernel : decode cX11_init 153 = .ok (.iconst 1, 1)) rfl ?_
  refine pg_new hC hR (n + 201) 201 6245 rfl rfl rfl fn_X11_60 (by decide +kernel : decode cX11_init 154 = .ok (.new 60, 3)) (Nat.le_of_ble_eq_true rfl) (Nat.le_of_ble_eq_true rfl) ?_
  refine pr_dup hC (by decide +kernel : decode cX11_init 157 = .ok (.dup, 1)) rfl ?_
  refine pg_callI hC hE hR [] (n' := n + 202) 202 6265 rfl rfl fv_X11_62 (by decide +kernel : decode cX11_init 158 = .ok (.invokespecial 62, 3)) (c_X7_init tu_eq (by omega)) rfl rfl (Nat.le_of_ble_eq_true rfl) (Nat.le_of_ble_eq_true rfl) (Nat.le_of_ble_eq_true rfl) (Nat.le_of_ble_eq_true rfl) ?_
  refine pg_aast hC (by decide +kernel : decode cX11_init 161 = .ok (.aastore, 1)) ((gf_X7_init e_n_197_n_200 l_n_197_n_201).trans ((tu_ne e_n_197_n_200).trans (tu_eq))) (gv_X7_init (by omega)) rfl rfl (vd_in rfl) ?_
  refine pr_dup hC (by decide +kernel : decode cX11_init 162 = .ok (.dup, 1)) rfl ?_
  refine pr_iconst hC (2) (by decide +kernel : decode cX11_init 163 = .ok (.iconst 2, 1)) rfl ?_
  refine pg_new hC hR (n + 203) 203 6268 rfl rfl rfl fn_X11_60 (by decide +kernel : decode cX11_init 164 = .ok (.new 60, 3)) (Nat.le_of_ble_eq_true rfl) (Nat.le_of_ble_eq_true rfl) ?_
  refine pr_dup hC (by decide +kernel : decode cX11_init 167 = .ok (.dup, 1)) rfl ?_
  refine pg_callI hC hE hR [] (n' := n + 204) 204 6288 rfl rfl fv_X11_62 (by decide +kernel : decode cX11_init 168 = .ok (.invokespecial 62, 3)) (c_X7_init tu_eq (by omega)) rfl rfl (Nat.le_of_ble_eq_true rfl) (Nat.le_of_ble_eq_true rfl) (Nat.le_of_ble_eq_true rfl) (Nat.le_of_ble_eq_true rfl) ?_
  refine pg_aast hC (by decide +kernel : decode cX11_init 171 = .ok (.aastore, 1)) ((gf_X7_init e_n_197_n_202 l_n_197_n_203).trans ((tu_ne e_n_197_n_202).trans (tu_eq))) (gv_X7_init (by omega)) rfl rfl (vd_in rfl) ?_
  refine pg_putF hC fp_X11_63 (by decide +kernel : decode cX11_init 172 = .ok (.putfield 63, 3)) hI ((tu_ne e_c_n_197).trans ((gf_X7_init e_c_n_202 l_c_n_203).trans ((tu_ne e_c_n_202).trans ((tu_ne e_c_n_197).trans ((gf_X7_init e_c_n_200 l_c_n_201).trans ((tu_ne e_c_n_200).trans ((tu_ne e_c_n_197).trans ((gf_X7_init e_c_n_198 l_c_n_199).trans ((tu_ne e_c_n_198).trans ((tu_ne e_c_n_197).trans ((tu_ne e_c_n_124).trans ((gf_X6_init e_c_n_188 l_c_n_189).trans ((tu_ne e_c_n_188).trans ((tu_ne e_c_n_124).trans ((gf_X6_init e_c_n_179 l_c_n_180).trans ((tu_ne e_c_n_179).trans ((tu_ne e_c_n_124).trans ((gf_X6_init e_c_n_170 l_c_n_171).trans ((tu_ne e_c_n_170).trans ((tu_ne e_c_n_124).trans ((gf_X6_init e_c_n_161 l_c_n_162).trans ((tu_ne e_c_n_161).trans ((tu_ne e_c_n_124).trans ((gf_X6_init e_c_n_152 l_c_n_153).trans ((tu_ne e_c_n_152).trans ((tu_ne e_c_n_124).trans ((gf_X6_init e_c_n_143 l_c_n_144).trans ((tu_ne e_c_n_143).trans ((tu_ne e_c_n_124).trans ((gf_X6_init e_c_n_134 l_c_n_135).trans ((tu_ne e_c_n_134).trans ((tu_ne e_c_n_124).trans ((gf_X6_init e_c_n_125 l_c_n_126).trans ((tu_ne e_c_n_125).trans (tu_eq))))))))))))))))))))))))))))))))))) rfl rfl ?_
  exact pg_ret hM (by decide +kernel : decode cX11_init 175 = .ok (.return_, 1))
def F_X11_init (b : Nat) (c n : Nat) : Nat → Value := (va_up (va_up (va_up (va_up (va_up (va_up (va_up (va_up (va_up (dF 9) 0 (.ref (b + n))) 1 (.ref (b + (n + 2)))) 2 (.ref (b + (n + 3)))) 3 (.ref (b + (n + 52)))) 4 (.ref (b + (n + 101)))) 5 (.ref (b + (n + 110)))) 6 (.ref (b + (n + 119)))) 7 (.ref (b + (n + 124)))) 10 (.ref (b + (n + 197))))
theorem gv_X11_init {G : px_D} {b : Nat} {t : Nat → Option va_E} {c n : Nat} (hc : c < n) : g_X11_init G b t c n c = some (po 9 11 (F_X11_init b c n)) := by
  unfold g_X11_init F_X11_init
  exact tu_eq
theorem gf_X11_init {G : px_D} {b : Nat} {t : Nat → Option va_E} {c n : Nat} {a : Nat} (h1 : a ≠ c) (h2 : a < n) : g_X11_init G b t c n a = t a := by
  unfold g_X11_init
  have e_a_c : a ≠ c := by omega
  have e_a_n_197 : a ≠ n + 197 := by omega
  have e_a_n_202 : a ≠ n + 202 := by omega
  have l_a_n_203 : a < n + 203 := by omega
  have e_a_n_200 : a ≠ n + 200 := by omega
  have l_a_n_201 : a < n + 201 := by omega
  have e_a_n_198 : a ≠ n + 198 := by omega
  have l_a_n_199 : a < n + 199 := by omega
  have e_a_n_124 : a ≠ n + 124 := by omega
  have e_a_n_188 : a ≠ n + 188 := by omega
  have l_a_n_189 : a < n + 189 := by omega
  have e_a_n_179 : a ≠ n + 179 := by omega
  have l_a_n_180 : a < n + 180 := by omega
  have e_a_n_170 : a ≠ n + 170 := by omega
  have l_a_n_171 : a < n + 171 := by omega
  have e_a_n_161 : a ≠ n + 161 := by omega
  have l_a_n_162 : a < n + 162 := by omega
  have e_a_n_152 : a ≠ n + 152 := by omega
  have l_a_n_153 : a < n + 153 := by omega
  have e_a_n_143 : a ≠ n + 143 := by omega
  have l_a_n_144 : a < n + 144 := by omega
  have e_a_n_134 : a ≠ n + 134 := by omega
  have l_a_n_135 : a < n + 135 := by omega
  have e_a_n_125 : a ≠ n + 125 := by omega
  have l_a_n_126 : a < n + 126 := by omega
  have e_a_n_119 : a ≠ n + 119 := by omega
  have l_a_n_120 : a < n + 120 := by omega
  have e_a_n_110 : a ≠ n + 110 := by omega
  have l_a_n_111 : a < n + 111 := by omega
  have e_a_n_101 : a ≠ n + 101 := by omega
  have l_a_n_102 : a < n + 102 := by omega
  have e_a_n_52 : a ≠ n + 52 := by omega
  have l_a_n_53 : a < n + 53 := by omega
  have e_a_n_3 : a ≠ n + 3 := by omega
  have l_a_n_4 : a < n + 4 := by omega
  have e_a_n_2 : a ≠ n + 2 := by omega
  have l_a_n_3 : a < n + 3 := by omega
  have e_a_n : a ≠ n := by omega
  have l_a_n_1 : a < n + 1 := by omega
  exact ((tu_ne e_a_c).trans ((tu_ne e_a_n_197).trans ((gf_X7_init e_a_n_202 l_a_n_203).trans ((tu_ne e_a_n_202).trans ((tu_ne e_a_n_197).trans ((gf_X7_init e_a_n_200 l_a_n_201).trans ((tu_ne e_a_n_200).trans ((tu_ne e_a_n_197).trans ((gf_X7_init e_a_n_198 l_a_n_199).trans ((tu_ne e_a_n_198).trans ((tu_ne e_a_n_197).trans ((tu_ne e_a_n_124).trans ((gf_X6_init e_a_n_188 l_a_n_189).trans ((tu_ne e_a_n_188).trans ((tu_ne e_a_n_124).trans ((gf_X6_init e_a_n_179 l_a_n_180).trans ((tu_ne e_a_n_179).trans ((tu_ne e_a_n_124).trans ((gf_X6_init e_a_n_170 l_a_n_171).trans ((tu_ne e_a_n_170).trans ((tu_ne e_a_n_124).trans ((gf_X6_init e_a_n_161 l_a_n_162).trans ((tu_ne e_a_n_161).trans ((tu_ne e_a_n_124).trans ((gf_X6_init e_a_n_152 l_a_n_153).trans ((tu_ne e_a_n_152).trans ((tu_ne e_a_n_124).trans ((gf_X6_init e_a_n_143 l_a_n_144).trans ((tu_ne e_a_n_143).trans ((tu_ne e_a_n_124).trans ((gf_X6_init e_a_n_134 l_a_n_135).trans ((tu_ne e_a_n_134).trans ((tu_ne e_a_n_124).trans ((gf_X6_init e_a_n_125 l_a_n_126).trans ((tu_ne e_a_n_125).trans ((tu_ne e_a_c).trans ((tu_ne e_a_n_124).trans ((tu_ne e_a_c).trans ((gf_X1_init e_a_n_119 l_a_n_120).trans ((tu_ne e_a_n_119).trans ((tu_ne e_a_c).trans ((gf_X6_init e_a_n_110 l_a_n_111).trans ((tu_ne e_a_n_110).trans ((tu_ne e_a_c).trans ((gf_X6_init e_a_n_101 l_a_n_102).trans ((tu_ne e_a_n_101).trans ((tu_ne e_a_c).trans ((gf_X9_init e_a_n_52 l_a_n_53).trans ((tu_ne e_a_n_52).trans ((tu_ne e_a_c).trans ((gf_X9_init e_a_n_3 l_a_n_4).trans ((tu_ne e_a_n_3).trans ((tu_ne e_a_c).trans ((gf_X4_init e_a_n_2 l_a_n_3).trans ((tu_ne e_a_n_2).trans ((tu_ne e_a_c).trans ((gf_X8_init e_a_n l_a_n_1).trans (tu_ne e_a_n))))))))))))))))))))))))))))))))))))))))))))))))))))))))))
