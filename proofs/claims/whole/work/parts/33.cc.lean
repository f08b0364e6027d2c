def g_X9_init (G : px_D) (b : Nat) (t : Nat → Option va_E) (c n : Nat) : Nat → Option va_E :=
  (tu (tu (tu (tu (tu (tu (tu (tu (tu (g_X3_init G b (tu (tu (g_X5_init G b (tu (tu (g_X2_init G b (tu (tu (g_X2_init G b (tu (tu (g_X2_init G b (tu (tu (g_X2_init G b (tu (tu (g_X2_init G b (tu (tu (g_X2_init G b (tu (tu (g_X2_init G b (tu (tu (g_X2_init G b (tu (tu (g_X2_init G b (tu (tu (g_X2_init G b (tu (tu (g_X2_init G b (tu (tu (g_X2_init G b (tu (tu (g_X2_init G b (tu (tu (g_X2_init G b (tu (tu (g_X2_init G b (tu (tu (g_X2_init G b (tu (tu (tu (tu (tu (tu (tu (tu (tu (tu (tu (tu (tu (tu (tmu G b t (n) 3 10) (c) (po 8 15 (va_up (dF 8) 0 (.ref (b + n))))) (n + 4) (pa_i G 3 (fun _ => 0))) (c) (po 8 15 (va_up (va_up (dF 8) 0 (.ref (b + n))) 1 (.ref (b + (n + 4)))))) (n + 5) (pa_i G 10 (fun _ => 0))) (c) (po 8 15 (va_up (va_up (va_up (dF 8) 0 (.ref (b + n))) 1 (.ref (b + (n + 4)))) 2 (.ref (b + (n + 5)))))) (n + 6) (pa_i G 10 (fun _ => 0))) (c) (po 8 15 (va_up (va_up (va_up (va_up (dF 8) 0 (.ref (b + n))) 1 (.ref (b + (n + 4)))) 2 (.ref (b + (n + 5)))) 3 (.ref (b + (n + 6)))))) (n + 7) (pa_i G 10 (fun _ => 0))) (c) (po 8 15 (va_up (va_up (va_up (va_up (va_up (dF 8) 0 (.ref (b + n))) 1 (.ref (b + (n + 4)))) 2 (.ref (b + (n + 5)))) 3 (.ref (b + (n + 6)))) 4 (.ref (b + (n + 7)))))) (n + 8) (pa_i G 10 (fun _ => 0))) (c) (po 8 15 (va_up (va_up (va_up (va_up (va_up (va_up (dF 8) 0 (.ref (b + n))) 1 (.ref (b + (n + 4)))) 2 (.ref (b + (n + 5)))) 3 (.ref (b + (n + 6)))) 4 (.ref (b + (n + 7)))) 5 (.ref (b + (n + 8)))))) (n + 9) (pa_r G 8 16 (fun _ => none))) (c) (po 8 15 (va_up (va_up (va_up (va_up (va_up (va_up (va_up (dF 8) 0 (.ref (b + n))) 1 (.ref (b + (n + 4)))) 2 (.ref (b + (n + 5)))) 3 (.ref (b + (n + 6)))) 4 (.ref (b + (n + 7)))) 5 (.ref (b + (n + 8)))) 6 (.ref (b + (n + 9)))))) (n + 10) (po 1 10 (dF 1))) (n + 10) (n + 11)) (n + 9) (pa_r G 8 16 (va_up (fun _ => none) (Int32.toNatClampNeg 0) (some (b + (n + 10)))))) (n + 11) (po 1 10 (dF 1))) (n + 11) (n + 12)) (n + 9) (pa_r G 8 16 (va_up (va_up (fun _ => none) (Int32.toNatClampNeg 0) (some (b + (n + 10)))) (Int32.toNatClampNeg 1) (some (b + (n + 11)))))) (n + 12) (po 1 10 (dF 1))) (n + 12) (n + 13)) (n + 9) (pa_r G 8 16 (va_up (va_up (va_up (fun _ => none) (Int32.toNatClampNeg 0) (some (b + (n + 10)))) (Int32.toNatClampNeg 1) (some (b + (n + 11)))) (Int32.toNatClampNeg 2) (some (b + (n + 12)))))) (n + 13) (po 1 10 (dF 1))) (n + 13) (n + 14)) (n + 9) (pa_r G 8 16 (va_up (va_up (va_up (va_up (fun _ => none) (Int32.toNatClampNeg 0) (some (b + (n + 10)))) (Int32.toNatClampNeg 1) (some (b + (n + 11)))) (Int32.toNatClampNeg 2) (some (b + (n + 12)))) (Int32.toNatClampNeg 3) (some (b + (n + 13)))))) (n + 14) (po 1 10 (dF 1))) (n + 14) (n + 15)) (n + 9) (pa_r G 8 16 (va_up (va_up (va_up (va_up (va_up (fun _ => none) (Int32.toNatClampNeg 0) (some (b + (n + 10)))) (Int32.toNatClampNeg 1) (some (b + (n + 11)))) (Int32.toNatClampNeg 2) (some (b + (n + 12)))) (Int32.toNatClampNeg 3) (some (b + (n + 13)))) (Int32.toNatClampNeg 4) (some (b + (n + 14)))))) (n + 15) (po 1 10 (dF 1))) (n + 15) (n + 16)) (n + 9) (pa_r G 8 16 (va_up (va_up (va_up (va_up (va_up (va_up (fun _ => none) (Int32.toNatClampNeg 0) (some (b + (n + 10)))) (Int32.toNatClampNeg 1) (some (b + (n + 11)))) (Int32.toNatClampNeg 2) (some (b + (n + 12)))) (Int32.toNatClampNeg 3) (some (b + (n + 13)))) (Int32.toNatClampNeg 4) (some (b + (n + 14)))) (Int32.toNatClampNeg 5) (some (b + (n + 15)))))) (n + 16) (po 1 10 (dF 1))) (n + 16) (n + 17)) (n + 9) (pa_r G 8 16 (va_up (va_up (va_up (va_up (va_up (va_up (va_up (fun _ => none) (Int32.toNatClampNeg 0) (some (b + (n + 10)))) (Int32.toNatClampNeg 1) (some (b + (n + 11)))) (Int32.toNatClampNeg 2) (some (b + (n + 12)))) (Int32.toNatClampNeg 3) (some (b + (n + 13)))) (Int32.toNatClampNeg 4) (some (b + (n + 14)))) (Int32.toNatClampNeg 5) (some (b + (n + 15)))) (Int32.toNatClampNeg 6) (some (b + (n + 16)))))) (n + 17) (po 1 10 (dF 1))) (n + 17) (n + 18)) (n + 9) (pa_r G 8 16 (va_up (va_up (va_up (va_up (va_up (va_up (va_up (va_up (fun _ => none) (Int32.toNatClampNeg 0) (some (b + (n + 10)))) (Int32.toNatClampNeg 1) (some (b + (n + 11)))) (Int32.toNatClampNeg 2) (some (b + (n + 12)))) (Int32.toNatClampNeg 3) (some (b + (n + 13)))) (Int32.toNatClampNeg 4) (some (b + (n + 14)))) (Int32.toNatClampNeg 5) (some (b + (n + 15)))) (Int32.toNatClampNeg 6) (some (b + (n + 16)))) (Int32.toNatClampNeg 7) (some (b + (n + 17)))))) (n + 18) (po 1 10 (dF 1))) (n + 18) (n + 19)) (n + 9) (pa_r G 8 16 (va_up (va_up (va_up (va_up (va_up (va_up (va_up (va_up (va_up (fun _ => none) (Int32.toNatClampNeg 0) (some (b + (n + 10)))) (Int32.toNatClampNeg 1) (some (b + (n + 11)))) (Int32.toNatClampNeg 2) (some (b + (n + 12)))) (Int32.toNatClampNeg 3) (some (b + (n + 13)))) (Int32.toNatClampNeg 4) (some (b + (n + 14)))) (Int32.toNatClampNeg 5) (some (b + (n + 15)))) (Int32.toNatClampNeg 6) (some (b + (n + 16)))) (Int32.toNatClampNeg 7) (some (b + (n + 17)))) (Int32.toNatClampNeg 8) (some (b + (n + 18)))))) (n + 19) (po 1 10 (dF 1))) (n + 19) (n + 20)) (n + 9) (pa_r G 8 16 (va_up (va_up (va_up (va_up (va_up (va_up (va_up (va_up (va_up (va_up (fun _ => none) (Int32.toNatClampNeg 0) (some (b + (n + 10)))) (Int32.toNatClampNeg 1) (some (b + (n + 11)))) (Int32.toNatClampNeg 2) (some (b + (n + 12)))) (Int32.toNatClampNeg 3) (some (b + (n + 13)))) (Int32.toNatClampNeg 4) (some (b + (n + 14)))) (Int32.toNatClampNeg 5) (some (b + (n + 15)))) (Int32.toNatClampNeg 6) (some (b + (n + 16)))) (Int32.toNatClampNeg 7) (some (b + (n + 17)))) (Int32.toNatClampNeg 8) (some (b + (n + 18)))) (Int32.toNatClampNeg 9) (some (b + (n + 19)))))) (n + 20) (po 1 10 (dF 1))) (n + 20) (n + 21)) (n + 9) (pa_r G 8 16 (va_up (va_up (va_up (va_up (va_up (va_up (va_up (va_up (va_up (va_up (va_up (fun _ => none) (Int32.toNatClampNeg 0) (some (b + (n + 10)))) (Int32.toNatClampNeg 1) (some (b + (n + 11)))) (Int32.toNatClampNeg 2) (some (b + (n + 12)))) (Int32.toNatClampNeg 3) (some (b + (n + 13)))) (Int32.toNatClampNeg 4) (some (b + (n + 14)))) (Int32.toNatClampNeg 5) (some (b + (n + 15)))) (Int32.toNatClampNeg 6) (some (b + (n + 16)))) (Int32.toNatClampNeg 7) (some (b + (n + 17)))) (Int32.toNatClampNeg 8) (some (b + (n + 18)))) (Int32.toNatClampNeg 9) (some (b + (n + 19)))) (Int32.toNatClampNeg 10) (some (b + (n + 20)))))) (n + 21) (po 1 10 (dF 1))) (n + 21) (n + 22)) (n + 9) (pa_r G 8 16 (va_up (va_up (va_up (va_up (va_up (va_up (va_up (va_up (va_up (va_up (va_up (va_up (fun _ => none) (Int32.toNatClampNeg 0) (some (b + (n + 10)))) (Int32.toNatClampNeg 1) (some (b + (n + 11)))) (Int32.toNatClampNeg 2) (some (b + (n + 12)))) (Int32.toNatClampNeg 3) (some (b + (n + 13)))) (Int32.toNatClampNeg 4) (some (b + (n + 14)))) (Int32.toNatClampNeg 5) (some (b + (n + 15)))) (Int32.toNatClampNeg 6) (some (b + (n + 16)))) (Int32.toNatClampNeg 7) (some (b + (n + 17)))) (Int32.toNatClampNeg 8) (some (b + (n + 18)))) (Int32.toNatClampNeg 9) (some (b + (n + 19)))) (Int32.toNatClampNeg 10) (some (b + (n + 20)))) (Int32.toNatClampNeg 11) (some (b + (n + 21)))))) (n + 22) (po 1 10 (dF 1))) (n + 22) (n + 23)) (n + 9) (pa_r G 8 16 (va_up (va_up (va_up (va_up (va_up (va_up (va_up (va_up (va_up (va_up (va_up (va_up (va_up (fun _ => none) (Int32.toNatClampNeg 0) (some (b + (n + 10)))) (Int32.toNatClampNeg 1) (some (b + (n + 11)))) (Int32.toNatClampNeg 2) (some (b + (n + 12)))) (Int32.toNatClampNeg 3) (some (b + (n + 13)))) (Int32.toNatClampNeg 4) (some (b + (n + 14)))) (Int32.toNatClampNeg 5) (some (b + (n + 15)))) (Int32.toNatClampNeg 6) (some (b + (n + 16)))) (Int32.toNatClampNeg 7) (some (b + (n + 17)))) (Int32.toNatClampNeg 8) (some (b + (n + 18)))) (Int32.toNatClampNeg 9) (some (b + (n + 19)))) (Int32.toNatClampNeg 10) (some (b + (n + 20)))) (Int32.toNatClampNeg 11) (some (b + (n + 21)))) (Int32.toNatClampNeg 12) (some (b + (n + 22)))))) (n + 23) (po 1 10 (dF 1))) (n + 23) (n + 24)) (n + 9) (pa_r G 8 16 (va_up (va_up (va_up (va_up (va_up (va_up (va_up (va_up (va_up (va_up (va_up (va_up (va_up (va_up (fun _ => none) (Int32.toNatClampNeg 0) (some (b + (n + 10)))) (Int32.toNatClampNeg 1) (some (b + (n + 11)))) (Int32.toNatClampNeg 2) (some (b + (n + 12)))) (Int32.toNatClampNeg 3) (some (b + (n + 13)))) (Int32.toNatClampNeg 4) (some (b + (n + 14)))) (Int32.toNatClampNeg 5) (some (b + (n + 15)))) (Int32.toNatClampNeg 6) (some (b + (n + 16)))) (Int32.toNatClampNeg 7) (some (b + (n + 17)))) (Int32.toNatClampNeg 8) (some (b + (n + 18)))) (Int32.toNatClampNeg 9) (some (b + (n + 19)))) (Int32.toNatClampNeg 10) (some (b + (n + 20)))) (Int32.toNatClampNeg 11) (some (b + (n + 21)))) (Int32.toNatClampNeg 12) (some (b + (n + 22)))) (Int32.toNatClampNeg 13) (some (b + (n + 23)))))) (n + 24) (po 1 10 (dF 1))) (n + 24) (n + 25)) (n + 9) (pa_r G 8 16 (va_up (va_up (va_up (va_up (va_up (va_up (va_up (va_up (va_up (va_up (va_up (va_up (va_up (va_up (va_up (fun _ => none) (Int32.toNatClampNeg 0) (some (b + (n + 10)))) (Int32.toNatClampNeg 1) (some (b + (n + 11)))) (Int32.toNatClampNeg 2) (some (b + (n + 12)))) (Int32.toNatClampNeg 3) (some (b + (n + 13)))) (Int32.toNatClampNeg 4) (some (b + (n + 14)))) (Int32.toNatClampNeg 5) (some (b + (n + 15)))) (Int32.toNatClampNeg 6) (some (b + (n + 16)))) (Int32.toNatClampNeg 7) (some (b + (n + 17)))) (Int32.toNatClampNeg 8) (some (b + (n + 18)))) (Int32.toNatClampNeg 9) (some (b + (n + 19)))) (Int32.toNatClampNeg 10) (some (b + (n + 20)))) (Int32.toNatClampNeg 11) (some (b + (n + 21)))) (Int32.toNatClampNeg 12) (some (b + (n + 22)))) (Int32.toNatClampNeg 13) (some (b + (n + 23)))) (Int32.toNatClampNeg 14) (some (b + (n + 24)))))) (n + 25) (po 1 10 (dF 1))) (n + 25) (n + 26)) (n + 9) (pa_r G 8 16 (va_up (va_up (va_up (va_up (va_up (va_up (va_up (va_up (va_up (va_up (va_up (va_up (va_up (va_up (va_up (va_up (fun _ => none) (Int32.toNatClampNeg 0) (some (b + (n + 10)))) (Int32.toNatClampNeg 1) (some (b + (n + 11)))) (Int32.toNatClampNeg 2) (some (b + (n + 12)))) (Int32.toNatClampNeg 3) (some (b + (n + 13)))) (Int32.toNatClampNeg 4) (some (b + (n + 14)))) (Int32.toNatClampNeg 5) (some (b + (n + 15)))) (Int32.toNatClampNeg 6) (some (b + (n + 16)))) (Int32.toNatClampNeg 7) (some (b + (n + 17)))) (Int32.toNatClampNeg 8) (some (b + (n + 18)))) (Int32.toNatClampNeg 9) (some (b + (n + 19)))) (Int32.toNatClampNeg 10) (some (b + (n + 20)))) (Int32.toNatClampNeg 11) (some (b + (n + 21)))) (Int32.toNatClampNeg 12) (some (b + (n + 22)))) (Int32.toNatClampNeg 13) (some (b + (n + 23)))) (Int32.toNatClampNeg 14) (some (b + (n + 24)))) (Int32.toNatClampNeg 15) (some (b + (n + 25)))))) (n + 26) (po 4 3 (dF 4))) (n + 26) (n + 27)) (c) (po 8 15 (va_up (va_up (va_up (va_up (va_up (va_up (va_up (va_up (dF 8) 0 (.ref (b + n))) 1 (.ref (b + (n + 4)))) 2 (.ref (b + (n + 5)))) 3 (.ref (b + (n + 6)))) 4 (.ref (b + (n + 7)))) 5 (.ref (b + (n + 8)))) 6 (.ref (b + (n + 9)))) 10 (.ref (b + (n + 26)))))) (n + 41) (po 2 5 (dF 2))) (n + 41) (n + 42)) (c) (po 8 15 (va_up (va_up (va_up (va_up (va_up (va_up (va_up (va_up (va_up (dF 8) 0 (.ref (b + n))) 1 (.ref (b + (n + 4)))) 2 (.ref (b + (n + 5)))) 3 (.ref (b + (n + 6)))) 4 (.ref (b + (n + 7)))) 5 (.ref (b + (n + 8)))) 6 (.ref (b + (n + 9)))) 10 (.ref (b + (n + 26)))) 11 (.ref (b + (n + 41)))))) (n + 45) (pa_i G 16 (fun _ => 0))) (c) (po 8 15 (va_up (va_up (va_up (va_up (va_up (va_up (va_up (va_up (va_up (va_up (dF 8) 0 (.ref (b + n))) 1 (.ref (b + (n + 4)))) 2 (.ref (b + (n + 5)))) 3 (.ref (b + (n + 6)))) 4 (.ref (b + (n + 7)))) 5 (.ref (b + (n + 8)))) 6 (.ref (b + (n + 9)))) 10 (.ref (b + (n + 26)))) 11 (.ref (b + (n + 41)))) 12 (.ref (b + (n + 45)))))) (n + 46) (pa_i G 7 (fun _ => 0))) (c) (po 8 15 (va_up (va_up (va_up (va_up (va_up (va_up (va_up (va_up (va_up (va_up (va_up (dF 8) 0 (.ref (b + n))) 1 (.ref (b + (n + 4)))) 2 (.ref (b + (n + 5)))) 3 (.ref (b + (n + 6)))) 4 (.ref (b + (n + 7)))) 5 (.ref (b + (n + 8)))) 6 (.ref (b + (n + 9)))) 10 (.ref (b + (n + 26)))) 11 (.ref (b + (n + 41)))) 12 (.ref (b + (n + 45)))) 13 (.ref (b + (n + 46)))))) (n + 47) (pa_i G 6 (fun _ => 0))) (c) (po 8 15 (va_up (va_up (va_up (va_up (va_up (va_up (va_up (va_up (va_up (va_up (va_up (va_up (dF 8) 0 (.ref (b + n))) 1 (.ref (b + (n + 4)))) 2 (.ref (b + (n + 5)))) 3 (.ref (b + (n + 6)))) 4 (.ref (b + (n + 7)))) 5 (.ref (b + (n + 8)))) 6 (.ref (b + (n + 9)))) 10 (.ref (b + (n + 26)))) 11 (.ref (b + (n + 41)))) 12 (.ref (b + (n + 45)))) 13 (.ref (b + (n + 46)))) 14 (.ref (b + (n + 47)))))) (c) (po 8 15 (va_up (va_up (va_up (va_up (va_up (va_up (va_up (va_up (va_up (va_up (va_up (va_up (va_up (dF 8) 0 (.ref (b + n))) 1 (.ref (b + (n + 4)))) 2 (.ref (b + (n + 5)))) 3 (.ref (b + (n + 6)))) 4 (.ref (b + (n + 7)))) 5 (.ref (b + (n + 8)))) 6 (.ref (b + (n + 9)))) 10 (.ref (b + (n + 26)))) 11 (.ref (b + (n + 41)))) 12 (.ref (b + (n + 45)))) 13 (.ref (b + (n + 46)))) 14 (.ref (b + (n + 47)))) 8 (.int 10)))) (c) (po 8 15 (va_up (va_up (va_up (va_up (va_up (va_up (va_up (va_up (va_up (va_up (va_up (va_up (va_up (va_up (dF 8) 0 (.ref (b + n))) 1 (.ref (b + (n + 4)))) 2 (.ref (b + (n + 5)))) 3 (.ref (b + (n + 6)))) 4 (.ref (b + (n + 7)))) 5 (.ref (b + (n + 8)))) 6 (.ref (b + (n + 9)))) 10 (.ref (b + (n + 26)))) 11 (.ref (b + (n + 41)))) 12 (.ref (b + (n + 45)))) 13 (.ref (b + (n + 46)))) 14 (.ref (b + (n + 47)))) 8 (.int 10)) 9 (.int 3))))
set_option maxRecDepth 100000 in
set_option maxHeartbeats 40000000 in
theorem c_X9_init {l : Launch} {G : px_D} {h0 : pe_H} {b : Nat} {t : Nat → Option va_E} {c n : Nat} (ht : t c = some (po 8 15 (dF 8))) (hc : c < n) : cn l G 2 yX9_init cX9_init 2 [.ref (b + c)] h0 b t n 48 1597 (g_X9_init G b t c n) (n + 48) := by
  refine pn_of (by decide) (Nat.le_of_ble_eq_true rfl) [some (.ref (b + c)), none] rfl (fun X hM hE => ?_)
  have hC := hM.1
  have hR := hM.2.2.1
  have hI := hM.2.2.2.2
  have f_c_n : c < n ∨ n + 3 < c := by omega
  have e_c_n_4 : c ≠ n + 4 := by omega
  have e_c_n_5 : c ≠ n + 5 := by omega
  have e_c_n_6 : c ≠ n + 6 := by omega
  have e_c_n_7 : c ≠ n + 7 := by omega
  have e_c_n_8 : c ≠ n + 8 := by omega
  have e_c_n_9 : c ≠ n + 9 := by omega
  have e_n_9_n_10 : n + 9 ≠ n + 10 := by omega
  have e_n_9_c : n + 9 ≠ c := by omega
  have e_c_n_10 : c ≠ n + 10 := by omega
  have e_n_9_n_11 : n + 9 ≠ n + 11 := by omega
  have e_c_n_11 : c ≠ n + 11 := by omega
  have e_n_9_n_12 : n + 9 ≠ n + 12 := by omega
  have e_c_n_12 : c ≠ n + 12 := by omega
  have e_n_9_n_13 : n + 9 ≠ n + 13 := by omega
  have e_c_n_13 : c ≠ n + 13 := by omega
  have e_n_9_n_14 : n + 9 ≠ n + 14 := by omega
  have e_c_n_14 : c ≠ n + 14 := by omega
  have e_n_9_n_15 : n + 9 ≠ n + 15 := by omega
  have e_c_n_15 : c ≠ n + 15 := by omega
  have e_n_9_n_16 : n + 9 ≠ n + 16 := by omega
  have e_c_n_16 : c ≠ n + 16 := by omega
  have e_n_9_n_17 : n + 9 ≠ n + 17 := by omega
  have e_c_n_17 : c ≠ n + 17 := by omega
  have e_n_9_n_18 : n + 9 ≠ n + 18 := by omega
  have e_c_n_18 : c ≠ n + 18 := by omega
  have e_n_9_n_19 : n + 9 ≠ n + 19 := by omega
  have e_c_n_19 : c ≠ n + 19 := by omega
  have e_n_9_n_20 : n + 9 ≠ n + 20 := by omega
  have e_c_n_20 : c ≠ n + 20 := by omega
  have e_n_9_n_21 : n + 9 ≠ n + 21 := by omega
  have e_c_n_21 : c ≠ n + 21 := by omega
  have e_n_9_n_22 : n + 9 ≠ n + 22 := by omega
  have e_c_n_22 : c ≠ n + 22 := by omega
  have e_n_9_n_23 : n + 9 ≠ n + 23 := by omega
  have e_c_n_23 : c ≠ n + 23 := by omega
  have e_n_9_n_24 : n + 9 ≠ n + 24 := by omega
  have e_c_n_24 : c ≠ n + 24 := by omega
  have e_n_9_n_25 : n + 9 ≠ n + 25 := by omega
  have e_c_n_26 : c ≠ n + 26 := by omega
  have l_c_n_27 : c < n + 27 := by omega
  have e_c_n_25 : c ≠ n + 25 := by omega
  have e_c_n_41 : c ≠ n + 41 := by omega
  have l_c_n_42 : c < n + 42 := by omega
  have e_c_n_45 : c ≠ n + 45 := by omega
  have e_c_n_46 : c ≠ n + 46 := by omega
  have e_c_n_47 : c ≠ n + 47 := by omega
  refine pr_aload_n hC (by decide +kernel : decode cX9_init 0 = .ok (.aload_n 0, 1)) rfl ?_
  refine pr_objInit hC hR fo_X9_3 (by decide +kernel : decode cX9_init 1 = .ok (.invokespecial 3, 3)) (Nat.le_of_ble_eq_true rfl) (Nat.le_of_ble_eq_true rfl) ?_
  refine pr_aload_n hC (by decide +kernel : decode cX9_init 4 = .ok (.aload_n 0, 1)) rfl ?_
  refine pr_iconst hC (3) (by decide +kernel : decode cX9_init 5 = .ok (.iconst 3, 1)) rfl ?_
  refine pr_bipush hC (10) (by decide +kernel : decode cX9_init 6 = .ok (.bipush 10, 2)) rfl ?_
  refine pg_multi hC hE hR 3 10 (n + 4) 4 33 rfl rfl rfl fm_X9_9 (by decide +kernel : decode cX9_init 8 = .ok (.multianewarray 9 2, 4)) (by decide) rfl (by decide) rfl (by decide) (by decide) (Nat.le_of_ble_eq_true rfl) (Nat.le_of_ble_eq_true rfl) ?_
  refine pg_putF hC fp_X9_11 (by decide +kernel : decode cX9_init 12 = .ok (.putfield 11, 3)) hI ((tmu_ne f_c_n).trans (ht)) rfl rfl ?_
  refine pr_aload_n hC (by decide +kernel : decode cX9_init 15 = .ok (.aload_n 0, 1)) rfl ?_
  refine pr_iconst hC (3) (by decide +kernel : decode cX9_init 16 = .ok (.iconst 3, 1)) rfl ?_
  refine pg_newi hC hR 3 (n + 5) 5 36 rfl rfl rfl fy_int (by decide +kernel : decode cX9_init 17 = .ok (.newarray .int, 2)) (by decide) rfl (Nat.le_of_ble_eq_true rfl) (Nat.le_of_ble_eq_true rfl) (Nat.le_of_ble_eq_true rfl) ?_
  refine pg_putF hC fp_X9_16 (by decide +kernel : decode cX9_init 19 = .ok (.putfield 16, 3)) hI ((tu_ne e_c_n_4).trans (tu_eq)) rfl rfl ?_
  refine pr_aload_n hC (by decide +kernel : decode cX9_init 22 = .ok (.aload_n 0, 1)) rfl ?_
  refine pr_bipush hC (10) (by decide +kernel : decode cX9_init 23 = .ok (.bipush 10, 2)) rfl ?_
  refine pg_newi hC hR 10 (n + 6) 6 46 rfl rfl rfl fy_int (by decide +kernel : decode cX9_init 25 = .ok (.newarray .int, 2)) (by decide) rfl (Nat.le_of_ble_eq_true rfl) (Nat.le_of_ble_eq_true rfl) (Nat.le_of_ble_eq_true rfl) ?_
  refine pg_putF hC fp_X9_20 (by decide +kernel : decode cX9_init 27 = .ok (.putfield 20, 3)) hI ((tu_ne e_c_n_5).trans (tu_eq)) rfl rfl ?_
  refine pr_aload_n hC (by decide +kernel : decode cX9_init 30 = .ok (.aload_n 0, 1)) rfl ?_
  refine pr_bipush hC (10) (by decide +kernel : decode cX9_init 31 = .ok (.bipush 10, 2)) rfl ?_
  refine pg_newi hC hR 10 (n + 7) 7 56 rfl rfl rfl fy_int (by decide +kernel : decode cX9_init 33 = .ok (.newarray .int, 2)) (by decide) rfl (Nat.le_of_ble_eq_true rfl) (Nat.le_of_ble_eq_true rfl) (Nat.le_of_ble_eq_true rfl) ?_
  refine pg_putF hC fp_X9_23 (by decide +kernel : decode cX9_init 35 = .ok (.putfield 23, 3)) hI ((tu_ne e_c_n_6).trans (tu_eq)) rfl rfl ?_
  refine pr_aload_n hC (by decide +kernel : decode cX9_init 38 = .ok (.aload_n 0, 1)) rfl ?_
  refine pr_bipush hC (10) (by decide +kernel : decode cX9_init 39 = .ok (.bipush 10, 2)) rfl ?_
  refine pg_newi hC hR 10 (n + 8) 8 66 rfl rfl rfl fy_int (by decide +kernel : decode cX9_init 41 = .ok (.newarray .int, 2)) (by decide) rfl (Nat.le_of_ble_eq_true rfl) (Nat.le_of_ble_eq_true rfl) (Nat.le_of_ble_eq_true rfl) ?_
  refine pg_putF hC fp_X9_26 (by decide +kernel : decode cX9_init 43 = .ok (.putfield 26, 3)) hI ((tu_ne e_c_n_7).trans (tu_eq)) rfl rfl ?_
  refine pr_aload_n hC (by decide +kernel : decode cX9_init 46 = .ok (.aload_n 0, 1)) rfl ?_
  refine pr_bipush hC (10) (by decide +kernel : decode cX9_init 47 = .ok (.bipush 10, 2)) rfl ?_
  refine pg_newi hC hR 10 (n + 9) 9 76 rfl rfl rfl fy_int (by decide +kernel : decode cX9_init 49 = .ok (.newarray .int, 2)) (by decide) rfl (Nat.le_of_ble_eq_true rfl) (Nat.le_of_ble_eq_true rfl) (Nat.le_of_ble_eq_true rfl) ?_
  refine pg_putF hC fp_X9_29 (by decide +kernel : decode cX9_init 51 = .ok (.putfield 29, 3)) hI ((tu_ne e_c_n_8).trans (tu_eq)) rfl rfl ?_
  refine pr_aload_n hC (by decide +kernel : decode cX9_init 54 = .ok (.aload_n 0, 1)) rfl ?_
  refine pr_bipush hC (16) (by decide +kernel : decode cX9_init 55 = .ok (.bipush 16, 2)) rfl ?_
  refine pg_anew hC hR 8 16 (n + 10) 10 92 rfl rfl rfl fa_X9_32 hE.2.1 rfl (by decide +kernel : decode cX9_init 57 = .ok (.anewarray 32, 3)) (by decide) rfl (Nat.le_of_ble_eq_true rfl) (Nat.le_of_ble_eq_true rfl) (Nat.le_of_ble_eq_true rfl) ?_
  refine pg_putF hC fp_X9_34 (by decide +kernel : decode cX9_init 60 = .ok (.putfield 34, 3)) hI ((tu_ne e_c_n_9).trans (tu_eq)) rfl rfl ?_
  refine pr_iconst hC (0) (by decide +kernel : decode cX9_init 63 = .ok (.iconst 0, 1)) rfl ?_
  refine pr_istore_n hC (by decide +kernel : decode cX9_init 64 = .ok (.istore_n 1, 1)) (by decide) rfl ?_
  refine pr_iload_n hC (by decide +kernel : decode cX9_init 65 = .ok (.iload_n 1, 1)) rfl ?_
  refine pr_bipush hC (16) (by decide +kernel : decode cX9_init 66 = .ok (.bipush 16, 2)) rfl ?_
  refine pr_icmp_ge hC 90 (by decide +kernel : decode cX9_init 68 = .ok (.if_icmp .ge 22, 3)) (by decide) (fun q => absurd q (by decide)) (fun _ => ?_)
  refine pr_aload_n hC (by decide +kernel : decode cX9_init 71 = .ok (.aload_n 0, 1)) rfl ?_
  refine pg_get hC (v := .ref (b + (n + 9))) fg_X9_34 (by decide +kernel : decode cX9_init 72 = .ok (.getfield 34, 3)) tu_eq rfl ?_
  refine pr_iload_n hC (by decide +kernel : decode cX9_init 75 = .ok (.iload_n 1, 1)) rfl ?_
  refine pg_new hC hR (n + 11) 11 102 rfl rfl rfl fn_X9_32 (by decide +kernel : decode cX9_init 76 = .ok (.new 32, 3)) (Nat.le_of_ble_eq_true rfl) (Nat.le_of_ble_eq_true rfl) ?_
  refine pr_dup hC (by decide +kernel : decode cX9_init 79 = .ok (.dup, 1)) rfl ?_
  refine pg_callN hC hE hR (n' := n + 11) 11 102 rfl rfl fq_X2 (by decide +kernel : decode cX9_init 80 = .ok (.invokespecial 38, 3)) (c_X2_init tu_eq (by omega)) rfl (Nat.le_of_ble_eq_true rfl) (Nat.le_of_ble_eq_true rfl) (Nat.le_of_ble_eq_true rfl) (Nat.le_of_ble_eq_true rfl) ?_
  refine pg_aast hC (by decide +kernel : decode cX9_init 83 = .ok (.aastore, 1)) ((gf_X2_init).trans ((tu_ne e_n_9_n_10).trans ((tu_ne e_n_9_c).trans (tu_eq)))) ((gf_X2_init).trans (tu_eq)) rfl rfl (vd_in rfl) ?_
  refine pg_iinc hC (1) (by decide +kernel : decode cX9_init 84 = .ok (.iinc 1 1, 3)) rfl (by decide) rfl rfl ?_
  refine pr_goto hC 65 (by decide +kernel : decode cX9_init 87 = .ok (.goto (-22), 3)) (by decide) ?_
  refine pr_iload_n hC (by decide +kernel : decode cX9_init 65 = .ok (.iload_n 1, 1)) rfl ?_
  refine pr_bipush hC (16) (by decide +kernel : decode cX9_init 66 = .ok (.bipush 16, 2)) rfl ?_
  refine pr_icmp_ge hC 90 (by decide +kernel : decode cX9_init 68 = .ok (.if_icmp .ge 22, 3)) (by decide) (fun q => absurd q (by decide)) (fun _ => ?_)
  refine pr_aload_n hC (by decide +kernel : decode cX9_init 71 = .ok (.aload_n 0, 1)) rfl ?_
  refine pg_get hC (v := .ref (b + (n + 9))) fg_X9_34 (by decide +kernel : decode cX9_init 72 = .ok (.getfield 34, 3)) ((tu_ne e_c_n_9).trans ((gf_X2_init).trans ((tu_ne e_c_n_10).trans (tu_eq)))) rfl ?_
  refine pr_iload_n hC (by decide +kernel : decode cX9_init 75 = .ok (.iload_n 1, 1)) rfl ?_
  refine pg_new hC hR (n + 12) 12 112 rfl rfl rfl fn_X9_32 (by decide +kernel : decode cX9_init 76 = .ok (.new 32, 3)) (Nat.le_of_ble_eq_true rfl) (Nat.le_of_ble_eq_true rfl) ?_
  refine pr_dup hC (by decide +kernel : decode cX9_init 79 = .ok (.dup, 1)) rfl ?_
  refine pg_callN hC hE hR (n' := n + 12) 12 112 rfl rfl fq_X2 (by decide +kernel : decode cX9_init 80 = .ok (.invokespecial 38, 3)) (c_X2_init tu_eq (by omega)) rfl (Nat.le_of_ble_eq_true rfl) (Nat.le_of_ble_eq_true rfl) (Nat.le_of_ble_eq_true rfl) (Nat.le_of_ble_eq_true rfl) ?_
  refine pg_aast hC (by decide +kernel : decode cX9_init 83 = .ok (.aastore, 1)) ((gf_X2_init).trans ((tu_ne e_n_9_n_11).trans (tu_eq))) ((gf_X2_init).trans (tu_eq)) rfl rfl (vd_in rfl) ?_
  refine pg_iinc hC (2) (by decide +kernel : decode cX9_init 84 = .ok (.iinc 1 1, 3)) rfl (by decide) rfl rfl ?_
  refine pr_goto hC 65 (by decide +kernel : decode cX9_init 87 = .ok (.goto (-22), 3)) (by decide) ?_
  refine pr_iload_n hC (by decide +kernel : decode cX9_init 65 = .ok (.iload_n 1, 1)) rfl ?_
  refine pr_bipush hC (16) (by decide +kernel : decode cX9_init 66 = .ok (.bipush 16, 2)) rfl ?_
  refine pr_icmp_ge hC 90 (by decide +kernel : decode cX9_init 68 = .ok (.if_icmp .ge 22, 3)) (by decide) (fun q => absurd q (by decide)) (fun _ => ?_)
  refine pr_aload_n hC (by decide +kernel : decode cX9_init 71 = .ok (.aload_n 0, 1)) rfl ?_
  refine pg_get hC (v := .ref (b + (n + 9))) fg_X9_34 (by decide +kernel : decode cX9_init 72 = .ok (.getfield 34, 3)) ((tu_ne e_c_n_9).trans ((gf_X2_init).trans ((tu_ne e_c_n_11).trans ((tu_ne e_c_n_9).trans ((gf_X2_init).trans ((tu_ne e_c_n_10).trans (tu_eq))))))) rfl ?_
  refine pr_iload_n hC (by decide +kernel : decode cX9_init 75 = .ok (.iload_n 1, 1)) rfl ?_
  refine pg_new hC hR (n + 13) 13 122 rfl rfl rfl fn_X9_32 (by decide +kernel : decode cX9_init 76 = .ok (.new 32, 3)) (Nat.le_of_ble_eq_true rfl) (Nat.le_of_ble_eq_true rfl) ?_
  refine pr_dup hC (by decide +kernel : decode cX9_init 79 = .ok (.dup, 1)) rfl ?_
  refine pg_callN hC hE hR (n' := n + 13) 13 122 rfl rfl fq_X2 (by decide +kernel : decode cX9_init 80 = .ok (.invokespecial 38, 3)) (c_X2_init tu_eq (by omega)) rfl (Nat.le_of_ble_eq_true rfl) (Nat.le_of_ble_eq_true rfl) (Nat.le_of_ble_eq_true rfl) (Nat.le_of_ble_eq_true rfl) ?_
  refine pg_aast hC (by decide +kernel : decode cX9_init 83 = .ok (.aastore, 1)) ((gf_X2_init).trans ((tu_ne e_n_9_n_12).trans (tu_eq))) ((gf_X2_init).trans (tu_eq)) rfl rfl (vd_in rfl) ?_
  refine pg_iinc hC (3) (by decide +kernel : decode cX9_init 84 = .ok (.iinc 1 1, 3)) rfl (by decide) rfl rfl ?_
  refine pr_goto hC 65 (by decide +kernel : decode cX9_init 87 = .ok (.goto (-22), 3)) (by decide) ?_
  refine pr_iload_n hC (by decide +kernel : decode cX9_init 65 = .ok (.iload_n 1, 1)) rfl ?_
  refine pr_bipush hC (16) (by decide +kernel : decode cX9_init 66 = .ok (.bipush 16, 2)) rfl ?_
  refine pr_icmp_ge hC 90 (by decide +kernel : decode cX9_init 68 = .ok (.if_icmp .ge 22, 3)) (by decide) (fun q => absurd q (by decide)) (fun _ => ?_)
  refine pr_aload_n hC (by decide +kernel : decode cX9_init 71 = .ok (.aload_n 0, 1)) rfl ?_
  refine pg_get hC (v := .ref (b + (n + 9))) fg_X9_34 (by decide +kernel : decode cX9_init 72 = .ok (.getfield 34, 3)) ((tu_ne e_c_n_9).trans ((gf_X2_init).trans ((tu_ne e_c_n_12).trans ((tu_ne e_c_n_9).trans ((gf_X2_init).trans ((tu_ne e_c_n_11).trans ((tu_ne e_c_n_9).trans ((gf_X2_init).trans ((tu_ne e_c_n_10).trans (tu_eq)))))))))) rfl ?_
  refine pr_iload_n hC (by decide +kernel : decode cX9_init 75 = .ok (.iload_n 1, 1)) rfl ?_
  refine pg_new hC hR (n + 14) 14 132 rfl rfl rfl fn_X9_32 (by decide +kernel : decode cX9_init 76 = .ok (.new 32, 3)) (Nat.le_of_ble_eq_true rfl) (Nat.le_of_ble_eq_true rfl) ?_
  refine pr_dup hC (by decide +kernel : decode cX9_init 79 = .ok (.dup, 1)) rfl ?_
  refine pg_callN hC hE hR (n' := n + 14) 14 132 rfl rfl fq_X2 (by decide +kernel : decode cX9_init 80 = .ok (.invokespecial 38, 3)) (c_X2_init tu_eq (by omega)) rfl (Nat.le_of_ble_eq_true rfl) (Nat.le_of_ble_eq_true rfl) (Nat.le_of_ble_eq_true rfl) (Nat.le_of_ble_eq_true rfl) ?_
  refine pg_aast hC (by decide +kernel : decode cX9_init 83 = .ok (.aastore, 1)) ((gf_X2_init).trans ((tu_ne e_n_9_n_13).trans (tu_eq))) ((gf_X2_init).trans (tu_eq)) rfl rfl (vd_in rfl) ?_
  refine pg_iinc hC (4) (by decide +kernel : decode cX9_init 84 = .ok (.iinc 1 1, 3)) rfl (by decide) rfl rfl ?_
  refine pr_goto hC 65 (by decide +kernel : decode cX9_init 87 = .ok (.goto (-22), 3)) (by decide) ?_
  refine pr_iload_n hC (by decide +kernel : decode cX9_init 65 = .ok (.iload_n 1, 1)) rfl ?_
  refine pr_bipush hC (16) (by decide +kernel : decode cX9_init 66 = .ok (.bipush 16, 2)) rfl ?_
  refine pr_icmp_ge hC 90 (by decide +kernel : decode cX9_init 68 = .ok (.if_icmp .ge 22, 3)) (by decide) (fun q => absurd q (by decide)) (fun _ => ?_)
  refine pr_aload_n hC (by decide +kernel : decode cX9_init 71 = .ok (.aload_n 0, 1)) rfl ?_
  refine pg_get hC (v := .ref (b + (n + 9))) fg_X9_34 (by decide +kernel : decode cX9_init 72 = .ok (.getfield 34, 3)) ((tu_ne e_c_n_9).trans ((gf_X2_init).trans ((tu_ne e_c_n_13).trans ((tu_ne e_c_n_9).trans ((gf_X2_init).trans ((tu_ne e_c_n_12).trans ((tu_ne e_c_n_9).trans ((gf_X2_init).trans ((tu_ne e_c_n_11).trans ((tu_ne e_c_n_9).trans ((gf_X2_init).trans ((tu_ne e_c_n_10).trans (tu_eq))))))))))))) rfl ?_
  refine pr_iload_n hC (by decide +kernel : decode cX9_init 75 = .ok (.iload_n 1, 1)) rfl ?_
  refine pg_new hC hR (n + 15) 15 142 rfl rfl rfl fn_X9_32 (by decide +kernel : decode cX9_init 76 = .ok (.new 32, 3)) (Nat.le_of_ble_eq_true rfl) (Nat.le_of_ble_eq_true rfl) ?_
  refine pr_dup hC (by decide +kernel : decode cX9_init 79 = .ok (.dup, 1)) rfl ?_
  refine pg_callN hC hE hR (n' := n + 15) 15 142 rfl rfl fq_X2 (by decide +kernel : decode cX9_init 80 = .ok (.invokespecial 38, 3)) (c_X2_init tu_eq (by omega)) rfl (Nat.le_of_ble_eq_true rfl) (Nat.le_of_ble_eq_true rfl) (Nat.le_of_ble_eq_true rfl) (Nat.le_of_ble_eq_true rfl) ?_
  refine pg_aast hC (by decide +kernel : decode cX9_init 83 = .ok (.aastore, 1)) ((gf_X2_init).trans ((tu_ne e_n_9_n_14).trans (tu_eq))) ((gf_X2_init).trans (tu_eq)) rfl rfl (vd_in rfl) ?_
  refine pg_iinc hC (5) (by decide +kernel : decode cX9_init 84 = .ok (.iinc 1 1, 3)) rfl (by decide) rfl rfl ?_
  refine pr_goto hC 65 (by decide +kernel : decode cX9_init 87 = .ok (.goto (-22), 3)) (by decide) ?_
  refine pr_iload_n hC (by decide +kernel : decode cX9_init 65 = .ok (.iload_n 1, 1)) rfl ?_
  refine pr_bipush hC (16) (by decide +kernel : decode cX9_init 66 = .ok (.bipush 16, 2)) rfl ?_
  refine pr_icmp_ge hC 90 (by decide +kernel : decode cX9_init 68 = .ok (.if_icmp .ge 22, 3)) (by decide) (fun q => absurd q (by decide)) (fun _ => ?_)
  refine pr_aload_n hC (by decide +kernel : decode cX9_init 71 = .ok (.aload_n 0, 1)) rfl ?_
  refine pg_get hC (v := .ref (b + (n + 9))) fg_X9_34 (by decide +kernel : decode cX9_init 72 = .ok (.getfield 34, 3)) ((tu_ne e_c_n_9).trans ((gf_X2_init).trans ((tu_ne e_c_n_14).trans ((tu_ne e_c_n_9).trans ((gf_X2_init).trans ((tu_ne e_c_n_13).trans ((tu_ne e_c_n_9).trans ((gf_X2_init).trans ((tu_ne e_c_n_12).trans ((tu_ne e_c_n_9).trans ((gf_X2_init).trans ((tu_ne e_c_n_11).trans ((tu_ne e_c_n_9).trans ((gf_X2_init).trans ((tu_ne e_c_n_10).trans (tu_eq)))))))))))))))) rfl ?_
  refine pr_iload_n hC (by decide +kernel : decode cX9_init 75 = .ok (.iload_n 1, 1)) rfl ?_
  refine pg_new hC hR (n + 16) 16 152 rfl rfl rfl fn_X9_32 (by decide +kernel : decode cX9_init 76 = .ok (.new 32, 3)) (Nat.le_of_ble_eq_true rfl) (Nat.le_of_ble_eq_true rfl) ?_
  refine pr_dup hC (by decide +kernel : decode cX9_init 79 = .ok (.dup, 1)) rfl ?_
  refine pg_callN hC hE hR (n' := n + 16) 16 152 rfl rfl fq_X2 (by decide +kernel : decode cX9_init 80 = .ok (.invokespecial 38, 3)) (c_X2_init tu_eq (by omega)) rfl (Nat.le_of_ble_eq_true rfl) (Nat.le_of_ble_eq_true rfl) (Nat.le_of_ble_eq_true rfl) (Nat.le_of_ble_eq_true rfl) ?_
  refine pg_aast hC (by decide +kernel : decode cX9_init 83 = .ok (.aastore, 1)) ((gf_X2_init).trans ((tu_ne e_n_9_n_15).trans (tu_eq))) ((gf_X2_init).trans (tu_eq)) rfl rfl (vd_in rfl) ?_
  refine pg_iinc hC (6) (by decide +kernel : decode cX9_init 84 = .ok (.iinc 1 1, 3)) rfl (by decide) rfl rfl ?_
  refine pr_goto hC 65 (by decide +kernel : decode cX9_init 87 = .ok (.goto (-22), 3)) (by decide) ?_
  refine pr_iload_n hC (by decide +kernel : decode cX9_init 65 = .ok (.iload_n 1, 1)) rfl ?_
  refine pr_bipush hC (16) (by decide +kernel : decode cX9_init 66 = .ok (.bipush 16, 2)) rfl ?_
  refine pr_icmp_ge hC 90 (by decide +kernel : decode cX9_init 68 = .ok (.if_icmp .ge 22, 3)) (by decide) (fun q => absurd q (by decide)) (fun _ => ?_)
  refine pr_aload_n hC (by decide +kernel : decode cX9_init 71 = .ok (.aload_n 0, 1)) rfl ?_
  refine pg_get hC (v := .ref (b + (n + 9))) fg_X9_34 (by decide +kernel : decode cX9_init 72 = .ok (.getfield 34, 3)) ((tu_ne e_c_n_9).trans ((gf_X2_init).trans ((tu_ne e_c_n_15).trans ((tu_ne e_c_n_9).trans ((gf_X2_init).trans ((tu_ne e_c_n_14).trans ((tu_ne e_c_n_9).trans ((gf_X2_init).trans ((tu_ne e_c_n_13).trans ((tu_ne e_c_n_9).trans ((gf_X2_init).trans ((tu_ne e_c_n_12).trans ((tu_ne e_c_n_9).trans ((gf_X2_init).trans ((tu_ne e_c_n_11).trans ((tu_ne e_c_n_9).trans ((gf_X2_init).trans ((tu_ne e_c_n_10).trans (tu_eq))))))))))))))))))) rfl ?_
  refine pr_iload_n hC (by decide +kernel : decode cX9_init 75 = .ok (.iload_n 1, 1)) rfl ?_
  refine pg_new hC hR (n + 17) 17 162 rfl rfl rfl fn_X9_32 (by decide +kernel : decode cX9_init 76 = .ok (.new 32, 3)) (Nat.le_of_ble_eq_true rfl) (Nat.le_of_ble_eq_true rfl) ?_
  refine pr_dup hC (by decide +kernel : decode cX9_init 79 = .ok (.dup, 1)) rfl ?_
  refine pg_callN hC hE hR (n' := n + 17) 17 162 rfl rfl fq_X2 (by decide +kernel : decode cX9_init 80 = .ok (.invokespecial 38, 3)) (c_X2_init tu_eq (by omega)) rfl (Nat.le_of_ble_eq_true rfl) (Nat.le_of_ble_eq_true rfl) (Nat.le_of_ble_eq_true rfl) (Nat.le_of_ble_eq_true rfl) ?_
  refine pg_aast hC (by decide +kernel : decode cX9_init 83 = .ok (.aastore, 1)) ((gf_X2_init).trans ((tu_ne e_n_9_n_16).trans (tu_eq))) ((gf_X2_init).trans (tu_eq)) rfl rfl (vd_in rfl) ?_
  refine pg_iinc hC (7) (by decide +kernel : decode cX9_init 84 = .ok (.iinc 1 1, 3)) rfl (by decide) rfl rfl ?_
  refine pr_goto hC 65 (by decide +kernel : decode cX9_init 87 = .ok (.goto (-22), 3)) (by decide) ?_
  refine pr_iload_n hC (by decide +kernel : decode cX9_init 65 = .ok (.iload_n 1, 1)) rfl ?_
  refine pr_bipush hC (16) (by decide +kernel : decode cX9_init 66 = .ok (.bipush 16, 2)) rfl ?_
  refine pr_icmp_ge hC 90 (by decide +kernel : decode cX9_init 68 = .ok (.if_icmp .ge 22, 3)) (by decide) (fun q => absurd q (by decide)) (fun _ => ?_)
  refine pr_aload_n hC (by decide +kernel : decode cX9_init 71 = .ok (.aload_n 0, 1)) rfl ?_
  refine pg_get hC (v := .ref (b + (n + 9))) fg_X9_34 (by decide +kernel : decode cX9_init 72 = .ok (.getfield 34, 3)) ((tu_ne e_c_n_9).trans ((gf_X2_init).trans ((tu_ne e_c_n_16).trans ((tu_ne e_c_n_9).trans ((gf_X2_init).trans ((tu_ne e_c_n_15).trans ((tu_ne e_c_n_9).trans ((gf_X2_init).trans ((tu_ne e_c_n_14).trans ((tu_ne e_c_n_9).trans ((gf_X2_init).trans ((tu_ne e_c_n_13).trans ((tu_ne e_c_n_9).trans ((gf_X2_init).trans ((tu_ne e_c_n_12).trans ((tu_ne e_c_n_9).trans ((gf_X2_init).trans ((tu_ne e_c_n_11).trans ((tu_ne e_c_n_9).trans ((gf_X2_init).trans ((tu_ne e_c_n_10).trans (tu_eq)))))))))))))))))))))) rfl ?_
  refine pr_iload_n hC (by decide +kernel : decode cX9_init 75 = .ok (.iload_n 1, 1)) rfl ?_
  refine pg_new hC hR (n + 18) 18 172 rfl rfl rfl fn_X9_32 (by decide +kernel : decode cX9_init 76 = .ok (.new 32, 3)) (Nat.le_of_ble_eq_true rfl) (Nat.le_of_ble_eq_true rfl) ?_
  refine pr_dup hC (by decide +kernel : decode cX9_init 79 = .ok (.dup, 1)) rfl ?_
  refine pg_callN hC hE hR (n' := n + 18) 18 172 rfl rfl fq_X2 (by decide +kernel : decode cX9_init 80 = .ok (.invokespecial 38, 3)) (c_X2_init tu_eq (by omega)) rfl (Nat.le_of_ble_eq_true rfl) (Nat.le_of_ble_eq_true rfl) (Nat.le_of_ble_eq_true rfl) (Nat.le_of_ble_eq_true rfl) ?_
  refine pg_aast hC (by decide +kernel : decode cX9_init 83 = .ok (.aastore, 1)) ((gf_X2_init).trans ((tu_ne e_n_9_n_17).trans (tu_eq))) ((gf_X2_init).trans (tu_eq)) rfl rfl (vd_in rfl) ?_
  refine pg_iinc hC (8) (by decide +kernel : decode cX9_init 84 = .ok (.iinc 1 1, 3)) rfl (by decide) rfl rfl ?_
  refine pr_goto hC 65 (by decide +kernel : decode cX9_init 87 = .ok (.goto (-22), 3)) (by decide) ?_
  refine pr_iload_n hC (by decide +kernel : decode cX9_init 65 = .ok (.iload_n 1, 1)) rfl ?_
  refine pr_bipush hC (16) (by decide +kernel : decode cX9_init 66 = .ok (.bipush 16, 2)) rfl ?_
  refine pr_icmp_ge hC 90 (by decide +kernel : decode cX9_init 68 = .ok (.if_icmp .ge 22, 3)) (by decide) (fun q => absurd q (by decide)) (fun _ => ?_)
  refine pr_aload_n hC (by decide +kernel : decode cX9_init 71 = .ok (.aload_n 0, 1)) rfl ?_
  refine pg_get hC (v := .ref (b + (n + 9))) fg_X9_34 (by decide +kernel : decode cX9_init 72 = .ok (.getfield 34, 3)) ((tu_ne e_c_n_9).trans ((gf_X2_init).trans ((tu_ne e_c_n_17).trans ((tu_ne e_c_n_9).trans ((gf_X2_init).trans ((tu_ne e_c_n_16).trans ((tu_ne e_c_n_9).trans ((gf_X2_init).trans ((tu_ne e_c_n_15).trans ((tu_ne e_c_n_9).trans ((gf_X2_init).trans ((tu_ne e_c_n_14).trans ((tu_ne e_c_n_9).trans ((gf_X2_init).trans ((tu_ne e_c_n_13).trans ((tu_ne e_c_n_9).trans ((gf_X2_init).trans ((tu_ne e_c_n_12).trans ((tu_ne e_c_n_9).trans ((gf_X2_init).trans ((tu_ne e_c_n_11).trans ((tu_ne e_c_n_9).trans ((gf_X2_init).trans ((tu_ne e_c_n_10).trans (tu_eq))))))))))))))))))))))))) rfl ?_
  refine pr_iload_n hC (by decide +kernel : decode cX9_init 75 = .ok (.iload_n 1, 1)) rfl ?_
  refine pg_new hC hR (n + 19) 19 182 rfl rfl rfl fn_X9_32 (by decide +kernel : decode cX9_init 76 = .ok (.new 32, 3)) (Nat.le_of_ble_eq_true rfl) (Nat.le_of_ble_eq_true rfl) ?_
  refine pr_dup hC (by decide +kernel : decode cX9_init 79 = .ok (.dup, 1)) rfl ?_
  refine pg_callN hC hE hR (n' := n + 19) 19 182 rfl rfl fq_X2 (by decide +kernel : decode cX9_init 80 = .ok (.invokespecial 38, 3)) (c_X2_init tu_eq (by omega)) rfl (Nat.le_of_ble_eq_true rfl) (Nat.le_of_ble_eq_true rfl) (Nat.le_of_ble_eq_true rfl) (Nat.le_of_ble_eq_true rfl) ?_
  refine pg_aast hC (by decide +kernel : decode cX9_init 83 = .ok (.aastore, 1)) ((gf_X2_init).trans ((tu_ne e_n_9_n_18).trans (tu_eq))) ((gf_X2_init).trans (tu_eq)) rfl rfl (vd_in rfl) ?_
  refine pg_iinc hC (9) (by decide +kernel : decode cX9_init 84 = .ok (.iinc 1 1, 3)) rfl (by decide) rfl rfl ?_
  refine pr_goto hC 65 (by decide +kernel : decode cX9_init 87 = .ok (.goto (-22), 3)) (by decide) ?_
  refine pr_iload_n hC (by decide +kernel : decode cX9_init 65 = .ok (.iload_n 1, 1)) rfl ?_
  refine pr_bipush hC (16) (by decide +kernel : decode cX9_init 66 = .ok (.bipush 16, 2)) rfl ?_
  refine pr_icmp_ge hC 90 (by decide +kernel : decode cX9_init 68 = .ok (.if_icmp .ge 22, 3)) (by decide) (fun q => absurd q (by decide)) (fun _ => ?_)
  refine pr_aload_n hC (by decide +kernel : decode cX9_init 71 = .ok (.aload_n 0, 1)) rfl ?_
  refine pg_get hC (v := .ref (b + (n + 9))) fg_X9_34 (by decide +kernel : decode cX9_init 72 = .ok (.getfield 34, 3)) ((tu_ne e_c_n_9).trans ((gf_X2_init).trans ((tu_ne e_c_n_18).trans ((tu_ne e_c_n_9).trans ((gf_X2_init).trans ((tu_ne e_c_n_17).trans ((tu_ne e_c_n_9).trans ((gf_X2_init).trans ((tu_ne e_c_n_16).trans ((tu_ne e_c_n_9).trans ((gf_X2_init).trans ((tu_ne e_c_n_15).trans ((tu_ne e_c_n_9).trans ((gf_X2_init).trans ((tu_ne e_c_n_14).trans ((tu_ne e_c_n_9).trans ((gf_X2_init).trans ((tu_ne e_c_n_13).trans ((tu_ne e_c_n_9).trans ((gf_X2_init).trans ((tu_ne e_c_n_12).trans ((tu_ne e_c_n_9).trans ((gf_X2_init).trans ((tu_ne e_c_n_11).trans ((tu_ne e_c_n_9).trans ((gf_X2_init).trans ((tu_ne e_c_n_10).trans (tu_eq)))))))))))))))))))))))))))) rfl ?_
  refine pr_iload_n hC (by decide +kernel : decode cX9_init 75 = .ok (.iload_n 1, 1)) rfl ?_
  refine pg_new hC hR (n + 20) 20 192 rfl rfl rfl fn_X9_32 (by decide +kernel : decode cX9_init 76 = .ok (.new 32, 3)) (Nat.le_of_ble_eq_true rfl) (Nat.le_of_ble_eq_true rfl) ?_
  refine pr_dup hC (by decide +kernel : decode cX9_init 79 = .ok (.dup, 1)) rfl ?_
  refine pg_callN hC hE hR (n' := n + 20) 20 192 rfl rfl fq_X2 (by decide +kernel : decode cX9_init 80 = .ok (.invokespecial 38, 3)) (c_X2_init tu_eq (by omega)) rfl (Nat.le_of_ble_eq_true rfl) (Nat.le_of_ble_eq_true rfl) (Nat.le_of_ble_eq_true rfl) (Nat.le_of_ble_eq_true rfl) ?_
  refine pg_aast hC (by decide +kernel : decode cX9_init 83 = .ok (.aastore, 1)) ((gf_X2_init).trans ((tu_ne e_n_9_n_19).trans (tu_eq))) ((gf_X2_init).trans (tu_eq)) rfl rfl (vd_in rfl) ?_
  refine pg_iinc hC (10) (by decide +kernel : decode cX9_init 84 = .ok (.iinc 1 1, 3)) rfl (by decide) rfl rfl ?_
  refine pr_goto hC 65 (by decide +kernel : decode cX9_init 87 = .ok (.goto (-22), 3)) (by decide) ?_
  refine pr_iload_n hC (by decide +kernel : decode cX9_init 65 = .ok (.iload_n 1, 1)) rfl ?_
  refine pr_bipush hC (16) (by decide +kernel : decode cX9_init 66 = .ok (.bipush 16, 2)) rfl ?_
  refine pr_icmp_ge hC 90 (by decide +kernel : decode cX9_init 68 = .ok (.if_icmp .ge 22, 3)) (by decide) (fun q => absurd q (by decide)) (fun _ => ?_)
  refine pr_aload_n hC (by decide +kernel : decode cX9_init 71 = .ok (.aload_n 0, 1)) rfl ?_
  refine pg_get hC (v := .ref (b + (n + 9))) fg_X9_34 (by decide +kernel : decode cX9_init 72 = .ok (.getfield 34, 3)) ((tu_ne e_c_n_9).trans ((gf_X2_init).trans ((tu_ne e_c_n_19).trans ((tu_ne e_c_n_9).trans ((gf_X2_init).trans ((tu_ne e_c_n_18).trans ((tu_ne e_c_n_9).trans ((gf_X2_init).trans ((tu_ne e_c_n_17).trans ((tu_ne e_c_n_9).trans ((gf_X2_init).trans ((tu_ne e_c_n_16).trans ((tu_ne e_c_n_9).trans ((gf_X2_init).trans ((tu_ne e_c_n_15).trans ((tu_ne e_c_n_9).trans ((gf_X2_init).trans ((tu_ne e_c_n_14).trans ((tu_ne e_c_n_9).trans ((gf_X2_init).trans ((tu_ne e_c_n_13).trans ((tu_ne e_c_n_9).trans ((gf_X2_init).trans ((tu_ne e_c_n_12).trans ((tu_ne e_c_n_9).trans ((gf_X2_init).trans ((tu_ne e_c_n_11).trans ((tu_ne e_c_n_9).trans ((gf_X2_init).trans ((tu_ne e_c_n_10).trans (tu_eq))))))))))))))))))))))))))))))) rfl ?_
  refine pr_iload_n hC (by decide +kernel : decode cX9_init 75 = .ok (.iload_n 1, 1)) rfl ?_
  refine pg_new hC hR (n + 21) 21 202 rfl rfl rfl fn_X9_32 (by decide +kernel : decode cX9_init 76 = .ok (.new 32, 3)) (Nat.le_of_ble_eq_true rfl) (Nat.le_of_ble_eq_true rfl) ?_
  refine pr_dup hC (by decide +kernel : decode cX9_init 79 = .ok (.dup, 1)) rfl ?_
  refine pg_callN hC hE hR (n' := n + 21) 21 202 rfl rfl fq_X2 (by decide +kernel : decode cX9_init 80 = .ok (.invokespecial 38, 3)) (c_X2_init tu_eq (by omega)) rfl (Nat.le_of_ble_eq_true rfl) (Nat.le_of_ble_eq_true rfl) (Nat.le_of_ble_eq_true rfl) (Nat.le_of_ble_eq_true rfl) ?_
  refine pg_aast hC (by decide +kernel : decode cX9_init 83 = .ok (.aastore, 1)) ((gf_X2_init).trans ((tu_ne e_n_9_n_20).trans (tu_eq))) ((gf_X2_init).trans (tu_eq)) rfl rfl (vd_in rfl) ?_
  refine pg_iinc hC (11) (by decide +kernel : decode cX9_init 84 = .ok (.iinc 1 1, 3)) rfl (by decide) rfl rfl ?_
  refine pr_goto hC 65 (by decide +kernel : decode cX9_init 87 = .ok (.goto (-22), 3)) (by decide) ?_
  refine pr_iload_n hC (by decide +kernel : decode cX9_init 65 = .ok (.iload_n 1, 1)) rfl ?_
  refine pr_bipush hC (16) (by decide +kernel : decode cX9_init 66 = .ok (.bipush 16, 2)) rfl ?_
  refine pr_icmp_ge hC 90 (by decide +kernel : decode cX9_init 68 = .ok (.if_icmp .ge 22, 3)) (by decide) (fun q => absurd q (by decide)) (fun _ => ?_)
  refine pr_aload_n hC (by decide +kernel : decode cX9_init 71 = .ok (.aload_n 0, 1)) rfl ?_
  refine pg_get hC (v := .ref (b + (n + 9))) fg_X9_34 (by decide +kernel : decode cX9_init 72 = .ok (.getfield 34, 3)) ((tu_ne e_c_n_9).trans ((gf_X2_init).trans ((tu_ne e_c_n_20).trans ((tu_ne e_c_n_9).trans ((gf_X2_init).trans ((tu_ne e_c_n_19).trans ((tu_ne e_c_n_9).trans ((gf_X2_init).trans ((tu_ne e_c_n_18).trans ((tu_ne e_c_n_9).trans ((gf_X2_init).trans ((tu_ne e_c_n_17).trans ((tu_ne e_c_n_9).trans ((gf_X2_init).trans ((tu_ne e_c_n_16).trans ((tu_ne e_c_n_9).trans ((gf_X2_init).trans ((tu_ne e_c_n_15).trans ((tu_ne e_c_n_9).trans ((gf_X2_init).trans ((tu_ne e_c_n_14).trans ((tu_ne e_c_n_9).trans ((gf_X2_init).trans ((tu_ne e_c_n_13).trans ((tu_ne e_c_n_9).trans ((gf_X2_init).trans ((tu_ne e_c_n_12).trans ((tu_ne e_c_n_9).trans ((gf_X2_init).trans ((tu_ne e_c_n_11).trans ((tu_ne e_c_n_9).trans ((gf_X2_init).trans ((tu_ne e_c_n_10).trans (tu_eq)))))))))))))))))))))))))))))))))) rfl ?_
  refine pr_iload_n hC (by decide +kernel : decode cX9_init 75 = .ok (.iload_n 1, 1)) rfl ?_
  refine pg_new hC hR (n + 22) 22 212 rfl rfl rfl fn_X9_32 (by decide +kernel : decode cX9_init 76 = .ok (.new 32, 3)) (Nat.le_of_ble_eq_true rfl) (Nat.le_of_ble_eq_true rfl) ?_
  refine pr_dup hC (by decide +kernel : decode cX9_init 79 = .ok (.dup, 1)) rfl ?_
  refine pg_callN hC hE hR (n' := n + 22) 22 212 rfl rfl fq_X2 (by decide +kernel : decode cX9_init 80 = .ok (.invokespecial 38, 3)) (c_X2_init tu_eq (by omega)) rfl (Nat.le_of_ble_eq_true rfl) (Nat.le_of_ble_eq_true rfl) (Nat.le_of_ble_eq_true rfl) (Nat.le_of_ble_eq_true rfl) ?_
  refine pg_aast hC (by decide +kernel : decode cX9_init 83 = .ok (.aastore, 1)) ((gf_X2_init).trans ((tu_ne e_n_9_n_21).trans (tu_eq))) ((gf_X2_init).trans (tu_eq)) rfl rfl (vd_in rfl) ?_
  refine pg_iinc hC (12) (by decide +kernel : decode cX9_init 84 = .ok (.iinc 1 1, 3)) rfl (by decide) rfl rfl ?_
  refine pr_goto hC 65 (by decide +kernel : decode cX9_init 87 = .ok (.goto (-22), 3)) (by decide) ?_
  refine pr_iload_n hC (by decide +kernel : decode cX9_init 65 = .ok (.iload_n 1, 1)) rfl ?_
  refine pr_bipush hC (16) (by decide +kernel : decode cX9_init 66 = .ok (.bipush 16, 2)) rfl ?_
  refine pr_icmp_ge hC 90 (by decide +kernel : decode cX9_init 68 = .ok (.if_icmp .ge 22, 3)) (by decide) (fun q => absurd q (by decide)) (fun _ => ?_)
  refine pr_aload_n hC (by decide +kernel : decode cX9_init 71 = .ok (.aload_n 0, 1)) rfl ?_
  refine pg_get hC (v := .ref (b + (n + 9))) fg_X9_34 (by decide +kernel : decode cX9_init 72 = .ok (.getfield 34, 3)) ((tu_ne e_c_n_9).trans ((gf_X2_init).trans ((tu_ne e_c_n_21).trans ((tu_ne e_c_n_9).trans ((gf_X2_init).trans ((tu_ne e_c_n_20).trans ((tu_ne e_c_n_9).trans ((gf_X2_init).trans ((tu_ne e_c_n_19).trans ((tu_ne e_c_n_9).trans ((gf_X2_init).trans ((tu_ne e_c_n_18).trans ((tu_ne e_c_n_9).trans ((gf_X2_init).trans ((tu_ne e_c_n_17).trans ((tu_ne e_c_n_9).trans ((gf_X2_init).trans ((tu_ne e_c_n_16).trans ((tu_ne e_c_n_9).trans ((gf_X2_init).trans ((tu_ne e_c_n_15).trans ((tu_ne e_c_n_9).trans ((gf_X2_init).trans ((tu_ne e_c_n_14).trans ((tu_ne e_c_n_9).trans ((gf_X2_init).trans ((tu_ne e_c_n_13).trans ((tu_ne e_c_n_9).trans ((gf_X2_init).trans ((tu_ne e_c_n_12).trans ((tu_ne e_c_n_9).trans ((gf_X2_init).trans ((tu_ne e_c_n_11).trans ((tu_ne e_c_n_9).trans ((gf_X2_init).trans ((tu_ne e_c_n_10).trans (tu_eq))))))))))))))))))))))))))))))))))))) rfl ?_
  refine pr_iload_n hC (by decide +kernel : decode cX9_init 75 = .ok (.iload_n 1, 1)) rfl ?_
  refine pg_new hC hR (n + 23) 23 222 rfl rfl rfl fn_X9_32 (by decide +kernel : decode cX9_init 76 = .ok (.new 32, 3)) (Nat.le_of_ble_eq_true rfl) (Nat.le_of_ble_eq_true rfl) ?_
  refine pr_dup hC (by decide +kernel : decode cX9_init 79 = .ok (.dup, 1)) rfl ?_
  refine pg_callN hC hE hR (n' := n + 23) 23 222 rfl rfl fq_X2 (by decide +kernel : decode cX9_init 80 = .ok (.invokespecial 38, 3)) (c_X2_init tu_eq (by omega)) rfl (Nat.le_of_ble_eq_true rfl) (Nat.le_of_ble_eq_true rfl) (Nat.le_of_ble_eq_true rfl) (Nat.le_of_ble_eq_true rfl) ?_
  refine pg_aast hC (by decide +kernel : decode cX9_init 83 = .ok (.aastore, 1)) ((gf_X2_init).trans ((tu_ne e_n_9_n_22).trans (tu_eq))) ((gf_X2_init).trans (tu_eq)) rfl rfl (vd_in rfl) ?_
  refine pg_iinc hC (13) (by decide +kernel : decode cX9_init 84 = .ok (.iinc 1 1, 3)) rfl (by decide) rfl rfl ?_
  refine pr_goto hC 65 (by decide +kernel : decode cX9_init 87 = .ok (.goto (-22), 3)) (by decide) ?_
  refine pr_iload_n hC (by decide +kernel : decode cX9_init 65 = .ok (.iload_n 1, 1)) rfl ?_
  refine pr_bipush hC (16) (by decide +kernel : decode cX9_init 66 = .ok (.bipush 16, 2)) rfl ?_
  refine pr_icmp_ge hC 90 (by decide +kernel : decode cX9_init 68 = .ok (.if_icmp .ge 22, 3)) (by decide) (fun q => absurd q (by decide)) (fun _ => ?_)
  refine pr_aload_n hC (by decide +kernel : decode cX9_init 71 = .ok (.aload_n 0, 1)) rfl ?_
  refine pg_get hC (v := .ref (b + (n + 9))) fg_X9_34 (by decide +kernel : decode cX9_init 72 = .ok (.getfield 34, 3)) ((tu_ne e_c_n_9).trans ((gf_X2_init).trans ((tu_ne e_c_n_22).trans ((tu_ne e_c_n_9).trans ((gf_X2_init).trans ((tu_ne e_c_n_21).trans ((tu_ne e_c_n_9).trans ((gf_X2_init).trans ((tu_ne e_c_n_20).trans ((tu_ne e_c_n_9).trans ((gf_X2_init).trans ((tu_ne e_c_n_19).trans ((tu_ne e_c_n_9).trans ((gf_X2_init).trans ((tu_ne e_c_n_18).trans ((tu_ne e_c_n_9).trans ((gf_X2_init).trans ((tu_ne e_c_n_17).trans ((tu_ne e_c_n_9).trans ((gf_X2_init).trans ((tu_ne e_c_n_16).trans ((tu_ne e_c_n_9).trans ((gf_X2_init).trans ((tu_ne e_c_n_15).trans ((tu_ne e_c_n_9).trans ((gf_X2_init).trans ((tu_ne e_c_n_14).trans ((tu_ne e_c_n_9).trans ((gf_X2_init).trans ((tu_ne e_c_n_13).trans ((tu_ne e_c_n_9).trans ((gf_X2_init).trans ((tu_ne e_c_n_12).trans ((tu_ne e_c_n_9).trans ((gf_X2_init).trans ((tu_ne e_c_n_11).trans ((tu_ne e_c_n_9).trans ((gf_X2_init).trans ((tu_ne e_c_n_10).trans (tu_eq)))))))))))))))))))))))))))))))))))))))) rfl ?_
  refine pr_iload_n hC (by decide +kernel : decode cX9_init 75 = .ok (.iload_n 1, 1)) rfl ?_
  refine pg_new hC hR (n + 24) 24 232 rfl rfl rfl fn_X9_32 (by decide +kernel : decode cX9_init 76 = .ok (.new 32, 3)) (Nat.le_of_ble_eq_true rfl) (Nat.le_of_ble_eq_true rfl) ?_
  refine pr_dup hC (by decide +kernel : decode cX9_init 79 = .ok (.dup, 1)) rfl ?_
  refine pg_callN hC hE hR (n' := n + 24) 24 232 rfl rfl fq_X2 (by decide +kernel : decode cX9_init 80 = .ok (.invokespecial 38, 3)) (c_X2_init tu_eq (by omega)) rfl (Nat.le_of_ble_eq_true rfl) (Nat.le_of_ble_eq_true rfl) (Nat.le_of_ble_eq_true rfl) (Nat.le_of_ble_eq_true rfl) ?_
  refine pg_aast hC (by decide +kernel : decode cX9_init 83 = .ok (.aastore, 1)) ((gf_X2_init).trans ((tu_ne e_n_9_n_23).trans (tu_eq))) ((gf_X2_init).trans (tu_eq)) rfl rfl (vd_in rfl) ?_
  refine pg_iinc hC (14) (by decide +kernel : decode cX9_init 84 = .ok (.iinc 1 1, 3)) rfl (by decide) rfl rfl ?_
  refine pr_goto hC 65 (by decide +kernel : decode cX9_init 87 = .ok (.goto (-22), 3)) (by decide) ?_
  refine pr_iload_n hC (by decide +kernel : decode cX9_init 65 = .ok (.iload_n 1, 1)) rfl ?_
  refine pr_bipush hC (16) (by decide +kernel : decode cX9_init 66 = .ok (.bipush 16, 2)) rfl ?_
  refine pr_icmp_ge hC 90 (by decide +kernel : decode cX9_init 68 = .ok (.if_icmp .ge 22, 3)) (by decide) (fun q => absurd q (by decide)) (fun _ => ?_)
  refine pr_aload_n hC (by decide +kernel : decode cX9_init 71 = .ok (.aload_n 0, 1)) rfl ?_
  refine pg_get hC (v := .ref (b + (n + 9))) fg_X9_34 (by decide +kernel : decode cX9_init 72 = .ok (.getfield 34, 3)) ((tu_ne e_c_n_9).trans ((gf_X2_init).trans ((tu_ne e_c_n_23).trans ((tu_ne e_c_n_9).trans ((gf_X2_init).trans ((tu_ne e_c_n_22).trans ((tu_ne e_c_n_9).trans ((gf_X2_init).trans ((tu_ne e_c_n_21).trans ((tu_ne e_c_n_9).trans ((gf_X2_init).trans ((tu_ne e_c_n_20).trans ((tu_ne e_c_n_9).trans ((gf_X2_init).trans ((tu_ne e_c_n_19).trans ((tu_ne e_c_n_9).trans ((gf_X2_init).trans ((tu_ne e_c_n_18).trans ((tu_ne e_c_n_9).trans ((gf_X2_init).trans ((tu_ne e_c_n_17).trans ((tu_ne e_c_n_9).trans ((gf_X2_init).trans ((tu_ne e_c_n_16).trans ((tu_ne e_c_n_9).trans ((gf_X2_init).trans ((tu_ne e_c_n_15).trans ((tu_ne e_c_n_9).trans ((gf_X2_init).trans ((tu_ne e_c_n_14).trans ((tu_ne e_c_n_9).trans ((gf_X2_init).trans ((tu_ne e_c_n_13).trans ((tu_ne e_c_n_9).trans ((gf_X2_init).trans ((tu_ne e_c_n_12).trans ((tu_ne e_c_n_9).trans ((gf_X2_init).trans ((tu_ne e_c_n_11).trans ((tu_ne e_c_n_9).trans ((gf_X2_init).trans ((tu_ne e_c_n_10).trans (tu_eq))))))))))))))))))))))))))))))))))))))))))) rfl ?_
  refine pr_iload_n hC (by decide +kernel : decode cX9_init 75 = .ok (.iload_n 1, 1)) rfl ?_
  refine pg_new hC hR (n + 25) 25 242 rfl rfl rfl fn_X9_32 (by decide +kernel : decode cX9_init 76 = .ok (.new 32, 3)) (Nat.le_of_ble_eq_true rfl) (Nat.le_of_ble_eq_true rfl) ?_
  refine pr_dup hC (by decide +kernel : decode cX9_init 79 = .ok (.dup, 1)) rfl ?_
  refine pg_callN hC hE hR (n' := n + 25) 25 242 rfl rfl fq_X2 (by decide +kernel : decode cX9_init 80 = .ok (.invokespecial 38, 3)) (c_X2_init tu_eq (by omega)) rfl (Nat.le_of_ble_eq_true rfl) (Nat.le_of_ble_eq_true rfl) (Nat.le_of_ble_eq_true rfl) (Nat.le_of_ble_eq_true rfl) ?_
  refine pg_aast hC (by decide +kernel : decode cX9_init 83 = .ok (.aastore, 1)) ((gf_X2_init).trans ((tu_ne e_n_9_n_24).trans (tu_eq))) ((gf_X2_init).trans (tu_eq)) rfl rfl (vd_in rfl) ?_
  refine pg_iinc hC (15) (by decide +kernel : decode cX9_init 84 = .ok (.iinc 1 1, 3)) rfl (by decide) rfl rfl ?_
  refine pr_goto hC 65 (by decide +kernel : decode cX9_init 87 = .ok (.goto (-22), 3)) (by decide) ?_
  refine pr_iload_n hC (by decide +kernel : decode cX9_init 65 = .ok (.iload_n 1, 1)) rfl ?_
  refine pr_bipush hC (16) (by decide +kernel : decode cX9_init 66 = .ok (.bipush 16, 2)) rfl ?_
  refine pr_icmp_ge hC 90 (by decide +kernel : decode cX9_init 68 = .ok (.if_icmp .ge 22, 3)) (by decide) (fun q => absurd q (by decide)) (fun _ => ?_)
  refine pr_aload_n hC (by decide +kernel : decode cX9_init 71 = .ok (.aload_n 0, 1)) rfl ?_
  refine pg_get hC (v := .ref (b + (n + 9))) fg_X9_34 (by decide +kernel : decode cX9_init 72 = .ok (.getfield 34, 3)) ((tu_ne e_c_n_9).trans ((gf_X2_init).trans ((tu_ne e_c_n_24).trans ((tu_ne e_c_n_9).trans ((gf_X2_init).trans ((tu_ne e_c_n_23).trans ((tu_ne e_c_n_9).trans ((gf_X2_init).trans ((tu_ne e_c_n_22).trans ((tu_ne e_c_n_9).trans ((gf_X2_init).trans ((tu_ne e_c_n_21).trans ((tu_ne e_c_n_9).trans ((gf_X2_init).trans ((tu_ne e_c_n_20).trans ((tu_ne e_c_n_9).trans ((gf_X2_init).trans ((tu_ne e_c_n_19).trans ((tu_ne e_c_n_9).trans ((gf_X2_init).trans ((tu_ne e_c_n_18).trans ((tu_ne e_c_n_9).trans ((gf_X2_init).trans ((tu_ne e_c_n_17).trans ((tu_ne e_c_n_9).trans ((gf_X2_init).trans ((tu_ne e_c_n_16).trans ((tu_ne e_c_n_9).trans ((gf_X2_init).trans ((tu_ne e_c_n_15).trans ((tu_ne e_c_n_9).trans ((gf_X2_init).trans ((tu_ne e_c_n_14).trans ((tu_ne e_c_n_9).trans ((gf_X2_init).trans ((tu_ne e_c_n_13).trans ((tu_ne e_c_n_9).trans ((gf_X2_init).trans ((tu_ne e_c_n_12).trans ((tu_ne e_c_n_9).trans ((gf_X2_init).trans ((tu_ne e_c_n_11).trans ((tu_ne e_c_n_9).trans ((gf_X2_init).trans ((tu_ne e_c_n_10).trans (tu_eq)))))))))))))))))))))))))))))))))))))))))))))) rfl ?_
  refine pr_iload_n hC (by decide +kernel : decode cX9_init 75 = .ok (.iload_n 1, 1)) rfl ?_
  refine pg_new hC hR (n + 26) 26 252 rfl rfl rfl fn_X9_32 (by decide +kernel : decode cX9_init 76 = .ok (.new 32, 3)) (Nat.le_of_ble_eq_true rfl) (Nat.le_of_ble_eq_true rfl) ?_
  refine pr_dup hC (by decide +kernel : decode cX9_init 79 = .ok (.dup, 1)) rfl ?_
  refine pg_callN hC hE hR (n' := n + 26) 26 252 rfl rfl fq_X2 (by decide +kernel : decode cX9_init 80 = .ok (.invokespecial 38, 3)) (c_X2_init tu_eq (by omega)) rfl (Nat.le_of_ble_eq_true rfl) (Nat.le_of_ble_eq_true rfl) (Nat.le_of_ble_eq_true rfl) (Nat.le_of_ble_eq_true rfl) ?_
  refine pg_aast hC (by decide +kernel : decode cX9_init 83 = .ok (.aastore, 1)) ((gf_X2_init).trans ((tu_ne e_n_9_n_25).trans (tu_eq))) ((gf_X2_init).trans (tu_eq)) rfl rfl (vd_in rfl) ?_
  refine pg_iinc hC (16) (by decide +kernel : decode cX9_init 84 = .ok (.iinc 1 1, 3)) rfl (by decide) rfl rfl ?_
  refine pr_goto hC 65 (by decide +kernel : decode cX9_init 87 = .ok (.goto (-22), 3)) (by decide) ?_
  refine pr_iload_n hC (by decide +kernel : decode cX9_init 65 = .ok (.iload_n 1, 1)) rfl ?_
  refine pr_bipush hC (16) (by decide +kernel : decode cX9_init 66 = .ok (.bipush 16, 2)) rfl ?_
  refine pr_icmp_ge hC 90 (by decide +kernel : decode cX9_init 68 = .ok (.if_icmp .ge 22, 3)) (by decide) (fun _ => ?_) (fun q => absurd (by decide) q)
  refine pr_aload_n hC (by decide +kernel : decode cX9_init 90 = .ok (.aload_n 0, 1)) rfl ?_
  refine pg_new hC hR (n + 27) 27 255 rfl rfl rfl fn_X9_39 (by decide +kernel : decode cX9_init 91 = .ok (.new 39, 3)) (Nat.le_of_ble_eq_true rfl) (Nat.le_of_ble_eq_true rfl) ?_
  refine pr_dup hC (by decide +kernel : decode cX9_init 94 = .ok (.dup, 1)) rfl ?_
  refine pg_callI hC hE hR [] (n' := n + 41) 41 339 rfl rfl fv_X9_41 (by decide +kernel : decode cX9_init 95 = .ok (.invokespecial 41, 3)) (c_X5_init tu_eq (by omega)) rfl rfl (Nat.le_of_ble_eq_true rfl) (Nat.le_of_ble_eq_true rfl) (Nat.le_of_ble_eq_true rfl) (Nat.le_of_ble_eq_true rfl) ?_
  refine pg_putF hC fp_X9_42 (by decide +kernel : decode cX9_init 98 = .ok (.putfield 42, 3)) hI ((gf_X5_init e_c_n_26 l_c_n_27).trans ((tu_ne e_c_n_26).trans ((tu_ne e_c_n_9).trans ((gf_X2_init).trans ((tu_ne e_c_n_25).trans ((tu_ne e_c_n_9).trans ((gf_X2_init).trans ((tu_ne e_c_n_24).trans ((tu_ne e_c_n_9).trans ((gf_X2_init).trans ((tu_ne e_c_n_23).trans ((tu_ne e_c_n_9).trans ((gf_X2_init).trans ((tu_ne e_c_n_22).trans ((tu_ne e_c_n_9).trans ((gf_X2_init).trans ((tu_ne e_c_n_21).trans ((tu_ne e_c_n_9).trans ((gf_X2_init).trans ((tu_ne e_c_n_20).trans ((tu_ne e_c_n_9).trans ((gf_X2_init).trans ((tu_ne e_c_n_19).trans ((tu_ne e_c_n_9).trans ((gf_X2_init).trans ((tu_ne e_c_n_18).trans ((tu_ne e_c_n_9).trans ((gf_X2_init).trans ((tu_ne e_c_n_17).trans ((tu_ne e_c_n_9).trans ((gf_X2_init).trans ((tu_ne e_c_n_16).trans ((tu_ne e_c_n_9).trans ((gf_X2_init).trans ((tu_ne e_c_n_15).trans ((tu_ne e_c_n_9).trans ((gf_X2_init).trans ((tu_ne e_c_n_14).trans ((tu_ne e_c_n_9).trans ((gf_X2_init).trans ((tu_ne e_c_n_13).trans ((tu_ne e_c_n_9).trans ((gf_X2_init).trans ((tu_ne e_c_n_12).trans ((tu_ne e_c_n_9).trans ((gf_X2_init).trans ((tu_ne e_c_n_11).trans ((tu_ne e_c_n_9).trans ((gf_X2_init).trans ((tu_ne e_c_n_10).trans (tu_eq))))))))))))))))))))))))))))))))))))))))))))))))))) rfl rfl ?_
  refine pr_aload_n hC (by decide +kernel : decode cX9_init 101 = .ok (.aload_n 0, 1)) rfl ?_
  refine pg_new hC hR (n + 42) 42 344 rfl rfl rfl fn_X9_46 (by decide +kernel : decode cX9_init 102 = .ok (.new 46, 3)) (Nat.le_of_ble_eq_true rfl) (Nat.le_of_ble_eq_true rfl) ?_
  refine pr_dup hC (by decide +kernel : decode cX9_init 105 = .ok (.dup, 1)) rfl ?_
  refine pg_callI hC hE hR [] (n' := n + 45) 45 1568 rfl rfl fv_X9_48 (by decide +kernel : decode cX9_init 106 = .ok (.invokespecial 48, 3)) (c_X3_init tu_eq (by omega)) rfl rfl (Nat.le_of_ble_eq_true rfl) (Nat.le_of_ble_eq_true rfl) (Nat.le_of_ble_eq_true rfl) (Nat.le_of_ble_eq_true rfl) ?_
  refine pg_putF hC fp_X9_49 (by decide +kernel : decode cX9_init 109 = .ok (.putfield 49, 3)) hI ((gf_X3_init e_c_n_41 l_c_n_42).trans ((tu_ne e_c_n_41).trans (tu_eq))) rfl rfl ?_
  refine pr_aload_n hC (by decide +kernel : decode cX9_init 112 = .ok (.aload_n 0, 1)) rfl ?_
  refine pr_bipush hC (16) (by decide +kernel : decode cX9_init 113 = .ok (.bipush 16, 2)) rfl ?_
  refine pg_newi hC hR 16 (n + 46) 46 1584 rfl rfl rfl fy_int (by decide +kernel : decode cX9_init 115 = .ok (.newarray .int, 2)) (by decide) rfl (Nat.le_of_ble_eq_true rfl) (Nat.le_of_ble_eq_true rfl) (Nat.le_of_ble_eq_true rfl) ?_
  refine pg_putF hC fp_X9_53 (by decide +kernel : decode cX9_init 117 = .ok (.putfield 53, 3)) hI ((tu_ne e_c_n_45).trans (tu_eq)) rfl rfl ?_
  refine pr_aload_n hC (by decide +kernel : decode cX9_init 120 = .ok (.aload_n 0, 1)) rfl ?_
  refine pr_bipush hC (7) (by decide +kernel : decode cX9_init 121 = .ok (.bipush 7, 2)) rfl ?_
  refine pg_newi hC hR 7 (n + 47) 47 1591 rfl rfl rfl fy_int (by decide +kernel : decode cX9_init 123 = .ok (.newarray .int, 2)) (by decide) rfl (Nat.le_of_ble_eq_true rfl) (Nat.le_of_ble_eq_true rfl) (Nat.le_of_ble_eq_true rfl) ?_
  refine pg_putF hC fp_X9_56 (by decide +kernel : decode cX9_init 125 = .ok (.putfield 56, 3)) hI ((tu_ne e_c_n_46).trans (tu_eq)) rfl rfl ?_
  refine pr_aload_n hC (by decide +kernel : decode cX9_init 128 = .ok (.aload_n 0, 1)) rfl ?_
  refine pr_bipush hC (6) (by decide +kernel : decode cX9_init 129 = .ok (.bipush 6, 2)) rfl ?_
  refine pg_newi hC hR 6 (n + 48) 48 1597 rfl rfl rfl fy_int (by decide +kernel : decode cX9_init 131 = .ok (.newarray .int, 2)) (by decide) rfl (Nat.le_of_ble_eq_true rfl) (Nat.le_of_ble_eq_true rfl) (Nat.le_of_ble_eq_true rfl) ?_
  refine pg_putF hC fp_X9_59 (by decide +kernel : decode cX9_init 133 = .ok (.putfield 59, 3)) hI ((tu_ne e_c_n_47).trans (tu_eq)) rfl rfl ?_
  refine pr_aload_n hC (by decide +kernel : decode cX9_init 136 = .ok (.aload_n 0, 1)) rfl ?_
  refine pr_bipush hC (10) (by decide +kernel : decode cX9_init 137 = .ok (.bipush 10, 2)) rfl ?_
  refine pg_put hC fp_X9_62 (by decide +kernel : decode cX9_init 139 = .ok (.putfield 62, 3)) tu_eq rfl rfl ?_
  refine pr_aload_n hC (by decide +kernel : decode cX9_init 142 = .ok (.aload_n 0, 1)) rfl ?_
  refine pr_iconst hC (3) (by decide +kernel : decode cX9_init 143 = .ok (.iconst 3, 1)) rfl ?_
  refine pg_put hC fp_X9_66 (by decide +kernel : decode cX9_init 144 = .ok (.putfield 66, 3)) tu_eq rfl rfl ?_
  exact pg_ret hM (by decide +kernel : decode cX9_init 147 = .ok (.return_, 1))
def F_X9_init (b : Nat) (c n : Nat) : Nat → Value := (va_up (va_up (va_up (va_up (va_up (va_up (va_up (va_up (va_up (va_up (va_up (va_up (va_up (va_up (dF 8) 0 (.ref (b + n))) 1 (.ref (b + (n + 4)))) 2 (.ref (b + (n + 5)))) 3 (.ref (b + (n + 6)))) 4 (.ref (b + (n + 7)))) 5 (.ref (b + (n + 8)))) 6 (.ref (b + (n + 9)))) 10 (.ref (b + (n + 26)))) 11 (.ref (b + (n + 41)))) 12 (.ref (b + (n + 45)))) 13 (.ref (b + (n + 46)))) 14 (.ref (b + (n + 47)))) 8 (.int 10)) 9 (.int 3))
theorem gv_X9_init {G : px_D} {b : Nat} {t : Nat → Option va_E} {c n : Nat} (hc : c < n) : g_X9_init G b t c n c = some (po 8 15 (F_X9_init b c n)) := by
  unfold g_X9_init F_X9_init
  exact tu_eq
theorem gf_X9_init {G : px_D} {b : Nat} {t : Nat → Option va_E} {c n : Nat} {a : Nat} (h1 : a ≠ c) (h2 : a < n) : g_X9_init G b t c n a = t a := by
  unfold g_X9_init
  have e_a_c : a ≠ c := by omega
  have e_a_n_47 : a ≠ n + 47 := by omega
  have e_a_n_46 : a ≠ n + 46 := by omega
  have e_a_n_45 : a ≠ n + 45 := by omega
  have e_a_n_41 : a ≠ n + 41 := by omega
  have l_a_n_42 : a < n + 42 := by omega
  have e_a_n_26 : a ≠ n + 26 := by omega
  have l_a_n_27 : a < n + 27 := by omega
  have e_a_n_9 : a ≠ n + 9 := by omega
  have e_a_n_25 : a ≠ n + 25 := by omega
  have e_a_n_24 : a ≠ n + 24 := by omega
  have e_a_n_23 : a ≠ n + 23 := by omega
  have e_a_n_22 : a ≠ n + 22 := by omega
  have e_a_n_21 : a ≠ n + 21 := by omega
  have e_a_n_20 : a ≠ n + 20 := by omega
  have e_a_n_19 : a ≠ n + 19 := by omega
  have e_a_n_18 : a ≠ n + 18 := by omega
  have e_a_n_17 : a ≠ n + 17 := by omega
  have e_a_n_16 : a ≠ n + 16 := by omega
  have e_a_n_15 : a ≠ n + 15 := by omega
  have e_a_n_14 : a ≠ n + 14 := by omega
  have e_a_n_13 : a ≠ n + 13 := by omega
  have e_a_n_12 : a ≠ n + 12 := by omega
  have e_a_n_11 : a ≠ n + 11 := by omega
  have e_a_n_10 : a ≠ n + 10 := by omega
  have e_a_n_8 : a ≠ n + 8 := by omega
  have e_a_n_7 : a ≠ n + 7 := by omega
  have e_a_n_6 : a ≠ n + 6 := by omega
  have e_a_n_5 : a ≠ n + 5 := by omega
  have e_a_n_4 : a ≠ n + 4 := by omega
  have f_a_n : a < n ∨ n + 3 < a := by omega
  exact ((tu_ne e_a_c).trans ((tu_ne e_a_c).trans ((tu_ne e_a_c).trans ((tu_ne e_a_n_47).trans ((tu_ne e_a_c).trans ((tu_ne e_a_n_46).trans ((tu_ne e_a_c).trans ((tu_ne e_a_n_45).trans ((tu_ne e_a_c).trans ((gf_X3_init e_a_n_41 l_a_n_42).trans ((tu_ne e_a_n_41).trans ((tu_ne e_a_c).trans ((gf_X5_init e_a_n_26 l_a_n_27).trans ((tu_ne e_a_n_26).trans ((tu_ne e_a_n_9).trans ((gf_X2_init).trans ((tu_ne e_a_n_25).trans ((tu_ne e_a_n_9).trans ((gf_X2_init).trans ((tu_ne e_a_n_24).trans ((tu_ne e_a_n_9).trans ((gf_X2_init).trans ((tu_ne e_a_n_23).trans ((tu_ne e_a_n_9).trans ((gf_X2_init).trans ((tu_ne e_a_n_22).trans ((tu_ne e_a_n_9).trans ((gf_X2_init).trans ((tu_ne e_a_n_21).trans ((tu_ne e_a_n_9).trans ((gf_X2_init).trans ((tu_ne e_a_n_20).trans ((tu_ne e_a_n_9).trans ((gf_X2_init).trans ((tu_ne e_a_n_19).trans ((tu_ne e_a_n_9).trans ((gf_X2_init).trans ((tu_ne e_a_n_18).trans ((tu_ne e_a_n_9).trans ((gf_X2_init).trans ((tu_ne e_a_n_17).trans ((tu_ne e_a_n_9).trans ((gf_X2_init).trans ((tu_ne e_a_n_16).trans ((tu_ne e_a_n_9).trans ((gf_X2_init).trans ((tu_ne e_a_n_15).trans ((tu_ne e_a_n_9).trans ((gf_X2_init).trans ((tu_ne e_a_n_14).trans ((tu_ne e_a_n_9).trans ((gf_X2_init).trans ((tu_ne e_a_n_13).trans ((tu_ne e_a_n_9).trans ((gf_X2_init).trans ((tu_ne e_a_n_12).trans ((tu_ne e_a_n_9).trans ((gf_X2_init).trans ((tu_ne e_a_n_11).trans ((tu_ne e_a_n_9).trans ((gf_X2_init).trans ((tu_ne e_a_n_10).trans ((tu_ne e_a_c).trans ((tu_ne e_a_n_9).trans ((tu_ne e_a_c).trans ((tu_ne e_a_n_8).trans ((tu_ne e_a_c).trans ((tu_ne e_a_n_7).trans ((tu_ne e_a_c).trans ((tu_ne e_a_n_6).trans ((tu_ne e_a_c).trans ((tu_ne e_a_n_5).trans ((tu_ne e_a_c).trans ((tu_ne e_a_n_4).trans ((tu_ne e_a_c).trans (tmu_ne f_a_n))))))))))))))))))))))))))))))))))))))))))))))))))))))))))))))))))))))))))))
theorem gr_X9_init {G : px_D} {b : Nat} {t : Nat → Option va_E} {c n : Nat} (hc : c < n) : g_X9_init G b t c n (n + 5) = some (pa_i G 10 (fun _ => 0)) := by
  unfold g_X9_init
  have e_n_5_c : n + 5 ≠ c := by omega
  have e_n_5_n_47 : n + 5 ≠ n + 47 := by omega
  have e_n_5_n_46 : n + 5 ≠ n + 46 := by omega
  have e_n_5_n_45 : n + 5 ≠ n + 45 := by omega
  have e_n_5_n_41 : n + 5 ≠ n + 41 := by omega
  have l_n_5_n_42 : n + 5 < n + 42 := by omega
  have e_n_5_n_26 : n + 5 ≠ n + 26 := by omega
  have l_n_5_n_27 : n + 5 < n + 27 := by omega
  have e_n_5_n_9 : n + 5 ≠ n + 9 := by omega
  have e_n_5_n_25 : n + 5 ≠ n + 25 := by omega
  have e_n_5_n_24 : n + 5 ≠ n + 24 := by omega
  have e_n_5_n_23 : n + 5 ≠ n + 23 := by omega
  have e_n_5_n_22 : n + 5 ≠ n + 22 := by omega
  have e_n_5_n_21 : n + 5 ≠ n + 21 := by omega
  have e_n_5_n_20 : n + 5 ≠ n + 20 := by omega
  have e_n_5_n_19 : n + 5 ≠ n + 19 := by omega
  have e_n_5_n_18 : n + 5 ≠ n + 18 := by omega
  have e_n_5_n_17 : n + 5 ≠ n + 17 := by omega
  have e_n_5_n_16 : n + 5 ≠ n + 16 := by omega
  have e_n_5_n_15 : n + 5 ≠ n + 15 := by omega
  have e_n_5_n_14 : n + 5 ≠ n + 14 := by omega
  have e_n_5_n_13 : n + 5 ≠ n + 13 := by omega
  have e_n_5_n_12 : n + 5 ≠ n + 12 := by omega
  have e_n_5_n_11 : n + 5 ≠ n + 11 := by omega
  have e_n_5_n_10 : n + 5 ≠ n + 10 := by omega
  have e_n_5_n_8 : n + 5 ≠ n + 8 := by omega
  have e_n_5_n_7 : n + 5 ≠ n + 7 := by omega
  have e_n_5_n_6 : n + 5 ≠ n + 6 := by omega
  exact ((tu_ne e_n_5_c).trans ((tu_ne e_n_5_c).trans ((tu_ne e_n_5_c).trans ((tu_ne e_n_5_n_47).trans ((tu_ne e_n_5_c).trans ((tu_ne e_n_5_n_46).trans ((tu_ne e_n_5_c).trans ((tu_ne e_n_5_n_45).trans ((tu_ne e_n_5_c).trans ((gf_X3_init e_n_5_n_41 l_n_5_n_42).trans ((tu_ne e_n_5_n_41).trans ((tu_ne e_n_5_c).trans ((gf_X5_init e_n_5_n_26 l_n_5_n_27).trans ((tu_ne e_n_5_n_26).trans ((tu_ne e_n_5_n_9).trans ((gf_X2_init).trans ((tu_ne e_n_5_n_25).trans ((tu_ne e_n_5_n_9).trans ((gf_X2_init).trans ((tu_ne e_n_5_n_24).trans ((tu_ne e_n_5_n_9).trans ((gf_X2_init).trans ((tu_ne e_n_5_n_23).trans ((tu_ne e_n_5_n_9).trans ((gf_X2_init).trans ((tu_ne e_n_5_n_22).trans ((tu_ne e_n_5_n_9).trans ((gf_X2_init).trans ((tu_ne e_n_5_n_21).trans ((tu_ne e_n_5_n_9).trans ((gf_X2_init).trans ((tu_ne e_n_5_n_20).trans ((tu_ne e_n_5_n_9).trans ((gf_X2_init).trans ((tu_ne e_n_5_n_19).trans ((tu_ne e_n_5_n_9).trans ((gf_X2_init).trans ((tu_ne e_n_5_n_18).trans ((tu_ne e_n_5_n_9).trans ((gf_X2_init).trans ((tu_ne e_n_5_n_17).trans ((tu_ne e_n_5_n_9).trans ((gf_X2_init).trans ((tu_ne e_n_5_n_16).trans ((tu_ne e_n_5_n_9).trans ((gf_X2_init).trans ((tu_ne e_n_5_n_15).trans ((tu_ne e_n_5_n_9).trans ((gf_X2_init).trans ((tu_ne e_n_5_n_14).trans ((tu_ne e_n_5_n_9).trans ((gf_X2_init).trans ((tu_ne e_n_5_n_13).trans ((tu_ne e_n_5_n_9).trans ((gf_X2_init).trans ((tu_ne e_n_5_n_12).trans ((tu_ne e_n_5_n_9).trans ((gf_X2_init).trans ((tu_ne e_n_5_n_11).trans ((tu_ne e_n_5_n_9).trans ((gf_X2_init).trans ((tu_ne e_n_5_n_10).trans ((tu_ne e_n_5_c).trans ((tu_ne e_n_5_n_9).trans ((tu_ne e_n_5_c).trans ((tu_ne e_n_5_n_8).trans ((tu_ne e_n_5_c).trans ((tu_ne e_n_5_n_7).trans ((tu_ne e_n_5_c).trans ((tu_ne e_n_5_n_6).trans ((tu_ne e_n_5_c).trans (tu_eq))))))))))))))))))))))))))))))))))))))))))))))))))))))))))))))))))))))))
