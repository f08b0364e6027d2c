/-! loops of constructors -/
def rw_ {α : Type} (z x : α) (i : Nat) : Nat → α := fun j => if j < i then x else z
theorem rw_0 {α : Type} {z x : α} : rw_ z x 0 = fun _ => z := by
  funext j
  exact if_neg (Nat.not_lt_zero j)
theorem rw_n {i : Nat} (h : i < 1000) : (Int32.ofNat i).toNatClampNeg = i := Int32.toNatClampNeg_ofNat_of_lt (by omega)
theorem rw_s {α : Type} {z x : α} {i : Nat} (h : i < 1000) : va_up (rw_ z x i) (Int32.ofNat i).toNatClampNeg x = rw_ z x (i + 1) := by
  rw [rw_n h]
  funext j
  unfold va_up rw_
  by_cases h1 : j = i
  · rw [if_pos h1, if_pos (by omega)]
  · rw [if_neg h1]
    by_cases h2 : j < i
    · rw [if_pos h2, if_pos (by omega)]
    · rw [if_neg h2, if_neg (by omega)]
theorem rw_up {α : Type} {z : α} {k : Nat} : va_up (fun _ => z) k z = fun _ => z := by
  funext j
  unfold va_up
  by_cases h1 : j = k
  · rw [if_pos h1]
  · rw [if_neg h1]
theorem rw_in {i n : Nat} (h : i < n) (h1 : n < 1000) : vp_in (Int32.ofNat i) n := by
  intro q
  rcases q with q | q
  · have q2 := Int32.lt_iff_toInt_lt.mp q
    rw [Int32.toInt_ofNat_of_lt (by omega)] at q2
    have q3 : (0 : Int32).toInt = 0 := rfl
    omega
  · rw [rw_n (by omega)] at q
    omega
theorem rw_le {i n : Nat} (hi : i < 1000) (hn : n < 1000) : (Int32.ofNat n ≤ Int32.ofNat i) ↔ n ≤ i := by
  rw [Int32.le_iff_toInt_le, Int32.toInt_ofNat_of_lt (by omega), Int32.toInt_ofNat_of_lt (by omega)]
  omega
theorem rw_1 {i : Nat} : Int32.ofNat i + Int32.ofInt 1 = Int32.ofNat (i + 1) := by
  rw [Int32.ofNat_add]
  rfl
theorem tu_id {t : Nat → Option va_E} {c : Nat} {e : va_E} (h : t c = some e) : tu t c e = t := by
  funext a
  unfold tu
  by_cases h1 : a = c
  · rw [if_pos h1, h1, h]
  · rw [if_neg h1]
theorem tu_1 {t : Nat → Option va_E} {p : Nat} {a a' : va_E} : tu (tu t p a) p a' = tu t p a' := by
  funext x
  unfold tu
  by_cases h1 : x = p
  · rw [if_pos h1, if_pos h1]
  · rw [if_neg h1, if_neg h1, if_neg h1]
theorem tu_2 {t : Nat → Option va_E} {p q : Nat} {a a' e e' : va_E} (h : p ≠ q) : tu (tu (tu (tu t p a) q e) p a') q e' = tu (tu t p a') q e' := by
  funext x
  unfold tu
  by_cases h1 : x = q
  · simp [h1]
  · by_cases h2 : x = p
    · simp [h1, h2]
    · simp [h1, h2]
section CL
variable {X : px_X} {G : px_D} {A : Nat → Prop} {Q : State → Prop} {h0 : pe_H} {b n nc ns : Nat} {t : Nat → Option va_E}
theorem lp_X6o_12 {sz c m : Nat} {F : Nat → Value} {w : Nat} (hC : px_C X G A cX6_open RX6 3) (ht : t c = some (po 5 10 F)) (hF2 : F 2 = .ref (b + m)) (hF3 : F 3 = .ref (b + (m + 1))) (h1 : c < m) (h2 : t m = some (pa_i G 48 (fun _ => 0))) (h3 : t (m + 1) = some (pa_i G 48 (fun _ => 0))) (kk : pw X G A Q 41 [some (.ref (b + c)), some (.ref (b + w)), some (.int 48)] [] (hT h0 b (tu (tu t m (pa_i G 48 (rw_ 0 (-1) 48))) (m + 1) (pa_i G 48 (rw_ 0 (-1) 48)))) sz nc ns) : pw X G A Q 12 [some (.ref (b + c)), some (.ref (b + w)), some (.int 0)] [] (hT h0 b t) sz nc ns := by
  have H : ∀ k i, i + k = 48 → pw X G A Q 12 [some (.ref (b + c)), some (.ref (b + w)), some (.int (Int32.ofNat i))] [] (hT h0 b (tu (tu t m (pa_i G 48 (rw_ 0 (-1) i))) (m + 1) (pa_i G 48 (rw_ 0 (-1) i)))) sz nc ns := by
    intro k
    have e1 : c ≠ m := by omega
    have e2 : c ≠ m + 1 := by omega
    have e3 : m ≠ m + 1 := by omega
    have e4 : m + 1 ≠ m := by omega
    induction k with
    | zero =>
      intro i hi
      have hi2 : i = 48 := by omega
      subst hi2
      refine pr_iload_n hC (by decide +kernel : decode cX6_open 12 = .ok (.iload_n 2, 1)) rfl ?_
      refine pr_aload_n hC (by decide +kernel : decode cX6_open 13 = .ok (.aload_n 0, 1)) rfl ?_
      refine pg_get hC (v := .ref (b + m)) fg_X6_9 (by decide +kernel : decode cX6_open 14 = .ok (.getfield 9, 3)) ((tu_ne e2).trans ((tu_ne e1).trans ht)) hF2 ?_
      refine pg_leni hC (v := 48) (by decide +kernel : decode cX6_open 17 = .ok (.arraylength, 1)) ((tu_ne e3).trans tu_eq) rfl ?_
      refine pr_icmp_ge hC 41 (by decide +kernel : decode cX6_open 18 = .ok (.if_icmp .ge 23, 3)) (by decide) (fun _ => kk) (fun q => absurd (by decide) q)
    | succ k ih =>
      intro i hi
      refine pr_iload_n hC (by decide +kernel : decode cX6_open 12 = .ok (.iload_n 2, 1)) rfl ?_
      refine pr_aload_n hC (by decide +kernel : decode cX6_open 13 = .ok (.aload_n 0, 1)) rfl ?_
      refine pg_get hC (v := .ref (b + m)) fg_X6_9 (by decide +kernel : decode cX6_open 14 = .ok (.getfield 9, 3)) ((tu_ne e2).trans ((tu_ne e1).trans ht)) hF2 ?_
      refine pg_leni hC (v := Int32.ofNat 48) (by decide +kernel : decode cX6_open 17 = .ok (.arraylength, 1)) ((tu_ne e3).trans tu_eq) rfl ?_
      refine pr_icmp_ge hC 41 (by decide +kernel : decode cX6_open 18 = .ok (.if_icmp .ge 23, 3)) (by decide) (fun q => absurd ((rw_le (by omega) (by omega)).mp q) (by omega)) (fun _ => ?_)
      refine pr_aload_n hC (by decide +kernel : decode cX6_open 21 = .ok (.aload_n 0, 1)) rfl ?_
      refine pg_get hC (v := .ref (b + m)) fg_X6_9 (by decide +kernel : decode cX6_open 22 = .ok (.getfield 9, 3)) ((tu_ne e2).trans ((tu_ne e1).trans ht)) hF2 ?_
      refine pr_iload_n hC (by decide +kernel : decode cX6_open 25 = .ok (.iload_n 2, 1)) rfl ?_
      refine pr_iconst hC (-1) (by decide +kernel : decode cX6_open 26 = .ok (.iconst (-1), 1)) rfl ?_
      refine pg_iast hC (by decide +kernel : decode cX6_open 27 = .ok (.iastore, 1)) ((tu_ne e3).trans tu_eq) (rw_in (by omega) (by omega)) ?_
      rw [rw_s (by omega)]
      refine pr_aload_n hC (by decide +kernel : decode cX6_open 28 = .ok (.aload_n 0, 1)) rfl ?_
      refine pg_get hC (v := .ref (b + (m + 1))) fg_X6_15 (by decide +kernel : decode cX6_open 29 = .ok (.getfield 15, 3)) ((tu_ne e1).trans ((tu_ne e2).trans ((tu_ne e1).trans ht))) hF3 ?_
      refine pr_iload_n hC (by decide +kernel : decode cX6_open 32 = .ok (.iload_n 2, 1)) rfl ?_
      refine pr_iconst hC (-1) (by decide +kernel : decode cX6_open 33 = .ok (.iconst (-1), 1)) rfl ?_
      refine pg_iast hC (by decide +kernel : decode cX6_open 34 = .ok (.iastore, 1)) ((tu_ne e4).trans tu_eq) (rw_in (by omega) (by omega)) ?_
      rw [rw_s (by omega), tu_2 e3]
      refine pg_iinc hC (Int32.ofNat (i + 1)) (by decide +kernel : decode cX6_open 35 = .ok (.iinc 2 1, 3)) rfl (by decide) rfl rw_1 ?_
      refine pr_goto hC 12 (by decide +kernel : decode cX6_open 38 = .ok (.goto (-26), 3)) (by decide) ?_
      exact ih (i + 1) (by omega)
  have H0 := H 48 0 rfl
  rw [rw_0, tu_id h2, tu_id h3] at H0
  exact H0
theorem lp_X6o_43 {sz c w ga m : Nat} {F FW : Nat → Value} (hC : px_C X G A cX6_open RX6 3) (ht : t c = some (po 5 10 F)) (hF0 : F 0 = .ref (b + w)) (hF4 : F 4 = .ref (b + (m + 2))) (hF5 : F 5 = .ref (b + (m + 3))) (hF6 : F 6 = .ref (b + (m + 4))) (hF7 : F 7 = .ref (b + (m + 5))) (hw : t w = some (po 8 15 FW)) (hW2 : FW 2 = .ref (b + ga)) (hga : t ga = some (pa_i G 10 (fun _ => 0))) (h1 : c < m) (h2 : w < m) (h3 : ga < m) (r2 : t (m + 2) = some (pa_i G 10 (fun _ => 0))) (r3 : t (m + 3) = some (pa_f G 10 (fun _ => 0))) (r4 : t (m + 4) = some (pa_i G 10 (fun _ => 0))) (r5 : t (m + 5) = some (pa_i G 10 (fun _ => 0))) (kk : pw X G A Q 95 [some (.ref (b + c)), some (.ref (b + w)), some (.int 10)] [] (hT h0 b (tu t (m + 3) (pa_f G 10 (rw_ 0 1112014848 10)))) sz nc ns) : pw X G A Q 43 [some (.ref (b + c)), some (.ref (b + w)), some (.int 0)] [] (hT h0 b t) sz nc ns := by
  have H : ∀ k i, i + k = 10 → pw X G A Q 43 [some (.ref (b + c)), some (.ref (b + w)), some (.int (Int32.ofNat i))] [] (hT h0 b (tu t (m + 3) (pa_f G 10 (rw_ 0 1112014848 i)))) sz nc ns := by
    intro k
    have ec : c ≠ m + 3 := by omega
    have ew : w ≠ m + 3 := by omega
    have ega : ga ≠ m + 3 := by omega
    have e2 : m + 2 ≠ m + 3 := by omega
    have e4 : m + 4 ≠ m + 3 := by omega
    have e5 : m + 5 ≠ m + 3 := by omega
    induction k with
    | zero =>
      intro i hi
      have hi2 : i = 10 := by omega
      subst hi2
      refine pr_iload_n hC (by decide +kernel : decode cX6_open 43 = .ok (.iload_n 2, 1)) rfl ?_
      refine pr_aload_n hC (by decide +kernel : decode cX6_open 44 = .ok (.aload_n 0, 1)) rfl ?_
      refine pg_get hC (v := .ref (b + (m + 2))) fg_X6_18 (by decide +kernel : decode cX6_open 45 = .ok (.getfield 18, 3)) ((tu_ne ec).trans ht) hF4 ?_
      refine pg_leni hC (v := 10) (by decide +kernel : decode cX6_open 48 = .ok (.arraylength, 1)) ((tu_ne e2).trans r2) rfl ?_
      refine pr_icmp_ge hC 95 (by decide +kernel : decode cX6_open 49 = .ok (.if_icmp .ge 46, 3)) (by decide) (fun _ => kk) (fun q => absurd (by decide) q)
    | succ k ih =>
      intro i hi
      refine pr_iload_n hC (by decide +kernel : decode cX6_open 43 = .ok (.iload_n 2, 1)) rfl ?_
      refine pr_aload_n hC (by decide +kernel : decode cX6_open 44 = .ok (.aload_n 0, 1)) rfl ?_
      refine pg_get hC (v := .ref (b + (m + 2))) fg_X6_18 (by decide +kernel : decode cX6_open 45 = .ok (.getfield 18, 3)) ((tu_ne ec).trans ht) hF4 ?_
      refine pg_leni hC (v := Int32.ofNat 10) (by decide +kernel : decode cX6_open 48 = .ok (.arraylength, 1)) ((tu_ne e2).trans r2) rfl ?_
      refine pr_icmp_ge hC 95 (by decide +kernel : decode cX6_open 49 = .ok (.if_icmp .ge 46, 3)) (by decide) (fun q => absurd ((rw_le (by omega) (by omega)).mp q) (by omega)) (fun _ => ?_)
      refine pr_aload_n hC (by decide +kernel : decode cX6_open 52 = .ok (.aload_n 0, 1)) rfl ?_
      refine pg_get hC (v := .ref (b + (m + 2))) fg_X6_18 (by decide +kernel : decode cX6_open 53 = .ok (.getfield 18, 3)) ((tu_ne ec).trans ht) hF4 ?_
      refine pr_iload_n hC (by decide +kernel : decode cX6_open 56 = .ok (.iload_n 2, 1)) rfl ?_
      refine pr_aload_n hC (by decide +kernel : decode cX6_open 57 = .ok (.aload_n 0, 1)) rfl ?_
      refine pg_get hC (v := .ref (b + w)) fg_X6_41 (by decide +kernel : decode cX6_open 58 = .ok (.getfield 41, 3)) ((tu_ne ec).trans ht) hF0 ?_
      refine pg_get hC (v := .ref (b + ga)) fg_X6_49 (by decide +kernel : decode cX6_open 61 = .ok (.getfield 49, 3)) ((tu_ne ew).trans hw) hW2 ?_
      refine pr_iload_n hC (by decide +kernel : decode cX6_open 64 = .ok (.iload_n 2, 1)) rfl ?_
      refine pg_iald hC (v := 0) (by decide +kernel : decode cX6_open 65 = .ok (.iaload, 1)) ((tu_ne ega).trans hga) (rw_in (by omega) (by omega)) rfl ?_
      refine pg_iast hC (by decide +kernel : decode cX6_open 66 = .ok (.iastore, 1)) ((tu_ne e2).trans r2) (rw_in (by omega) (by omega)) ?_
      rw [rw_up, tu_id ((tu_ne e2).trans r2)]
      refine pr_aload_n hC (by decide +kernel : decode cX6_open 67 = .ok (.aload_n 0, 1)) rfl ?_
      refine pg_get hC (v := .ref (b + (m + 3))) fg_X6_21 (by decide +kernel : decode cX6_open 68 = .ok (.getfield 21, 3)) ((tu_ne ec).trans ht) hF5 ?_
      refine pr_iload_n hC (by decide +kernel : decode cX6_open 71 = .ok (.iload_n 2, 1)) rfl ?_
      refine pr_ldcf hC (1112014848) (by decide +kernel : decode cX6_open 72 = .ok (.ldc 52, 2)) fk_X6_52 ?_
      refine pg_fast hC (by decide +kernel : decode cX6_open 74 = .ok (.fastore, 1)) tu_eq (rw_in (by omega) (by omega)) ?_
      rw [rw_s (by omega), tu_1]
      refine pr_aload_n hC (by decide +kernel : decode cX6_open 75 = .ok (.aload_n 0, 1)) rfl ?_
      refine pg_get hC (v := .ref (b + (m + 4))) fg_X6_25 (by decide +kernel : decode cX6_open 76 = .ok (.getfield 25, 3)) ((tu_ne ec).trans ht) hF6 ?_
      refine pr_iload_n hC (by decide +kernel : decode cX6_open 79 = .ok (.iload_n 2, 1)) rfl ?_
      refine pr_iconst hC (0) (by decide +kernel : decode cX6_open 80 = .ok (.iconst 0, 1)) rfl ?_
      refine pg_iast hC (by decide +kernel : decode cX6_open 81 = .ok (.iastore, 1)) ((tu_ne e4).trans r4) (rw_in (by omega) (by omega)) ?_
      rw [rw_up, tu_id ((tu_ne e4).trans r4)]
      refine pr_aload_n hC (by decide +kernel : decode cX6_open 82 = .ok (.aload_n 0, 1)) rfl ?_
      refine pg_get hC (v := .ref (b + (m + 5))) fg_X6_28 (by decide +kernel : decode cX6_open 83 = .ok (.getfield 28, 3)) ((tu_ne ec).trans ht) hF7 ?_
      refine pr_iload_n hC (by decide +kernel : decode cX6_open 86 = .ok (.iload_n 2, 1)) rfl ?_
      refine pr_iconst hC (0) (by decide +kernel : decode cX6_open 87 = .ok (.iconst 0, 1)) rfl ?_
      refine pg_iast hC (by decide +kernel : decode cX6_open 88 = .ok (.iastore, 1)) ((tu_ne e5).trans r5) (rw_in (by omega) (by omega)) ?_
      rw [rw_up, tu_id ((tu_ne e5).trans r5)]
      refine pg_iinc hC (Int32.ofNat (i + 1)) (by decide +kernel : decode cX6_open 89 = .ok (.iinc 2 1, 3)) rfl (by decide) rfl rw_1 ?_
      refine pr_goto hC 43 (by decide +kernel : decode cX6_open 92 = .ok (.goto (-49), 3)) (by decide) ?_
      exact ih (i + 1) (by omega)
  have H0 := H 10 0 rfl
  rw [rw_0, tu_id r3] at H0
  exact H0
theorem lp_X12i_347 {sz c p q : Nat} {F : Nat → Value} (hC : px_C X G A cX12_init RX12 2) (ht : t c = some (po 10 54 F)) (hF2 : F 30 = .ref (b + p)) (hF3 : F 31 = .ref (b + q)) (h1 : c < p) (h1q : p < q) (h2 : t p = some (pa_i G 48 (fun _ => 0))) (h3 : t q = some (pa_i G 48 (fun _ => 0))) (kk : pw X G A Q 373 [some (.ref (b + c)), some (.int 48)] [] (hT h0 b (tu (tu t p (pa_i G 48 (rw_ 0 (-1) 48))) q (pa_i G 48 (rw_ 0 (-1) 48)))) sz nc ns) : pw X G A Q 347 [some (.ref (b + c)), some (.int 0)] [] (hT h0 b t) sz nc ns := by
  have H : ∀ k i, i + k = 48 → pw X G A Q 347 [some (.ref (b + c)), some (.int (Int32.ofNat i))] [] (hT h0 b (tu (tu t p (pa_i G 48 (rw_ 0 (-1) i))) q (pa_i G 48 (rw_ 0 (-1) i)))) sz nc ns := by
    intro k
    have e1 : c ≠ p := by omega
    have e2 : c ≠ q := by omega
    have e3 : p ≠ q := by omega
    have e4 : q ≠ p := by omega
    induction k with
    | zero =>
      intro i hi
      have hi2 : i = 48 := by omega
      subst hi2
      refine pr_iload_n hC (by decide +kernel : decode cX12_init 347 = .ok (.iload_n 1, 1)) rfl ?_
      refine pr_bipush hC (48) (by decide +kernel : decode cX12_init 348 = .ok (.bipush 48, 2)) rfl ?_
      refine pr_icmp_ge hC 373 (by decide +kernel : decode cX12_init 350 = .ok (.if_icmp .ge 23, 3)) (by decide) (fun _ => kk) (fun q => absurd (by decide) q)
    | succ k ih =>
      intro i hi
      refine pr_iload_n hC (by decide +kernel : decode cX12_init 347 = .ok (.iload_n 1, 1)) rfl ?_
      refine pr_bipush hC (48) (by decide +kernel : decode cX12_init 348 = .ok (.bipush 48, 2)) rfl ?_
      refine pr_icmp_ge hC 373 (by decide +kernel : decode cX12_init 350 = .ok (.if_icmp .ge 23, 3)) (by decide) (fun q => absurd ((rw_le (n := 48) (by omega) (by omega)).mp q) (by omega)) (fun _ => ?_)
      refine pr_aload_n hC (by decide +kernel : decode cX12_init 353 = .ok (.aload_n 0, 1)) rfl ?_
      refine pg_get hC (v := .ref (b + p)) fg_X12_59 (by decide +kernel : decode cX12_init 354 = .ok (.getfield 59, 3)) ((tu_ne e2).trans ((tu_ne e1).trans ht)) hF2 ?_
      refine pr_iload_n hC (by decide +kernel : decode cX12_init 357 = .ok (.iload_n 1, 1)) rfl ?_
      refine pr_iconst hC (-1) (by decide +kernel : decode cX12_init 358 = .ok (.iconst (-1), 1)) rfl ?_
      refine pg_iast hC (by decide +kernel : decode cX12_init 359 = .ok (.iastore, 1)) ((tu_ne e3).trans tu_eq) (rw_in (by omega) (by omega)) ?_
      rw [rw_s (by omega)]
      refine pr_aload_n hC (by decide +kernel : decode cX12_init 360 = .ok (.aload_n 0, 1)) rfl ?_
      refine pg_get hC (v := .ref (b + q)) fg_X12_62 (by decide +kernel : decode cX12_init 361 = .ok (.getfield 62, 3)) ((tu_ne e1).trans ((tu_ne e2).trans ((tu_ne e1).trans ht))) hF3 ?_
      refine pr_iload_n hC (by decide +kernel : decode cX12_init 364 = .ok (.iload_n 1, 1)) rfl ?_
      refine pr_iconst hC (-1) (by decide +kernel : decode cX12_init 365 = .ok (.iconst (-1), 1)) rfl ?_
      refine pg_iast hC (by decide +kernel : decode cX12_init 366 = .ok (.iastore, 1)) ((tu_ne e4).trans tu_eq) (rw_in (by omega) (by omega)) ?_
      rw [rw_s (by omega), tu_2 e3]
      refine pg_iinc hC (Int32.ofNat (i + 1)) (by decide +kernel : decode cX12_init 367 = .ok (.iinc 1 1, 3)) rfl (by decide) rfl rw_1 ?_
      refine pr_goto hC 347 (by decide +kernel : decode cX12_init 370 = .ok (.goto (-23), 3)) (by decide) ?_
      exact ih (i + 1) (by omega)
  have H0 := H 48 0 rfl
  rw [rw_0, tu_id h2, tu_id h3] at H0
  exact H0
end CL
