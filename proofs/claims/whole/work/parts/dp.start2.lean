/-! what holds at the start: what is only read -/
section ST
variable {A0 : Array Value} {s : State}
theorem st_words (hgv : (Cond.and given_1 narrow_1).before A0 s = true) : ∃ fw : Nat → Nat, ∀ j, j < 23 → (wT j).eval A0 s none [] s = some (.ref (fw j)) ∧ va_O "WhistleRoster$Word" (fw j) (fun q : Nat => s.heap.size ≤ q) s s.heap := by
  have hs := flat_of_before _ hgv
  have h0 : ∀ j : Nat, ∃ a : Nat, j < 23 → (wT j).eval A0 s none [] s = some (.ref a) ∧ va_O "WhistleRoster$Word" a (fun q : Nat => s.heap.size ≤ q) s s.heap := by
    intro j
    by_cases hj : j < 23
    · obtain ⟨a, c, cell, k, q1, q2, q3, q4, q5, q6, -⟩ := Cond.exactly_spec (hs _ (nf_w hj))
      exact ⟨a, fun _ => ⟨q1, cell, q3, q5, by rw [q6]; exact q2, Nat.not_le.mpr (Array.getElem?_eq_some_iff.mp q3).1⟩⟩
    · exact ⟨0, fun h => absurd h hj⟩
  exact Classical.axiomOfChoice h0
theorem st_strs (hgv : (Cond.and given_1 narrow_1).before A0 s = true) : ∃ fs : Nat → Nat × Nat, ∀ i, i < 23 → (sT i).eval A0 s none [] s = some (.ref (fs i).1) ∧ va_O "java/lang/String" (fs i).1 (fun q : Nat => s.heap.size ≤ q) s s.heap ∧ va_OF "java/lang/String" "coder" "B" (.int 0) (fs i).1 (fun q : Nat => s.heap.size ≤ q) s s.heap ∧ va_OF "java/lang/String" "value" "[B" (.ref (fs i).2) (fs i).1 (fun q : Nat => s.heap.size ≤ q) s s.heap ∧ va_T .byte (fs i).2 (slens.getD i 0) (fun j => .int ((sbyts.getD i []).getD j 0)) (fun q : Nat => s.heap.size ≤ q) s s.heap := by
  have hs := flat_of_before _ hgv
  have hA : ∀ a : Nat, a < s.heap.size → ¬ (fun q : Nat => s.heap.size ≤ q) a := fun a h => Nat.not_le.mpr h
  have hN : ∀ i, i < 23 → slens.getD i 0 < 2 ^ 31 := by decide
  have h0 : ∀ i : Nat, ∃ q : Nat × Nat, i < 23 → (sT i).eval A0 s none [] s = some (.ref q.1) ∧ va_O "java/lang/String" q.1 (fun q : Nat => s.heap.size ≤ q) s s.heap ∧ va_OF "java/lang/String" "coder" "B" (.int 0) q.1 (fun q : Nat => s.heap.size ≤ q) s s.heap ∧ va_OF "java/lang/String" "value" "[B" (.ref q.2) q.1 (fun q : Nat => s.heap.size ≤ q) s s.heap ∧ va_T .byte q.2 (slens.getD i 0) (fun j => .int ((sbyts.getD i []).getD j 0)) (fun q : Nat => s.heap.size ≤ q) s s.heap := by
    intro i
    by_cases hi : i < 23
    · obtain ⟨a, c, cA, kA, q1, q2, q3, q4, q5, q6, -⟩ := Cond.exactly_spec (hs _ (nf_s hi))
      obtain ⟨t, ht, hT⟩ := va_Tof (f := fun j => .int ((sbyts.getD i []).getD j 0)) (A := fun q : Nat => s.heap.size ≤ q) (hN i hi) (hs _ (nf_r hi)) (va_eqt (hs _ (nf_n hi))) (fun j hj => va_eqt (hs _ (nf_b hi hj))) hA
      exact ⟨(a, t), fun _ => ⟨q1, ⟨cA, q3, q5, by rw [q6]; exact q2, hA a (Array.getElem?_eq_some_iff.mp q3).1⟩, vk_OFof q1 (va_eqt (hs _ (nf_k hi))) hA, vk_OFof q1 ht hA, hT⟩⟩
    · exact ⟨(0, 0), fun h => absurd h hi⟩
  exact Classical.axiomOfChoice h0
theorem st_xs (hgv : (Cond.and given_1 narrow_1).before A0 s = true) : ∃ fx : Nat → Nat, ∀ i, i < 4 → (xT i).eval A0 s none [] s = some (.ref (fx i)) := by
  have hs := flat_of_before _ hgv
  have h0 : ∀ i : Nat, ∃ a : Nat, i < 4 → (xT i).eval A0 s none [] s = some (.ref a) := by
    intro i
    by_cases hi : i < 4
    · obtain ⟨a, c, cell, k, q1, -⟩ := Cond.exactly_spec (hs _ (nf_x hi))
      exact ⟨a, fun _ => q1⟩
    · exact ⟨0, fun h => absurd h hi⟩
  exact Classical.axiomOfChoice h0
theorem st_RO (hts : ∀ w ∈ lw_tbl, w.before A0 s = true) (hgv : (Cond.and given_1 narrow_1).before A0 s = true) : ∃ K : Nat → Nat, pr_RO K (fun q : Nat => s.heap.size ≤ q) s s.heap := by
  have hs := flat_of_before _ hgv
  have hA : ∀ a : Nat, a < s.heap.size → ¬ (fun q : Nat => s.heap.size ≤ q) a := fun a h => Nat.not_le.mpr h
  have ht : ∀ {w : Cond} (i : Nat), lw_tbl[i]? = some w → w.before A0 s = true := fun i h => hts _ (List.mem_of_getElem? h)
  obtain ⟨fw, hfw⟩ := st_words hgv
  obtain ⟨fs, hfs⟩ := st_strs hgv
  obtain ⟨fx, hfx⟩ := st_xs hgv
  obtain ⟨tA, eA, TA⟩ := va_Tof (tm := aT) (N := 23) (f := fun j => .ref (fw j)) (A := fun q : Nat => s.heap.size ≤ q) (by decide) (hs _ (nF_in 0 rfl _ List.mem_cons_self)) (va_eqt (hs _ (nF_in 0 rfl _ (List.mem_cons_of_mem _ List.mem_cons_self)))) (fun j hj => va_eqv (hs _ (nf_e hj)) (hfw j hj).1) hA
  obtain ⟨tJ, eJ, TJ⟩ := va_Tof (tm := jT) (N := 23) (f := fun j => .int (wjumps.getD j 0)) (A := fun q : Nat => s.heap.size ≤ q) (by decide) (hs _ (nF_in 2 rfl _ List.mem_cons_self)) (va_eqt (hs _ (nF_in 2 rfl _ (List.mem_cons_of_mem _ List.mem_cons_self)))) (fun j hj => va_eqt (hs _ (nf_j hj))) hA
  obtain ⟨tL, eL, TL⟩ := va_Tof (tm := lT3) (N := 3) (f := fun j => .int (if j = 0 then 6 else if j = 1 then 8 else 10)) (A := fun q : Nat => s.heap.size ≤ q) (by decide) (hs _ (nF_in 4 rfl _ List.mem_cons_self)) (va_eqt (hs _ (nF_in 4 rfl _ (List.mem_cons_of_mem _ List.mem_cons_self)))) (fun j hj => va_eqt (hs _ (nf_l hj))) hA
  have hS0 := va_Zqof (A := fun q : Nat => s.heap.size ≤ q) (ht 1557 (by decide +kernel) : (Cond.laysStatic "jdk/internal/util/Preconditions" "SIOOBE_FORMATTER" "Ljava/util/function/BiFunction;").before A0 s = true) (ht 132 (by decide +kernel) : (Cond.initialized "jdk/internal/util/Preconditions").before A0 s = true) (hs _ (nF_in 7 rfl _ (List.mem_cons_of_mem _ (List.mem_cons_of_mem _ (List.mem_cons_of_mem _ List.mem_cons_self))))) hA
  obtain ⟨tS, nS, hS⟩ : ∃ tS nS : Nat, va_Z "jdk/internal/util/Preconditions" "SIOOBE_FORMATTER" "Ljava/util/function/BiFunction;" (if nS = 0 then .null else .ref tS) (fun q : Nat => s.heap.size ≤ q) s s.heap := by
    rcases hS0 with h | ⟨t, h⟩
    · exact ⟨0, 0, h⟩
    · exact ⟨t, 1, h⟩
  obtain ⟨K, k0, k1, k2, k3, k4, kw, ks, kx, kv⟩ : ∃ K : Nat → Nat, K 0 = tA ∧ K 1 = tJ ∧ K 2 = tL ∧ K 3 = tS ∧ K 4 = nS ∧ (∀ j, j < 23 → K (100 + j) = fw j) ∧ (∀ i, i < 23 → K (200 + i) = (fs i).1) ∧ (∀ i, i < 4 → K (223 + i) = fx i) ∧ ∀ i, i < 23 → K (300 + i) = (fs i).2 := by
    refine ⟨fun k => if k = 0 then tA else if k = 1 then tJ else if k = 2 then tL else if k = 3 then tS else if k = 4 then nS else if k < 200 then fw (k - 100) else if k < 223 then (fs (k - 200)).1 else if k < 300 then fx (k - 223) else (fs (k - 300)).2, rfl, rfl, rfl, rfl, rfl, fun j hj => ?_, fun j hj => ?_, fun j hj => ?_, fun j hj => ?_⟩
    · dsimp only
      rw [if_neg (by omega), if_neg (by omega), if_neg (by omega), if_neg (by omega), if_neg (by omega), if_pos (by omega), Nat.add_sub_cancel_left]
    · dsimp only
      rw [if_neg (by omega), if_neg (by omega), if_neg (by omega), if_neg (by omega), if_neg (by omega), if_neg (by omega), if_pos (by omega), Nat.add_sub_cancel_left]
    · dsimp only
      rw [if_neg (by omega), if_neg (by omega), if_neg (by omega), if_neg (by omega), if_neg (by omega), if_neg (by omega), if_neg (by omega), if_pos (by omega), Nat.add_sub_cancel_left]
    · dsimp only
      rw [if_neg (by omega), if_neg (by omega), if_neg (by omega), if_neg (by omega), if_neg (by omega), if_neg (by omega), if_neg (by omega), if_neg (by omega), Nat.add_sub_cancel_left]
  refine ⟨K, fun q hq => ?_, fun q hq => ?_, fun q hq => ?_, fun q hq => ?_, fun q hq => ?_⟩
  · rcases List.mem_append.mp hq with hq | hq
    · simp only [List.mem_cons, List.not_mem_nil, or_false] at hq
      rcases hq with rfl | rfl | rfl | rfl | rfl
      · show va_Z "WhistleRoster$Word" "ALL" "[LWhistleRoster$Word;" (.ref (K 0)) (fun q : Nat => s.heap.size ≤ q) s s.heap
        rw [k0]
        exact va_Zof (ht 598 (by decide +kernel)) (ht 128 (by decide +kernel)) eA hA
      · show va_Z "WhistleRoster$1" "$SwitchMap$WhistleRoster$Word" "[I" (.ref (K 1)) (fun q : Nat => s.heap.size ≤ q) s s.heap
        rw [k1]
        exact va_Zof (ht 605 (by decide +kernel)) (ht 129 (by decide +kernel)) eJ hA
      · show va_Z "WhistleRoster$Week" "LIMITS" "[I" (.ref (K 2)) (fun q : Nat => s.heap.size ≤ q) s s.heap
        rw [k2]
        exact va_Zof (ht 621 (by decide +kernel)) (ht 119 (by decide +kernel)) eL hA
      · show va_Z "java/lang/String" "COMPACT_STRINGS" "Z" (.int 1) (fun q : Nat => s.heap.size ≤ q) s s.heap
        exact va_Zof (ht 1538 (by decide +kernel)) (ht 130 (by decide +kernel)) (va_eqi (hs _ (nF_in 7 rfl _ (List.mem_cons_of_mem _ (List.mem_cons_of_mem _ List.mem_cons_self))))) hA
      · show va_Z "jdk/internal/util/Preconditions" "SIOOBE_FORMATTER" "Ljava/util/function/BiFunction;" (if K 4 = 0 then .null else .ref (K 3)) (fun q : Nat => s.heap.size ≤ q) s s.heap
        rw [k3, k4]
        exact hS
    · obtain ⟨j, hj, rfl⟩ := List.mem_map.mp hq
      have hj := List.mem_range.mp hj
      show va_Z "WhistleRoster$Word" (wnames.getD j "") "LWhistleRoster$Word;" (.ref (K (100 + j))) (fun q : Nat => s.heap.size ≤ q) s s.heap
      rw [kw j hj]
      exact va_Zof (ht _ (nw_w j hj)) (ht 128 (by decide +kernel)) (hfw j hj).1 hA
  · rcases List.mem_append.mp hq with hq | hq
    · simp only [List.mem_cons, List.not_mem_nil, or_false] at hq
      rcases hq with rfl | rfl | rfl
      · show va_T .int (K 2) 3 (fun j => .int (if j = 0 then 6 else if j = 1 then 8 else 10)) (fun q : Nat => s.heap.size ≤ q) s s.heap
        rw [k2]
        exact TL
      · show va_T (.object "WhistleRoster$Word") (K 0) 23 (fun j => .ref (K (100 + j))) (fun q : Nat => s.heap.size ≤ q) s s.heap
        rw [k0]
        obtain ⟨cell, c1, c2, c3, c4, c5, c6, c7⟩ := TA
        exact ⟨cell, c1, c2, c3, c4, c5, fun j hj => by
          show cell.slots[j]? = some (Value.ref (K (100 + j)))
          rw [kw j hj]
          exact c6 j hj, c7⟩
      · show va_T .int (K 1) 23 (fun j => .int (wjumps.getD j 0)) (fun q : Nat => s.heap.size ≤ q) s s.heap
        rw [k1]
        exact TJ
    · obtain ⟨i, hi, rfl⟩ := List.mem_map.mp hq
      have hi := List.mem_range.mp hi
      show va_T .byte (K (300 + i)) (slens.getD i 0) (fun j => .int ((sbyts.getD i []).getD j 0)) (fun q : Nat => s.heap.size ≤ q) s s.heap
      rw [kv i hi]
      exact (hfs i hi).2.2.2.2
  · rcases List.mem_append.mp hq with hq | hq
    · obtain ⟨j, hj, rfl⟩ := List.mem_map.mp hq
      have hj := List.mem_range.mp hj
      show va_OF "WhistleRoster$Word" "code" "I" (.int (wcode j)) (K (100 + j)) (fun q : Nat => s.heap.size ≤ q) s s.heap
      rw [kw j hj]
      exact vk_OFof (hfw j hj).1 (va_eqt (hs _ (nf_c hj))) hA
    rcases List.mem_append.mp hq with hq | hq
    · obtain ⟨j, hj, rfl⟩ := List.mem_map.mp hq
      have hj := List.mem_range.mp hj
      show va_OF "WhistleRoster$Word" "asks" "I" (.int (wasks j)) (K (100 + j)) (fun q : Nat => s.heap.size ≤ q) s s.heap
      rw [kw j hj]
      exact vk_OFof (hfw j hj).1 (va_eqt (hs _ (nf_a hj))) hA
    rcases List.mem_append.mp hq with hq | hq
    · obtain ⟨j, hj, rfl⟩ := List.mem_map.mp hq
      have hj := List.mem_range.mp hj
      show va_OF "java/lang/Enum" "ordinal" "I" (.int (Int32.ofNat j)) (K (100 + j)) (fun q : Nat => s.heap.size ≤ q) s s.heap
      rw [kw j hj]
      exact vk_OFof (hfw j hj).1 (va_eqt (hs _ (nf_o hj))) hA
    rcases List.mem_append.mp hq with hq | hq
    · obtain ⟨j, hj, rfl⟩ := List.mem_map.mp hq
      have hj := List.mem_range.mp hj
      show va_OF "java/lang/String" "coder" "B" (.int 0) (K (200 + j)) (fun q : Nat => s.heap.size ≤ q) s s.heap
      rw [ks j hj]
      exact (hfs j hj).2.2.1
    · obtain ⟨j, hj, rfl⟩ := List.mem_map.mp hq
      have hj := List.mem_range.mp hj
      show va_OF "java/lang/String" "value" "[B" (.ref (K (300 + j))) (K (200 + j)) (fun q : Nat => s.heap.size ≤ q) s s.heap
      rw [ks j hj, kv j hj]
      exact (hfs j hj).2.2.2.1
  · rcases List.mem_append.mp hq with hq | hq
    · obtain ⟨j, hj, rfl⟩ := List.mem_map.mp hq
      have hj := List.mem_range.mp hj
      show va_O "WhistleRoster$Word" (K (100 + j)) (fun q : Nat => s.heap.size ≤ q) s s.heap
      rw [kw j hj]
      exact (hfw j hj).2
    · obtain ⟨j, hj, rfl⟩ := List.mem_map.mp hq
      have hj := List.mem_range.mp hj
      show va_O "java/lang/String" (K (200 + j)) (fun q : Nat => s.heap.size ≤ q) s s.heap
      rw [ks j hj]
      exact (hfs j hj).2.1
  · rcases List.mem_append.mp hq with hq | hq
    · obtain ⟨j, hj, rfl⟩ := List.mem_map.mp hq
      have hj := List.mem_range.mp hj
      show vk_R "WhistleRosterModel" (stexts.getD j (0, "")).1 (stexts.getD j (0, "")).2 (K (200 + j)) s
      rw [ks j hj]
      exact vk_R.of (ht _ (nw_s j hj)) (hfs j hj).1
    · obtain ⟨j, hj, rfl⟩ := List.mem_map.mp hq
      have hj := List.mem_range.mp hj
      show vk_R "WhistleRoster" (xtexts.getD j (0, "")).1 (xtexts.getD j (0, "")).2 (K (223 + j)) s
      rw [kx j hj]
      exact vk_R.of (ht _ (nw_x j hj)) (hfx j hj)
theorem st_w (hts : ∀ w ∈ lw_tbl, w.before A0 s = true) (hgv : (Cond.and given_1 narrow_1).before A0 s = true) : px_w s := by
  have hs := flat_of_before _ hgv
  have ht : ∀ {w : Cond} (i : Nat), lw_tbl[i]? = some w → w.before A0 s = true := fun i h => hts _ (List.mem_of_getElem? h)
  refine ⟨fun w hw => va_Nw.of (A := A0) (xw_on w hw) ?_, va_Nc.of (hs _ (nF_in 9 rfl _ List.mem_cons_self))⟩
  simp only [xwL, List.mem_cons, List.not_mem_nil, or_false] at hw
  rcases hw with rfl | rfl | rfl | rfl | rfl
  · exact ht 1211 (by decide +kernel)
  · exact ht 1213 (by decide +kernel)
  · exact ht 1215 (by decide +kernel)
  · exact ht 1209 (by decide +kernel)
  · exact ht 1275 (by decide +kernel)
theorem st_z (hts : ∀ w ∈ lw_tbl, w.before A0 s = true) (hgv : (Cond.and given_1 narrow_1).before A0 s = true) : px_z (fun q : Nat => s.heap.size ≤ q) s s.heap := by
  have hs := flat_of_before _ hgv
  have hA : ∀ a : Nat, a < s.heap.size → ¬ (fun q : Nat => s.heap.size ≤ q) a := fun a h => Nat.not_le.mpr h
  have ht : ∀ {w : Cond} (i : Nat), lw_tbl[i]? = some w → w.before A0 s = true := fun i h => hts _ (List.mem_of_getElem? h)
  exact ⟨vx_Zqof (ht 1234 (by decide +kernel)) (ht 137 (by decide +kernel)) (hs _ (nF_in 7 rfl _ List.mem_cons_self)) hA, vx_Zqof (ht 1236 (by decide +kernel)) (ht 137 (by decide +kernel)) (hs _ (nF_in 7 rfl _ (List.mem_cons_of_mem _ List.mem_cons_self))) hA⟩
end ST
