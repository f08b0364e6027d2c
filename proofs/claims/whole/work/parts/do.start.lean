/-! what holds at the start: what is only read, the classes, the words of a throw -/
abbrev nlF : List Cond := flatC (Cond.and given_1 narrow_1)
abbrev wT (j : Nat) : Term := .static "WhistleRoster$Word" (wnames.getD j "") "LWhistleRoster$Word;"
abbrev sT (i : Nat) : Term := .string "WhistleRosterModel" (stexts.getD i (0, "")).1
abbrev xT (i : Nat) : Term := .string "WhistleRoster" (xtexts.getD i (0, "")).1
abbrev aT : Term := .static "WhistleRoster$Word" "ALL" "[LWhistleRoster$Word;"
abbrev jT : Term := .static "WhistleRoster$1" "$SwitchMap$WhistleRoster$Word" "[I"
abbrev lT3 : Term := .static "WhistleRoster$Week" "LIMITS" "[I"
abbrev nF_w (j : Nat) : List Cond := [.exactly (wT j) "WhistleRoster$Word", .eq (.field (wT j) "java/lang/Enum" "ordinal" "I") (.int (Int32.ofNat j)), .eq (.field (wT j) "WhistleRoster$Word" "code" "I") (.int (wcode j)), .eq (.field (wT j) "WhistleRoster$Word" "asks" "I") (.int (wasks j))]
abbrev nF_e (j : Nat) : Cond := .eq (.elem aT (.int (Int32.ofNat j))) (wT j)
abbrev nF_j (j : Nat) : Cond := .eq (.elem jT (.int (Int32.ofNat j))) (.int (wjumps.getD j 0))
abbrev nF_l (j : Nat) : Cond := .eq (.elem lT3 (.int (Int32.ofNat j))) (.int (if j = 0 then 6 else if j = 1 then 8 else 10))
abbrev nF_b (i j : Nat) : Cond := .eq (.elem (.field (sT i) "java/lang/String" "value" "[B") (.int (Int32.ofNat j))) (.int ((sbyts.getD i []).getD j 0))
abbrev nF_s (i : Nat) : List Cond := [.exactly (sT i) "java/lang/String", .eq (.field (sT i) "java/lang/String" "coder" "B") (.int 0), .arrayOf (.field (sT i) "java/lang/String" "value" "[B") .byte, .eq (.length (.field (sT i) "java/lang/String" "value" "[B")) (.int (Int32.ofNat (slens.getD i 0)))] ++ (List.range (slens.getD i 0)).map (nF_b i)
abbrev nF_x (i : Nat) : Cond := .exactly (xT i) "java/lang/String"
def nW1 : List Nat := [4, 5, 7, 9, 10, 15, 11]
def nW2 : List Nat := [0, 1, 2, 3, 6, 8, 12, 13, 14, 16, 17, 18, 19, 20, 21, 22]
def nF : List (List Cond) := [[.arrayOf aT (.object "WhistleRoster$Word"), .eq (.length aT) (.int 23)], (List.range 23).map nF_e, [.arrayOf jT .int, .eq (.length jT) (.int 23)], (List.range 23).map nF_j, [.arrayOf lT3 .int, .eq (.length lT3) (.int 3)], (List.range 3).map nF_l, nW1.flatMap nF_w,
  [.isRef (.static "java/lang/Throwable" "UNASSIGNED_STACK" "[Ljava/lang/StackTraceElement;"), .isRef (.static "java/lang/Throwable" "SUPPRESSED_SENTINEL" "Ljava/util/List;"), .eq (.static "java/lang/String" "COMPACT_STRINGS" "Z") (.int 1), .isRef (.static "jdk/internal/util/Preconditions" "SIOOBE_FORMATTER" "Ljava/util/function/BiFunction;")],
  nW2.flatMap nF_w, [.not (.castable xI xN)], (List.range 4).map nF_x, (List.range 23).flatMap nF_s]
def isSub : List Cond → List Cond → Bool
  | [], _ => true
  | _ :: _, [] => false
  | a :: t, b :: u => if a = b then isSub t u else isSub (a :: t) u
theorem isSub_mem : ∀ (m l : List Cond), isSub l m = true → ∀ x ∈ l, x ∈ m
  | _, [], _, x, hx => absurd hx List.not_mem_nil
  | [], _ :: _, h, _, _ => by simp [isSub] at h
  | b :: u, a :: t, h, x, hx => by
    rw [isSub] at h
    by_cases e : a = b
    · rw [if_pos e] at h
      rcases List.mem_cons.mp hx with q | q
      · rw [q, e]
        exact List.mem_cons_self
      · exact List.mem_cons_of_mem _ (isSub_mem u t h x q)
    · rw [if_neg e] at h
      exact List.mem_cons_of_mem _ (isSub_mem u (a :: t) h x hx)
theorem nF_sub : isSub nF.flatten nlF = true := by decide +kernel
theorem nF_in (k : Nat) {l : List Cond} (h : nF[k]? = some l) : ∀ x ∈ l, x ∈ nlF := fun x hx => isSub_mem _ _ nF_sub x (List.mem_flatten.mpr ⟨l, List.mem_of_getElem? h, hx⟩)
theorem nW : ∀ j, j < 23 → j ∈ nW1 ∨ j ∈ nW2 := by decide +kernel
theorem nf_wl {j : Nat} (hj : j < 23) : ∀ x ∈ nF_w j, x ∈ nlF := fun x hx => by
  rcases nW j hj with q | q
  · exact nF_in 6 rfl x (List.mem_flatMap.mpr ⟨j, q, hx⟩)
  · exact nF_in 8 rfl x (List.mem_flatMap.mpr ⟨j, q, hx⟩)
theorem nf_w {j : Nat} (hj : j < 23) : Cond.exactly (wT j) "WhistleRoster$Word" ∈ nlF := nf_wl hj _ List.mem_cons_self
theorem nf_o {j : Nat} (hj : j < 23) : Cond.eq (.field (wT j) "java/lang/Enum" "ordinal" "I") (.int (Int32.ofNat j)) ∈ nlF := nf_wl hj _ (List.mem_cons_of_mem _ List.mem_cons_self)
theorem nf_c {j : Nat} (hj : j < 23) : Cond.eq (.field (wT j) "WhistleRoster$Word" "code" "I") (.int (wcode j)) ∈ nlF := nf_wl hj _ (List.mem_cons_of_mem _ (List.mem_cons_of_mem _ List.mem_cons_self))
theorem nf_a {j : Nat} (hj : j < 23) : Cond.eq (.field (wT j) "WhistleRoster$Word" "asks" "I") (.int (wasks j)) ∈ nlF := nf_wl hj _ (List.mem_cons_of_mem _ (List.mem_cons_of_mem _ (List.mem_cons_of_mem _ List.mem_cons_self)))
theorem nf_e {j : Nat} (hj : j < 23) : nF_e j ∈ nlF := nF_in 1 rfl _ (List.mem_map.mpr ⟨j, List.mem_range.mpr hj, rfl⟩)
theorem nf_j {j : Nat} (hj : j < 23) : nF_j j ∈ nlF := nF_in 3 rfl _ (List.mem_map.mpr ⟨j, List.mem_range.mpr hj, rfl⟩)
theorem nf_l {j : Nat} (hj : j < 3) : nF_l j ∈ nlF := nF_in 5 rfl _ (List.mem_map.mpr ⟨j, List.mem_range.mpr hj, rfl⟩)
theorem nf_sl {i : Nat} (hi : i < 23) : ∀ x ∈ nF_s i, x ∈ nlF := fun x hx => nF_in 11 rfl x (List.mem_flatMap.mpr ⟨i, List.mem_range.mpr hi, hx⟩)
theorem nf_s {i : Nat} (hi : i < 23) : Cond.exactly (sT i) "java/lang/String" ∈ nlF := nf_sl hi _ (List.mem_append_left _ List.mem_cons_self)
theorem nf_k {i : Nat} (hi : i < 23) : Cond.eq (.field (sT i) "java/lang/String" "coder" "B") (.int 0) ∈ nlF := nf_sl hi _ (List.mem_append_left _ (List.mem_cons_of_mem _ List.mem_cons_self))
theorem nf_r {i : Nat} (hi : i < 23) : Cond.arrayOf (.field (sT i) "java/lang/String" "value" "[B") .byte ∈ nlF := nf_sl hi _ (List.mem_append_left _ (List.mem_cons_of_mem _ (List.mem_cons_of_mem _ List.mem_cons_self)))
theorem nf_n {i : Nat} (hi : i < 23) : Cond.eq (.length (.field (sT i) "java/lang/String" "value" "[B")) (.int (Int32.ofNat (slens.getD i 0))) ∈ nlF := nf_sl hi _ (List.mem_append_left _ (List.mem_cons_of_mem _ (List.mem_cons_of_mem _ (List.mem_cons_of_mem _ List.mem_cons_self))))
theorem nf_b {i j : Nat} (hi : i < 23) (hj : j < slens.getD i 0) : nF_b i j ∈ nlF := nf_sl hi _ (List.mem_append_right _ (List.mem_map.mpr ⟨j, List.mem_range.mpr hj, rfl⟩))
theorem nf_x {i : Nat} (hi : i < 4) : nF_x i ∈ nlF := nF_in 10 rfl _ (List.mem_map.mpr ⟨i, List.mem_range.mpr hi, rfl⟩)
def wplc : List Nat := [2078, 2079, 2080, 2081, 651, 666, 2082, 684, 2083, 694, 696, 700, 2084, 2085, 2086, 698, 2087, 2088, 2089, 2090, 2091, 2092, 2093]
def splc : List Nat := [1524, 1604, 1605, 1606, 1607, 1608, 1609, 1610, 1611, 1612, 1613, 1614, 1615, 1616, 1617, 1618, 1619, 1620, 1621, 1622, 1623, 1624, 1625]
def xplc : List Nat := [1247, 1282, 1304, 1312]
theorem nw_w : ∀ j, j < 23 → lw_tbl[wplc.getD j 0]? = some (Cond.laysStatic "WhistleRoster$Word" (wnames.getD j "") "LWhistleRoster$Word;") := by decide +kernel
theorem nw_s : ∀ i, i < 23 → lw_tbl[splc.getD i 0]? = some (Cond.stringRef "WhistleRosterModel" (stexts.getD i (0, "")).1 (stexts.getD i (0, "")).2) := by decide +kernel
theorem nw_x : ∀ i, i < 4 → lw_tbl[xplc.getD i 0]? = some (Cond.stringRef "WhistleRoster" (xtexts.getD i (0, "")).1 (xtexts.getD i (0, "")).2) := by decide +kernel
